def R_law : String := "JarGuessLaw"
def lw_P (b : Addr) (xs : List Int32) (args : Array Value) (s : State) : Prop := args = #[.ref b] ∧ s.IntsAt b xs ∧ xs.length ≤ 3072 ∧ (Jvm.Cond.and given_1 narrow_1).before args s = true
def lw_Q (_ : Array Value) (s : State) (o : Outcome) (t : State) : Prop := o = .returned (some (.int 1)) ∧ Framed s o t [] 600000 7302250
def lw_Z (below : List Frame) (a : Array Value) (s : State) : State → Prop := fun t => ∃ o, t.status = .running ∧ Ended t below o ∧ lw_Q a s o t
/-- the law's own end, with 1 on the stack, nothing written that was there before, its room as the claim has it -/
theorem lw_ret {p : Program} {l : Launch} {e : Env} {s : State} {m : MethodId} {below : List Frame} {meth : Method} {c : Code} {b : Nat} (hx : p.tables.exec = Jvm.exec) (hb : c.code = code) (hr : meth.sig.returnType = ret) (hlocks : meth.locks = false) {pc : Nat} {H : Heap} {ls : Array Slot} (hdg : decode code pc = .ok (.ireturn, 1)) : W p l e room_1 s m #[Value.ref b] below meth c H [] 600000 7302250 (lw_Z below #[Value.ref b] s) (F0 m pc ls [.int 1]) := by
  intro T hT X
  obtain ⟨fs, hret, hrun, hended, hW, hframe⟩ := X.leave (v := some (.int 1)) (hlocks := hlocks) (fun h => by rw [hr] at h; cases h)
  have hmeth' : T.vm.method? m = some meth := X.method'
  refine ⟨T.setFrames fs, ?_, .returned (some (.int 1)), hrun, hended, rfl, ⟨_, rfl⟩, hW, hframe⟩
  jvm_step X.here [X.here.top, hx, hb, hdg, hmeth', hr, ret, narrow_b1]
  (try refine ⟨rfl, ?_⟩); (try refine ⟨rfl, ?_⟩)
  first | (intro acts; rw [hret _ acts rfl rfl rfl]) | rw [hret _ _ rfl rfl rfl]
  exact Steps.refl _
/-- what holds at the law's entry: the machine, the code, the tables' words (any of lw_tbl by 'hts w (by decide +kernel)'), the script of L ints xs at the cell b, what the Statement gives of the start (any of its parts by flat_of_before) -/
def lw_At (p : Program) (s : State) (m : MethodId) (meth : Method) (c : Code) (b L : Nat) (xs : Nat → Int32) : Prop :=
  p.tables.exec = Jvm.exec ∧ c.code = code ∧ meth.sig.returnType = ret ∧ c.maxLocals = 4 ∧ s.vm.findClass R_law = some m.cls ∧ (∀ w ∈ lw_tbl, w.before #[Value.ref b] s = true) ∧ va_X b L xs s s.heap ∧ b < s.heap.size ∧ meth.locks = false ∧ (Jvm.Cond.and given_1 narrow_1).before #[Value.ref b] s = true
def lw_PP (b : Nat) : State → Array Value → List Frame → State → Prop := fun s args below t => args = #[Value.ref b] → lw_Z below args s t
abbrev ZL (g : gm_G) (nm : String) (pc : Nat) (lv : List (Nat × Value)) (st : List Value) (I : mI) (L : mL) (c : gm_cfg) : Prop := gm_XG g RL nm code 4 ret room_1 (lw_PP (gm_ad g 2501)) 74 5353 pc lv st (SH, I, L, RR c)
/-- the law's end -/
theorem gl_ret {g : gm_G} {nm : String} {pc : Nat} {lv : List (Nat × Value)} {I : mI} {L : mL} {c : gm_cfg} (hd : decode code pc = .ok (.ireturn, 1)) (hc : SH.length = 74) : ZL g nm pc lv [.int 1] I L c := by
  intro p e s m args below meth c0 H locs ls C hP hz hS hl
  by_cases ha : args = #[Value.ref (gm_ad g 2501)]
  · subst ha
    have hb : s.heap.size = gm_bs g := by
      have h2 : s.heap.size + 74 = gm_bs g + SH.length := hz
      rw [hc] at h2
      omega
    refine va_forget (fun q hq => by have := hS.2.2 q hq; rw [hb]; exact this) ?_
    refine W.widen (k := 600000) (n := 7302250) (Nat.le_of_ble_eq_true rfl) (Nat.le_of_ble_eq_true rfl) ?_
    intro T hT X
    obtain ⟨t, a1, b1⟩ := lw_ret C.1 C.2.1 C.2.2.2.2.2.1 C.2.2.2.2.2.2.1 (pc := pc) (ls := ls) hd T hT X
    exact ⟨t, a1, fun _ => b1⟩
  · intro T hT X
    exact ⟨_, Steps.refl _, fun q => absurd q ha⟩
set_option maxRecDepth 100000 in
theorem r_law_18 {g : gm_G} {nm : String} {x3 : Int32} {I : mI} {L : mL} {c : gm_cfg} (h : ((((nI (gN g)) - 6) < x3 → True) ∧ (¬ ((nI (gN g)) - 6) < x3 → (vp_in x3 (gN g) ∧ ((((gS g x3) &&& 63) = 0 → ZL g nm 232 [(0, .ref 2501), (1, .ref 0), (2, .ref 59), (3, .int x3)] [] I L c) ∧ (¬ ((gS g x3) &&& 63) = 0 → ((((gS g x3) &&& 63) = 1 → ZL g nm 295 [(0, .ref 2501), (1, .ref 0), (2, .ref 59), (3, .int x3)] [] I L c) ∧ (¬ ((gS g x3) &&& 63) = 1 → ((((gS g x3) &&& 63) = 2 → ZL g nm 318 [(0, .ref 2501), (1, .ref 0), (2, .ref 59), (3, .int x3)] [] I L c) ∧ (¬ ((gS g x3) &&& 63) = 2 → ((((gS g x3) &&& 63) = 3 → ZL g nm 341 [(0, .ref 2501), (1, .ref 0), (2, .ref 59), (3, .int x3)] [] I L c) ∧ (¬ ((gS g x3) &&& 63) = 3 → ((((gS g x3) &&& 63) = 4 → ZL g nm 374 [(0, .ref 2501), (1, .ref 0), (2, .ref 59), (3, .int x3)] [] I L c) ∧ (¬ ((gS g x3) &&& 63) = 4 → ((((gS g x3) &&& 63) = 5 → ZL g nm 407 [(0, .ref 2501), (1, .ref 0), (2, .ref 59), (3, .int x3)] [] I L c) ∧ (¬ ((gS g x3) &&& 63) = 5 → ((((gS g x3) &&& 63) = 6 → ZL g nm 430 [(0, .ref 2501), (1, .ref 0), (2, .ref 59), (3, .int x3)] [] I L c) ∧ (¬ ((gS g x3) &&& 63) = 6 → ((((gS g x3) &&& 63) = 7 → ZL g nm 453 [(0, .ref 2501), (1, .ref 0), (2, .ref 59), (3, .int x3)] [] I L c) ∧ (¬ ((gS g x3) &&& 63) = 7 → ((((gS g x3) &&& 63) = 8 → ZL g nm 486 [(0, .ref 2501), (1, .ref 0), (2, .ref 59), (3, .int x3)] [] I L c) ∧ (¬ ((gS g x3) &&& 63) = 8 → ((((gS g x3) &&& 63) = 9 → ZL g nm 509 [(0, .ref 2501), (1, .ref 0), (2, .ref 59), (3, .int x3)] [] I L c) ∧ (¬ ((gS g x3) &&& 63) = 9 → ((((gS g x3) &&& 63) = 10 → ZL g nm 542 [(0, .ref 2501), (1, .ref 0), (2, .ref 59), (3, .int x3)] [] I L c) ∧ (¬ ((gS g x3) &&& 63) = 10 → ((((gS g x3) &&& 63) = 11 → ZL g nm 575 [(0, .ref 2501), (1, .ref 0), (2, .ref 59), (3, .int x3)] [] I L c) ∧ (¬ ((gS g x3) &&& 63) = 11 → ((((gS g x3) &&& 63) = 12 → ZL g nm 598 [(0, .ref 2501), (1, .ref 0), (2, .ref 59), (3, .int x3)] [] I L c) ∧ (¬ ((gS g x3) &&& 63) = 12 → ((((gS g x3) &&& 63) = 13 → ZL g nm 631 [(0, .ref 2501), (1, .ref 0), (2, .ref 59), (3, .int x3)] [] I L c) ∧ (¬ ((gS g x3) &&& 63) = 13 → ((((gS g x3) &&& 63) = 14 → ZL g nm 654 [(0, .ref 2501), (1, .ref 0), (2, .ref 59), (3, .int x3)] [] I L c) ∧ (¬ ((gS g x3) &&& 63) = 14 → ((((gS g x3) &&& 63) = 15 → ZL g nm 667 [(0, .ref 2501), (1, .ref 0), (2, .ref 59), (3, .int x3)] [] I L c) ∧ (¬ ((gS g x3) &&& 63) = 15 → ((((gS g x3) &&& 63) = 16 → ZL g nm 700 [(0, .ref 2501), (1, .ref 0), (2, .ref 59), (3, .int x3)] [] I L c) ∧ (¬ ((gS g x3) &&& 63) = 16 → ((((gS g x3) &&& 63) = 17 → ZL g nm 723 [(0, .ref 2501), (1, .ref 0), (2, .ref 59), (3, .int x3)] [] I L c) ∧ (¬ ((gS g x3) &&& 63) = 17 → ((((gS g x3) &&& 63) = 18 → ZL g nm 736 [(0, .ref 2501), (1, .ref 0), (2, .ref 59), (3, .int x3)] [] I L c) ∧ (¬ ((gS g x3) &&& 63) = 18 → ((((gS g x3) &&& 63) = 19 → ZL g nm 770 [(0, .ref 2501), (1, .ref 0), (2, .ref 59), (3, .int x3)] [] I L c) ∧ (¬ ((gS g x3) &&& 63) = 19 → ((((gS g x3) &&& 63) = 20 → ZL g nm 794 [(0, .ref 2501), (1, .ref 0), (2, .ref 59), (3, .int x3)] [] I L c) ∧ (¬ ((gS g x3) &&& 63) = 20 → ((((gS g x3) &&& 63) = 21 → ZL g nm 817 [(0, .ref 2501), (1, .ref 0), (2, .ref 59), (3, .int x3)] [] I L c) ∧ (¬ ((gS g x3) &&& 63) = 21 → ((((gS g x3) &&& 63) = 22 → ZL g nm 850 [(0, .ref 2501), (1, .ref 0), (2, .ref 59), (3, .int x3)] [] I L c) ∧ (¬ ((gS g x3) &&& 63) = 22 → ((((gS g x3) &&& 63) = 23 → ZL g nm 884 [(0, .ref 2501), (1, .ref 0), (2, .ref 59), (3, .int x3)] [] I L c) ∧ (¬ ((gS g x3) &&& 63) = 23 → ((((gS g x3) &&& 63) = 24 → ZL g nm 918 [(0, .ref 2501), (1, .ref 0), (2, .ref 59), (3, .int x3)] [] I L c) ∧ (¬ ((gS g x3) &&& 63) = 24 → ((((gS g x3) &&& 63) = 25 → ZL g nm 941 [(0, .ref 2501), (1, .ref 0), (2, .ref 59), (3, .int x3)] [] I L c) ∧ (¬ ((gS g x3) &&& 63) = 25 → ((((gS g x3) &&& 63) = 26 → ZL g nm 975 [(0, .ref 2501), (1, .ref 0), (2, .ref 59), (3, .int x3)] [] I L c) ∧ (¬ ((gS g x3) &&& 63) = 26 → ((((gS g x3) &&& 63) = 27 → ZL g nm 1009 [(0, .ref 2501), (1, .ref 0), (2, .ref 59), (3, .int x3)] [] I L c) ∧ (¬ ((gS g x3) &&& 63) = 27 → ((((gS g x3) &&& 63) = 28 → ZL g nm 1043 [(0, .ref 2501), (1, .ref 0), (2, .ref 59), (3, .int x3)] [] I L c) ∧ (¬ ((gS g x3) &&& 63) = 28 → ((((gS g x3) &&& 63) = 29 → ZL g nm 1077 [(0, .ref 2501), (1, .ref 0), (2, .ref 59), (3, .int x3)] [] I L c) ∧ (¬ ((gS g x3) &&& 63) = 29 → ((((gS g x3) &&& 63) = 30 → ZL g nm 1111 [(0, .ref 2501), (1, .ref 0), (2, .ref 59), (3, .int x3)] [] I L c) ∧ (¬ ((gS g x3) &&& 63) = 30 → ((((gS g x3) &&& 63) = 31 → ZL g nm 1145 [(0, .ref 2501), (1, .ref 0), (2, .ref 59), (3, .int x3)] [] I L c) ∧ (¬ ((gS g x3) &&& 63) = 31 → ((((gS g x3) &&& 63) = 32 → ZL g nm 1179 [(0, .ref 2501), (1, .ref 0), (2, .ref 59), (3, .int x3)] [] I L c) ∧ (¬ ((gS g x3) &&& 63) = 32 → ((((gS g x3) &&& 63) = 33 → ZL g nm 1213 [(0, .ref 2501), (1, .ref 0), (2, .ref 59), (3, .int x3)] [] I L c) ∧ (¬ ((gS g x3) &&& 63) = 33 → ((((gS g x3) &&& 63) = 34 → ZL g nm 1236 [(0, .ref 2501), (1, .ref 0), (2, .ref 59), (3, .int x3)] [] I L c) ∧ (¬ ((gS g x3) &&& 63) = 34 → ((((gS g x3) &&& 63) = 35 → ZL g nm 1269 [(0, .ref 2501), (1, .ref 0), (2, .ref 59), (3, .int x3)] [] I L c) ∧ (¬ ((gS g x3) &&& 63) = 35 → ((((gS g x3) &&& 63) = 36 → ZL g nm 1313 [(0, .ref 2501), (1, .ref 0), (2, .ref 59), (3, .int x3)] [] I L c) ∧ (¬ ((gS g x3) &&& 63) = 36 → ((((gS g x3) &&& 63) = 37 → ZL g nm 1356 [(0, .ref 2501), (1, .ref 0), (2, .ref 59), (3, .int x3)] [] I L c) ∧ (¬ ((gS g x3) &&& 63) = 37 → ((((gS g x3) &&& 63) = 38 → ZL g nm 1435 [(0, .ref 2501), (1, .ref 0), (2, .ref 59), (3, .int x3)] [] I L c) ∧ (¬ ((gS g x3) &&& 63) = 38 → ((((gS g x3) &&& 63) = 39 → ZL g nm 1478 [(0, .ref 2501), (1, .ref 0), (2, .ref 59), (3, .int x3)] [] I L c) ∧ (¬ ((gS g x3) &&& 63) = 39 → ((((gS g x3) &&& 63) = 40 → ZL g nm 1521 [(0, .ref 2501), (1, .ref 0), (2, .ref 59), (3, .int x3)] [] I L c) ∧ (¬ ((gS g x3) &&& 63) = 40 → ((((gS g x3) &&& 63) = 41 → ZL g nm 1564 [(0, .ref 2501), (1, .ref 0), (2, .ref 59), (3, .int x3)] [] I L c) ∧ (¬ ((gS g x3) &&& 63) = 41 → ((((gS g x3) &&& 63) = 42 → ZL g nm 1638 [(0, .ref 2501), (1, .ref 0), (2, .ref 59), (3, .int x3)] [] I L c) ∧ (¬ ((gS g x3) &&& 63) = 42 → ((((gS g x3) &&& 63) = 43 → ZL g nm 1661 [(0, .ref 2501), (1, .ref 0), (2, .ref 59), (3, .int x3)] [] I L c) ∧ (¬ ((gS g x3) &&& 63) = 43 → ((((gS g x3) &&& 63) = 44 → ZL g nm 1684 [(0, .ref 2501), (1, .ref 0), (2, .ref 59), (3, .int x3)] [] I L c) ∧ (¬ ((gS g x3) &&& 63) = 44 → ((((gS g x3) &&& 63) = 45 → ZL g nm 1707 [(0, .ref 2501), (1, .ref 0), (2, .ref 59), (3, .int x3)] [] I L c) ∧ (¬ ((gS g x3) &&& 63) = 45 → ZL g nm 1730 [(0, .ref 2501), (1, .ref 0), (2, .ref 59), (3, .int x3)] [] I L c)))))))))))))))))))))))))))))))))))))))))))))))))))))))))))))))))))))))))))))))))))))))))))))))) : ZL g nm 18 [(0, .ref 2501), (1, .ref 0), (2, .ref 59), (3, .int x3)] [] I L c := by
  refine gx_iload_n 3 dL_law_18 rfl rfl ?_
  refine gx_aload_n 0 dL_law_19 rfl rfl ?_
  refine gx_sln dL_law_20 ?_
  refine gx_bipush (v := 6) dL_law_21 (by decide) ?_
  refine gx_isub dL_law_23 ?_
  refine gx_icmp_gt 1736 dL_law_24 (by decide) ⟨fun z => ?_, fun z => ?_⟩
  · replace h := h.1 z
    refine gx_iconst (v := 1) dL_law_1736 (by decide) ?_
    exact gl_ret dL_law_1737 rfl
  · replace h := h.2 z
    refine gx_aload_n 0 dL_law_27 rfl rfl ?_
    refine gx_iload_n 3 dL_law_28 rfl rfl ?_
    obtain ⟨hi, h⟩ := h
    refine gx_sld dL_law_29 hi ?_
    refine gx_bipush (v := 63) dL_law_30 (by decide) ?_
    refine gx_iand dL_law_32 ?_
    refine gx_tsw [(0, 232), (1, 295), (2, 318), (3, 341), (4, 374), (5, 407), (6, 430), (7, 453), (8, 486), (9, 509), (10, 542), (11, 575), (12, 598), (13, 631), (14, 654), (15, 667), (16, 700), (17, 723), (18, 736), (19, 770), (20, 794), (21, 817), (22, 850), (23, 884), (24, 918), (25, 941), (26, 975), (27, 1009), (28, 1043), (29, 1077), (30, 1111), (31, 1145), (32, 1179), (33, 1213), (34, 1236), (35, 1269), (36, 1313), (37, 1356), (38, 1435), (39, 1478), (40, 1521), (41, 1564), (42, 1638), (43, 1661), (44, 1684), (45, 1707)] 1730 dL_law_33 (by decide +kernel) ?_
    refine ⟨fun z => ?_, fun z => ?_⟩
    · replace h := h.1 z
      show ZL g nm 232 [(0, .ref 2501), (1, .ref 0), (2, .ref 59), (3, .int x3)] [] I L c
      exact h
    · replace h := h.2 z
      refine ⟨fun z => ?_, fun z => ?_⟩
      · replace h := h.1 z
        show ZL g nm 295 [(0, .ref 2501), (1, .ref 0), (2, .ref 59), (3, .int x3)] [] I L c
        exact h
      · replace h := h.2 z
        refine ⟨fun z => ?_, fun z => ?_⟩
        · replace h := h.1 z
          show ZL g nm 318 [(0, .ref 2501), (1, .ref 0), (2, .ref 59), (3, .int x3)] [] I L c
          exact h
        · replace h := h.2 z
          refine ⟨fun z => ?_, fun z => ?_⟩
          · replace h := h.1 z
            show ZL g nm 341 [(0, .ref 2501), (1, .ref 0), (2, .ref 59), (3, .int x3)] [] I L c
            exact h
          · replace h := h.2 z
            refine ⟨fun z => ?_, fun z => ?_⟩
            · replace h := h.1 z
              show ZL g nm 374 [(0, .ref 2501), (1, .ref 0), (2, .ref 59), (3, .int x3)] [] I L c
              exact h
            · replace h := h.2 z
              refine ⟨fun z => ?_, fun z => ?_⟩
              · replace h := h.1 z
                show ZL g nm 407 [(0, .ref 2501), (1, .ref 0), (2, .ref 59), (3, .int x3)] [] I L c
                exact h
              · replace h := h.2 z
                refine ⟨fun z => ?_, fun z => ?_⟩
                · replace h := h.1 z
                  show ZL g nm 430 [(0, .ref 2501), (1, .ref 0), (2, .ref 59), (3, .int x3)] [] I L c
                  exact h
                · replace h := h.2 z
                  refine ⟨fun z => ?_, fun z => ?_⟩
                  · replace h := h.1 z
                    show ZL g nm 453 [(0, .ref 2501), (1, .ref 0), (2, .ref 59), (3, .int x3)] [] I L c
                    exact h
                  · replace h := h.2 z
                    refine ⟨fun z => ?_, fun z => ?_⟩
                    · replace h := h.1 z
                      show ZL g nm 486 [(0, .ref 2501), (1, .ref 0), (2, .ref 59), (3, .int x3)] [] I L c
                      exact h
                    · replace h := h.2 z
                      refine ⟨fun z => ?_, fun z => ?_⟩
                      · replace h := h.1 z
                        show ZL g nm 509 [(0, .ref 2501), (1, .ref 0), (2, .ref 59), (3, .int x3)] [] I L c
                        exact h
                      · replace h := h.2 z
                        refine ⟨fun z => ?_, fun z => ?_⟩
                        · replace h := h.1 z
                          show ZL g nm 542 [(0, .ref 2501), (1, .ref 0), (2, .ref 59), (3, .int x3)] [] I L c
                          exact h
                        · replace h := h.2 z
                          refine ⟨fun z => ?_, fun z => ?_⟩
                          · replace h := h.1 z
                            show ZL g nm 575 [(0, .ref 2501), (1, .ref 0), (2, .ref 59), (3, .int x3)] [] I L c
                            exact h
                          · replace h := h.2 z
                            refine ⟨fun z => ?_, fun z => ?_⟩
                            · replace h := h.1 z
                              show ZL g nm 598 [(0, .ref 2501), (1, .ref 0), (2, .ref 59), (3, .int x3)] [] I L c
                              exact h
                            · replace h := h.2 z
                              refine ⟨fun z => ?_, fun z => ?_⟩
                              · replace h := h.1 z
                                show ZL g nm 631 [(0, .ref 2501), (1, .ref 0), (2, .ref 59), (3, .int x3)] [] I L c
                                exact h
                              · replace h := h.2 z
                                refine ⟨fun z => ?_, fun z => ?_⟩
                                · replace h := h.1 z
                                  show ZL g nm 654 [(0, .ref 2501), (1, .ref 0), (2, .ref 59), (3, .int x3)] [] I L c
                                  exact h
                                · replace h := h.2 z
                                  refine ⟨fun z => ?_, fun z => ?_⟩
                                  · replace h := h.1 z
                                    show ZL g nm 667 [(0, .ref 2501), (1, .ref 0), (2, .ref 59), (3, .int x3)] [] I L c
                                    exact h
                                  · replace h := h.2 z
                                    refine ⟨fun z => ?_, fun z => ?_⟩
                                    · replace h := h.1 z
                                      show ZL g nm 700 [(0, .ref 2501), (1, .ref 0), (2, .ref 59), (3, .int x3)] [] I L c
                                      exact h
                                    · replace h := h.2 z
                                      refine ⟨fun z => ?_, fun z => ?_⟩
                                      · replace h := h.1 z
                                        show ZL g nm 723 [(0, .ref 2501), (1, .ref 0), (2, .ref 59), (3, .int x3)] [] I L c
                                        exact h
                                      · replace h := h.2 z
                                        refine ⟨fun z => ?_, fun z => ?_⟩
                                        · replace h := h.1 z
                                          show ZL g nm 736 [(0, .ref 2501), (1, .ref 0), (2, .ref 59), (3, .int x3)] [] I L c
                                          exact h
                                        · replace h := h.2 z
                                          refine ⟨fun z => ?_, fun z => ?_⟩
                                          · replace h := h.1 z
                                            show ZL g nm 770 [(0, .ref 2501), (1, .ref 0), (2, .ref 59), (3, .int x3)] [] I L c
                                            exact h
                                          · replace h := h.2 z
                                            refine ⟨fun z => ?_, fun z => ?_⟩
                                            · replace h := h.1 z
                                              show ZL g nm 794 [(0, .ref 2501), (1, .ref 0), (2, .ref 59), (3, .int x3)] [] I L c
                                              exact h
                                            · replace h := h.2 z
                                              refine ⟨fun z => ?_, fun z => ?_⟩
                                              · replace h := h.1 z
                                                show ZL g nm 817 [(0, .ref 2501), (1, .ref 0), (2, .ref 59), (3, .int x3)] [] I L c
                                                exact h
                                              · replace h := h.2 z
                                                refine ⟨fun z => ?_, fun z => ?_⟩
                                                · replace h := h.1 z
                                                  show ZL g nm 850 [(0, .ref 2501), (1, .ref 0), (2, .ref 59), (3, .int x3)] [] I L c
                                                  exact h
                                                · replace h := h.2 z
                                                  refine ⟨fun z => ?_, fun z => ?_⟩
                                                  · replace h := h.1 z
                                                    show ZL g nm 884 [(0, .ref 2501), (1, .ref 0), (2, .ref 59), (3, .int x3)] [] I L c
                                                    exact h
                                                  · replace h := h.2 z
                                                    refine ⟨fun z => ?_, fun z => ?_⟩
                                                    · replace h := h.1 z
                                                      show ZL g nm 918 [(0, .ref 2501), (1, .ref 0), (2, .ref 59), (3, .int x3)] [] I L c
                                                      exact h
                                                    · replace h := h.2 z
                                                      refine ⟨fun z => ?_, fun z => ?_⟩
                                                      · replace h := h.1 z
                                                        show ZL g nm 941 [(0, .ref 2501), (1, .ref 0), (2, .ref 59), (3, .int x3)] [] I L c
                                                        exact h
                                                      · replace h := h.2 z
                                                        refine ⟨fun z => ?_, fun z => ?_⟩
                                                        · replace h := h.1 z
                                                          show ZL g nm 975 [(0, .ref 2501), (1, .ref 0), (2, .ref 59), (3, .int x3)] [] I L c
                                                          exact h
                                                        · replace h := h.2 z
                                                          refine ⟨fun z => ?_, fun z => ?_⟩
                                                          · replace h := h.1 z
                                                            show ZL g nm 1009 [(0, .ref 2501), (1, .ref 0), (2, .ref 59), (3, .int x3)] [] I L c
                                                            exact h
                                                          · replace h := h.2 z
                                                            refine ⟨fun z => ?_, fun z => ?_⟩
                                                            · replace h := h.1 z
                                                              show ZL g nm 1043 [(0, .ref 2501), (1, .ref 0), (2, .ref 59), (3, .int x3)] [] I L c
                                                              exact h
                                                            · replace h := h.2 z
                                                              refine ⟨fun z => ?_, fun z => ?_⟩
                                                              · replace h := h.1 z
                                                                show ZL g nm 1077 [(0, .ref 2501), (1, .ref 0), (2, .ref 59), (3, .int x3)] [] I L c
                                                                exact h
                                                              · replace h := h.2 z
                                                                refine ⟨fun z => ?_, fun z => ?_⟩
                                                                · replace h := h.1 z
                                                                  show ZL g nm 1111 [(0, .ref 2501), (1, .ref 0), (2, .ref 59), (3, .int x3)] [] I L c
                                                                  exact h
                                                                · replace h := h.2 z
                                                                  refine ⟨fun z => ?_, fun z => ?_⟩
                                                                  · replace h := h.1 z
                                                                    show ZL g nm 1145 [(0, .ref 2501), (1, .ref 0), (2, .ref 59), (3, .int x3)] [] I L c
                                                                    exact h
                                                                  · replace h := h.2 z
                                                                    refine ⟨fun z => ?_, fun z => ?_⟩
                                                                    · replace h := h.1 z
                                                                      show ZL g nm 1179 [(0, .ref 2501), (1, .ref 0), (2, .ref 59), (3, .int x3)] [] I L c
                                                                      exact h
                                                                    · replace h := h.2 z
                                                                      refine ⟨fun z => ?_, fun z => ?_⟩
                                                                      · replace h := h.1 z
                                                                        show ZL g nm 1213 [(0, .ref 2501), (1, .ref 0), (2, .ref 59), (3, .int x3)] [] I L c
                                                                        exact h
                                                                      · replace h := h.2 z
                                                                        refine ⟨fun z => ?_, fun z => ?_⟩
                                                                        · replace h := h.1 z
                                                                          show ZL g nm 1236 [(0, .ref 2501), (1, .ref 0), (2, .ref 59), (3, .int x3)] [] I L c
                                                                          exact h
                                                                        · replace h := h.2 z
                                                                          refine ⟨fun z => ?_, fun z => ?_⟩
                                                                          · replace h := h.1 z
                                                                            show ZL g nm 1269 [(0, .ref 2501), (1, .ref 0), (2, .ref 59), (3, .int x3)] [] I L c
                                                                            exact h
                                                                          · replace h := h.2 z
                                                                            refine ⟨fun z => ?_, fun z => ?_⟩
                                                                            · replace h := h.1 z
                                                                              show ZL g nm 1313 [(0, .ref 2501), (1, .ref 0), (2, .ref 59), (3, .int x3)] [] I L c
                                                                              exact h
                                                                            · replace h := h.2 z
                                                                              refine ⟨fun z => ?_, fun z => ?_⟩
                                                                              · replace h := h.1 z
                                                                                show ZL g nm 1356 [(0, .ref 2501), (1, .ref 0), (2, .ref 59), (3, .int x3)] [] I L c
                                                                                exact h
                                                                              · replace h := h.2 z
                                                                                refine ⟨fun z => ?_, fun z => ?_⟩
                                                                                · replace h := h.1 z
                                                                                  show ZL g nm 1435 [(0, .ref 2501), (1, .ref 0), (2, .ref 59), (3, .int x3)] [] I L c
                                                                                  exact h
                                                                                · replace h := h.2 z
                                                                                  refine ⟨fun z => ?_, fun z => ?_⟩
                                                                                  · replace h := h.1 z
                                                                                    show ZL g nm 1478 [(0, .ref 2501), (1, .ref 0), (2, .ref 59), (3, .int x3)] [] I L c
                                                                                    exact h
                                                                                  · replace h := h.2 z
                                                                                    refine ⟨fun z => ?_, fun z => ?_⟩
                                                                                    · replace h := h.1 z
                                                                                      show ZL g nm 1521 [(0, .ref 2501), (1, .ref 0), (2, .ref 59), (3, .int x3)] [] I L c
                                                                                      exact h
                                                                                    · replace h := h.2 z
                                                                                      refine ⟨fun z => ?_, fun z => ?_⟩
                                                                                      · replace h := h.1 z
                                                                                        show ZL g nm 1564 [(0, .ref 2501), (1, .ref 0), (2, .ref 59), (3, .int x3)] [] I L c
                                                                                        exact h
                                                                                      · replace h := h.2 z
                                                                                        refine ⟨fun z => ?_, fun z => ?_⟩
                                                                                        · replace h := h.1 z
                                                                                          show ZL g nm 1638 [(0, .ref 2501), (1, .ref 0), (2, .ref 59), (3, .int x3)] [] I L c
                                                                                          exact h
                                                                                        · replace h := h.2 z
                                                                                          refine ⟨fun z => ?_, fun z => ?_⟩
                                                                                          · replace h := h.1 z
                                                                                            show ZL g nm 1661 [(0, .ref 2501), (1, .ref 0), (2, .ref 59), (3, .int x3)] [] I L c
                                                                                            exact h
                                                                                          · replace h := h.2 z
                                                                                            refine ⟨fun z => ?_, fun z => ?_⟩
                                                                                            · replace h := h.1 z
                                                                                              show ZL g nm 1684 [(0, .ref 2501), (1, .ref 0), (2, .ref 59), (3, .int x3)] [] I L c
                                                                                              exact h
                                                                                            · replace h := h.2 z
                                                                                              refine ⟨fun z => ?_, fun z => ?_⟩
                                                                                              · replace h := h.1 z
                                                                                                show ZL g nm 1707 [(0, .ref 2501), (1, .ref 0), (2, .ref 59), (3, .int x3)] [] I L c
                                                                                                exact h
                                                                                              · replace h := h.2 z
                                                                                                show ZL g nm 1730 [(0, .ref 2501), (1, .ref 0), (2, .ref 59), (3, .int x3)] [] I L c
                                                                                                exact h
set_option maxRecDepth 100000 in
theorem r_law_232 {g : gm_G} {nm : String} {x3 : Int32} {I : mI} {L : mL} {c : gm_cfg} (h : (vp_in (x3 + 1) (gN g) ∧ (vp_in (x3 + 2) (gN g) ∧ (vp_in (x3 + 3) (gN g) ∧ (vp_in (x3 + 4) (gN g) ∧ (vp_in (x3 + 5) (gN g) ∧ (C_J_feed g (gS g (x3 + 1)) (gS g (x3 + 2)) (gS g (x3 + 3)) (gS g (x3 + 4)) (gS g (x3 + 5)) I L c (fun r4 I1 L2 c3 => (vp_in (x3 + 1) (gN g) ∧ (vp_in (x3 + 2) (gN g) ∧ (vp_in (x3 + 3) (gN g) ∧ (vp_in (x3 + 4) (gN g) ∧ (vp_in (x3 + 5) (gN g) ∧ (C_M_feed g (gS g (x3 + 1)) (gS g (x3 + 2)) (gS g (x3 + 3)) (gS g (x3 + 4)) (gS g (x3 + 5)) I1 L2 c3 (fun r8 I5 L6 c7 => ((r4 = r8 → ZL g nm 1730 [(0, .ref 2501), (1, .ref 0), (2, .ref 59), (3, .int x3)] [] I5 L6 c7) ∧ (¬ r4 = r8 → False))))))))))))))))) : ZL g nm 232 [(0, .ref 2501), (1, .ref 0), (2, .ref 59), (3, .int x3)] [] I L c := by
  refine gx_aload_n 1 dL_law_232 rfl rfl ?_
  refine gx_aload_n 0 dL_law_233 rfl rfl ?_
  refine gx_iload_n 3 dL_law_234 rfl rfl ?_
  refine gx_iconst (v := 1) dL_law_235 (by decide) ?_
  refine gx_iadd dL_law_236 ?_
  obtain ⟨hi, h⟩ := h
  refine gx_sld dL_law_237 hi ?_
  refine gx_aload_n 0 dL_law_238 rfl rfl ?_
  refine gx_iload_n 3 dL_law_239 rfl rfl ?_
  refine gx_iconst (v := 2) dL_law_240 (by decide) ?_
  refine gx_iadd dL_law_241 ?_
  obtain ⟨hi, h⟩ := h
  refine gx_sld dL_law_242 hi ?_
  refine gx_aload_n 0 dL_law_243 rfl rfl ?_
  refine gx_iload_n 3 dL_law_244 rfl rfl ?_
  refine gx_iconst (v := 3) dL_law_245 (by decide) ?_
  refine gx_iadd dL_law_246 ?_
  obtain ⟨hi, h⟩ := h
  refine gx_sld dL_law_247 hi ?_
  refine gx_aload_n 0 dL_law_248 rfl rfl ?_
  refine gx_iload_n 3 dL_law_249 rfl rfl ?_
  refine gx_iconst (v := 4) dL_law_250 (by decide) ?_
  refine gx_iadd dL_law_251 ?_
  obtain ⟨hi, h⟩ := h
  refine gx_sld dL_law_252 hi ?_
  refine gx_aload_n 0 dL_law_253 rfl rfl ?_
  refine gx_iload_n 3 dL_law_254 rfl rfl ?_
  refine gx_iconst (v := 5) dL_law_255 (by decide) ?_
  refine gx_iadd dL_law_256 ?_
  obtain ⟨hi, h⟩ := h
  refine gx_sld dL_law_257 hi ?_
  refine gx_callV 10 (As := [.int (gS g (x3 + 1)), .int (gS g (x3 + 2)), .int (gS g (x3 + 3)), .int (gS g (x3 + 4)), .int (gS g (x3 + 5))]) (st := []) dL_law_258 ml_L_13 mm_X10_feed rfl rfl rfl rfl rfl rfl ⟨rfl, rfl⟩ h (fun v h2 hq => ?_)
  clear h
  obtain ⟨r4, I1, L2, c3, rfl, rfl, h⟩ := hq
  show ZL g nm 261 [(0, .ref 2501), (1, .ref 0), (2, .ref 59), (3, .int x3)] [.int r4] I1 L2 c3
  refine gx_aload_n 2 dL_law_261 rfl rfl ?_
  refine gx_aload_n 0 dL_law_262 rfl rfl ?_
  refine gx_iload_n 3 dL_law_263 rfl rfl ?_
  refine gx_iconst (v := 1) dL_law_264 (by decide) ?_
  refine gx_iadd dL_law_265 ?_
  obtain ⟨hi, h⟩ := h
  refine gx_sld dL_law_266 hi ?_
  refine gx_aload_n 0 dL_law_267 rfl rfl ?_
  refine gx_iload_n 3 dL_law_268 rfl rfl ?_
  refine gx_iconst (v := 2) dL_law_269 (by decide) ?_
  refine gx_iadd dL_law_270 ?_
  obtain ⟨hi, h⟩ := h
  refine gx_sld dL_law_271 hi ?_
  refine gx_aload_n 0 dL_law_272 rfl rfl ?_
  refine gx_iload_n 3 dL_law_273 rfl rfl ?_
  refine gx_iconst (v := 3) dL_law_274 (by decide) ?_
  refine gx_iadd dL_law_275 ?_
  obtain ⟨hi, h⟩ := h
  refine gx_sld dL_law_276 hi ?_
  refine gx_aload_n 0 dL_law_277 rfl rfl ?_
  refine gx_iload_n 3 dL_law_278 rfl rfl ?_
  refine gx_iconst (v := 4) dL_law_279 (by decide) ?_
  refine gx_iadd dL_law_280 ?_
  obtain ⟨hi, h⟩ := h
  refine gx_sld dL_law_281 hi ?_
  refine gx_aload_n 0 dL_law_282 rfl rfl ?_
  refine gx_iload_n 3 dL_law_283 rfl rfl ?_
  refine gx_iconst (v := 5) dL_law_284 (by decide) ?_
  refine gx_iadd dL_law_285 ?_
  obtain ⟨hi, h⟩ := h
  refine gx_sld dL_law_286 hi ?_
  refine gx_callV 11 (As := [.int (gS g (x3 + 1)), .int (gS g (x3 + 2)), .int (gS g (x3 + 3)), .int (gS g (x3 + 4)), .int (gS g (x3 + 5))]) (st := [.int r4]) dL_law_287 ml_L_17 mm_X11_feed rfl rfl rfl rfl rfl rfl ⟨rfl, rfl⟩ h (fun v h2 hq => ?_)
  clear h
  obtain ⟨r8, I5, L6, c7, rfl, rfl, h⟩ := hq
  show ZL g nm 290 [(0, .ref 2501), (1, .ref 0), (2, .ref 59), (3, .int x3)] [.int r8, .int r4] I5 L6 c7
  refine gx_icmp_eq 1730 dL_law_290 (by decide) ⟨fun z => ?_, fun z => ?_⟩
  · replace h := h.1 z
    exact h
  · replace h := h.2 z
    refine gx_iconst (v := 0) dL_law_293 (by decide) ?_
    exact False.elim h
set_option maxRecDepth 100000 in
theorem r_law_295 {g : gm_G} {nm : String} {x3 : Int32} {I : mI} {L : mL} {c : gm_cfg} (h : (vp_in (x3 + 1) (gN g) ∧ (C_J_fete g (gS g (x3 + 1)) I L c (fun r4 I1 L2 c3 => (vp_in (x3 + 1) (gN g) ∧ (C_M_fete g (gS g (x3 + 1)) I1 L2 c3 (fun r8 I5 L6 c7 => ((r4 = r8 → ZL g nm 1730 [(0, .ref 2501), (1, .ref 0), (2, .ref 59), (3, .int x3)] [] I5 L6 c7) ∧ (¬ r4 = r8 → False))))))))) : ZL g nm 295 [(0, .ref 2501), (1, .ref 0), (2, .ref 59), (3, .int x3)] [] I L c := by
  refine gx_aload_n 1 dL_law_295 rfl rfl ?_
  refine gx_aload_n 0 dL_law_296 rfl rfl ?_
  refine gx_iload_n 3 dL_law_297 rfl rfl ?_
  refine gx_iconst (v := 1) dL_law_298 (by decide) ?_
  refine gx_iadd dL_law_299 ?_
  obtain ⟨hi, h⟩ := h
  refine gx_sld dL_law_300 hi ?_
  refine gx_callV 10 (As := [.int (gS g (x3 + 1))]) (st := []) dL_law_301 ml_L_18 mm_X10_fete rfl rfl rfl rfl rfl rfl ⟨rfl, rfl⟩ h (fun v h2 hq => ?_)
  clear h
  obtain ⟨r4, I1, L2, c3, rfl, rfl, h⟩ := hq
  show ZL g nm 304 [(0, .ref 2501), (1, .ref 0), (2, .ref 59), (3, .int x3)] [.int r4] I1 L2 c3
  refine gx_aload_n 2 dL_law_304 rfl rfl ?_
  refine gx_aload_n 0 dL_law_305 rfl rfl ?_
  refine gx_iload_n 3 dL_law_306 rfl rfl ?_
  refine gx_iconst (v := 1) dL_law_307 (by decide) ?_
  refine gx_iadd dL_law_308 ?_
  obtain ⟨hi, h⟩ := h
  refine gx_sld dL_law_309 hi ?_
  refine gx_callV 11 (As := [.int (gS g (x3 + 1))]) (st := [.int r4]) dL_law_310 ml_L_22 mm_X11_fete rfl rfl rfl rfl rfl rfl ⟨rfl, rfl⟩ h (fun v h2 hq => ?_)
  clear h
  obtain ⟨r8, I5, L6, c7, rfl, rfl, h⟩ := hq
  show ZL g nm 313 [(0, .ref 2501), (1, .ref 0), (2, .ref 59), (3, .int x3)] [.int r8, .int r4] I5 L6 c7
  refine gx_icmp_eq 1730 dL_law_313 (by decide) ⟨fun z => ?_, fun z => ?_⟩
  · replace h := h.1 z
    exact h
  · replace h := h.2 z
    refine gx_iconst (v := 0) dL_law_316 (by decide) ?_
    exact False.elim h
set_option maxRecDepth 100000 in
theorem r_law_318 {g : gm_G} {nm : String} {x3 : Int32} {I : mI} {L : mL} {c : gm_cfg} (h : (vp_in (x3 + 1) (gN g) ∧ (C_J_fault g (gS g (x3 + 1)) I L c (fun r4 I1 L2 c3 => (vp_in (x3 + 1) (gN g) ∧ (C_M_fault g (gS g (x3 + 1)) I1 L2 c3 (fun r8 I5 L6 c7 => ((r4 = r8 → ZL g nm 1730 [(0, .ref 2501), (1, .ref 0), (2, .ref 59), (3, .int x3)] [] I5 L6 c7) ∧ (¬ r4 = r8 → False))))))))) : ZL g nm 318 [(0, .ref 2501), (1, .ref 0), (2, .ref 59), (3, .int x3)] [] I L c := by
  refine gx_aload_n 1 dL_law_318 rfl rfl ?_
  refine gx_aload_n 0 dL_law_319 rfl rfl ?_
  refine gx_iload_n 3 dL_law_320 rfl rfl ?_
  refine gx_iconst (v := 1) dL_law_321 (by decide) ?_
  refine gx_iadd dL_law_322 ?_
  obtain ⟨hi, h⟩ := h
  refine gx_sld dL_law_323 hi ?_
  refine gx_callV 10 (As := [.int (gS g (x3 + 1))]) (st := []) dL_law_324 ml_L_23 mm_X10_fault rfl rfl rfl rfl rfl rfl ⟨rfl, rfl⟩ h (fun v h2 hq => ?_)
  clear h
  obtain ⟨r4, I1, L2, c3, rfl, rfl, h⟩ := hq
  show ZL g nm 327 [(0, .ref 2501), (1, .ref 0), (2, .ref 59), (3, .int x3)] [.int r4] I1 L2 c3
  refine gx_aload_n 2 dL_law_327 rfl rfl ?_
  refine gx_aload_n 0 dL_law_328 rfl rfl ?_
  refine gx_iload_n 3 dL_law_329 rfl rfl ?_
  refine gx_iconst (v := 1) dL_law_330 (by decide) ?_
  refine gx_iadd dL_law_331 ?_
  obtain ⟨hi, h⟩ := h
  refine gx_sld dL_law_332 hi ?_
  refine gx_callV 11 (As := [.int (gS g (x3 + 1))]) (st := [.int r4]) dL_law_333 ml_L_26 mm_X11_fault rfl rfl rfl rfl rfl rfl ⟨rfl, rfl⟩ h (fun v h2 hq => ?_)
  clear h
  obtain ⟨r8, I5, L6, c7, rfl, rfl, h⟩ := hq
  show ZL g nm 336 [(0, .ref 2501), (1, .ref 0), (2, .ref 59), (3, .int x3)] [.int r8, .int r4] I5 L6 c7
  refine gx_icmp_eq 1730 dL_law_336 (by decide) ⟨fun z => ?_, fun z => ?_⟩
  · replace h := h.1 z
    exact h
  · replace h := h.2 z
    refine gx_iconst (v := 0) dL_law_339 (by decide) ?_
    exact False.elim h
set_option maxRecDepth 100000 in
theorem r_law_341 {g : gm_G} {nm : String} {x3 : Int32} {I : mI} {L : mL} {c : gm_cfg} (h : (vp_in (x3 + 1) (gN g) ∧ (vp_in (x3 + 2) (gN g) ∧ (C_J_guesser g (gS g (x3 + 1)) (gS g (x3 + 2)) I L c (fun r4 I1 L2 c3 => (vp_in (x3 + 1) (gN g) ∧ (vp_in (x3 + 2) (gN g) ∧ (C_M_guesser g (gS g (x3 + 1)) (gS g (x3 + 2)) I1 L2 c3 (fun r8 I5 L6 c7 => ((r4 = r8 → ZL g nm 1730 [(0, .ref 2501), (1, .ref 0), (2, .ref 59), (3, .int x3)] [] I5 L6 c7) ∧ (¬ r4 = r8 → False))))))))))) : ZL g nm 341 [(0, .ref 2501), (1, .ref 0), (2, .ref 59), (3, .int x3)] [] I L c := by
  refine gx_aload_n 1 dL_law_341 rfl rfl ?_
  refine gx_aload_n 0 dL_law_342 rfl rfl ?_
  refine gx_iload_n 3 dL_law_343 rfl rfl ?_
  refine gx_iconst (v := 1) dL_law_344 (by decide) ?_
  refine gx_iadd dL_law_345 ?_
  obtain ⟨hi, h⟩ := h
  refine gx_sld dL_law_346 hi ?_
  refine gx_aload_n 0 dL_law_347 rfl rfl ?_
  refine gx_iload_n 3 dL_law_348 rfl rfl ?_
  refine gx_iconst (v := 2) dL_law_349 (by decide) ?_
  refine gx_iadd dL_law_350 ?_
  obtain ⟨hi, h⟩ := h
  refine gx_sld dL_law_351 hi ?_
  refine gx_callV 10 (As := [.int (gS g (x3 + 1)), .int (gS g (x3 + 2))]) (st := []) dL_law_352 ml_L_27 mm_X10_guesser rfl rfl rfl rfl rfl rfl ⟨rfl, rfl⟩ h (fun v h2 hq => ?_)
  clear h
  obtain ⟨r4, I1, L2, c3, rfl, rfl, h⟩ := hq
  show ZL g nm 355 [(0, .ref 2501), (1, .ref 0), (2, .ref 59), (3, .int x3)] [.int r4] I1 L2 c3
  refine gx_aload_n 2 dL_law_355 rfl rfl ?_
  refine gx_aload_n 0 dL_law_356 rfl rfl ?_
  refine gx_iload_n 3 dL_law_357 rfl rfl ?_
  refine gx_iconst (v := 1) dL_law_358 (by decide) ?_
  refine gx_iadd dL_law_359 ?_
  obtain ⟨hi, h⟩ := h
  refine gx_sld dL_law_360 hi ?_
  refine gx_aload_n 0 dL_law_361 rfl rfl ?_
  refine gx_iload_n 3 dL_law_362 rfl rfl ?_
  refine gx_iconst (v := 2) dL_law_363 (by decide) ?_
  refine gx_iadd dL_law_364 ?_
  obtain ⟨hi, h⟩ := h
  refine gx_sld dL_law_365 hi ?_
  refine gx_callV 11 (As := [.int (gS g (x3 + 1)), .int (gS g (x3 + 2))]) (st := [.int r4]) dL_law_366 ml_L_31 mm_X11_guesser rfl rfl rfl rfl rfl rfl ⟨rfl, rfl⟩ h (fun v h2 hq => ?_)
  clear h
  obtain ⟨r8, I5, L6, c7, rfl, rfl, h⟩ := hq
  show ZL g nm 369 [(0, .ref 2501), (1, .ref 0), (2, .ref 59), (3, .int x3)] [.int r8, .int r4] I5 L6 c7
  refine gx_icmp_eq 1730 dL_law_369 (by decide) ⟨fun z => ?_, fun z => ?_⟩
  · replace h := h.1 z
    exact h
  · replace h := h.2 z
    refine gx_iconst (v := 0) dL_law_372 (by decide) ?_
    exact False.elim h
set_option maxRecDepth 100000 in
theorem r_law_374 {g : gm_G} {nm : String} {x3 : Int32} {I : mI} {L : mL} {c : gm_cfg} (h : (vp_in (x3 + 1) (gN g) ∧ (vp_in (x3 + 2) (gN g) ∧ (C_J_sight g (gS g (x3 + 1)) (gS g (x3 + 2)) I L c (fun r4 I1 L2 c3 => (vp_in (x3 + 1) (gN g) ∧ (vp_in (x3 + 2) (gN g) ∧ (C_M_sight g (gS g (x3 + 1)) (gS g (x3 + 2)) I1 L2 c3 (fun r8 I5 L6 c7 => ((r4 = r8 → ZL g nm 1730 [(0, .ref 2501), (1, .ref 0), (2, .ref 59), (3, .int x3)] [] I5 L6 c7) ∧ (¬ r4 = r8 → False))))))))))) : ZL g nm 374 [(0, .ref 2501), (1, .ref 0), (2, .ref 59), (3, .int x3)] [] I L c := by
  refine gx_aload_n 1 dL_law_374 rfl rfl ?_
  refine gx_aload_n 0 dL_law_375 rfl rfl ?_
  refine gx_iload_n 3 dL_law_376 rfl rfl ?_
  refine gx_iconst (v := 1) dL_law_377 (by decide) ?_
  refine gx_iadd dL_law_378 ?_
  obtain ⟨hi, h⟩ := h
  refine gx_sld dL_law_379 hi ?_
  refine gx_aload_n 0 dL_law_380 rfl rfl ?_
  refine gx_iload_n 3 dL_law_381 rfl rfl ?_
  refine gx_iconst (v := 2) dL_law_382 (by decide) ?_
  refine gx_iadd dL_law_383 ?_
  obtain ⟨hi, h⟩ := h
  refine gx_sld dL_law_384 hi ?_
  refine gx_callV 10 (As := [.int (gS g (x3 + 1)), .int (gS g (x3 + 2))]) (st := []) dL_law_385 ml_L_32 mm_X10_sight rfl rfl rfl rfl rfl rfl ⟨rfl, rfl⟩ h (fun v h2 hq => ?_)
  clear h
  obtain ⟨r4, I1, L2, c3, rfl, rfl, h⟩ := hq
  show ZL g nm 388 [(0, .ref 2501), (1, .ref 0), (2, .ref 59), (3, .int x3)] [.int r4] I1 L2 c3
  refine gx_aload_n 2 dL_law_388 rfl rfl ?_
  refine gx_aload_n 0 dL_law_389 rfl rfl ?_
  refine gx_iload_n 3 dL_law_390 rfl rfl ?_
  refine gx_iconst (v := 1) dL_law_391 (by decide) ?_
  refine gx_iadd dL_law_392 ?_
  obtain ⟨hi, h⟩ := h
  refine gx_sld dL_law_393 hi ?_
  refine gx_aload_n 0 dL_law_394 rfl rfl ?_
  refine gx_iload_n 3 dL_law_395 rfl rfl ?_
  refine gx_iconst (v := 2) dL_law_396 (by decide) ?_
  refine gx_iadd dL_law_397 ?_
  obtain ⟨hi, h⟩ := h
  refine gx_sld dL_law_398 hi ?_
  refine gx_callV 11 (As := [.int (gS g (x3 + 1)), .int (gS g (x3 + 2))]) (st := [.int r4]) dL_law_399 ml_L_35 mm_X11_sight rfl rfl rfl rfl rfl rfl ⟨rfl, rfl⟩ h (fun v h2 hq => ?_)
  clear h
  obtain ⟨r8, I5, L6, c7, rfl, rfl, h⟩ := hq
  show ZL g nm 402 [(0, .ref 2501), (1, .ref 0), (2, .ref 59), (3, .int x3)] [.int r8, .int r4] I5 L6 c7
  refine gx_icmp_eq 1730 dL_law_402 (by decide) ⟨fun z => ?_, fun z => ?_⟩
  · replace h := h.1 z
    exact h
  · replace h := h.2 z
    refine gx_iconst (v := 0) dL_law_405 (by decide) ?_
    exact False.elim h
set_option maxRecDepth 100000 in
theorem r_law_407 {g : gm_G} {nm : String} {x3 : Int32} {I : mI} {L : mL} {c : gm_cfg} (h : (vp_in (x3 + 1) (gN g) ∧ (C_J_weight g (gS g (x3 + 1)) I L c (fun r4 I1 L2 c3 => (vp_in (x3 + 1) (gN g) ∧ (C_M_weight g (gS g (x3 + 1)) I1 L2 c3 (fun r8 I5 L6 c7 => ((r4 = r8 → ZL g nm 1730 [(0, .ref 2501), (1, .ref 0), (2, .ref 59), (3, .int x3)] [] I5 L6 c7) ∧ (¬ r4 = r8 → False))))))))) : ZL g nm 407 [(0, .ref 2501), (1, .ref 0), (2, .ref 59), (3, .int x3)] [] I L c := by
  refine gx_aload_n 1 dL_law_407 rfl rfl ?_
  refine gx_aload_n 0 dL_law_408 rfl rfl ?_
  refine gx_iload_n 3 dL_law_409 rfl rfl ?_
  refine gx_iconst (v := 1) dL_law_410 (by decide) ?_
  refine gx_iadd dL_law_411 ?_
  obtain ⟨hi, h⟩ := h
  refine gx_sld dL_law_412 hi ?_
  refine gx_callV 10 (As := [.int (gS g (x3 + 1))]) (st := []) dL_law_413 ml_L_36 mm_X10_weight rfl rfl rfl rfl rfl rfl ⟨rfl, rfl⟩ h (fun v h2 hq => ?_)
  clear h
  obtain ⟨r4, I1, L2, c3, rfl, rfl, h⟩ := hq
  show ZL g nm 416 [(0, .ref 2501), (1, .ref 0), (2, .ref 59), (3, .int x3)] [.int r4] I1 L2 c3
  refine gx_aload_n 2 dL_law_416 rfl rfl ?_
  refine gx_aload_n 0 dL_law_417 rfl rfl ?_
  refine gx_iload_n 3 dL_law_418 rfl rfl ?_
  refine gx_iconst (v := 1) dL_law_419 (by decide) ?_
  refine gx_iadd dL_law_420 ?_
  obtain ⟨hi, h⟩ := h
  refine gx_sld dL_law_421 hi ?_
  refine gx_callV 11 (As := [.int (gS g (x3 + 1))]) (st := [.int r4]) dL_law_422 ml_L_39 mm_X11_weight rfl rfl rfl rfl rfl rfl ⟨rfl, rfl⟩ h (fun v h2 hq => ?_)
  clear h
  obtain ⟨r8, I5, L6, c7, rfl, rfl, h⟩ := hq
  show ZL g nm 425 [(0, .ref 2501), (1, .ref 0), (2, .ref 59), (3, .int x3)] [.int r8, .int r4] I5 L6 c7
  refine gx_icmp_eq 1730 dL_law_425 (by decide) ⟨fun z => ?_, fun z => ?_⟩
  · replace h := h.1 z
    exact h
  · replace h := h.2 z
    refine gx_iconst (v := 0) dL_law_428 (by decide) ?_
    exact False.elim h
set_option maxRecDepth 100000 in
theorem r_law_430 {g : gm_G} {nm : String} {x3 : Int32} {I : mI} {L : mL} {c : gm_cfg} (h : (vp_in (x3 + 1) (gN g) ∧ (C_J_jar g (gS g (x3 + 1)) I L c (fun r4 I1 L2 c3 => (vp_in (x3 + 1) (gN g) ∧ (C_M_jar g (gS g (x3 + 1)) I1 L2 c3 (fun r8 I5 L6 c7 => ((r4 = r8 → ZL g nm 1730 [(0, .ref 2501), (1, .ref 0), (2, .ref 59), (3, .int x3)] [] I5 L6 c7) ∧ (¬ r4 = r8 → False))))))))) : ZL g nm 430 [(0, .ref 2501), (1, .ref 0), (2, .ref 59), (3, .int x3)] [] I L c := by
  refine gx_aload_n 1 dL_law_430 rfl rfl ?_
  refine gx_aload_n 0 dL_law_431 rfl rfl ?_
  refine gx_iload_n 3 dL_law_432 rfl rfl ?_
  refine gx_iconst (v := 1) dL_law_433 (by decide) ?_
  refine gx_iadd dL_law_434 ?_
  obtain ⟨hi, h⟩ := h
  refine gx_sld dL_law_435 hi ?_
  refine gx_callV 10 (As := [.int (gS g (x3 + 1))]) (st := []) dL_law_436 ml_L_40 mm_X10_jar rfl rfl rfl rfl rfl rfl ⟨rfl, rfl⟩ h (fun v h2 hq => ?_)
  clear h
  obtain ⟨r4, I1, L2, c3, rfl, rfl, h⟩ := hq
  show ZL g nm 439 [(0, .ref 2501), (1, .ref 0), (2, .ref 59), (3, .int x3)] [.int r4] I1 L2 c3
  refine gx_aload_n 2 dL_law_439 rfl rfl ?_
  refine gx_aload_n 0 dL_law_440 rfl rfl ?_
  refine gx_iload_n 3 dL_law_441 rfl rfl ?_
  refine gx_iconst (v := 1) dL_law_442 (by decide) ?_
  refine gx_iadd dL_law_443 ?_
  obtain ⟨hi, h⟩ := h
  refine gx_sld dL_law_444 hi ?_
  refine gx_callV 11 (As := [.int (gS g (x3 + 1))]) (st := [.int r4]) dL_law_445 ml_L_43 mm_X11_jar rfl rfl rfl rfl rfl rfl ⟨rfl, rfl⟩ h (fun v h2 hq => ?_)
  clear h
  obtain ⟨r8, I5, L6, c7, rfl, rfl, h⟩ := hq
  show ZL g nm 448 [(0, .ref 2501), (1, .ref 0), (2, .ref 59), (3, .int x3)] [.int r8, .int r4] I5 L6 c7
  refine gx_icmp_eq 1730 dL_law_448 (by decide) ⟨fun z => ?_, fun z => ?_⟩
  · replace h := h.1 z
    exact h
  · replace h := h.2 z
    refine gx_iconst (v := 0) dL_law_451 (by decide) ?_
    exact False.elim h
set_option maxRecDepth 100000 in
theorem r_law_453 {g : gm_G} {nm : String} {x3 : Int32} {I : mI} {L : mL} {c : gm_cfg} (h : (vp_in (x3 + 1) (gN g) ∧ (vp_in (x3 + 2) (gN g) ∧ (C_J_write g (gS g (x3 + 1)) (gS g (x3 + 2)) I L c (fun r4 I1 L2 c3 => (vp_in (x3 + 1) (gN g) ∧ (vp_in (x3 + 2) (gN g) ∧ (C_M_write g (gS g (x3 + 1)) (gS g (x3 + 2)) I1 L2 c3 (fun r8 I5 L6 c7 => ((r4 = r8 → ZL g nm 1730 [(0, .ref 2501), (1, .ref 0), (2, .ref 59), (3, .int x3)] [] I5 L6 c7) ∧ (¬ r4 = r8 → False))))))))))) : ZL g nm 453 [(0, .ref 2501), (1, .ref 0), (2, .ref 59), (3, .int x3)] [] I L c := by
  refine gx_aload_n 1 dL_law_453 rfl rfl ?_
  refine gx_aload_n 0 dL_law_454 rfl rfl ?_
  refine gx_iload_n 3 dL_law_455 rfl rfl ?_
  refine gx_iconst (v := 1) dL_law_456 (by decide) ?_
  refine gx_iadd dL_law_457 ?_
  obtain ⟨hi, h⟩ := h
  refine gx_sld dL_law_458 hi ?_
  refine gx_aload_n 0 dL_law_459 rfl rfl ?_
  refine gx_iload_n 3 dL_law_460 rfl rfl ?_
  refine gx_iconst (v := 2) dL_law_461 (by decide) ?_
  refine gx_iadd dL_law_462 ?_
  obtain ⟨hi, h⟩ := h
  refine gx_sld dL_law_463 hi ?_
  refine gx_callV 10 (As := [.int (gS g (x3 + 1)), .int (gS g (x3 + 2))]) (st := []) dL_law_464 ml_L_44 mm_X10_write rfl rfl rfl rfl rfl rfl ⟨rfl, rfl⟩ h (fun v h2 hq => ?_)
  clear h
  obtain ⟨r4, I1, L2, c3, rfl, rfl, h⟩ := hq
  show ZL g nm 467 [(0, .ref 2501), (1, .ref 0), (2, .ref 59), (3, .int x3)] [.int r4] I1 L2 c3
  refine gx_aload_n 2 dL_law_467 rfl rfl ?_
  refine gx_aload_n 0 dL_law_468 rfl rfl ?_
  refine gx_iload_n 3 dL_law_469 rfl rfl ?_
  refine gx_iconst (v := 1) dL_law_470 (by decide) ?_
  refine gx_iadd dL_law_471 ?_
  obtain ⟨hi, h⟩ := h
  refine gx_sld dL_law_472 hi ?_
  refine gx_aload_n 0 dL_law_473 rfl rfl ?_
  refine gx_iload_n 3 dL_law_474 rfl rfl ?_
  refine gx_iconst (v := 2) dL_law_475 (by decide) ?_
  refine gx_iadd dL_law_476 ?_
  obtain ⟨hi, h⟩ := h
  refine gx_sld dL_law_477 hi ?_
  refine gx_callV 11 (As := [.int (gS g (x3 + 1)), .int (gS g (x3 + 2))]) (st := [.int r4]) dL_law_478 ml_L_47 mm_X11_write rfl rfl rfl rfl rfl rfl ⟨rfl, rfl⟩ h (fun v h2 hq => ?_)
  clear h
  obtain ⟨r8, I5, L6, c7, rfl, rfl, h⟩ := hq
  show ZL g nm 481 [(0, .ref 2501), (1, .ref 0), (2, .ref 59), (3, .int x3)] [.int r8, .int r4] I5 L6 c7
  refine gx_icmp_eq 1730 dL_law_481 (by decide) ⟨fun z => ?_, fun z => ?_⟩
  · replace h := h.1 z
    exact h
  · replace h := h.2 z
    refine gx_iconst (v := 0) dL_law_484 (by decide) ?_
    exact False.elim h
set_option maxRecDepth 100000 in
theorem r_law_486 {g : gm_G} {nm : String} {x3 : Int32} {I : mI} {L : mL} {c : gm_cfg} (h : (vp_in (x3 + 1) (gN g) ∧ (C_J_strike g (gS g (x3 + 1)) I L c (fun r4 I1 L2 c3 => (vp_in (x3 + 1) (gN g) ∧ (C_M_strike g (gS g (x3 + 1)) I1 L2 c3 (fun r8 I5 L6 c7 => ((r4 = r8 → ZL g nm 1730 [(0, .ref 2501), (1, .ref 0), (2, .ref 59), (3, .int x3)] [] I5 L6 c7) ∧ (¬ r4 = r8 → False))))))))) : ZL g nm 486 [(0, .ref 2501), (1, .ref 0), (2, .ref 59), (3, .int x3)] [] I L c := by
  refine gx_aload_n 1 dL_law_486 rfl rfl ?_
  refine gx_aload_n 0 dL_law_487 rfl rfl ?_
  refine gx_iload_n 3 dL_law_488 rfl rfl ?_
  refine gx_iconst (v := 1) dL_law_489 (by decide) ?_
  refine gx_iadd dL_law_490 ?_
  obtain ⟨hi, h⟩ := h
  refine gx_sld dL_law_491 hi ?_
  refine gx_callV 10 (As := [.int (gS g (x3 + 1))]) (st := []) dL_law_492 ml_L_48 mm_X10_strike rfl rfl rfl rfl rfl rfl ⟨rfl, rfl⟩ h (fun v h2 hq => ?_)
  clear h
  obtain ⟨r4, I1, L2, c3, rfl, rfl, h⟩ := hq
  show ZL g nm 495 [(0, .ref 2501), (1, .ref 0), (2, .ref 59), (3, .int x3)] [.int r4] I1 L2 c3
  refine gx_aload_n 2 dL_law_495 rfl rfl ?_
  refine gx_aload_n 0 dL_law_496 rfl rfl ?_
  refine gx_iload_n 3 dL_law_497 rfl rfl ?_
  refine gx_iconst (v := 1) dL_law_498 (by decide) ?_
  refine gx_iadd dL_law_499 ?_
  obtain ⟨hi, h⟩ := h
  refine gx_sld dL_law_500 hi ?_
  refine gx_callV 11 (As := [.int (gS g (x3 + 1))]) (st := [.int r4]) dL_law_501 ml_L_51 mm_X11_strike rfl rfl rfl rfl rfl rfl ⟨rfl, rfl⟩ h (fun v h2 hq => ?_)
  clear h
  obtain ⟨r8, I5, L6, c7, rfl, rfl, h⟩ := hq
  show ZL g nm 504 [(0, .ref 2501), (1, .ref 0), (2, .ref 59), (3, .int x3)] [.int r8, .int r4] I5 L6 c7
  refine gx_icmp_eq 1730 dL_law_504 (by decide) ⟨fun z => ?_, fun z => ?_⟩
  · replace h := h.1 z
    exact h
  · replace h := h.2 z
    refine gx_iconst (v := 0) dL_law_507 (by decide) ?_
    exact False.elim h
set_option maxRecDepth 100000 in
theorem r_law_509 {g : gm_G} {nm : String} {x3 : Int32} {I : mI} {L : mL} {c : gm_cfg} (h : (vp_in (x3 + 1) (gN g) ∧ (vp_in (x3 + 2) (gN g) ∧ (C_J_list g (gS g (x3 + 1)) (gS g (x3 + 2)) I L c (fun r4 I1 L2 c3 => (vp_in (x3 + 1) (gN g) ∧ (vp_in (x3 + 2) (gN g) ∧ (C_M_list g (gS g (x3 + 1)) (gS g (x3 + 2)) I1 L2 c3 (fun r8 I5 L6 c7 => ((r4 = r8 → ZL g nm 1730 [(0, .ref 2501), (1, .ref 0), (2, .ref 59), (3, .int x3)] [] I5 L6 c7) ∧ (¬ r4 = r8 → False))))))))))) : ZL g nm 509 [(0, .ref 2501), (1, .ref 0), (2, .ref 59), (3, .int x3)] [] I L c := by
  refine gx_aload_n 1 dL_law_509 rfl rfl ?_
  refine gx_aload_n 0 dL_law_510 rfl rfl ?_
  refine gx_iload_n 3 dL_law_511 rfl rfl ?_
  refine gx_iconst (v := 1) dL_law_512 (by decide) ?_
  refine gx_iadd dL_law_513 ?_
  obtain ⟨hi, h⟩ := h
  refine gx_sld dL_law_514 hi ?_
  refine gx_aload_n 0 dL_law_515 rfl rfl ?_
  refine gx_iload_n 3 dL_law_516 rfl rfl ?_
  refine gx_iconst (v := 2) dL_law_517 (by decide) ?_
  refine gx_iadd dL_law_518 ?_
  obtain ⟨hi, h⟩ := h
  refine gx_sld dL_law_519 hi ?_
  refine gx_callV 10 (As := [.int (gS g (x3 + 1)), .int (gS g (x3 + 2))]) (st := []) dL_law_520 ml_L_52 mm_X10_list rfl rfl rfl rfl rfl rfl ⟨rfl, rfl⟩ h (fun v h2 hq => ?_)
  clear h
  obtain ⟨r4, I1, L2, c3, rfl, rfl, h⟩ := hq
  show ZL g nm 523 [(0, .ref 2501), (1, .ref 0), (2, .ref 59), (3, .int x3)] [.int r4] I1 L2 c3
  refine gx_aload_n 2 dL_law_523 rfl rfl ?_
  refine gx_aload_n 0 dL_law_524 rfl rfl ?_
  refine gx_iload_n 3 dL_law_525 rfl rfl ?_
  refine gx_iconst (v := 1) dL_law_526 (by decide) ?_
  refine gx_iadd dL_law_527 ?_
  obtain ⟨hi, h⟩ := h
  refine gx_sld dL_law_528 hi ?_
  refine gx_aload_n 0 dL_law_529 rfl rfl ?_
  refine gx_iload_n 3 dL_law_530 rfl rfl ?_
  refine gx_iconst (v := 2) dL_law_531 (by decide) ?_
  refine gx_iadd dL_law_532 ?_
  obtain ⟨hi, h⟩ := h
  refine gx_sld dL_law_533 hi ?_
  refine gx_callV 11 (As := [.int (gS g (x3 + 1)), .int (gS g (x3 + 2))]) (st := [.int r4]) dL_law_534 ml_L_55 mm_X11_list rfl rfl rfl rfl rfl rfl ⟨rfl, rfl⟩ h (fun v h2 hq => ?_)
  clear h
  obtain ⟨r8, I5, L6, c7, rfl, rfl, h⟩ := hq
  show ZL g nm 537 [(0, .ref 2501), (1, .ref 0), (2, .ref 59), (3, .int x3)] [.int r8, .int r4] I5 L6 c7
  refine gx_icmp_eq 1730 dL_law_537 (by decide) ⟨fun z => ?_, fun z => ?_⟩
  · replace h := h.1 z
    exact h
  · replace h := h.2 z
    refine gx_iconst (v := 0) dL_law_540 (by decide) ?_
    exact False.elim h
set_option maxRecDepth 100000 in
theorem r_law_542 {g : gm_G} {nm : String} {x3 : Int32} {I : mI} {L : mL} {c : gm_cfg} (h : (vp_in (x3 + 1) (gN g) ∧ (vp_in (x3 + 2) (gN g) ∧ (C_J_judge g (gS g (x3 + 1)) (gS g (x3 + 2)) I L c (fun r4 I1 L2 c3 => (vp_in (x3 + 1) (gN g) ∧ (vp_in (x3 + 2) (gN g) ∧ (C_M_judge g (gS g (x3 + 1)) (gS g (x3 + 2)) I1 L2 c3 (fun r8 I5 L6 c7 => ((r4 = r8 → ZL g nm 1730 [(0, .ref 2501), (1, .ref 0), (2, .ref 59), (3, .int x3)] [] I5 L6 c7) ∧ (¬ r4 = r8 → False))))))))))) : ZL g nm 542 [(0, .ref 2501), (1, .ref 0), (2, .ref 59), (3, .int x3)] [] I L c := by
  refine gx_aload_n 1 dL_law_542 rfl rfl ?_
  refine gx_aload_n 0 dL_law_543 rfl rfl ?_
  refine gx_iload_n 3 dL_law_544 rfl rfl ?_
  refine gx_iconst (v := 1) dL_law_545 (by decide) ?_
  refine gx_iadd dL_law_546 ?_
  obtain ⟨hi, h⟩ := h
  refine gx_sld dL_law_547 hi ?_
  refine gx_aload_n 0 dL_law_548 rfl rfl ?_
  refine gx_iload_n 3 dL_law_549 rfl rfl ?_
  refine gx_iconst (v := 2) dL_law_550 (by decide) ?_
  refine gx_iadd dL_law_551 ?_
  obtain ⟨hi, h⟩ := h
  refine gx_sld dL_law_552 hi ?_
  refine gx_callV 10 (As := [.int (gS g (x3 + 1)), .int (gS g (x3 + 2))]) (st := []) dL_law_553 ml_L_56 mm_X10_judge rfl rfl rfl rfl rfl rfl ⟨rfl, rfl⟩ h (fun v h2 hq => ?_)
  clear h
  obtain ⟨r4, I1, L2, c3, rfl, rfl, h⟩ := hq
  show ZL g nm 556 [(0, .ref 2501), (1, .ref 0), (2, .ref 59), (3, .int x3)] [.int r4] I1 L2 c3
  refine gx_aload_n 2 dL_law_556 rfl rfl ?_
  refine gx_aload_n 0 dL_law_557 rfl rfl ?_
  refine gx_iload_n 3 dL_law_558 rfl rfl ?_
  refine gx_iconst (v := 1) dL_law_559 (by decide) ?_
  refine gx_iadd dL_law_560 ?_
  obtain ⟨hi, h⟩ := h
  refine gx_sld dL_law_561 hi ?_
  refine gx_aload_n 0 dL_law_562 rfl rfl ?_
  refine gx_iload_n 3 dL_law_563 rfl rfl ?_
  refine gx_iconst (v := 2) dL_law_564 (by decide) ?_
  refine gx_iadd dL_law_565 ?_
  obtain ⟨hi, h⟩ := h
  refine gx_sld dL_law_566 hi ?_
  refine gx_callV 11 (As := [.int (gS g (x3 + 1)), .int (gS g (x3 + 2))]) (st := [.int r4]) dL_law_567 ml_L_59 mm_X11_judge rfl rfl rfl rfl rfl rfl ⟨rfl, rfl⟩ h (fun v h2 hq => ?_)
  clear h
  obtain ⟨r8, I5, L6, c7, rfl, rfl, h⟩ := hq
  show ZL g nm 570 [(0, .ref 2501), (1, .ref 0), (2, .ref 59), (3, .int x3)] [.int r8, .int r4] I5 L6 c7
  refine gx_icmp_eq 1730 dL_law_570 (by decide) ⟨fun z => ?_, fun z => ?_⟩
  · replace h := h.1 z
    exact h
  · replace h := h.2 z
    refine gx_iconst (v := 0) dL_law_573 (by decide) ?_
    exact False.elim h
set_option maxRecDepth 100000 in
theorem r_law_575 {g : gm_G} {nm : String} {x3 : Int32} {I : mI} {L : mL} {c : gm_cfg} (h : (vp_in (x3 + 1) (gN g) ∧ (C_J_perform g (gS g (x3 + 1)) I L c (fun r4 I1 L2 c3 => (vp_in (x3 + 1) (gN g) ∧ (C_M_perform g (gS g (x3 + 1)) I1 L2 c3 (fun r8 I5 L6 c7 => ((r4 = r8 → ZL g nm 1730 [(0, .ref 2501), (1, .ref 0), (2, .ref 59), (3, .int x3)] [] I5 L6 c7) ∧ (¬ r4 = r8 → False))))))))) : ZL g nm 575 [(0, .ref 2501), (1, .ref 0), (2, .ref 59), (3, .int x3)] [] I L c := by
  refine gx_aload_n 1 dL_law_575 rfl rfl ?_
  refine gx_aload_n 0 dL_law_576 rfl rfl ?_
  refine gx_iload_n 3 dL_law_577 rfl rfl ?_
  refine gx_iconst (v := 1) dL_law_578 (by decide) ?_
  refine gx_iadd dL_law_579 ?_
  obtain ⟨hi, h⟩ := h
  refine gx_sld dL_law_580 hi ?_
  refine gx_callV 10 (As := [.int (gS g (x3 + 1))]) (st := []) dL_law_581 ml_L_60 mm_X10_perform rfl rfl rfl rfl rfl rfl ⟨rfl, rfl⟩ h (fun v h2 hq => ?_)
  clear h
  obtain ⟨r4, I1, L2, c3, rfl, rfl, h⟩ := hq
  show ZL g nm 584 [(0, .ref 2501), (1, .ref 0), (2, .ref 59), (3, .int x3)] [.int r4] I1 L2 c3
  refine gx_aload_n 2 dL_law_584 rfl rfl ?_
  refine gx_aload_n 0 dL_law_585 rfl rfl ?_
  refine gx_iload_n 3 dL_law_586 rfl rfl ?_
  refine gx_iconst (v := 1) dL_law_587 (by decide) ?_
  refine gx_iadd dL_law_588 ?_
  obtain ⟨hi, h⟩ := h
  refine gx_sld dL_law_589 hi ?_
  refine gx_callV 11 (As := [.int (gS g (x3 + 1))]) (st := [.int r4]) dL_law_590 ml_L_63 mm_X11_perform rfl rfl rfl rfl rfl rfl ⟨rfl, rfl⟩ h (fun v h2 hq => ?_)
  clear h
  obtain ⟨r8, I5, L6, c7, rfl, rfl, h⟩ := hq
  show ZL g nm 593 [(0, .ref 2501), (1, .ref 0), (2, .ref 59), (3, .int x3)] [.int r8, .int r4] I5 L6 c7
  refine gx_icmp_eq 1730 dL_law_593 (by decide) ⟨fun z => ?_, fun z => ?_⟩
  · replace h := h.1 z
    exact h
  · replace h := h.2 z
    refine gx_iconst (v := 0) dL_law_596 (by decide) ?_
    exact False.elim h
set_option maxRecDepth 100000 in
theorem r_law_598 {g : gm_G} {nm : String} {x3 : Int32} {I : mI} {L : mL} {c : gm_cfg} (h : (vp_in (x3 + 1) (gN g) ∧ (vp_in (x3 + 2) (gN g) ∧ (C_J_come g (gS g (x3 + 1)) (gS g (x3 + 2)) I L c (fun r4 I1 L2 c3 => (vp_in (x3 + 1) (gN g) ∧ (vp_in (x3 + 2) (gN g) ∧ (C_M_come g (gS g (x3 + 1)) (gS g (x3 + 2)) I1 L2 c3 (fun r8 I5 L6 c7 => ((r4 = r8 → ZL g nm 1730 [(0, .ref 2501), (1, .ref 0), (2, .ref 59), (3, .int x3)] [] I5 L6 c7) ∧ (¬ r4 = r8 → False))))))))))) : ZL g nm 598 [(0, .ref 2501), (1, .ref 0), (2, .ref 59), (3, .int x3)] [] I L c := by
  refine gx_aload_n 1 dL_law_598 rfl rfl ?_
  refine gx_aload_n 0 dL_law_599 rfl rfl ?_
  refine gx_iload_n 3 dL_law_600 rfl rfl ?_
  refine gx_iconst (v := 1) dL_law_601 (by decide) ?_
  refine gx_iadd dL_law_602 ?_
  obtain ⟨hi, h⟩ := h
  refine gx_sld dL_law_603 hi ?_
  refine gx_aload_n 0 dL_law_604 rfl rfl ?_
  refine gx_iload_n 3 dL_law_605 rfl rfl ?_
  refine gx_iconst (v := 2) dL_law_606 (by decide) ?_
  refine gx_iadd dL_law_607 ?_
  obtain ⟨hi, h⟩ := h
  refine gx_sld dL_law_608 hi ?_
  refine gx_callV 10 (As := [.int (gS g (x3 + 1)), .int (gS g (x3 + 2))]) (st := []) dL_law_609 ml_L_64 mm_X10_come rfl rfl rfl rfl rfl rfl ⟨rfl, rfl⟩ h (fun v h2 hq => ?_)
  clear h
  obtain ⟨r4, I1, L2, c3, rfl, rfl, h⟩ := hq
  show ZL g nm 612 [(0, .ref 2501), (1, .ref 0), (2, .ref 59), (3, .int x3)] [.int r4] I1 L2 c3
  refine gx_aload_n 2 dL_law_612 rfl rfl ?_
  refine gx_aload_n 0 dL_law_613 rfl rfl ?_
  refine gx_iload_n 3 dL_law_614 rfl rfl ?_
  refine gx_iconst (v := 1) dL_law_615 (by decide) ?_
  refine gx_iadd dL_law_616 ?_
  obtain ⟨hi, h⟩ := h
  refine gx_sld dL_law_617 hi ?_
  refine gx_aload_n 0 dL_law_618 rfl rfl ?_
  refine gx_iload_n 3 dL_law_619 rfl rfl ?_
  refine gx_iconst (v := 2) dL_law_620 (by decide) ?_
  refine gx_iadd dL_law_621 ?_
  obtain ⟨hi, h⟩ := h
  refine gx_sld dL_law_622 hi ?_
  refine gx_callV 11 (As := [.int (gS g (x3 + 1)), .int (gS g (x3 + 2))]) (st := [.int r4]) dL_law_623 ml_L_67 mm_X11_come rfl rfl rfl rfl rfl rfl ⟨rfl, rfl⟩ h (fun v h2 hq => ?_)
  clear h
  obtain ⟨r8, I5, L6, c7, rfl, rfl, h⟩ := hq
  show ZL g nm 626 [(0, .ref 2501), (1, .ref 0), (2, .ref 59), (3, .int x3)] [.int r8, .int r4] I5 L6 c7
  refine gx_icmp_eq 1730 dL_law_626 (by decide) ⟨fun z => ?_, fun z => ?_⟩
  · replace h := h.1 z
    exact h
  · replace h := h.2 z
    refine gx_iconst (v := 0) dL_law_629 (by decide) ?_
    exact False.elim h
set_option maxRecDepth 100000 in
theorem r_law_631 {g : gm_G} {nm : String} {x3 : Int32} {I : mI} {L : mL} {c : gm_cfg} (h : (vp_in (x3 + 1) (gN g) ∧ (C_J_leader g (gS g (x3 + 1)) I L c (fun r4 I1 L2 c3 => (vp_in (x3 + 1) (gN g) ∧ (C_M_leader g (gS g (x3 + 1)) I1 L2 c3 (fun r8 I5 L6 c7 => ((r4 = r8 → ZL g nm 1730 [(0, .ref 2501), (1, .ref 0), (2, .ref 59), (3, .int x3)] [] I5 L6 c7) ∧ (¬ r4 = r8 → False))))))))) : ZL g nm 631 [(0, .ref 2501), (1, .ref 0), (2, .ref 59), (3, .int x3)] [] I L c := by
  refine gx_aload_n 1 dL_law_631 rfl rfl ?_
  refine gx_aload_n 0 dL_law_632 rfl rfl ?_
  refine gx_iload_n 3 dL_law_633 rfl rfl ?_
  refine gx_iconst (v := 1) dL_law_634 (by decide) ?_
  refine gx_iadd dL_law_635 ?_
  obtain ⟨hi, h⟩ := h
  refine gx_sld dL_law_636 hi ?_
  refine gx_callV 10 (As := [.int (gS g (x3 + 1))]) (st := []) dL_law_637 ml_L_68 mm_X10_leader rfl rfl rfl rfl rfl rfl ⟨rfl, rfl⟩ h (fun v h2 hq => ?_)
  clear h
  obtain ⟨r4, I1, L2, c3, rfl, rfl, h⟩ := hq
  show ZL g nm 640 [(0, .ref 2501), (1, .ref 0), (2, .ref 59), (3, .int x3)] [.int r4] I1 L2 c3
  refine gx_aload_n 2 dL_law_640 rfl rfl ?_
  refine gx_aload_n 0 dL_law_641 rfl rfl ?_
  refine gx_iload_n 3 dL_law_642 rfl rfl ?_
  refine gx_iconst (v := 1) dL_law_643 (by decide) ?_
  refine gx_iadd dL_law_644 ?_
  obtain ⟨hi, h⟩ := h
  refine gx_sld dL_law_645 hi ?_
  refine gx_callV 11 (As := [.int (gS g (x3 + 1))]) (st := [.int r4]) dL_law_646 ml_L_71 mm_X11_leader rfl rfl rfl rfl rfl rfl ⟨rfl, rfl⟩ h (fun v h2 hq => ?_)
  clear h
  obtain ⟨r8, I5, L6, c7, rfl, rfl, h⟩ := hq
  show ZL g nm 649 [(0, .ref 2501), (1, .ref 0), (2, .ref 59), (3, .int x3)] [.int r8, .int r4] I5 L6 c7
  refine gx_icmp_eq 1730 dL_law_649 (by decide) ⟨fun z => ?_, fun z => ?_⟩
  · replace h := h.1 z
    exact h
  · replace h := h.2 z
    refine gx_iconst (v := 0) dL_law_652 (by decide) ?_
    exact False.elim h
set_option maxRecDepth 100000 in
theorem r_law_654 {g : gm_G} {nm : String} {x3 : Int32} {I : mI} {L : mL} {c : gm_cfg} (h : (C_J_winner g I L c (fun r4 I1 L2 c3 => (C_M_winner g I1 L2 c3 (fun r8 I5 L6 c7 => ((r4 = r8 → ZL g nm 1730 [(0, .ref 2501), (1, .ref 0), (2, .ref 59), (3, .int x3)] [] I5 L6 c7) ∧ (¬ r4 = r8 → False))))))) : ZL g nm 654 [(0, .ref 2501), (1, .ref 0), (2, .ref 59), (3, .int x3)] [] I L c := by
  refine gx_aload_n 1 dL_law_654 rfl rfl ?_
  refine gx_callV 10 (As := []) (st := []) dL_law_655 ml_L_72 mm_X10_winner rfl rfl rfl rfl rfl rfl ⟨rfl, rfl⟩ h (fun v h2 hq => ?_)
  clear h
  obtain ⟨r4, I1, L2, c3, rfl, rfl, h⟩ := hq
  show ZL g nm 658 [(0, .ref 2501), (1, .ref 0), (2, .ref 59), (3, .int x3)] [.int r4] I1 L2 c3
  refine gx_aload_n 2 dL_law_658 rfl rfl ?_
  refine gx_callV 11 (As := []) (st := [.int r4]) dL_law_659 ml_L_76 mm_X11_winner rfl rfl rfl rfl rfl rfl ⟨rfl, rfl⟩ h (fun v h2 hq => ?_)
  clear h
  obtain ⟨r8, I5, L6, c7, rfl, rfl, h⟩ := hq
  show ZL g nm 662 [(0, .ref 2501), (1, .ref 0), (2, .ref 59), (3, .int x3)] [.int r8, .int r4] I5 L6 c7
  refine gx_icmp_eq 1730 dL_law_662 (by decide) ⟨fun z => ?_, fun z => ?_⟩
  · replace h := h.1 z
    exact h
  · replace h := h.2 z
    refine gx_iconst (v := 0) dL_law_665 (by decide) ?_
    exact False.elim h
set_option maxRecDepth 100000 in
theorem r_law_667 {g : gm_G} {nm : String} {x3 : Int32} {I : mI} {L : mL} {c : gm_cfg} (h : (vp_in (x3 + 1) (gN g) ∧ (vp_in (x3 + 2) (gN g) ∧ (C_J_wins g (gS g (x3 + 1)) (gS g (x3 + 2)) I L c (fun r4 I1 L2 c3 => (vp_in (x3 + 1) (gN g) ∧ (vp_in (x3 + 2) (gN g) ∧ (C_M_wins g (gS g (x3 + 1)) (gS g (x3 + 2)) I1 L2 c3 (fun r8 I5 L6 c7 => ((r4 = r8 → ZL g nm 1730 [(0, .ref 2501), (1, .ref 0), (2, .ref 59), (3, .int x3)] [] I5 L6 c7) ∧ (¬ r4 = r8 → False))))))))))) : ZL g nm 667 [(0, .ref 2501), (1, .ref 0), (2, .ref 59), (3, .int x3)] [] I L c := by
  refine gx_aload_n 1 dL_law_667 rfl rfl ?_
  refine gx_aload_n 0 dL_law_668 rfl rfl ?_
  refine gx_iload_n 3 dL_law_669 rfl rfl ?_
  refine gx_iconst (v := 1) dL_law_670 (by decide) ?_
  refine gx_iadd dL_law_671 ?_
  obtain ⟨hi, h⟩ := h
  refine gx_sld dL_law_672 hi ?_
  refine gx_aload_n 0 dL_law_673 rfl rfl ?_
  refine gx_iload_n 3 dL_law_674 rfl rfl ?_
  refine gx_iconst (v := 2) dL_law_675 (by decide) ?_
  refine gx_iadd dL_law_676 ?_
  obtain ⟨hi, h⟩ := h
  refine gx_sld dL_law_677 hi ?_
  refine gx_callV 10 (As := [.int (gS g (x3 + 1)), .int (gS g (x3 + 2))]) (st := []) dL_law_678 ml_L_77 mm_X10_wins rfl rfl rfl rfl rfl rfl ⟨rfl, rfl⟩ h (fun v h2 hq => ?_)
  clear h
  obtain ⟨r4, I1, L2, c3, rfl, rfl, h⟩ := hq
  show ZL g nm 681 [(0, .ref 2501), (1, .ref 0), (2, .ref 59), (3, .int x3)] [.int r4] I1 L2 c3
  refine gx_aload_n 2 dL_law_681 rfl rfl ?_
  refine gx_aload_n 0 dL_law_682 rfl rfl ?_
  refine gx_iload_n 3 dL_law_683 rfl rfl ?_
  refine gx_iconst (v := 1) dL_law_684 (by decide) ?_
  refine gx_iadd dL_law_685 ?_
  obtain ⟨hi, h⟩ := h
  refine gx_sld dL_law_686 hi ?_
  refine gx_aload_n 0 dL_law_687 rfl rfl ?_
  refine gx_iload_n 3 dL_law_688 rfl rfl ?_
  refine gx_iconst (v := 2) dL_law_689 (by decide) ?_
  refine gx_iadd dL_law_690 ?_
  obtain ⟨hi, h⟩ := h
  refine gx_sld dL_law_691 hi ?_
  refine gx_callV 11 (As := [.int (gS g (x3 + 1)), .int (gS g (x3 + 2))]) (st := [.int r4]) dL_law_692 ml_L_80 mm_X11_wins rfl rfl rfl rfl rfl rfl ⟨rfl, rfl⟩ h (fun v h2 hq => ?_)
  clear h
  obtain ⟨r8, I5, L6, c7, rfl, rfl, h⟩ := hq
  show ZL g nm 695 [(0, .ref 2501), (1, .ref 0), (2, .ref 59), (3, .int x3)] [.int r8, .int r4] I5 L6 c7
  refine gx_icmp_eq 1730 dL_law_695 (by decide) ⟨fun z => ?_, fun z => ?_⟩
  · replace h := h.1 z
    exact h
  · replace h := h.2 z
    refine gx_iconst (v := 0) dL_law_698 (by decide) ?_
    exact False.elim h
set_option maxRecDepth 100000 in
theorem r_law_700 {g : gm_G} {nm : String} {x3 : Int32} {I : mI} {L : mL} {c : gm_cfg} (h : (vp_in (x3 + 1) (gN g) ∧ (C_J_mean g (gS g (x3 + 1)) I L c (fun r4 I1 L2 c3 => (vp_in (x3 + 1) (gN g) ∧ (C_M_mean g (gS g (x3 + 1)) I1 L2 c3 (fun r8 I5 L6 c7 => ((r4 = r8 → ZL g nm 1730 [(0, .ref 2501), (1, .ref 0), (2, .ref 59), (3, .int x3)] [] I5 L6 c7) ∧ (¬ r4 = r8 → False))))))))) : ZL g nm 700 [(0, .ref 2501), (1, .ref 0), (2, .ref 59), (3, .int x3)] [] I L c := by
  refine gx_aload_n 1 dL_law_700 rfl rfl ?_
  refine gx_aload_n 0 dL_law_701 rfl rfl ?_
  refine gx_iload_n 3 dL_law_702 rfl rfl ?_
  refine gx_iconst (v := 1) dL_law_703 (by decide) ?_
  refine gx_iadd dL_law_704 ?_
  obtain ⟨hi, h⟩ := h
  refine gx_sld dL_law_705 hi ?_
  refine gx_callV 10 (As := [.int (gS g (x3 + 1))]) (st := []) dL_law_706 ml_L_81 mm_X10_mean rfl rfl rfl rfl rfl rfl ⟨rfl, rfl⟩ h (fun v h2 hq => ?_)
  clear h
  obtain ⟨r4, I1, L2, c3, rfl, rfl, h⟩ := hq
  show ZL g nm 709 [(0, .ref 2501), (1, .ref 0), (2, .ref 59), (3, .int x3)] [.int r4] I1 L2 c3
  refine gx_aload_n 2 dL_law_709 rfl rfl ?_
  refine gx_aload_n 0 dL_law_710 rfl rfl ?_
  refine gx_iload_n 3 dL_law_711 rfl rfl ?_
  refine gx_iconst (v := 1) dL_law_712 (by decide) ?_
  refine gx_iadd dL_law_713 ?_
  obtain ⟨hi, h⟩ := h
  refine gx_sld dL_law_714 hi ?_
  refine gx_callV 11 (As := [.int (gS g (x3 + 1))]) (st := [.int r4]) dL_law_715 ml_L_84 mm_X11_mean rfl rfl rfl rfl rfl rfl ⟨rfl, rfl⟩ h (fun v h2 hq => ?_)
  clear h
  obtain ⟨r8, I5, L6, c7, rfl, rfl, h⟩ := hq
  show ZL g nm 718 [(0, .ref 2501), (1, .ref 0), (2, .ref 59), (3, .int x3)] [.int r8, .int r4] I5 L6 c7
  refine gx_icmp_eq 1730 dL_law_718 (by decide) ⟨fun z => ?_, fun z => ?_⟩
  · replace h := h.1 z
    exact h
  · replace h := h.2 z
    refine gx_iconst (v := 0) dL_law_721 (by decide) ?_
    exact False.elim h
set_option maxRecDepth 100000 in
theorem r_law_723 {g : gm_G} {nm : String} {x3 : Int32} {I : mI} {L : mL} {c : gm_cfg} (h : (C_J_nearest g I L c (fun r4 I1 L2 c3 => (C_M_nearest g I1 L2 c3 (fun r8 I5 L6 c7 => ((r4 = r8 → ZL g nm 1730 [(0, .ref 2501), (1, .ref 0), (2, .ref 59), (3, .int x3)] [] I5 L6 c7) ∧ (¬ r4 = r8 → False))))))) : ZL g nm 723 [(0, .ref 2501), (1, .ref 0), (2, .ref 59), (3, .int x3)] [] I L c := by
  refine gx_aload_n 1 dL_law_723 rfl rfl ?_
  refine gx_callV 10 (As := []) (st := []) dL_law_724 ml_L_85 mm_X10_nearest rfl rfl rfl rfl rfl rfl ⟨rfl, rfl⟩ h (fun v h2 hq => ?_)
  clear h
  obtain ⟨r4, I1, L2, c3, rfl, rfl, h⟩ := hq
  show ZL g nm 727 [(0, .ref 2501), (1, .ref 0), (2, .ref 59), (3, .int x3)] [.int r4] I1 L2 c3
  refine gx_aload_n 2 dL_law_727 rfl rfl ?_
  refine gx_callV 11 (As := []) (st := [.int r4]) dL_law_728 ml_L_88 mm_X11_nearest rfl rfl rfl rfl rfl rfl ⟨rfl, rfl⟩ h (fun v h2 hq => ?_)
  clear h
  obtain ⟨r8, I5, L6, c7, rfl, rfl, h⟩ := hq
  show ZL g nm 731 [(0, .ref 2501), (1, .ref 0), (2, .ref 59), (3, .int x3)] [.int r8, .int r4] I5 L6 c7
  refine gx_icmp_eq 1730 dL_law_731 (by decide) ⟨fun z => ?_, fun z => ?_⟩
  · replace h := h.1 z
    exact h
  · replace h := h.2 z
    refine gx_iconst (v := 0) dL_law_734 (by decide) ?_
    exact False.elim h
set_option maxRecDepth 100000 in
theorem r_law_736 {g : gm_G} {nm : String} {x3 : Int32} {I : mI} {L : mL} {c : gm_cfg} (h : (vp_in (x3 + 1) (gN g) ∧ (vp_in (x3 + 2) (gN g) ∧ (C_J_odds g (gS g (x3 + 1)) (gS g (x3 + 2)) I L c (fun r4 I1 L2 c3 => (vp_in (x3 + 1) (gN g) ∧ (vp_in (x3 + 2) (gN g) ∧ (C_M_odds g (gS g (x3 + 1)) (gS g (x3 + 2)) I1 L2 c3 (fun r8 I5 L6 c7 => (((r4 : Int64) = r8 → ZL g nm 1730 [(0, .ref 2501), (1, .ref 0), (2, .ref 59), (3, .int x3)] [] I5 L6 c7) ∧ (¬ (r4 : Int64) = r8 → False))))))))))) : ZL g nm 736 [(0, .ref 2501), (1, .ref 0), (2, .ref 59), (3, .int x3)] [] I L c := by
  refine gx_aload_n 1 dL_law_736 rfl rfl ?_
  refine gx_aload_n 0 dL_law_737 rfl rfl ?_
  refine gx_iload_n 3 dL_law_738 rfl rfl ?_
  refine gx_iconst (v := 1) dL_law_739 (by decide) ?_
  refine gx_iadd dL_law_740 ?_
  obtain ⟨hi, h⟩ := h
  refine gx_sld dL_law_741 hi ?_
  refine gx_aload_n 0 dL_law_742 rfl rfl ?_
  refine gx_iload_n 3 dL_law_743 rfl rfl ?_
  refine gx_iconst (v := 2) dL_law_744 (by decide) ?_
  refine gx_iadd dL_law_745 ?_
  obtain ⟨hi, h⟩ := h
  refine gx_sld dL_law_746 hi ?_
  refine gx_callV 10 (As := [.int (gS g (x3 + 1)), .int (gS g (x3 + 2))]) (st := []) dL_law_747 ml_L_89 mm_X10_odds rfl rfl rfl rfl rfl rfl ⟨rfl, rfl⟩ h (fun v h2 hq => ?_)
  clear h
  obtain ⟨r4, I1, L2, c3, rfl, rfl, h⟩ := hq
  show ZL g nm 750 [(0, .ref 2501), (1, .ref 0), (2, .ref 59), (3, .int x3)] [.long r4] I1 L2 c3
  refine gx_aload_n 2 dL_law_750 rfl rfl ?_
  refine gx_aload_n 0 dL_law_751 rfl rfl ?_
  refine gx_iload_n 3 dL_law_752 rfl rfl ?_
  refine gx_iconst (v := 1) dL_law_753 (by decide) ?_
  refine gx_iadd dL_law_754 ?_
  obtain ⟨hi, h⟩ := h
  refine gx_sld dL_law_755 hi ?_
  refine gx_aload_n 0 dL_law_756 rfl rfl ?_
  refine gx_iload_n 3 dL_law_757 rfl rfl ?_
  refine gx_iconst (v := 2) dL_law_758 (by decide) ?_
  refine gx_iadd dL_law_759 ?_
  obtain ⟨hi, h⟩ := h
  refine gx_sld dL_law_760 hi ?_
  refine gx_callV 11 (As := [.int (gS g (x3 + 1)), .int (gS g (x3 + 2))]) (st := [.long r4]) dL_law_761 ml_L_93 mm_X11_odds rfl rfl rfl rfl rfl rfl ⟨rfl, rfl⟩ h (fun v h2 hq => ?_)
  clear h
  obtain ⟨r8, I5, L6, c7, rfl, rfl, h⟩ := hq
  show ZL g nm 764 [(0, .ref 2501), (1, .ref 0), (2, .ref 59), (3, .int x3)] [.long r8, .long r4] I5 L6 c7
  refine gx_lcmp_eq 1730 dL_law_764 dL_law_765 (by decide) ⟨fun z => ?_, fun z => ?_⟩
  · replace h := h.1 z
    exact h
  · replace h := h.2 z
    refine gx_iconst (v := 0) dL_law_768 (by decide) ?_
    exact False.elim h
set_option maxRecDepth 100000 in
theorem r_law_770 {g : gm_G} {nm : String} {x3 : Int32} {I : mI} {L : mL} {c : gm_cfg} (h : (vp_in (x3 + 1) (gN g) ∧ (C_J_out g (gS g (x3 + 1)) I L c (fun r4 I1 L2 c3 => (vp_in (x3 + 1) (gN g) ∧ (C_M_out g (gS g (x3 + 1)) I1 L2 c3 (fun r8 I5 L6 c7 => (((r4 : Int64) = r8 → ZL g nm 1730 [(0, .ref 2501), (1, .ref 0), (2, .ref 59), (3, .int x3)] [] I5 L6 c7) ∧ (¬ (r4 : Int64) = r8 → False))))))))) : ZL g nm 770 [(0, .ref 2501), (1, .ref 0), (2, .ref 59), (3, .int x3)] [] I L c := by
  refine gx_aload_n 1 dL_law_770 rfl rfl ?_
  refine gx_aload_n 0 dL_law_771 rfl rfl ?_
  refine gx_iload_n 3 dL_law_772 rfl rfl ?_
  refine gx_iconst (v := 1) dL_law_773 (by decide) ?_
  refine gx_iadd dL_law_774 ?_
  obtain ⟨hi, h⟩ := h
  refine gx_sld dL_law_775 hi ?_
  refine gx_callV 10 (As := [.int (gS g (x3 + 1))]) (st := []) dL_law_776 ml_L_94 mm_X10_out rfl rfl rfl rfl rfl rfl ⟨rfl, rfl⟩ h (fun v h2 hq => ?_)
  clear h
  obtain ⟨r4, I1, L2, c3, rfl, rfl, h⟩ := hq
  show ZL g nm 779 [(0, .ref 2501), (1, .ref 0), (2, .ref 59), (3, .int x3)] [.long r4] I1 L2 c3
  refine gx_aload_n 2 dL_law_779 rfl rfl ?_
  refine gx_aload_n 0 dL_law_780 rfl rfl ?_
  refine gx_iload_n 3 dL_law_781 rfl rfl ?_
  refine gx_iconst (v := 1) dL_law_782 (by decide) ?_
  refine gx_iadd dL_law_783 ?_
  obtain ⟨hi, h⟩ := h
  refine gx_sld dL_law_784 hi ?_
  refine gx_callV 11 (As := [.int (gS g (x3 + 1))]) (st := [.long r4]) dL_law_785 ml_L_98 mm_X11_out rfl rfl rfl rfl rfl rfl ⟨rfl, rfl⟩ h (fun v h2 hq => ?_)
  clear h
  obtain ⟨r8, I5, L6, c7, rfl, rfl, h⟩ := hq
  show ZL g nm 788 [(0, .ref 2501), (1, .ref 0), (2, .ref 59), (3, .int x3)] [.long r8, .long r4] I5 L6 c7
  refine gx_lcmp_eq 1730 dL_law_788 dL_law_789 (by decide) ⟨fun z => ?_, fun z => ?_⟩
  · replace h := h.1 z
    exact h
  · replace h := h.2 z
    refine gx_iconst (v := 0) dL_law_792 (by decide) ?_
    exact False.elim h
set_option maxRecDepth 100000 in
theorem r_law_794 {g : gm_G} {nm : String} {x3 : Int32} {I : mI} {L : mL} {c : gm_cfg} (h : (vp_in (x3 + 1) (gN g) ∧ (C_J_likeliest g (gS g (x3 + 1)) I L c (fun r4 I1 L2 c3 => (vp_in (x3 + 1) (gN g) ∧ (C_M_likeliest g (gS g (x3 + 1)) I1 L2 c3 (fun r8 I5 L6 c7 => ((r4 = r8 → ZL g nm 1730 [(0, .ref 2501), (1, .ref 0), (2, .ref 59), (3, .int x3)] [] I5 L6 c7) ∧ (¬ r4 = r8 → False))))))))) : ZL g nm 794 [(0, .ref 2501), (1, .ref 0), (2, .ref 59), (3, .int x3)] [] I L c := by
  refine gx_aload_n 1 dL_law_794 rfl rfl ?_
  refine gx_aload_n 0 dL_law_795 rfl rfl ?_
  refine gx_iload_n 3 dL_law_796 rfl rfl ?_
  refine gx_iconst (v := 1) dL_law_797 (by decide) ?_
  refine gx_iadd dL_law_798 ?_
  obtain ⟨hi, h⟩ := h
  refine gx_sld dL_law_799 hi ?_
  refine gx_callV 10 (As := [.int (gS g (x3 + 1))]) (st := []) dL_law_800 ml_L_99 mm_X10_likeliest rfl rfl rfl rfl rfl rfl ⟨rfl, rfl⟩ h (fun v h2 hq => ?_)
  clear h
  obtain ⟨r4, I1, L2, c3, rfl, rfl, h⟩ := hq
  show ZL g nm 803 [(0, .ref 2501), (1, .ref 0), (2, .ref 59), (3, .int x3)] [.int r4] I1 L2 c3
  refine gx_aload_n 2 dL_law_803 rfl rfl ?_
  refine gx_aload_n 0 dL_law_804 rfl rfl ?_
  refine gx_iload_n 3 dL_law_805 rfl rfl ?_
  refine gx_iconst (v := 1) dL_law_806 (by decide) ?_
  refine gx_iadd dL_law_807 ?_
  obtain ⟨hi, h⟩ := h
  refine gx_sld dL_law_808 hi ?_
  refine gx_callV 11 (As := [.int (gS g (x3 + 1))]) (st := [.int r4]) dL_law_809 ml_L_102 mm_X11_likeliest rfl rfl rfl rfl rfl rfl ⟨rfl, rfl⟩ h (fun v h2 hq => ?_)
  clear h
  obtain ⟨r8, I5, L6, c7, rfl, rfl, h⟩ := hq
  show ZL g nm 812 [(0, .ref 2501), (1, .ref 0), (2, .ref 59), (3, .int x3)] [.int r8, .int r4] I5 L6 c7
  refine gx_icmp_eq 1730 dL_law_812 (by decide) ⟨fun z => ?_, fun z => ?_⟩
  · replace h := h.1 z
    exact h
  · replace h := h.2 z
    refine gx_iconst (v := 0) dL_law_815 (by decide) ?_
    exact False.elim h
set_option maxRecDepth 100000 in
theorem r_law_817 {g : gm_G} {nm : String} {x3 : Int32} {I : mI} {L : mL} {c : gm_cfg} (h : (vp_in (x3 + 1) (gN g) ∧ (vp_in (x3 + 2) (gN g) ∧ (C_J_span g (gS g (x3 + 1)) (gS g (x3 + 2)) I L c (fun r4 I1 L2 c3 => (vp_in (x3 + 1) (gN g) ∧ (vp_in (x3 + 2) (gN g) ∧ (C_M_span g (gS g (x3 + 1)) (gS g (x3 + 2)) I1 L2 c3 (fun r8 I5 L6 c7 => ((r4 = r8 → ZL g nm 1730 [(0, .ref 2501), (1, .ref 0), (2, .ref 59), (3, .int x3)] [] I5 L6 c7) ∧ (¬ r4 = r8 → False))))))))))) : ZL g nm 817 [(0, .ref 2501), (1, .ref 0), (2, .ref 59), (3, .int x3)] [] I L c := by
  refine gx_aload_n 1 dL_law_817 rfl rfl ?_
  refine gx_aload_n 0 dL_law_818 rfl rfl ?_
  refine gx_iload_n 3 dL_law_819 rfl rfl ?_
  refine gx_iconst (v := 1) dL_law_820 (by decide) ?_
  refine gx_iadd dL_law_821 ?_
  obtain ⟨hi, h⟩ := h
  refine gx_sld dL_law_822 hi ?_
  refine gx_aload_n 0 dL_law_823 rfl rfl ?_
  refine gx_iload_n 3 dL_law_824 rfl rfl ?_
  refine gx_iconst (v := 2) dL_law_825 (by decide) ?_
  refine gx_iadd dL_law_826 ?_
  obtain ⟨hi, h⟩ := h
  refine gx_sld dL_law_827 hi ?_
  refine gx_callV 10 (As := [.int (gS g (x3 + 1)), .int (gS g (x3 + 2))]) (st := []) dL_law_828 ml_L_103 mm_X10_span rfl rfl rfl rfl rfl rfl ⟨rfl, rfl⟩ h (fun v h2 hq => ?_)
  clear h
  obtain ⟨r4, I1, L2, c3, rfl, rfl, h⟩ := hq
  show ZL g nm 831 [(0, .ref 2501), (1, .ref 0), (2, .ref 59), (3, .int x3)] [.int r4] I1 L2 c3
  refine gx_aload_n 2 dL_law_831 rfl rfl ?_
  refine gx_aload_n 0 dL_law_832 rfl rfl ?_
  refine gx_iload_n 3 dL_law_833 rfl rfl ?_
  refine gx_iconst (v := 1) dL_law_834 (by decide) ?_
  refine gx_iadd dL_law_835 ?_
  obtain ⟨hi, h⟩ := h
  refine gx_sld dL_law_836 hi ?_
  refine gx_aload_n 0 dL_law_837 rfl rfl ?_
  refine gx_iload_n 3 dL_law_838 rfl rfl ?_
  refine gx_iconst (v := 2) dL_law_839 (by decide) ?_
  refine gx_iadd dL_law_840 ?_
  obtain ⟨hi, h⟩ := h
  refine gx_sld dL_law_841 hi ?_
  refine gx_callV 11 (As := [.int (gS g (x3 + 1)), .int (gS g (x3 + 2))]) (st := [.int r4]) dL_law_842 ml_L_106 mm_X11_span rfl rfl rfl rfl rfl rfl ⟨rfl, rfl⟩ h (fun v h2 hq => ?_)
  clear h
  obtain ⟨r8, I5, L6, c7, rfl, rfl, h⟩ := hq
  show ZL g nm 845 [(0, .ref 2501), (1, .ref 0), (2, .ref 59), (3, .int x3)] [.int r8, .int r4] I5 L6 c7
  refine gx_icmp_eq 1730 dL_law_845 (by decide) ⟨fun z => ?_, fun z => ?_⟩
  · replace h := h.1 z
    exact h
  · replace h := h.2 z
    refine gx_iconst (v := 0) dL_law_848 (by decide) ?_
    exact False.elim h
set_option maxRecDepth 100000 in
theorem r_law_850 {g : gm_G} {nm : String} {x3 : Int32} {I : mI} {L : mL} {c : gm_cfg} (h : (vp_in (x3 + 1) (gN g) ∧ (vp_in (x3 + 2) (gN g) ∧ (C_J_expect g (gS g (x3 + 1)) (gS g (x3 + 2)) I L c (fun r4 I1 L2 c3 => (vp_in (x3 + 1) (gN g) ∧ (vp_in (x3 + 2) (gN g) ∧ (C_M_expect g (gS g (x3 + 1)) (gS g (x3 + 2)) I1 L2 c3 (fun r8 I5 L6 c7 => (((r4 : Int64) = r8 → ZL g nm 1730 [(0, .ref 2501), (1, .ref 0), (2, .ref 59), (3, .int x3)] [] I5 L6 c7) ∧ (¬ (r4 : Int64) = r8 → False))))))))))) : ZL g nm 850 [(0, .ref 2501), (1, .ref 0), (2, .ref 59), (3, .int x3)] [] I L c := by
  refine gx_aload_n 1 dL_law_850 rfl rfl ?_
  refine gx_aload_n 0 dL_law_851 rfl rfl ?_
  refine gx_iload_n 3 dL_law_852 rfl rfl ?_
  refine gx_iconst (v := 1) dL_law_853 (by decide) ?_
  refine gx_iadd dL_law_854 ?_
  obtain ⟨hi, h⟩ := h
  refine gx_sld dL_law_855 hi ?_
  refine gx_aload_n 0 dL_law_856 rfl rfl ?_
  refine gx_iload_n 3 dL_law_857 rfl rfl ?_
  refine gx_iconst (v := 2) dL_law_858 (by decide) ?_
  refine gx_iadd dL_law_859 ?_
  obtain ⟨hi, h⟩ := h
  refine gx_sld dL_law_860 hi ?_
  refine gx_callV 10 (As := [.int (gS g (x3 + 1)), .int (gS g (x3 + 2))]) (st := []) dL_law_861 ml_L_107 mm_X10_expect rfl rfl rfl rfl rfl rfl ⟨rfl, rfl⟩ h (fun v h2 hq => ?_)
  clear h
  obtain ⟨r4, I1, L2, c3, rfl, rfl, h⟩ := hq
  show ZL g nm 864 [(0, .ref 2501), (1, .ref 0), (2, .ref 59), (3, .int x3)] [.long r4] I1 L2 c3
  refine gx_aload_n 2 dL_law_864 rfl rfl ?_
  refine gx_aload_n 0 dL_law_865 rfl rfl ?_
  refine gx_iload_n 3 dL_law_866 rfl rfl ?_
  refine gx_iconst (v := 1) dL_law_867 (by decide) ?_
  refine gx_iadd dL_law_868 ?_
  obtain ⟨hi, h⟩ := h
  refine gx_sld dL_law_869 hi ?_
  refine gx_aload_n 0 dL_law_870 rfl rfl ?_
  refine gx_iload_n 3 dL_law_871 rfl rfl ?_
  refine gx_iconst (v := 2) dL_law_872 (by decide) ?_
  refine gx_iadd dL_law_873 ?_
  obtain ⟨hi, h⟩ := h
  refine gx_sld dL_law_874 hi ?_
  refine gx_callV 11 (As := [.int (gS g (x3 + 1)), .int (gS g (x3 + 2))]) (st := [.long r4]) dL_law_875 ml_L_110 mm_X11_expect rfl rfl rfl rfl rfl rfl ⟨rfl, rfl⟩ h (fun v h2 hq => ?_)
  clear h
  obtain ⟨r8, I5, L6, c7, rfl, rfl, h⟩ := hq
  show ZL g nm 878 [(0, .ref 2501), (1, .ref 0), (2, .ref 59), (3, .int x3)] [.long r8, .long r4] I5 L6 c7
  refine gx_lcmp_eq 1730 dL_law_878 dL_law_879 (by decide) ⟨fun z => ?_, fun z => ?_⟩
  · replace h := h.1 z
    exact h
  · replace h := h.2 z
    refine gx_iconst (v := 0) dL_law_882 (by decide) ?_
    exact False.elim h
set_option maxRecDepth 100000 in
theorem r_law_884 {g : gm_G} {nm : String} {x3 : Int32} {I : mI} {L : mL} {c : gm_cfg} (h : (vp_in (x3 + 1) (gN g) ∧ (vp_in (x3 + 2) (gN g) ∧ (C_J_copied g (gS g (x3 + 1)) (gS g (x3 + 2)) I L c (fun r4 I1 L2 c3 => (vp_in (x3 + 1) (gN g) ∧ (vp_in (x3 + 2) (gN g) ∧ (C_M_copied g (gS g (x3 + 1)) (gS g (x3 + 2)) I1 L2 c3 (fun r8 I5 L6 c7 => (((r4 : Int64) = r8 → ZL g nm 1730 [(0, .ref 2501), (1, .ref 0), (2, .ref 59), (3, .int x3)] [] I5 L6 c7) ∧ (¬ (r4 : Int64) = r8 → False))))))))))) : ZL g nm 884 [(0, .ref 2501), (1, .ref 0), (2, .ref 59), (3, .int x3)] [] I L c := by
  refine gx_aload_n 1 dL_law_884 rfl rfl ?_
  refine gx_aload_n 0 dL_law_885 rfl rfl ?_
  refine gx_iload_n 3 dL_law_886 rfl rfl ?_
  refine gx_iconst (v := 1) dL_law_887 (by decide) ?_
  refine gx_iadd dL_law_888 ?_
  obtain ⟨hi, h⟩ := h
  refine gx_sld dL_law_889 hi ?_
  refine gx_aload_n 0 dL_law_890 rfl rfl ?_
  refine gx_iload_n 3 dL_law_891 rfl rfl ?_
  refine gx_iconst (v := 2) dL_law_892 (by decide) ?_
  refine gx_iadd dL_law_893 ?_
  obtain ⟨hi, h⟩ := h
  refine gx_sld dL_law_894 hi ?_
  refine gx_callV 10 (As := [.int (gS g (x3 + 1)), .int (gS g (x3 + 2))]) (st := []) dL_law_895 ml_L_111 mm_X10_copied rfl rfl rfl rfl rfl rfl ⟨rfl, rfl⟩ h (fun v h2 hq => ?_)
  clear h
  obtain ⟨r4, I1, L2, c3, rfl, rfl, h⟩ := hq
  show ZL g nm 898 [(0, .ref 2501), (1, .ref 0), (2, .ref 59), (3, .int x3)] [.long r4] I1 L2 c3
  refine gx_aload_n 2 dL_law_898 rfl rfl ?_
  refine gx_aload_n 0 dL_law_899 rfl rfl ?_
  refine gx_iload_n 3 dL_law_900 rfl rfl ?_
  refine gx_iconst (v := 1) dL_law_901 (by decide) ?_
  refine gx_iadd dL_law_902 ?_
  obtain ⟨hi, h⟩ := h
  refine gx_sld dL_law_903 hi ?_
  refine gx_aload_n 0 dL_law_904 rfl rfl ?_
  refine gx_iload_n 3 dL_law_905 rfl rfl ?_
  refine gx_iconst (v := 2) dL_law_906 (by decide) ?_
  refine gx_iadd dL_law_907 ?_
  obtain ⟨hi, h⟩ := h
  refine gx_sld dL_law_908 hi ?_
  refine gx_callV 11 (As := [.int (gS g (x3 + 1)), .int (gS g (x3 + 2))]) (st := [.long r4]) dL_law_909 ml_L_114 mm_X11_copied rfl rfl rfl rfl rfl rfl ⟨rfl, rfl⟩ h (fun v h2 hq => ?_)
  clear h
  obtain ⟨r8, I5, L6, c7, rfl, rfl, h⟩ := hq
  show ZL g nm 912 [(0, .ref 2501), (1, .ref 0), (2, .ref 59), (3, .int x3)] [.long r8, .long r4] I5 L6 c7
  refine gx_lcmp_eq 1730 dL_law_912 dL_law_913 (by decide) ⟨fun z => ?_, fun z => ?_⟩
  · replace h := h.1 z
    exact h
  · replace h := h.2 z
    refine gx_iconst (v := 0) dL_law_916 (by decide) ?_
    exact False.elim h
set_option maxRecDepth 100000 in
theorem r_law_918 {g : gm_G} {nm : String} {x3 : Int32} {I : mI} {L : mL} {c : gm_cfg} (h : (vp_in (x3 + 1) (gN g) ∧ (C_J_copier g (gS g (x3 + 1)) I L c (fun r4 I1 L2 c3 => (vp_in (x3 + 1) (gN g) ∧ (C_M_copier g (gS g (x3 + 1)) I1 L2 c3 (fun r8 I5 L6 c7 => ((r4 = r8 → ZL g nm 1730 [(0, .ref 2501), (1, .ref 0), (2, .ref 59), (3, .int x3)] [] I5 L6 c7) ∧ (¬ r4 = r8 → False))))))))) : ZL g nm 918 [(0, .ref 2501), (1, .ref 0), (2, .ref 59), (3, .int x3)] [] I L c := by
  refine gx_aload_n 1 dL_law_918 rfl rfl ?_
  refine gx_aload_n 0 dL_law_919 rfl rfl ?_
  refine gx_iload_n 3 dL_law_920 rfl rfl ?_
  refine gx_iconst (v := 1) dL_law_921 (by decide) ?_
  refine gx_iadd dL_law_922 ?_
  obtain ⟨hi, h⟩ := h
  refine gx_sld dL_law_923 hi ?_
  refine gx_callV 10 (As := [.int (gS g (x3 + 1))]) (st := []) dL_law_924 ml_L_115 mm_X10_copier rfl rfl rfl rfl rfl rfl ⟨rfl, rfl⟩ h (fun v h2 hq => ?_)
  clear h
  obtain ⟨r4, I1, L2, c3, rfl, rfl, h⟩ := hq
  show ZL g nm 927 [(0, .ref 2501), (1, .ref 0), (2, .ref 59), (3, .int x3)] [.int r4] I1 L2 c3
  refine gx_aload_n 2 dL_law_927 rfl rfl ?_
  refine gx_aload_n 0 dL_law_928 rfl rfl ?_
  refine gx_iload_n 3 dL_law_929 rfl rfl ?_
  refine gx_iconst (v := 1) dL_law_930 (by decide) ?_
  refine gx_iadd dL_law_931 ?_
  obtain ⟨hi, h⟩ := h
  refine gx_sld dL_law_932 hi ?_
  refine gx_callV 11 (As := [.int (gS g (x3 + 1))]) (st := [.int r4]) dL_law_933 ml_L_118 mm_X11_copier rfl rfl rfl rfl rfl rfl ⟨rfl, rfl⟩ h (fun v h2 hq => ?_)
  clear h
  obtain ⟨r8, I5, L6, c7, rfl, rfl, h⟩ := hq
  show ZL g nm 936 [(0, .ref 2501), (1, .ref 0), (2, .ref 59), (3, .int x3)] [.int r8, .int r4] I5 L6 c7
  refine gx_icmp_eq 1730 dL_law_936 (by decide) ⟨fun z => ?_, fun z => ?_⟩
  · replace h := h.1 z
    exact h
  · replace h := h.2 z
    refine gx_iconst (v := 0) dL_law_939 (by decide) ?_
    exact False.elim h
set_option maxRecDepth 100000 in
theorem r_law_941 {g : gm_G} {nm : String} {x3 : Int32} {I : mI} {L : mL} {c : gm_cfg} (h : (vp_in (x3 + 1) (gN g) ∧ (vp_in (x3 + 2) (gN g) ∧ (C_J_chance g (gS g (x3 + 1)) (gS g (x3 + 2)) I L c (fun r4 I1 L2 c3 => (vp_in (x3 + 1) (gN g) ∧ (vp_in (x3 + 2) (gN g) ∧ (C_M_chance g (gS g (x3 + 1)) (gS g (x3 + 2)) I1 L2 c3 (fun r8 I5 L6 c7 => (((r4 : Int64) = r8 → ZL g nm 1730 [(0, .ref 2501), (1, .ref 0), (2, .ref 59), (3, .int x3)] [] I5 L6 c7) ∧ (¬ (r4 : Int64) = r8 → False))))))))))) : ZL g nm 941 [(0, .ref 2501), (1, .ref 0), (2, .ref 59), (3, .int x3)] [] I L c := by
  refine gx_aload_n 1 dL_law_941 rfl rfl ?_
  refine gx_aload_n 0 dL_law_942 rfl rfl ?_
  refine gx_iload_n 3 dL_law_943 rfl rfl ?_
  refine gx_iconst (v := 1) dL_law_944 (by decide) ?_
  refine gx_iadd dL_law_945 ?_
  obtain ⟨hi, h⟩ := h
  refine gx_sld dL_law_946 hi ?_
  refine gx_aload_n 0 dL_law_947 rfl rfl ?_
  refine gx_iload_n 3 dL_law_948 rfl rfl ?_
  refine gx_iconst (v := 2) dL_law_949 (by decide) ?_
  refine gx_iadd dL_law_950 ?_
  obtain ⟨hi, h⟩ := h
  refine gx_sld dL_law_951 hi ?_
  refine gx_callV 10 (As := [.int (gS g (x3 + 1)), .int (gS g (x3 + 2))]) (st := []) dL_law_952 ml_L_119 mm_X10_chance rfl rfl rfl rfl rfl rfl ⟨rfl, rfl⟩ h (fun v h2 hq => ?_)
  clear h
  obtain ⟨r4, I1, L2, c3, rfl, rfl, h⟩ := hq
  show ZL g nm 955 [(0, .ref 2501), (1, .ref 0), (2, .ref 59), (3, .int x3)] [.long r4] I1 L2 c3
  refine gx_aload_n 2 dL_law_955 rfl rfl ?_
  refine gx_aload_n 0 dL_law_956 rfl rfl ?_
  refine gx_iload_n 3 dL_law_957 rfl rfl ?_
  refine gx_iconst (v := 1) dL_law_958 (by decide) ?_
  refine gx_iadd dL_law_959 ?_
  obtain ⟨hi, h⟩ := h
  refine gx_sld dL_law_960 hi ?_
  refine gx_aload_n 0 dL_law_961 rfl rfl ?_
  refine gx_iload_n 3 dL_law_962 rfl rfl ?_
  refine gx_iconst (v := 2) dL_law_963 (by decide) ?_
  refine gx_iadd dL_law_964 ?_
  obtain ⟨hi, h⟩ := h
  refine gx_sld dL_law_965 hi ?_
  refine gx_callV 11 (As := [.int (gS g (x3 + 1)), .int (gS g (x3 + 2))]) (st := [.long r4]) dL_law_966 ml_L_122 mm_X11_chance rfl rfl rfl rfl rfl rfl ⟨rfl, rfl⟩ h (fun v h2 hq => ?_)
  clear h
  obtain ⟨r8, I5, L6, c7, rfl, rfl, h⟩ := hq
  show ZL g nm 969 [(0, .ref 2501), (1, .ref 0), (2, .ref 59), (3, .int x3)] [.long r8, .long r4] I5 L6 c7
  refine gx_lcmp_eq 1730 dL_law_969 dL_law_970 (by decide) ⟨fun z => ?_, fun z => ?_⟩
  · replace h := h.1 z
    exact h
  · replace h := h.2 z
    refine gx_iconst (v := 0) dL_law_973 (by decide) ?_
    exact False.elim h
set_option maxRecDepth 100000 in
theorem r_law_975 {g : gm_G} {nm : String} {x3 : Int32} {I : mI} {L : mL} {c : gm_cfg} (h : (vp_in (x3 + 1) (gN g) ∧ (vp_in (x3 + 2) (gN g) ∧ (C_J_best g (gS g (x3 + 1)) (gS g (x3 + 2)) I L c (fun r4 I1 L2 c3 => (vp_in (x3 + 1) (gN g) ∧ (vp_in (x3 + 2) (gN g) ∧ (C_M_best g (gS g (x3 + 1)) (gS g (x3 + 2)) I1 L2 c3 (fun r8 I5 L6 c7 => (((r4 : Int64) = r8 → ZL g nm 1730 [(0, .ref 2501), (1, .ref 0), (2, .ref 59), (3, .int x3)] [] I5 L6 c7) ∧ (¬ (r4 : Int64) = r8 → False))))))))))) : ZL g nm 975 [(0, .ref 2501), (1, .ref 0), (2, .ref 59), (3, .int x3)] [] I L c := by
  refine gx_aload_n 1 dL_law_975 rfl rfl ?_
  refine gx_aload_n 0 dL_law_976 rfl rfl ?_
  refine gx_iload_n 3 dL_law_977 rfl rfl ?_
  refine gx_iconst (v := 1) dL_law_978 (by decide) ?_
  refine gx_iadd dL_law_979 ?_
  obtain ⟨hi, h⟩ := h
  refine gx_sld dL_law_980 hi ?_
  refine gx_aload_n 0 dL_law_981 rfl rfl ?_
  refine gx_iload_n 3 dL_law_982 rfl rfl ?_
  refine gx_iconst (v := 2) dL_law_983 (by decide) ?_
  refine gx_iadd dL_law_984 ?_
  obtain ⟨hi, h⟩ := h
  refine gx_sld dL_law_985 hi ?_
  refine gx_callV 10 (As := [.int (gS g (x3 + 1)), .int (gS g (x3 + 2))]) (st := []) dL_law_986 ml_L_123 mm_X10_best rfl rfl rfl rfl rfl rfl ⟨rfl, rfl⟩ h (fun v h2 hq => ?_)
  clear h
  obtain ⟨r4, I1, L2, c3, rfl, rfl, h⟩ := hq
  show ZL g nm 989 [(0, .ref 2501), (1, .ref 0), (2, .ref 59), (3, .int x3)] [.long r4] I1 L2 c3
  refine gx_aload_n 2 dL_law_989 rfl rfl ?_
  refine gx_aload_n 0 dL_law_990 rfl rfl ?_
  refine gx_iload_n 3 dL_law_991 rfl rfl ?_
  refine gx_iconst (v := 1) dL_law_992 (by decide) ?_
  refine gx_iadd dL_law_993 ?_
  obtain ⟨hi, h⟩ := h
  refine gx_sld dL_law_994 hi ?_
  refine gx_aload_n 0 dL_law_995 rfl rfl ?_
  refine gx_iload_n 3 dL_law_996 rfl rfl ?_
  refine gx_iconst (v := 2) dL_law_997 (by decide) ?_
  refine gx_iadd dL_law_998 ?_
  obtain ⟨hi, h⟩ := h
  refine gx_sld dL_law_999 hi ?_
  refine gx_callV 11 (As := [.int (gS g (x3 + 1)), .int (gS g (x3 + 2))]) (st := [.long r4]) dL_law_1000 ml_L_126 mm_X11_best rfl rfl rfl rfl rfl rfl ⟨rfl, rfl⟩ h (fun v h2 hq => ?_)
  clear h
  obtain ⟨r8, I5, L6, c7, rfl, rfl, h⟩ := hq
  show ZL g nm 1003 [(0, .ref 2501), (1, .ref 0), (2, .ref 59), (3, .int x3)] [.long r8, .long r4] I5 L6 c7
  refine gx_lcmp_eq 1730 dL_law_1003 dL_law_1004 (by decide) ⟨fun z => ?_, fun z => ?_⟩
  · replace h := h.1 z
    exact h
  · replace h := h.2 z
    refine gx_iconst (v := 0) dL_law_1007 (by decide) ?_
    exact False.elim h
set_option maxRecDepth 100000 in
theorem r_law_1009 {g : gm_G} {nm : String} {x3 : Int32} {I : mI} {L : mL} {c : gm_cfg} (h : (vp_in (x3 + 1) (gN g) ∧ (vp_in (x3 + 2) (gN g) ∧ (C_J_bestTwo g (gS g (x3 + 1)) (gS g (x3 + 2)) I L c (fun r4 I1 L2 c3 => (vp_in (x3 + 1) (gN g) ∧ (vp_in (x3 + 2) (gN g) ∧ (C_M_bestTwo g (gS g (x3 + 1)) (gS g (x3 + 2)) I1 L2 c3 (fun r8 I5 L6 c7 => (((r4 : Int64) = r8 → ZL g nm 1730 [(0, .ref 2501), (1, .ref 0), (2, .ref 59), (3, .int x3)] [] I5 L6 c7) ∧ (¬ (r4 : Int64) = r8 → False))))))))))) : ZL g nm 1009 [(0, .ref 2501), (1, .ref 0), (2, .ref 59), (3, .int x3)] [] I L c := by
  refine gx_aload_n 1 dL_law_1009 rfl rfl ?_
  refine gx_aload_n 0 dL_law_1010 rfl rfl ?_
  refine gx_iload_n 3 dL_law_1011 rfl rfl ?_
  refine gx_iconst (v := 1) dL_law_1012 (by decide) ?_
  refine gx_iadd dL_law_1013 ?_
  obtain ⟨hi, h⟩ := h
  refine gx_sld dL_law_1014 hi ?_
  refine gx_aload_n 0 dL_law_1015 rfl rfl ?_
  refine gx_iload_n 3 dL_law_1016 rfl rfl ?_
  refine gx_iconst (v := 2) dL_law_1017 (by decide) ?_
  refine gx_iadd dL_law_1018 ?_
  obtain ⟨hi, h⟩ := h
  refine gx_sld dL_law_1019 hi ?_
  refine gx_callV 10 (As := [.int (gS g (x3 + 1)), .int (gS g (x3 + 2))]) (st := []) dL_law_1020 ml_L_127 mm_X10_bestTwo rfl rfl rfl rfl rfl rfl ⟨rfl, rfl⟩ h (fun v h2 hq => ?_)
  clear h
  obtain ⟨r4, I1, L2, c3, rfl, rfl, h⟩ := hq
  show ZL g nm 1023 [(0, .ref 2501), (1, .ref 0), (2, .ref 59), (3, .int x3)] [.long r4] I1 L2 c3
  refine gx_aload_n 2 dL_law_1023 rfl rfl ?_
  refine gx_aload_n 0 dL_law_1024 rfl rfl ?_
  refine gx_iload_n 3 dL_law_1025 rfl rfl ?_
  refine gx_iconst (v := 1) dL_law_1026 (by decide) ?_
  refine gx_iadd dL_law_1027 ?_
  obtain ⟨hi, h⟩ := h
  refine gx_sld dL_law_1028 hi ?_
  refine gx_aload_n 0 dL_law_1029 rfl rfl ?_
  refine gx_iload_n 3 dL_law_1030 rfl rfl ?_
  refine gx_iconst (v := 2) dL_law_1031 (by decide) ?_
  refine gx_iadd dL_law_1032 ?_
  obtain ⟨hi, h⟩ := h
  refine gx_sld dL_law_1033 hi ?_
  refine gx_callV 11 (As := [.int (gS g (x3 + 1)), .int (gS g (x3 + 2))]) (st := [.long r4]) dL_law_1034 ml_L_130 mm_X11_bestTwo rfl rfl rfl rfl rfl rfl ⟨rfl, rfl⟩ h (fun v h2 hq => ?_)
  clear h
  obtain ⟨r8, I5, L6, c7, rfl, rfl, h⟩ := hq
  show ZL g nm 1037 [(0, .ref 2501), (1, .ref 0), (2, .ref 59), (3, .int x3)] [.long r8, .long r4] I5 L6 c7
  refine gx_lcmp_eq 1730 dL_law_1037 dL_law_1038 (by decide) ⟨fun z => ?_, fun z => ?_⟩
  · replace h := h.1 z
    exact h
  · replace h := h.2 z
    refine gx_iconst (v := 0) dL_law_1041 (by decide) ?_
    exact False.elim h
set_option maxRecDepth 100000 in
theorem r_law_1043 {g : gm_G} {nm : String} {x3 : Int32} {I : mI} {L : mL} {c : gm_cfg} (h : (vp_in (x3 + 1) (gN g) ∧ (vp_in (x3 + 2) (gN g) ∧ (C_J_behind g (gS g (x3 + 1)) (gS g (x3 + 2)) I L c (fun r4 I1 L2 c3 => (vp_in (x3 + 1) (gN g) ∧ (vp_in (x3 + 2) (gN g) ∧ (C_M_behind g (gS g (x3 + 1)) (gS g (x3 + 2)) I1 L2 c3 (fun r8 I5 L6 c7 => (((r4 : Int64) = r8 → ZL g nm 1730 [(0, .ref 2501), (1, .ref 0), (2, .ref 59), (3, .int x3)] [] I5 L6 c7) ∧ (¬ (r4 : Int64) = r8 → False))))))))))) : ZL g nm 1043 [(0, .ref 2501), (1, .ref 0), (2, .ref 59), (3, .int x3)] [] I L c := by
  refine gx_aload_n 1 dL_law_1043 rfl rfl ?_
  refine gx_aload_n 0 dL_law_1044 rfl rfl ?_
  refine gx_iload_n 3 dL_law_1045 rfl rfl ?_
  refine gx_iconst (v := 1) dL_law_1046 (by decide) ?_
  refine gx_iadd dL_law_1047 ?_
  obtain ⟨hi, h⟩ := h
  refine gx_sld dL_law_1048 hi ?_
  refine gx_aload_n 0 dL_law_1049 rfl rfl ?_
  refine gx_iload_n 3 dL_law_1050 rfl rfl ?_
  refine gx_iconst (v := 2) dL_law_1051 (by decide) ?_
  refine gx_iadd dL_law_1052 ?_
  obtain ⟨hi, h⟩ := h
  refine gx_sld dL_law_1053 hi ?_
  refine gx_callV 10 (As := [.int (gS g (x3 + 1)), .int (gS g (x3 + 2))]) (st := []) dL_law_1054 ml_L_131 mm_X10_behind rfl rfl rfl rfl rfl rfl ⟨rfl, rfl⟩ h (fun v h2 hq => ?_)
  clear h
  obtain ⟨r4, I1, L2, c3, rfl, rfl, h⟩ := hq
  show ZL g nm 1057 [(0, .ref 2501), (1, .ref 0), (2, .ref 59), (3, .int x3)] [.long r4] I1 L2 c3
  refine gx_aload_n 2 dL_law_1057 rfl rfl ?_
  refine gx_aload_n 0 dL_law_1058 rfl rfl ?_
  refine gx_iload_n 3 dL_law_1059 rfl rfl ?_
  refine gx_iconst (v := 1) dL_law_1060 (by decide) ?_
  refine gx_iadd dL_law_1061 ?_
  obtain ⟨hi, h⟩ := h
  refine gx_sld dL_law_1062 hi ?_
  refine gx_aload_n 0 dL_law_1063 rfl rfl ?_
  refine gx_iload_n 3 dL_law_1064 rfl rfl ?_
  refine gx_iconst (v := 2) dL_law_1065 (by decide) ?_
  refine gx_iadd dL_law_1066 ?_
  obtain ⟨hi, h⟩ := h
  refine gx_sld dL_law_1067 hi ?_
  refine gx_callV 11 (As := [.int (gS g (x3 + 1)), .int (gS g (x3 + 2))]) (st := [.long r4]) dL_law_1068 ml_L_134 mm_X11_behind rfl rfl rfl rfl rfl rfl ⟨rfl, rfl⟩ h (fun v h2 hq => ?_)
  clear h
  obtain ⟨r8, I5, L6, c7, rfl, rfl, h⟩ := hq
  show ZL g nm 1071 [(0, .ref 2501), (1, .ref 0), (2, .ref 59), (3, .int x3)] [.long r8, .long r4] I5 L6 c7
  refine gx_lcmp_eq 1730 dL_law_1071 dL_law_1072 (by decide) ⟨fun z => ?_, fun z => ?_⟩
  · replace h := h.1 z
    exact h
  · replace h := h.2 z
    refine gx_iconst (v := 0) dL_law_1075 (by decide) ?_
    exact False.elim h
set_option maxRecDepth 100000 in
theorem r_law_1077 {g : gm_G} {nm : String} {x3 : Int32} {I : mI} {L : mL} {c : gm_cfg} (h : (vp_in (x3 + 1) (gN g) ∧ (vp_in (x3 + 2) (gN g) ∧ (C_J_waits g (gS g (x3 + 1)) (gS g (x3 + 2)) I L c (fun r4 I1 L2 c3 => (vp_in (x3 + 1) (gN g) ∧ (vp_in (x3 + 2) (gN g) ∧ (C_M_waits g (gS g (x3 + 1)) (gS g (x3 + 2)) I1 L2 c3 (fun r8 I5 L6 c7 => (((r4 : Int64) = r8 → ZL g nm 1730 [(0, .ref 2501), (1, .ref 0), (2, .ref 59), (3, .int x3)] [] I5 L6 c7) ∧ (¬ (r4 : Int64) = r8 → False))))))))))) : ZL g nm 1077 [(0, .ref 2501), (1, .ref 0), (2, .ref 59), (3, .int x3)] [] I L c := by
  refine gx_aload_n 1 dL_law_1077 rfl rfl ?_
  refine gx_aload_n 0 dL_law_1078 rfl rfl ?_
  refine gx_iload_n 3 dL_law_1079 rfl rfl ?_
  refine gx_iconst (v := 1) dL_law_1080 (by decide) ?_
  refine gx_iadd dL_law_1081 ?_
  obtain ⟨hi, h⟩ := h
  refine gx_sld dL_law_1082 hi ?_
  refine gx_aload_n 0 dL_law_1083 rfl rfl ?_
  refine gx_iload_n 3 dL_law_1084 rfl rfl ?_
  refine gx_iconst (v := 2) dL_law_1085 (by decide) ?_
  refine gx_iadd dL_law_1086 ?_
  obtain ⟨hi, h⟩ := h
  refine gx_sld dL_law_1087 hi ?_
  refine gx_callV 10 (As := [.int (gS g (x3 + 1)), .int (gS g (x3 + 2))]) (st := []) dL_law_1088 ml_L_135 mm_X10_waits rfl rfl rfl rfl rfl rfl ⟨rfl, rfl⟩ h (fun v h2 hq => ?_)
  clear h
  obtain ⟨r4, I1, L2, c3, rfl, rfl, h⟩ := hq
  show ZL g nm 1091 [(0, .ref 2501), (1, .ref 0), (2, .ref 59), (3, .int x3)] [.long r4] I1 L2 c3
  refine gx_aload_n 2 dL_law_1091 rfl rfl ?_
  refine gx_aload_n 0 dL_law_1092 rfl rfl ?_
  refine gx_iload_n 3 dL_law_1093 rfl rfl ?_
  refine gx_iconst (v := 1) dL_law_1094 (by decide) ?_
  refine gx_iadd dL_law_1095 ?_
  obtain ⟨hi, h⟩ := h
  refine gx_sld dL_law_1096 hi ?_
  refine gx_aload_n 0 dL_law_1097 rfl rfl ?_
  refine gx_iload_n 3 dL_law_1098 rfl rfl ?_
  refine gx_iconst (v := 2) dL_law_1099 (by decide) ?_
  refine gx_iadd dL_law_1100 ?_
  obtain ⟨hi, h⟩ := h
  refine gx_sld dL_law_1101 hi ?_
  refine gx_callV 11 (As := [.int (gS g (x3 + 1)), .int (gS g (x3 + 2))]) (st := [.long r4]) dL_law_1102 ml_L_138 mm_X11_waits rfl rfl rfl rfl rfl rfl ⟨rfl, rfl⟩ h (fun v h2 hq => ?_)
  clear h
  obtain ⟨r8, I5, L6, c7, rfl, rfl, h⟩ := hq
  show ZL g nm 1105 [(0, .ref 2501), (1, .ref 0), (2, .ref 59), (3, .int x3)] [.long r8, .long r4] I5 L6 c7
  refine gx_lcmp_eq 1730 dL_law_1105 dL_law_1106 (by decide) ⟨fun z => ?_, fun z => ?_⟩
  · replace h := h.1 z
    exact h
  · replace h := h.2 z
    refine gx_iconst (v := 0) dL_law_1109 (by decide) ?_
    exact False.elim h
set_option maxRecDepth 100000 in
theorem r_law_1111 {g : gm_G} {nm : String} {x3 : Int32} {I : mI} {L : mL} {c : gm_cfg} (h : (vp_in (x3 + 1) (gN g) ∧ (vp_in (x3 + 2) (gN g) ∧ (C_J_waysOf g (gS g (x3 + 1)) (gS g (x3 + 2)) I L c (fun r4 I1 L2 c3 => (vp_in (x3 + 1) (gN g) ∧ (vp_in (x3 + 2) (gN g) ∧ (C_M_waysOf g (gS g (x3 + 1)) (gS g (x3 + 2)) I1 L2 c3 (fun r8 I5 L6 c7 => (((r4 : Int64) = r8 → ZL g nm 1730 [(0, .ref 2501), (1, .ref 0), (2, .ref 59), (3, .int x3)] [] I5 L6 c7) ∧ (¬ (r4 : Int64) = r8 → False))))))))))) : ZL g nm 1111 [(0, .ref 2501), (1, .ref 0), (2, .ref 59), (3, .int x3)] [] I L c := by
  refine gx_aload_n 1 dL_law_1111 rfl rfl ?_
  refine gx_aload_n 0 dL_law_1112 rfl rfl ?_
  refine gx_iload_n 3 dL_law_1113 rfl rfl ?_
  refine gx_iconst (v := 1) dL_law_1114 (by decide) ?_
  refine gx_iadd dL_law_1115 ?_
  obtain ⟨hi, h⟩ := h
  refine gx_sld dL_law_1116 hi ?_
  refine gx_aload_n 0 dL_law_1117 rfl rfl ?_
  refine gx_iload_n 3 dL_law_1118 rfl rfl ?_
  refine gx_iconst (v := 2) dL_law_1119 (by decide) ?_
  refine gx_iadd dL_law_1120 ?_
  obtain ⟨hi, h⟩ := h
  refine gx_sld dL_law_1121 hi ?_
  refine gx_callV 10 (As := [.int (gS g (x3 + 1)), .int (gS g (x3 + 2))]) (st := []) dL_law_1122 ml_L_139 mm_X10_waysOf rfl rfl rfl rfl rfl rfl ⟨rfl, rfl⟩ h (fun v h2 hq => ?_)
  clear h
  obtain ⟨r4, I1, L2, c3, rfl, rfl, h⟩ := hq
  show ZL g nm 1125 [(0, .ref 2501), (1, .ref 0), (2, .ref 59), (3, .int x3)] [.long r4] I1 L2 c3
  refine gx_aload_n 2 dL_law_1125 rfl rfl ?_
  refine gx_aload_n 0 dL_law_1126 rfl rfl ?_
  refine gx_iload_n 3 dL_law_1127 rfl rfl ?_
  refine gx_iconst (v := 1) dL_law_1128 (by decide) ?_
  refine gx_iadd dL_law_1129 ?_
  obtain ⟨hi, h⟩ := h
  refine gx_sld dL_law_1130 hi ?_
  refine gx_aload_n 0 dL_law_1131 rfl rfl ?_
  refine gx_iload_n 3 dL_law_1132 rfl rfl ?_
  refine gx_iconst (v := 2) dL_law_1133 (by decide) ?_
  refine gx_iadd dL_law_1134 ?_
  obtain ⟨hi, h⟩ := h
  refine gx_sld dL_law_1135 hi ?_
  refine gx_callV 11 (As := [.int (gS g (x3 + 1)), .int (gS g (x3 + 2))]) (st := [.long r4]) dL_law_1136 ml_L_142 mm_X11_waysOf rfl rfl rfl rfl rfl rfl ⟨rfl, rfl⟩ h (fun v h2 hq => ?_)
  clear h
  obtain ⟨r8, I5, L6, c7, rfl, rfl, h⟩ := hq
  show ZL g nm 1139 [(0, .ref 2501), (1, .ref 0), (2, .ref 59), (3, .int x3)] [.long r8, .long r4] I5 L6 c7
  refine gx_lcmp_eq 1730 dL_law_1139 dL_law_1140 (by decide) ⟨fun z => ?_, fun z => ?_⟩
  · replace h := h.1 z
    exact h
  · replace h := h.2 z
    refine gx_iconst (v := 0) dL_law_1143 (by decide) ?_
    exact False.elim h
set_option maxRecDepth 100000 in
theorem r_law_1145 {g : gm_G} {nm : String} {x3 : Int32} {I : mI} {L : mL} {c : gm_cfg} (h : (vp_in (x3 + 1) (gN g) ∧ (vp_in (x3 + 2) (gN g) ∧ (C_J_shutIn g (gS g (x3 + 1)) (gS g (x3 + 2)) I L c (fun r4 I1 L2 c3 => (vp_in (x3 + 1) (gN g) ∧ (vp_in (x3 + 2) (gN g) ∧ (C_M_shutIn g (gS g (x3 + 1)) (gS g (x3 + 2)) I1 L2 c3 (fun r8 I5 L6 c7 => (((r4 : Int64) = r8 → ZL g nm 1730 [(0, .ref 2501), (1, .ref 0), (2, .ref 59), (3, .int x3)] [] I5 L6 c7) ∧ (¬ (r4 : Int64) = r8 → False))))))))))) : ZL g nm 1145 [(0, .ref 2501), (1, .ref 0), (2, .ref 59), (3, .int x3)] [] I L c := by
  refine gx_aload_n 1 dL_law_1145 rfl rfl ?_
  refine gx_aload_n 0 dL_law_1146 rfl rfl ?_
  refine gx_iload_n 3 dL_law_1147 rfl rfl ?_
  refine gx_iconst (v := 1) dL_law_1148 (by decide) ?_
  refine gx_iadd dL_law_1149 ?_
  obtain ⟨hi, h⟩ := h
  refine gx_sld dL_law_1150 hi ?_
  refine gx_aload_n 0 dL_law_1151 rfl rfl ?_
  refine gx_iload_n 3 dL_law_1152 rfl rfl ?_
  refine gx_iconst (v := 2) dL_law_1153 (by decide) ?_
  refine gx_iadd dL_law_1154 ?_
  obtain ⟨hi, h⟩ := h
  refine gx_sld dL_law_1155 hi ?_
  refine gx_callV 10 (As := [.int (gS g (x3 + 1)), .int (gS g (x3 + 2))]) (st := []) dL_law_1156 ml_L_143 mm_X10_shutIn rfl rfl rfl rfl rfl rfl ⟨rfl, rfl⟩ h (fun v h2 hq => ?_)
  clear h
  obtain ⟨r4, I1, L2, c3, rfl, rfl, h⟩ := hq
  show ZL g nm 1159 [(0, .ref 2501), (1, .ref 0), (2, .ref 59), (3, .int x3)] [.long r4] I1 L2 c3
  refine gx_aload_n 2 dL_law_1159 rfl rfl ?_
  refine gx_aload_n 0 dL_law_1160 rfl rfl ?_
  refine gx_iload_n 3 dL_law_1161 rfl rfl ?_
  refine gx_iconst (v := 1) dL_law_1162 (by decide) ?_
  refine gx_iadd dL_law_1163 ?_
  obtain ⟨hi, h⟩ := h
  refine gx_sld dL_law_1164 hi ?_
  refine gx_aload_n 0 dL_law_1165 rfl rfl ?_
  refine gx_iload_n 3 dL_law_1166 rfl rfl ?_
  refine gx_iconst (v := 2) dL_law_1167 (by decide) ?_
  refine gx_iadd dL_law_1168 ?_
  obtain ⟨hi, h⟩ := h
  refine gx_sld dL_law_1169 hi ?_
  refine gx_callV 11 (As := [.int (gS g (x3 + 1)), .int (gS g (x3 + 2))]) (st := [.long r4]) dL_law_1170 ml_L_146 mm_X11_shutIn rfl rfl rfl rfl rfl rfl ⟨rfl, rfl⟩ h (fun v h2 hq => ?_)
  clear h
  obtain ⟨r8, I5, L6, c7, rfl, rfl, h⟩ := hq
  show ZL g nm 1173 [(0, .ref 2501), (1, .ref 0), (2, .ref 59), (3, .int x3)] [.long r8, .long r4] I5 L6 c7
  refine gx_lcmp_eq 1730 dL_law_1173 dL_law_1174 (by decide) ⟨fun z => ?_, fun z => ?_⟩
  · replace h := h.1 z
    exact h
  · replace h := h.2 z
    refine gx_iconst (v := 0) dL_law_1177 (by decide) ?_
    exact False.elim h
set_option maxRecDepth 100000 in
theorem r_law_1179 {g : gm_G} {nm : String} {x3 : Int32} {I : mI} {L : mL} {c : gm_cfg} (h : (vp_in (x3 + 1) (gN g) ∧ (vp_in (x3 + 2) (gN g) ∧ (C_J_gain g (gS g (x3 + 1)) (gS g (x3 + 2)) I L c (fun r4 I1 L2 c3 => (vp_in (x3 + 1) (gN g) ∧ (vp_in (x3 + 2) (gN g) ∧ (C_M_gain g (gS g (x3 + 1)) (gS g (x3 + 2)) I1 L2 c3 (fun r8 I5 L6 c7 => (((r4 : Int64) = r8 → ZL g nm 1730 [(0, .ref 2501), (1, .ref 0), (2, .ref 59), (3, .int x3)] [] I5 L6 c7) ∧ (¬ (r4 : Int64) = r8 → False))))))))))) : ZL g nm 1179 [(0, .ref 2501), (1, .ref 0), (2, .ref 59), (3, .int x3)] [] I L c := by
  refine gx_aload_n 1 dL_law_1179 rfl rfl ?_
  refine gx_aload_n 0 dL_law_1180 rfl rfl ?_
  refine gx_iload_n 3 dL_law_1181 rfl rfl ?_
  refine gx_iconst (v := 1) dL_law_1182 (by decide) ?_
  refine gx_iadd dL_law_1183 ?_
  obtain ⟨hi, h⟩ := h
  refine gx_sld dL_law_1184 hi ?_
  refine gx_aload_n 0 dL_law_1185 rfl rfl ?_
  refine gx_iload_n 3 dL_law_1186 rfl rfl ?_
  refine gx_iconst (v := 2) dL_law_1187 (by decide) ?_
  refine gx_iadd dL_law_1188 ?_
  obtain ⟨hi, h⟩ := h
  refine gx_sld dL_law_1189 hi ?_
  refine gx_callV 10 (As := [.int (gS g (x3 + 1)), .int (gS g (x3 + 2))]) (st := []) dL_law_1190 ml_L_147 mm_X10_gain rfl rfl rfl rfl rfl rfl ⟨rfl, rfl⟩ h (fun v h2 hq => ?_)
  clear h
  obtain ⟨r4, I1, L2, c3, rfl, rfl, h⟩ := hq
  show ZL g nm 1193 [(0, .ref 2501), (1, .ref 0), (2, .ref 59), (3, .int x3)] [.long r4] I1 L2 c3
  refine gx_aload_n 2 dL_law_1193 rfl rfl ?_
  refine gx_aload_n 0 dL_law_1194 rfl rfl ?_
  refine gx_iload_n 3 dL_law_1195 rfl rfl ?_
  refine gx_iconst (v := 1) dL_law_1196 (by decide) ?_
  refine gx_iadd dL_law_1197 ?_
  obtain ⟨hi, h⟩ := h
  refine gx_sld dL_law_1198 hi ?_
  refine gx_aload_n 0 dL_law_1199 rfl rfl ?_
  refine gx_iload_n 3 dL_law_1200 rfl rfl ?_
  refine gx_iconst (v := 2) dL_law_1201 (by decide) ?_
  refine gx_iadd dL_law_1202 ?_
  obtain ⟨hi, h⟩ := h
  refine gx_sld dL_law_1203 hi ?_
  refine gx_callV 11 (As := [.int (gS g (x3 + 1)), .int (gS g (x3 + 2))]) (st := [.long r4]) dL_law_1204 ml_L_150 mm_X11_gain rfl rfl rfl rfl rfl rfl ⟨rfl, rfl⟩ h (fun v h2 hq => ?_)
  clear h
  obtain ⟨r8, I5, L6, c7, rfl, rfl, h⟩ := hq
  show ZL g nm 1207 [(0, .ref 2501), (1, .ref 0), (2, .ref 59), (3, .int x3)] [.long r8, .long r4] I5 L6 c7
  refine gx_lcmp_eq 1730 dL_law_1207 dL_law_1208 (by decide) ⟨fun z => ?_, fun z => ?_⟩
  · replace h := h.1 z
    exact h
  · replace h := h.2 z
    refine gx_iconst (v := 0) dL_law_1211 (by decide) ?_
    exact False.elim h
set_option maxRecDepth 100000 in
theorem r_law_1213 {g : gm_G} {nm : String} {x3 : Int32} {I : mI} {L : mL} {c : gm_cfg} (h : (vp_in (x3 + 1) (gN g) ∧ (C_J_buys g (gS g (x3 + 1)) I L c (fun r4 I1 L2 c3 => (vp_in (x3 + 1) (gN g) ∧ (C_M_buys g (gS g (x3 + 1)) I1 L2 c3 (fun r8 I5 L6 c7 => ((r4 = r8 → ZL g nm 1730 [(0, .ref 2501), (1, .ref 0), (2, .ref 59), (3, .int x3)] [] I5 L6 c7) ∧ (¬ r4 = r8 → False))))))))) : ZL g nm 1213 [(0, .ref 2501), (1, .ref 0), (2, .ref 59), (3, .int x3)] [] I L c := by
  refine gx_aload_n 1 dL_law_1213 rfl rfl ?_
  refine gx_aload_n 0 dL_law_1214 rfl rfl ?_
  refine gx_iload_n 3 dL_law_1215 rfl rfl ?_
  refine gx_iconst (v := 1) dL_law_1216 (by decide) ?_
  refine gx_iadd dL_law_1217 ?_
  obtain ⟨hi, h⟩ := h
  refine gx_sld dL_law_1218 hi ?_
  refine gx_callV 10 (As := [.int (gS g (x3 + 1))]) (st := []) dL_law_1219 ml_L_151 mm_X10_buys rfl rfl rfl rfl rfl rfl ⟨rfl, rfl⟩ h (fun v h2 hq => ?_)
  clear h
  obtain ⟨r4, I1, L2, c3, rfl, rfl, h⟩ := hq
  show ZL g nm 1222 [(0, .ref 2501), (1, .ref 0), (2, .ref 59), (3, .int x3)] [.int r4] I1 L2 c3
  refine gx_aload_n 2 dL_law_1222 rfl rfl ?_
  refine gx_aload_n 0 dL_law_1223 rfl rfl ?_
  refine gx_iload_n 3 dL_law_1224 rfl rfl ?_
  refine gx_iconst (v := 1) dL_law_1225 (by decide) ?_
  refine gx_iadd dL_law_1226 ?_
  obtain ⟨hi, h⟩ := h
  refine gx_sld dL_law_1227 hi ?_
  refine gx_callV 11 (As := [.int (gS g (x3 + 1))]) (st := [.int r4]) dL_law_1228 ml_L_154 mm_X11_buys rfl rfl rfl rfl rfl rfl ⟨rfl, rfl⟩ h (fun v h2 hq => ?_)
  clear h
  obtain ⟨r8, I5, L6, c7, rfl, rfl, h⟩ := hq
  show ZL g nm 1231 [(0, .ref 2501), (1, .ref 0), (2, .ref 59), (3, .int x3)] [.int r8, .int r4] I5 L6 c7
  refine gx_icmp_eq 1730 dL_law_1231 (by decide) ⟨fun z => ?_, fun z => ?_⟩
  · replace h := h.1 z
    exact h
  · replace h := h.2 z
    refine gx_iconst (v := 0) dL_law_1234 (by decide) ?_
    exact False.elim h
set_option maxRecDepth 100000 in
theorem r_law_1236 {g : gm_G} {nm : String} {x3 : Int32} {I : mI} {L : mL} {c : gm_cfg} (h : (vp_in (x3 + 1) (gN g) ∧ (vp_in (x3 + 2) (gN g) ∧ (C_J_game g (gS g (x3 + 1)) (gS g (x3 + 2)) I L c (fun r4 I1 L2 c3 => (vp_in (x3 + 1) (gN g) ∧ (vp_in (x3 + 2) (gN g) ∧ (C_M_game g (gS g (x3 + 1)) (gS g (x3 + 2)) I1 L2 c3 (fun r8 I5 L6 c7 => ((r4 = r8 → ZL g nm 1730 [(0, .ref 2501), (1, .ref 0), (2, .ref 59), (3, .int x3)] [] I5 L6 c7) ∧ (¬ r4 = r8 → False))))))))))) : ZL g nm 1236 [(0, .ref 2501), (1, .ref 0), (2, .ref 59), (3, .int x3)] [] I L c := by
  refine gx_aload_n 1 dL_law_1236 rfl rfl ?_
  refine gx_aload_n 0 dL_law_1237 rfl rfl ?_
  refine gx_iload_n 3 dL_law_1238 rfl rfl ?_
  refine gx_iconst (v := 1) dL_law_1239 (by decide) ?_
  refine gx_iadd dL_law_1240 ?_
  obtain ⟨hi, h⟩ := h
  refine gx_sld dL_law_1241 hi ?_
  refine gx_aload_n 0 dL_law_1242 rfl rfl ?_
  refine gx_iload_n 3 dL_law_1243 rfl rfl ?_
  refine gx_iconst (v := 2) dL_law_1244 (by decide) ?_
  refine gx_iadd dL_law_1245 ?_
  obtain ⟨hi, h⟩ := h
  refine gx_sld dL_law_1246 hi ?_
  refine gx_callV 10 (As := [.int (gS g (x3 + 1)), .int (gS g (x3 + 2))]) (st := []) dL_law_1247 ml_L_155 mm_X10_game rfl rfl rfl rfl rfl rfl ⟨rfl, rfl⟩ h (fun v h2 hq => ?_)
  clear h
  obtain ⟨r4, I1, L2, c3, rfl, rfl, h⟩ := hq
  show ZL g nm 1250 [(0, .ref 2501), (1, .ref 0), (2, .ref 59), (3, .int x3)] [.int r4] I1 L2 c3
  refine gx_aload_n 2 dL_law_1250 rfl rfl ?_
  refine gx_aload_n 0 dL_law_1251 rfl rfl ?_
  refine gx_iload_n 3 dL_law_1252 rfl rfl ?_
  refine gx_iconst (v := 1) dL_law_1253 (by decide) ?_
  refine gx_iadd dL_law_1254 ?_
  obtain ⟨hi, h⟩ := h
  refine gx_sld dL_law_1255 hi ?_
  refine gx_aload_n 0 dL_law_1256 rfl rfl ?_
  refine gx_iload_n 3 dL_law_1257 rfl rfl ?_
  refine gx_iconst (v := 2) dL_law_1258 (by decide) ?_
  refine gx_iadd dL_law_1259 ?_
  obtain ⟨hi, h⟩ := h
  refine gx_sld dL_law_1260 hi ?_
  refine gx_callV 11 (As := [.int (gS g (x3 + 1)), .int (gS g (x3 + 2))]) (st := [.int r4]) dL_law_1261 ml_L_158 mm_X11_game rfl rfl rfl rfl rfl rfl ⟨rfl, rfl⟩ h (fun v h2 hq => ?_)
  clear h
  obtain ⟨r8, I5, L6, c7, rfl, rfl, h⟩ := hq
  show ZL g nm 1264 [(0, .ref 2501), (1, .ref 0), (2, .ref 59), (3, .int x3)] [.int r8, .int r4] I5 L6 c7
  refine gx_icmp_eq 1730 dL_law_1264 (by decide) ⟨fun z => ?_, fun z => ?_⟩
  · replace h := h.1 z
    exact h
  · replace h := h.2 z
    refine gx_iconst (v := 0) dL_law_1267 (by decide) ?_
    exact False.elim h
set_option maxRecDepth 100000 in
theorem r_law_1269 {g : gm_G} {nm : String} {x3 : Int32} {I : mI} {L : mL} {c : gm_cfg} (h : (vp_in (x3 + 1) (gN g) ∧ (vp_in (x3 + 2) (gN g) ∧ (vp_in (x3 + 3) (gN g) ∧ (C_J_alone g (gS g (x3 + 1)) (gS g (x3 + 2)) (gS g (x3 + 3)) I L c (fun r4 I1 L2 c3 => (vp_in (x3 + 1) (gN g) ∧ (vp_in (x3 + 2) (gN g) ∧ (vp_in (x3 + 3) (gN g) ∧ (C_M_alone g (gS g (x3 + 1)) (gS g (x3 + 2)) (gS g (x3 + 3)) I1 L2 c3 (fun r8 I5 L6 c7 => (((r4 : Int64) = r8 → ZL g nm 1730 [(0, .ref 2501), (1, .ref 0), (2, .ref 59), (3, .int x3)] [] I5 L6 c7) ∧ (¬ (r4 : Int64) = r8 → False))))))))))))) : ZL g nm 1269 [(0, .ref 2501), (1, .ref 0), (2, .ref 59), (3, .int x3)] [] I L c := by
  refine gx_aload_n 1 dL_law_1269 rfl rfl ?_
  refine gx_aload_n 0 dL_law_1270 rfl rfl ?_
  refine gx_iload_n 3 dL_law_1271 rfl rfl ?_
  refine gx_iconst (v := 1) dL_law_1272 (by decide) ?_
  refine gx_iadd dL_law_1273 ?_
  obtain ⟨hi, h⟩ := h
  refine gx_sld dL_law_1274 hi ?_
  refine gx_aload_n 0 dL_law_1275 rfl rfl ?_
  refine gx_iload_n 3 dL_law_1276 rfl rfl ?_
  refine gx_iconst (v := 2) dL_law_1277 (by decide) ?_
  refine gx_iadd dL_law_1278 ?_
  obtain ⟨hi, h⟩ := h
  refine gx_sld dL_law_1279 hi ?_
  refine gx_aload_n 0 dL_law_1280 rfl rfl ?_
  refine gx_iload_n 3 dL_law_1281 rfl rfl ?_
  refine gx_iconst (v := 3) dL_law_1282 (by decide) ?_
  refine gx_iadd dL_law_1283 ?_
  obtain ⟨hi, h⟩ := h
  refine gx_sld dL_law_1284 hi ?_
  refine gx_callV 10 (As := [.int (gS g (x3 + 1)), .int (gS g (x3 + 2)), .int (gS g (x3 + 3))]) (st := []) dL_law_1285 ml_L_159 mm_X10_alone rfl rfl rfl rfl rfl rfl ⟨rfl, rfl⟩ h (fun v h2 hq => ?_)
  clear h
  obtain ⟨r4, I1, L2, c3, rfl, rfl, h⟩ := hq
  show ZL g nm 1288 [(0, .ref 2501), (1, .ref 0), (2, .ref 59), (3, .int x3)] [.long r4] I1 L2 c3
  refine gx_aload_n 2 dL_law_1288 rfl rfl ?_
  refine gx_aload_n 0 dL_law_1289 rfl rfl ?_
  refine gx_iload_n 3 dL_law_1290 rfl rfl ?_
  refine gx_iconst (v := 1) dL_law_1291 (by decide) ?_
  refine gx_iadd dL_law_1292 ?_
  obtain ⟨hi, h⟩ := h
  refine gx_sld dL_law_1293 hi ?_
  refine gx_aload_n 0 dL_law_1294 rfl rfl ?_
  refine gx_iload_n 3 dL_law_1295 rfl rfl ?_
  refine gx_iconst (v := 2) dL_law_1296 (by decide) ?_
  refine gx_iadd dL_law_1297 ?_
  obtain ⟨hi, h⟩ := h
  refine gx_sld dL_law_1298 hi ?_
  refine gx_aload_n 0 dL_law_1299 rfl rfl ?_
  refine gx_iload_n 3 dL_law_1300 rfl rfl ?_
  refine gx_iconst (v := 3) dL_law_1301 (by decide) ?_
  refine gx_iadd dL_law_1302 ?_
  obtain ⟨hi, h⟩ := h
  refine gx_sld dL_law_1303 hi ?_
  refine gx_callV 11 (As := [.int (gS g (x3 + 1)), .int (gS g (x3 + 2)), .int (gS g (x3 + 3))]) (st := [.long r4]) dL_law_1304 ml_L_163 mm_X11_alone rfl rfl rfl rfl rfl rfl ⟨rfl, rfl⟩ h (fun v h2 hq => ?_)
  clear h
  obtain ⟨r8, I5, L6, c7, rfl, rfl, h⟩ := hq
  show ZL g nm 1307 [(0, .ref 2501), (1, .ref 0), (2, .ref 59), (3, .int x3)] [.long r8, .long r4] I5 L6 c7
  refine gx_lcmp_eq 1730 dL_law_1307 dL_law_1308 (by decide) ⟨fun z => ?_, fun z => ?_⟩
  · replace h := h.1 z
    exact h
  · replace h := h.2 z
    refine gx_iconst (v := 0) dL_law_1311 (by decide) ?_
    exact False.elim h
set_option maxRecDepth 100000 in
theorem r_law_1313 {g : gm_G} {nm : String} {x3 : Int32} {I : mI} {L : mL} {c : gm_cfg} (h : (vp_in (x3 + 1) (gN g) ∧ (vp_in (x3 + 2) (gN g) ∧ (vp_in (x3 + 3) (gN g) ∧ (C_J_fewest g (gS g (x3 + 1)) (gS g (x3 + 2)) (gS g (x3 + 3)) I L c (fun r4 I1 L2 c3 => (vp_in (x3 + 1) (gN g) ∧ (vp_in (x3 + 2) (gN g) ∧ (vp_in (x3 + 3) (gN g) ∧ (C_M_fewest g (gS g (x3 + 1)) (gS g (x3 + 2)) (gS g (x3 + 3)) I1 L2 c3 (fun r8 I5 L6 c7 => ((r4 = r8 → ZL g nm 1730 [(0, .ref 2501), (1, .ref 0), (2, .ref 59), (3, .int x3)] [] I5 L6 c7) ∧ (¬ r4 = r8 → False))))))))))))) : ZL g nm 1313 [(0, .ref 2501), (1, .ref 0), (2, .ref 59), (3, .int x3)] [] I L c := by
  refine gx_aload_n 1 dL_law_1313 rfl rfl ?_
  refine gx_aload_n 0 dL_law_1314 rfl rfl ?_
  refine gx_iload_n 3 dL_law_1315 rfl rfl ?_
  refine gx_iconst (v := 1) dL_law_1316 (by decide) ?_
  refine gx_iadd dL_law_1317 ?_
  obtain ⟨hi, h⟩ := h
  refine gx_sld dL_law_1318 hi ?_
  refine gx_aload_n 0 dL_law_1319 rfl rfl ?_
  refine gx_iload_n 3 dL_law_1320 rfl rfl ?_
  refine gx_iconst (v := 2) dL_law_1321 (by decide) ?_
  refine gx_iadd dL_law_1322 ?_
  obtain ⟨hi, h⟩ := h
  refine gx_sld dL_law_1323 hi ?_
  refine gx_aload_n 0 dL_law_1324 rfl rfl ?_
  refine gx_iload_n 3 dL_law_1325 rfl rfl ?_
  refine gx_iconst (v := 3) dL_law_1326 (by decide) ?_
  refine gx_iadd dL_law_1327 ?_
  obtain ⟨hi, h⟩ := h
  refine gx_sld dL_law_1328 hi ?_
  refine gx_callV 10 (As := [.int (gS g (x3 + 1)), .int (gS g (x3 + 2)), .int (gS g (x3 + 3))]) (st := []) dL_law_1329 ml_L_164 mm_X10_fewest rfl rfl rfl rfl rfl rfl ⟨rfl, rfl⟩ h (fun v h2 hq => ?_)
  clear h
  obtain ⟨r4, I1, L2, c3, rfl, rfl, h⟩ := hq
  show ZL g nm 1332 [(0, .ref 2501), (1, .ref 0), (2, .ref 59), (3, .int x3)] [.int r4] I1 L2 c3
  refine gx_aload_n 2 dL_law_1332 rfl rfl ?_
  refine gx_aload_n 0 dL_law_1333 rfl rfl ?_
  refine gx_iload_n 3 dL_law_1334 rfl rfl ?_
  refine gx_iconst (v := 1) dL_law_1335 (by decide) ?_
  refine gx_iadd dL_law_1336 ?_
  obtain ⟨hi, h⟩ := h
  refine gx_sld dL_law_1337 hi ?_
  refine gx_aload_n 0 dL_law_1338 rfl rfl ?_
  refine gx_iload_n 3 dL_law_1339 rfl rfl ?_
  refine gx_iconst (v := 2) dL_law_1340 (by decide) ?_
  refine gx_iadd dL_law_1341 ?_
  obtain ⟨hi, h⟩ := h
  refine gx_sld dL_law_1342 hi ?_
  refine gx_aload_n 0 dL_law_1343 rfl rfl ?_
  refine gx_iload_n 3 dL_law_1344 rfl rfl ?_
  refine gx_iconst (v := 3) dL_law_1345 (by decide) ?_
  refine gx_iadd dL_law_1346 ?_
  obtain ⟨hi, h⟩ := h
  refine gx_sld dL_law_1347 hi ?_
  refine gx_callV 11 (As := [.int (gS g (x3 + 1)), .int (gS g (x3 + 2)), .int (gS g (x3 + 3))]) (st := [.int r4]) dL_law_1348 ml_L_168 mm_X11_fewest rfl rfl rfl rfl rfl rfl ⟨rfl, rfl⟩ h (fun v h2 hq => ?_)
  clear h
  obtain ⟨r8, I5, L6, c7, rfl, rfl, h⟩ := hq
  show ZL g nm 1351 [(0, .ref 2501), (1, .ref 0), (2, .ref 59), (3, .int x3)] [.int r8, .int r4] I5 L6 c7
  refine gx_icmp_eq 1730 dL_law_1351 (by decide) ⟨fun z => ?_, fun z => ?_⟩
  · replace h := h.1 z
    exact h
  · replace h := h.2 z
    refine gx_iconst (v := 0) dL_law_1354 (by decide) ?_
    exact False.elim h
set_option maxRecDepth 100000 in
theorem r_law_1356 {g : gm_G} {nm : String} {x3 : Int32} {I : mI} {L : mL} {c : gm_cfg} (h : (vp_in (x3 + 1) (gN g) ∧ (vp_in (x3 + 2) (gN g) ∧ (vp_in (x3 + 3) (gN g) ∧ (vp_in (x3 + 4) (gN g) ∧ (((gS g (x3 + 4)) = 0 → (vp_in (x3 + 5) (gN g) ∧ (C_J_fetes g (gS g (x3 + 1)) (gS g (x3 + 2)) (gS g (x3 + 3)) 0 (gS g (x3 + 5)) I L c (fun r4 I1 L2 c3 => (vp_in (x3 + 1) (gN g) ∧ (vp_in (x3 + 2) (gN g) ∧ (vp_in (x3 + 3) (gN g) ∧ (vp_in (x3 + 4) (gN g) ∧ (((gS g (x3 + 4)) = 0 → (vp_in (x3 + 5) (gN g) ∧ (C_M_fetes g (gS g (x3 + 1)) (gS g (x3 + 2)) (gS g (x3 + 3)) 0 (gS g (x3 + 5)) I1 L2 c3 (fun r8 I5 L6 c7 => ((r4 = r8 → ZL g nm 1730 [(0, .ref 2501), (1, .ref 0), (2, .ref 59), (3, .int x3)] [] I5 L6 c7) ∧ (¬ r4 = r8 → False)))))) ∧ (¬ (gS g (x3 + 4)) = 0 → (vp_in (x3 + 5) (gN g) ∧ (C_M_fetes g (gS g (x3 + 1)) (gS g (x3 + 2)) (gS g (x3 + 3)) 1 (gS g (x3 + 5)) I1 L2 c3 (fun r12 I9 L10 c11 => ((r4 = r12 → ZL g nm 1730 [(0, .ref 2501), (1, .ref 0), (2, .ref 59), (3, .int x3)] [] I9 L10 c11) ∧ (¬ r4 = r12 → False))))))))))))))) ∧ (¬ (gS g (x3 + 4)) = 0 → (vp_in (x3 + 5) (gN g) ∧ (C_J_fetes g (gS g (x3 + 1)) (gS g (x3 + 2)) (gS g (x3 + 3)) 1 (gS g (x3 + 5)) I L c (fun r16 I13 L14 c15 => (vp_in (x3 + 1) (gN g) ∧ (vp_in (x3 + 2) (gN g) ∧ (vp_in (x3 + 3) (gN g) ∧ (vp_in (x3 + 4) (gN g) ∧ (((gS g (x3 + 4)) = 0 → (vp_in (x3 + 5) (gN g) ∧ (C_M_fetes g (gS g (x3 + 1)) (gS g (x3 + 2)) (gS g (x3 + 3)) 0 (gS g (x3 + 5)) I13 L14 c15 (fun r20 I17 L18 c19 => ((r16 = r20 → ZL g nm 1730 [(0, .ref 2501), (1, .ref 0), (2, .ref 59), (3, .int x3)] [] I17 L18 c19) ∧ (¬ r16 = r20 → False)))))) ∧ (¬ (gS g (x3 + 4)) = 0 → (vp_in (x3 + 5) (gN g) ∧ (C_M_fetes g (gS g (x3 + 1)) (gS g (x3 + 2)) (gS g (x3 + 3)) 1 (gS g (x3 + 5)) I13 L14 c15 (fun r24 I21 L22 c23 => ((r16 = r24 → ZL g nm 1730 [(0, .ref 2501), (1, .ref 0), (2, .ref 59), (3, .int x3)] [] I21 L22 c23) ∧ (¬ r16 = r24 → False))))))))))))))))))))) : ZL g nm 1356 [(0, .ref 2501), (1, .ref 0), (2, .ref 59), (3, .int x3)] [] I L c := by
  refine gx_aload_n 1 dL_law_1356 rfl rfl ?_
  refine gx_aload_n 0 dL_law_1357 rfl rfl ?_
  refine gx_iload_n 3 dL_law_1358 rfl rfl ?_
  refine gx_iconst (v := 1) dL_law_1359 (by decide) ?_
  refine gx_iadd dL_law_1360 ?_
  obtain ⟨hi, h⟩ := h
  refine gx_sld dL_law_1361 hi ?_
  refine gx_aload_n 0 dL_law_1362 rfl rfl ?_
  refine gx_iload_n 3 dL_law_1363 rfl rfl ?_
  refine gx_iconst (v := 2) dL_law_1364 (by decide) ?_
  refine gx_iadd dL_law_1365 ?_
  obtain ⟨hi, h⟩ := h
  refine gx_sld dL_law_1366 hi ?_
  refine gx_aload_n 0 dL_law_1367 rfl rfl ?_
  refine gx_iload_n 3 dL_law_1368 rfl rfl ?_
  refine gx_iconst (v := 3) dL_law_1369 (by decide) ?_
  refine gx_iadd dL_law_1370 ?_
  obtain ⟨hi, h⟩ := h
  refine gx_sld dL_law_1371 hi ?_
  refine gx_aload_n 0 dL_law_1372 rfl rfl ?_
  refine gx_iload_n 3 dL_law_1373 rfl rfl ?_
  refine gx_iconst (v := 4) dL_law_1374 (by decide) ?_
  refine gx_iadd dL_law_1375 ?_
  obtain ⟨hi, h⟩ := h
  refine gx_sld dL_law_1376 hi ?_
  refine gx_if_eq 1384 dL_law_1377 (by decide) ⟨fun z => ?_, fun z => ?_⟩
  · replace h := h.1 z
    refine gx_iconst (v := 0) dL_law_1384 (by decide) ?_
    refine gx_aload_n 0 dL_law_1385 rfl rfl ?_
    refine gx_iload_n 3 dL_law_1386 rfl rfl ?_
    refine gx_iconst (v := 5) dL_law_1387 (by decide) ?_
    refine gx_iadd dL_law_1388 ?_
    obtain ⟨hi, h⟩ := h
    refine gx_sld dL_law_1389 hi ?_
    refine gx_callV 10 (As := [.int (gS g (x3 + 1)), .int (gS g (x3 + 2)), .int (gS g (x3 + 3)), .int 0, .int (gS g (x3 + 5))]) (st := []) dL_law_1390 ml_L_169 mm_X10_fetes rfl rfl rfl rfl rfl rfl ⟨rfl, rfl⟩ h (fun v h2 hq => ?_)
    clear h
    obtain ⟨r4, I1, L2, c3, rfl, rfl, h⟩ := hq
    show ZL g nm 1393 [(0, .ref 2501), (1, .ref 0), (2, .ref 59), (3, .int x3)] [.int r4] I1 L2 c3
    refine gx_aload_n 2 dL_law_1393 rfl rfl ?_
    refine gx_aload_n 0 dL_law_1394 rfl rfl ?_
    refine gx_iload_n 3 dL_law_1395 rfl rfl ?_
    refine gx_iconst (v := 1) dL_law_1396 (by decide) ?_
    refine gx_iadd dL_law_1397 ?_
    obtain ⟨hi, h⟩ := h
    refine gx_sld dL_law_1398 hi ?_
    refine gx_aload_n 0 dL_law_1399 rfl rfl ?_
    refine gx_iload_n 3 dL_law_1400 rfl rfl ?_
    refine gx_iconst (v := 2) dL_law_1401 (by decide) ?_
    refine gx_iadd dL_law_1402 ?_
    obtain ⟨hi, h⟩ := h
    refine gx_sld dL_law_1403 hi ?_
    refine gx_aload_n 0 dL_law_1404 rfl rfl ?_
    refine gx_iload_n 3 dL_law_1405 rfl rfl ?_
    refine gx_iconst (v := 3) dL_law_1406 (by decide) ?_
    refine gx_iadd dL_law_1407 ?_
    obtain ⟨hi, h⟩ := h
    refine gx_sld dL_law_1408 hi ?_
    refine gx_aload_n 0 dL_law_1409 rfl rfl ?_
    refine gx_iload_n 3 dL_law_1410 rfl rfl ?_
    refine gx_iconst (v := 4) dL_law_1411 (by decide) ?_
    refine gx_iadd dL_law_1412 ?_
    obtain ⟨hi, h⟩ := h
    refine gx_sld dL_law_1413 hi ?_
    refine gx_if_eq 1421 dL_law_1414 (by decide) ⟨fun z => ?_, fun z => ?_⟩
    · replace h := h.1 z
      refine gx_iconst (v := 0) dL_law_1421 (by decide) ?_
      refine gx_aload_n 0 dL_law_1422 rfl rfl ?_
      refine gx_iload_n 3 dL_law_1423 rfl rfl ?_
      refine gx_iconst (v := 5) dL_law_1424 (by decide) ?_
      refine gx_iadd dL_law_1425 ?_
      obtain ⟨hi, h⟩ := h
      refine gx_sld dL_law_1426 hi ?_
      refine gx_callV 11 (As := [.int (gS g (x3 + 1)), .int (gS g (x3 + 2)), .int (gS g (x3 + 3)), .int 0, .int (gS g (x3 + 5))]) (st := [.int r4]) dL_law_1427 ml_L_173 mm_X11_fetes rfl rfl rfl rfl rfl rfl ⟨rfl, rfl⟩ h (fun v h2 hq => ?_)
      clear h
      obtain ⟨r8, I5, L6, c7, rfl, rfl, h⟩ := hq
      show ZL g nm 1430 [(0, .ref 2501), (1, .ref 0), (2, .ref 59), (3, .int x3)] [.int r8, .int r4] I5 L6 c7
      refine gx_icmp_eq 1730 dL_law_1430 (by decide) ⟨fun z => ?_, fun z => ?_⟩
      · replace h := h.1 z
        exact h
      · replace h := h.2 z
        refine gx_iconst (v := 0) dL_law_1433 (by decide) ?_
        exact False.elim h
    · replace h := h.2 z
      refine gx_iconst (v := 1) dL_law_1417 (by decide) ?_
      refine gx_goto 1422 dL_law_1418 (by decide) ?_
      refine gx_aload_n 0 dL_law_1422 rfl rfl ?_
      refine gx_iload_n 3 dL_law_1423 rfl rfl ?_
      refine gx_iconst (v := 5) dL_law_1424 (by decide) ?_
      refine gx_iadd dL_law_1425 ?_
      obtain ⟨hi, h⟩ := h
      refine gx_sld dL_law_1426 hi ?_
      refine gx_callV 11 (As := [.int (gS g (x3 + 1)), .int (gS g (x3 + 2)), .int (gS g (x3 + 3)), .int 1, .int (gS g (x3 + 5))]) (st := [.int r4]) dL_law_1427 ml_L_173 mm_X11_fetes rfl rfl rfl rfl rfl rfl ⟨rfl, rfl⟩ h (fun v h2 hq => ?_)
      clear h
      obtain ⟨r12, I9, L10, c11, rfl, rfl, h⟩ := hq
      show ZL g nm 1430 [(0, .ref 2501), (1, .ref 0), (2, .ref 59), (3, .int x3)] [.int r12, .int r4] I9 L10 c11
      refine gx_icmp_eq 1730 dL_law_1430 (by decide) ⟨fun z => ?_, fun z => ?_⟩
      · replace h := h.1 z
        exact h
      · replace h := h.2 z
        refine gx_iconst (v := 0) dL_law_1433 (by decide) ?_
        exact False.elim h
  · replace h := h.2 z
    refine gx_iconst (v := 1) dL_law_1380 (by decide) ?_
    refine gx_goto 1385 dL_law_1381 (by decide) ?_
    refine gx_aload_n 0 dL_law_1385 rfl rfl ?_
    refine gx_iload_n 3 dL_law_1386 rfl rfl ?_
    refine gx_iconst (v := 5) dL_law_1387 (by decide) ?_
    refine gx_iadd dL_law_1388 ?_
    obtain ⟨hi, h⟩ := h
    refine gx_sld dL_law_1389 hi ?_
    refine gx_callV 10 (As := [.int (gS g (x3 + 1)), .int (gS g (x3 + 2)), .int (gS g (x3 + 3)), .int 1, .int (gS g (x3 + 5))]) (st := []) dL_law_1390 ml_L_169 mm_X10_fetes rfl rfl rfl rfl rfl rfl ⟨rfl, rfl⟩ h (fun v h2 hq => ?_)
    clear h
    obtain ⟨r16, I13, L14, c15, rfl, rfl, h⟩ := hq
    show ZL g nm 1393 [(0, .ref 2501), (1, .ref 0), (2, .ref 59), (3, .int x3)] [.int r16] I13 L14 c15
    refine gx_aload_n 2 dL_law_1393 rfl rfl ?_
    refine gx_aload_n 0 dL_law_1394 rfl rfl ?_
    refine gx_iload_n 3 dL_law_1395 rfl rfl ?_
    refine gx_iconst (v := 1) dL_law_1396 (by decide) ?_
    refine gx_iadd dL_law_1397 ?_
    obtain ⟨hi, h⟩ := h
    refine gx_sld dL_law_1398 hi ?_
    refine gx_aload_n 0 dL_law_1399 rfl rfl ?_
    refine gx_iload_n 3 dL_law_1400 rfl rfl ?_
    refine gx_iconst (v := 2) dL_law_1401 (by decide) ?_
    refine gx_iadd dL_law_1402 ?_
    obtain ⟨hi, h⟩ := h
    refine gx_sld dL_law_1403 hi ?_
    refine gx_aload_n 0 dL_law_1404 rfl rfl ?_
    refine gx_iload_n 3 dL_law_1405 rfl rfl ?_
    refine gx_iconst (v := 3) dL_law_1406 (by decide) ?_
    refine gx_iadd dL_law_1407 ?_
    obtain ⟨hi, h⟩ := h
    refine gx_sld dL_law_1408 hi ?_
    refine gx_aload_n 0 dL_law_1409 rfl rfl ?_
    refine gx_iload_n 3 dL_law_1410 rfl rfl ?_
    refine gx_iconst (v := 4) dL_law_1411 (by decide) ?_
    refine gx_iadd dL_law_1412 ?_
    obtain ⟨hi, h⟩ := h
    refine gx_sld dL_law_1413 hi ?_
    refine gx_if_eq 1421 dL_law_1414 (by decide) ⟨fun z => ?_, fun z => ?_⟩
    · replace h := h.1 z
      refine gx_iconst (v := 0) dL_law_1421 (by decide) ?_
      refine gx_aload_n 0 dL_law_1422 rfl rfl ?_
      refine gx_iload_n 3 dL_law_1423 rfl rfl ?_
      refine gx_iconst (v := 5) dL_law_1424 (by decide) ?_
      refine gx_iadd dL_law_1425 ?_
      obtain ⟨hi, h⟩ := h
      refine gx_sld dL_law_1426 hi ?_
      refine gx_callV 11 (As := [.int (gS g (x3 + 1)), .int (gS g (x3 + 2)), .int (gS g (x3 + 3)), .int 0, .int (gS g (x3 + 5))]) (st := [.int r16]) dL_law_1427 ml_L_173 mm_X11_fetes rfl rfl rfl rfl rfl rfl ⟨rfl, rfl⟩ h (fun v h2 hq => ?_)
      clear h
      obtain ⟨r20, I17, L18, c19, rfl, rfl, h⟩ := hq
      show ZL g nm 1430 [(0, .ref 2501), (1, .ref 0), (2, .ref 59), (3, .int x3)] [.int r20, .int r16] I17 L18 c19
      refine gx_icmp_eq 1730 dL_law_1430 (by decide) ⟨fun z => ?_, fun z => ?_⟩
      · replace h := h.1 z
        exact h
      · replace h := h.2 z
        refine gx_iconst (v := 0) dL_law_1433 (by decide) ?_
        exact False.elim h
    · replace h := h.2 z
      refine gx_iconst (v := 1) dL_law_1417 (by decide) ?_
      refine gx_goto 1422 dL_law_1418 (by decide) ?_
      refine gx_aload_n 0 dL_law_1422 rfl rfl ?_
      refine gx_iload_n 3 dL_law_1423 rfl rfl ?_
      refine gx_iconst (v := 5) dL_law_1424 (by decide) ?_
      refine gx_iadd dL_law_1425 ?_
      obtain ⟨hi, h⟩ := h
      refine gx_sld dL_law_1426 hi ?_
      refine gx_callV 11 (As := [.int (gS g (x3 + 1)), .int (gS g (x3 + 2)), .int (gS g (x3 + 3)), .int 1, .int (gS g (x3 + 5))]) (st := [.int r16]) dL_law_1427 ml_L_173 mm_X11_fetes rfl rfl rfl rfl rfl rfl ⟨rfl, rfl⟩ h (fun v h2 hq => ?_)
      clear h
      obtain ⟨r24, I21, L22, c23, rfl, rfl, h⟩ := hq
      show ZL g nm 1430 [(0, .ref 2501), (1, .ref 0), (2, .ref 59), (3, .int x3)] [.int r24, .int r16] I21 L22 c23
      refine gx_icmp_eq 1730 dL_law_1430 (by decide) ⟨fun z => ?_, fun z => ?_⟩
      · replace h := h.1 z
        exact h
      · replace h := h.2 z
        refine gx_iconst (v := 0) dL_law_1433 (by decide) ?_
        exact False.elim h
set_option maxRecDepth 100000 in
theorem r_law_1435 {g : gm_G} {nm : String} {x3 : Int32} {I : mI} {L : mL} {c : gm_cfg} (h : (vp_in (x3 + 1) (gN g) ∧ (vp_in (x3 + 2) (gN g) ∧ (vp_in (x3 + 3) (gN g) ∧ (C_J_holds g (gS g (x3 + 1)) (gS g (x3 + 2)) (gS g (x3 + 3)) I L c (fun r4 I1 L2 c3 => (vp_in (x3 + 1) (gN g) ∧ (vp_in (x3 + 2) (gN g) ∧ (vp_in (x3 + 3) (gN g) ∧ (C_M_holds g (gS g (x3 + 1)) (gS g (x3 + 2)) (gS g (x3 + 3)) I1 L2 c3 (fun r8 I5 L6 c7 => ((r4 = r8 → ZL g nm 1730 [(0, .ref 2501), (1, .ref 0), (2, .ref 59), (3, .int x3)] [] I5 L6 c7) ∧ (¬ r4 = r8 → False))))))))))))) : ZL g nm 1435 [(0, .ref 2501), (1, .ref 0), (2, .ref 59), (3, .int x3)] [] I L c := by
  refine gx_aload_n 1 dL_law_1435 rfl rfl ?_
  refine gx_aload_n 0 dL_law_1436 rfl rfl ?_
  refine gx_iload_n 3 dL_law_1437 rfl rfl ?_
  refine gx_iconst (v := 1) dL_law_1438 (by decide) ?_
  refine gx_iadd dL_law_1439 ?_
  obtain ⟨hi, h⟩ := h
  refine gx_sld dL_law_1440 hi ?_
  refine gx_aload_n 0 dL_law_1441 rfl rfl ?_
  refine gx_iload_n 3 dL_law_1442 rfl rfl ?_
  refine gx_iconst (v := 2) dL_law_1443 (by decide) ?_
  refine gx_iadd dL_law_1444 ?_
  obtain ⟨hi, h⟩ := h
  refine gx_sld dL_law_1445 hi ?_
  refine gx_aload_n 0 dL_law_1446 rfl rfl ?_
  refine gx_iload_n 3 dL_law_1447 rfl rfl ?_
  refine gx_iconst (v := 3) dL_law_1448 (by decide) ?_
  refine gx_iadd dL_law_1449 ?_
  obtain ⟨hi, h⟩ := h
  refine gx_sld dL_law_1450 hi ?_
  refine gx_callV 10 (As := [.int (gS g (x3 + 1)), .int (gS g (x3 + 2)), .int (gS g (x3 + 3))]) (st := []) dL_law_1451 ml_L_174 mm_X10_holds rfl rfl rfl rfl rfl rfl ⟨rfl, rfl⟩ h (fun v h2 hq => ?_)
  clear h
  obtain ⟨r4, I1, L2, c3, rfl, rfl, h⟩ := hq
  show ZL g nm 1454 [(0, .ref 2501), (1, .ref 0), (2, .ref 59), (3, .int x3)] [.int r4] I1 L2 c3
  refine gx_aload_n 2 dL_law_1454 rfl rfl ?_
  refine gx_aload_n 0 dL_law_1455 rfl rfl ?_
  refine gx_iload_n 3 dL_law_1456 rfl rfl ?_
  refine gx_iconst (v := 1) dL_law_1457 (by decide) ?_
  refine gx_iadd dL_law_1458 ?_
  obtain ⟨hi, h⟩ := h
  refine gx_sld dL_law_1459 hi ?_
  refine gx_aload_n 0 dL_law_1460 rfl rfl ?_
  refine gx_iload_n 3 dL_law_1461 rfl rfl ?_
  refine gx_iconst (v := 2) dL_law_1462 (by decide) ?_
  refine gx_iadd dL_law_1463 ?_
  obtain ⟨hi, h⟩ := h
  refine gx_sld dL_law_1464 hi ?_
  refine gx_aload_n 0 dL_law_1465 rfl rfl ?_
  refine gx_iload_n 3 dL_law_1466 rfl rfl ?_
  refine gx_iconst (v := 3) dL_law_1467 (by decide) ?_
  refine gx_iadd dL_law_1468 ?_
  obtain ⟨hi, h⟩ := h
  refine gx_sld dL_law_1469 hi ?_
  refine gx_callV 11 (As := [.int (gS g (x3 + 1)), .int (gS g (x3 + 2)), .int (gS g (x3 + 3))]) (st := [.int r4]) dL_law_1470 ml_L_177 mm_X11_holds rfl rfl rfl rfl rfl rfl ⟨rfl, rfl⟩ h (fun v h2 hq => ?_)
  clear h
  obtain ⟨r8, I5, L6, c7, rfl, rfl, h⟩ := hq
  show ZL g nm 1473 [(0, .ref 2501), (1, .ref 0), (2, .ref 59), (3, .int x3)] [.int r8, .int r4] I5 L6 c7
  refine gx_icmp_eq 1730 dL_law_1473 (by decide) ⟨fun z => ?_, fun z => ?_⟩
  · replace h := h.1 z
    exact h
  · replace h := h.2 z
    refine gx_iconst (v := 0) dL_law_1476 (by decide) ?_
    exact False.elim h
set_option maxRecDepth 100000 in
theorem r_law_1478 {g : gm_G} {nm : String} {x3 : Int32} {I : mI} {L : mL} {c : gm_cfg} (h : (vp_in (x3 + 1) (gN g) ∧ (vp_in (x3 + 2) (gN g) ∧ (vp_in (x3 + 3) (gN g) ∧ (C_J_layersFor g (gS g (x3 + 1)) (gS g (x3 + 2)) (gS g (x3 + 3)) I L c (fun r4 I1 L2 c3 => (vp_in (x3 + 1) (gN g) ∧ (vp_in (x3 + 2) (gN g) ∧ (vp_in (x3 + 3) (gN g) ∧ (C_M_layersFor g (gS g (x3 + 1)) (gS g (x3 + 2)) (gS g (x3 + 3)) I1 L2 c3 (fun r8 I5 L6 c7 => ((r4 = r8 → ZL g nm 1730 [(0, .ref 2501), (1, .ref 0), (2, .ref 59), (3, .int x3)] [] I5 L6 c7) ∧ (¬ r4 = r8 → False))))))))))))) : ZL g nm 1478 [(0, .ref 2501), (1, .ref 0), (2, .ref 59), (3, .int x3)] [] I L c := by
  refine gx_aload_n 1 dL_law_1478 rfl rfl ?_
  refine gx_aload_n 0 dL_law_1479 rfl rfl ?_
  refine gx_iload_n 3 dL_law_1480 rfl rfl ?_
  refine gx_iconst (v := 1) dL_law_1481 (by decide) ?_
  refine gx_iadd dL_law_1482 ?_
  obtain ⟨hi, h⟩ := h
  refine gx_sld dL_law_1483 hi ?_
  refine gx_aload_n 0 dL_law_1484 rfl rfl ?_
  refine gx_iload_n 3 dL_law_1485 rfl rfl ?_
  refine gx_iconst (v := 2) dL_law_1486 (by decide) ?_
  refine gx_iadd dL_law_1487 ?_
  obtain ⟨hi, h⟩ := h
  refine gx_sld dL_law_1488 hi ?_
  refine gx_aload_n 0 dL_law_1489 rfl rfl ?_
  refine gx_iload_n 3 dL_law_1490 rfl rfl ?_
  refine gx_iconst (v := 3) dL_law_1491 (by decide) ?_
  refine gx_iadd dL_law_1492 ?_
  obtain ⟨hi, h⟩ := h
  refine gx_sld dL_law_1493 hi ?_
  refine gx_callV 10 (As := [.int (gS g (x3 + 1)), .int (gS g (x3 + 2)), .int (gS g (x3 + 3))]) (st := []) dL_law_1494 ml_L_178 mm_X10_layersFor rfl rfl rfl rfl rfl rfl ⟨rfl, rfl⟩ h (fun v h2 hq => ?_)
  clear h
  obtain ⟨r4, I1, L2, c3, rfl, rfl, h⟩ := hq
  show ZL g nm 1497 [(0, .ref 2501), (1, .ref 0), (2, .ref 59), (3, .int x3)] [.int r4] I1 L2 c3
  refine gx_aload_n 2 dL_law_1497 rfl rfl ?_
  refine gx_aload_n 0 dL_law_1498 rfl rfl ?_
  refine gx_iload_n 3 dL_law_1499 rfl rfl ?_
  refine gx_iconst (v := 1) dL_law_1500 (by decide) ?_
  refine gx_iadd dL_law_1501 ?_
  obtain ⟨hi, h⟩ := h
  refine gx_sld dL_law_1502 hi ?_
  refine gx_aload_n 0 dL_law_1503 rfl rfl ?_
  refine gx_iload_n 3 dL_law_1504 rfl rfl ?_
  refine gx_iconst (v := 2) dL_law_1505 (by decide) ?_
  refine gx_iadd dL_law_1506 ?_
  obtain ⟨hi, h⟩ := h
  refine gx_sld dL_law_1507 hi ?_
  refine gx_aload_n 0 dL_law_1508 rfl rfl ?_
  refine gx_iload_n 3 dL_law_1509 rfl rfl ?_
  refine gx_iconst (v := 3) dL_law_1510 (by decide) ?_
  refine gx_iadd dL_law_1511 ?_
  obtain ⟨hi, h⟩ := h
  refine gx_sld dL_law_1512 hi ?_
  refine gx_callV 11 (As := [.int (gS g (x3 + 1)), .int (gS g (x3 + 2)), .int (gS g (x3 + 3))]) (st := [.int r4]) dL_law_1513 ml_L_181 mm_X11_layersFor rfl rfl rfl rfl rfl rfl ⟨rfl, rfl⟩ h (fun v h2 hq => ?_)
  clear h
  obtain ⟨r8, I5, L6, c7, rfl, rfl, h⟩ := hq
  show ZL g nm 1516 [(0, .ref 2501), (1, .ref 0), (2, .ref 59), (3, .int x3)] [.int r8, .int r4] I5 L6 c7
  refine gx_icmp_eq 1730 dL_law_1516 (by decide) ⟨fun z => ?_, fun z => ?_⟩
  · replace h := h.1 z
    exact h
  · replace h := h.2 z
    refine gx_iconst (v := 0) dL_law_1519 (by decide) ?_
    exact False.elim h
set_option maxRecDepth 100000 in
theorem r_law_1521 {g : gm_G} {nm : String} {x3 : Int32} {I : mI} {L : mL} {c : gm_cfg} (h : (vp_in (x3 + 1) (gN g) ∧ (vp_in (x3 + 2) (gN g) ∧ (vp_in (x3 + 3) (gN g) ∧ (C_J_numbers g (gS g (x3 + 1)) (gS g (x3 + 2)) (gS g (x3 + 3)) I L c (fun r4 I1 L2 c3 => (vp_in (x3 + 1) (gN g) ∧ (vp_in (x3 + 2) (gN g) ∧ (vp_in (x3 + 3) (gN g) ∧ (C_M_numbers g (gS g (x3 + 1)) (gS g (x3 + 2)) (gS g (x3 + 3)) I1 L2 c3 (fun r8 I5 L6 c7 => ((r4 = r8 → ZL g nm 1730 [(0, .ref 2501), (1, .ref 0), (2, .ref 59), (3, .int x3)] [] I5 L6 c7) ∧ (¬ r4 = r8 → False))))))))))))) : ZL g nm 1521 [(0, .ref 2501), (1, .ref 0), (2, .ref 59), (3, .int x3)] [] I L c := by
  refine gx_aload_n 1 dL_law_1521 rfl rfl ?_
  refine gx_aload_n 0 dL_law_1522 rfl rfl ?_
  refine gx_iload_n 3 dL_law_1523 rfl rfl ?_
  refine gx_iconst (v := 1) dL_law_1524 (by decide) ?_
  refine gx_iadd dL_law_1525 ?_
  obtain ⟨hi, h⟩ := h
  refine gx_sld dL_law_1526 hi ?_
  refine gx_aload_n 0 dL_law_1527 rfl rfl ?_
  refine gx_iload_n 3 dL_law_1528 rfl rfl ?_
  refine gx_iconst (v := 2) dL_law_1529 (by decide) ?_
  refine gx_iadd dL_law_1530 ?_
  obtain ⟨hi, h⟩ := h
  refine gx_sld dL_law_1531 hi ?_
  refine gx_aload_n 0 dL_law_1532 rfl rfl ?_
  refine gx_iload_n 3 dL_law_1533 rfl rfl ?_
  refine gx_iconst (v := 3) dL_law_1534 (by decide) ?_
  refine gx_iadd dL_law_1535 ?_
  obtain ⟨hi, h⟩ := h
  refine gx_sld dL_law_1536 hi ?_
  refine gx_callV 10 (As := [.int (gS g (x3 + 1)), .int (gS g (x3 + 2)), .int (gS g (x3 + 3))]) (st := []) dL_law_1537 ml_L_182 mm_X10_numbers rfl rfl rfl rfl rfl rfl ⟨rfl, rfl⟩ h (fun v h2 hq => ?_)
  clear h
  obtain ⟨r4, I1, L2, c3, rfl, rfl, h⟩ := hq
  show ZL g nm 1540 [(0, .ref 2501), (1, .ref 0), (2, .ref 59), (3, .int x3)] [.int r4] I1 L2 c3
  refine gx_aload_n 2 dL_law_1540 rfl rfl ?_
  refine gx_aload_n 0 dL_law_1541 rfl rfl ?_
  refine gx_iload_n 3 dL_law_1542 rfl rfl ?_
  refine gx_iconst (v := 1) dL_law_1543 (by decide) ?_
  refine gx_iadd dL_law_1544 ?_
  obtain ⟨hi, h⟩ := h
  refine gx_sld dL_law_1545 hi ?_
  refine gx_aload_n 0 dL_law_1546 rfl rfl ?_
  refine gx_iload_n 3 dL_law_1547 rfl rfl ?_
  refine gx_iconst (v := 2) dL_law_1548 (by decide) ?_
  refine gx_iadd dL_law_1549 ?_
  obtain ⟨hi, h⟩ := h
  refine gx_sld dL_law_1550 hi ?_
  refine gx_aload_n 0 dL_law_1551 rfl rfl ?_
  refine gx_iload_n 3 dL_law_1552 rfl rfl ?_
  refine gx_iconst (v := 3) dL_law_1553 (by decide) ?_
  refine gx_iadd dL_law_1554 ?_
  obtain ⟨hi, h⟩ := h
  refine gx_sld dL_law_1555 hi ?_
  refine gx_callV 11 (As := [.int (gS g (x3 + 1)), .int (gS g (x3 + 2)), .int (gS g (x3 + 3))]) (st := [.int r4]) dL_law_1556 ml_L_185 mm_X11_numbers rfl rfl rfl rfl rfl rfl ⟨rfl, rfl⟩ h (fun v h2 hq => ?_)
  clear h
  obtain ⟨r8, I5, L6, c7, rfl, rfl, h⟩ := hq
  show ZL g nm 1559 [(0, .ref 2501), (1, .ref 0), (2, .ref 59), (3, .int x3)] [.int r8, .int r4] I5 L6 c7
  refine gx_icmp_eq 1730 dL_law_1559 (by decide) ⟨fun z => ?_, fun z => ?_⟩
  · replace h := h.1 z
    exact h
  · replace h := h.2 z
    refine gx_iconst (v := 0) dL_law_1562 (by decide) ?_
    exact False.elim h
set_option maxRecDepth 100000 in
theorem r_law_1564 {g : gm_G} {nm : String} {x3 : Int32} {I : mI} {L : mL} {c : gm_cfg} (h : (vp_in (x3 + 1) (gN g) ∧ (vp_in (x3 + 2) (gN g) ∧ (vp_in (x3 + 3) (gN g) ∧ (vp_in (x3 + 4) (gN g) ∧ (C_J_put g (gS g (x3 + 1)) (gS g (x3 + 2)) (((Int32.toInt64 (gS g (x3 + 3))) <<< (Int32.toInt64 32 &&& 63)) ||| ((Int32.toInt64 (gS g (x3 + 4))) &&& 4294967295)) I L c (fun r4 I1 L2 c3 => (vp_in (x3 + 1) (gN g) ∧ (vp_in (x3 + 2) (gN g) ∧ (vp_in (x3 + 3) (gN g) ∧ (vp_in (x3 + 4) (gN g) ∧ (C_M_put g (gS g (x3 + 1)) (gS g (x3 + 2)) (((Int32.toInt64 (gS g (x3 + 3))) <<< (Int32.toInt64 32 &&& 63)) ||| ((Int32.toInt64 (gS g (x3 + 4))) &&& 4294967295)) I1 L2 c3 (fun r8 I5 L6 c7 => (((r4 : Int64) = r8 → ZL g nm 1730 [(0, .ref 2501), (1, .ref 0), (2, .ref 59), (3, .int x3)] [] I5 L6 c7) ∧ (¬ (r4 : Int64) = r8 → False))))))))))))))) : ZL g nm 1564 [(0, .ref 2501), (1, .ref 0), (2, .ref 59), (3, .int x3)] [] I L c := by
  refine gx_aload_n 1 dL_law_1564 rfl rfl ?_
  refine gx_aload_n 0 dL_law_1565 rfl rfl ?_
  refine gx_iload_n 3 dL_law_1566 rfl rfl ?_
  refine gx_iconst (v := 1) dL_law_1567 (by decide) ?_
  refine gx_iadd dL_law_1568 ?_
  obtain ⟨hi, h⟩ := h
  refine gx_sld dL_law_1569 hi ?_
  refine gx_aload_n 0 dL_law_1570 rfl rfl ?_
  refine gx_iload_n 3 dL_law_1571 rfl rfl ?_
  refine gx_iconst (v := 2) dL_law_1572 (by decide) ?_
  refine gx_iadd dL_law_1573 ?_
  obtain ⟨hi, h⟩ := h
  refine gx_sld dL_law_1574 hi ?_
  refine gx_aload_n 0 dL_law_1575 rfl rfl ?_
  refine gx_iload_n 3 dL_law_1576 rfl rfl ?_
  refine gx_iconst (v := 3) dL_law_1577 (by decide) ?_
  refine gx_iadd dL_law_1578 ?_
  obtain ⟨hi, h⟩ := h
  refine gx_sld dL_law_1579 hi ?_
  refine gx_i2l dL_law_1580 ?_
  refine gx_bipush (v := 32) dL_law_1581 (by decide) ?_
  refine gx_lshl dL_law_1583 ?_
  refine gx_aload_n 0 dL_law_1584 rfl rfl ?_
  refine gx_iload_n 3 dL_law_1585 rfl rfl ?_
  refine gx_iconst (v := 4) dL_law_1586 (by decide) ?_
  refine gx_iadd dL_law_1587 ?_
  obtain ⟨hi, h⟩ := h
  refine gx_sld dL_law_1588 hi ?_
  refine gx_i2l dL_law_1589 ?_
  refine gx_ldc2 dL_law_1590 kl_L_186 ?_
  refine gx_land dL_law_1593 ?_
  refine gx_lor dL_law_1594 ?_
  refine gx_callV 10 (As := [.int (gS g (x3 + 1)), .int (gS g (x3 + 2)), .long (((Int32.toInt64 (gS g (x3 + 3))) <<< (Int32.toInt64 32 &&& 63)) ||| ((Int32.toInt64 (gS g (x3 + 4))) &&& 4294967295))]) (st := []) dL_law_1595 ml_L_188 mm_X10_put rfl rfl rfl rfl rfl rfl ⟨rfl, rfl⟩ h (fun v h2 hq => ?_)
  clear h
  obtain ⟨r4, I1, L2, c3, rfl, rfl, h⟩ := hq
  show ZL g nm 1598 [(0, .ref 2501), (1, .ref 0), (2, .ref 59), (3, .int x3)] [.long r4] I1 L2 c3
  refine gx_aload_n 2 dL_law_1598 rfl rfl ?_
  refine gx_aload_n 0 dL_law_1599 rfl rfl ?_
  refine gx_iload_n 3 dL_law_1600 rfl rfl ?_
  refine gx_iconst (v := 1) dL_law_1601 (by decide) ?_
  refine gx_iadd dL_law_1602 ?_
  obtain ⟨hi, h⟩ := h
  refine gx_sld dL_law_1603 hi ?_
  refine gx_aload_n 0 dL_law_1604 rfl rfl ?_
  refine gx_iload_n 3 dL_law_1605 rfl rfl ?_
  refine gx_iconst (v := 2) dL_law_1606 (by decide) ?_
  refine gx_iadd dL_law_1607 ?_
  obtain ⟨hi, h⟩ := h
  refine gx_sld dL_law_1608 hi ?_
  refine gx_aload_n 0 dL_law_1609 rfl rfl ?_
  refine gx_iload_n 3 dL_law_1610 rfl rfl ?_
  refine gx_iconst (v := 3) dL_law_1611 (by decide) ?_
  refine gx_iadd dL_law_1612 ?_
  obtain ⟨hi, h⟩ := h
  refine gx_sld dL_law_1613 hi ?_
  refine gx_i2l dL_law_1614 ?_
  refine gx_bipush (v := 32) dL_law_1615 (by decide) ?_
  refine gx_lshl dL_law_1617 ?_
  refine gx_aload_n 0 dL_law_1618 rfl rfl ?_
  refine gx_iload_n 3 dL_law_1619 rfl rfl ?_
  refine gx_iconst (v := 4) dL_law_1620 (by decide) ?_
  refine gx_iadd dL_law_1621 ?_
  obtain ⟨hi, h⟩ := h
  refine gx_sld dL_law_1622 hi ?_
  refine gx_i2l dL_law_1623 ?_
  refine gx_ldc2 dL_law_1624 kl_L_186 ?_
  refine gx_land dL_law_1627 ?_
  refine gx_lor dL_law_1628 ?_
  refine gx_callV 11 (As := [.int (gS g (x3 + 1)), .int (gS g (x3 + 2)), .long (((Int32.toInt64 (gS g (x3 + 3))) <<< (Int32.toInt64 32 &&& 63)) ||| ((Int32.toInt64 (gS g (x3 + 4))) &&& 4294967295))]) (st := [.long r4]) dL_law_1629 ml_L_192 mm_X11_put rfl rfl rfl rfl rfl rfl ⟨rfl, rfl⟩ h (fun v h2 hq => ?_)
  clear h
  obtain ⟨r8, I5, L6, c7, rfl, rfl, h⟩ := hq
  show ZL g nm 1632 [(0, .ref 2501), (1, .ref 0), (2, .ref 59), (3, .int x3)] [.long r8, .long r4] I5 L6 c7
  refine gx_lcmp_eq 1730 dL_law_1632 dL_law_1633 (by decide) ⟨fun z => ?_, fun z => ?_⟩
  · replace h := h.1 z
    exact h
  · replace h := h.2 z
    refine gx_iconst (v := 0) dL_law_1636 (by decide) ?_
    exact False.elim h
set_option maxRecDepth 100000 in
theorem r_law_1638 {g : gm_G} {nm : String} {x3 : Int32} {I : mI} {L : mL} {c : gm_cfg} (h : (vp_in (x3 + 1) (gN g) ∧ (C_J_copy g (gS g (x3 + 1)) I L c (fun r4 I1 L2 c3 => (vp_in (x3 + 1) (gN g) ∧ (C_M_copy g (gS g (x3 + 1)) I1 L2 c3 (fun r8 I5 L6 c7 => ((r4 = r8 → ZL g nm 1730 [(0, .ref 2501), (1, .ref 0), (2, .ref 59), (3, .int x3)] [] I5 L6 c7) ∧ (¬ r4 = r8 → False))))))))) : ZL g nm 1638 [(0, .ref 2501), (1, .ref 0), (2, .ref 59), (3, .int x3)] [] I L c := by
  refine gx_aload_n 1 dL_law_1638 rfl rfl ?_
  refine gx_aload_n 0 dL_law_1639 rfl rfl ?_
  refine gx_iload_n 3 dL_law_1640 rfl rfl ?_
  refine gx_iconst (v := 1) dL_law_1641 (by decide) ?_
  refine gx_iadd dL_law_1642 ?_
  obtain ⟨hi, h⟩ := h
  refine gx_sld dL_law_1643 hi ?_
  refine gx_callV 10 (As := [.int (gS g (x3 + 1))]) (st := []) dL_law_1644 ml_L_193 mm_X10_copy rfl rfl rfl rfl rfl rfl ⟨rfl, rfl⟩ h (fun v h2 hq => ?_)
  clear h
  obtain ⟨r4, I1, L2, c3, rfl, rfl, h⟩ := hq
  show ZL g nm 1647 [(0, .ref 2501), (1, .ref 0), (2, .ref 59), (3, .int x3)] [.int r4] I1 L2 c3
  refine gx_aload_n 2 dL_law_1647 rfl rfl ?_
  refine gx_aload_n 0 dL_law_1648 rfl rfl ?_
  refine gx_iload_n 3 dL_law_1649 rfl rfl ?_
  refine gx_iconst (v := 1) dL_law_1650 (by decide) ?_
  refine gx_iadd dL_law_1651 ?_
  obtain ⟨hi, h⟩ := h
  refine gx_sld dL_law_1652 hi ?_
  refine gx_callV 11 (As := [.int (gS g (x3 + 1))]) (st := [.int r4]) dL_law_1653 ml_L_196 mm_X11_copy rfl rfl rfl rfl rfl rfl ⟨rfl, rfl⟩ h (fun v h2 hq => ?_)
  clear h
  obtain ⟨r8, I5, L6, c7, rfl, rfl, h⟩ := hq
  show ZL g nm 1656 [(0, .ref 2501), (1, .ref 0), (2, .ref 59), (3, .int x3)] [.int r8, .int r4] I5 L6 c7
  refine gx_icmp_eq 1730 dL_law_1656 (by decide) ⟨fun z => ?_, fun z => ?_⟩
  · replace h := h.1 z
    exact h
  · replace h := h.2 z
    refine gx_iconst (v := 0) dL_law_1659 (by decide) ?_
    exact False.elim h
set_option maxRecDepth 100000 in
theorem r_law_1661 {g : gm_G} {nm : String} {x3 : Int32} {I : mI} {L : mL} {c : gm_cfg} (h : (vp_in (x3 + 1) (gN g) ∧ (C_J_image g (gS g (x3 + 1)) I L c (fun r4 I1 L2 c3 => (vp_in (x3 + 1) (gN g) ∧ (C_M_image g (gS g (x3 + 1)) I1 L2 c3 (fun r8 I5 L6 c7 => ((r4 = r8 → ZL g nm 1730 [(0, .ref 2501), (1, .ref 0), (2, .ref 59), (3, .int x3)] [] I5 L6 c7) ∧ (¬ r4 = r8 → False))))))))) : ZL g nm 1661 [(0, .ref 2501), (1, .ref 0), (2, .ref 59), (3, .int x3)] [] I L c := by
  refine gx_aload_n 1 dL_law_1661 rfl rfl ?_
  refine gx_aload_n 0 dL_law_1662 rfl rfl ?_
  refine gx_iload_n 3 dL_law_1663 rfl rfl ?_
  refine gx_iconst (v := 1) dL_law_1664 (by decide) ?_
  refine gx_iadd dL_law_1665 ?_
  obtain ⟨hi, h⟩ := h
  refine gx_sld dL_law_1666 hi ?_
  refine gx_callV 10 (As := [.int (gS g (x3 + 1))]) (st := []) dL_law_1667 ml_L_197 mm_X10_image rfl rfl rfl rfl rfl rfl ⟨rfl, rfl⟩ h (fun v h2 hq => ?_)
  clear h
  obtain ⟨r4, I1, L2, c3, rfl, rfl, h⟩ := hq
  show ZL g nm 1670 [(0, .ref 2501), (1, .ref 0), (2, .ref 59), (3, .int x3)] [.int r4] I1 L2 c3
  refine gx_aload_n 2 dL_law_1670 rfl rfl ?_
  refine gx_aload_n 0 dL_law_1671 rfl rfl ?_
  refine gx_iload_n 3 dL_law_1672 rfl rfl ?_
  refine gx_iconst (v := 1) dL_law_1673 (by decide) ?_
  refine gx_iadd dL_law_1674 ?_
  obtain ⟨hi, h⟩ := h
  refine gx_sld dL_law_1675 hi ?_
  refine gx_callV 11 (As := [.int (gS g (x3 + 1))]) (st := [.int r4]) dL_law_1676 ml_L_200 mm_X11_image rfl rfl rfl rfl rfl rfl ⟨rfl, rfl⟩ h (fun v h2 hq => ?_)
  clear h
  obtain ⟨r8, I5, L6, c7, rfl, rfl, h⟩ := hq
  show ZL g nm 1679 [(0, .ref 2501), (1, .ref 0), (2, .ref 59), (3, .int x3)] [.int r8, .int r4] I5 L6 c7
  refine gx_icmp_eq 1730 dL_law_1679 (by decide) ⟨fun z => ?_, fun z => ?_⟩
  · replace h := h.1 z
    exact h
  · replace h := h.2 z
    refine gx_iconst (v := 0) dL_law_1682 (by decide) ?_
    exact False.elim h
set_option maxRecDepth 100000 in
theorem r_law_1684 {g : gm_G} {nm : String} {x3 : Int32} {I : mI} {L : mL} {c : gm_cfg} (h : (vp_in (x3 + 1) (gN g) ∧ (C_J_restore g (gS g (x3 + 1)) I L c (fun r4 I1 L2 c3 => (vp_in (x3 + 1) (gN g) ∧ (C_M_restore g (gS g (x3 + 1)) I1 L2 c3 (fun r8 I5 L6 c7 => ((r4 = r8 → ZL g nm 1730 [(0, .ref 2501), (1, .ref 0), (2, .ref 59), (3, .int x3)] [] I5 L6 c7) ∧ (¬ r4 = r8 → False))))))))) : ZL g nm 1684 [(0, .ref 2501), (1, .ref 0), (2, .ref 59), (3, .int x3)] [] I L c := by
  refine gx_aload_n 1 dL_law_1684 rfl rfl ?_
  refine gx_aload_n 0 dL_law_1685 rfl rfl ?_
  refine gx_iload_n 3 dL_law_1686 rfl rfl ?_
  refine gx_iconst (v := 1) dL_law_1687 (by decide) ?_
  refine gx_iadd dL_law_1688 ?_
  obtain ⟨hi, h⟩ := h
  refine gx_sld dL_law_1689 hi ?_
  refine gx_callV 10 (As := [.int (gS g (x3 + 1))]) (st := []) dL_law_1690 ml_L_201 mm_X10_restore rfl rfl rfl rfl rfl rfl ⟨rfl, rfl⟩ h (fun v h2 hq => ?_)
  clear h
  obtain ⟨r4, I1, L2, c3, rfl, rfl, h⟩ := hq
  show ZL g nm 1693 [(0, .ref 2501), (1, .ref 0), (2, .ref 59), (3, .int x3)] [.int r4] I1 L2 c3
  refine gx_aload_n 2 dL_law_1693 rfl rfl ?_
  refine gx_aload_n 0 dL_law_1694 rfl rfl ?_
  refine gx_iload_n 3 dL_law_1695 rfl rfl ?_
  refine gx_iconst (v := 1) dL_law_1696 (by decide) ?_
  refine gx_iadd dL_law_1697 ?_
  obtain ⟨hi, h⟩ := h
  refine gx_sld dL_law_1698 hi ?_
  refine gx_callV 11 (As := [.int (gS g (x3 + 1))]) (st := [.int r4]) dL_law_1699 ml_L_204 mm_X11_restore rfl rfl rfl rfl rfl rfl ⟨rfl, rfl⟩ h (fun v h2 hq => ?_)
  clear h
  obtain ⟨r8, I5, L6, c7, rfl, rfl, h⟩ := hq
  show ZL g nm 1702 [(0, .ref 2501), (1, .ref 0), (2, .ref 59), (3, .int x3)] [.int r8, .int r4] I5 L6 c7
  refine gx_icmp_eq 1730 dL_law_1702 (by decide) ⟨fun z => ?_, fun z => ?_⟩
  · replace h := h.1 z
    exact h
  · replace h := h.2 z
    refine gx_iconst (v := 0) dL_law_1705 (by decide) ?_
    exact False.elim h
set_option maxRecDepth 100000 in
theorem r_law_1707 {g : gm_G} {nm : String} {x3 : Int32} {I : mI} {L : mL} {c : gm_cfg} (h : (vp_in (x3 + 1) (gN g) ∧ (C_J_count g (gS g (x3 + 1)) I L c (fun r4 I1 L2 c3 => (vp_in (x3 + 1) (gN g) ∧ (C_M_count g (gS g (x3 + 1)) I1 L2 c3 (fun r8 I5 L6 c7 => ((r4 = r8 → ZL g nm 1730 [(0, .ref 2501), (1, .ref 0), (2, .ref 59), (3, .int x3)] [] I5 L6 c7) ∧ (¬ r4 = r8 → False))))))))) : ZL g nm 1707 [(0, .ref 2501), (1, .ref 0), (2, .ref 59), (3, .int x3)] [] I L c := by
  refine gx_aload_n 1 dL_law_1707 rfl rfl ?_
  refine gx_aload_n 0 dL_law_1708 rfl rfl ?_
  refine gx_iload_n 3 dL_law_1709 rfl rfl ?_
  refine gx_iconst (v := 1) dL_law_1710 (by decide) ?_
  refine gx_iadd dL_law_1711 ?_
  obtain ⟨hi, h⟩ := h
  refine gx_sld dL_law_1712 hi ?_
  refine gx_callV 10 (As := [.int (gS g (x3 + 1))]) (st := []) dL_law_1713 ml_L_205 mm_X10_count rfl rfl rfl rfl rfl rfl ⟨rfl, rfl⟩ h (fun v h2 hq => ?_)
  clear h
  obtain ⟨r4, I1, L2, c3, rfl, rfl, h⟩ := hq
  show ZL g nm 1716 [(0, .ref 2501), (1, .ref 0), (2, .ref 59), (3, .int x3)] [.int r4] I1 L2 c3
  refine gx_aload_n 2 dL_law_1716 rfl rfl ?_
  refine gx_aload_n 0 dL_law_1717 rfl rfl ?_
  refine gx_iload_n 3 dL_law_1718 rfl rfl ?_
  refine gx_iconst (v := 1) dL_law_1719 (by decide) ?_
  refine gx_iadd dL_law_1720 ?_
  obtain ⟨hi, h⟩ := h
  refine gx_sld dL_law_1721 hi ?_
  refine gx_callV 11 (As := [.int (gS g (x3 + 1))]) (st := [.int r4]) dL_law_1722 ml_L_208 mm_X11_count rfl rfl rfl rfl rfl rfl ⟨rfl, rfl⟩ h (fun v h2 hq => ?_)
  clear h
  obtain ⟨r8, I5, L6, c7, rfl, rfl, h⟩ := hq
  show ZL g nm 1725 [(0, .ref 2501), (1, .ref 0), (2, .ref 59), (3, .int x3)] [.int r8, .int r4] I5 L6 c7
  refine gx_icmp_eq 1730 dL_law_1725 (by decide) ⟨fun z => ?_, fun z => ?_⟩
  · replace h := h.1 z
    exact h
  · replace h := h.2 z
    refine gx_iconst (v := 0) dL_law_1728 (by decide) ?_
    exact False.elim h
set_option maxRecDepth 100000 in
theorem r_law_1730 {g : gm_G} {nm : String} {x3 : Int32} {I : mI} {L : mL} {c : gm_cfg} (h : ZL g nm 18 [(0, .ref 2501), (1, .ref 0), (2, .ref 59), (3, .int (x3 + 6))] [] I L c) : ZL g nm 1730 [(0, .ref 2501), (1, .ref 0), (2, .ref 59), (3, .int x3)] [] I L c := by
  refine gx_iinc (v := (x3 + 6)) (lv' := [(0, .ref 2501), (1, .ref 0), (2, .ref 59), (3, .int (x3 + 6))]) 3 dL_law_1730 rfl rfl rfl rfl ?_
  refine gx_goto 18 dL_law_1733 (by decide) ?_
  exact h
