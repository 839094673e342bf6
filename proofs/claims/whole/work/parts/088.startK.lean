/-! gm_K at the law's entry -/
section SK
theorem gm_ad_K {g : gm_G} {i : Nat} (h : i < 1000) : gm_ad g (1000 + i) = g.2.2.2.2.1 i := by
  unfold gm_ad
  rw [if_neg (by omega), if_pos (by omega), Nat.add_sub_cancel_left]
theorem gm_ad_V {g : gm_G} {i : Nat} : gm_ad g (2000 + i) = g.2.2.2.2.2.1 i := by
  unfold gm_ad
  rw [if_neg (by omega), if_neg (by omega), Nat.add_sub_cancel_left]
variable {args : Array Value} {s : State}
theorem gm_start (l : Launch) {b L : Nat} {xs : Nat → Int32} (hts : ∀ w ∈ lw_tbl, w.before args s = true) (hX : va_X b L xs s s.heap) (hbl : b < s.heap.size) (hgv : (Jvm.Cond.and given_1 narrow_1).before args s = true) : ∃ g : gm_G, g.1 = l ∧ gm_bs g = s.heap.size ∧ gm_ad g 2501 = b ∧ gN g = L ∧ gm_K g s := by
  have hfl := flat_of_before _ hgv
  have hA : ∀ a : Nat, a < s.heap.size → ¬ (fun q : Nat => s.heap.size ≤ q) a := fun a h => Nat.not_le.mpr h
  have h1 : ∀ c : Nat, ∃ q : ClassId × (Nat → Nat), c < 12 → u_Kn s (gm_R c) (gm_T c) (gm_n c) q.1 q.2 := fun c => by
    by_cases hc : c < 12
    · obtain ⟨a, i, h⟩ := st_cl hts hc
      exact ⟨(a, i), fun _ => h⟩
    · obtain ⟨a, i, h⟩ := st_cl hts (show 0 < 12 by omega)
      exact ⟨(a, i), fun h => absurd h hc⟩
  obtain ⟨d, hd⟩ := Classical.axiomOfChoice h1
  have h2 : ∀ t : Nat, ∃ q : ClassId, t < 7 → ArrOfT s q (gm_tyA t) ∧ va_RA s q (gm_tyA t) := fun t => by
    by_cases ht : t < 7
    · obtain ⟨a, h⟩ := st_ty hts ht
      exact ⟨a, fun _ => h⟩
    · obtain ⟨a, h⟩ := st_ty hts (show 0 < 7 by omega)
      exact ⟨a, fun h => absurd h ht⟩
  obtain ⟨ca, hca⟩ := Classical.axiomOfChoice h2
  obtain ⟨adK, adV, hSt, hEv⟩ := vk_Sof (s := s) (args := args) (N := 9) (tm := st_tm) (len := gm_sl) (byt := gm_sb) (A := fun q : Nat => s.heap.size ≤ q) (by decide) (fun i hi => hfl _ (st_ex i hi)) (fun i hi => hfl _ (st_co i hi)) (fun i hi => hfl _ (st_ar i hi)) (fun i hi => hfl _ (st_le i hi)) (fun i hi j hj => hfl _ (st_el i hi j hj)) (fun i j hi hj hij => (st_ne i hi j hj hij).imp (hfl _) (hfl _)) hA
  have hZ1 : va_Z "java/lang/String" "COMPACT_STRINGS" "Z" (.int 1) (fun q : Nat => s.heap.size ≤ q) s s.heap := va_Zof (hts _ st_l1) (hts _ st_i1) (va_eqt (hfl _ st_cs)) hA
  have hZ2 : ∃ t : Nat, va_Z "jdk/internal/util/Preconditions" "SIOOBE_FORMATTER" "Ljava/util/function/BiFunction;" .null (fun q : Nat => s.heap.size ≤ q) s s.heap ∨ va_Z "jdk/internal/util/Preconditions" "SIOOBE_FORMATTER" "Ljava/util/function/BiFunction;" (.ref t) (fun q : Nat => s.heap.size ≤ q) s s.heap := by
    rcases va_Zqof (A := fun q : Nat => s.heap.size ≤ q) (hts _ st_l2) (hts _ st_i2) (hfl _ st_fm) hA with h | ⟨t, h⟩
    · exact ⟨0, Or.inl h⟩
    · exact ⟨t, Or.inr h⟩
  obtain ⟨t0, hZ2⟩ := hZ2
  refine ⟨(l, (fun c => (d c).1, fun c => (d c).2), ca, s.heap.size, adK, fun i => if i = 500 then t0 else if i = 501 then b else adV i, L, xs), rfl, rfl, rfl, rfl, ⟨fun c q hq => ?_, fun k q hk => ?_⟩, fun w hw => ?_, ⟨va_AO.of (hts _ st_row), va_AO.of (hts _ st_ima), hts _ st_ints⟩, fun i hi => ?_, ⟨fun i hi => ?_, fun i j hi hj e => ?_⟩, hZ1, hZ2, hX, hbl, Nat.not_le.mpr hbl⟩
  · have hc : c < 12 := (List.getElem?_eq_some_iff.mp hq).1
    rw [gm_cl hc] at hq
    cases hq
    exact hd c hc
  · have hk7 : k < 7 := (List.getElem?_eq_some_iff.mp hk).1
    rw [gm_tys_at hk7] at hk
    cases hk
    exact hca k hk7
  · obtain ⟨a, i, x, k, rfl⟩ := gm_NW_nest hw
    exact va_Nw.of rfl (hts _ (List.mem_append_right _ (List.mem_filter.mp hw).1))
  · rw [gm_ad_K (by omega)]
    exact vk_R.of (hts _ (st_sr i hi)) (hEv i hi)
  · dsimp only
    rw [gm_ad_K (by omega), gm_ad_V]
    have e2 : (if i = 500 then t0 else if i = 501 then b else adV i) = adV i := by rw [if_neg (by omega), if_neg (by omega)]
    dsimp only
    rw [e2]
    exact hSt.1 i hi
  · dsimp only at e
    rw [gm_ad_K (by omega), gm_ad_K (by omega)] at e
    exact hSt.2 i j hi hj e
end SK
