/-! the law's walk from its entry -/
theorem whole_start {p : Program} {e : Env} {s : State} {m : MethodId} {below : List Frame} {meth : Method} {c : Code} (l : Launch) (hflags : l.flags = flags0) {b L : Nat} {xs : Nat → Int32} (hL : L ≤ 3072) (C0 : lw_At p s m meth c b L xs) : W p l e room_1 s m #[Value.ref b] below meth c s.heap [] 0 0 (lw_Z below #[Value.ref b] s) (entryFrame m ([Value.ref b] : List Value).toArray 4) := by
  obtain ⟨hx, hb, hr, hml, hown, hts, hX, hbl, hlocks, hgv⟩ := id C0
  obtain ⟨g, g0, g1, g2, gL, gK⟩ := gm_start l hts hX hbl hgv
  subst g0
  have hl := lv_entry ([.ref b]) (n := 4) (Nat.le_of_ble_eq_true rfl)
  rw [lg_entry_eq]
  generalize (lg_sl ([.ref b]) ++ List.replicate (4 - (lg_sl ([.ref b])).length) Slot.unset).toArray = ls at hl ⊢
  have hl : lv_has ls 4 [(0, .ref b)] := hl
  have hl2 : lv_has ls 4 (gm_lv g [(0, .ref 2501)]) := by
    show lv_has ls 4 [(0, .ref (gm_ad g 2501))]
    rw [g2]
    exact hl
  have hP : va_P g.2.1 vwCl (gm_W g (shp_0, kI_0, kL_0, kR_0)) s.heap := fun k q hk => by
    have hk2 : ([] : va_W)[k]? = some q := hk
    simp at hk2
  have key := law_entry (g := g) (nm := meth.name) (by rw [gL]; exact hL) p e s m #[Value.ref b] below meth c s.heap [] ls ⟨hx, hb, hml, hown, fun w hw => hts w (st_m hw), hr, hlocks, rfl, gK, by rw [g1]; exact Nat.le_refl _⟩ hP (by rw [g1]; rfl) va_S.rf hl2
  intro T hT X
  obtain ⟨t, a1, b1⟩ := key T hT X
  exact ⟨t, a1, b1 (by rw [g2])⟩
