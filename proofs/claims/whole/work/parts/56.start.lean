/-! the start -/
theorem ws_obj {s : State} {a : Array Value} {C : String} (h : (Cond.arrayOver (.object C)).before a s = true) : ∃ cA, ArrOfT s cA (.object C) ∧ va_RA s cA (.object C) := by
  obtain ⟨comp, c, k, h1, h2, h3, h4, h5⟩ := Cond.arrayOver_spec h
  exact ⟨c, fun N z => ⟨(fun k h => by cases h), k, h3, comp, h4⟩, k, comp, h3, h4, h1, h5⟩
theorem ws_int {s : State} {a : Array Value} (h : (Cond.arrayClass .int).before a s = true) : ∃ cA, ArrOfT s cA .int ∧ va_RA s cA .int := by
  obtain ⟨c, k, comp, h1, h2, h3⟩ := Cond.arrayClass_spec h
  exact ⟨c, fun N z => ⟨(fun k h => by cases h), k, h2, comp, h3⟩, h1⟩
theorem ws_boo {s : State} {a : Array Value} (h : (Cond.arrayClass .boolean).before a s = true) : ∃ cA, ArrOfT s cA .boolean ∧ va_RA s cA .boolean := by
  obtain ⟨c, k, comp, h1, h2, h3⟩ := Cond.arrayClass_spec h
  exact ⟨c, fun N z => ⟨(fun k h => by cases h), k, h2, comp, h3⟩, h1⟩
set_option maxHeartbeats 4000000 in
set_option maxRecDepth 100000 in
/-- THE LAW, from its entry -/
theorem whole_start {p : Program} {e : Env} {s : State} {m : MethodId} {below : List Frame} {meth : Method} {c : Code} (l : Launch) {b L : Nat} {xs : Nat → Int32} (hL : L ≤ 3072) (C0 : lw_At p s m meth c b L xs) : W p l e room_1 s m #[Value.ref b] below meth c s.heap [] 0 0 (lw_Z below #[Value.ref b] s) (entryFrame m ([Value.ref b] : List Value).toArray 4) := by
  obtain ⟨hx, hb, hr, hml, hown, hts, hX, hbl, hlocks, hgv⟩ := id C0
  have hG : ∀ w ∈ lw_gt, w.before #[Value.ref b] s = true := fun w hw => hts w (List.mem_filter.mp hw).1
  obtain ⟨c0, i0, k0⟩ := u_known (C := R_V) (T := F_V) (N := 8) (n := 8) hG hL_V (hG _ tw_10)
  obtain ⟨c1, i1, k1⟩ := u_known (C := R_C) (T := F_C) (N := 7) (n := 7) hG hL_C (hG _ tw_133)
  obtain ⟨c2, i2, k2⟩ := u_known (C := R_R) (T := F_R) (N := 2) (n := 2) hG hL_R (hG _ tw_27)
  obtain ⟨c3, i3, k3⟩ := u_known (C := R_B) (T := F_B) (N := 5) (n := 5) hG hL_B (hG _ tw_21)
  obtain ⟨c4, i4, k4⟩ := u_known (C := R_E) (T := F_E) (N := 3) (n := 3) hG hL_E (hG _ tw_63)
  obtain ⟨c5, i5, k5⟩ := u_known (C := R_M) (T := F_M) (N := 18) (n := 18) hG hL_M (hG _ tw_416)
  obtain ⟨a0, q0⟩ := ws_obj (C := "BlockVault$Block") (hts _ (List.mem_append_right _ (List.mem_of_getElem? (i := 18) (by decide +kernel))))
  obtain ⟨a1, q1⟩ := ws_obj (C := "BlockVault$Entry") (hts _ (List.mem_append_right _ (List.mem_of_getElem? (i := 20) (by decide +kernel))))
  obtain ⟨a2, q2⟩ := ws_obj (C := "BlockVault$Copy") (hts _ (List.mem_append_right _ (List.mem_of_getElem? (i := 33) (by decide +kernel))))
  obtain ⟨a3, q3⟩ := ws_int (hts _ (List.mem_append_right _ (List.mem_of_getElem? (i := 477) (by decide +kernel))))
  obtain ⟨a4, q4⟩ := ws_boo (hts _ (List.mem_append_right _ (List.mem_of_getElem? (i := 476) (by decide +kernel))))
  obtain ⟨D, hK⟩ : ∃ D : va_G, va_K D classes (xm_ty D ats) s := by
    refine ⟨(fun k => if k < 100 then (if k = 0 then c0 else if k = 1 then c1 else if k = 2 then c2 else if k = 3 then c3 else if k = 4 then c4 else c5) else (if k = 100 then a0 else if k = 101 then a1 else if k = 102 then a2 else if k = 103 then a3 else a4), fun k => if k = 0 then i0 else if k = 1 then i1 else if k = 2 then i2 else if k = 3 then i3 else if k = 4 then i4 else i5), ?_, ?_⟩
    · intro k q hq
      match k, hq with
      | 0, hq => cases hq; exact k0
      | 1, hq => cases hq; exact k1
      | 2, hq => cases hq; exact k2
      | 3, hq => cases hq; exact k3
      | 4, hq => cases hq; exact k4
      | 5, hq => cases hq; exact k5
      | k + 6, hq => simp [classes] at hq
    · intro k q hq
      match k, hq with
      | 0, hq => cases hq; exact q0
      | 1, hq => cases hq; exact q1
      | 2, hq => cases hq; exact q2
      | 3, hq => cases hq; exact q3
      | 4, hq => cases hq; exact q4
      | k + 5, hq => simp [xm_ty, ats] at hq
  have hN : xm_N s := by
    refine ⟨fun q hq => ?_, fun C hC => ?_⟩
    · simp only [xm_ns, List.mem_cons, List.not_mem_nil, or_false] at hq
      rcases hq with rfl | rfl | rfl
      · exact va_Nw.of rfl (hts _ (List.mem_append_right _ (List.mem_of_getElem? (i := 22) (by decide +kernel))))
      · exact va_Nw.of rfl (hts _ (List.mem_append_right _ (List.mem_of_getElem? (i := 28) (by decide +kernel))))
      · exact va_Nw.of rfl (hts _ (List.mem_append_right _ (List.mem_of_getElem? (i := 64) (by decide +kernel))))
    · simp only [xm_os, List.mem_cons, List.not_mem_nil, or_false] at hC
      rcases hC with rfl | rfl | rfl
      · exact va_AO.of (hts _ (List.mem_append_right _ (List.mem_of_getElem? (i := 18) (by decide +kernel))))
      · exact va_AO.of (hts _ (List.mem_append_right _ (List.mem_of_getElem? (i := 20) (by decide +kernel))))
      · exact va_AO.of (hts _ (List.mem_append_right _ (List.mem_of_getElem? (i := 33) (by decide +kernel))))
  have hC : xm_C p s m #[Value.ref b] c code 4 "BlockVaultLaw" lw_gt D classes ats (fun q => s.heap.size ≤ q) := ⟨⟨hx, hb, hml, hown, hG⟩, hK, fun q hq => hq, hN⟩
  have hbA : ¬ (fun q : Nat => s.heap.size ≤ q) b := Nat.not_le.mpr hbl
  have hz : ∀ pc, decode code pc = .ok (.ireturn, 1) → xm_le (xo_zret (fun r _ => r = some (.int 1))) (xm_A p l e room_1 s m #[Value.ref b] below meth c 4 D classes (fun q => s.heap.size ≤ q) (lw_Z below #[Value.ref b] s) pc) := by
    intro pc hd ls st mm bc bs h H locs cells slots la hl hW hin hS h1 h2
    simp only [xo_zret] at h
    split at h
    · obtain ⟨hv, h⟩ := h
      cases h
      have e1 : room_1.cells = 600000 := rfl
      have e2 : room_1.slots = 7302250 := rfl
      rw [e1] at h1
      rw [e2] at h2
      refine va_forget (fun q hq => hS.2.2 q hq) ?_
      refine W.widen (k := 600000) (n := 7302250) (by omega) (by omega) ?_
      exact lw_ret hx hb hr hlocks hd
    · exact h.elim
  have hrun := law_run (b := b) (L := L) (xs := xs) hL (X := xm_A p l e room_1 s m #[Value.ref b] below meth c 4 D classes (fun q => s.heap.size ≤ q) (lw_Z below #[Value.ref b] s)) (Rh := fun r _ => r = some (.int 1)) (fun _ => rfl) (slaw_0 hC hX hbl hbA hz) (slaw_18 hC hX hbl hbA hz)
  rw [lg_entry_eq]
  exact hrun s.heap [] 0 0 _ (lv_entry [.ref b] (n := 4) (Nat.le_of_ble_eq_true rfl)) (fun a e h => by cases h) (fun a ha => absurd rfl ha) va_S.rf (Nat.le_of_ble_eq_true rfl) (Nat.le_of_ble_eq_true rfl)
