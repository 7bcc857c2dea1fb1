/-! the class's public methods, III: reads -/
section
variable {ad : Nat → Nat} {m : xm_M} {v : Vt} {K : xm_PT} {ls : xm_L} {st : List Value} {bc bs : Nat} {Rh : Option Value → xm_M → Prop}
theorem p_I_bitCount {x : Int32} (h : Rh (some (.int (bcn x))) m) : cp_I_bitCount [.int x] m Rh := by
  refine ⟨Nat.le_of_ble_eq_true rfl, fun X hX => eI_bitCount_0 hX ?_⟩
  unfold cI_bitCount_0
  exact xr_iload rfl <| xr_iload rfl <| xr_push <| xr_ibin <| xr_push <| xr_ibin <| xr_ibin <| xr_istore <| xr_iload rfl <| xr_push <| xr_ibin <| xr_iload rfl <| xr_push <| xr_ibin <| xr_push <| xr_ibin <| xr_ibin <| xr_istore <| xr_iload rfl <| xr_iload rfl <| xr_push <| xr_ibin <| xr_ibin <| xr_push <| xr_ibin <| xr_istore <| xr_iload rfl <| xr_iload rfl <| xr_push <| xr_ibin <| xr_ibin <| xr_istore <| xr_iload rfl <| xr_iload rfl <| xr_push <| xr_ibin <| xr_ibin <| xr_istore <| xr_iload rfl <| xr_push <| xr_ibin <| xr_iret h
theorem p_V_entry (hR : Rep ad m v) {key what : Int32} (h : Rh (some (.int (Fentry v key what))) m) : cp_V_entry [.ref (ad 0), .int key, .int what] m Rh := by
  refine ⟨Nat.le_of_ble_eq_true rfl, fun X hX => eV_entry_0 hX ?_⟩
  unfold cV_entry_0
  by_cases hk : badK key
  · exact xr_iload rfl <| xr_callS (by decide) (by decide) rfl (by decide) <| p_V_isKey0 hk <| xr_ift rfl <| xr_push <| xr_iret (by simpa [Fentry, hk] using h)
  · obtain ⟨k, hk16, rfl⟩ := badK_not hk
    refine xr_iload rfl <| xr_callS (by decide) (by decide) rfl (by decide) <| p_V_isKey hk16 <| xr_iff (by decide) <| xr_iload rfl <| xr_if (fun h1 => xr_push <| xr_iret (by simpa [Fentry, h1] using h)) (fun h1 => ?_)
    refine xr_iload rfl <| xr_push <| xr_cmp (fun h2 => ?_) (fun h2 => xr_push <| xr_iret (by simpa [Fentry, h2] using h))
    have nb : ¬ (badK (nI k) ∨ what < 0 ∨ ¬ what ≤ nI 6) := by
      rintro (q | q | q)
      · exact hk q
      · exact h1 q
      · exact q h2
    simp only [Fentry, if_neg nb, kk_nI (show k < 2 ^ 31 by omega)] at h
    refine xr_aload rfl <| xr_get hR.vt rfl <| xr_if (fun h5 => ?_) (fun h5 => ?_)
    · rw [bI_0] at h5
      simp only [h5, Bool.false_eq_true, if_false] at h
      refine q_ent hR hk16 rfl rfl <| xr_astore <| ?_
      cases he : v.ent k with
      | none =>
        simp only [he] at h
        exact xr_aload rfl <| xr_get (hR.e0 hk16 he) rfl <| xr_isnull <| xr_push <| xr_iret h
      | some e =>
        obtain ⟨c, hh, p⟩ := e
        obtain ⟨q, g1, g2⟩ := hR.e1 hk16 he
        simp only [he] at h
        refine xr_aload rfl <| xr_get g1 rfl <| xr_nonnull <| xr_iload rfl <| xr_tsw <| xr_sw (fun a0 => ?_) (fun a0 => xr_sw (fun a1 => ?_) (fun a1 => xr_sw (fun a2 => ?_) (fun a2 => xr_sw (fun a3 => ?_) (fun a3 => xr_sw (fun a4 => ?_) (fun a4 => xr_sw (fun a5 => ?_) (fun a5 => xr_sd ?_))))))
        · refine xr_aload rfl <| xr_get g1 rfl <| xr_get g2 rfl <| xr_if (fun h6 => ?_) (fun h6 => ?_)
          · rw [bI_0] at h6
            exact xr_push <| xr_iret (by simpa [a0, h6] using h)
          · rw [bI_0] at h6
            exact xr_push <| xr_iret (by simpa [a0, h6] using h)
        · have a1 : what.toInt = 1 := a1
          exact xr_aload rfl <| xr_get g1 rfl <| xr_get g2 rfl <| xr_iret (by simpa [a1] using h)
        · have a2 : what.toInt = 2 := a2
          exact xr_aload rfl <| xr_get g1 rfl <| xr_get g2 rfl <| xr_iret (by simpa [a2] using h)
        · have a3 : what.toInt = 3 := a3
          exact xr_aload rfl <| xr_get g1 rfl <| xr_get g2 rfl <| xr_iret (by simpa [a3] using h)
        · have a4 : what.toInt = 4 := a4
          exact xr_aload rfl <| xr_get g1 rfl <| xr_get g2 rfl <| xr_iret (by simpa [a4] using h)
        · have a5 : what.toInt = 5 := a5
          exact xr_aload rfl <| xr_get g1 rfl <| xr_iret (by simpa [a5] using h)
        · have a1 : ¬ what.toInt = 1 := a1
          have a2 : ¬ what.toInt = 2 := a2
          have a3 : ¬ what.toInt = 3 := a3
          have a4 : ¬ what.toInt = 4 := a4
          have a5 : ¬ what.toInt = 5 := a5
          exact xr_aload rfl <| xr_get g1 rfl <| xr_iret (by simpa only [a0, a1, a2, a3, a4, a5, if_false] using h)
    · rw [bI_0] at h5
      have h5 : v.dwn = true := by simpa using h5
      simp only [h5, if_true] at h
      exact xr_push <| xr_iret h
theorem p_V_next (hR : Rep ad m v) {key : Int32} (h : Rh (some (.int (Fnext v key))) m) : cp_V_next [.ref (ad 0), .int key] m Rh := by
  refine ⟨Nat.le_of_ble_eq_true rfl, fun X hX => eV_next_0 hX ?_⟩
  unfold cV_next_0
  refine xr_aload rfl <| xr_get hR.vt rfl <| xr_if (fun h5 => ?_) (fun h5 => ?_)
  · rw [bI_0] at h5
    simp only [Fnext, h5, Bool.false_eq_true, if_false] at h
    have L : ∀ n k, k + n = 16 → Rh (some (.int (match nxt v key n k with
      | none => -4
      | some k => nI k))) m → X 12 [(0, .ref (ad 0)), (1, .int key), (2, .int (nI k))] [] m 0 0 := by
      intro n
      induction n with
      | zero =>
        intro k hk h
        have : k = 16 := by omega
        subst this
        refine eV_next_12 hX ?_
        unfold cV_next_12
        exact xr_iload rfl <| xr_push <| xr_cmpt (Int32.le_refl _) <| xr_push <| xr_iret h
      | succ n ih =>
        intro k hk h
        refine eV_next_12 hX ?_
        unfold cV_next_12
        have hk8 : k < 16 := by omega
        simp only [nxt] at h
        refine xr_iload rfl <| xr_push <| xr_cmpf (nI_ge hk8 (by decide)) <| xr_iload rfl <| xr_iload rfl <| xr_cmp (fun h1 => ?_) (fun h1 => ?_)
        · simp only [h1, if_true] at h
          refine xr_iinc rfl <| xr_jmp rfl ?_
          rw [nI_1]
          exact ih (k + 1) (by omega) h
        · simp only [h1, if_false] at h
          refine q_ent hR hk8 rfl rfl <| ?_
          cases he : v.ent k with
          | none =>
            simp only [he] at h
            refine xr_get (hR.e0 hk8 he) rfl <| xr_isnull <| xr_iinc rfl <| xr_jmp rfl ?_
            rw [nI_1]
            exact ih (k + 1) (by omega) h
          | some e =>
            obtain ⟨c, hh, p⟩ := e
            obtain ⟨q, g1, g2⟩ := hR.e1 hk8 he
            simp only [he] at h
            exact xr_get g1 rfl <| xr_nonnull <| xr_iload rfl <| xr_iret h
    exact xr_push <| xr_istore <| xr_jmp rfl (L 16 0 rfl h)
  · rw [bI_0] at h5
    have h5 : v.dwn = true := by simpa using h5
    simp only [Fnext, h5, if_true] at h
    exact xr_push <| xr_iret h
theorem p_V_rank (hR : Rep ad m v) {key : Int32} (h : Rh (some (.int (Frank v key))) m) : cp_V_rank [.ref (ad 0), .int key] m Rh := by
  refine ⟨Nat.le_of_ble_eq_true rfl, fun X hX => eV_rank_0 hX ?_⟩
  unfold cV_rank_0
  refine xr_aload rfl <| xr_get hR.vt rfl <| xr_if (fun h5 => ?_) (fun h5 => ?_)
  · rw [bI_0] at h5
    simp only [Frank, h5, Bool.false_eq_true, if_false] at h
    have L : ∀ n k a, k + n = 16 → Rh (some (.int (nI (rnk v key n k a)))) m → X 14 [(0, .ref (ad 0)), (1, .int key), (2, .int (nI a)), (3, .int (nI k))] [] m 0 0 := by
      intro n
      induction n with
      | zero =>
        intro k a hk h
        have : k = 16 := by omega
        subst this
        refine eV_rank_14 hX ?_
        unfold cV_rank_14
        exact xr_iload rfl <| xr_push <| xr_cmpt (Int32.le_refl _) <| xr_iload rfl <| xr_iret h
      | succ n ih =>
        intro k a hk h
        refine eV_rank_14 hX ?_
        unfold cV_rank_14
        have hk8 : k < 16 := by omega
        simp only [rnk] at h
        refine xr_iload rfl <| xr_push <| xr_cmpf (nI_ge hk8 (by decide)) <| xr_iload rfl <| xr_iload rfl <| xr_cmp (fun h1 => ?_) (fun h1 => ?_)
        · simp only [h1, if_true] at h
          refine xr_iinc rfl <| xr_jmp rfl ?_
          rw [nI_1]
          exact ih (k + 1) a (by omega) h
        · simp only [h1, if_false] at h
          refine q_ent hR hk8 rfl rfl <| ?_
          cases he : v.ent k with
          | none =>
            simp only [he] at h
            refine xr_get (hR.e0 hk8 he) rfl <| xr_isnull <| xr_iinc rfl <| xr_jmp rfl ?_
            rw [nI_1]
            exact ih (k + 1) a (by omega) h
          | some e =>
            obtain ⟨c, hh, p⟩ := e
            obtain ⟨q, g1, g2⟩ := hR.e1 hk8 he
            simp only [he] at h
            refine xr_get g1 rfl <| xr_nonnull <| xr_iinc rfl <| xr_iinc rfl <| xr_jmp rfl ?_
            rw [nI_1, nI_1]
            exact ih (k + 1) (a + 1) (by omega) h
    exact xr_push <| xr_istore <| xr_push <| xr_istore <| xr_jmp rfl (L 16 0 0 rfl h)
  · rw [bI_0] at h5
    have h5 : v.dwn = true := by simpa using h5
    simp only [Frank, h5, if_true] at h
    exact xr_push <| xr_iret h
theorem p_V_block (hR : Rep ad m v) (hw : Wf v) {b what : Int32} (h : Rh (some (.int (Fblock v b what))) m) : cp_V_block [.ref (ad 0), .int b, .int what] m Rh := by
  refine ⟨Nat.le_of_ble_eq_true rfl, fun X hX => eV_block_0 hX ?_⟩
  unfold cV_block_0
  by_cases hb : b < 0 ∨ nI 8 ≤ b
  · exact xr_iload rfl <| xr_callS (by decide) (by decide) rfl (by decide) <| p_V_isBlock0 hb <| xr_ift rfl <| xr_push <| xr_iret (by simpa [Fblock, hb] using h)
  · obtain ⟨j, hj8, rfl⟩ := blk_not hb
    simp only [Fblock, if_neg hb, kk_nI (show j < 2 ^ 31 by omega)] at h
    refine xr_iload rfl <| xr_callS (by decide) (by decide) rfl (by decide) <| p_V_isBlock hj8 <| xr_iff (by decide) <| xr_iload rfl <| xr_tsw <| xr_sw (fun a0 => ?_) (fun a0 => xr_sw (fun a1 => ?_) (fun a1 => xr_sw (fun a2 => ?_) (fun a2 => xr_sw (fun a3 => ?_) (fun a3 => xr_sw (fun a4 => ?_) (fun a4 => xr_sd ?_)))))
    · exact q_blk hR hj8 rfl rfl <| xr_get (hR.bk hj8) rfl <| xr_iret (by simpa [a0] using h)
    · have a1 : what.toInt = 1 := a1
      exact xr_aload rfl <| xr_iload rfl <| xr_callV (by decide) (by decide) rfl (by decide) hR.vt <| p_V_used hR hw hj8 <| xr_iret (by simpa only [a1, if_true, if_false, show ¬ (1 : Int) = 0 by decide] using h)
    · have a2 : what.toInt = 2 := a2
      exact q_blk hR hj8 rfl rfl <| xr_get (hR.bk hj8) rfl <| xr_callV (by decide) (by decide) rfl (by decide) (hR.rw (by omega)) <| p_R_sizes hR (by omega) <| xr_iret (by simpa [a2] using h)
    · have a3 : what.toInt = 3 := a3
      exact q_blk hR hj8 rfl rfl <| xr_get (hR.bk hj8) rfl <| xr_get (hR.rw (r := 8 + j) (by omega)) rfl <| xr_iret (by simpa [a3] using h)
    · have a4 : what.toInt = 4 := a4
      exact q_blk hR hj8 rfl rfl <| xr_get (hR.bk hj8) rfl <| xr_callS (by decide) (by decide) rfl (by decide) <| p_I_bitCount <| xr_iret (by simpa only [a4, if_true, if_false, show ¬ (4 : Int) = 0 by decide, show ¬ (4 : Int) = 1 by decide, show ¬ (4 : Int) = 2 by decide, show ¬ (4 : Int) = 3 by decide] using h)
    · have a1 : ¬ what.toInt = 1 := a1
      have a2 : ¬ what.toInt = 2 := a2
      have a3 : ¬ what.toInt = 3 := a3
      have a4 : ¬ what.toInt = 4 := a4
      exact xr_push <| xr_iret (by simpa only [a0, a1, a2, a3, a4, if_false] using h)
theorem p_V_image (hR : Rep ad m v) {b k : Int32} (h : Rh (some (.int (Fimage v b k))) m) : cp_V_image [.ref (ad 0), .int b, .int k] m Rh := by
  refine ⟨Nat.le_of_ble_eq_true rfl, fun X hX => eV_image_0 hX ?_⟩
  unfold cV_image_0
  by_cases hb : b < 0 ∨ nI 8 ≤ b
  · exact xr_iload rfl <| xr_callS (by decide) (by decide) rfl (by decide) <| p_V_isBlock0 hb <| xr_ift rfl <| xr_push <| xr_iret (by simpa [Fimage, hb] using h)
  · obtain ⟨j, hj8, rfl⟩ := blk_not hb
    have hlen := hR.len (r := 8 + j) (by omega)
    simp only [Fimage, if_neg hb, kk_nI (show j < 2 ^ 31 by omega)] at h
    refine xr_iload rfl <| xr_callS (by decide) (by decide) rfl (by decide) <| p_V_isBlock hj8 <| xr_iff (by decide) <| q_blk hR hj8 rfl rfl <| xr_get (hR.bk hj8) rfl <| xr_iload rfl <| xr_callV (by decide) (by decide) rfl (by decide) (hR.rw (r := 8 + j) (by omega)) <| ?_
    by_cases hk : k < 0 ∨ nI (v.row (8 + j)).length ≤ k
    · rw [if_pos hk] at h
      exact p_R_at0 hR (by omega) hk <| xr_astoreq xm_ref_n <| xr_aloadq rfl xm_ref_n <| xr_isnull <| xr_push <| xr_iret h
    · rw [if_neg hk] at h
      rcases pk_ix k (n := (v.row (8 + j)).length) (by omega) with h1 | h1 | ⟨p, hp, rfl⟩
      · exact absurd (Or.inl h1) hk
      · exact absurd (Or.inr h1) hk
      · obtain ⟨c, hc, -⟩ := drop_at hp
        rw [kk_nI (by omega), hc] at h
        exact p_R_at hR (by omega) hc (fun a ha => xr_astore <| xr_aload rfl <| xr_nonnull <| xr_aload rfl <| xr_get ha rfl <| xr_iret h)
theorem p_V_count (hR : Rep ad m v) {what : Int32} (h : Rh (some (.int (Fcount v what))) m) : cp_V_count [.ref (ad 0), .int what] m Rh := by
  refine ⟨Nat.le_of_ble_eq_true rfl, fun X hX => eV_count_0 hX ?_⟩
  unfold cV_count_0
  unfold Fcount at h
  refine xr_iload rfl <| xr_tsw <| xr_sw (fun a0 => ?_) (fun a0 => xr_sw (fun a1 => ?_) (fun a1 => xr_sw (fun a2 => ?_) (fun a2 => xr_sw (fun a3 => ?_) (fun a3 => xr_sw (fun a4 => ?_) (fun a4 => xr_sw (fun a5 => ?_) (fun a5 => xr_sw (fun a6 => ?_) (fun a6 => xr_sw (fun a7 => ?_) (fun a7 => xr_sd ?_))))))))
  · rw [if_pos a0] at h
    exact xr_aload rfl <| xr_callV (by decide) (by decide) rfl (by decide) hR.vt <| p_V_countThere hR <| xr_iret h
  · have a1 : what.toInt = 1 := a1
    rw [if_neg a0, if_pos a1] at h
    exact xr_aload rfl <| xr_callV (by decide) (by decide) rfl (by decide) hR.vt <| p_V_countEntries hR <| xr_iret h
  · have a1 : ¬ what.toInt = 1 := a1
    have a2 : what.toInt = 2 := a2
    rw [if_neg a0, if_neg a1, if_pos a2] at h
    exact xr_aload rfl <| xr_callV (by decide) (by decide) rfl (by decide) hR.vt <| p_V_countTombstones hR <| xr_iret h
  · have a3 : what.toInt = 3 := a3
    exact xr_aload rfl <| xr_get hR.vt rfl <| xr_iret (by simpa [a3] using h)
  · have a4 : what.toInt = 4 := a4
    refine xr_aload rfl <| xr_get hR.vt rfl <| xr_if (fun h5 => ?_) (fun h5 => ?_)
    · rw [bI_0] at h5
      exact xr_aload rfl <| xr_get hR.vt rfl <| xr_iret (by simpa [a4, h5] using h)
    · rw [bI_0] at h5
      exact xr_push <| xr_iret (by simpa [a4, h5] using h)
  · have a5 : what.toInt = 5 := a5
    exact xr_aload rfl <| xr_get hR.vt rfl <| xr_iret (by simpa [a5] using h)
  · have a6 : what.toInt = 6 := a6
    exact xr_aload rfl <| xr_get hR.vt rfl <| xr_iret (by simpa [a6] using h)
  · have a7 : what.toInt = 7 := a7
    refine xr_aload rfl <| xr_get hR.vt rfl <| xr_if (fun h5 => ?_) (fun h5 => ?_)
    · rw [bI_0] at h5
      exact xr_push <| xr_iret (by simpa [a7, h5] using h)
    · rw [bI_0] at h5
      exact xr_push <| xr_iret (by simpa [a7, h5] using h)
  · have a1 : ¬ what.toInt = 1 := a1
    have a2 : ¬ what.toInt = 2 := a2
    have a3 : ¬ what.toInt = 3 := a3
    have a4 : ¬ what.toInt = 4 := a4
    have a5 : ¬ what.toInt = 5 := a5
    have a6 : ¬ what.toInt = 6 := a6
    have a7 : ¬ what.toInt = 7 := a7
    exact xr_push <| xr_iret (by simpa only [a0, a1, a2, a3, a4, a5, a6, a7, if_false] using h)
end
