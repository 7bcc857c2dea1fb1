/-! the class's public methods, II -/
section
variable {ad : Nat → Nat} {m : xm_M} {v : Vt} {K : xm_PT} {ls : xm_L} {st : List Value} {bc bs : Nat} {Rh : Option Value → xm_M → Prop}
theorem Rep.addM (hR : Rep ad m v) (n : Nat) : Rep ad (xm_up m (ad 0) (vtV ad (addM v n))) (addM v n) := hR.upV _
theorem Rep.setD (hR : Rep ad m v) (d : Bool) : Rep ad (xm_up m (ad 0) (vtV ad (setD v d))) (setD v d) := hR.upV _
theorem p_V_evict (P : Nat → Vt → Prop) (hP : ∀ n v, P (n + 1) v → FIT v ∧ ∀ k h v1, k < 16 → wri v (wtmb v k) = .inr (h, v1) → P n v1) (hR : Rep ad m v) (hw : Wf v) (hv : v.dwn = false → P 16 v) (hmono : ∀ n v, P (n + 1) v → P n v) {n : Int32} (h : ∀ m', Rep ad m' (Fevict v n).2 → Wf (Fevict v n).2 → FrC m m' → Rh (some (.int (Fevict v n).1)) m') : cp_V_evict [.ref (ad 0), .int n] m Rh := by
  refine ⟨Nat.le_of_ble_eq_true rfl, fun X hX => eV_evict_0 hX ?_⟩
  unfold cV_evict_0
  refine xr_iload rfl <| xr_push <| xr_cmp (fun h1 => ?_) (fun h1 => ?_)
  · simp only [Fevict, h1, true_or, if_true] at h
    exact xr_push <| xr_iret (h m hR hw FrC.rf)
  · refine xr_iload rfl <| xr_push <| xr_cmp (fun h2 => ?_) (fun h2 => ?_)
    · obtain ⟨N, hN1, hN16, rfl⟩ := rng_not (n := 16) (by decide) h1 h2
      simp only [Fevict, h1, h2, not_true, or_self, if_false, kk_nI (show N < 2 ^ 31 by omega)] at h
      refine xr_aload rfl <| xr_get hR.vt rfl <| xr_if (fun h5 => ?_) (fun h5 => ?_)
      · rw [bI_0] at h5
        simp only [h5, Bool.false_eq_true, if_false] at h
        have L : ∀ j a m1 (v1 : Vt), a + j = N → P (16 - a) v1 → Rep ad m1 v1 → Wf v1 → FrC m m1 → (∀ m', Rep ad m' (evl j v1 a).2 → Wf (evl j v1 a).2 → FrC m m' → Rh (some (.int (nI (evl j v1 a).1))) m') → X 25 [(0, .ref (ad 0)), (1, .int (nI N)), (2, .int (nI a))] [] m1 (16 - a) (112 - 7 * a) := by
          intro j
          induction j with
          | zero =>
            intro a m1 v1 ha hP1 hR1 hW1 hF1 h
            refine eV_evict_25 hX ?_
            unfold cV_evict_25
            exact xr_iload rfl <| xr_iload rfl <| xr_cmpt (nI_le (by omega) (by omega)) <| xr_iload rfl <| xr_iret (h m1 hR1 hW1 hF1)
          | succ j ih =>
            intro a m1 v1 ha hP1 hR1 hW1 hF1 h
            refine eV_evict_25 hX ?_
            unfold cV_evict_25
            have hP2 : P ((16 - (a + 1)) + 1) v1 := by rw [show 16 - (a + 1) + 1 = 16 - a by omega]; exact hP1
            obtain ⟨hfit, hstep⟩ := hP _ _ hP2
            refine xr_iload rfl <| xr_iload rfl <| xr_cmpf (nI_ge (by omega) (by omega)) <| xr_aload rfl <| xr_callV (Nat.zero_le _) (Nat.zero_le _) rfl (by decide) hR1.vt <| p_V_firstToExpire hR1 <| xr_istore <| ?_
            simp only [evl] at h
            cases hk : fte v1 16 0 none with
            | none =>
              simp only [hk] at h
              exact xr_iload rfl <| xr_push <| xr_cmpt rfl <| xr_iload rfl <| xr_iret (h m1 hR1 hW1 hF1)
            | some k =>
              have hk16 : k < 16 := by have := fte_lt 16 0 none k (fun y hy => by cases hy) hk; omega
              simp only [hk] at h
              refine xr_iload rfl <| xr_push <| xr_cmpf (nI_m1 (by omega)) <| xr_aload rfl <| xr_iload rfl <| xr_callV (by omega) (by omega) rfl (by decide) hR1.vt <| p_V_writeTombstone hR1 hW1 (hfit _ hk16 (Nat.le_refl 1) (by show 1 ≤ 6; omega)) (fun e m' he hn hR' hF' => ?_) (fun hh v2 m2 he h8 hR2 hW2 hF2 => ?_)
              · simp only [he] at h
                refine xr_iff (fun z => ?_) <| xr_iload rfl <| xr_iret (h m' hR' hW1 (hF1.tr hF'))
                have a1 := Int32.le_iff_toInt_le.mp z
                have a2 := Int32.lt_iff_toInt_lt.mp hn
                omega
              · simp only [he] at h
                refine xr_ift (nI_pos' (by omega)) <| xr_iinc rfl <| xr_jmp rfl ?_
                rw [nI_1]
                have := ih (a + 1) m2 v2 (by omega) (hstep k hh v2 hk16 he) hR2 hW2 (hF1.tr hF2) h
                rw [show 16 - (a + 1) = 16 - a - 0 - 1 by omega, show 112 - 7 * (a + 1) = 112 - 7 * a - 0 - 7 by omega] at this
                exact this
        exact xr_push <| xr_istore <| xr_jmp rfl (L N 0 m v (Nat.zero_add _) (hv h5) hR hw FrC.rf h)
      · rw [bI_0] at h5
        have h5 : v.dwn = true := by simpa using h5
        simp only [h5, if_true] at h
        exact xr_push <| xr_iret (h m hR hw FrC.rf)
    · simp only [Fevict, h1, h2, not_false_iff, or_true, if_true] at h
      exact xr_push <| xr_iret (h m hR hw FrC.rf)
theorem p_V_sweep (hR : Rep ad m v) (hw : Wf v) (h : ∀ m', Rep ad m' (Fsweep v).2 → Wf (Fsweep v).2 → FrC m m' → Rh (some (.int (Fsweep v).1)) m') : cp_V_sweep [.ref (ad 0)] m Rh := by
  refine ⟨Nat.le_of_ble_eq_true rfl, fun X hX => eV_sweep_0 hX ?_⟩
  unfold cV_sweep_0
  refine xr_aload rfl <| xr_get hR.vt rfl <| xr_if (fun h5 => ?_) (fun h5 => ?_)
  · rw [bI_0] at h5
    simp only [Fsweep, h5, Bool.false_eq_true, if_false] at h
    have L : ∀ n k a m1 (v1 : Vt), k + n = 16 → Rep ad m1 v1 → Wf v1 → FrC m m1 → (∀ m', Rep ad m' (swl n k v1 a).2 → Wf (swl n k v1 a).2 → FrC m m' → Rh (some (.int (nI (swl n k v1 a).1))) m') → X 14 [(0, .ref (ad 0)), (1, .int (nI a)), (2, .int (nI k))] [] m1 0 0 := by
      intro n
      induction n with
      | zero =>
        intro k a m1 v1 hk hR1 hW1 hF1 h
        have : k = 16 := by omega
        subst this
        refine eV_sweep_14 hX ?_
        unfold cV_sweep_14
        exact xr_iload rfl <| xr_push <| xr_cmpt (Int32.le_refl _) <| xr_iload rfl <| xr_iret (h m1 hR1 hW1 hF1)
      | succ n ih =>
        intro k a m1 v1 hk hR1 hW1 hF1 h
        refine eV_sweep_14 hX ?_
        unfold cV_sweep_14
        have hk8 : k < 16 := by omega
        simp only [swl] at h
        refine xr_iload rfl <| xr_push <| xr_cmpf (nI_ge hk8 (by decide)) <| xr_aload rfl <| xr_iload rfl <| xr_callV (by decide) (by decide) rfl (by decide) hR1.vt <| p_V_isNeedless hR1 hW1 hk8 <| xr_if (fun h1 => ?_) (fun h1 => ?_)
        · rw [bI_0] at h1
          simp only [h1, Bool.false_eq_true, if_false] at h
          refine xr_iinc rfl <| xr_jmp rfl ?_
          rw [nI_1]
          exact ih (k + 1) a m1 v1 (by omega) hR1 hW1 hF1 h
        · rw [bI_0] at h1
          have h1 : ndl v1 k = true := by simpa using h1
          simp only [h1, if_true] at h
          refine xr_aload rfl <| xr_iload rfl <| xr_callV (by decide) (by decide) rfl (by decide) hR1.vt <| p_V_dropEntry hR1 hW1 hk8 (fun m2 hR2 hW2 hF2 => ?_)
          refine xr_iinc rfl <| xr_iinc rfl <| xr_jmp rfl ?_
          rw [nI_1, nI_1]
          exact ih (k + 1) (a + 1) m2 _ (by omega) hR2 hW2 (hF1.tr hF2) h
    exact xr_push <| xr_istore <| xr_push <| xr_istore <| xr_jmp rfl (L 16 0 0 m v rfl hR hw FrC.rf h)
  · rw [bI_0] at h5
    have h5 : v.dwn = true := by simpa using h5
    simp only [Fsweep, h5, if_true] at h
    exact xr_push <| xr_iret (h m hR hw FrC.rf)
theorem p_V_seal (hR : Rep ad m v) (hw : Wf v) (hsl : v.sls + 1 < 2 ^ 30) (h : ∀ m', Rep ad m' (Fseal v).2 → Wf (Fseal v).2 → FrC m m' → Rh (some (.int (Fseal v).1)) m') : cp_V_seal [.ref (ad 0)] m Rh := by
  refine ⟨Nat.le_of_ble_eq_true rfl, fun X hX => eV_seal_0 hX ?_⟩
  unfold cV_seal_0
  refine xr_aload rfl <| xr_get hR.vt rfl <| xr_if (fun h5 => ?_) (fun h5 => ?_)
  · rw [bI_0] at h5
    simp only [Fseal, h5, Bool.false_eq_true, if_false] at h
    refine xr_aload rfl <| xr_push <| xr_callV (by decide) (by decide) rfl (by decide) hR.vt <| p_V_leastInState hR hw (s := 1) rfl (by decide) <| xr_istore <| ?_
    cases hc : lis v 1 8 0 with
    | none =>
      simp only [hc] at h
      exact xr_iload rfl <| xr_push <| xr_cmpt rfl <| xr_push <| xr_iret (h m hR hw FrC.rf)
    | some b =>
      have hb8 := lis8 hc
      have hci := cis_le (v := v) (s := 2) 8 0 0
      simp only [hc] at h
      refine xr_iload rfl <| xr_push <| xr_cmpf (nI_m1 (by omega)) <| xr_aload rfl <| xr_push <| xr_callV (by decide) (by decide) rfl (by decide) hR.vt <| p_V_countInState hR hw (s := 2) rfl (by decide) <| xr_push <| xr_cmp (fun h3 => ?_) (fun h3 => ?_)
      · rw [nI_ltI (by omega) (by omega)] at h3
        simp only [show ¬ 3 ≤ cis v 2 8 0 0 by omega, if_false] at h
        exact xr_aload rfl <| xr_iload rfl <| xr_callV (by decide) (by decide) rfl (by decide) hR.vt <| p_V_sealBlock hR hb8 (fun m1 hR1 hF1 => xr_push <| xr_iret (h m1 hR1 (sealB_wf hw hsl) hF1))
      · rw [nI_ltI (by omega) (by omega)] at h3
        simp only [show 3 ≤ cis v 2 8 0 0 by omega, if_true] at h
        exact xr_push <| xr_iret (h m hR hw FrC.rf)
  · rw [bI_0] at h5
    have h5 : v.dwn = true := by simpa using h5
    simp only [Fseal, h5, if_true] at h
    exact xr_push <| xr_iret (h m hR hw FrC.rf)
theorem lgs_lt : ∀ n b a x, (∀ y, a = some y → y < b) → lgs v n b a = some x → x < b + n := by
  intro n
  induction n with
  | zero => intro b a x ha h; exact ha x h
  | succ n ih =>
    intro b a x ha h
    cases a with
    | none =>
      simp only [lgs] at h
      have := ih (b + 1) _ x (fun y hy => by split at hy <;> cases hy; omega) h
      omega
    | some z =>
      have hz := ha z rfl
      simp only [lgs] at h
      have := ih (b + 1) _ x (fun y hy => by
        split at hy
        · split at hy <;> cases hy <;> omega
        · cases hy; omega) h
      omega
theorem lgs8 {x : Nat} (h : lgs v 8 0 none = some x) : x < 8 := by have := lgs_lt 8 0 none x (fun y hy => by cases hy) h; omega
theorem p_V_flush (hR : Rep ad m v) (hw : Wf v) {n : Int32} (h : ∀ m', Rep ad m' (Fflush v n).2 → Wf (Fflush v n).2 → FrC m m' → Rh (some (.int (Fflush v n).1)) m') : cp_V_flush [.ref (ad 0), .int n] m Rh := by
  refine ⟨Nat.le_of_ble_eq_true rfl, fun X hX => eV_flush_0 hX ?_⟩
  unfold cV_flush_0
  refine xr_iload rfl <| xr_push <| xr_cmp (fun h1 => ?_) (fun h1 => ?_)
  · simp only [Fflush, h1, true_or, if_true] at h
    exact xr_push <| xr_iret (h m hR hw FrC.rf)
  · refine xr_iload rfl <| xr_push <| xr_cmp (fun h2 => ?_) (fun h2 => ?_)
    · obtain ⟨N, hN1, hN16, rfl⟩ := rng_not (n := 3) (by decide) h1 h2
      simp only [Fflush, h1, h2, not_true, or_self, if_false, kk_nI (show N < 2 ^ 31 by omega)] at h
      refine xr_aload rfl <| xr_get hR.vt rfl <| xr_if (fun h5 => ?_) (fun h5 => ?_)
      · rw [bI_0] at h5
        simp only [h5, Bool.false_eq_true, if_false] at h
        have E : ∀ a m1 (v1 : Vt), Rep ad m1 v1 → Wf v1 → FrC m m1 → (∀ m', Rep ad m' (addW v1 a) → Wf (addW v1 a) → FrC m m' → Rh (some (.int (nI a))) m') → cV_flush_53 X Rh [(0, .ref (ad 0)), (2, .int (nI a))] [] m1 0 0 := by
          intro a m1 v1 hR1 hW1 hF1 h
          unfold cV_flush_53
          exact xr_aload rfl <| xr_dup rfl <| xr_get hR1.vt rfl <| xr_iload rfl <| xr_ibin <| xr_put hR1.vt (by simp) rfl rfl rfl <| xr_iload rfl <| xr_iret (h _ (hR1.upV (v1.clk, v1.nst, v1.wrt + nI a, v1.mvd, v1.dwn, v1.sls)) (hW1.setI hW1.2.1) (hF1.tr (FrC.up hR1.vt rfl)))
        have L : ∀ j a m1 (v1 : Vt), a + j = N → Rep ad m1 v1 → Wf v1 → FrC m m1 → (∀ m', Rep ad m' (addW (flb j v1 a).2 (flb j v1 a).1) → Wf (addW (flb j v1 a).2 (flb j v1 a).1) → FrC m m' → Rh (some (.int (nI (flb j v1 a).1))) m') → X 24 [(0, .ref (ad 0)), (1, .int (nI N)), (2, .int (nI a))] [] m1 0 0 := by
          intro j
          induction j with
          | zero =>
            intro a m1 v1 ha hR1 hW1 hF1 h
            refine eV_flush_24 hX ?_
            unfold cV_flush_24
            exact xr_iload rfl <| xr_iload rfl <| xr_cmpt (nI_le (by omega) (by omega)) <| xr_jmp rfl (E a m1 v1 hR1 hW1 hF1 h)
          | succ j ih =>
            intro a m1 v1 ha hR1 hW1 hF1 h
            refine eV_flush_24 hX ?_
            unfold cV_flush_24
            refine xr_iload rfl <| xr_iload rfl <| xr_cmpf (nI_ge (by omega) (by omega)) <| xr_aload rfl <| xr_callV (by decide) (by decide) rfl (by decide) hR1.vt <| p_V_longestSealed hR1 hW1 <| xr_istore <| ?_
            simp only [flb] at h
            cases hb : lgs v1 8 0 none with
            | none =>
              simp only [hb] at h
              exact xr_iload rfl <| xr_push <| xr_cmpt rfl <| xr_jmp rfl (E a m1 v1 hR1 hW1 hF1 h)
            | some b =>
              have hb8 := lgs8 hb
              simp only [hb] at h
              refine xr_iload rfl <| xr_push <| xr_cmpf (nI_m1 (by omega)) <| xr_aload rfl <| xr_iload rfl <| xr_callV (by decide) (by decide) rfl (by decide) hR1.vt <| p_V_writeBlock hR1 hW1 hb8 (fun m2 hR2 hW2 hF2 => ?_)
              refine xr_iinc rfl <| xr_jmp rfl ?_
              rw [nI_1]
              exact ih (a + 1) m2 _ (by omega) hR2 hW2 (hF1.tr hF2) h
        exact xr_push <| xr_istore <| xr_jmp rfl (L N 0 m v (Nat.zero_add _) hR hw FrC.rf h)
      · rw [bI_0] at h5
        have h5 : v.dwn = true := by simpa using h5
        simp only [h5, if_true] at h
        exact xr_push <| xr_iret (h m hR hw FrC.rf)
    · simp only [Fflush, h1, h2, not_false_iff, or_true, if_true] at h
      exact xr_push <| xr_iret (h m hR hw FrC.rf)
theorem spw_lt : ∀ n b a l x, (∀ y, a = some y → y < b) → spw v n b a l = some x → x < b + n := by
  intro n
  induction n with
  | zero => intro b a l x ha h; exact ha x h
  | succ n ih =>
    intro b a l x ha h
    simp only [spw] at h
    split at h
    · have := ih (b + 1) _ _ x (fun y hy => by cases hy; omega) h; omega
    · have := ih (b + 1) _ _ x (fun y hy => by have := ha y hy; omega) h; omega
theorem p_V_compact (hR : Rep ad m v) (hw : Wf v) (hok : ∀ b, b < 8 → mok b 12 v 0) {n : Int32} (h : ∀ m', Rep ad m' (Fcompact v n).2 → Wf (Fcompact v n).2 → FrC m m' → Rh (some (.int (Fcompact v n).1)) m') : cp_V_compact [.ref (ad 0), .int n] m Rh := by
  refine ⟨Nat.le_of_ble_eq_true rfl, fun X hX => eV_compact_0 hX ?_⟩
  unfold cV_compact_0
  refine xr_iload rfl <| xr_push <| xr_cmp (fun h1 => ?_) (fun h1 => ?_)
  · simp only [Fcompact, h1, true_or, if_true] at h
    exact xr_push <| xr_iret (h m hR hw FrC.rf)
  · refine xr_iload rfl <| xr_push <| xr_cmp (fun h2 => ?_) (fun h2 => ?_)
    · obtain ⟨N, hN1, hN16, rfl⟩ := rng_not (n := 12) (by decide) h1 h2
      simp only [Fcompact, h1, h2, not_true, or_self, if_false, kk_nI (show N < 2 ^ 31 by omega)] at h
      refine xr_aload rfl <| xr_get hR.vt rfl <| xr_if (fun h5 => ?_) (fun h5 => ?_)
      · rw [bI_0] at h5
        simp only [h5, Bool.false_eq_true, if_false] at h
        refine xr_aload rfl <| xr_iload rfl <| xr_callV (by decide) (by decide) rfl (by decide) hR.vt <| p_V_sparsestWritten hR hw hN16 <| xr_istore <| ?_
        cases hb : spw v 8 0 none N with
        | none =>
          simp only [hb] at h
          exact xr_iload rfl <| xr_push <| xr_cmpt rfl <| xr_push <| xr_iret (h m hR hw FrC.rf)
        | some b =>
          have hb8 : b < 8 := by have := spw_lt 8 0 none N b (fun y hy => by cases hy) hb; omega
          simp only [hb] at h
          exact xr_iload rfl <| xr_push <| xr_cmpf (nI_m1 (by omega)) <| xr_aload rfl <| xr_iload rfl <| xr_callV (by decide) (by decide) rfl (by decide) hR.vt <| p_V_moveLiveCopies hR hw hb8 (hok b hb8) (fun m1 hR1 hW1 hF1 => xr_istore <| xr_aload rfl <| xr_dup rfl <| xr_get hR1.vt rfl <| xr_iload rfl <| xr_ibin <| xr_put hR1.vt (by simp) rfl rfl rfl <| xr_iload rfl <| xr_iret (h _ (hR1.addM _) (hW1.setI hW1.2.1) (hF1.tr (FrC.up hR1.vt rfl))))
      · rw [bI_0] at h5
        have h5 : v.dwn = true := by simpa using h5
        simp only [h5, if_true] at h
        exact xr_push <| xr_iret (h m hR hw FrC.rf)
    · simp only [Fcompact, h1, h2, not_false_iff, or_true, if_true] at h
      exact xr_push <| xr_iret (h m hR hw FrC.rf)
theorem p_V_crash (hR : Rep ad m v) (hw : Wf v) {k : Int32} (h : ∀ m', Rep ad m' (Fcrash v k).2 → Wf (Fcrash v k).2 → FrC m m' → Rh (some (.int (Fcrash v k).1)) m') : cp_V_crash [.ref (ad 0), .int k] m Rh := by
  refine ⟨Nat.le_of_ble_eq_true rfl, fun X hX => eV_crash_0 hX ?_⟩
  have T : ∀ (ls : xm_L) m1 (v1 : Vt), xm_lk ls 0 = some (.ref (ad 0)) → Rep ad m1 v1 → Wf v1 → FrC m m1 → (∀ m', Rep ad m' (los v1) → Wf (los v1) → FrC m m' → Rh (some (.int 1)) m') → xo_aload 0 (xo_callV 0 0 0 0 cp_V_loseMemory (xo_aload 0 (xo_push (.int 1) (xo_put 0 7 .boolean (xo_push (.int 1) (xo_iret Rh)))))) ls [] m1 0 0 := by
    intro ls m1 v1 hl hR1 hW1 hF1 h
    exact xr_aload hl <| xr_callV (by decide) (by decide) rfl (by decide) hR1.vt <| p_V_loseMemory hR1 hW1 (fun m2 hR2 hW2 hF2 => xr_aload hl <| xr_push <| xr_put hR2.vt (by simp) rfl rfl rfl <| xr_push <| xr_iret (h _ (hR2.setD true) (hW2.setI hW2.2.1) ((hF1.tr hF2).tr (FrC.up hR2.vt rfl))))
  unfold cV_crash_0
  refine xr_aload rfl <| xr_callV (by decide) (by decide) rfl (by decide) hR.vt <| p_V_longestSealed hR hw <| xr_istore <| ?_
  cases ht : lgs v 8 0 none with
  | none =>
    simp only [Fcrash, ht] at h
    refine xr_iload rfl <| xr_push <| xr_cmp (fun h1 => ?_) (fun h1 => ?_)
    · simp only [h1, not_true, if_false] at h
      refine xr_jmp rfl ?_
      unfold cV_crash_37
      refine xr_aload rfl <| xr_get hR.vt rfl <| xr_if (fun h5 => ?_) (fun h5 => ?_)
      · rw [bI_0] at h5
        simp only [h5, Bool.false_eq_true, if_false] at h
        exact xr_iload rfl <| xr_push <| xr_cmpt h1 <| T _ m v rfl hR hw FrC.rf h
      · rw [bI_0] at h5
        have h5 : v.dwn = true := by simpa using h5
        simp only [h5, if_true] at h
        exact xr_push <| xr_iret (h m hR hw FrC.rf)
    · simp only [h1, not_false_iff, if_true] at h
      exact xr_iload rfl <| xr_push <| xr_cmpt rfl <| xr_push <| xr_iret (h m hR hw FrC.rf)
  | some t =>
    have ht8 := lgs8 ht
    have hlen := hR.len (r := t) (by omega)
    simp only [Fcrash, ht] at h
    have J : ¬ (¬ k = -1 ∧ (k < 0 ∨ ¬ k ≤ nI (v.row t).length)) → cV_crash_37 X Rh [(0, .ref (ad 0)), (1, .int k), (2, .int (nI t))] [] m 0 0 := by
      intro hn
      rw [if_neg hn] at h
      unfold cV_crash_37
      refine xr_aload rfl <| xr_get hR.vt rfl <| xr_if (fun h5 => ?_) (fun h5 => ?_)
      · rw [bI_0] at h5
        simp only [h5, Bool.false_eq_true, if_false] at h
        refine xr_iload rfl <| xr_push <| xr_cmp (fun h6 => ?_) (fun h6 => ?_)
        · simp only [h6, if_true] at h
          exact T _ m v rfl hR hw FrC.rf h
        · simp only [h6, if_false] at h
          have hk0 : ¬ k < 0 := fun q => hn ⟨h6, Or.inl q⟩
          have hkl : k ≤ nI (v.row t).length := Classical.byContradiction (fun q => hn ⟨h6, Or.inr q⟩)
          obtain ⟨j, hj, rfl⟩ := nI_of2 (M := nI (v.row t).length) (nI_toInt (by omega)) hk0 hkl
          rw [kk_nI (by omega)] at h
          exact q_blk hR ht8 rfl rfl <| xr_get (hR.bk ht8) rfl <| xr_iload rfl <| q_blk hR ht8 rfl rfl <| xr_get (hR.bk ht8) rfl <| xr_callV (by decide) (by decide) rfl (by decide) (hR.rw (r := 8 + t) (by omega)) <| p_R_takeFirst hR (r := 8 + t) (s := t) (by omega) (by omega) (by omega) (by omega) (fun m1 hR1 hF1 => T _ m1 _ rfl hR1 (hw.setR (fun c hc => hw.2.2.1 t (by omega) c (List.mem_of_mem_take hc))) hF1 h)
      · rw [bI_0] at h5
        have h5 : v.dwn = true := by simpa using h5
        simp only [h5, if_true] at h
        exact xr_push <| xr_iret (h m hR hw FrC.rf)
    have B : (¬ k = -1 ∧ (k < 0 ∨ ¬ k ≤ nI (v.row t).length)) → Rh (some (.int (-1))) m := by
      intro hb
      rw [if_pos hb] at h
      exact h m hR hw FrC.rf
    refine xr_iload rfl <| xr_push <| xr_cmp (fun h1 => xr_jmp rfl (J (fun q => q.1 h1))) (fun h1 => ?_)
    refine xr_iload rfl <| xr_push <| xr_cmpf (nI_m1 (by omega)) <| xr_iload rfl <| xr_if (fun h2 => xr_push <| xr_iret (B ⟨h1, Or.inl h2⟩)) (fun h2 => ?_)
    exact xr_iload rfl <| q_blk hR ht8 rfl rfl <| xr_get (hR.bk ht8) rfl <| xr_get (hR.rw (by omega)) rfl <| xr_cmp (fun h3 => xr_jmp rfl (J (fun q => q.2.elim h2 (fun z => z h3)))) (fun h3 => xr_push <| xr_iret (B ⟨h1, Or.inr h3⟩))
theorem p_V_start (hR : Rep ad m v) (hw : Wf v) (h : ∀ m', Rep ad m' (Fstart v).2 → Wf (Fstart v).2 → FrC m m' → Rh (some (.int (Fstart v).1)) m') : cp_V_start [.ref (ad 0)] m Rh := by
  refine ⟨Nat.le_of_ble_eq_true rfl, fun X hX => eV_start_0 hX ?_⟩
  unfold cV_start_0
  refine xr_aload rfl <| xr_get hR.vt rfl <| xr_if (fun h5 => ?_) (fun h5 => ?_)
  · rw [bI_0] at h5
    simp only [Fstart, h5, if_true] at h
    exact xr_push <| xr_iret (h m hR hw FrC.rf)
  · rw [bI_0] at h5
    simp only [Fstart, h5, if_false] at h
    have hR1 : Rep ad (xm_up m (ad 0) (vtV ad (setD v false))) (setD v false) := hR.upV _
    refine xr_aload rfl <| xr_push <| xr_put hR.vt (by simp) rfl rfl rfl <| xr_aload rfl <| xr_callV (by decide) (by decide) rfl (by decide) hR1.vt <| p_V_nameNewestCopies hR1 (hw.setI hw.2.1) (fun m2 hR2 hW2 hF2 => ?_)
    refine xr_aload rfl <| xr_callV (by decide) (by decide) rfl (by decide) hR2.vt <| p_V_dropExpiredFound hR2 hW2 (fun m3 hR3 hW3 hF3 => ?_)
    refine xr_aload rfl <| xr_callV (by decide) (by decide) rfl (by decide) hR3.vt <| p_V_reopenBlocks hR3 hW3 (fun m4 hR4 hW4 hF4 => ?_)
    have hR4 : Rep ad m4 (sta1 v) := hR4
    have hW4 : Wf (sta1 v) := hW4
    have hF5 := (((FrC.up hR.vt rfl).tr hF2).tr hF3).tr hF4
    clear hR2 hW2 hF2 hR3 hW3 hF3 hF4
    unfold sta2 at h
    generalize sta1 v = w at h hR4 hW4
    have hgs := @p_V_greatestStamp ad m4 w
    generalize gso w 8 0 0 = g at h hgs
    have hR5 : Rep ad (xm_up m4 (ad 0) (vtV ad (nxs w (g + 1)))) (nxs w (g + 1)) := hR4.upV _
    exact xr_aload rfl <| xr_aload rfl <| xr_callV (by decide) (by decide) rfl (Nat.le_of_ble_eq_true rfl) hR4.vt <| hgs hR4 <| xr_push <| xr_ibin <| xr_put hR4.vt (by simp) rfl rfl rfl <| xr_aload rfl <| xr_callV (by decide) (by decide) rfl (by decide) hR5.vt <| p_V_countThere hR5 <| xr_iret (h _ hR5 (hW4.setI hW4.2.1) (hF5.tr (FrC.up hR4.vt rfl)))
end
