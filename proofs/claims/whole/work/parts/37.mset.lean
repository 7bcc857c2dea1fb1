/-! the reference's settling and appending -/
def QM (am : Nat → Nat) (m : xm_M) (v : Vt) : Prop := ∃ A, RM am m A (scV v) ∧ Rv A (scV v) v
section
variable {am : Nat → Nat} {m : xm_M} {A : Nat → Nat → Int32} {S : Sc} {v : Vt} {K : xm_PT} {ls : xm_L} {st : List Value} {bc bs B : Nat} {Rh : Option Value → xm_M → Prop}
theorem stp1_wf {w : Int32} (hw : Wf v) {b : Nat} (hb : b < 8) : Wf (stp1 v w b) := by
  unfold stp1
  split
  · exact (hw.setR (fun c hc => by cases hc)).setB (Nat.le_refl 4) (hw.1 b hb).2
  · exact hw
theorem p_M_settle0 (h : RM am m A S) (hv : Rv A S v) (hw : Wf v) (q : ∀ m' A', RM am m' A' S → Rv A' S (settle v) → FrM m m' → Rh none m') : cp_M_settle [.ref (am 0)] m Rh := by
  refine ⟨Nat.le_of_ble_eq_true rfl, fun X hX => ?_⟩
  have L2 : ∀ n b w u m A, b + n = 8 → RM am m A S → Rv A S u → Wf u → (∀ m' A', RM am m' A' S → Rv A' S (stl w n b u) → FrM m m' → Rh none m') → X 44 [(0, .ref (am 0)), (1, .int w), (2, .int (nI b))] [] m 0 0 := by
    intro n
    induction n with
    | zero =>
      intro b w u m A hb h hv hw q
      have : b = 8 := by omega
      subst this
      refine eM_settle_44 hX ?_
      unfold cM_settle_44
      exact xr_iload rfl <| xr_push <| xr_cmpt (Int32.le_refl _) <| xr_vret (q m A h hv FrM.rf)
    | succ n ih =>
      intro b w u m A hb h hv hw q
      refine eM_settle_44 hX ?_
      unfold cM_settle_44
      have hb8 : b < 8 := by omega
      have J : ∀ u m A, RM am m A S → Rv A S u → Wf u → (∀ m' A', RM am m' A' S → Rv A' S (stl w n (b + 1) (frw u b)) → FrM m m' → Rh none m') → cM_settle_89 X Rh [(0, .ref (am 0)), (1, .int w), (2, .int (nI b))] [] m 0 0 := by
        intro u m A h hv hw q
        unfold cM_settle_89
        have h4 := (hw.1 b hb8).1
        have g := hv.2.2.1 b hb8
        refine zg h 8 (by omega) rfl <| xr_iload rfl <| za h 8 rfl (by omega) hb8 <| xr_push <| ?_
        rw [g.1]
        refine xr_cmp (fun h1 => ?_) (fun h1 => ?_)
        · rw [nI_eq (by omega) (by omega)] at h1
          refine zg h 10 (by omega) rfl <| xr_iload rfl <| za h 10 rfl (by omega) hb8 <| ?_
          rw [g.2.1]
          refine xr_if (fun h2 => ?_) (fun h2 => ?_)
          · refine zg h 8 (by omega) rfl <| xr_iload rfl <| xr_push <| zs h 8 rfl (by omega) hb8 (fun m1 h1' f1 => ?_)
            refine xr_iinc rfl <| xr_jmp rfl ?_
            rw [nI_1]
            have hf : frw u b = u.setB b (0, u.sat b, u.wai b) := by unfold frw; rw [if_pos ⟨h1, h2⟩]
            rw [hf] at q
            exact ih (b + 1) w _ m1 _ (by omega) h1' (hv.uSta (s := 0) (fun x => by omega)) (hw.setB (Nat.zero_le 4) (hw.1 b hb8).2) (fun m' A' a1 a2 a3 => q m' A' a1 a2 (f1.tr a3))
          · refine xr_iinc rfl <| xr_jmp rfl ?_
            rw [nI_1]
            have hf : frw u b = u := by unfold frw; rw [if_neg (fun x => h2 x.2)]
            rw [hf] at q
            exact ih (b + 1) w u m A (by omega) h hv hw q
        · rw [nI_eq (by omega) (by omega)] at h1
          refine xr_iinc rfl <| xr_jmp rfl ?_
          rw [nI_1]
          have hf : frw u b = u := by unfold frw; rw [if_neg (fun x => h1 x.1)]
          rw [hf] at q
          exact ih (b + 1) w u m A (by omega) h hv hw q
      have h4 := (hw.1 b hb8).1
      have g := hv.2.2.1 b hb8
      refine xr_iload rfl <| xr_push <| xr_cmpf (nI_ge hb8 (by decide)) <| zg h 8 (by omega) rfl <| xr_iload rfl <| za h 8 rfl (by omega) hb8 <| xr_push <| ?_
      rw [g.1]
      refine xr_cmp (fun h1 => ?_) (fun h1 => ?_)
      · rw [nI_eq (by omega) (by omega)] at h1
        refine xr_aload rfl <| xr_iload rfl <| xr_callV (by decide) (by decide) rfl (by decide) h.2.1 <| p_M_used h hv hw hb8 <| ?_
        have hu := um_le (v := u) (b := b) (u.row b) 0 0 (hw.2.2.1 b (by omega))
        have hl := (hv.2.1 b (by omega)).2
        refine xr_if (fun h2 => ?_) (fun h2 => ?_)
        · rw [show (0 : Int32) = nI 0 from rfl, nI_eq (by omega) (by omega)] at h2
          have hs : stp1 u w b = (u.setR b []).setB b (4, u.sat b, w) := by unfold stp1; rw [if_pos ⟨h1, h2⟩]
          refine zg h 8 (by omega) rfl <| xr_iload rfl <| xr_push <| zs h 8 rfl (by omega) hb8 (fun m1 h1' f1 => ?_)
          refine zg h1' 7 (by omega) rfl <| xr_iload rfl <| xr_push <| zs h1' 7 rfl (by omega) (show b < 16 by omega) (fun m2 h2' f2 => ?_)
          refine zg h2' 10 (by omega) rfl <| xr_iload rfl <| xr_iload rfl <| zs h2' 10 rfl (by omega) hb8 (fun m3 h3' f3 => ?_)
          refine xr_jmp rfl (J (stp1 u w b) m3 _ h3' ?_ (stp1_wf hw hb8) (fun m' A' a1 a2 a3 => q m' A' a1 a2 (((f1.tr f2).tr f3).tr a3)))
          rw [hs]
          have r1 := ((hv.uSta (b := b) (s := 4) (fun x => by omega)).uRow0 (b := b)).uWai (b := b) (w := w)
          have e1 : ((u.setB b (4, u.sat b, u.wai b)).setR b []).sta b = 4 := by show ((u.setB b _).blk b).1 = 4; rw [Vt.setB_blk]
          have e2 : ((u.setB b (4, u.sat b, u.wai b)).setR b []).sat b = u.sat b := by show ((u.setB b _).blk b).2.1 = _; rw [Vt.setB_blk]
          rw [e1, e2] at r1
          have e3 : ((u.setB b (4, u.sat b, u.wai b)).setR b []).setB b (4, u.sat b, w) = (u.setR b []).setB b (4, u.sat b, w) := Vt.setB_set (u.setR b []) b _ _
          rw [e3] at r1
          exact r1
        · rw [show (0 : Int32) = nI 0 from rfl, nI_eq (by omega) (by omega)] at h2
          have hs : stp1 u w b = u := by unfold stp1; rw [if_neg (fun x => h2 x.2)]
          exact xr_jmp rfl (J u m A h hv hw (by rw [stl, hs] at q; exact q))
      · rw [nI_eq (by omega) (by omega)] at h1
        have hs : stp1 u w b = u := by unfold stp1; rw [if_neg (fun x => h1 x.1)]
        exact xr_jmp rfl (J u m A h hv hw (by rw [stl, hs] at q; exact q))
  have L1 : ∀ n b a, b + n = 8 → (∀ m' A', RM am m' A' S → Rv A' S (stl (unw v n b a) 8 0 v) → FrM m m' → Rh none m') → X 4 [(0, .ref (am 0)), (1, .int a), (2, .int (nI b))] [] m 0 0 := by
    intro n
    induction n with
    | zero =>
      intro b a hb q
      have : b = 8 := by omega
      subst this
      refine eM_settle_4 hX ?_
      unfold cM_settle_4
      exact xr_iload rfl <| xr_push <| xr_cmpt (Int32.le_refl _) <| xr_push <| xr_istore <| xr_jmp rfl (L2 8 0 _ v m A rfl h hv hw q)
    | succ n ih =>
      intro b a hb q
      refine eM_settle_4 hX ?_
      unfold cM_settle_4
      have hb8 : b < 8 := by omega
      have h4 := (hw.1 b hb8).1
      have g := (hv.2.2.1 b hb8).1
      have J : v.sta b = 1 ∨ v.sta b = 2 → cM_settle_30 X Rh [(0, .ref (am 0)), (1, .int a), (2, .int (nI b))] [] m 0 0 := by
        intro hs
        unfold cM_settle_30
        refine xr_iload rfl <| xr_push <| xr_iload rfl <| xr_ibin <| xr_ibin <| xr_istore <| xr_iinc rfl <| xr_jmp rfl ?_
        rw [nI_1]
        exact ih (b + 1) _ (by omega) (by rw [unw, if_pos hs] at q; exact q)
      refine xr_iload rfl <| xr_push <| xr_cmpf (nI_ge hb8 (by decide)) <| zg h 8 (by omega) rfl <| xr_iload rfl <| za h 8 rfl (by omega) hb8 <| xr_push <| ?_
      rw [g]
      refine xr_cmp (fun h1 => ?_) (fun h1 => ?_)
      · rw [show (1 : Int32) = nI 1 from rfl, nI_eq (by omega) (by omega)] at h1
        exact xr_jmp rfl (J (Or.inl h1))
      · rw [show (1 : Int32) = nI 1 from rfl, nI_eq (by omega) (by omega)] at h1
        refine zg h 8 (by omega) rfl <| xr_iload rfl <| za h 8 rfl (by omega) hb8 <| xr_push <| ?_
        rw [g]
        refine xr_cmp (fun h2 => ?_) (fun h2 => ?_)
        · rw [nI_eq (by omega) (by omega)] at h2
          exact xr_jmp rfl (J (Or.inr h2))
        · rw [nI_eq (by omega) (by omega)] at h2
          refine xr_iinc rfl <| xr_jmp rfl ?_
          rw [nI_1]
          exact ih (b + 1) _ (by omega) (by rw [unw, if_neg (by omega)] at q; exact q)
  refine eM_settle_0 hX ?_
  unfold cM_settle_0
  exact xr_push <| xr_istore <| xr_push <| xr_istore <| xr_jmp rfl (L1 8 0 0 rfl q)
theorem p_M_settle (h : RM am m A S) (hv : Rv A S v) (hP : Pinv B v) (hB : B < 2 ^ 30) (q : ∀ m', QM am m' (sfn v) → FrM m m' → Rh none m') : cp_M_settle [.ref (am 0)] m Rh := by
  have hS := hv.eS
  subst hS
  refine p_M_settle0 h hv (hP.wf hB) (fun m' A' h1 h2 h3 => q m' ⟨A', h1, ?_⟩ h3)
  rw [settle_eq hP] at h2
  exact h2
end
