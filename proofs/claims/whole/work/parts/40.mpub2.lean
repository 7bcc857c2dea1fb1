/-! the reference's public methods: get, touch, remove, tick, evict, seal -/
section
variable {am : Nat → Nat} {m : xm_M} {A : Nat → Nat → Int32} {S : Sc} {v : Vt} {K : xm_PT} {ls : xm_L} {st : List Value} {bc bs B : Nat} {Rh : Option Value → xm_M → Prop}
theorem bI_n0 {b : Bool} (h : ¬ bI b = 0) : b = true := by cases b with
  | true => rfl
  | false => exact absurd rfl h
theorem p_M_get (hQ : QM am m v) (hI : Inv B v) {key : Int32} (q : Rh (some (.long (Fget v key))) m) : cp_M_get [.ref (am 0), .int key] m Rh := by
  refine ⟨Nat.le_of_ble_eq_true rfl, fun X hX => eM_get_0 hX ?_⟩
  unfold cM_get_0
  obtain ⟨A, h, hv⟩ := hQ
  refine xr_iload rfl <| xr_push <| xr_push <| xr_callS (by decide) (by decide) rfl (by decide) <| p_M_in <| xr_if (fun a1 => ?_) (fun a1 => ?_)
  · rw [in_0, in_key] at a1
    exact xr_push <| xr_lret (by unfold Fget at q; rw [if_pos a1] at q; exact q)
  · rw [in_0, in_key] at a1
    unfold Fget at q
    rw [if_neg a1] at q
    obtain ⟨k, hk, rfl⟩ := badK_not a1
    rw [kk_nI (by omega)] at q
    refine xr_aload rfl <| xr_get h.2.1 rfl <| xr_if (fun a2 => ?_) (fun a2 => ?_)
    · refine xr_aload rfl <| xr_iload rfl <| xr_callV (by decide) (by decide) rfl (by decide) h.2.1 <| p_M_isThere h hv hI.p.ec hk <| ?_
      rw [thm_thr]
      refine xr_if (fun a3 => ?_) (fun a3 => ?_)
      · rw [bI_0] at a3
        exact xr_push <| xr_lret (by rw [if_pos a3] at q; exact q)
      · have ht := bI_n0 a3
        rw [if_neg (by rw [ht]; decide)] at q
        cases he : v.ent k with
        | none => unfold thr at ht; rw [he] at ht; cases ht
        | some e =>
          obtain ⟨c, hh, p⟩ := e
          rw [he] at q
          obtain ⟨g1, g2, g3⟩ := hv.ent1 hI.p.ec hk he
          refine zg h 2 (by omega) rfl <| zg h 11 (by omega) rfl <| xr_iload rfl <| za h 11 rfl (by omega) hk <| za h 2 g1 (by omega) (show 12 * hh + p < 193 by omega) <| ?_
          rw [g3.2.2.1]
          exact xr_i2l <| xr_lret q
    · have a2 : v.dwn = true := bI_n0 a2
      have he := (hI.p.dwn a2).2 k hk
      have ht : thr v k = false := by unfold thr; rw [he]
      exact xr_push <| xr_lret (by rw [if_pos ht] at q; exact q)
theorem p_M_touch (hQ : QM am m v) (hI : Inv B v) (hB : B + 2 < 2 ^ 30) {key life : Int32} (q : ∀ m', QM am m' (Ftouch v key life).2 → FrM m m' → Rh (some (.int (Ftouch v key life).1)) m') : cp_M_touch [.ref (am 0), .int key, .int life] m Rh := by
  refine ⟨Nat.le_of_ble_eq_true rfl, fun X hX => eM_touch_0 hX ?_⟩
  unfold cM_touch_0
  obtain ⟨A, h, hv⟩ := hQ
  have bad : (badK key ∨ isL life = false) → Rh (some (.int (-1))) m := by
    intro hb
    have e : Ftouch v key life = (-1, v) := by unfold Ftouch; rw [if_pos hb]
    rw [e] at q
    exact q m ⟨A, h, hv⟩ FrM.rf
  refine xr_iload rfl <| xr_push <| xr_push <| xr_callS (by decide) (by decide) rfl (by decide) <| p_M_in <| xr_if (fun a1 => ?_) (fun a1 => ?_)
  · rw [in_0, in_key] at a1
    exact xr_push <| xr_iret (bad (Or.inl a1))
  · rw [in_0, in_key] at a1
    refine xr_iload rfl <| xr_push <| xr_push <| xr_callS (by decide) (by decide) rfl (by decide) <| p_M_in <| xr_if (fun a3 => ?_) (fun a3 => ?_)
    · rw [bI_0] at a3
      exact xr_push <| xr_iret (bad (Or.inr a3))
    · rw [bI_0] at a3
      have hgood : ¬ (badK key ∨ isL life = false) := by
        rintro (b | b)
        · exact a1 b
        · exact a3 b
      obtain ⟨k, hk, rfl⟩ := badK_not a1
      have kn : kk (nI k) = k := kk_nI (by omega)
      refine xr_aload rfl <| xr_get h.2.1 rfl <| xr_if (fun a5 => ?_) (fun a5 => ?_)
      · have a5 : v.dwn = false := bI_0.mp a5
        have e0 : Ftouch v (nI k) life = if thr v k = false then (-4, v) else (match v.ent k with
            | none => (-4, v)
            | some e => gW v (wrec v k e.1.val e.1.siz life)) := by unfold Ftouch; rw [if_neg hgood, if_neg (by rw [a5]; decide), kn] <;> rfl
        rw [e0] at q
        refine xr_aload rfl <| xr_iload rfl <| xr_callV (by decide) (by decide) rfl (by decide) h.2.1 <| p_M_isThere h hv hI.p.ec hk <| ?_
        rw [thm_thr]
        refine xr_if (fun a6 => ?_) (fun a6 => ?_)
        · rw [bI_0] at a6
          rw [if_pos a6] at q
          exact xr_push <| xr_iret (q m ⟨A, h, hv⟩ FrM.rf)
        · have ht := bI_n0 a6
          rw [if_neg (by rw [ht]; decide)] at q
          cases he : v.ent k with
          | none => unfold thr at ht; rw [he] at ht; cases ht
          | some e =>
            obtain ⟨c, hh, p⟩ := e
            rw [he] at q
            obtain ⟨g1, g2, g3⟩ := hv.ent1 hI.p.ec hk he
            obtain ⟨i1, i2, i3⟩ := hI.p.ent k hk c hh p he
            have hok := (hI.p.row hh (by omega)).1 c (List.mem_of_getElem? i2)
            have hwr : wrec v k c.val c.siz life = (k, c.val, c.siz, c.gen + 1, (if life = 0 then 0 else v.clk + life), v.nst, false) := by unfold wrec; rw [he]; simp only []; rw [if_pos ht]
            have q : ∀ m', QM am m' (gW v (wrec v k c.val c.siz life)).2 → FrM m m' → Rh (some (.int (gW v (wrec v k c.val c.siz life)).1)) m' := q
            rw [hwr] at q
            unfold gW ans at q
            have hi : 12 * hh + p < 193 := by omega
            refine zg h 11 (by omega) rfl <| xr_iload rfl <| za h 11 rfl (by omega) hk <| ?_
            rw [g1]
            refine xr_istore <| xr_aload rfl <| xr_iload rfl <| zg h 2 (by omega) rfl <| xr_iload rfl <| za h 2 rfl (by omega) hi <| zg h 3 (by omega) rfl <| xr_iload rfl <| za h 3 rfl (by omega) hi <| zg h 4 (by omega) rfl <| xr_iload rfl <| za h 4 rfl (by omega) hi <| xr_push <| xr_ibin <| xr_iload rfl <| ?_
            rw [g3.2.2.1, g3.2.2.2.1, g3.2.2.2.2.1]
            refine xr_callV (by decide) (by decide) rfl (Nat.le_of_ble_eq_true rfl) h.2.1 <| p_M_writeRecord h hv hI hB a5 (hI.p.wrec hk hok.2.1 hok.2.2.1) (fun e' m' w1 w2 w3 w4 => ?_) (fun f v2 m' w1 w2 w3 w4 w5 => ?_)
            · rw [w1] at q; exact xr_iret (q m' w3 w4)
            · rw [w1] at q; exact xr_iret (q m' w4 w5)
      · have a5 : v.dwn = true := bI_n0 a5
        have e : Ftouch v (nI k) life = (-2, v) := by unfold Ftouch; rw [if_neg hgood, if_pos a5]
        rw [e] at q
        exact xr_push <| xr_iret (q m ⟨A, h, hv⟩ FrM.rf)
theorem setE_pinv (h : Pinv B v) {k : Nat} : Pinv B (v.setE k none) := by
  refine Pinv.of (row := h.row) (ent := ?_) (emt := h.emt) (img := h.img) (wai := h.wai) (sat := h.sat) (blk := h.blk) (sld := h.sld) (bnd := h.bnd) (dwn := ?_)
  · intro j hj c hh p he
    by_cases hjk : j = k
    · subst hjk; rw [Vt.setE_ent] at he; cases he
    · rw [Vt.setE_ne _ _ hjk] at he; exact h.ent j hj c hh p he
  · intro hd
    obtain ⟨h1, h2⟩ := h.dwn hd
    refine ⟨h1, fun j hj => ?_⟩
    by_cases hjk : j = k
    · subst hjk; rw [Vt.setE_ent]
    · rw [Vt.setE_ne _ _ hjk]; exact h2 j hj
theorem setE_lv {k b : Nat} (h : liv v b) (hn : ∀ e, v.ent k = some e → b ≠ e.2.1) : liv (v.setE k none) b := by
  obtain ⟨j, hj, d, p, he⟩ := h
  have hjk : j ≠ k := fun e => by subst e; exact hn _ he rfl
  exact ⟨j, hj, d, p, by rw [Vt.setE_ne _ _ hjk]; exact he⟩
theorem dre_eq (h : Inv B v) {k : Nat} (hk : k < 16) : dre v k = sfn (v.setE k none) := by
  unfold dre
  cases he : v.ent k with
  | none => exact (sfn_id (setE_pinv h.p) (fun b hb h3 => setE_lv (h.lv b hb h3) (fun e q => by rw [he] at q; cases q)) h.em).symm
  | some e =>
    obtain ⟨c, hh, p⟩ := e
    exact emp_eq (setE_pinv h.p) (h.p.ent k hk c hh p he).1 (fun b hb hbn h3 => setE_lv (h.lv b hb h3) (fun e q => by rw [he] at q; cases q; exact hbn)) h.em
theorem p_M_remove (hQ : QM am m v) (hI : Inv B v) (hB : B + 2 < 2 ^ 30) {key la : Int32} (q : ∀ m', QM am m' (Fremove v key la).2 → FrM m m' → Rh (some (.int (Fremove v key la).1)) m') : cp_M_remove [.ref (am 0), .int key, .int la] m Rh := by
  refine ⟨Nat.le_of_ble_eq_true rfl, fun X hX => eM_remove_0 hX ?_⟩
  unfold cM_remove_0
  obtain ⟨A, h, hv⟩ := hQ
  unfold Fremove at q
  refine xr_iload rfl <| xr_push <| xr_push <| xr_callS (by decide) (by decide) rfl (by decide) <| p_M_in <| xr_if (fun a1 => ?_) (fun a1 => ?_)
  · rw [in_0, in_key] at a1
    rw [if_pos a1] at q
    exact xr_push <| xr_iret (q m ⟨A, h, hv⟩ FrM.rf)
  · rw [in_0, in_key] at a1
    rw [if_neg a1] at q
    obtain ⟨k, hk, rfl⟩ := badK_not a1
    rw [kk_nI (by omega)] at q
    refine xr_aload rfl <| xr_get h.2.1 rfl <| xr_if (fun a5 => ?_) (fun a5 => ?_)
    · have a5 : v.dwn = false := bI_0.mp a5
      rw [if_neg (by rw [a5]; decide)] at q
      refine xr_aload rfl <| xr_iload rfl <| xr_callV (by decide) (by decide) rfl (by decide) h.2.1 <| p_M_isThere h hv hI.p.ec hk <| ?_
      rw [thm_thr]
      refine xr_if (fun a6 => ?_) (fun a6 => ?_)
      · rw [bI_0] at a6
        rw [if_pos a6] at q
        exact xr_push <| xr_iret (q m ⟨A, h, hv⟩ FrM.rf)
      · have ht := bI_n0 a6
        rw [if_neg (by rw [ht]; decide)] at q
        refine xr_iload rfl <| xr_if (fun a7 => ?_) (fun a7 => ?_)
        · have a7 : la = 0 := a7
          rw [if_pos a7] at q
          refine zg h 11 (by omega) rfl <| xr_iload rfl <| xr_push <| zs h 11 rfl (by omega) hk (fun m1 h1 f1 => ?_)
          have hv1 := hv.uEnt (k := k) (x := none)
          refine xr_aload rfl <| xr_callV (by decide) (by decide) rfl (by decide) h1.2.1 <| p_M_settle h1 hv1 (setE_pinv hI.p) (by omega) (fun m2 h2 f2 => ?_)
          rw [dre_eq hI hk] at q
          exact xr_push <| xr_iret (q m2 h2 (f1.tr f2))
        · have a7 : ¬ la = 0 := a7
          rw [if_neg a7] at q
          unfold ans at q
          refine xr_aload rfl <| xr_iload rfl <| xr_callV (by decide) (by decide) rfl (by decide) h.2.1 <| p_M_writeTombstone h hv hI hB a5 (hI.p.wtmb hk) (fun e' m' w1 w2 w3 w4 => ?_) (fun f v2 m' w1 w2 w3 w4 w5 => ?_)
          · rw [w1] at q; exact xr_iret (q m' w3 w4)
          · rw [w1] at q; exact xr_iret (q m' w4 w5)
    · have a5 : v.dwn = true := bI_n0 a5
      rw [if_pos a5] at q
      exact xr_push <| xr_iret (q m ⟨A, h, hv⟩ FrM.rf)
theorem p_M_tick (hQ : QM am m v) {n : Int32} (q : ∀ m', QM am m' (Ftick v n).2 → FrM m m' → Rh (some (.int (Ftick v n).1)) m') : cp_M_tick [.ref (am 0), .int n] m Rh := by
  refine ⟨Nat.le_of_ble_eq_true rfl, fun X hX => eM_tick_0 hX ?_⟩
  unfold cM_tick_0
  obtain ⟨A, h, hv⟩ := hQ
  unfold Ftick at q
  refine xr_iload rfl <| xr_push <| xr_push <| xr_callS (by decide) (by decide) rfl (by decide) <| p_M_in <| xr_if (fun a1 => ?_) (fun a1 => ?_)
  · rw [in_0, in_rng] at a1
    rw [if_pos a1] at q
    exact xr_push <| xr_iret (q m ⟨A, h, hv⟩ FrM.rf)
  · rw [in_0, in_rng] at a1
    rw [if_neg a1] at q
    have hv3 := hv.sc (x := (v.clk + n, v.nst, v.wrt, v.mvd, v.dwn, v.sls))
    refine xr_aload rfl <| xr_dup rfl <| xr_get h.2.1 rfl <| xr_iload rfl <| xr_ibin <| xr_put h.2.1 (by simp) rfl rfl rfl <| xr_aload rfl <| xr_get (xm_up_s _ _ _) rfl <| xr_iret (q _ ⟨A, h.upS (scV (v.setI (v.clk + n, v.nst, v.wrt, v.mvd, v.dwn, v.sls))), hv3⟩ (FrM.up h.2.1 rfl))
theorem p_M_seal (hQ : QM am m v) (hI : Inv B v) (hB : B + 2 < 2 ^ 30) (q : ∀ m', QM am m' (Fseal v).2 → FrM m m' → Rh (some (.int (Fseal v).1)) m') : cp_M_seal [.ref (am 0)] m Rh := by
  refine ⟨Nat.le_of_ble_eq_true rfl, fun X hX => eM_seal_0 hX ?_⟩
  unfold cM_seal_0
  obtain ⟨A, h, hv⟩ := hQ
  have hw := hI.p.wf (by omega)
  unfold Fseal at q
  refine xr_aload rfl <| xr_get h.2.1 rfl <| xr_if (fun a5 => ?_) (fun a5 => ?_)
  · have a5 : v.dwn = false := bI_0.mp a5
    rw [if_neg (by rw [a5]; decide)] at q
    refine xr_aload rfl <| xr_push <| xr_callV (by decide) (by decide) rfl (by decide) h.2.1 <| p_M_first h hv hw (s := 1) rfl (by omega) <| ?_
    rw [first_eq (by decide)]
    cases hl : lis v 1 8 0 with
    | none =>
      rw [hl] at q
      exact xr_istore <| xr_iload rfl <| xr_iff (by decide) <| xr_push <| xr_iret (q m ⟨A, h, hv⟩ FrM.rf)
    | some b =>
      rw [hl] at q
      have hb8 := lis8 hl
      have hcl := cis_le (v := v) (s := 2) 8 0 0
      have hsl := hI.p.sld
      have q : ∀ m', QM am m' (if 3 ≤ cis v 2 8 0 0 then ((-5 : Int32), v) else (1, sealB v b)).2 → FrM m m' → Rh (some (.int (if 3 ≤ cis v 2 8 0 0 then ((-5 : Int32), v) else (1, sealB v b)).1)) m' := q
      refine xr_istore <| xr_iload rfl <| xr_ift (nI_pos' (by omega)) <| xr_aload rfl <| xr_callV (by decide) (by decide) rfl (by decide) h.2.1 <| p_M_sealed h hv hw <| xr_push <| xr_cmp (fun h3 => ?_) (fun h3 => ?_)
      · rw [nI_eq (by omega) (by omega)] at h3
        rw [if_pos (by omega)] at q
        exact xr_push <| xr_iret (q m ⟨A, h, hv⟩ FrM.rf)
      · rw [nI_eq (by omega) (by omega)] at h3
        rw [if_neg (by omega)] at q
        refine xr_aload rfl <| xr_iload rfl <| xr_callV (by decide) (by decide) rfl (by decide) h.2.1 <| p_M_close h hv hb8 (fun m1 A1 h1 hv1 f1 k1 => ?_)
        exact xr_push <| xr_iret (q m1 ⟨A1, h1, hv1⟩ f1)
  · have a5 : v.dwn = true := bI_n0 a5
    rw [if_pos a5] at q
    exact xr_push <| xr_iret (q m ⟨A, h, hv⟩ FrM.rf)
end
