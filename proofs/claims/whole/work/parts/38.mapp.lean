/-! the reference's appending and writing -/
section
variable {am : Nat → Nat} {m : xm_M} {A : Nat → Nat → Int32} {S : Sc} {v : Vt} {K : xm_PT} {ls : xm_L} {st : List Value} {bc bs B : Nat} {Rh : Option Value → xm_M → Prop}
theorem Vt.setR_id {r : Nat} {l : List Cp} (h : v.row r = l) : v.setR r l = v := by
  refine Vt.ext rfl (fun _ => rfl) (fun s => ?_) (fun _ => rfl)
  by_cases hs : s = r
  · subst hs; rw [Vt.setR_row, h]
  · rw [Vt.setR_ne _ _ hs]
theorem lis_none {s : Nat} (h : lis v s 8 0 = none) : oI (lis v s 8 0) = -1 := by rw [h]; rfl
theorem p_M_append (h : RM am m A (scV v)) (hv : Rv A (scV v) v) (hI : Inv B v) (hB : B + 1 < 2 ^ 30) (hd : v.dwn = false) {c : Cp} (hc : mcA A 192 c) (hok : CpOk (B + 1) c) (q1 : ∀ e, apd v c = .inl e → Rh (some (.int e)) m) (q2 : ∀ f v2 m', apd v c = .inr (f, v2) → Inv (B + 1) v2 → v2.dwn = false → QM am m' v2 → FrM m m' → Rh (some (.int 0)) m') : cp_M_append [.ref (am 0)] m Rh := by
  refine ⟨Nat.le_of_ble_eq_true rfl, fun X hX => ?_⟩
  have hw := hI.p.wf (by omega)
  have hsz := hok.2.2.1
  have ha : ∀ e, cwr v c.siz = .inl e → apd v c = .inl e := fun e he => by unfold apd; rw [he]
  have J79 : ∀ f v1 m1 A1, cwr v c.siz = .inr (f, v1) → RM am m1 A1 (scV v1) → Rv A1 (scV v1) v1 → FrM m m1 → mcA A1 192 c → cM_append_79 X Rh [(0, .ref (am 0)), (1, .int (nI f))] [] m1 0 0 := by
    intro f v1 m1 A1 he h1 hv1 f1 hc1
    unfold cM_append_79
    obtain ⟨g1, g2, g3, g4, -⟩ := cwr_row he (by omega) hI.p
    have hlen : (v1.row f).length < 12 := (inv_fit hI.p hB hok.1 hok.2.1 hok.2.2.1).2.2.2 f v1 he
    have hmn := (hv1.2.1 f (by omega)).1
    refine xr_push <| xr_iload rfl <| xr_ibin <| zg h1 7 (by omega) rfl <| xr_iload rfl <| za h1 7 rfl (by omega) (show f < 16 by omega) <| xr_ibin <| xr_istore <| ?_
    rw [hmn, pk_mul, nI_add]
    refine xr_aload rfl <| xr_push <| xr_iload rfl <| xr_callV (by decide) (by decide) rfl (by decide) h1.2.1 <| p_M_copy h1 (f := 192) (t := 12 * f + (v1.row f).length) (by omega) (by omega) (fun m2 h2 f2 => ?_)
    have hv2 : Rv (cpA A1 192 (12 * f + (v1.row f).length)) (scV v1) v1 := hv1.cp (fun r hr p d hd' => by
      have hp : p < (v1.row r).length := (List.getElem?_eq_some_iff.mp hd').1
      have := hv1.idx hr hd'
      intro e
      have e1 : r = f := by omega
      subst e1
      omega)
    have hc2 : mcA (cpA A1 192 (12 * f + (v1.row f).length)) (12 * f + (v1.row f).length) c := mcA_cpt hc1
    generalize cpA A1 192 (12 * f + (v1.row f).length) = A2 at h2 hv2 hc2
    have hmn2 := (hv2.2.1 f (by omega)).1
    refine zg h2 7 (by omega) rfl <| xr_iload rfl <| xr_dup2 rfl rfl <| za h2 7 rfl (by omega) (show f < 16 by omega) <| xr_push <| xr_ibin <| ?_
    rw [hmn2, nI_1]
    refine zs h2 7 rfl (by omega) (show f < 16 by omega) (fun m3 h3 f3 => ?_)
    have hv3 := hv2.uAdd (r := f) (by omega) hlen hc2
    have hk3 : upA A2 7 f (nI ((v1.row f).length + 1)) 1 (12 * f + (v1.row f).length) = nI c.key := by rw [upA_n _ _ _ (by omega)]; exact hc2.2.1
    generalize upA A2 7 f (nI ((v1.row f).length + 1)) = A3 at h3 hv3 hk3
    refine zg h3 11 (by omega) rfl <| zg h3 1 (by omega) rfl <| xr_iload rfl <| za h3 1 rfl (by omega) (show 12 * f + (v1.row f).length < 193 by omega) <| xr_iload rfl <| ?_
    rw [hk3]
    refine zs h3 11 rfl (by omega) hok.1 (fun m4 h4 f4 => ?_)
    have hv4 := hv3.uEnt (k := c.key) (x := some (c, f, (v1.row f).length))
    obtain ⟨i1, i2⟩ := cwr_inv hI hd he
    have hP := apE_pinv i1.p ((cwr_row he (by omega) hI.p).2.2.2.2.2.1.trans hd) g1 i2 g2 hok
    refine xr_aload rfl <| xr_callV (by decide) (by decide) rfl (by decide) h4.2.1 <| p_M_settle h4 hv4 hP hB (fun m5 h5 f5 => ?_)
    cases hap : apd v c with
    | inl e => unfold apd at hap; rw [he] at hap; cases hap
    | inr x =>
      obtain ⟨f', v2⟩ := x
      obtain ⟨v1', k1, k2, k3, k4, k5, k6, -⟩ := apd_inv hI hd hok hap
      rw [he] at k1
      cases k1
      subst k2
      exact xr_push <| xr_iret (q2 f _ m5 hap k4 k6 h5 ((((f1.tr f2).tr f3).tr f4).tr f5))
  have J63 : ∀ f v1 m1 A1, f < 8 → v1.sta f = 0 → v1.row f = [] → cwr v c.siz = .inr (f, opn v1 f) → RM am m1 A1 (scV v1) → Rv A1 (scV v1) v1 → FrM m m1 → mcA A1 192 c → cM_append_63 X Rh [(0, .ref (am 0)), (2, .int (nI f))] [] m1 0 0 := by
    intro f v1 m1 A1 hf hs hr he h1 hv1 f1 hc1
    unfold cM_append_63
    refine xr_iload rfl <| xr_istore <| zg h1 8 (by omega) rfl <| xr_iload rfl <| xr_push <| zs h1 8 rfl (by omega) hf (fun m2 h2 f2 => ?_)
    have hv2 := hv1.uSta (b := f) (s := 1) (fun x => by omega)
    refine zg h2 7 (by omega) rfl <| xr_iload rfl <| xr_push <| zs h2 7 rfl (by omega) (show f < 16 by omega) (fun m3 h3 f3 => ?_)
    have hv3 := hv2.uRow0 (b := f)
    rw [Vt.setR_id (show (v1.setB f (1, v1.sat f, v1.wai f)).row f = [] from hr)] at hv3
    exact xr_jmp rfl (J79 f (opn v1 f) m3 _ he h3 hv3 ((f1.tr f2).tr f3) (mcA_up (mcA_up hc1 (Or.inl (by omega))) (Or.inl (by omega))))
  have h0 : fsm v 1 8 none = lis v 1 8 0 := first_eq (by decide)
  have h00 : fsm v 0 8 none = lis v 0 8 0 := first_eq (by decide)
  refine eM_append_0 hX ?_
  unfold cM_append_0
  refine xr_aload rfl <| xr_push <| xr_callV (by decide) (by decide) rfl (by decide) h.2.1 <| p_M_first h hv hw (s := 1) rfl (by omega) <| ?_
  rw [h0]
  have J26n : lis v 1 8 0 = none → cM_append_26 X Rh [(0, .ref (am 0)), (1, .int (-1))] [] m 0 0 := by
    intro hl
    unfold cM_append_26
    refine xr_aload rfl <| xr_push <| xr_callV (by decide) (by decide) rfl (by decide) h.2.1 <| p_M_first h hv hw (s := 0) rfl (by omega) <| ?_
    rw [h00]
    refine xr_istore <| xr_iload rfl <| xr_ift (by decide) <| xr_jmp rfl ?_
    unfold cM_append_47
    cases hf : lis v 0 8 0 with
    | none => exact xr_iload rfl <| xr_iff (by decide) <| xr_push <| xr_iret (q1 _ (ha _ (by simp only [cwr, hl, hf])))
    | some f =>
      have hf8 := lis8 hf
      have hf0 := (lis_lt 8 0 f hf).2.2
      refine xr_iload rfl <| xr_ift (nI_pos' (by omega)) <| xr_iload rfl <| xr_ift (by decide) <| xr_jmp rfl (J63 f v m A hf8 hf0 (hI.p.emt f hf8 (Or.inl hf0)) (by simp only [cwr, hl, hf]) h hv FrM.rf hc)
  have J26s : ∀ b, lis v 1 8 0 = some b → ¬ szs (v.row b) + c.siz ≤ 12 → cM_append_26 X Rh [(0, .ref (am 0)), (1, .int (nI b))] [] m 0 0 := by
    intro b hl hz
    have hb8 := lis8 hl
    have hb1 := (lis_lt 8 0 b hl).2.2
    unfold cM_append_26
    refine xr_aload rfl <| xr_push <| xr_callV (by decide) (by decide) rfl (by decide) h.2.1 <| p_M_first h hv hw (s := 0) rfl (by omega) <| ?_
    rw [h00]
    have hcl := cis_le (v := v) (s := 2) 8 0 0
    refine xr_istore <| xr_iload rfl <| xr_iff (nI_pos (by omega)) <| xr_aload rfl <| xr_callV (by decide) (by decide) rfl (by decide) h.2.1 <| p_M_sealed h hv hw <| xr_push <| xr_cmp (fun h3 => ?_) (fun h3 => ?_)
    · rw [nI_eq (by omega) (by omega)] at h3
      exact xr_push <| xr_iret (q1 _ (ha _ (by simp only [cwr, hl]; rw [if_neg hz, if_pos (by omega)])))
    · rw [nI_eq (by omega) (by omega)] at h3
      have hsl := hI.p.sld
      refine xr_jmp rfl ?_
      unfold cM_append_47
      cases hf : lis v 0 8 0 with
      | none => exact xr_iload rfl <| xr_iff (by decide) <| xr_push <| xr_iret (q1 _ (ha _ (by simp only [cwr, hl, hf]; rw [if_neg hz, if_neg (by omega)])))
      | some f =>
        have hf8 := lis8 hf
        have hf0 := (lis_lt 8 0 f hf).2.2
        have hfb : f ≠ b := fun e => by subst e; omega
        refine xr_iload rfl <| xr_ift (nI_pos' (by omega)) <| xr_iload rfl <| xr_iff (nI_pos (by omega)) <| xr_aload rfl <| xr_iload rfl <| xr_callV (by decide) (by decide) rfl (by decide) h.2.1 <| p_M_close h hv hb8 (fun m1 A1 h1 hv1 f1 k1 => ?_)
        refine xr_jmp rfl (J63 f (sealB v b) m1 A1 hf8 ?_ (hI.p.emt f hf8 (Or.inl hf0)) (by simp only [cwr, hl, hf]; rw [if_neg hz, if_neg (by omega)]) h1 hv1 f1 ?_)
        · show ((sealB v b).blk f).1 = 0
          rw [show (sealB v b).blk f = v.blk f from Vt.setB_ne _ _ hfb]; exact hf0
        · unfold mcA at hc ⊢
          rw [k1 0 (by omega), k1 1 (by omega), k1 2 (by omega), k1 3 (by omega), k1 4 (by omega), k1 5 (by omega), k1 6 (by omega)]
          exact hc
  cases hl : lis v 1 8 0 with
  | none => exact xr_istore <| xr_iload rfl <| xr_ift (by decide) <| xr_jmp rfl (J26n hl)
  | some b =>
    have hb8 := lis8 hl
    have hr := (hI.p.row b (by omega)).2
    refine xr_istore <| xr_iload rfl <| xr_iff (nI_pos (by omega)) <| zg h 3 (by omega) rfl <| xr_push <| za h 3 (p := 192) rfl (by omega) (show 192 < 193 by omega) <| xr_aload rfl <| xr_iload rfl <| xr_callV (by decide) (by decide) rfl (Nat.le_of_ble_eq_true rfl) h.2.1 <| p_M_room h hv hb8 <| ?_
    rw [rmm_eq _ 12 hr, hc.2.2.2.1]
    refine xr_cmp (fun h1 => ?_) (fun h1 => ?_)
    · rw [nI_leI (by omega) (by omega)] at h1
      exact xr_jmp rfl (J79 b v m A (by simp only [cwr, hl]; rw [if_pos (by omega)]) h hv FrM.rf hc)
    · rw [nI_leI (by omega) (by omega)] at h1
      exact xr_jmp rfl (J26s b hl (by omega))
theorem p_M_write (h : RM am m A (scV v)) (hv : Rv A (scV v) v) (hI : Inv B v) (hB : B + 2 < 2 ^ 30) (hd : v.dwn = false) {c : Cp} (hc : ∀ x, mcA (upA A 6 192 x) 192 (c.1, c.2.1, c.2.2.1, c.2.2.2.1, c.2.2.2.2.1, x, c.2.2.2.2.2.2)) (hs : c.stp = v.nst) (hok : CpOk (B + 1) c) (q1 : ∀ e m', wri v c = .inl e → e < 0 → QM am m' v → FrM m m' → Rh (some (.int e)) m') (q2 : ∀ f v2 m', wri v c = .inr (f, v2) → Inv (B + 2) v2 → v2.dwn = false → QM am m' v2 → FrM m m' → Rh (some (.int 0)) m') : cp_M_write [.ref (am 0)] m Rh := by
  refine ⟨Nat.le_of_ble_eq_true rfl, fun X hX => eM_write_0 hX ?_⟩
  unfold cM_write_0
  refine zg h 6 (by omega) rfl <| xr_push <| xr_aload rfl <| xr_get h.2.1 rfl <| zs h 6 (p := 192) rfl (by omega) (show 192 < 193 by omega) (fun m1 h1 f1 => ?_)
  have hc1 := hc v.nst
  rw [← hs] at hc1
  have hv1 := hv.draft (i := 6) (x := c.stp) (by omega)
  have h1 : RM am m1 (upA A 6 192 c.stp) (scV v) := by rw [hs]; exact h1
  refine xr_aload rfl <| xr_callV (by decide) (by decide) rfl (by decide) h1.2.1 <| p_M_append h1 hv1 hI (by omega) hd (c := c) hc1 hok (fun e he => ?_) (fun f v2 m2 he i2 d2 h2 f2 => ?_)
  · have hneg : e = -5 ∨ e = -6 := by
      unfold apd at he
      cases hw : cwr v c.siz with
      | inl e' => simp only [hw] at he; cases he; exact cwr_neg hw
      | inr x => obtain ⟨a, b⟩ := x; simp only [hw] at he; cases he
    have hne : ¬ e = 0 := by rcases hneg with rfl | rfl <;> decide
    have hlt : e < 0 := by rcases hneg with rfl | rfl <;> decide
    exact xr_istore <| xr_iload rfl <| xr_iff hne <| xr_iload rfl <| xr_iret (q1 e m1 (by unfold wri; rw [he]) hlt ⟨_, h1, hv1⟩ f1)
  · obtain ⟨A2, h2, hv2⟩ := h2
    have hv3 := hv2.sc (x := (v2.clk, v2.nst + 1, v2.wrt, v2.mvd, v2.dwn, v2.sls))
    refine xr_istore <| xr_iload rfl <| xr_ift rfl <| xr_aload rfl <| xr_dup rfl <| xr_get h2.2.1 rfl <| xr_push <| xr_ibin <| xr_put h2.2.1 (by simp) rfl rfl rfl <| xr_iload rfl <| xr_iret (q2 f (inc1 v2) _ (by unfold wri; rw [he]) (inc1_inv i2) d2 ⟨A2, h2.upS (scV (inc1 v2)), hv3⟩ ((f1.tr f2).tr (FrM.up h2.2.1 rfl)))
theorem cpE (c : Cp) : (c.key, c.val, c.siz, c.gen, c.voi, c.stp, c.tmb) = c := rfl
theorem p_M_writeRecord (h : RM am m A (scV v)) (hv : Rv A (scV v) v) (hI : Inv B v) (hB : B + 2 < 2 ^ 30) (hd : v.dwn = false) {k s : Nat} {x g life : Int32} (hok : CpOk (B + 1) (k, x, s, g, (if life = 0 then 0 else v.clk + life), v.nst, false)) (q1 : ∀ e m', wri v (k, x, s, g, (if life = 0 then 0 else v.clk + life), v.nst, false) = .inl e → e < 0 → QM am m' v → FrM m m' → Rh (some (.int e)) m') (q2 : ∀ f v2 m', wri v (k, x, s, g, (if life = 0 then 0 else v.clk + life), v.nst, false) = .inr (f, v2) → Inv (B + 2) v2 → v2.dwn = false → QM am m' v2 → FrM m m' → Rh (some (.int g)) m') : cp_M_writeRecord [.ref (am 0), .int (nI k), .int x, .int (nI s), .int g, .int life] m Rh := by
  refine ⟨Nat.le_of_ble_eq_true rfl, fun X hX => eM_writeRecord_0 hX ?_⟩
  unfold cM_writeRecord_0
  refine zg h 0 (by omega) rfl <| xr_push <| xr_push <| zt h (p := 192) rfl (by omega) (Or.inl rfl) (fun m0 h0 f0 => ?_)
  refine zg h0 1 (by omega) rfl <| xr_push <| xr_iload rfl <| zs h0 1 (p := 192) rfl (by omega) (show 192 < 193 by omega) (fun m1 h1 f1 => ?_)
  refine zg h1 2 (by omega) rfl <| xr_push <| xr_iload rfl <| zs h1 2 (p := 192) rfl (by omega) (show 192 < 193 by omega) (fun m2 h2 f2 => ?_)
  refine zg h2 3 (by omega) rfl <| xr_push <| xr_iload rfl <| zs h2 3 (p := 192) rfl (by omega) (show 192 < 193 by omega) (fun m3 h3 f3 => ?_)
  refine zg h3 4 (by omega) rfl <| xr_push <| xr_iload rfl <| zs h3 4 (p := 192) rfl (by omega) (show 192 < 193 by omega) (fun m4 h4 f4 => ?_)
  have hv4 := ((((hv.draft (i := 0) (x := 0) (by omega)).draft (i := 1) (x := nI k) (by omega)).draft (i := 2) (x := x) (by omega)).draft (i := 3) (x := nI s) (by omega)).draft (i := 4) (x := g) (by omega)
  have J : ∀ e, e = (if life = 0 then 0 else v.clk + life) → cM_writeRecord_69 X Rh [(0, .ref (am 0)), (4, .int g)] [.int e, .int (nI 192), .ref (am 6)] m4 0 0 := by
    intro e he
    unfold cM_writeRecord_69
    refine zs h4 5 (p := 192) rfl (by omega) (show 192 < 193 by omega) (fun m5 h5 f5 => ?_)
    have hv5 := hv4.draft (i := 5) (x := e) (by omega)
    refine xr_aload rfl <| xr_callV (by decide) (by decide) rfl (by decide) h5.2.1 <| p_M_write h5 hv5 hI hB hd (c := (k, x, s, g, (if life = 0 then 0 else v.clk + life), v.nst, false)) ?_ rfl hok (fun e' m6 w1 w2 w3 w4 => ?_) (fun f v2 m6 w1 w2 w3 w4 w5 => ?_)
    · intro y
      rw [← he]
      simp [mcA, upA, upd, Cp.tmb, Cp.key, Cp.val, Cp.siz, Cp.gen, Cp.voi, Cp.stp, bI]
    · exact xr_istore <| xr_iload rfl <| xr_iff (Int32.not_le.mpr w2) <| xr_iload rfl <| xr_iret (q1 e' m6 w1 w2 w3 ((((((f0.tr f1).tr f2).tr f3).tr f4).tr f5).tr w4))
    · exact xr_istore <| xr_iload rfl <| xr_ift (by decide) <| xr_iload rfl <| xr_iret (q2 f v2 m6 w1 w2 w3 w4 ((((((f0.tr f1).tr f2).tr f3).tr f4).tr f5).tr w5))
  refine zg h4 5 (by omega) rfl <| xr_push <| xr_iload rfl <| xr_if (fun hl => ?_) (fun hl => ?_)
  · exact xr_push <| xr_jmp rfl (J 0 (by rw [if_pos hl]))
  · exact xr_aload rfl <| xr_get h4.2.1 rfl <| xr_iload rfl <| xr_ibin <| xr_jmp rfl (J (v.clk + life) (by rw [if_neg hl]))
theorem p_M_writeTombstone (h : RM am m A (scV v)) (hv : Rv A (scV v) v) (hI : Inv B v) (hB : B + 2 < 2 ^ 30) (hd : v.dwn = false) {k : Nat} (hok : CpOk (B + 1) (wtmb v k)) (q1 : ∀ e m', wri v (wtmb v k) = .inl e → e < 0 → QM am m' v → FrM m m' → Rh (some (.int e)) m') (q2 : ∀ f v2 m', wri v (wtmb v k) = .inr (f, v2) → Inv (B + 2) v2 → v2.dwn = false → QM am m' v2 → FrM m m' → Rh (some (.int 1)) m') : cp_M_writeTombstone [.ref (am 0), .int (nI k)] m Rh := by
  refine ⟨Nat.le_of_ble_eq_true rfl, fun X hX => eM_writeTombstone_0 hX ?_⟩
  unfold cM_writeTombstone_0
  refine zg h 0 (by omega) rfl <| xr_push <| xr_push <| zt h (p := 192) rfl (by omega) (Or.inr rfl) (fun m0 h0 f0 => ?_)
  refine zg h0 1 (by omega) rfl <| xr_push <| xr_iload rfl <| zs h0 1 (p := 192) rfl (by omega) (show 192 < 193 by omega) (fun m1 h1 f1 => ?_)
  refine zg h1 2 (by omega) rfl <| xr_push <| xr_push <| zs h1 2 (p := 192) rfl (by omega) (show 192 < 193 by omega) (fun m2 h2 f2 => ?_)
  refine zg h2 3 (by omega) rfl <| xr_push <| xr_push <| zs h2 3 (p := 192) rfl (by omega) (show 192 < 193 by omega) (fun m3 h3 f3 => ?_)
  refine zg h3 4 (by omega) rfl <| xr_push <| xr_push <| zs h3 4 (p := 192) rfl (by omega) (show 192 < 193 by omega) (fun m4 h4 f4 => ?_)
  refine zg h4 5 (by omega) rfl <| xr_push <| xr_push <| zs h4 5 (p := 192) rfl (by omega) (show 192 < 193 by omega) (fun m5 h5 f5 => ?_)
  have hv5 := (((((hv.draft (i := 0) (x := 1) (by omega)).draft (i := 1) (x := nI k) (by omega)).draft (i := 2) (x := 0) (by omega)).draft (i := 3) (x := 1) (by omega)).draft (i := 4) (x := 0) (by omega)).draft (i := 5) (x := 0) (by omega)
  refine xr_aload rfl <| xr_callV (by decide) (by decide) rfl (by decide) h5.2.1 <| p_M_write h5 hv5 hI hB hd (c := wtmb v k) ?_ rfl hok (fun e' m6 w1 w2 w3 w4 => ?_) (fun f v2 m6 w1 w2 w3 w4 w5 => ?_)
  · intro y
    simp [wtmb, mcA, upA, upd, Cp.tmb, Cp.key, Cp.val, Cp.siz, Cp.gen, Cp.voi, Cp.stp, bI]
    rfl
  · exact xr_istore <| xr_iload rfl <| xr_iff (Int32.not_le.mpr w2) <| xr_iload rfl <| xr_iret (q1 e' m6 w1 w2 w3 ((((((f0.tr f1).tr f2).tr f3).tr f4).tr f5).tr w4))
  · exact xr_istore <| xr_iload rfl <| xr_ift (by decide) <| xr_push <| xr_iret (q2 f v2 m6 w1 w2 w3 w4 ((((((f0.tr f1).tr f2).tr f3).tr f4).tr f5).tr w5))
end
