/-! the reference's flush and crash -/
section
variable {am : Nat → Nat} {m : xm_M} {A : Nat → Nat → Int32} {S : Sc} {v u : Vt} {K : xm_PT} {ls : xm_L} {st : List Value} {bc bs B : Nat} {Rh : Option Value → xm_M → Prop}
theorem oIf (h : fsm v 2 8 none = lgs v 8 0 none) (P : Option Nat → Prop) (hp : P (lgs v 8 0 none)) : P (fsm v 2 8 none) := by rw [h]; exact hp
theorem p_M_flush (hQ : QM am m v) (hI : Inv B v) (hB : B < 2 ^ 30) {n : Int32} (q : ∀ m', QM am m' (Fflush v n).2 → FrM m m' → Rh (some (.int (Fflush v n).1)) m') : cp_M_flush [.ref (am 0), .int n] m Rh := by
  refine ⟨Nat.le_of_ble_eq_true rfl, fun X hX => ?_⟩
  have J101 : ∀ a v m, QM am m v → (∀ m', QM am m' (addW v a) → FrM m m' → Rh (some (.int (nI a))) m') → cM_flush_101 X Rh [(0, .ref (am 0)), (2, .int (nI a))] [] m 0 0 := by
    intro a v m hQ q
    unfold cM_flush_101
    obtain ⟨A, h, hv⟩ := hQ
    have hv3 := hv.sc (x := (v.clk, v.nst, v.wrt + nI a, v.mvd, v.dwn, v.sls))
    exact xr_aload rfl <| xr_dup rfl <| xr_get h.2.1 rfl <| xr_iload rfl <| xr_ibin <| xr_put h.2.1 (by simp) rfl rfl rfl <| xr_iload rfl <| xr_iret (q _ ⟨A, h.upS (scV (addW v a)), hv3⟩ (FrM.up h.2.1 rfl))
  have L : ∀ N j a v m, a + j = N → N ≤ 3 → QM am m v → Inv B v → (∀ m', QM am m' (addW (flb j v a).2 (flb j v a).1) → FrM m m' → Rh (some (.int (nI (flb j v a).1))) m') → X 23 [(0, .ref (am 0)), (1, .int (nI N)), (2, .int (nI a))] [] m 0 0 := by
    intro N j
    induction j with
    | zero =>
      intro a v m hN hN3 hQ hI q
      refine eM_flush_23 hX ?_
      unfold cM_flush_23
      have : a = N := by omega
      subst this
      exact xr_iload rfl <| xr_iload rfl <| xr_cmpt (Int32.le_refl _) <| xr_jmp rfl (J101 a v m hQ q)
    | succ j ih =>
      intro a v m hN hN3 hQ hI q
      refine eM_flush_23 hX ?_
      unfold cM_flush_23
      obtain ⟨A, h, hv⟩ := hQ
      have hw := hI.p.wf hB
      refine xr_iload rfl <| xr_iload rfl <| xr_cmpf (nI_ge (by omega) (by omega)) <| xr_aload rfl <| xr_push <| xr_callV (by decide) (by decide) rfl (by decide) h.2.1 <| p_M_first h hv hw (s := 2) rfl (by omega) <| ?_
      rw [firsts_eq hI.p]
      rw [flb] at q
      cases hl : lgs v 8 0 none with
      | none =>
        rw [hl] at q
        exact xr_ift (by decide) <| xr_jmp rfl (J101 a v m ⟨A, h, hv⟩ q)
      | some b =>
        rw [hl] at q
        obtain ⟨hb, hs⟩ := lgs_s2 hl
        refine xr_iff (nI_pos (by omega)) <| xr_aload rfl <| xr_push <| xr_callV (by decide) (by decide) rfl (by decide) h.2.1 <| p_M_first h hv hw (s := 2) rfl (by omega) <| ?_
        rw [firsts_eq hI.p, hl]
        refine xr_istore <| xr_aload rfl <| xr_iload rfl <| zg h 7 (by omega) rfl <| xr_iload rfl <| za h 7 rfl (by omega) (show b < 16 by omega) <| ?_
        rw [(hv.2.1 b (by omega)).1]
        refine xr_callV (by decide) (by decide) rfl (by decide) h.2.1 <| p_M_store ⟨A, h, hv⟩ hb (Nat.le_refl _) (fun m1 h1 f1 => ?_)
        rw [List.take_length] at h1
        obtain ⟨A1, h1, hv1⟩ := h1
        refine zg h1 8 (by omega) rfl <| xr_iload rfl <| xr_push <| zs h1 8 rfl (by omega) hb (fun m2 h2 f2 => ?_)
        have hv2 := hv1.uSta (b := b) (s := 3) (fun x => by omega)
        have L63 : ∀ n x u m3 A3, x + n = 8 → RM am m3 A3 (scV u) → Rv A3 (scV u) u → FrM m m3 → wml b n x u = wml b 8 0 (wb0 v b) → X 63 [(0, .ref (am 0)), (1, .int (nI N)), (2, .int (nI a)), (3, .int (nI b)), (4, .int (nI x))] [] m3 0 0 := by
          intro n
          induction n with
          | zero =>
            intro x u m3 A3 hx h3 hv3 f3 e
            refine eM_flush_63 hX ?_
            unfold cM_flush_63
            have : x = 8 := by omega
            subst this
            have e : u = wml b 8 0 (wb0 v b) := e
            subst e
            refine xr_iload rfl <| xr_push <| xr_cmpt (Int32.le_refl _) <| xr_aload rfl <| xr_callV (by decide) (by decide) rfl (by decide) h3.2.1 <| p_M_settle h3 hv3 (wml_pinv hI hb hs).1 hB (fun m4 h4 f4 => ?_)
            rw [← wbk_eq hI hb hs] at h4
            refine xr_iinc rfl <| xr_jmp rfl ?_
            rw [nI_1]
            exact ih (a + 1) (wbk v b) m4 (by omega) hN3 h4 (wbk_inv hI hb hs).1 (fun m' z1 z2 => q m' z1 ((f3.tr f4).tr z2))
          | succ n ih2 =>
            intro x u m3 A3 hx h3 hv3 f3 e
            refine eM_flush_63 hX ?_
            unfold cM_flush_63
            have hx8 : x < 8 := by omega
            refine xr_iload rfl <| xr_push <| xr_cmpf (nI_ge hx8 (by decide)) <| zg h3 10 (by omega) rfl <| xr_iload rfl <| xr_dup2 rfl rfl <| za h3 10 rfl (by omega) hx8 <| xr_push <| xr_iload rfl <| xr_ibin <| xr_push <| xr_ibin <| xr_ibin <| ?_
            rw [(hv3.2.2.1 x hx8).2.1]
            refine zs h3 10 rfl (by omega) hx8 (fun m4 h4 f4 => xr_iinc rfl <| xr_jmp rfl ?_)
            rw [nI_1]
            exact ih2 (x + 1) (u.setB x (u.sta x, u.sat x, u.wai x &&& msk b)) m4 _ (by omega) h4 (hv3.uWai (b := x) (w := u.wai x &&& msk b)) (f3.tr f4) e
        exact xr_push <| xr_istore <| xr_jmp rfl (L63 8 0 (wb0 v b) m2 _ rfl h2 hv2 (f1.tr f2) rfl)
  refine eM_flush_0 hX ?_
  unfold cM_flush_0
  unfold Fflush at q
  refine xr_iload rfl <| xr_push <| xr_push <| xr_callS (by decide) (by decide) rfl (by decide) <| p_M_in <| xr_if (fun a1 => ?_) (fun a1 => ?_)
  · rw [in_0, in_rng] at a1
    rw [if_pos a1] at q
    exact xr_push <| xr_iret (q m hQ FrM.rf)
  · rw [in_0, in_rng] at a1
    rw [if_neg a1] at q
    obtain ⟨N, hN1, hN3, rfl⟩ := rng_not (n := 3) (by omega) (fun z => a1 (Or.inl z)) (Classical.byContradiction (fun z => a1 (Or.inr z)))
    rw [kk_nI (by omega)] at q
    obtain ⟨A, h, hv⟩ := hQ
    refine xr_aload rfl <| xr_get h.2.1 rfl <| xr_if (fun a5 => ?_) (fun a5 => ?_)
    · have a5 : v.dwn = false := bI_0.mp a5
      rw [if_neg (by rw [a5]; decide)] at q
      exact xr_push <| xr_istore <| xr_jmp rfl (L N N 0 v m (by omega) hN3 ⟨A, h, hv⟩ hI q)
    · have a5 : v.dwn = true := bI_n0 a5
      rw [if_pos a5] at q
      exact xr_push <| xr_iret (q m ⟨A, h, hv⟩ FrM.rf)
/-! crash -/
theorem lsb_setE {k : Nat} {x : En} : ∀ n b u, lsb n b (u.setE k x) = (lsb n b u).setE k x := by
  intro n
  induction n with
  | zero => intro b u; rfl
  | succ n ih => intro b u; rw [lsb, lsb, ← ih]; rfl
theorem lse_lsb : ∀ n k u, lse n k (lsb 8 0 u) = lsb 8 0 (lse n k u) := by
  intro n
  induction n with
  | zero => intro k u; rfl
  | succ n ih => intro k u; rw [lse, lse, ← lsb_setE, ih]
theorem lsb_eq : ∀ n b u, lsb n b u = (u.1, (fun y => if b ≤ y ∧ y < b + n then (0, u.sat y, 0) else u.blk y), (fun r => if b ≤ r ∧ r < b + n then [] else u.row r), u.ent) := by
  intro n
  induction n with
  | zero => intro b u; exact Vt.ext rfl (fun y => by show u.blk y = if _ then _ else _; rw [if_neg (by omega)]) (fun y => by show u.row y = if _ then _ else _; rw [if_neg (by omega)]) (fun _ => rfl)
  | succ n ih =>
    intro b u
    rw [lsb, ih]
    refine Vt.ext rfl (fun y => ?_) (fun y => ?_) (fun _ => rfl)
    · show (if b + 1 ≤ y ∧ y < b + 1 + n then _ else _) = if b ≤ y ∧ y < b + (n + 1) then _ else _
      by_cases hy : y = b
      · subst hy
        rw [if_neg (by omega), if_pos (by omega), Vt.setB_blk]
      · have e : ((u.setR b []).setB b (0, u.sat b, 0)).blk y = u.blk y := Vt.setB_ne _ _ hy
        unfold Vt.sat
        rw [show ((u.setR b []).setB b (0, (u.blk b).2.1, 0)).blk y = u.blk y from e]
        by_cases hc : b ≤ y ∧ y < b + (n + 1)
        · rw [if_pos hc, if_pos (by omega)]
        · rw [if_neg hc, if_neg (by omega)]
    · show (if b + 1 ≤ y ∧ y < b + 1 + n then _ else _) = if b ≤ y ∧ y < b + (n + 1) then _ else _
      by_cases hy : y = b
      · subst hy
        rw [if_neg (by omega), if_pos (by omega)]
        exact Vt.setR_row _ _ _
      · have e : ((u.setR b []).setB b (0, u.sat b, 0)).row y = u.row y := Vt.setR_ne _ _ hy
        rw [e]
        by_cases hc : b ≤ y ∧ y < b + (n + 1)
        · rw [if_pos hc, if_pos (by omega)]
        · rw [if_neg hc, if_neg (by omega)]
theorem lse_eq : ∀ n k u, lse n k u = (u.1, u.blk, u.row, (fun j => if k ≤ j ∧ j < k + n then none else u.ent j)) := by
  intro n
  induction n with
  | zero => intro k u; exact Vt.ext rfl (fun _ => rfl) (fun _ => rfl) (fun y => by show u.ent y = if _ then _ else _; rw [if_neg (by omega)])
  | succ n ih =>
    intro k u
    rw [lse, ih]
    refine Vt.ext rfl (fun _ => rfl) (fun _ => rfl) (fun y => ?_)
    show (if k + 1 ≤ y ∧ y < k + 1 + n then _ else _) = if k ≤ y ∧ y < k + (n + 1) then _ else _
    by_cases hy : y = k
    · subst hy
      rw [if_neg (by omega), if_pos (by omega), Vt.setE_ent]
    · rw [Vt.setE_ne _ _ hy]
      by_cases hc : k ≤ y ∧ y < k + (n + 1)
      · rw [if_pos hc, if_pos (by omega)]
      · rw [if_neg hc, if_neg (by omega)]
theorem cis_none {s : Nat} : ∀ n b a, (∀ x, b ≤ x → x < b + n → ¬ v.sta x = s) → cis v s n b a = a := by
  intro n
  induction n with
  | zero => intro b a _; rfl
  | succ n ih => intro b a h; rw [cis, if_neg (h b (Nat.le_refl _) (by omega)), ih (b + 1) a (fun x h1 h2 => h x (by omega) (by omega))]
theorem los_inv (hrow : ∀ r, r < 16 → (∀ c, c ∈ v.row r → CpOk B c) ∧ szs (v.row r) ≤ 12) (hsat : ∀ b, b < 8 → v.sat b ≤ B) (hbnd : v.sls ≤ B ∧ ∃ t, v.nst = nI t ∧ t ≤ B) : Inv B (los v) := by
  have he : ∀ k, k < 16 → (los v).ent k = none := by
    intro k hk
    show (lsb 8 0 (lse 16 0 v)).ent k = none
    rw [lsb_eq, lse_eq]
    show (if 0 ≤ k ∧ k < 0 + 16 then none else v.ent k) = none
    rw [if_pos (by omega)]
  have hb : ∀ b, b < 8 → (los v).blk b = (0, v.sat b, 0) := by
    intro b hb
    show (lsb 8 0 (lse 16 0 v)).blk b = _
    rw [lsb_eq, lse_eq]
    show (if 0 ≤ b ∧ b < 0 + 8 then _ else _) = _
    rw [if_pos (by omega)]; rfl
  have hr : ∀ r, (los v).row r = if r < 8 then [] else v.row r := by
    intro r
    show (lsb 8 0 (lse 16 0 v)).row r = _
    rw [lsb_eq, lse_eq]
    show (if 0 ≤ r ∧ r < 0 + 8 then _ else v.row r) = _
    by_cases h8 : r < 8
    · rw [if_pos (by omega), if_pos h8]
    · rw [if_neg (by omega), if_neg h8]
  have hs : ∀ b, b < 8 → (los v).sta b = 0 := fun b h => by unfold Vt.sta; rw [hb b h]
  refine ⟨Pinv.of (row := ?_) (ent := ?_) (emt := ?_) (img := ?_) (wai := ?_) (sat := ?_) (blk := ?_) (sld := ?_) (bnd := ?_) (dwn := ?_), ?_, ?_⟩
  · intro r hr'
    rw [hr]
    split
    · exact ⟨fun c hc => (by cases hc), by simp [szs]⟩
    · exact hrow r hr'
  · intro k hk c hh p h; rw [he k hk] at h; cases h
  · intro b h8 _; rw [hr, if_pos h8]
  · intro b h8 h3; rw [hs b h8] at h3; omega
  · intro b h8
    have : (los v).wai b = 0 := by unfold Vt.wai; rw [hb b h8]
    rw [this]; exact ⟨fun _ => rfl, rfl⟩
  · intro b c h8 h9 h1; rw [hs b h8] at h1; omega
  · intro b h8
    rw [hs b h8]
    have : (los v).sat b = v.sat b := by unfold Vt.sat; rw [hb b h8]; rfl
    rw [this]; exact ⟨by omega, hsat b h8, fun z => by omega⟩
  · rw [cis_none 8 0 0 (fun x _ hx => by rw [hs x (by omega)]; omega)]; omega
  · have e1 : (los v).sls = v.sls := by show (lsb 8 0 (lse 16 0 v)).sls = _; rw [lsb_eq, lse_eq]; rfl
    have e2 : (los v).nst = v.nst := by show (lsb 8 0 (lse 16 0 v)).nst = _; rw [lsb_eq, lse_eq]; rfl
    rw [e1, e2]; exact hbnd
  · intro _; exact ⟨fun b h8 => ⟨hs b h8, by rw [hr, if_pos h8]⟩, he⟩
  · intro b h8 h3; rw [hs b h8] at h3; omega
  · intro b h8 h3; rw [hs b h8] at h3; omega
theorem p_M_crash (hQ : QM am m v) (hI : Inv B v) (hB : B < 2 ^ 30) {k : Int32} (q : ∀ m', QM am m' (Fcrash v k).2 → FrM m m' → Rh (some (.int (Fcrash v k).1)) m') : cp_M_crash [.ref (am 0), .int k] m Rh := by
  refine ⟨Nat.le_of_ble_eq_true rfl, fun X hX => ?_⟩
  have L88 : ∀ n x u m A, x + n = 16 → RM am m A (scV u) → Rv A (scV u) u → (∀ m', QM am m' (setD (lse n x u) true) → FrM m m' → Rh (some (.int 1)) m') → X 88 [(0, .ref (am 0)), (3, .int (nI x))] [] m 0 0 := by
    intro n
    induction n with
    | zero =>
      intro x u m A hx h hv q
      refine eM_crash_88 hX ?_
      unfold cM_crash_88
      have : x = 16 := by omega
      subst this
      have hv3 := hv.sc (x := (u.clk, u.nst, u.wrt, u.mvd, true, u.sls))
      exact xr_iload rfl <| xr_push <| xr_cmpt (Int32.le_refl _) <| xr_aload rfl <| xr_push <| xr_put h.2.1 (by simp) rfl rfl rfl <| xr_push <| xr_iret (q _ ⟨A, h.upS (scV (setD u true)), hv3⟩ (FrM.up h.2.1 rfl))
    | succ n ih =>
      intro x u m A hx h hv q
      refine eM_crash_88 hX ?_
      unfold cM_crash_88
      have hx16 : x < 16 := by omega
      refine xr_iload rfl <| xr_push <| xr_cmpf (nI_ge hx16 (by decide)) <| zg h 11 (by omega) rfl <| xr_iload rfl <| xr_push <| zs h 11 rfl (by omega) hx16 (fun m1 h1 f1 => xr_iinc rfl <| xr_jmp rfl ?_)
      rw [nI_1]
      exact ih (x + 1) (u.setE x none) m1 _ (by omega) h1 (hv.uEnt (k := x) (x := none)) (fun m' z1 z2 => q m' z1 (f1.tr z2))
  have L53 : ∀ n x u m A, x + n = 8 → RM am m A (scV u) → Rv A (scV u) u → (∀ m', QM am m' (setD (lse 16 0 (lsb n x u)) true) → FrM m m' → Rh (some (.int 1)) m') → X 53 [(0, .ref (am 0)), (3, .int (nI x))] [] m 0 0 := by
    intro n
    induction n with
    | zero =>
      intro x u m A hx h hv q
      refine eM_crash_53 hX ?_
      unfold cM_crash_53
      have : x = 8 := by omega
      subst this
      exact xr_iload rfl <| xr_push <| xr_cmpt (Int32.le_refl _) <| xr_push <| xr_istore <| xr_jmp rfl (L88 16 0 u m A rfl h hv q)
    | succ n ih =>
      intro x u m A hx h hv q
      refine eM_crash_53 hX ?_
      unfold cM_crash_53
      have hx8 : x < 8 := by omega
      refine xr_iload rfl <| xr_push <| xr_cmpf (nI_ge hx8 (by decide)) <| zg h 8 (by omega) rfl <| xr_iload rfl <| xr_push <| zs h 8 rfl (by omega) hx8 (fun m1 h1 f1 => ?_)
      refine zg h1 7 (by omega) rfl <| xr_iload rfl <| xr_push <| zs h1 7 rfl (by omega) (show x < 16 by omega) (fun m2 h2 f2 => ?_)
      refine zg h2 10 (by omega) rfl <| xr_iload rfl <| xr_push <| zs h2 10 rfl (by omega) hx8 (fun m3 h3 f3 => xr_iinc rfl <| xr_jmp rfl ?_)
      rw [nI_1]
      have r1 := ((hv.uSta (b := x) (s := 0) (fun y => by omega)).uRow0 (b := x)).uWai (b := x) (w := 0)
      have e1 : ((u.setB x (0, u.sat x, u.wai x)).setR x []).sta x = 0 := by show ((u.setB x _).blk x).1 = 0; rw [Vt.setB_blk]
      have e2 : ((u.setB x (0, u.sat x, u.wai x)).setR x []).sat x = u.sat x := by show ((u.setB x _).blk x).2.1 = _; rw [Vt.setB_blk]
      rw [e1, e2] at r1
      have e3 : ((u.setB x (0, u.sat x, u.wai x)).setR x []).setB x (0, u.sat x, 0) = (u.setR x []).setB x (0, u.sat x, 0) := Vt.setB_set (u.setR x []) x _ _
      rw [e3] at r1
      exact ih (x + 1) ((u.setR x []).setB x (0, u.sat x, 0)) m3 _ (by omega) h3 r1 (fun m' z1 z2 => q m' z1 (((f1.tr f2).tr f3).tr z2))
  obtain ⟨A, h, hv⟩ := hQ
  have hw := hI.p.wf hB
  have go : ∀ u m1, QM am m1 u → FrM m m1 → (∀ m', QM am m' (los u) → FrM m m' → Rh (some (.int 1)) m') → X 53 [(0, .ref (am 0)), (3, .int (nI 0))] [] m1 0 0 := by
    intro u m1 hQ1 f1 q
    obtain ⟨A1, h1, hv1⟩ := hQ1
    refine L53 8 0 u m1 A1 rfl h1 hv1 (fun m' z1 z2 => ?_)
    rw [lse_lsb] at z1
    exact q m' z1 (f1.tr z2)
  refine eM_crash_0 hX ?_
  unfold cM_crash_0
  refine xr_aload rfl <| xr_push <| xr_callV (by decide) (by decide) rfl (by decide) h.2.1 <| p_M_first h hv hw (s := 2) rfl (by omega) <| ?_
  rw [firsts_eq hI.p]
  unfold Fcrash at q
  cases hl : lgs v 8 0 none with
  | none =>
    rw [hl] at q
    refine xr_istore <| xr_iload rfl <| xr_push <| xr_cmp (fun a1 => ?_) (fun a1 => ?_)
    · have q : ∀ m', QM am m' (if ¬ k = -1 then ((-1 : Int32), v) else if v.dwn = true then (-2, v) else (1, los v)).2 → FrM m m' → Rh (some (.int (if ¬ k = -1 then ((-1 : Int32), v) else if v.dwn = true then (-2, v) else (1, los v)).1)) m' := q
      rw [if_neg (fun z => z a1)] at q
      refine xr_jmp rfl ?_
      unfold cM_crash_31
      refine xr_aload rfl <| xr_get h.2.1 rfl <| xr_if (fun a5 => ?_) (fun a5 => ?_)
      · have a5 : v.dwn = false := bI_0.mp a5
        rw [if_neg (by rw [a5]; decide)] at q
        exact xr_iload rfl <| xr_ift (by rw [a1]; decide) <| xr_push <| xr_istore <| xr_jmp rfl (go v m ⟨A, h, hv⟩ FrM.rf q)
      · have a5 : v.dwn = true := bI_n0 a5
        rw [if_pos a5] at q
        exact xr_push <| xr_iret (q m ⟨A, h, hv⟩ FrM.rf)
    · have q : ∀ m', QM am m' (if ¬ k = -1 then ((-1 : Int32), v) else if v.dwn = true then (-2, v) else (1, los v)).2 → FrM m m' → Rh (some (.int (if ¬ k = -1 then ((-1 : Int32), v) else if v.dwn = true then (-2, v) else (1, los v)).1)) m' := q
      rw [if_pos a1] at q
      exact xr_iload rfl <| xr_ift (by decide) <| xr_push <| xr_iret (q m ⟨A, h, hv⟩ FrM.rf)
  | some t =>
    rw [hl] at q
    obtain ⟨ht, hts⟩ := lgs_s2 hl
    have hdn : v.dwn = false := by
      cases hh : v.dwn with
      | false => rfl
      | true => have := ((hI.p.dwn hh).1 t ht).1; omega
    have q : ∀ m', QM am m' (if ¬ k = -1 ∧ (k < 0 ∨ ¬ k ≤ nI (v.row t).length) then ((-1 : Int32), v) else if v.dwn = true then (-2, v) else if k = -1 then (1, los v) else (1, los (v.setR (8 + t) ((v.row t).take (kk k))))).2 → FrM m m' → Rh (some (.int (if ¬ k = -1 ∧ (k < 0 ∨ ¬ k ≤ nI (v.row t).length) then ((-1 : Int32), v) else if v.dwn = true then (-2, v) else if k = -1 then (1, los v) else (1, los (v.setR (8 + t) ((v.row t).take (kk k))))).1)) m' := q
    refine xr_istore <| xr_iload rfl <| xr_push <| xr_cmp (fun a1 => ?_) (fun a1 => ?_)
    · rw [if_neg (fun z => z.1 a1), if_neg (by rw [hdn]; decide), if_pos a1] at q
      refine xr_jmp rfl ?_
      unfold cM_crash_31
      exact xr_aload rfl <| xr_get h.2.1 rfl <| xr_ift (bI_0.mpr hdn) <| xr_iload rfl <| xr_ift (by rw [a1]; decide) <| xr_push <| xr_istore <| xr_jmp rfl (go v m ⟨A, h, hv⟩ FrM.rf q)
    · refine xr_iload rfl <| xr_iff (nI_pos (by omega)) <| xr_iload rfl <| xr_push <| zg h 7 (by omega) rfl <| xr_iload rfl <| za h 7 rfl (by omega) (show t < 16 by omega) <| ?_
      rw [(hv.2.1 t (by omega)).1]
      refine xr_callS (by decide) (by decide) rfl (by decide) <| p_M_in <| xr_if (fun a2 => ?_) (fun a2 => ?_)
      · rw [in_0, in_rng] at a2
        rw [if_pos ⟨a1, a2⟩] at q
        exact xr_push <| xr_iret (q m ⟨A, h, hv⟩ FrM.rf)
      · rw [in_0, in_rng] at a2
        have h12 := (hv.2.1 t (by omega)).2
        rw [if_neg (fun z => a2 z.2), if_neg (by rw [hdn]; decide), if_neg a1] at q
        obtain ⟨j, hj, rfl⟩ := nI_of (fun z => a2 (Or.inl z))
        have hjl : j ≤ (v.row t).length := by
          have : nI j ≤ nI (v.row t).length := Classical.byContradiction (fun z => a2 (Or.inr z))
          rw [nI_leI (by omega) (by omega)] at this
          exact this
        rw [kk_nI (by omega)] at q
        refine xr_jmp rfl ?_
        unfold cM_crash_31
        refine xr_aload rfl <| xr_get h.2.1 rfl <| xr_ift (bI_0.mpr hdn) <| xr_iload rfl <| xr_iff (nI_pos (by omega)) <| xr_aload rfl <| xr_iload rfl <| xr_iload rfl <| xr_callV (by decide) (by decide) rfl (by decide) h.2.1 <| p_M_store ⟨A, h, hv⟩ ht hjl (fun m1 h1 f1 => ?_)
        exact xr_push <| xr_istore <| xr_jmp rfl (go _ m1 h1 f1 q)
end
