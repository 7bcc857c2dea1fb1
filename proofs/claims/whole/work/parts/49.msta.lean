/-! the reference's start -/
section
variable {am : Nat → Nat} {m : xm_M} {A : Nat → Nat → Int32} {S : Sc} {v u : Vt} {K : xm_PT} {ls : xm_L} {st : List Value} {bc bs B : Nat} {Rh : Option Value → xm_M → Prop}
theorem EK.ec (h : EK u.row u) : EC u := fun k hk c hh p he => ⟨(h k hk c hh p he).1, (h k hk c hh p he).2.1⟩
theorem wf_of (hb : ∀ b, b < 8 → u.sta b ≤ 4 ∧ u.sat b < 2 ^ 30) (hs : u.sls < 2 ^ 30) (hr : ∀ r, r < 16 → (∀ c, c ∈ u.row r → CpOk B c) ∧ szs (u.row r) ≤ 12) (hE : EK u.row u) : Wf u := by
  refine ⟨hb, hs, fun r hr' c hc => ?_, fun k hk c hh p he => ?_⟩
  · have := (hr r hr').1 c hc; exact ⟨this.1, this.2.2.1⟩
  · obtain ⟨h1, h2, h3⟩ := hE k hk c hh p he
    have hok := (hr hh (by omega)).1 c (List.mem_of_getElem? h2)
    have hp : p < (u.row hh).length := (List.getElem?_eq_some_iff.mp h2).1
    have := len_szs _ (hr hh (by omega)).1
    have := (hr hh (by omega)).2
    exact ⟨hok.1, h1, by omega, hok.2.2.1⟩
theorem p_M_start (hQ : QM am m v) (hI : Inv B v) (hB : B + 1 < 2 ^ 30) (q : ∀ m', QM am m' (Fstart v).2 → FrM m m' → Rh (some (.int (Fstart v).1)) m') : cp_M_start [.ref (am 0)] m Rh := by
  refine ⟨Nat.le_of_ble_eq_true rfl, fun X hX => ?_⟩
  have L235 : ∀ T, EC T → ∀ n b u m A, b + n = 8 → RM am m A (scV u) → Rv A (scV u) u → Wf u → rbm n b u = T → (∀ m', QM am m' T → FrM m m' → Rh (some (.int (nI (ths T 16 0 0)))) m') → X 235 [(0, .ref (am 0)), (1, .int (nI b))] [] m 0 0 := by
    intro T hT n
    induction n with
    | zero =>
      intro b u m A hb h hv hw e q
      refine eM_start_235 hX ?_
      unfold cM_start_235
      have : b = 8 := by omega
      subst this
      have e : u = T := e
      subst e
      refine xr_iload rfl <| xr_push <| xr_cmpt (Int32.le_refl _) <| xr_aload rfl <| xr_push <| xr_callV (by decide) (by decide) rfl (by decide) h.2.1 <| p_M_count ⟨A, h, hv⟩ hT <| xr_iret ?_
      exact q m ⟨A, h, hv⟩ FrM.rf
    | succ n ih =>
      intro b u m A hb h hv hw e q
      refine eM_start_235 hX ?_
      unfold cM_start_235
      have hb8 : b < 8 := by omega
      have hu := um_le (v := u) (b := b) (u.row b) 0 0 (hw.2.2.1 b (by omega))
      have hl := (hv.2.1 b (by omega)).2
      rw [rbm] at e
      refine xr_iload rfl <| xr_push <| xr_cmpf (nI_ge hb8 (by decide)) <| xr_aload rfl <| xr_iload rfl <| xr_callV (by decide) (by decide) rfl (by decide) h.2.1 <| p_M_used h hv hw hb8 <| xr_if (fun h1 => ?_) (fun h1 => ?_)
      · have h1 : um u b (u.row b) 0 0 = 0 := by
          have h1 : nI (um u b (u.row b) 0 0) ≤ nI 0 := h1
          rw [nI_leI (by omega) (by omega)] at h1; omega
        rw [if_pos h1] at e
        refine zg h 7 (by omega) rfl <| xr_iload rfl <| xr_push <| zs h 7 rfl (by omega) (show b < 16 by omega) (fun m1 h1' f1 => xr_iinc rfl <| xr_jmp rfl ?_)
        rw [nI_1]
        exact ih (b + 1) (u.setR b []) m1 _ (by omega) h1' (hv.uRow0 (b := b)) (hw.setR (fun c hc => by cases hc)) e (fun m' z1 z2 => q m' z1 (f1.tr z2))
      · have h1 : ¬ um u b (u.row b) 0 0 = 0 := fun z => h1 (by rw [z]; exact Int32.le_refl _)
        rw [if_neg h1] at e
        refine zg h 8 (by omega) rfl <| xr_iload rfl <| xr_push <| zs h 8 rfl (by omega) hb8 (fun m1 h1' f1 => xr_iinc rfl <| xr_jmp rfl ?_)
        rw [nI_1]
        exact ih (b + 1) (u.setB b (3, u.sat b, u.wai b)) m1 _ (by omega) h1' (hv.uSta (b := b) (s := 3) (fun x => by omega)) (hw.setB (show 3 ≤ 4 by omega) (hw.1 b hb8).2) e (fun m' z1 z2 => q m' z1 (f1.tr z2))
  have L192 : ∀ T U, EC T → rbm 8 0 U = T → Wf U → ∀ n k u m A, k + n = 16 → RM am m A (scV u) → Rv A (scV u) u → EK u.row u → dxm n k u = U → (∀ m', QM am m' T → FrM m m' → Rh (some (.int (nI (ths T 16 0 0)))) m') → X 192 [(0, .ref (am 0)), (1, .int (nI k))] [] m 0 0 := by
    intro T U hT hU hWU n
    induction n with
    | zero =>
      intro k u m A hk h hv hE e q
      refine eM_start_192 hX ?_
      unfold cM_start_192
      have : k = 16 := by omega
      subst this
      have e : u = U := e
      subst e
      exact xr_iload rfl <| xr_push <| xr_cmpt (Int32.le_refl _) <| xr_push <| xr_istore <| xr_jmp rfl (L235 T hT 8 0 u m A rfl h hv hWU hU q)
    | succ n ih =>
      intro k u m A hk h hv hE e q
      refine eM_start_192 hX ?_
      unfold cM_start_192
      have hk16 : k < 16 := by omega
      rw [dxm] at e
      refine xr_iload rfl <| xr_push <| xr_cmpf (nI_ge hk16 (by decide)) <| zg h 11 (by omega) rfl <| xr_iload rfl <| za h 11 rfl (by omega) hk16 <| ?_
      cases he : u.ent k with
      | none =>
        rw [he] at e
        rw [hv.ent0 hk16 he]
        refine xr_ift (by decide) <| xr_iinc rfl <| xr_jmp rfl ?_
        rw [nI_1]
        exact ih (k + 1) u m A (by omega) h hv hE e q
      | some y =>
        obtain ⟨c, hh, p⟩ := y
        rw [he] at e
        have e : dxm n (k + 1) (if exm c u.clk = true then u.setE k none else u) = U := e
        obtain ⟨g1, g2, g3⟩ := hv.ent1 hE.ec hk16 he
        rw [g1]
        refine xr_iff (nI_pos (by omega)) <| xr_aload rfl <| zg h 11 (by omega) rfl <| xr_iload rfl <| za h 11 rfl (by omega) hk16 <| ?_
        rw [g1]
        refine xr_callV (by decide) (by decide) rfl (by decide) h.2.1 <| p_M_expired h hv (by omega) g3 <| xr_if (fun a1 => ?_) (fun a1 => ?_)
        · rw [bI_0] at a1
          rw [if_neg (by rw [a1]; decide)] at e
          refine xr_iinc rfl <| xr_jmp rfl ?_
          rw [nI_1]
          exact ih (k + 1) u m A (by omega) h hv hE e q
        · have a1 := bI_n0 a1
          rw [if_pos a1] at e
          refine zg h 11 (by omega) rfl <| xr_iload rfl <| xr_push <| zs h 11 rfl (by omega) hk16 (fun m1 h1 f1 => xr_iinc rfl <| xr_jmp rfl ?_)
          rw [nI_1]
          exact ih (k + 1) (u.setE k none) m1 _ (by omega) h1 (hv.uEnt (k := k) (x := none)) hE.setN e (fun m' z1 z2 => q m' z1 (f1.tr z2))
  have L91 : ∀ T U, EC T → rbm 8 0 (dxm 16 0 U) = T → Wf (dxm 16 0 U) → ∀ n d u m A, d + n = 96 → RM am m A (scV u) → Rv A (scV u) u → EK u.row u → (∀ r, r < 16 → ∀ c, c ∈ u.row r → c.key < 16) → sl n d u = U → (∀ m', QM am m' T → FrM m m' → Rh (some (.int (nI (ths T 16 0 0)))) m') → X 91 [(0, .ref (am 0)), (1, .int (nI d))] [] m 0 0 := by
    intro T U hT hU hWU n
    induction n with
    | zero =>
      intro d u m A hd h hv hE hK e q
      refine eM_start_91 hX ?_
      unfold cM_start_91
      have : d = 96 := by omega
      subst this
      have e : u = U := e
      subst e
      exact xr_iload rfl <| xr_push <| xr_cmpt (Int32.le_refl _) <| xr_push <| xr_istore <| xr_jmp rfl (L192 T _ hT hU hWU 16 0 u m A rfl h hv hE rfl q)
    | succ n ih =>
      intro d u m A hd h hv hE hK e q
      refine eM_start_91 hX ?_
      unfold cM_start_91
      have hr16 : d / 12 < 16 := by omega
      have hl := (hv.2.1 (d / 12) hr16).2
      rw [sl] at e
      refine xr_iload rfl <| xr_push <| xr_cmpf (nI_ge (by omega) (by decide)) <| xr_iload rfl <| xr_push <| xr_irem (by decide) <| zg h 7 (by omega) rfl <| xr_iload rfl <| xr_push <| xr_idiv (by decide) <| za h 7 (pk_div (by omega) (by omega) (by omega)) (by omega) hr16 <| ?_
      rw [pk_rem (by omega) (by omega) (by omega), (hv.2.1 (d / 12) hr16).1]
      refine xr_cmp (fun h1 => ?_) (fun h1 => ?_)
      · rw [nI_ltI (by omega) (by omega)] at h1
        obtain ⟨c, hc, -⟩ := drop_at (l := u.row (d / 12)) (p := d % 12) h1
        rw [hc] at e
        have e : sl n (d + 1) (se (sn u c) (d / 12) (d % 12) c) = U := e
        have hck := hK (d / 12) hr16 c (List.mem_of_getElem? hc)
        have J141 : ∀ u m A, RM am m A (scV u) → Rv A (scV u) u → EK u.row u → (∀ r, r < 16 → ∀ c, c ∈ u.row r → c.key < 16) → (u.row (d / 12))[d % 12]? = some c → sl n (d + 1) (se u (d / 12) (d % 12) c) = U → (∀ m', QM am m' T → FrM m m' → Rh (some (.int (nI (ths T 16 0 0)))) m') → cM_start_141 X Rh [(0, .ref (am 0)), (1, .int (nI d))] [] m 0 0 := by
          intro u m A h hv hE hK hc e q
          unfold cM_start_141
          have hm := hv.1 (d / 12) hr16 (d % 12) c hc
          rw [show 12 * (d / 12) + d % 12 = d by omega] at hm
          have hnd : nI d = eI (some (c, d / 12, d % 12)) := by
            show nI d = nI (12 * (d / 12) + d % 12)
            rw [show 12 * (d / 12) + d % 12 = d by omega]
          have hEn : EK u.row (se u (d / 12) (d % 12) c) := se_EK hE (by omega) hc
          have hrow : (se u (d / 12) (d % 12) c).row = u.row := sam_se.1.1
          have fin : ∀ m' A', RM am m' A' (scV (se u (d / 12) (d % 12) c)) → Rv A' (scV (se u (d / 12) (d % 12) c)) (se u (d / 12) (d % 12) c) → FrM m m' → X 91 [(0, .ref (am 0)), (1, .int (nI d + 1))] [] m' 0 0 := by
            intro m' A' h' hv' f'
            rw [nI_1]
            exact ih (d + 1) _ m' A' (by omega) h' hv' (by rw [hrow]; exact hEn) (by rw [hrow]; exact hK) e (fun m'' z1 z2 => q m'' z1 (f'.tr z2))
          refine zg h 1 (by omega) rfl <| xr_iload rfl <| za h 1 rfl (by omega) (show d < 193 by omega) <| ?_
          rw [hm.2.1]
          refine xr_istore <| zg h 11 (by omega) rfl <| xr_iload rfl <| za h 11 rfl (by omega) hck <| ?_
          cases he : u.ent c.key with
          | none =>
            rw [hv.ent0 hck he]
            have hse : se u (d / 12) (d % 12) c = u.setE c.key (some (c, d / 12, d % 12)) := by unfold se; rw [he]
            refine xr_ift (by decide) <| zg h 11 (by omega) rfl <| xr_iload rfl <| xr_iload rfl <| zs h 11 rfl (by omega) hck (fun m1 h1 f1 => xr_iinc rfl <| xr_jmp rfl ?_)
            rw [hnd] at h1
            rw [hse] at fin
            exact fin m1 _ h1 hv.uEnt f1
          | some y =>
            obtain ⟨c2, hh, p⟩ := y
            obtain ⟨g1, g2, g3⟩ := hv.ent1 hE.ec hck he
            rw [g1]
            refine xr_iff (nI_pos (by omega)) <| zg h 6 (by omega) rfl <| zg h 11 (by omega) rfl <| xr_iload rfl <| za h 11 rfl (by omega) hck <| za h 6 g1 (by omega) (show 12 * hh + p < 193 by omega) <| zg h 6 (by omega) rfl <| xr_iload rfl <| za h 6 rfl (by omega) (show d < 193 by omega) <| ?_
            rw [g3.2.2.2.2.2.2, hm.2.2.2.2.2.2]
            refine xr_cmp (fun h3 => ?_) (fun h3 => ?_)
            · have hse : se u (d / 12) (d % 12) c = u := by unfold se; rw [he]; exact if_pos h3
              rw [hse] at fin
              exact xr_iinc rfl <| xr_jmp rfl (fin m A h hv FrM.rf)
            · have hse : se u (d / 12) (d % 12) c = u.setE c.key (some (c, d / 12, d % 12)) := by unfold se; rw [he]; exact if_neg h3
              refine zg h 11 (by omega) rfl <| xr_iload rfl <| xr_iload rfl <| zs h 11 rfl (by omega) hck (fun m1 h1 f1 => xr_iinc rfl <| xr_jmp rfl ?_)
              rw [hnd] at h1
              rw [hse] at fin
              exact fin m1 _ h1 hv.uEnt f1
        have hm := hv.1 (d / 12) hr16 (d % 12) c hc
        rw [show 12 * (d / 12) + d % 12 = d by omega] at hm
        refine zg h 6 (by omega) rfl <| xr_iload rfl <| za h 6 rfl (by omega) (show d < 193 by omega) <| xr_aload rfl <| xr_get h.2.1 rfl <| ?_
        rw [hm.2.2.2.2.2.2]
        refine xr_cmp (fun h2 => ?_) (fun h2 => ?_)
        · have h2 : c.stp < u.nst := h2
          have hsn : sn u c = u := by unfold sn; exact if_neg (Int32.not_le.mpr h2)
          rw [hsn] at e
          exact xr_jmp rfl (J141 u m A h hv hE hK hc e q)
        · have h2 : ¬ c.stp < u.nst := h2
          have hsn : sn u c = nxs u (c.stp + 1) := by unfold sn; exact if_pos (Int32.not_lt.mp h2)
          rw [hsn] at e
          have hv3 := hv.sc (x := (u.clk, c.stp + 1, u.wrt, u.mvd, u.dwn, u.sls))
          refine xr_aload rfl <| zg h 6 (by omega) rfl <| xr_iload rfl <| za h 6 rfl (by omega) (show d < 193 by omega) <| xr_push <| xr_ibin <| ?_
          rw [hm.2.2.2.2.2.2]
          exact xr_put h.2.1 (by simp) rfl rfl rfl <| xr_jmp rfl (J141 (nxs u (c.stp + 1)) _ A (h.upS (scV (nxs u (c.stp + 1)))) hv3 hE hK hc e (fun m' z1 z2 => q m' z1 ((FrM.up h.2.1 rfl).tr z2)))
      · rw [nI_ltI (by omega) (by omega)] at h1
        rw [List.getElem?_eq_none (by omega)] at e
        refine xr_iinc rfl <| xr_jmp rfl ?_
        rw [nI_1]
        exact ih (d + 1) u m A (by omega) h hv hE hK e q
  have L22 : ∀ T W, EC T → rbm 8 0 (dxm 16 0 (sl 96 0 W)) = T → Wf (dxm 16 0 (sl 96 0 W)) → EK W.row W → (∀ r, r < 16 → ∀ c, c ∈ W.row r → c.key < 16) → ∀ n b u m A, b + n = 8 → RM am m A (scV u) → Rv A (scV u) u → rcl n b u = W → (∀ m', QM am m' T → FrM m m' → Rh (some (.int (nI (ths T 16 0 0)))) m') → X 22 [(0, .ref (am 0)), (1, .int (nI b))] [] m 0 0 := by
    intro T W hT hW1 hW2 hW3 hW4 n
    induction n with
    | zero =>
      intro b u m A hb h hv e q
      refine eM_start_22 hX ?_
      unfold cM_start_22
      have : b = 8 := by omega
      subst this
      have e : u = W := e
      subst e
      exact xr_iload rfl <| xr_push <| xr_cmpt (Int32.le_refl _) <| xr_push <| xr_istore <| xr_jmp rfl (L91 T _ hT hW1 hW2 96 0 u m A rfl h hv hW3 hW4 rfl q)
    | succ n ih =>
      intro b u m A hb h hv e q
      refine eM_start_22 hX ?_
      unfold cM_start_22
      have hb8 : b < 8 := by omega
      have hl := (hv.2.1 (8 + b) (by omega)).2
      rw [rcl] at e
      have L30 : ∀ n' p m1 A1, p + n' = (u.row (8 + b)).length → RM am m1 A1 (scV u) → Rvx b A1 (scV u) u → FrM m m1 → (∀ j c, j < p → (u.row (8 + b))[j]? = some c → mcA A1 (12 * b + j) c) → X 30 [(0, .ref (am 0)), (1, .int (nI b)), (2, .int (nI p))] [] m1 0 0 := by
        intro n'
        induction n' with
        | zero =>
          intro p m1 A1 hp h1 hv1 f1 hc
          refine eM_start_30 hX ?_
          unfold cM_start_30
          have : p = (u.row (8 + b)).length := by omega
          subst this
          have hm7 := (hv1.2.1 (8 + b) (by omega) (by omega)).1
          refine xr_iload rfl <| zg h1 7 (by omega) rfl <| xr_push <| xr_iload rfl <| xr_ibin <| za h1 7 (nI_add 8 b) (by omega) (show 8 + b < 16 by omega) <| ?_
          rw [hm7]
          refine xr_cmpt (Int32.le_refl _) <| zg h1 7 (by omega) rfl <| xr_iload rfl <| zg h1 7 (by omega) rfl <| xr_push <| xr_iload rfl <| xr_ibin <| za h1 7 (nI_add 8 b) (by omega) (show 8 + b < 16 by omega) <| ?_
          rw [hm7]
          refine zs h1 7 rfl (by omega) (show b < 16 by omega) (fun m2 h2 f2 => xr_iinc rfl <| xr_jmp rfl ?_)
          rw [nI_1]
          exact ih (b + 1) (u.setR b (u.row (8 + b))) m2 _ (by omega) h2 (hv1.fin (by omega) (fun j c hj => hc j c ((List.getElem?_eq_some_iff.mp hj).1) hj)) e (fun m' z1 z2 => q m' z1 ((f1.tr f2).tr z2))
        | succ n' ih2 =>
          intro p m1 A1 hp h1 hv1 f1 hc
          refine eM_start_30 hX ?_
          unfold cM_start_30
          have hm7 := (hv1.2.1 (8 + b) (by omega) (by omega)).1
          refine xr_iload rfl <| zg h1 7 (by omega) rfl <| xr_push <| xr_iload rfl <| xr_ibin <| za h1 7 (nI_add 8 b) (by omega) (show 8 + b < 16 by omega) <| ?_
          rw [hm7]
          refine xr_cmpf (nI_ge (by omega) (by omega)) <| xr_aload rfl <| xr_push <| xr_push <| xr_iload rfl <| xr_ibin <| xr_ibin <| xr_iload rfl <| xr_ibin <| xr_push <| xr_iload rfl <| xr_ibin <| xr_iload rfl <| xr_ibin <| ?_
          rw [pk_mul, nI_add, nI_add, nI_add, show 96 + 12 * b + p = 12 * (8 + b) + p by omega]
          refine xr_callV (by decide) (by decide) rfl (by decide) h1.2.1 <| p_M_copy h1 (f := 12 * (8 + b) + p) (t := 12 * b + p) (by omega) (by omega) (fun m2 h2 f2 => xr_iinc rfl <| xr_jmp rfl ?_)
          rw [nI_1]
          refine ih2 (p + 1) m2 _ (by omega) h2 (hv1.cp (by omega) (by omega)) (f1.tr f2) (fun j c hj hjc => ?_)
          by_cases hjp : j = p
          · subst hjp
            exact mcA_cpt (hv1.1 (8 + b) (by omega) (by omega) j c hjc)
          · exact mcA_cp (hc j c (by omega) hjc) (by omega)
      exact xr_iload rfl <| xr_push <| xr_cmpf (nI_ge hb8 (by decide)) <| xr_push <| xr_istore <| xr_jmp rfl (L30 _ 0 m A (Nat.zero_add _) h hv.x FrM.rf (fun j c hj => by omega))
  obtain ⟨A, h, hv⟩ := hQ
  refine eM_start_0 hX ?_
  unfold cM_start_0
  unfold Fstart at q
  refine xr_aload rfl <| xr_get h.2.1 rfl <| xr_if (fun a5 => ?_) (fun a5 => ?_)
  · have a5 : v.dwn = false := bI_0.mp a5
    rw [if_pos a5] at q
    exact xr_push <| xr_iret (q m ⟨A, h, hv⟩ FrM.rf)
  · have a5 : v.dwn = true := bI_n0 a5
    rw [if_neg (by rw [a5]; decide)] at q
    have hT := (sta2_inv hI a5 (by omega)).p.ec
    have hE := stm_eq hI.p a5 (by omega)
    obtain ⟨f1, f2, f3, f4, f5⟩ := st3_facts hI.p a5 (by omega)
    have hrows := st1_rows hI.p
    have hEK1 := st1_EK hI.p a5
    have hWf : Wf (st3 v) := by
      refine wf_of (B := B) (fun b hb => ?_) ?_ (by rw [f1]; exact hrows) (by rw [f1]; exact f4)
      · unfold Vt.sta Vt.sat
        rw [f2]
        have := hI.p.blk b hb
        exact ⟨this.1, by have := this.2.1; show v.sat b < _; omega⟩
      · unfold Vt.sls
        rw [f5]
        have := hI.p.bnd.1
        show v.sls < _
        omega
    clear f1 f2 f3 f4 f5
    have hv1 := hv.sc (x := (v.clk, v.nst, v.wrt, v.mvd, false, v.sls))
    have hv2 := hv1.sc (x := (v.clk, 1, v.wrt, v.mvd, false, v.sls))
    have h1 := h.upS (scV (v.setI (v.clk, v.nst, v.wrt, v.mvd, false, v.sls)))
    have h2 := h1.upS (scV (st0 v))
    have fr : FrM m (xm_up (xm_up m (am 0) (moV am (scV (v.setI (v.clk, v.nst, v.wrt, v.mvd, false, v.sls))))) (am 0) (moV am (scV (st0 v)))) := (FrM.up h.2.1 rfl).tr (FrM.up h1.2.1 rfl)
    unfold st3 st2 st1 at hE hWf
    unfold st1 at hEK1 hrows
    generalize sta2 v = T at hT hE q
    refine xr_aload rfl <| xr_push <| xr_put h.2.1 (by simp) rfl rfl rfl <| xr_aload rfl <| xr_push <| xr_put h1.2.1 (by simp) rfl rfl rfl <| xr_push <| xr_istore <| xr_jmp rfl ?_
    exact L22 T (rcl 8 0 (st0 v)) hT hE hWf hEK1 (fun r hr c hc => ((hrows r hr).1 c hc).1) 8 0 (st0 v) _ A rfl h2 hv2 rfl (fun m' z1 z2 => q m' z1 (fr.tr z2))
end
