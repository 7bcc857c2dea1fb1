/-! the vault's private methods, III: writing -/
def wrec (v : Vt) (k : Nat) (x : Int32) (s : Nat) (life : Int32) : Cp := (k, x, s, (match v.ent k with
  | none => 1
  | some e => if thr v k = true then e.1.gen + 1 else 1), (if life = 0 then 0 else v.clk + life), v.nst, false)
def wtmb (v : Vt) (k : Nat) : Cp := (k, 0, 1, 0, 0, v.nst, true)
/-- what a write answers, and the value behind it -/
def ans (v : Vt) (r : Int32 ⊕ (Nat × Vt)) (ok : Nat → Int32) : Int32 × Vt := match r with
  | .inl e => (e, v)
  | .inr (h, v1) => (ok h, v1)
/-- a COPY that fits into a row -/
def fit (v : Vt) (c : Cp) : Prop := c.key < 16 ∧ c.siz ≤ 6 ∧ v.sls + 1 < 2 ^ 30 ∧ ∀ h v1, cwr v c.siz = .inr (h, v1) → (v1.row h).length < 12
def fte (v : Vt) : Nat → Nat → Option Nat → Option Nat
  | 0, _, a => a
  | n + 1, k, a => fte v n (k + 1) (match v.ent k with
    | none => a
    | some e => if thr v k = true ∧ ¬ e.1.voi ≤ 0 then (match a with
      | none => some k
      | some x => (match v.ent x with
        | none => a
        | some y => if y.1.voi ≤ e.1.voi then a else some k)) else a)
section
variable {ad : Nat → Nat} {m : xm_M} {v : Vt} {K : xm_PT} {ls : xm_L} {st : List Value} {bc bs : Nat} {Rh : Option Value → xm_M → Prop}
theorem apE_wf (hw : Wf v) {c : Cp} {h : Nat} (hk : c.key < 16) (hs : c.siz ≤ 6) (hh : h < 8) (hl : (v.row h).length < 12) : Wf (apE v c h) := by
  refine (hw.setR (r := h) (l := v.row h ++ [c]) (fun d hd => ?_)).setE (fun d h' p he => ?_)
  · rcases List.mem_append.mp hd with hd | hd
    · exact hw.2.2.1 h (by omega) d hd
    · rw [List.mem_singleton.mp hd]; exact ⟨hk, hs⟩
  · cases he; exact ⟨hk, hh, hl, hs⟩
theorem p_V_append (hR : Rep ad m v) (hw : Wf v) {a : Nat} {c : Cp} (hc : isC m a c) (hf : fit v c) (h1 : ∀ e, apd v c = .inl e → Rh (some (.int e)) m) (h2 : ∀ h v1 m', apd v c = .inr (h, v1) → h < 8 → Rep ad m' v1 → Wf v1 → FrC m m' → Rh (some (.int (nI h))) m') (hneg : ∀ e, cwr v c.siz = .inl e → e < 0) : cp_V_append [.ref (ad 0), .ref a] m Rh := by
  refine ⟨Nat.le_of_ble_eq_true rfl, fun X hX => eV_append_0 hX ?_⟩
  obtain ⟨hk, hs, hsl, hlen⟩ := hf
  unfold cV_append_0
  refine xr_aload rfl <| xr_aload rfl <| xr_get hc rfl <| xr_callV (by decide) (by decide) rfl (by decide) hR.vt <| p_V_currentWithRoom hR hw hsl hs (fun e he => ?_) (fun h v1 m1 he hh hR1 hW1 hF1 => ?_)
  · have hn := hneg e he
    refine xr_istore <| xr_iload rfl <| xr_iff (fun q => ?_) <| xr_iload rfl <| xr_iret (h1 e (by simp [apd, he]))
    have a1 := Int32.le_iff_toInt_le.mp q
    have a2 := Int32.lt_iff_toInt_lt.mp hn
    omega
  · have hl := hlen h v1 he
    have hc1 := hc.fr hF1
    obtain ⟨f, g1, g2⟩ := hR1.ia
    obtain ⟨q, g3⟩ := hR1.eh hk
    refine xr_istore <| xr_iload rfl <| xr_ift (nI_pos' (by omega)) <| q_blk hR1 hh rfl rfl <| xr_get (hR1.bk hh) rfl <| xr_astore <| xr_aload rfl <| xr_get hR1.vt rfl <| xr_aload rfl <| xr_get hc1 rfl <| xr_aald g1 rfl rfl hk (by decide) (g2 _ hk) <| xr_astore <| xr_aload rfl <| xr_get g3 rfl <| xr_istore <| xr_aload rfl <| xr_aload rfl <| xr_callV (by decide) (by decide) rfl (by decide) (hR1.rw (by omega)) <| p_R_add hR1 (by omega) hc1 hl (fun m2 hR2 hF2 => ?_)
    have hc2 := hc1.fr hF2
    obtain ⟨q2, g4⟩ := hR2.eh hk
    have hrw : m2 (ad (20 + h)) = some (.inr (2, [.ref (ad (40 + h)), .int (nI ((v1.row h).length + 1))])) := by
      have := hR2.rw (r := h) (by omega)
      rw [Vt.setR_row] at this
      simpa [rwV] using this
    have hq3 : isQ m2 (some a) (((v1.setR h (v1.row h ++ [c])).setE c.key (some (c, h, (v1.row h).length))).cpy c.key) := by simp [Vt.cpy, Vt.setE_ent, isQ, hc2]
    have hR3 := hR2.upE hk (some (c, h, (v1.row h).length)) hq3
    have e3 : enV (some a) ((v1.setR h (v1.row h ++ [c])).setE c.key (some (c, h, (v1.row h).length))) c.key = .inr (4, [.ref a, .int (nI h), .int (nI (v1.row h).length)]) := by simp [enV, va_rf, Vt.hom, Vt.plc, Vt.setE_ent]
    rw [e3] at hR3
    have hR3 : Rep ad _ (apE v1 c h) := hR3
    have hW3 : Wf (apE v1 c h) := apE_wf hW1 hk hs hh hl
    have hF3 : FrC m (xm_up m2 (ad (60 + c.key)) (.inr (4, [.ref a, .int (nI h), .int (nI (v1.row h).length)]))) := (hF1.tr hF2).tr (FrC.up g4 rfl)
    refine xr_aload rfl <| xr_aload rfl <| xr_iload rfl <| xr_aload rfl <| xr_get hrw rfl <| xr_push <| xr_ibin <| ?_
    rw [nI_pred]
    refine xr_callV (by decide) (by decide) rfl (by decide) g4 <| p_E_point g4 (xm_ref_r a) <| ?_
    cases he1 : v1.ent c.key with
    | none =>
      have hv : v1.hom c.key = -1 := by simp [Vt.hom, he1]
      refine xr_aload rfl <| xr_iload rfl <| xr_callV (by decide) (by decide) rfl (by decide) hR3.vt <| ?_
      rw [hv]
      exact p_V_emptyIfDead0 <| xr_iload rfl <| xr_iret (h2 h (apE v1 c h) _ (by simp [apd, he, he1]) hh hR3 hW3 hF3)
    | some e =>
      obtain ⟨c0, h0, p0⟩ := e
      have hv : v1.hom c.key = nI h0 := by simp [Vt.hom, he1]
      have hwe := hW1.2.2.2 c.key hk c0 h0 p0 he1
      refine xr_aload rfl <| xr_iload rfl <| xr_callV (by decide) (by decide) rfl (by decide) hR3.vt <| ?_
      rw [hv]
      exact p_V_emptyIfDead hR3 hW3 hwe.2.1 (fun m4 hR4 hF4 => xr_iload rfl <| xr_iret (h2 h (emp (apE v1 c h) h0) m4 (by simp [apd, he, he1]) hh hR4 (emp_wf hW3 hwe.2.1) (hF3.tr hF4)))
theorem cwr_neg {s : Nat} {e : Int32} (h : cwr v s = .inl e) : e = -5 ∨ e = -6 := by
  unfold cwr at h
  split at h
  · split at h
    · cases h
    · split at h
      · cases h; exact Or.inl rfl
      · split at h
        · cases h; exact Or.inr rfl
        · cases h
  · split at h
    · cases h; exact Or.inr rfl
    · cases h
theorem cwr_lt0 {s : Nat} {e : Int32} (h : cwr v s = .inl e) : e < 0 := by rcases cwr_neg h with rfl | rfl <;> decide
theorem apd_lt0 {c : Cp} {e : Int32} (h : apd v c = .inl e) : e < 0 := by
  unfold apd at h
  split at h
  · rename_i e' he; cases h; exact cwr_lt0 he
  · cases h
theorem inc1_rep {m1 : xm_M} (hR : Rep ad m1 v) : Rep ad (xm_up m1 (ad 0) (vtV ad (inc1 v))) (inc1 v) := hR.upV _
theorem inc1_wf (hw : Wf v) : Wf (inc1 v) := hw.setI hw.2.1
theorem p_V_write (hR : Rep ad m v) (hw : Wf v) {a : Nat} {c : Cp} (hc : isC m a c) (hf : fit v c) (h1 : ∀ e, wri v c = .inl e → e < 0 → Rh (some (.int e)) m) (h2 : ∀ h v1 m', wri v c = .inr (h, v1) → h < 8 → Rep ad m' v1 → Wf v1 → FrC m m' → Rh (some (.int (nI h))) m') : cp_V_write [.ref (ad 0), .ref a] m Rh := by
  refine ⟨Nat.le_of_ble_eq_true rfl, fun X hX => eV_write_0 hX ?_⟩
  unfold cV_write_0
  refine xr_aload rfl <| xr_aload rfl <| xr_callV (by decide) (by decide) rfl (by decide) hR.vt <| p_V_append hR hw hc hf (fun e he => ?_) (fun h v1 m1 he hh hR1 hW1 hF1 => ?_) (fun e he => cwr_lt0 he)
  · exact xr_istore <| xr_iload rfl <| xr_ift (apd_lt0 he) <| xr_iload rfl <| xr_iret (h1 e (by simp [wri, he]) (apd_lt0 he))
  · refine xr_istore <| xr_iload rfl <| xr_iff (nI_pos (by omega)) <| xr_aload rfl <| xr_dup rfl <| xr_get hR1.vt rfl <| xr_push <| xr_ibin <| xr_put hR1.vt (by simp) rfl rfl rfl <| xr_iload rfl <| xr_iret ?_
    exact h2 h (inc1 v1) _ (by simp [wri, he]) hh (inc1_rep hR1) (inc1_wf hW1) (hF1.tr (FrC.up hR1.vt rfl))
theorem p_V_writeRecord (hR : Rep ad m v) (hw : Wf v) {k s : Nat} {x life : Int32} (hk : k < 16) (hf : fit v (wrec v k x s life)) (h : ∀ m', Rep ad m' (ans v (wri v (wrec v k x s life)) (fun _ => (wrec v k x s life).gen)).2 → Wf (ans v (wri v (wrec v k x s life)) (fun _ => (wrec v k x s life).gen)).2 → FrC m m' → Rh (some (.int (ans v (wri v (wrec v k x s life)) (fun _ => (wrec v k x s life).gen)).1)) m') : cp_V_writeRecord [.ref (ad 0), .int (nI k), .int x, .int (nI s), .int life] m Rh := by
  refine ⟨Nat.le_of_ble_eq_true rfl, fun X hX => eV_writeRecord_0 hX ?_⟩
  have J44 : cV_writeRecord_44 X Rh [(0, .ref (ad 0)), (1, .int (nI k)), (2, .int x), (3, .int (nI s)), (5, .int (wrec v k x s life).gen)] [.int (wrec v k x s life).voi] m 1 7 := by
    unfold cV_writeRecord_44
    refine xr_istore <| xr_aload rfl <| xr_new (by decide) (by decide) (fun q hq => ?_)
    have hR1 := hR.new (e := .inr (1, [.int 0, .int 0, .int 0, .int 0, .int 0, .int 0, .int 0])) hq
    refine xr_dup rfl <| xr_iload rfl <| xr_iload rfl <| xr_iload rfl <| xr_iload rfl <| xr_iload rfl <| xr_aload rfl <| xr_get hR1.vt rfl <| xr_push <| xr_callI (by decide) (by decide) rfl (Nat.le_of_ble_eq_true rfl) <| p_C_init (c := wrec v k x s life) (xm_up_s _ _ _) <| ?_
    rw [xm_uu]
    have hR2 := hR.new (e := cpV (wrec v k x s life)) hq
    have hF2 : FrC m (xm_up m q (cpV (wrec v k x s life))) := FrC.new hq
    refine xr_callV (by decide) (by decide) rfl (Nat.le_of_ble_eq_true rfl) hR2.vt <| p_V_write hR2 hw (xm_up_s _ _ _) hf (fun e he hn => ?_) (fun hh v1 m3 he h8 hR3 hW3 hF3 => ?_)
    · refine xr_istore <| xr_iload rfl <| xr_iff (fun q => ?_) <| xr_iload rfl <| xr_iret ?_
      · have a1 := Int32.le_iff_toInt_le.mp q
        have a2 := Int32.lt_iff_toInt_lt.mp hn
        omega
      · have := h (xm_up m q (cpV (wrec v k x s life)))
        simp only [ans, he] at this
        exact this hR2 hw hF2
    · refine xr_istore <| xr_iload rfl <| xr_ift (nI_pos' (by omega)) <| xr_iload rfl <| xr_iret ?_
      have := h m3
      simp only [ans, he] at this
      exact this hR3 hW3 (hF2.tr hF3)
  have J26 : cV_writeRecord_26 X Rh [(0, .ref (ad 0)), (1, .int (nI k)), (2, .int x), (3, .int (nI s)), (4, .int life)] [.int (wrec v k x s life).gen] m 1 7 := by
    unfold cV_writeRecord_26
    refine xr_istore <| xr_iload rfl <| xr_if (fun h1 => ?_) (fun h1 => ?_)
    · refine xr_push <| xr_jmp rfl ?_
      have := J44
      rw [show (wrec v k x s life).voi = 0 by simp [wrec, Cp.voi, h1]] at this
      exact this
    · refine xr_aload rfl <| xr_get hR.vt rfl <| xr_iload rfl <| xr_ibin <| xr_jmp rfl ?_
      have := J44
      rw [show (wrec v k x s life).voi = v.clk + life by simp [wrec, Cp.voi, h1]] at this
      exact this
  unfold cV_writeRecord_0
  refine xr_aload rfl <| xr_iload rfl <| xr_callV (by decide) (by decide) rfl (by decide) hR.vt <| p_V_isThere hR hk <| xr_if (fun h1 => ?_) (fun h1 => ?_)
  · rw [bI_0] at h1
    refine xr_push <| xr_jmp rfl ?_
    have := J26
    rw [show (wrec v k x s life).gen = 1 by cases he : v.ent k <;> simp [wrec, Cp.gen, h1, he]] at this
    exact this
  · rw [bI_0] at h1
    have h1 : thr v k = true := by simpa using h1
    cases he : v.ent k with
    | none => simp [thr, he] at h1
    | some e =>
      obtain ⟨c, hh, p⟩ := e
      obtain ⟨q, g1, g2⟩ := hR.e1 hk he
      refine q_ent hR hk rfl rfl <| xr_get g1 rfl <| xr_get g2 rfl <| xr_push <| xr_ibin <| xr_jmp rfl ?_
      have := J26
      rw [show (wrec v k x s life).gen = c.gen + 1 by simp only [wrec, he, h1]; rfl] at this
      exact this
theorem p_V_writeTombstone (hR : Rep ad m v) (hw : Wf v) {k : Nat} (hf : fit v (wtmb v k)) (h1 : ∀ e m', wri v (wtmb v k) = .inl e → e < 0 → Rep ad m' v → FrC m m' → Rh (some (.int e)) m') (h2 : ∀ h v1 m', wri v (wtmb v k) = .inr (h, v1) → h < 8 → Rep ad m' v1 → Wf v1 → FrC m m' → Rh (some (.int (nI h))) m') : cp_V_writeTombstone [.ref (ad 0), .int (nI k)] m Rh := by
  refine ⟨Nat.le_of_ble_eq_true rfl, fun X hX => eV_writeTombstone_0 hX ?_⟩
  unfold cV_writeTombstone_0
  refine xr_aload rfl <| xr_new (by decide) (by decide) (fun q hq => ?_)
  have hR1 := hR.new (e := .inr (1, [.int 0, .int 0, .int 0, .int 0, .int 0, .int 0, .int 0])) hq
  refine xr_dup rfl <| xr_iload rfl <| xr_push <| xr_push <| xr_push <| xr_push <| xr_aload rfl <| xr_get hR1.vt rfl <| xr_push <| xr_callI (by decide) (by decide) rfl (Nat.le_of_ble_eq_true rfl) <| p_C_init (c := wtmb v k) (xm_up_s _ _ _) <| ?_
  rw [xm_uu]
  have hR2 := hR.new (e := cpV (wtmb v k)) hq
  have hF2 : FrC m (xm_up m q (cpV (wtmb v k))) := FrC.new hq
  exact xr_callV (by decide) (by decide) rfl (Nat.le_of_ble_eq_true rfl) hR2.vt <| p_V_write hR2 hw (xm_up_s _ _ _) hf (fun e he hn => xr_iret (h1 e _ he hn hR2 hF2)) (fun hh v1 m3 he h8 hR3 hW3 hF3 => xr_iret (h2 hh v1 m3 he h8 hR3 hW3 (hF2.tr hF3)))
theorem fte_lt : ∀ n k a x, (∀ y, a = some y → y < k) → fte v n k a = some x → x < k + n := by
  intro n
  induction n with
  | zero => intro k a x ha h; exact ha x h
  | succ n ih =>
    intro k a x ha h
    simp only [fte] at h
    have := ih (k + 1) _ x ?_ h
    · omega
    · intro y hy
      split at hy
      · have := ha y hy; omega
      · split at hy
        · split at hy
          · cases hy; omega
          · split at hy
            · have := ha y hy; omega
            · split at hy
              · have := ha y hy; omega
              · cases hy; omega
        · have := ha y hy; omega
theorem p_V_firstToExpire (hR : Rep ad m v) (h : Rh (some (.int (oI (fte v 16 0 none)))) m) : cp_V_firstToExpire [.ref (ad 0)] m Rh := by
  refine ⟨Nat.le_of_ble_eq_true rfl, fun X hX => ?_⟩
  have L : ∀ n k a, k + n = 16 → (∀ x, a = some x → x < 16 ∧ ∃ e, v.ent x = some e) → Rh (some (.int (oI (fte v n k a)))) m → X 4 [(0, .ref (ad 0)), (1, .int (oI a)), (2, .int (nI k))] [] m 0 0 := by
    intro n
    induction n with
    | zero =>
      intro k a hk ha h
      have : k = 16 := by omega
      subst this
      refine eV_firstToExpire_4 hX ?_
      unfold cV_firstToExpire_4
      exact xr_iload rfl <| xr_push <| xr_cmpt (Int32.le_refl _) <| xr_iload rfl <| xr_iret h
    | succ n ih =>
      intro k a hk ha h
      refine eV_firstToExpire_4 hX ?_
      unfold cV_firstToExpire_4
      have hk8 : k < 16 := by omega
      refine xr_iload rfl <| xr_push <| xr_cmpf (nI_ge hk8 (by decide)) <| xr_aload rfl <| xr_iload rfl <| xr_callV (by decide) (by decide) rfl (by decide) hR.vt <| p_V_isThere hR hk8 <| xr_if (fun h1 => ?_) (fun h1 => ?_)
      · rw [bI_0] at h1
        refine xr_iinc rfl <| xr_jmp rfl ?_
        rw [nI_1]
        exact ih (k + 1) a (by omega) ha (by cases he : v.ent k <;> simpa [fte, h1, he] using h)
      · rw [bI_0] at h1
        have h1 : thr v k = true := by simpa using h1
        cases he : v.ent k with
        | none => simp [thr, he] at h1
        | some e =>
          obtain ⟨c, hh, p⟩ := e
          obtain ⟨q, g1, g2⟩ := hR.e1 hk8 he
          refine q_ent hR hk8 rfl rfl <| xr_get g1 rfl <| xr_get g2 rfl <| xr_if (fun h2 => ?_) (fun h2 => ?_)
          · refine xr_iinc rfl <| xr_jmp rfl ?_
            rw [nI_1]
            exact ih (k + 1) a (by omega) ha (by simpa [fte, h1, he, h2] using h)
          · cases a with
            | none =>
              refine xr_iload rfl <| xr_push <| xr_cmpt rfl <| xr_iload rfl <| xr_istore <| xr_iinc rfl <| xr_jmp rfl ?_
              rw [nI_1]
              exact ih (k + 1) (some k) (by omega) (fun x hx => by cases hx; exact ⟨hk8, _, he⟩) (by simpa [fte, h1, he, h2] using h)
            | some x =>
              obtain ⟨hx8, ⟨c2, h2', p2⟩, hxe⟩ := ha x rfl
              obtain ⟨q2, g3, g4⟩ := hR.e1 hx8 hxe
              refine xr_iload rfl <| xr_push <| xr_cmpf (nI_m1 (by omega)) <| q_ent hR hk8 rfl rfl <| xr_get g1 rfl <| xr_get g2 rfl <| q_ent hR hx8 rfl rfl <| xr_get g3 rfl <| xr_get g4 rfl <| xr_cmp (fun h3 => ?_) (fun h3 => ?_)
              · refine xr_iinc rfl <| xr_jmp rfl ?_
                rw [nI_1]
                exact ih (k + 1) (some x) (by omega) ha (by simpa [fte, h1, he, h2, hxe, h3] using h)
              · refine xr_iload rfl <| xr_istore <| xr_iinc rfl <| xr_jmp rfl ?_
                rw [nI_1]
                exact ih (k + 1) (some k) (by omega) (fun x hx => by cases hx; exact ⟨hk8, _, he⟩) (by simpa [fte, h1, he, h2, hxe, h3] using h)
  refine eV_firstToExpire_0 hX ?_
  unfold cV_firstToExpire_0
  exact xr_push <| xr_istore <| xr_push <| xr_istore <| xr_jmp rfl (L 16 0 none rfl (fun x hx => by cases hx) h)
end
