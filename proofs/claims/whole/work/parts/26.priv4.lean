/-! the vault's private methods, IV: device, moving, crash, start -/
def wbk (v : Vt) (b : Nat) : Vt := emp (ewf ((v.setR (8 + b) (v.row b)).setB b (3, v.sat b, v.wai b)) b 8 0) b
def spw (v : Vt) : Nat → Nat → Option Nat → Nat → Option Nat
  | 0, _, a, _ => a
  | n + 1, b, a, l => if v.sta b = 3 ∧ usd v b 16 0 0 < l then spw v n (b + 1) (some b) (usd v b 16 0 0) else spw v n (b + 1) a l
def mlc (b : Nat) : Nat → Vt → Nat → Nat → Nat × Vt
  | 0, v, _, a => (a, v)
  | n + 1, v, p, a => match (v.row b)[p]? with
    | none => (a, v)
    | some c => if v.hom c.key = nI b ∧ v.plc c.key = nI p then (match apd v c with
      | .inl _ => (a, v)
      | .inr (_, v1) => mlc b n v1 (p + 1) (a + 1)) else mlc b n v (p + 1) a
def mok (b : Nat) : Nat → Vt → Nat → Prop
  | 0, _, _ => True
  | n + 1, v, p => match (v.row b)[p]? with
    | none => True
    | some c => if v.hom c.key = nI b ∧ v.plc c.key = nI p then fit v c ∧ ∀ h v1, apd v c = .inr (h, v1) → mok b n v1 (p + 1) else mok b n v (p + 1)
def lse : Nat → Nat → Vt → Vt
  | 0, _, v => v
  | n + 1, k, v => lse n (k + 1) (v.setE k none)
def lsb : Nat → Nat → Vt → Vt
  | 0, _, v => v
  | n + 1, b, v => lsb n (b + 1) ((v.setR b []).setB b (0, v.sat b, 0))
def nni (b : Nat) : List Cp → Nat → Vt → Vt
  | [], _, v => v
  | c :: l, p, v => nni b l (p + 1) (match v.ent c.key with
    | none => v.setE c.key (some (c, b, p))
    | some e => if c.stp ≤ e.1.stp then v else v.setE c.key (some (c, b, p)))
def nno : Nat → Nat → Vt → Vt
  | 0, _, v => v
  | n + 1, b, v => nno n (b + 1) (nni b (v.row (8 + b)) 0 v)
def dxf : Nat → Nat → Vt → Vt
  | 0, _, v => v
  | n + 1, k, v => dxf n (k + 1) (match v.ent k with
    | none => v
    | some e => if exq e.1 v.clk = true then v.setE k none else v)
def rob : Nat → Nat → Vt → Vt
  | 0, _, v => v
  | n + 1, b, v => rob n (b + 1) (if hlc v b 16 0 = true then (v.setR b (v.row (8 + b))).setB b (3, v.sat b, v.wai b) else v)
def gso (v : Vt) : Nat → Nat → Int32 → Int32
  | 0, _, a => a
  | n + 1, b, a => gso v n (b + 1) (if a < gst (v.row (8 + b)) 0 then gst (v.row (8 + b)) 0 else a)
theorem usd_le {v : Vt} (hw : Wf v) {b : Nat} : ∀ n k a, k + n = 16 → usd v b n k a ≤ a + 6 * n := by
  intro n
  induction n with
  | zero => intro k a _; simp [usd]
  | succ n ih =>
    intro k a hk
    simp only [usd]
    cases he : v.ent k with
    | none => have := ih (k + 1) a (by omega); simp only; omega
    | some e =>
      obtain ⟨c, hh, p⟩ := e
      have := hw.2.2.2 k (by omega) c hh p he
      simp only
      split
      · have := ih (k + 1) (a + c.siz) (by omega); omega
      · have := ih (k + 1) a (by omega); omega
section
variable {ad : Nat → Nat} {m : xm_M} {v : Vt} {K : xm_PT} {ls : xm_L} {st : List Value} {bc bs : Nat} {Rh : Option Value → xm_M → Prop}
theorem Rep.eN (hR : Rep ad m v) {k : Nat} (hk : k < 16) : Rep ad (xm_up m (ad (60 + k)) (.inr (4, [.null, .int (-1), .int 0]))) (v.setE k none) := by
  have hq : isQ m none ((v.setE k none).cpy k) := by simp [Vt.cpy, Vt.setE_ent, isQ]
  have hR1 := hR.upE hk none hq
  have e1 : enV none (v.setE k none) k = .inr (4, [.null, .int (-1), .int 0]) := by simp [enV, va_rf, Vt.hom, Vt.plc, Vt.setE_ent]
  rw [e1] at hR1
  exact hR1
theorem Rep.eS (hR : Rep ad m v) {k a b p : Nat} {c : Cp} (hk : k < 16) (hc : isC m a c) : Rep ad (xm_up m (ad (60 + k)) (.inr (4, [.ref a, .int (nI b), .int (nI p)]))) (v.setE k (some (c, b, p))) := by
  have hq : isQ m (some a) ((v.setE k (some (c, b, p))).cpy k) := by simp [Vt.cpy, Vt.setE_ent, isQ, hc]
  have hR1 := hR.upE hk (some (c, b, p)) hq
  have e1 : enV (some a) (v.setE k (some (c, b, p))) k = .inr (4, [.ref a, .int (nI b), .int (nI p)]) := by simp [enV, va_rf, Vt.hom, Vt.plc, Vt.setE_ent]
  rw [e1] at hR1
  exact hR1
theorem p_V_writeBlock (hR : Rep ad m v) (hw : Wf v) {b : Nat} (hb : b < 8) (h : ∀ m', Rep ad m' (wbk v b) → Wf (wbk v b) → FrC m m' → Rh none m') : cp_V_writeBlock [.ref (ad 0), .int (nI b)] m Rh := by
  refine ⟨Nat.le_of_ble_eq_true rfl, fun X hX => eV_writeBlock_0 hX ?_⟩
  unfold cV_writeBlock_0
  have hlen := hR.len (r := b) (by omega)
  refine q_blk hR hb rfl rfl <| xr_astore <| xr_aload rfl <| xr_get (hR.bk hb) rfl <| xr_aload rfl <| xr_get (hR.bk hb) rfl <| xr_get (hR.rw (by omega)) rfl <| xr_aload rfl <| xr_get (hR.bk hb) rfl <| xr_callV (by decide) (by decide) rfl (by decide) (hR.rw (r := 8 + b) (by omega)) <| p_R_takeFirst hR (r := 8 + b) (s := b) (by omega) (by omega) (by omega) (by omega) (fun m1 hR1 hF1 => ?_)
  rw [List.take_length] at hR1
  have hW1 : Wf (v.setR (8 + b) (v.row b)) := hw.setR (fun c hc => hw.2.2.1 b (by omega) c hc)
  have hR2 := hR1.upB2 hb (3, v.sat b, v.wai b)
  have hW2 : Wf ((v.setR (8 + b) (v.row b)).setB b (3, v.sat b, v.wai b)) := hW1.setB (x := (3, v.sat b, v.wai b)) (by show 3 ≤ 4; omega) (hw.1 b hb).2
  have hF2 := hF1.tr (FrC.up (e' := .inr (3, [.ref (ad (20 + b)), .ref (ad (20 + (8 + b))), .int (nI 3), .int (nI (v.sat b)), .int (v.wai b)])) (hR1.bk hb) rfl)
  refine xr_aload rfl <| xr_push <| xr_put (hR1.bk hb) (by simp) rfl rfl rfl <| xr_aload rfl <| xr_iload rfl <| xr_callV (by decide) (by decide) rfl (by decide) hR2.vt <| p_V_endWaitsFor hR2 hW2 (fun m3 hR3 hW3 hF3 => ?_)
  exact xr_aload rfl <| xr_iload rfl <| xr_callV (by decide) (by decide) rfl (by decide) hR3.vt <| p_V_emptyIfDead hR3 hW3 hb (fun m4 hR4 hF4 => xr_vret (h m4 hR4 (emp_wf hW3 hb) ((hF2.tr hF3).tr hF4)))
theorem p_V_sparsestWritten (hR : Rep ad m v) (hw : Wf v) {x : Nat} (hx : x ≤ 12) (h : Rh (some (.int (oI (spw v 8 0 none x)))) m) : cp_V_sparsestWritten [.ref (ad 0), .int (nI x)] m Rh := by
  refine ⟨Nat.le_of_ble_eq_true rfl, fun X hX => ?_⟩
  have L : ∀ n b a l, b + n = 8 → l < 2 ^ 31 → Rh (some (.int (oI (spw v n b a l)))) m → X 7 [(0, .ref (ad 0)), (2, .int (oI a)), (3, .int (nI l)), (4, .int (nI b))] [] m 0 0 := by
    intro n
    induction n with
    | zero =>
      intro b a l hb _ h
      have : b = 8 := by omega
      subst this
      refine eV_sparsestWritten_7 hX ?_
      unfold cV_sparsestWritten_7
      exact xr_iload rfl <| xr_push <| xr_cmpt (Int32.le_refl _) <| xr_iload rfl <| xr_iret h
    | succ n ih =>
      intro b a l hb hl h
      refine eV_sparsestWritten_7 hX ?_
      unfold cV_sparsestWritten_7
      have hb8 : b < 8 := by omega
      have h4 := (hw.1 b hb8).1
      have hu := usd_le hw (b := b) 16 0 0 rfl
      refine xr_iload rfl <| xr_push <| xr_cmpf (nI_ge hb8 (by decide)) <| q_blk hR hb8 rfl rfl <| xr_get (hR.bk hb8) rfl <| xr_push <| xr_cmp (fun h1 => ?_) (fun h1 => ?_)
      · rw [nI_eq (by omega) (by omega)] at h1
        refine xr_aload rfl <| xr_iload rfl <| xr_callV (by decide) (by decide) rfl (by decide) hR.vt <| p_V_used hR hw hb8 <| xr_iload rfl <| xr_cmp (fun h2 => ?_) (fun h2 => ?_)
        · rw [nI_leI (by omega) (by omega)] at h2
          refine xr_iinc rfl <| xr_jmp rfl ?_
          rw [nI_1]
          exact ih (b + 1) a l (by omega) hl (by simpa [spw, h1, show ¬ usd v b 16 0 0 < l by omega] using h)
        · rw [nI_leI (by omega) (by omega)] at h2
          refine xr_iload rfl <| xr_istore <| xr_aload rfl <| xr_iload rfl <| xr_callV (by decide) (by decide) rfl (by decide) hR.vt <| p_V_used hR hw hb8 <| xr_istore <| xr_iinc rfl <| xr_jmp rfl ?_
          rw [nI_1]
          exact ih (b + 1) (some b) _ (by omega) (by omega) (by simpa [spw, h1, show usd v b 16 0 0 < l by omega] using h)
      · rw [nI_eq (by omega) (by omega)] at h1
        refine xr_iinc rfl <| xr_jmp rfl ?_
        rw [nI_1]
        exact ih (b + 1) a l (by omega) hl (by simpa [spw, h1] using h)
  refine eV_sparsestWritten_0 hX ?_
  unfold cV_sparsestWritten_0
  exact xr_push <| xr_istore <| xr_iload rfl <| xr_istore <| xr_push <| xr_istore <| xr_jmp rfl (L 8 0 none x rfl (by omega) h)
theorem p_V_moveLiveCopies (hR : Rep ad m v) (hw : Wf v) {b : Nat} (hb : b < 8) (hok : mok b 12 v 0) (h : ∀ m', Rep ad m' (mlc b 12 v 0 0).2 → Wf (mlc b 12 v 0 0).2 → FrC m m' → Rh (some (.int (nI (mlc b 12 v 0 0).1))) m') : cp_V_moveLiveCopies [.ref (ad 0), .int (nI b)] m Rh := by
  refine ⟨Nat.le_of_ble_eq_true rfl, fun X hX => ?_⟩
  have L : ∀ n p a m1 (v1 : Vt), p + n = 12 → Rep ad m1 v1 → Wf v1 → FrC m m1 → mok b n v1 p → (∀ m', Rep ad m' (mlc b n v1 p a).2 → Wf (mlc b n v1 p a).2 → FrC m m' → Rh (some (.int (nI (mlc b n v1 p a).1))) m') → X 15 [(0, .ref (ad 0)), (1, .int (nI b)), (2, .ref (ad (20 + b))), (3, .int (nI a)), (4, .int (nI p))] [] m1 0 0 := by
    intro n
    induction n with
    | zero =>
      intro p a m1 v1 hp hR1 hW1 hF1 _ h
      have : p = 12 := by omega
      subst this
      refine eV_moveLiveCopies_15 hX ?_
      unfold cV_moveLiveCopies_15
      exact xr_iload rfl <| xr_push <| xr_cmpt (Int32.le_refl _) <| xr_iload rfl <| xr_iret (h m1 hR1 hW1 hF1)
    | succ n ih =>
      intro p a m1 v1 hp hR1 hW1 hF1 hok h
      refine eV_moveLiveCopies_15 hX ?_
      unfold cV_moveLiveCopies_15
      have hlen := hR1.len (r := b) (by omega)
      cases hc : (v1.row b)[p]? with
      | none =>
        have hlp : (v1.row b).length ≤ p := List.getElem?_eq_none_iff.mp hc
        simp only [mlc, hc] at h
        exact xr_iload rfl <| xr_push <| xr_cmpf (nI_ge (by omega) (by decide)) <| xr_iload rfl <| xr_aload rfl <| xr_get (hR1.rw (by omega)) rfl <| xr_cmpt (nI_le hlp (by omega)) <| xr_iload rfl <| xr_iret (h m1 hR1 hW1 hF1)
      | some c =>
        have hlp : p < (v1.row b).length := (List.getElem?_eq_some_iff.mp hc).1
        have hck := hW1.2.2.1 b (by omega) c (List.mem_of_getElem? hc)
        simp only [mlc, hc] at h
        simp only [mok, hc] at hok
        refine xr_iload rfl <| xr_push <| xr_cmpf (nI_ge (by omega) (by decide)) <| xr_iload rfl <| xr_aload rfl <| xr_get (hR1.rw (by omega)) rfl <| xr_cmpf (nI_ge hlp (by omega)) <| xr_aload rfl <| xr_iload rfl <| xr_callV (by decide) (by decide) rfl (by decide) (hR1.rw (by omega)) <| p_R_at hR1 (by omega) hc (fun q hq => ?_)
        refine xr_astore <| xr_aload rfl <| xr_nonnull <| xr_aload rfl <| xr_aload rfl <| xr_iload rfl <| xr_iload rfl <| xr_callV (by decide) (by decide) rfl (by decide) hR1.vt <| p_V_isLiveAt hR1 hq hck.1 <| xr_if (fun h1 => ?_) (fun h1 => ?_)
        · rw [bI_0] at h1
          have h1 : ¬ (v1.hom c.key = nI b ∧ v1.plc c.key = nI p) := by simpa using h1
          rw [if_neg h1] at hok
          simp only [if_neg h1] at h
          refine xr_iinc rfl <| xr_jmp rfl ?_
          rw [nI_1]
          exact ih (p + 1) a m1 v1 (by omega) hR1 hW1 hF1 hok h
        · rw [bI_0] at h1
          have h1 : v1.hom c.key = nI b ∧ v1.plc c.key = nI p := by simpa using h1
          rw [if_pos h1] at hok
          simp only [if_pos h1] at h
          refine xr_aload rfl <| xr_aload rfl <| xr_callV (by decide) (by decide) rfl (by decide) hR1.vt <| p_V_append hR1 hW1 hq hok.1 (fun e he => ?_) (fun hh v2 m2 he h8 hR2 hW2 hF2 => ?_) (fun e he => cwr_lt0 he)
          · simp only [he] at h
            have hn := apd_lt0 he
            refine xr_iff (fun z => ?_) <| xr_iload rfl <| xr_iret (h m1 hR1 hW1 hF1)
            have a1 := Int32.le_iff_toInt_le.mp z
            have a2 := Int32.lt_iff_toInt_lt.mp hn
            omega
          · simp only [he] at h
            refine xr_ift (nI_pos' (by omega)) <| xr_iinc rfl <| xr_iinc rfl <| xr_jmp rfl ?_
            rw [nI_1, nI_1]
            exact ih (p + 1) (a + 1) m2 v2 (by omega) hR2 hW2 (hF1.tr hF2) (hok.2 hh v2 he) h
  refine eV_moveLiveCopies_0 hX ?_
  unfold cV_moveLiveCopies_0
  exact q_blk hR hb rfl rfl <| xr_get (hR.bk hb) rfl <| xr_astore <| xr_push <| xr_istore <| xr_push <| xr_istore <| xr_jmp rfl (L 12 0 0 m v rfl hR hw FrC.rf hok h)
theorem p_V_loseMemory (hR : Rep ad m v) (hw : Wf v) (h : ∀ m', Rep ad m' (lsb 8 0 (lse 16 0 v)) → Wf (lsb 8 0 (lse 16 0 v)) → FrC m m' → Rh none m') : cp_V_loseMemory [.ref (ad 0)] m Rh := by
  refine ⟨Nat.le_of_ble_eq_true rfl, fun X hX => ?_⟩
  have L2 : ∀ n b m1 (v1 : Vt), b + n = 8 → Rep ad m1 v1 → Wf v1 → FrC m m1 → (∀ m', Rep ad m' (lsb n b v1) → Wf (lsb n b v1) → FrC m m' → Rh none m') → X 25 [(0, .ref (ad 0)), (1, .int (nI b))] [] m1 0 0 := by
    intro n
    induction n with
    | zero =>
      intro b m1 v1 hb hR1 hW1 hF1 h
      have : b = 8 := by omega
      subst this
      refine eV_loseMemory_25 hX ?_
      unfold cV_loseMemory_25
      exact xr_iload rfl <| xr_push <| xr_cmpt (Int32.le_refl _) <| xr_vret (h m1 hR1 hW1 hF1)
    | succ n ih =>
      intro b m1 v1 hb hR1 hW1 hF1 h
      refine eV_loseMemory_25 hX ?_
      unfold cV_loseMemory_25
      have hb8 : b < 8 := by omega
      have hR2 := hR1.upB2 hb8 (0, v1.sat b, v1.wai b)
      have hF2 := hF1.tr (FrC.up (e' := .inr (3, [.ref (ad (20 + b)), .ref (ad (20 + (8 + b))), .int (nI 0), .int (nI (v1.sat b)), .int (v1.wai b)])) (hR1.bk hb8) rfl)
      refine xr_iload rfl <| xr_push <| xr_cmpf (nI_ge hb8 (by decide)) <| q_blk hR1 hb8 rfl rfl <| xr_push <| xr_put (hR1.bk hb8) (by simp) rfl rfl rfl <| q_blk hR2 hb8 rfl rfl <| xr_get (hR2.bk hb8) rfl <| xr_callV (by decide) (by decide) rfl (by decide) (hR2.rw (by omega)) <| p_R_clear hR2 (by omega) (fun m3 hR3 hF3 => ?_)
      have hR4 := hR3.upB2 hb8 (0, v1.sat b, 0)
      have ev : ((v1.setB b (0, v1.sat b, v1.wai b)).setR b []).setB b (0, v1.sat b, 0) = (v1.setR b []).setB b (0, v1.sat b, 0) := by
        show ((v1.setR b []).setB b (0, v1.sat b, v1.wai b)).setB b (0, v1.sat b, 0) = _
        rw [Vt.setB_set]
      rw [ev] at hR4
      have e5 : ((v1.setB b (0, v1.sat b, v1.wai b)).setR b []).sat b = v1.sat b := by simp [Vt.sat, Vt.blk, Vt.setR, Vt.setB, va_up]
      have e6 : ((v1.setB b (0, v1.sat b, v1.wai b)).setR b []).sta b = 0 := by simp [Vt.sta, Vt.blk, Vt.setR, Vt.setB, va_up]
      refine q_blk hR3 hb8 rfl rfl <| xr_push <| xr_put (hR3.bk hb8) (by simp) rfl rfl rfl <| xr_iinc rfl <| xr_jmp rfl ?_
      rw [nI_1]
      refine ih (b + 1) _ ((v1.setR b []).setB b (0, v1.sat b, 0)) (by omega) ?_ ((hW1.setR (fun c hc => by simp at hc)).setB (x := (0, v1.sat b, 0)) (Nat.zero_le _) (hW1.1 b hb8).2) ((hF2.tr hF3).tr (FrC.up (hR3.bk hb8) rfl)) h
      simp only [List.set_cons_zero, List.set_cons_succ]
      rw [e5, e6]
      exact hR4
  have L1 : ∀ n k m1 (v1 : Vt), k + n = 16 → Rep ad m1 v1 → Wf v1 → FrC m m1 → (∀ m', Rep ad m' (lsb 8 0 (lse n k v1)) → Wf (lsb 8 0 (lse n k v1)) → FrC m m' → Rh none m') → X 2 [(0, .ref (ad 0)), (1, .int (nI k))] [] m1 0 0 := by
    intro n
    induction n with
    | zero =>
      intro k m1 v1 hk hR1 hW1 hF1 h
      have : k = 16 := by omega
      subst this
      refine eV_loseMemory_2 hX ?_
      unfold cV_loseMemory_2
      exact xr_iload rfl <| xr_push <| xr_cmpt (Int32.le_refl _) <| xr_push <| xr_istore <| xr_jmp rfl (L2 8 0 m1 v1 rfl hR1 hW1 hF1 h)
    | succ n ih =>
      intro k m1 v1 hk hR1 hW1 hF1 h
      refine eV_loseMemory_2 hX ?_
      unfold cV_loseMemory_2
      have hk8 : k < 16 := by omega
      obtain ⟨q, g1⟩ := hR1.eh hk8
      refine xr_iload rfl <| xr_push <| xr_cmpf (nI_ge hk8 (by decide)) <| q_ent hR1 hk8 rfl rfl <| xr_callV (by decide) (by decide) rfl (by decide) g1 <| p_E_forget g1 <| xr_iinc rfl <| xr_jmp rfl ?_
      rw [nI_1]
      exact ih (k + 1) _ (v1.setE k none) (by omega) (hR1.eN hk8) (hW1.setE (fun c h p hh => by cases hh)) (hF1.tr (FrC.up g1 rfl)) h
  refine eV_loseMemory_0 hX ?_
  unfold cV_loseMemory_0
  exact xr_push <| xr_istore <| xr_jmp rfl (L1 16 0 m v rfl hR hw FrC.rf h)
theorem p_V_nameNewestCopies (hR : Rep ad m v) (hw : Wf v) (h : ∀ m', Rep ad m' (nno 8 0 v) → Wf (nno 8 0 v) → FrC m m' → Rh none m') : cp_V_nameNewestCopies [.ref (ad 0)] m Rh := by
  refine ⟨Nat.le_of_ble_eq_true rfl, fun X hX => ?_⟩
  have L : ∀ n b m1 (v1 : Vt), b + n = 8 → Rep ad m1 v1 → Wf v1 → FrC m m1 → (∀ m', Rep ad m' (nno n b v1) → Wf (nno n b v1) → FrC m m' → Rh none m') → X 2 [(0, .ref (ad 0)), (1, .int (nI b))] [] m1 0 0 := by
    intro n
    induction n with
    | zero =>
      intro b m1 v1 hb hR1 hW1 hF1 h
      have : b = 8 := by omega
      subst this
      refine eV_nameNewestCopies_2 hX ?_
      unfold cV_nameNewestCopies_2
      exact xr_iload rfl <| xr_push <| xr_cmpt (Int32.le_refl _) <| xr_vret (h m1 hR1 hW1 hF1)
    | succ n ih =>
      intro b m1 v1 hb hR1 hW1 hF1 h
      have hb8 : b < 8 := by omega
      have I : ∀ j p m2 (v2 : Vt), p + j = (v2.row (8 + b)).length → Rep ad m2 v2 → Wf v2 → FrC m m2 → (∀ m', Rep ad m' (nno n (b + 1) (nni b ((v2.row (8 + b)).drop p) p v2)) → Wf (nno n (b + 1) (nni b ((v2.row (8 + b)).drop p) p v2)) → FrC m m' → Rh none m') → X 20 [(0, .ref (ad 0)), (1, .int (nI b)), (2, .ref (ad (20 + (8 + b)))), (3, .int (nI p))] [] m2 0 0 := by
        intro j
        induction j with
        | zero =>
          intro p m2 v2 hp hR2 hW2 hF2 h
          refine eV_nameNewestCopies_20 hX ?_
          unfold cV_nameNewestCopies_20
          have hlen := hR2.len (r := 8 + b) (by omega)
          have : p = (v2.row (8 + b)).length := by omega
          subst this
          refine xr_iload rfl <| xr_aload rfl <| xr_get (hR2.rw (by omega)) rfl <| xr_cmpt (Int32.le_refl _) <| xr_iinc rfl <| xr_jmp rfl ?_
          rw [nI_1]
          exact ih (b + 1) m2 v2 (by omega) hR2 hW2 hF2 (by simpa [nni] using h)
        | succ j ihj =>
          intro p m2 v2 hp hR2 hW2 hF2 h
          refine eV_nameNewestCopies_20 hX ?_
          unfold cV_nameNewestCopies_20
          have hlen := hR2.len (r := 8 + b) (by omega)
          obtain ⟨c, hc, hd⟩ := drop_at (l := v2.row (8 + b)) (p := p) (by omega)
          have hck := hW2.2.2.1 (8 + b) (by omega) c (List.mem_of_getElem? hc)
          rw [hd] at h
          simp only [nni] at h
          refine xr_iload rfl <| xr_aload rfl <| xr_get (hR2.rw (by omega)) rfl <| xr_cmpf (nI_ge (by omega) (by omega)) <| xr_aload rfl <| xr_iload rfl <| xr_callV (by decide) (by decide) rfl (by decide) (hR2.rw (by omega)) <| p_R_at hR2 (by omega) hc (fun q hq => ?_)
          obtain ⟨f, g1, g2⟩ := hR2.ia
          -- the entry names it
          have P : ∀ (g : ∃ q0, m2 (ad (60 + c.key)) = some (.inr (4, [va_rf q0, .int (v2.hom c.key), .int (v2.plc c.key)]))), (∀ m', Rep ad m' (nno n (b + 1) (nni b ((v2.row (8 + b)).drop (p + 1)) (p + 1) (v2.setE c.key (some (c, b, p))))) → Wf (nno n (b + 1) (nni b ((v2.row (8 + b)).drop (p + 1)) (p + 1) (v2.setE c.key (some (c, b, p))))) → FrC m m' → Rh none m') → xo_aload 0 (xo_get 0 1 (xo_aload 4 (xo_get 1 0 (xo_aald ats (xo_aload 4 (xo_iload 1 (xo_iload 3 (xo_callV 4 3 0 0 cp_E_point (xo_iinc 3 1 (xo_jmp [0, 1, 2, 3] (X 20))))))))))) [(4, .ref q), (0, .ref (ad 0)), (1, .int (nI b)), (2, .ref (ad (20 + (8 + b)))), (3, .int (nI p))] [] m2 0 0 := by
            intro ⟨q0, g3⟩ h
            refine xr_aload rfl <| xr_get hR2.vt rfl <| xr_aload rfl <| xr_get hq rfl <| xr_aald g1 rfl rfl hck.1 (by decide) (g2 _ hck.1) <| xr_aload rfl <| xr_iload rfl <| xr_iload rfl <| xr_callV (by decide) (by decide) rfl (by decide) g3 <| p_E_point g3 (xm_ref_r q) <| xr_iinc rfl <| xr_jmp rfl ?_
            rw [nI_1]
            exact ihj (p + 1) _ (v2.setE c.key (some (c, b, p))) (by show p + 1 + j = (v2.row (8 + b)).length; omega) (hR2.eS hck.1 hq) (hW2.setE (fun c' h' p' he => by cases he; exact ⟨hck.1, hb8, by omega, hck.2⟩)) (hF2.tr (FrC.up g3 rfl)) h
          refine xr_astore <| xr_aload rfl <| xr_nonnull <| xr_aload rfl <| xr_aload rfl <| xr_get hR2.vt rfl <| xr_aload rfl <| xr_get hq rfl <| xr_aald g1 rfl rfl hck.1 (by decide) (g2 _ hck.1) <| ?_
          cases he : v2.ent c.key with
          | none =>
            have g3 := hR2.e0 hck.1 he
            simp only [he] at h
            exact xr_get g3 rfl <| xr_callV (by decide) (by decide) rfl (by decide) hq <| p_C_isNewerThan0 hq <| xr_iff (by decide) <| P (hR2.eh hck.1) h
          | some e =>
            obtain ⟨c0, h0, p0⟩ := e
            obtain ⟨q1, g3, g4⟩ := hR2.e1 hck.1 he
            simp only [he] at h
            refine xr_get g3 rfl <| xr_callV (by decide) (by decide) rfl (by decide) hq <| p_C_isNewerThan hq g4 <| xr_if (fun h1 => ?_) (fun h1 => ?_)
            · rw [bI_0] at h1
              have h1 : c.stp ≤ c0.stp := by simpa using h1
              simp only [h1, if_true] at h
              refine xr_iinc rfl <| xr_jmp rfl ?_
              rw [nI_1]
              exact ihj (p + 1) m2 v2 (by omega) hR2 hW2 hF2 h
            · rw [bI_0] at h1
              have h1 : ¬ c.stp ≤ c0.stp := by simpa using h1
              simp only [h1, if_false] at h
              exact P (hR2.eh hck.1) h
      refine eV_nameNewestCopies_2 hX ?_
      unfold cV_nameNewestCopies_2
      exact xr_iload rfl <| xr_push <| xr_cmpf (nI_ge hb8 (by decide)) <| q_blk hR1 hb8 rfl rfl <| xr_get (hR1.bk hb8) rfl <| xr_astore <| xr_push <| xr_istore <| xr_jmp rfl (I _ 0 m1 v1 (Nat.zero_add _) hR1 hW1 hF1 (by simpa [nno] using h))
  refine eV_nameNewestCopies_0 hX ?_
  unfold cV_nameNewestCopies_0
  exact xr_push <| xr_istore <| xr_jmp rfl (L 8 0 m v rfl hR hw FrC.rf h)
theorem p_V_dropExpiredFound (hR : Rep ad m v) (hw : Wf v) (h : ∀ m', Rep ad m' (dxf 16 0 v) → Wf (dxf 16 0 v) → FrC m m' → Rh none m') : cp_V_dropExpiredFound [.ref (ad 0)] m Rh := by
  refine ⟨Nat.le_of_ble_eq_true rfl, fun X hX => ?_⟩
  have L : ∀ n k m1 (v1 : Vt), k + n = 16 → Rep ad m1 v1 → Wf v1 → FrC m m1 → (∀ m', Rep ad m' (dxf n k v1) → Wf (dxf n k v1) → FrC m m' → Rh none m') → X 2 [(0, .ref (ad 0)), (1, .int (nI k))] [] m1 0 0 := by
    intro n
    induction n with
    | zero =>
      intro k m1 v1 hk hR1 hW1 hF1 h
      have : k = 16 := by omega
      subst this
      refine eV_dropExpiredFound_2 hX ?_
      unfold cV_dropExpiredFound_2
      exact xr_iload rfl <| xr_push <| xr_cmpt (Int32.le_refl _) <| xr_vret (h m1 hR1 hW1 hF1)
    | succ n ih =>
      intro k m1 v1 hk hR1 hW1 hF1 h
      refine eV_dropExpiredFound_2 hX ?_
      unfold cV_dropExpiredFound_2
      have hk8 : k < 16 := by omega
      simp only [dxf] at h
      refine xr_iload rfl <| xr_push <| xr_cmpf (nI_ge hk8 (by decide)) <| q_ent hR1 hk8 rfl rfl <| ?_
      cases he : v1.ent k with
      | none =>
        simp only [he] at h
        refine xr_get (hR1.e0 hk8 he) rfl <| xr_astoreq xm_ref_n <| xr_aloadq rfl xm_ref_n <| xr_isnull <| xr_iinc rfl <| xr_jmp rfl ?_
        rw [nI_1]
        exact ih (k + 1) m1 v1 (by omega) hR1 hW1 hF1 h
      | some e =>
        obtain ⟨c, hh, p⟩ := e
        obtain ⟨q, g1, g2⟩ := hR1.e1 hk8 he
        simp only [he] at h
        refine xr_get g1 rfl <| xr_astore <| xr_aload rfl <| xr_nonnull <| xr_aload rfl <| xr_aload rfl <| xr_get hR1.vt rfl <| xr_callV (by decide) (by decide) rfl (by decide) g2 <| p_C_isExpired g2 <| xr_if (fun h1 => ?_) (fun h1 => ?_)
        · rw [bI_0] at h1
          simp only [h1] at h
          refine xr_iinc rfl <| xr_jmp rfl ?_
          rw [nI_1]
          exact ih (k + 1) m1 v1 (by omega) hR1 hW1 hF1 (by simpa using h)
        · rw [bI_0] at h1
          have h1 : exq c v1.clk = true := by simpa using h1
          simp only [h1, if_true] at h
          refine q_ent hR1 hk8 rfl rfl <| xr_callV (by decide) (by decide) rfl (by decide) g1 <| p_E_forget g1 <| xr_iinc rfl <| xr_jmp rfl ?_
          rw [nI_1]
          exact ih (k + 1) _ (v1.setE k none) (by omega) (hR1.eN hk8) (hW1.setE (fun c h p hh => by cases hh)) (hF1.tr (FrC.up g1 rfl)) h
  refine eV_dropExpiredFound_0 hX ?_
  unfold cV_dropExpiredFound_0
  exact xr_push <| xr_istore <| xr_jmp rfl (L 16 0 m v rfl hR hw FrC.rf h)
theorem p_V_reopenBlocks (hR : Rep ad m v) (hw : Wf v) (h : ∀ m', Rep ad m' (rob 8 0 v) → Wf (rob 8 0 v) → FrC m m' → Rh none m') : cp_V_reopenBlocks [.ref (ad 0)] m Rh := by
  refine ⟨Nat.le_of_ble_eq_true rfl, fun X hX => ?_⟩
  have L : ∀ n b m1 (v1 : Vt), b + n = 8 → Rep ad m1 v1 → Wf v1 → FrC m m1 → (∀ m', Rep ad m' (rob n b v1) → Wf (rob n b v1) → FrC m m' → Rh none m') → X 2 [(0, .ref (ad 0)), (1, .int (nI b))] [] m1 0 0 := by
    intro n
    induction n with
    | zero =>
      intro b m1 v1 hb hR1 hW1 hF1 h
      have : b = 8 := by omega
      subst this
      refine eV_reopenBlocks_2 hX ?_
      unfold cV_reopenBlocks_2
      exact xr_iload rfl <| xr_push <| xr_cmpt (Int32.le_refl _) <| xr_vret (h m1 hR1 hW1 hF1)
    | succ n ih =>
      intro b m1 v1 hb hR1 hW1 hF1 h
      refine eV_reopenBlocks_2 hX ?_
      unfold cV_reopenBlocks_2
      have hb8 : b < 8 := by omega
      have hlen := hR1.len (r := 8 + b) (by omega)
      simp only [rob] at h
      refine xr_iload rfl <| xr_push <| xr_cmpf (nI_ge hb8 (by decide)) <| xr_aload rfl <| xr_iload rfl <| xr_callV (by decide) (by decide) rfl (by decide) hR1.vt <| p_V_hasLiveCopy hR1 <| xr_if (fun h1 => ?_) (fun h1 => ?_)
      · rw [bI_0] at h1
        refine xr_iinc rfl <| xr_jmp rfl ?_
        rw [nI_1]
        exact ih (b + 1) m1 v1 (by omega) hR1 hW1 hF1 (by simpa [h1] using h)
      · rw [bI_0] at h1
        have h1 : hlc v1 b 16 0 = true := by simpa using h1
        simp only [h1, if_true] at h
        refine q_blk hR1 hb8 rfl rfl <| xr_get (hR1.bk hb8) rfl <| q_blk hR1 hb8 rfl rfl <| xr_get (hR1.bk hb8) rfl <| xr_get (hR1.rw (r := 8 + b) (by omega)) rfl <| q_blk hR1 hb8 rfl rfl <| xr_get (hR1.bk hb8) rfl <| xr_callV (by decide) (by decide) rfl (by decide) (hR1.rw (r := b) (by omega)) <| p_R_takeFirst hR1 (r := b) (s := 8 + b) (by omega) (by omega) (by omega) (by omega) (fun m2 hR2 hF2 => ?_)
        rw [List.take_length] at hR2
        have hR3 := hR2.upB2 hb8 (3, v1.sat b, v1.wai b)
        refine q_blk hR2 hb8 rfl rfl <| xr_push <| xr_put (hR2.bk hb8) (by simp) rfl rfl rfl <| xr_iinc rfl <| xr_jmp rfl ?_
        rw [nI_1]
        exact ih (b + 1) _ _ (by omega) hR3 ((hW1.setR (fun c hc => hW1.2.2.1 (8 + b) (by omega) c hc)).setB (x := (3, v1.sat b, v1.wai b)) (by show 3 ≤ 4; omega) (hW1.1 b hb8).2) ((hF1.tr hF2).tr (FrC.up (hR2.bk hb8) rfl)) h
  refine eV_reopenBlocks_0 hX ?_
  unfold cV_reopenBlocks_0
  exact xr_push <| xr_istore <| xr_jmp rfl (L 8 0 m v rfl hR hw FrC.rf h)
theorem p_V_greatestStamp (hR : Rep ad m v) (h : Rh (some (.int (gso v 8 0 0))) m) : cp_V_greatestStamp [.ref (ad 0)] m Rh := by
  refine ⟨Nat.le_of_ble_eq_true rfl, fun X hX => ?_⟩
  have L : ∀ n b a, b + n = 8 → Rh (some (.int (gso v n b a))) m → X 4 [(0, .ref (ad 0)), (1, .int a), (2, .int (nI b))] [] m 0 0 := by
    intro n
    induction n with
    | zero =>
      intro b a hb h
      have : b = 8 := by omega
      subst this
      refine eV_greatestStamp_4 hX ?_
      unfold cV_greatestStamp_4
      exact xr_iload rfl <| xr_push <| xr_cmpt (Int32.le_refl _) <| xr_iload rfl <| xr_iret h
    | succ n ih =>
      intro b a hb h
      refine eV_greatestStamp_4 hX ?_
      unfold cV_greatestStamp_4
      have hb8 : b < 8 := by omega
      refine xr_iload rfl <| xr_push <| xr_cmpf (nI_ge hb8 (by decide)) <| xr_iload rfl <| q_blk hR hb8 rfl rfl <| xr_get (hR.bk hb8) rfl <| xr_callV (by decide) (by decide) rfl (Nat.le_of_ble_eq_true rfl) (hR.rw (r := 8 + b) (by omega)) <| p_R_greatestStamp hR (by omega) <| xr_mmax (by decide) <| xr_istore <| xr_iinc rfl <| xr_jmp rfl ?_
      rw [nI_1]
      exact ih (b + 1) _ (by omega) h
  refine eV_greatestStamp_0 hX ?_
  unfold cV_greatestStamp_0
  exact xr_push <| xr_istore <| xr_push <| xr_istore <| xr_jmp rfl (L 8 0 0 rfl h)
end
