/-! what each public call answers and does: the common words; the class's public methods -/
def kk (x : Int32) : Nat := x.toNatClampNeg
theorem kk_nI {n : Nat} (h : n < 2 ^ 31) : kk (nI n) = n := nI_clamp h
abbrev badK (x : Int32) : Prop := x < 0 ∨ nI 16 ≤ x
def FIT (v : Vt) : Prop := ∀ c : Cp, c.key < 16 → 1 ≤ c.siz → c.siz ≤ 6 → fit v c
def gW (v : Vt) (c : Cp) : Int32 × Vt := ans v (wri v c) (fun _ => c.gen)
def Fput (v : Vt) (key x size life rule : Int32) : Int32 × Vt :=
  if badK key ∨ size < 1 ∨ nI 6 < size ∨ isL life = false ∨ ¬ -3 ≤ rule then (-1, v)
  else if v.dwn = true then (-2, v)
  else if rlh v (kk key) rule = false then (-3, v)
  else gW v (wrec v (kk key) x (kk size) life)
def Fget (v : Vt) (key : Int32) : Int64 := if badK key then 1099511627776 else if thr v (kk key) = false then 1099511627776 else (match v.ent (kk key) with
  | none => 1099511627776
  | some e => e.1.val.toInt64)
def Ftouch (v : Vt) (key life : Int32) : Int32 × Vt :=
  if badK key ∨ isL life = false then (-1, v)
  else if v.dwn = true then (-2, v)
  else if thr v (kk key) = false then (-4, v)
  else (match v.ent (kk key) with
    | none => (-4, v)
    | some e => gW v (wrec v (kk key) e.1.val e.1.siz life))
def Fremove (v : Vt) (key lasting : Int32) : Int32 × Vt :=
  if badK key then (-1, v)
  else if v.dwn = true then (-2, v)
  else if thr v (kk key) = false then (-4, v)
  else if lasting = 0 then (1, dre v (kk key))
  else ans v (wri v (wtmb v (kk key))) (fun _ => 1)
def evl : Nat → Vt → Nat → Nat × Vt
  | 0, v, a => (a, v)
  | n + 1, v, a => match fte v 16 0 none with
    | none => (a, v)
    | some k => (match wri v (wtmb v k) with
      | .inl _ => (a, v)
      | .inr (_, v1) => evl n v1 (a + 1))
def Fevict (v : Vt) (n : Int32) : Int32 × Vt :=
  if n < 1 ∨ ¬ n ≤ nI 16 then (-1, v) else if v.dwn = true then (-2, v) else (nI (evl (kk n) v 0).1, (evl (kk n) v 0).2)
def Ftick (v : Vt) (n : Int32) : Int32 × Vt :=
  if n < 0 ∨ ¬ n ≤ nI 1000 then (-1, v) else (v.clk + n, v.setI (v.clk + n, v.nst, v.wrt, v.mvd, v.dwn, v.sls))
def swl : Nat → Nat → Vt → Nat → Nat × Vt
  | 0, _, v, a => (a, v)
  | n + 1, k, v, a => if ndl v k = true then swl n (k + 1) (dre v k) (a + 1) else swl n (k + 1) v a
def Fsweep (v : Vt) : Int32 × Vt := if v.dwn = true then (-2, v) else (nI (swl 16 0 v 0).1, (swl 16 0 v 0).2)
def Fseal (v : Vt) : Int32 × Vt := if v.dwn = true then (-2, v) else (match lis v 1 8 0 with
  | none => (0, v)
  | some b => if 3 ≤ cis v 2 8 0 0 then (-5, v) else (1, sealB v b))
def flb : Nat → Vt → Nat → Nat × Vt
  | 0, v, a => (a, v)
  | n + 1, v, a => match lgs v 8 0 none with
    | none => (a, v)
    | some b => flb n (wbk v b) (a + 1)
def addW (v : Vt) (n : Nat) : Vt := v.setI (v.clk, v.nst, v.wrt + nI n, v.mvd, v.dwn, v.sls)
def addM (v : Vt) (n : Nat) : Vt := v.setI (v.clk, v.nst, v.wrt, v.mvd + nI n, v.dwn, v.sls)
def Fflush (v : Vt) (n : Int32) : Int32 × Vt :=
  if n < 1 ∨ ¬ n ≤ nI 3 then (-1, v) else if v.dwn = true then (-2, v) else (nI (flb (kk n) v 0).1, addW (flb (kk n) v 0).2 (flb (kk n) v 0).1)
def Fcompact (v : Vt) (n : Int32) : Int32 × Vt :=
  if n < 1 ∨ ¬ n ≤ nI 12 then (-1, v) else if v.dwn = true then (-2, v) else (match spw v 8 0 none (kk n) with
    | none => (-4, v)
    | some b => (nI (mlc b 12 v 0 0).1, addM (mlc b 12 v 0 0).2 (mlc b 12 v 0 0).1))
def setD (v : Vt) (d : Bool) : Vt := v.setI (v.clk, v.nst, v.wrt, v.mvd, d, v.sls)
def los (v : Vt) : Vt := setD (lsb 8 0 (lse 16 0 v)) true
def Fcrash (v : Vt) (k : Int32) : Int32 × Vt := match lgs v 8 0 none with
  | none => if ¬ k = -1 then (-1, v) else if v.dwn = true then (-2, v) else (1, los v)
  | some t => if ¬ k = -1 ∧ (k < 0 ∨ ¬ k ≤ nI (v.row t).length) then (-1, v) else if v.dwn = true then (-2, v) else if k = -1 then (1, los v) else (1, los (v.setR (8 + t) ((v.row t).take (kk k))))
def sta1 (v : Vt) : Vt := rob 8 0 (dxf 16 0 (nno 8 0 (setD v false)))
def nxs (w : Vt) (g : Int32) : Vt := w.setI (w.clk, g, w.wrt, w.mvd, w.dwn, w.sls)
def sta2 (v : Vt) : Vt := nxs (sta1 v) (gso (sta1 v) 8 0 0 + 1)
def Fstart (v : Vt) : Int32 × Vt := if v.dwn = false then (-2, v) else (nI (ths (sta2 v) 16 0 0), sta2 v)
def Fentry (v : Vt) (key what : Int32) : Int32 :=
  if badK key ∨ what < 0 ∨ ¬ what ≤ nI 6 then -1 else if v.dwn = true then -2 else (match v.ent (kk key) with
    | none => -4
    | some (c, h, p) => if what.toInt = 0 then (if c.tmb = true then nI 2 else 1) else if what.toInt = 1 then c.gen else if what.toInt = 2 then c.voi else if what.toInt = 3 then c.stp else if what.toInt = 4 then nI c.siz else if what.toInt = 5 then nI h else nI p)
def nxt (v : Vt) (key : Int32) : Nat → Nat → Option Nat
  | 0, _ => none
  | n + 1, k => if nI k ≤ key then nxt v key n (k + 1) else (match v.ent k with
    | none => nxt v key n (k + 1)
    | some _ => some k)
def Fnext (v : Vt) (key : Int32) : Int32 := if v.dwn = true then -2 else (match nxt v key 16 0 with
  | none => -4
  | some k => nI k)
def rnk (v : Vt) (key : Int32) : Nat → Nat → Nat → Nat
  | 0, _, a => a
  | n + 1, k, a => if key ≤ nI k then rnk v key n (k + 1) a else (match v.ent k with
    | none => rnk v key n (k + 1) a
    | some _ => rnk v key n (k + 1) (a + 1))
def Frank (v : Vt) (key : Int32) : Int32 := if v.dwn = true then -2 else nI (rnk v key 16 0 0)
def ush (x y : Int32) : Int32 := (x.toUInt32 >>> (y.toUInt32 &&& Int32.toUInt32 31)).toInt32
def bcn (x : Int32) : Int32 :=
  let a := x - (ush x 1 &&& 1431655765)
  let b := (a &&& 858993459) + (ush a (nI 2) &&& 858993459)
  let c := (b + ush b (nI 4)) &&& 252645135
  let d := c + ush c (nI 8)
  let e := d + ush d (nI 16)
  e &&& nI 63
def Fblock (v : Vt) (b what : Int32) : Int32 := if b < 0 ∨ nI 8 ≤ b then -1 else if what.toInt = 0 then nI (v.sta (kk b)) else if what.toInt = 1 then nI (usd v (kk b) 16 0 0) else if what.toInt = 2 then nI (szs (v.row (kk b))) else if what.toInt = 3 then nI (v.row (8 + kk b)).length else if what.toInt = 4 then bcn (v.wai (kk b)) else -1
def Fimage (v : Vt) (b k : Int32) : Int32 := if b < 0 ∨ nI 8 ≤ b then -1 else if k < 0 ∨ nI (v.row (8 + kk b)).length ≤ k then -4 else (match (v.row (8 + kk b))[kk k]? with
  | none => -4
  | some c => c.stp)
def Fcount (v : Vt) (what : Int32) : Int32 := if what.toInt = 0 then nI (ths v 16 0 0) else if what.toInt = 1 then nI (ens v 16 0 0) else if what.toInt = 2 then nI (tbs v 16 0 0) else if what.toInt = 3 then v.clk else if what.toInt = 4 then (if v.dwn = true then 0 else v.nst) else if what.toInt = 5 then v.wrt else if what.toInt = 6 then v.mvd else if what.toInt = 7 then (if v.dwn = true then 1 else 0) else -1
section
variable {ad : Nat → Nat} {m : xm_M} {v : Vt} {K : xm_PT} {ls : xm_L} {st : List Value} {bc bs : Nat} {Rh : Option Value → xm_M → Prop}
theorem badK_not {x : Int32} (h : ¬ badK x) : ∃ j, j < 16 ∧ x = nI j := by
  rcases pk_ix x (n := 16) (by decide) with h1 | h1 | h1
  · exact absurd (Or.inl h1) h
  · exact absurd (Or.inr h1) h
  · exact h1
theorem blk_not {x : Int32} (h : ¬ (x < 0 ∨ nI 8 ≤ x)) : ∃ j, j < 8 ∧ x = nI j := by
  rcases pk_ix x (n := 8) (by decide) with h1 | h1 | h1
  · exact absurd (Or.inl h1) h
  · exact absurd (Or.inr h1) h
  · exact h1
theorem rng_not {x : Int32} {n : Nat} (hn : n < 2 ^ 31) (h0 : ¬ x < 1) (h1 : x ≤ nI n) : ∃ j, 1 ≤ j ∧ j ≤ n ∧ x = nI j := by
  have a0 : ¬ x.toInt < 1 := fun q => h0 (Int32.lt_iff_toInt_lt.mpr (by simpa using q))
  obtain ⟨j, hj, e⟩ := nI_of2 (M := nI n) (nI_toInt hn) (fun q => by have := Int32.lt_iff_toInt_lt.mp q; simp at this; omega) h1
  subst e
  rw [nI_toInt (by omega)] at a0
  exact ⟨j, by omega, hj, rfl⟩
theorem p_V_put (hR : Rep ad m v) (hw : Wf v) (hf : FIT v) {key x size life rule : Int32} (h : ∀ m', Rep ad m' (Fput v key x size life rule).2 → Wf (Fput v key x size life rule).2 → FrC m m' → Rh (some (.int (Fput v key x size life rule).1)) m') : cp_V_put [.ref (ad 0), .int key, .int x, .int size, .int life, .int rule] m Rh := by
  refine ⟨Nat.le_of_ble_eq_true rfl, fun X hX => eV_put_0 hX ?_⟩
  unfold cV_put_0
  have bad : (badK key ∨ size < 1 ∨ nI 6 < size ∨ isL life = false ∨ ¬ -3 ≤ rule) → Rh (some (.int (-1))) m := by
    intro hb
    have := h m
    rw [show Fput v key x size life rule = (-1, v) by simp only [Fput, if_pos hb]] at this
    exact this hR hw FrC.rf
  by_cases hk : badK key
  · exact xr_iload rfl <| xr_callS (by decide) (by decide) rfl (by decide) <| p_V_isKey0 hk <| xr_ift rfl <| xr_push <| xr_iret (bad (Or.inl hk))
  · obtain ⟨k, hk16, rfl⟩ := badK_not hk
    refine xr_iload rfl <| xr_callS (by decide) (by decide) rfl (by decide) <| p_V_isKey hk16 <| xr_iff (by decide) <| xr_iload rfl <| xr_push <| xr_cmp (fun h1 => xr_push <| xr_iret (bad (Or.inr (Or.inl h1)))) (fun h1 => ?_)
    refine xr_iload rfl <| xr_push <| xr_cmp (fun h2 => xr_push <| xr_iret (bad (Or.inr (Or.inr (Or.inl h2))))) (fun h2 => ?_)
    refine xr_iload rfl <| xr_callS (by decide) (by decide) rfl (by decide) <| p_V_isLife <| xr_if (fun h3 => xr_push <| xr_iret (bad (Or.inr (Or.inr (Or.inr (Or.inl (by rwa [bI_0] at h3))))))) (fun h3 => ?_)
    rw [bI_0] at h3
    refine xr_iload rfl <| xr_push <| xr_cmp (fun h4 => ?_) (fun h4 => xr_push <| xr_iret (bad (Or.inr (Or.inr (Or.inr (Or.inr h4))))))
    obtain ⟨s, hs1, hs6, rfl⟩ := rng_not (n := 6) (by decide) h1 (by
      rcases Int32.le_total size (nI 6) with q | q
      · exact q
      · have a1 := Int32.le_iff_toInt_le.mp q
        have a2 : ¬ (nI 6).toInt < size.toInt := fun z => h2 (Int32.lt_iff_toInt_lt.mpr z)
        exact Int32.le_iff_toInt_le.mpr (by omega))
    have nb : ¬ (badK (nI k) ∨ nI s < 1 ∨ nI 6 < nI s ∨ isL life = false ∨ ¬ -3 ≤ rule) := by
      rintro (q | q | q | q | q)
      · exact hk q
      · exact h1 q
      · exact h2 q
      · exact h3 q
      · exact q h4
    simp only [Fput, if_neg nb, kk_nI (show k < 2 ^ 31 by omega), kk_nI (show s < 2 ^ 31 by omega)] at h
    refine xr_aload rfl <| xr_get hR.vt rfl <| xr_if (fun h5 => ?_) (fun h5 => ?_)
    · rw [bI_0] at h5
      simp only [h5, Bool.false_eq_true, if_false] at h
      refine xr_aload rfl <| xr_iload rfl <| xr_iload rfl <| xr_callV (by decide) (by decide) rfl (by decide) hR.vt <| p_V_ruleHolds hR hk16 <| xr_if (fun h6 => ?_) (fun h6 => ?_)
      · rw [bI_0] at h6
        simp only [h6, if_true] at h
        exact xr_push <| xr_iret (h m hR hw FrC.rf)
      · rw [bI_0] at h6
        simp only [h6, if_false] at h
        exact xr_aload rfl <| xr_iload rfl <| xr_iload rfl <| xr_iload rfl <| xr_iload rfl <| xr_callV (by decide) (by decide) rfl (by decide) hR.vt <| p_V_writeRecord hR hw hk16 (hf _ hk16 hs1 hs6) (fun m' hR' hW' hF' => xr_iret (h m' hR' hW' hF'))
    · rw [bI_0] at h5
      have h5 : v.dwn = true := by simpa using h5
      simp only [h5, if_true] at h
      exact xr_push <| xr_iret (h m hR hw FrC.rf)
theorem p_V_get (hR : Rep ad m v) {key : Int32} (h : Rh (some (.long (Fget v key))) m) : cp_V_get [.ref (ad 0), .int key] m Rh := by
  refine ⟨Nat.le_of_ble_eq_true rfl, fun X hX => eV_get_0 hX ?_⟩
  unfold cV_get_0
  by_cases hk : badK key
  · exact xr_iload rfl <| xr_callS (by decide) (by decide) rfl (by decide) <| p_V_isKey0 hk <| xr_ift rfl <| xr_push <| xr_lret (by simpa [Fget, hk] using h)
  · obtain ⟨k, hk16, rfl⟩ := badK_not hk
    simp only [Fget, if_neg hk, kk_nI (show k < 2 ^ 31 by omega)] at h
    refine xr_iload rfl <| xr_callS (by decide) (by decide) rfl (by decide) <| p_V_isKey hk16 <| xr_iff (by decide) <| xr_aload rfl <| xr_iload rfl <| xr_callV (by decide) (by decide) rfl (by decide) hR.vt <| p_V_isThere hR hk16 <| xr_if (fun h1 => ?_) (fun h1 => ?_)
    · rw [bI_0] at h1
      exact xr_push <| xr_lret (by simpa [h1] using h)
    · rw [bI_0] at h1
      have h1 : thr v k = true := by simpa using h1
      cases he : v.ent k with
      | none => simp [thr, he] at h1
      | some e =>
        obtain ⟨c, hh, p⟩ := e
        obtain ⟨q, g1, g2⟩ := hR.e1 hk16 he
        exact q_ent hR hk16 rfl rfl <| xr_get g1 rfl <| xr_get g2 rfl <| xr_i2l <| xr_lret (by simpa [h1, he] using h)
theorem p_V_touch (hR : Rep ad m v) (hw : Wf v) (hf : FIT v) (hz : ∀ k, k < 16 → ∀ c h p, v.ent k = some (c, h, p) → 1 ≤ c.siz) {key life : Int32} (h : ∀ m', Rep ad m' (Ftouch v key life).2 → Wf (Ftouch v key life).2 → FrC m m' → Rh (some (.int (Ftouch v key life).1)) m') : cp_V_touch [.ref (ad 0), .int key, .int life] m Rh := by
  refine ⟨Nat.le_of_ble_eq_true rfl, fun X hX => eV_touch_0 hX ?_⟩
  unfold cV_touch_0
  have bad : (badK key ∨ isL life = false) → Rh (some (.int (-1))) m := by
    intro hb
    have := h m
    rw [show Ftouch v key life = (-1, v) by simp only [Ftouch, if_pos hb]] at this
    exact this hR hw FrC.rf
  by_cases hk : badK key
  · exact xr_iload rfl <| xr_callS (by decide) (by decide) rfl (by decide) <| p_V_isKey0 hk <| xr_ift rfl <| xr_push <| xr_iret (bad (Or.inl hk))
  · obtain ⟨k, hk16, rfl⟩ := badK_not hk
    refine xr_iload rfl <| xr_callS (by decide) (by decide) rfl (by decide) <| p_V_isKey hk16 <| xr_iff (by decide) <| xr_iload rfl <| xr_callS (by decide) (by decide) rfl (by decide) <| p_V_isLife <| xr_if (fun h3 => xr_push <| xr_iret (bad (Or.inr (by rwa [bI_0] at h3)))) (fun h3 => ?_)
    rw [bI_0] at h3
    have nb : ¬ (badK (nI k) ∨ isL life = false) := by
      rintro (q | q)
      · exact hk q
      · exact h3 q
    simp only [Ftouch, if_neg nb, kk_nI (show k < 2 ^ 31 by omega)] at h
    refine xr_aload rfl <| xr_get hR.vt rfl <| xr_if (fun h5 => ?_) (fun h5 => ?_)
    · rw [bI_0] at h5
      simp only [h5, Bool.false_eq_true, if_false] at h
      refine xr_aload rfl <| xr_iload rfl <| xr_callV (by decide) (by decide) rfl (by decide) hR.vt <| p_V_isThere hR hk16 <| xr_if (fun h6 => ?_) (fun h6 => ?_)
      · rw [bI_0] at h6
        simp only [h6, if_true] at h
        exact xr_push <| xr_iret (h m hR hw FrC.rf)
      · rw [bI_0] at h6
        simp only [h6, if_false] at h
        cases he : v.ent k with
        | none => simp [thr, he] at h6
        | some e =>
          obtain ⟨c, hh, p⟩ := e
          obtain ⟨q, g1, g2⟩ := hR.e1 hk16 he
          have hwe := hw.2.2.2 k hk16 c hh p he
          simp only [he] at h
          exact q_ent hR hk16 rfl rfl <| xr_get g1 rfl <| xr_astore <| xr_aload rfl <| xr_iload rfl <| xr_aload rfl <| xr_get g2 rfl <| xr_aload rfl <| xr_get g2 rfl <| xr_iload rfl <| xr_callV (by decide) (by decide) rfl (by decide) hR.vt <| p_V_writeRecord hR hw hk16 (hf _ hk16 (hz k hk16 c hh p he) hwe.2.2.2) (fun m' hR' hW' hF' => xr_iret (h m' hR' hW' hF'))
    · rw [bI_0] at h5
      have h5 : v.dwn = true := by simpa using h5
      simp only [h5, if_true] at h
      exact xr_push <| xr_iret (h m hR hw FrC.rf)
theorem p_V_remove (hR : Rep ad m v) (hw : Wf v) (hf : FIT v) {key la : Int32} (h : ∀ m', Rep ad m' (Fremove v key la).2 → Wf (Fremove v key la).2 → FrC m m' → Rh (some (.int (Fremove v key la).1)) m') : cp_V_remove [.ref (ad 0), .int key, .int la] m Rh := by
  refine ⟨Nat.le_of_ble_eq_true rfl, fun X hX => eV_remove_0 hX ?_⟩
  unfold cV_remove_0
  by_cases hk : badK key
  · have := h m
    rw [show Fremove v key la = (-1, v) by simp only [Fremove, if_pos hk]] at this
    exact xr_iload rfl <| xr_callS (by decide) (by decide) rfl (by decide) <| p_V_isKey0 hk <| xr_ift rfl <| xr_push <| xr_iret (this hR hw FrC.rf)
  · obtain ⟨k, hk16, rfl⟩ := badK_not hk
    simp only [Fremove, if_neg hk, kk_nI (show k < 2 ^ 31 by omega)] at h
    refine xr_iload rfl <| xr_callS (by decide) (by decide) rfl (by decide) <| p_V_isKey hk16 <| xr_iff (by decide) <| xr_aload rfl <| xr_get hR.vt rfl <| xr_if (fun h5 => ?_) (fun h5 => ?_)
    · rw [bI_0] at h5
      simp only [h5, Bool.false_eq_true, if_false] at h
      refine xr_aload rfl <| xr_iload rfl <| xr_callV (by decide) (by decide) rfl (by decide) hR.vt <| p_V_isThere hR hk16 <| xr_if (fun h6 => ?_) (fun h6 => ?_)
      · rw [bI_0] at h6
        simp only [h6, if_true] at h
        exact xr_push <| xr_iret (h m hR hw FrC.rf)
      · rw [bI_0] at h6
        simp only [h6, if_false] at h
        refine xr_iload rfl <| xr_if (fun h7 => ?_) (fun h7 => ?_)
        · simp only [h7, if_true] at h
          exact xr_aload rfl <| xr_iload rfl <| xr_callV (by decide) (by decide) rfl (by decide) hR.vt <| p_V_dropEntry hR hw hk16 (fun m' hR' hW' hF' => xr_push <| xr_iret (h m' hR' hW' hF'))
        · simp only [h7, if_false] at h
          refine xr_aload rfl <| xr_iload rfl <| xr_callV (by decide) (by decide) rfl (by decide) hR.vt <| p_V_writeTombstone hR hw (hf _ hk16 (Nat.le_refl 1) (by show 1 ≤ 6; omega)) (fun e m' he hn hR' hF' => ?_) (fun hh v1 m' he h8 hR' hW' hF' => ?_)
          · simp only [ans, he] at h
            refine xr_istore <| xr_iload rfl <| xr_iff (fun z => ?_) <| xr_iload rfl <| xr_iret (h m' hR' hw hF')
            have a1 := Int32.le_iff_toInt_le.mp z
            have a2 := Int32.lt_iff_toInt_lt.mp hn
            omega
          · simp only [ans, he] at h
            exact xr_istore <| xr_iload rfl <| xr_ift (nI_pos' (by omega)) <| xr_push <| xr_iret (h m' hR' hW' hF')
    · rw [bI_0] at h5
      have h5 : v.dwn = true := by simpa using h5
      simp only [h5, if_true] at h
      exact xr_push <| xr_iret (h m hR hw FrC.rf)
theorem p_V_tick (hR : Rep ad m v) (hw : Wf v) {n : Int32} (h : ∀ m', Rep ad m' (Ftick v n).2 → Wf (Ftick v n).2 → FrC m m' → Rh (some (.int (Ftick v n).1)) m') : cp_V_tick [.ref (ad 0), .int n] m Rh := by
  refine ⟨Nat.le_of_ble_eq_true rfl, fun X hX => eV_tick_0 hX ?_⟩
  unfold cV_tick_0
  refine xr_iload rfl <| xr_if (fun h1 => ?_) (fun h1 => ?_)
  · simp only [Ftick, h1, true_or, if_true] at h
    exact xr_push <| xr_iret (h m hR hw FrC.rf)
  · refine xr_iload rfl <| xr_push <| xr_cmp (fun h2 => ?_) (fun h2 => ?_)
    · simp only [Ftick, h1, h2, not_true, or_self, if_false] at h
      have hR1 := hR.upV (v.clk + n, v.nst, v.wrt, v.mvd, v.dwn, v.sls)
      exact xr_aload rfl <| xr_dup rfl <| xr_get hR.vt rfl <| xr_iload rfl <| xr_ibin <| xr_put hR.vt (by simp) rfl rfl rfl <| xr_aload rfl <| xr_get (xm_up_s _ _ _) rfl <| xr_iret (h _ hR1 (hw.setI hw.2.1) (FrC.up hR.vt rfl))
    · simp only [Ftick, h1, h2, not_false_iff, or_true, if_true] at h
      exact xr_push <| xr_iret (h m hR hw FrC.rf)
end
