/-! the vault's private methods -/
theorem nI_m1 {n : Nat} (h : n < 2 ^ 31) : ¬ nI n = -1 := by
  intro q
  have a := nI_toInt h
  rw [q] at a
  have b : (-1 : Int32).toInt = -1 := by decide
  omega
theorem oI_m1 {o : Option Nat} (h : ∀ x, o = some x → x < 2 ^ 31) : oI o = -1 ↔ o = none := by
  cases o with
  | none => simp [oI]
  | some x => simp [oI, nI_m1 (h x rfl)]
theorem bkV_set (ad : Nat → Nat) (v : Vt) (b : Nat) (x : Bk) : bkV ad (v.setB b x) b = .inr (3, [.ref (ad (20 + b)), .ref (ad (20 + (8 + b))), .int (nI x.1), .int (nI x.2.1), .int x.2.2]) := by
  simp [bkV, Vt.sta, Vt.sat, Vt.wai, Vt.blk, Vt.setB, va_up]
theorem Vt.setB_set (v : Vt) (b : Nat) (x y : Bk) : (v.setB b x).setB b y = v.setB b y := by
  simp only [Vt.setB]
  congr 2
  funext j
  by_cases h : j = b <;> simp [va_up, h]
theorem Vt.setB_blk (v : Vt) (b : Nat) (x : Bk) : (v.setB b x).blk b = x := by simp [Vt.setB, Vt.blk, va_up]
theorem Vt.setB_ne (v : Vt) {b c : Nat} (x : Bk) (h : c ≠ b) : (v.setB b x).blk c = v.blk c := by simp [Vt.setB, Vt.blk, va_up, h]
theorem Vt.setE_ent (v : Vt) (k : Nat) (x : En) : (v.setE k x).ent k = x := by simp [Vt.setE, Vt.ent, va_up]
theorem Vt.setE_ne (v : Vt) {k j : Nat} (x : En) (h : j ≠ k) : (v.setE k x).ent j = v.ent j := by simp [Vt.setE, Vt.ent, va_up, h]
theorem Rep.upB2 {ad : Nat → Nat} {m : xm_M} {v : Vt} (h : Rep ad m v) {b : Nat} (hb : b < 8) (x : Bk) : Rep ad (xm_up m (ad (10 + b)) (.inr (3, [.ref (ad (20 + b)), .ref (ad (20 + (8 + b))), .int (nI x.1), .int (nI x.2.1), .int x.2.2]))) (v.setB b x) := by
  have := h.upB hb x
  rw [bkV_set] at this
  exact this
theorem Wf.setB {v : Vt} (h : Wf v) {b : Nat} {x : Bk} (h1 : x.1 ≤ 4) (h2 : x.2.1 < 2 ^ 30) : Wf (v.setB b x) := by
  refine ⟨fun c hc => ?_, h.2.1, h.2.2.1, h.2.2.2⟩
  by_cases hcb : c = b
  · subst hcb; simp only [Vt.sta, Vt.sat, Vt.setB_blk]; exact ⟨h1, h2⟩
  · simp only [Vt.sta, Vt.sat, Vt.setB_ne _ _ hcb]; exact h.1 c hc
theorem Wf.setR {v : Vt} (h : Wf v) {r : Nat} {l : List Cp} (hl : ∀ c, c ∈ l → c.key < 16 ∧ c.siz ≤ 6) : Wf (v.setR r l) := by
  refine ⟨h.1, h.2.1, fun s hs c hc => ?_, h.2.2.2⟩
  by_cases hsr : s = r
  · subst hsr; rw [Vt.setR_row] at hc; exact hl c hc
  · rw [Vt.setR_ne _ _ hsr] at hc; exact h.2.2.1 s hs c hc
theorem Wf.setE {v : Vt} (h : Wf v) {k : Nat} {x : En} (hx : ∀ c h p, x = some (c, h, p) → c.key < 16 ∧ h < 8 ∧ p < 12 ∧ c.siz ≤ 6) : Wf (v.setE k x) := by
  refine ⟨h.1, h.2.1, h.2.2.1, fun j hj c hh p he => ?_⟩
  by_cases hjk : j = k
  · subst hjk; rw [Vt.setE_ent] at he; exact hx c hh p he
  · rw [Vt.setE_ne _ _ hjk] at he; exact h.2.2.2 j hj c hh p he
theorem Wf.setI {v : Vt} (h : Wf v) {x : Int32 × Int32 × Int32 × Int32 × Bool × Nat} (hx : x.2.2.2.2.2 < 2 ^ 30) : Wf (v.setI x) := ⟨h.1, hx, h.2.2.1, h.2.2.2⟩
def lgs (v : Vt) : Nat → Nat → Option Nat → Option Nat
  | 0, _, a => a
  | n + 1, b, a => lgs v n (b + 1) (if v.sta b = 2 then (match a with
    | none => some b
    | some x => if v.sat x ≤ v.sat b then some x else some b) else a)
def hlc (v : Vt) (b : Nat) : Nat → Nat → Bool
  | 0, _ => false
  | n + 1, k => decide (v.hom k = nI b) || hlc v b n (k + 1)
def usd (v : Vt) (b : Nat) : Nat → Nat → Nat → Nat
  | 0, _, a => a
  | n + 1, k, a => usd v b n (k + 1) (match v.ent k with
    | none => a
    | some e => if e.2.1 = b then a + e.1.siz else a)
def unw (v : Vt) : Nat → Nat → Int32 → Int32
  | 0, _, s => s
  | n + 1, b, s => unw v n (b + 1) (if v.sta b = 1 ∨ v.sta b = 2 then s ||| (1 <<< (nI b &&& 31)) else s)
def frw (v : Vt) (b : Nat) : Vt := if v.sta b = 4 ∧ v.wai b = 0 then v.setB b (0, v.sat b, v.wai b) else v
def sealB (v : Vt) (b : Nat) : Vt := (v.setB b (2, v.sls, v.wai b)).setI (v.clk, v.nst, v.wrt, v.mvd, v.dwn, v.sls + 1)
def ewf (v : Vt) (b : Nat) : Nat → Nat → Vt
  | 0, _ => v
  | n + 1, w => ewf (frw (v.setB w (v.sta w, v.sat w, v.wai w &&& ((1 <<< (nI b &&& 31)) ^^^ (-1)))) w) b n (w + 1)
def emd (v : Vt) (b : Nat) : Vt := (v.setR b []).setB b (4, v.sat b, v.wai b)
def emp (v : Vt) (b : Nat) : Vt := if v.sta b = 3 ∧ hlc v b 16 0 = false then frw ((emd v b).setB b (4, v.sat b, unw (emd v b) 8 0 0)) b else v
def dre (v : Vt) (k : Nat) : Vt := match v.ent k with
  | none => v.setE k none
  | some e => emp (v.setE k none) e.2.1
def ths (v : Vt) : Nat → Nat → Nat → Nat
  | 0, _, a => a
  | n + 1, k, a => ths v n (k + 1) (if thr v k = true then a + 1 else a)
def ens (v : Vt) : Nat → Nat → Nat → Nat
  | 0, _, a => a
  | n + 1, k, a => ens v n (k + 1) (match v.ent k with
    | none => a
    | some _ => a + 1)
def tbs (v : Vt) : Nat → Nat → Nat → Nat
  | 0, _, a => a
  | n + 1, k, a => tbs v n (k + 1) (match v.ent k with
    | none => a
    | some e => if e.1.tmb = true then a + 1 else a)
section
variable {ad : Nat → Nat} {m : xm_M} {v : Vt} {K : xm_PT} {ls : xm_L} {st : List Value} {bc bs : Nat} {Rh : Option Value → xm_M → Prop}
theorem p_V_longestSealed (hR : Rep ad m v) (hw : Wf v) (h : Rh (some (.int (oI (lgs v 8 0 none)))) m) : cp_V_longestSealed [.ref (ad 0)] m Rh := by
  refine ⟨Nat.le_of_ble_eq_true rfl, fun X hX => ?_⟩
  have L : ∀ n b a, b + n = 8 → (∀ x, a = some x → x < 8) → Rh (some (.int (oI (lgs v n b a)))) m → X 4 [(0, .ref (ad 0)), (1, .int (oI a)), (2, .int (nI b))] [] m 0 0 := by
    intro n
    induction n with
    | zero =>
      intro b a hb ha h
      have : b = 8 := by omega
      subst this
      refine eV_longestSealed_4 hX ?_
      unfold cV_longestSealed_4
      exact xr_iload rfl <| xr_push <| xr_cmpt (Int32.le_refl _) <| xr_iload rfl <| xr_iret h
    | succ n ih =>
      intro b a hb ha h
      refine eV_longestSealed_4 hX ?_
      unfold cV_longestSealed_4
      have hb8 : b < 8 := by omega
      have h4 := (hw.1 b hb8)
      refine xr_iload rfl <| xr_push <| xr_cmpf (nI_ge hb8 (by decide)) <| q_blk hR hb8 rfl rfl <| xr_get (hR.bk hb8) rfl <| xr_push <| xr_cmp (fun h1 => ?_) (fun h1 => ?_)
      · rw [nI_eq (by omega) (by omega)] at h1
        cases a with
        | none =>
          refine xr_iload rfl <| xr_push <| xr_cmpt rfl <| xr_iload rfl <| xr_istore <| xr_iinc rfl <| xr_jmp rfl ?_
          rw [nI_1]
          exact ih (b + 1) (some b) (by omega) (fun x hx => by cases hx; exact hb8) (by simpa [lgs, h1] using h)
        | some x =>
          have hx8 := ha x rfl
          have h5 := hw.1 x hx8
          refine xr_iload rfl <| xr_push <| xr_cmpf (nI_m1 (by omega)) <| q_blk hR hb8 rfl rfl <| xr_get (hR.bk hb8) rfl <| q_blk hR hx8 rfl rfl <| xr_get (hR.bk hx8) rfl <| xr_cmp (fun h2 => ?_) (fun h2 => ?_)
          · rw [nI_leI (by omega) (by omega)] at h2
            refine xr_iinc rfl <| xr_jmp rfl ?_
            rw [nI_1]
            exact ih (b + 1) (some x) (by omega) ha (by simpa [lgs, h1, h2] using h)
          · rw [nI_leI (by omega) (by omega)] at h2
            refine xr_iload rfl <| xr_istore <| xr_iinc rfl <| xr_jmp rfl ?_
            rw [nI_1]
            exact ih (b + 1) (some b) (by omega) (fun x hx => by cases hx; exact hb8) (by simpa [lgs, h1, h2] using h)
      · rw [nI_eq (by omega) (by omega)] at h1
        refine xr_iinc rfl <| xr_jmp rfl ?_
        rw [nI_1]
        exact ih (b + 1) a (by omega) ha (by simpa [lgs, h1] using h)
  refine eV_longestSealed_0 hX ?_
  unfold cV_longestSealed_0
  exact xr_push <| xr_istore <| xr_push <| xr_istore <| xr_jmp rfl (L 8 0 none rfl (fun x hx => by cases hx) h)
theorem p_V_hasLiveCopy (hR : Rep ad m v) {b : Nat} (h : Rh (some (.int (bI (hlc v b 16 0)))) m) : cp_V_hasLiveCopy [.ref (ad 0), .int (nI b)] m Rh := by
  refine ⟨Nat.le_of_ble_eq_true rfl, fun X hX => ?_⟩
  have L : ∀ n k, k + n = 16 → Rh (some (.int (bI (hlc v b n k)))) m → X 2 [(0, .ref (ad 0)), (1, .int (nI b)), (2, .int (nI k))] [] m 0 0 := by
    intro n
    induction n with
    | zero =>
      intro k hk h
      have : k = 16 := by omega
      subst this
      refine eV_hasLiveCopy_2 hX ?_
      unfold cV_hasLiveCopy_2
      exact xr_iload rfl <| xr_push <| xr_cmpt (Int32.le_refl _) <| xr_push <| xr_zret (Or.inl rfl) h
    | succ n ih =>
      intro k hk h
      refine eV_hasLiveCopy_2 hX ?_
      unfold cV_hasLiveCopy_2
      have hk8 : k < 16 := by omega
      obtain ⟨q, g1⟩ := hR.eh hk8
      refine xr_iload rfl <| xr_push <| xr_cmpf (nI_ge hk8 (by decide)) <| q_ent hR hk8 rfl rfl <| xr_get g1 rfl <| xr_iload rfl <| xr_cmp (fun h1 => ?_) (fun h1 => ?_)
      · exact xr_push <| xr_zret (Or.inr rfl) (by simpa [hlc, h1, bI] using h)
      · refine xr_iinc rfl <| xr_jmp rfl ?_
        rw [nI_1]
        exact ih (k + 1) (by omega) (by simpa [hlc, h1] using h)
  refine eV_hasLiveCopy_0 hX ?_
  unfold cV_hasLiveCopy_0
  exact xr_push <| xr_istore <| xr_jmp rfl (L 16 0 rfl h)
theorem p_V_used (hR : Rep ad m v) (hw : Wf v) {b : Nat} (hb : b < 8) (h : Rh (some (.int (nI (usd v b 16 0 0)))) m) : cp_V_used [.ref (ad 0), .int (nI b)] m Rh := by
  refine ⟨Nat.le_of_ble_eq_true rfl, fun X hX => ?_⟩
  have L : ∀ n k a, k + n = 16 → Rh (some (.int (nI (usd v b n k a)))) m → X 4 [(0, .ref (ad 0)), (1, .int (nI b)), (2, .int (nI a)), (3, .int (nI k))] [] m 0 0 := by
    intro n
    induction n with
    | zero =>
      intro k a hk h
      have : k = 16 := by omega
      subst this
      refine eV_used_4 hX ?_
      unfold cV_used_4
      exact xr_iload rfl <| xr_push <| xr_cmpt (Int32.le_refl _) <| xr_iload rfl <| xr_iret h
    | succ n ih =>
      intro k a hk h
      refine eV_used_4 hX ?_
      unfold cV_used_4
      have hk8 : k < 16 := by omega
      refine xr_iload rfl <| xr_push <| xr_cmpf (nI_ge hk8 (by decide)) <| q_ent hR hk8 rfl rfl <| xr_astore <| ?_
      cases he : v.ent k with
      | none =>
        refine xr_aload rfl <| xr_get (hR.e0 hk8 he) rfl <| xr_isnull <| xr_iinc rfl <| xr_jmp rfl ?_
        rw [nI_1]
        exact ih (k + 1) a (by omega) (by simpa [usd, he] using h)
      | some e =>
        obtain ⟨c, hh, p⟩ := e
        obtain ⟨q, g1, g2⟩ := hR.e1 hk8 he
        have hwe := hw.2.2.2 k hk8 c hh p he
        refine xr_aload rfl <| xr_get g1 rfl <| xr_nonnull <| xr_aload rfl <| xr_get g1 rfl <| xr_iload rfl <| xr_cmp (fun h1 => ?_) (fun h1 => ?_)
        · rw [nI_eq (by omega) (by omega)] at h1
          refine xr_iload rfl <| xr_aload rfl <| xr_get g1 rfl <| xr_get g2 rfl <| xr_ibin <| xr_istore <| xr_iinc rfl <| xr_jmp rfl ?_
          rw [nI_1, nI_add]
          exact ih (k + 1) (a + c.siz) (by omega) (by simpa [usd, he, h1] using h)
        · rw [nI_eq (by omega) (by omega)] at h1
          refine xr_iinc rfl <| xr_jmp rfl ?_
          rw [nI_1]
          exact ih (k + 1) a (by omega) (by simpa [usd, he, h1] using h)
  refine eV_used_0 hX ?_
  unfold cV_used_0
  exact xr_push <| xr_istore <| xr_push <| xr_istore <| xr_jmp rfl (L 16 0 0 rfl h)
theorem p_V_unwrittenBlocks (hR : Rep ad m v) (hw : Wf v) (h : Rh (some (.int (unw v 8 0 0))) m) : cp_V_unwrittenBlocks [.ref (ad 0)] m Rh := by
  refine ⟨Nat.le_of_ble_eq_true rfl, fun X hX => ?_⟩
  have L : ∀ n b a, b + n = 8 → Rh (some (.int (unw v n b a))) m → X 4 [(0, .ref (ad 0)), (1, .int a), (2, .int (nI b))] [] m 0 0 := by
    intro n
    induction n with
    | zero =>
      intro b a hb h
      have : b = 8 := by omega
      subst this
      refine eV_unwrittenBlocks_4 hX ?_
      unfold cV_unwrittenBlocks_4
      exact xr_iload rfl <| xr_push <| xr_cmpt (Int32.le_refl _) <| xr_iload rfl <| xr_iret h
    | succ n ih =>
      intro b a hb h
      refine eV_unwrittenBlocks_4 hX ?_
      unfold cV_unwrittenBlocks_4
      have hb8 : b < 8 := by omega
      have h4 := (hw.1 b hb8).1
      have J : v.sta b = 1 ∨ v.sta b = 2 → cV_unwrittenBlocks_36 X Rh [(0, .ref (ad 0)), (1, .int a), (2, .int (nI b))] [] m 0 0 := by
        intro hs
        unfold cV_unwrittenBlocks_36
        refine xr_iload rfl <| xr_push <| xr_iload rfl <| xr_ibin <| xr_ibin <| xr_istore <| xr_iinc rfl <| xr_jmp rfl ?_
        rw [nI_1]
        exact ih (b + 1) _ (by omega) (by simpa [unw, hs] using h)
      refine xr_iload rfl <| xr_push <| xr_cmpf (nI_ge hb8 (by decide)) <| q_blk hR hb8 rfl rfl <| xr_get (hR.bk hb8) rfl <| xr_push <| xr_cmp (fun h1 => ?_) (fun h1 => ?_)
      · rw [show (1 : Int32) = nI 1 from rfl, nI_eq (by omega) (by omega)] at h1
        exact xr_jmp rfl (J (Or.inl h1))
      · rw [show (1 : Int32) = nI 1 from rfl, nI_eq (by omega) (by omega)] at h1
        refine q_blk hR hb8 rfl rfl <| xr_get (hR.bk hb8) rfl <| xr_push <| xr_cmp (fun h2 => ?_) (fun h2 => ?_)
        · rw [nI_eq (by omega) (by omega)] at h2
          exact xr_jmp rfl (J (Or.inr h2))
        · rw [nI_eq (by omega) (by omega)] at h2
          refine xr_iinc rfl <| xr_jmp rfl ?_
          rw [nI_1]
          exact ih (b + 1) a (by omega) (by simpa [unw, h1, h2] using h)
  refine eV_unwrittenBlocks_0 hX ?_
  unfold cV_unwrittenBlocks_0
  exact xr_push <| xr_istore <| xr_push <| xr_istore <| xr_jmp rfl (L 8 0 0 rfl h)
theorem p_V_freeIfWaitIsOver (hR : Rep ad m v) (hw : Wf v) {b : Nat} (hb : b < 8) (h : ∀ m', Rep ad m' (frw v b) → FrC m m' → Rh none m') : cp_V_freeIfWaitIsOver [.ref (ad 0), .int (nI b)] m Rh := by
  refine ⟨Nat.le_of_ble_eq_true rfl, fun X hX => eV_freeIfWaitIsOver_0 hX ?_⟩
  unfold cV_freeIfWaitIsOver_0
  have h4 := (hw.1 b hb).1
  refine q_blk hR hb rfl rfl <| xr_get (hR.bk hb) rfl <| xr_push <| xr_cmp (fun h1 => ?_) (fun h1 => ?_)
  · rw [nI_eq (by omega) (by omega)] at h1
    refine q_blk hR hb rfl rfl <| xr_get (hR.bk hb) rfl <| xr_if (fun h2 => ?_) (fun h2 => ?_)
    · refine q_blk hR hb rfl rfl <| xr_push <| xr_put (hR.bk hb) (by simp) rfl rfl rfl <| xr_vret ?_
      exact h _ (by rw [show frw v b = v.setB b (0, v.sat b, v.wai b) by simp [frw, h1, h2]]; exact hR.upB2 hb (0, v.sat b, v.wai b)) (FrC.up (hR.bk hb) rfl)
    · exact xr_vret (h m (by rw [show frw v b = v by simp [frw, h2]]; exact hR) FrC.rf)
  · rw [nI_eq (by omega) (by omega)] at h1
    exact xr_vret (h m (by rw [show frw v b = v by simp [frw, h1]]; exact hR) FrC.rf)
theorem p_V_sealBlock (hR : Rep ad m v) {b : Nat} (hb : b < 8) (h : ∀ m', Rep ad m' (sealB v b) → FrC m m' → Rh none m') : cp_V_sealBlock [.ref (ad 0), .int (nI b)] m Rh := by
  refine ⟨Nat.le_of_ble_eq_true rfl, fun X hX => eV_sealBlock_0 hX ?_⟩
  unfold cV_sealBlock_0
  have hR1 := hR.upB2 hb (2, v.sat b, v.wai b)
  have hF1 := FrC.up (e' := .inr (3, [.ref (ad (20 + b)), .ref (ad (20 + (8 + b))), .int (nI 2), .int (nI (v.sat b)), .int (v.wai b)])) (hR.bk hb) rfl
  have hR2 := hR1.upB2 hb (2, v.sls, v.wai b)
  rw [Vt.setB_set] at hR2
  have hR3 := hR2.upV (v.clk, v.nst, v.wrt, v.mvd, v.dwn, v.sls + 1)
  refine q_blk hR hb rfl rfl <| xr_push <| xr_put (hR.bk hb) (by simp) rfl rfl rfl <| q_blk hR1 hb rfl rfl <| xr_aload rfl <| xr_get hR1.vt rfl <| xr_put (xm_up_s _ _ _) (by simp) rfl rfl rfl <| xr_aload rfl <| xr_dup rfl <| xr_get hR2.vt rfl <| xr_push <| xr_ibin <| xr_put hR2.vt (by simp) rfl rfl rfl <| xr_vret ?_
  refine h _ ?_ ((hF1.tr (FrC.up (xm_up_s _ _ _) rfl)).tr (FrC.up hR2.vt rfl))
  rw [show nI (v.setB b (2, v.sls, v.wai b)).sls + 1 = nI (v.sls + 1) from nI_1 _]
  exact hR3
theorem frw_wf (hw : Wf v) (b : Nat) (hb : b < 8) : Wf (frw v b) := by
  unfold frw
  split
  · exact hw.setB (by simp) (hw.1 b hb).2
  · exact hw
theorem p_V_endWaitsFor (hR : Rep ad m v) (hw : Wf v) {b : Nat} (h : ∀ m', Rep ad m' (ewf v b 8 0) → Wf (ewf v b 8 0) → FrC m m' → Rh none m') : cp_V_endWaitsFor [.ref (ad 0), .int (nI b)] m Rh := by
  refine ⟨Nat.le_of_ble_eq_true rfl, fun X hX => ?_⟩
  have L : ∀ n w m1 (v1 : Vt), w + n = 8 → Rep ad m1 v1 → Wf v1 → FrC m m1 → (∀ m', Rep ad m' (ewf v1 b n w) → Wf (ewf v1 b n w) → FrC m m' → Rh none m') → X 2 [(0, .ref (ad 0)), (1, .int (nI b)), (2, .int (nI w))] [] m1 0 0 := by
    intro n
    induction n with
    | zero =>
      intro w m1 v1 hw8 hR1 hW1 hF1 h
      have : w = 8 := by omega
      subst this
      refine eV_endWaitsFor_2 hX ?_
      unfold cV_endWaitsFor_2
      exact xr_iload rfl <| xr_push <| xr_cmpt (Int32.le_refl _) <| xr_vret (h m1 hR1 hW1 hF1)
    | succ n ih =>
      intro w m1 v1 hw8 hR1 hW1 hF1 h
      refine eV_endWaitsFor_2 hX ?_
      unfold cV_endWaitsFor_2
      have hw9 : w < 8 := by omega
      have hR2 := hR1.upB2 hw9 (v1.sta w, v1.sat w, v1.wai w &&& ((1 <<< (nI b &&& 31)) ^^^ (-1)))
      have hF2 := FrC.up (e' := .inr (3, [.ref (ad (20 + w)), .ref (ad (20 + (8 + w))), .int (nI (v1.sta w)), .int (nI (v1.sat w)), .int (v1.wai w &&& ((1 <<< (nI b &&& 31)) ^^^ (-1)))])) (hR1.bk hw9) rfl
      have hW2 : Wf (v1.setB w (v1.sta w, v1.sat w, v1.wai w &&& ((1 <<< (nI b &&& 31)) ^^^ (-1)))) := hW1.setB (hW1.1 w hw9).1 (hW1.1 w hw9).2
      refine xr_iload rfl <| xr_push <| xr_cmpf (nI_ge hw9 (by decide)) <| q_blk hR1 hw9 rfl rfl <| xr_dup rfl <| xr_get (hR1.bk hw9) rfl <| xr_push <| xr_iload rfl <| xr_ibin <| xr_push <| xr_ibin <| xr_ibin <| xr_put (hR1.bk hw9) (by simp) rfl rfl rfl <| xr_aload rfl <| xr_iload rfl <| xr_callV (by decide) (by decide) rfl (by decide) hR2.vt <| p_V_freeIfWaitIsOver hR2 hW2 hw9 (fun m3 hR3 hF3 => ?_)
      refine xr_iinc rfl <| xr_jmp rfl ?_
      rw [nI_1]
      exact ih (w + 1) m3 _ (by omega) hR3 (frw_wf hW2 w hw9) ((hF1.tr hF2).tr hF3) h
  refine eV_endWaitsFor_0 hX ?_
  unfold cV_endWaitsFor_0
  exact xr_push <| xr_istore <| xr_jmp rfl (L 8 0 m v rfl hR hw FrC.rf h)
theorem emp_wf (hw : Wf v) {b : Nat} (hb : b < 8) : Wf (emp v b) := by
  unfold emp
  split
  · refine frw_wf ?_ b hb
    have hW2 : Wf (emd v b) := (hw.setR (r := b) (l := []) (fun c hc => by simp at hc)).setB (x := (4, v.sat b, v.wai b)) (Nat.le_refl 4) (hw.1 b hb).2
    exact hW2.setB (x := (4, v.sat b, unw (emd v b) 8 0 0)) (Nat.le_refl 4) (hw.1 b hb).2
  · exact hw
theorem p_V_emptyIfDead (hR : Rep ad m v) (hw : Wf v) {b : Nat} (hb : b < 8) (h : ∀ m', Rep ad m' (emp v b) → FrC m m' → Rh none m') : cp_V_emptyIfDead [.ref (ad 0), .int (nI b)] m Rh := by
  refine ⟨Nat.le_of_ble_eq_true rfl, fun X hX => eV_emptyIfDead_0 hX ?_⟩
  unfold cV_emptyIfDead_0
  have h4 := (hw.1 b hb).1
  refine xr_iload rfl <| xr_callS (by decide) (by decide) rfl (by decide) <| p_V_isBlock hb <| xr_iff (by decide) <| q_blk hR hb rfl rfl <| xr_get (hR.bk hb) rfl <| xr_push <| xr_cmp (fun h1 => ?_) (fun h1 => ?_)
  · rw [nI_eq (by omega) (by omega)] at h1
    refine xr_aload rfl <| xr_iload rfl <| xr_callV (by decide) (by decide) rfl (by decide) hR.vt <| p_V_hasLiveCopy hR <| xr_if (fun h2 => ?_) (fun h2 => ?_)
    · rw [bI_0] at h2
      refine q_blk hR hb rfl rfl <| xr_get (hR.bk hb) rfl <| xr_callV (by decide) (by decide) rfl (by decide) (hR.rw (by omega)) <| p_R_clear hR (by omega) (fun m1 hR1 hF1 => ?_)
      have hR2 := hR1.upB2 hb (4, v.sat b, v.wai b)
      have hW2 : Wf (emd v b) := (hw.setR (r := b) (l := []) (fun c hc => by simp at hc)).setB (by simp) (hw.1 b hb).2
      have hF2 := FrC.up (e' := .inr (3, [.ref (ad (20 + b)), .ref (ad (20 + (8 + b))), .int (nI 4), .int (nI (v.sat b)), .int (v.wai b)])) (hR1.bk hb) rfl
      have hR2 : Rep ad _ (emd v b) := hR2
      have hR3 := hR2.upB2 hb (4, v.sat b, unw (emd v b) 8 0 0)
      refine q_blk hR1 hb rfl rfl <| xr_push <| xr_put (hR1.bk hb) (by simp) rfl rfl rfl <| q_blk hR2 hb rfl rfl <| xr_aload rfl <| xr_callV (by decide) (by decide) rfl (Nat.le_of_ble_eq_true rfl) hR2.vt <| p_V_unwrittenBlocks hR2 hW2 <| xr_put (xm_up_s _ _ _) (by simp) rfl rfl rfl <| xr_aload rfl <| xr_iload rfl <| xr_callV (by decide) (by decide) rfl (by decide) hR3.vt <| p_V_freeIfWaitIsOver hR3 (hW2.setB (by simp) (hw.1 b hb).2) hb (fun m4 hR4 hF4 => ?_)
      exact xr_vret (h m4 (by rw [show emp v b = frw ((emd v b).setB b (4, v.sat b, unw (emd v b) 8 0 0)) b by simp [emp, h1, h2]]; exact hR4) (((hF1.tr hF2).tr (FrC.up (xm_up_s _ _ _) rfl)).tr hF4))
    · rw [bI_0] at h2
      exact xr_vret (h m (by rw [show emp v b = v by simp [emp, h2]]; exact hR) FrC.rf)
  · rw [nI_eq (by omega) (by omega)] at h1
    exact xr_vret (h m (by rw [show emp v b = v by simp [emp, h1]]; exact hR) FrC.rf)
theorem p_V_emptyIfDead0 {x : Nat} (h : Rh none m) : cp_V_emptyIfDead [.ref x, .int (-1)] m Rh := by
  refine ⟨Nat.le_of_ble_eq_true rfl, fun X hX => eV_emptyIfDead_0 hX ?_⟩
  unfold cV_emptyIfDead_0
  exact xr_iload rfl <| xr_callS (by decide) (by decide) rfl (by decide) <| p_V_isBlock0 (Or.inl (by decide)) <| xr_ift rfl <| xr_vret h
theorem p_V_dropEntry (hR : Rep ad m v) (hw : Wf v) {k : Nat} (hk : k < 16) (h : ∀ m', Rep ad m' (dre v k) → Wf (dre v k) → FrC m m' → Rh none m') : cp_V_dropEntry [.ref (ad 0), .int (nI k)] m Rh := by
  refine ⟨Nat.le_of_ble_eq_true rfl, fun X hX => eV_dropEntry_0 hX ?_⟩
  unfold cV_dropEntry_0
  have hW1 : Wf (v.setE k none) := hw.setE (fun c h p hh => by cases hh)
  have hq : isQ m none ((v.setE k none).cpy k) := by simp [Vt.cpy, Vt.setE_ent, isQ]
  have hR1 := hR.upE hk none hq
  have e1 : enV none (v.setE k none) k = .inr (4, [.null, .int (-1), .int 0]) := by simp [enV, va_rf, Vt.hom, Vt.plc, Vt.setE_ent]
  rw [e1] at hR1
  cases he : v.ent k with
  | none =>
    have hm := hR.e0 hk he
    refine q_ent hR hk rfl rfl <| xr_get hm rfl <| xr_istore <| q_ent hR hk rfl rfl <| xr_callV (by decide) (by decide) rfl (by decide) hm <| p_E_forget hm <| xr_aload rfl <| xr_iload rfl <| xr_callV (by decide) (by decide) rfl (by decide) hR1.vt <| p_V_emptyIfDead0 <| xr_vret (h _ ?_ ?_ (FrC.up hm rfl))
    · rw [show dre v k = v.setE k none by simp [dre, he]]; exact hR1
    · rw [show dre v k = v.setE k none by simp [dre, he]]; exact hW1
  | some e =>
    obtain ⟨c, hh, p⟩ := e
    obtain ⟨a, hm, g2⟩ := hR.e1 hk he
    have hwe := hw.2.2.2 k hk c hh p he
    refine q_ent hR hk rfl rfl <| xr_get hm rfl <| xr_istore <| q_ent hR hk rfl rfl <| xr_callV (by decide) (by decide) rfl (by decide) hm <| p_E_forget hm <| xr_aload rfl <| xr_iload rfl <| xr_callV (by decide) (by decide) rfl (by decide) hR1.vt <| p_V_emptyIfDead hR1 hW1 hwe.2.1 (fun m2 hR2 hF2 => xr_vret (h m2 ?_ ?_ ((FrC.up hm rfl).tr hF2)))
    · rw [show dre v k = emp (v.setE k none) hh by simp [dre, he]]; exact hR2
    · rw [show dre v k = emp (v.setE k none) hh by simp [dre, he]]; exact emp_wf hW1 hwe.2.1
theorem p_V_countThere (hR : Rep ad m v) (h : Rh (some (.int (nI (ths v 16 0 0)))) m) : cp_V_countThere [.ref (ad 0)] m Rh := by
  refine ⟨Nat.le_of_ble_eq_true rfl, fun X hX => ?_⟩
  have L : ∀ n k a, k + n = 16 → Rh (some (.int (nI (ths v n k a)))) m → X 4 [(0, .ref (ad 0)), (1, .int (nI a)), (2, .int (nI k))] [] m 0 0 := by
    intro n
    induction n with
    | zero =>
      intro k a hk h
      have : k = 16 := by omega
      subst this
      refine eV_countThere_4 hX ?_
      unfold cV_countThere_4
      exact xr_iload rfl <| xr_push <| xr_cmpt (Int32.le_refl _) <| xr_iload rfl <| xr_iret h
    | succ n ih =>
      intro k a hk h
      refine eV_countThere_4 hX ?_
      unfold cV_countThere_4
      have hk8 : k < 16 := by omega
      refine xr_iload rfl <| xr_push <| xr_cmpf (nI_ge hk8 (by decide)) <| xr_aload rfl <| xr_iload rfl <| xr_callV (by decide) (by decide) rfl (by decide) hR.vt <| p_V_isThere hR hk8 <| xr_if (fun h1 => ?_) (fun h1 => ?_)
      · rw [bI_0] at h1
        refine xr_iinc rfl <| xr_jmp rfl ?_
        rw [nI_1]
        exact ih (k + 1) a (by omega) (by simpa [ths, h1] using h)
      · rw [bI_0] at h1
        refine xr_iinc rfl <| xr_iinc rfl <| xr_jmp rfl ?_
        rw [nI_1, nI_1]
        exact ih (k + 1) (a + 1) (by omega) (by simpa [ths, h1] using h)
  refine eV_countThere_0 hX ?_
  unfold cV_countThere_0
  exact xr_push <| xr_istore <| xr_push <| xr_istore <| xr_jmp rfl (L 16 0 0 rfl h)
theorem p_V_countEntries (hR : Rep ad m v) (h : Rh (some (.int (nI (ens v 16 0 0)))) m) : cp_V_countEntries [.ref (ad 0)] m Rh := by
  refine ⟨Nat.le_of_ble_eq_true rfl, fun X hX => ?_⟩
  have L : ∀ n k a, k + n = 16 → Rh (some (.int (nI (ens v n k a)))) m → X 4 [(0, .ref (ad 0)), (1, .int (nI a)), (2, .int (nI k))] [] m 0 0 := by
    intro n
    induction n with
    | zero =>
      intro k a hk h
      have : k = 16 := by omega
      subst this
      refine eV_countEntries_4 hX ?_
      unfold cV_countEntries_4
      exact xr_iload rfl <| xr_push <| xr_cmpt (Int32.le_refl _) <| xr_iload rfl <| xr_iret h
    | succ n ih =>
      intro k a hk h
      refine eV_countEntries_4 hX ?_
      unfold cV_countEntries_4
      have hk8 : k < 16 := by omega
      refine xr_iload rfl <| xr_push <| xr_cmpf (nI_ge hk8 (by decide)) <| q_ent hR hk8 rfl rfl <| ?_
      cases he : v.ent k with
      | none =>
        refine xr_get (hR.e0 hk8 he) rfl <| xr_isnull <| xr_iinc rfl <| xr_jmp rfl ?_
        rw [nI_1]
        exact ih (k + 1) a (by omega) (by simpa [ens, he] using h)
      | some e =>
        obtain ⟨c, hh, p⟩ := e
        obtain ⟨q, g1, g2⟩ := hR.e1 hk8 he
        refine xr_get g1 rfl <| xr_nonnull <| xr_iinc rfl <| xr_iinc rfl <| xr_jmp rfl ?_
        rw [nI_1, nI_1]
        exact ih (k + 1) (a + 1) (by omega) (by simpa [ens, he] using h)
  refine eV_countEntries_0 hX ?_
  unfold cV_countEntries_0
  exact xr_push <| xr_istore <| xr_push <| xr_istore <| xr_jmp rfl (L 16 0 0 rfl h)
theorem p_V_countTombstones (hR : Rep ad m v) (h : Rh (some (.int (nI (tbs v 16 0 0)))) m) : cp_V_countTombstones [.ref (ad 0)] m Rh := by
  refine ⟨Nat.le_of_ble_eq_true rfl, fun X hX => ?_⟩
  have L : ∀ n k a, k + n = 16 → Rh (some (.int (nI (tbs v n k a)))) m → X 4 [(0, .ref (ad 0)), (1, .int (nI a)), (2, .int (nI k))] [] m 0 0 := by
    intro n
    induction n with
    | zero =>
      intro k a hk h
      have : k = 16 := by omega
      subst this
      refine eV_countTombstones_4 hX ?_
      unfold cV_countTombstones_4
      exact xr_iload rfl <| xr_push <| xr_cmpt (Int32.le_refl _) <| xr_iload rfl <| xr_iret h
    | succ n ih =>
      intro k a hk h
      refine eV_countTombstones_4 hX ?_
      unfold cV_countTombstones_4
      have hk8 : k < 16 := by omega
      refine xr_iload rfl <| xr_push <| xr_cmpf (nI_ge hk8 (by decide)) <| q_ent hR hk8 rfl rfl <| ?_
      cases he : v.ent k with
      | none =>
        refine xr_get (hR.e0 hk8 he) rfl <| xr_isnull <| xr_iinc rfl <| xr_jmp rfl ?_
        rw [nI_1]
        exact ih (k + 1) a (by omega) (by simpa [tbs, he] using h)
      | some e =>
        obtain ⟨c, hh, p⟩ := e
        obtain ⟨q, g1, g2⟩ := hR.e1 hk8 he
        refine xr_get g1 rfl <| xr_nonnull <| q_ent hR hk8 rfl rfl <| xr_get g1 rfl <| xr_get g2 rfl <| xr_if (fun h1 => ?_) (fun h1 => ?_)
        · rw [bI_0] at h1
          refine xr_iinc rfl <| xr_jmp rfl ?_
          rw [nI_1]
          exact ih (k + 1) a (by omega) (by simpa [tbs, he, h1] using h)
        · rw [bI_0] at h1
          refine xr_iinc rfl <| xr_iinc rfl <| xr_jmp rfl ?_
          rw [nI_1, nI_1]
          exact ih (k + 1) (a + 1) (by omega) (by simpa [tbs, he, h1] using h)
  refine eV_countTombstones_0 hX ?_
  unfold cV_countTombstones_0
  exact xr_push <| xr_istore <| xr_push <| xr_istore <| xr_jmp rfl (L 16 0 0 rfl h)
end
