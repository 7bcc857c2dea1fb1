/-! the class's methods over the value: leaves -/
def Wf (v : Vt) : Prop := (∀ b, b < 8 → v.sta b ≤ 4 ∧ v.sat b < 2 ^ 30) ∧ v.sls < 2 ^ 30 ∧ (∀ r, r < 16 → ∀ c, c ∈ v.row r → c.key < 16 ∧ c.siz ≤ 6) ∧ (∀ k, k < 16 → ∀ c h p, v.ent k = some (c, h, p) → c.key < 16 ∧ h < 8 ∧ p < 12 ∧ c.siz ≤ 6)
def oI : Option Nat → Int32
  | none => -1
  | some b => nI b
section
variable {ad : Nat → Nat} {m : xm_M} {v : Vt} {K : xm_PT} {ls : xm_L} {st : List Value} {bc bs : Nat} {Rh : Option Value → xm_M → Prop}
theorem Rep.e0 (h : Rep ad m v) {k : Nat} (hk : k < 16) (he : v.ent k = none) : m (ad (60 + k)) = some (.inr (4, [.null, .int (-1), .int 0])) := by
  obtain ⟨q, g1, g2⟩ := h.en hk
  have hc : v.cpy k = none := by simp [Vt.cpy, he]
  rw [hc] at g2
  cases g2
  rw [g1]; simp [Vt.hom, Vt.plc, he, va_rf]
theorem Rep.e1 (h : Rep ad m v) {k : Nat} (hk : k < 16) {c : Cp} {hh p : Nat} (he : v.ent k = some (c, hh, p)) : ∃ a, m (ad (60 + k)) = some (.inr (4, [.ref a, .int (nI hh), .int (nI p)])) ∧ isC m a c := by
  obtain ⟨q, g1, g2⟩ := h.en hk
  have hc : v.cpy k = some c := by simp [Vt.cpy, he]
  rw [hc] at g2
  obtain ⟨a, e1, e2⟩ := g2
  subst e1
  exact ⟨a, by rw [g1]; simp [Vt.hom, Vt.plc, he, va_rf], e2⟩
theorem Rep.eh (h : Rep ad m v) {k : Nat} (hk : k < 16) : ∃ q, m (ad (60 + k)) = some (.inr (4, [va_rf q, .int (v.hom k), .int (v.plc k)])) := by
  obtain ⟨q, g1, g2⟩ := h.en hk
  exact ⟨q, g1⟩
/-- a COPY in a row -/
theorem Rep.rc (h : Rep ad m v) {r : Nat} (hr : r < 16) : ∃ f, m (ad (40 + r)) = some (qA 2 12 f) ∧ (v.row r).length ≤ 12 ∧ ∀ i c, (v.row r)[i]? = some c → ∃ a, f i = some a ∧ isC m a c := by
  obtain ⟨f, g1, g2⟩ := h.ra hr
  exact ⟨f, g1, g2.1, g2.2⟩
theorem q_blk (hR : Rep ad m v) {b i : Nat} (hb : b < 8) (h0 : xm_lk ls 0 = some (.ref (ad 0))) (hi : xm_lk ls i = some (.int (nI b))) (h : K ls (.ref (ad (10 + b)) :: st) m bc bs) : xo_aload 0 (xo_get 0 0 (xo_iload i (xo_aald ats K))) ls st m bc bs := by
  obtain ⟨f, g1, g2⟩ := hR.ba
  exact xr_aload h0 (xr_get hR.vt rfl (xr_iload hi (xr_aald g1 rfl rfl hb (by decide) (g2 b hb) h)))
theorem q_ent (hR : Rep ad m v) {k i : Nat} (hk : k < 16) (h0 : xm_lk ls 0 = some (.ref (ad 0))) (hi : xm_lk ls i = some (.int (nI k))) (h : K ls (.ref (ad (60 + k)) :: st) m bc bs) : xo_aload 0 (xo_get 0 1 (xo_iload i (xo_aald ats K))) ls st m bc bs := by
  obtain ⟨f, g1, g2⟩ := hR.ia
  exact xr_aload h0 (xr_get hR.vt rfl (xr_iload hi (xr_aald g1 rfl rfl hk (by decide) (g2 k hk) h)))
-- ranges
theorem p_V_isKey {k : Nat} (hk : k < 16) (h : Rh (some (.int 1)) m) : cp_V_isKey [.int (nI k)] m Rh := by
  refine ⟨Nat.le_of_ble_eq_true rfl, fun X hX => eV_isKey_0 hX ?_⟩
  unfold cV_isKey_0
  exact xr_iload rfl <| xr_iff (nI_pos (by omega)) <| xr_iload rfl <| xr_push <| xr_cmpf (nI_ge hk (by decide)) <| xr_push <| xr_zret (Or.inr rfl) h
theorem p_V_isKey0 {x : Int32} (hx : x < 0 ∨ nI 16 ≤ x) (h : Rh (some (.int 0)) m) : cp_V_isKey [.int x] m Rh := by
  refine ⟨Nat.le_of_ble_eq_true rfl, fun X hX => eV_isKey_0 hX ?_⟩
  unfold cV_isKey_0
  refine xr_iload rfl <| xr_if (fun h1 => xr_push <| xr_zret (Or.inl rfl) h) (fun h1 => ?_)
  exact xr_iload rfl <| xr_push <| xr_cmpt (hx.resolve_left h1) <| xr_push <| xr_zret (Or.inl rfl) h
theorem p_V_isBlock {k : Nat} (hk : k < 8) (h : Rh (some (.int 1)) m) : cp_V_isBlock [.int (nI k)] m Rh := by
  refine ⟨Nat.le_of_ble_eq_true rfl, fun X hX => eV_isBlock_0 hX ?_⟩
  unfold cV_isBlock_0
  exact xr_iload rfl <| xr_iff (nI_pos (by omega)) <| xr_iload rfl <| xr_push <| xr_cmpf (nI_ge hk (by decide)) <| xr_push <| xr_zret (Or.inr rfl) h
theorem p_V_isBlock0 {x : Int32} (hx : x < 0 ∨ nI 8 ≤ x) (h : Rh (some (.int 0)) m) : cp_V_isBlock [.int x] m Rh := by
  refine ⟨Nat.le_of_ble_eq_true rfl, fun X hX => eV_isBlock_0 hX ?_⟩
  unfold cV_isBlock_0
  refine xr_iload rfl <| xr_if (fun h1 => xr_push <| xr_zret (Or.inl rfl) h) (fun h1 => ?_)
  exact xr_iload rfl <| xr_push <| xr_cmpt (hx.resolve_left h1) <| xr_push <| xr_zret (Or.inl rfl) h
def isL (x : Int32) : Bool := decide (¬ x < 0 ∧ ¬ nI 1000 < x)
theorem p_V_isLife {x : Int32} (h : Rh (some (.int (bI (isL x)))) m) : cp_V_isLife [.int x] m Rh := by
  refine ⟨Nat.le_of_ble_eq_true rfl, fun X hX => eV_isLife_0 hX ?_⟩
  unfold cV_isLife_0
  refine xr_iload rfl <| xr_if (fun h1 => xr_push <| xr_zret (Or.inl rfl) ?_) (fun h1 => xr_iload rfl <| xr_push <| xr_cmp (fun h2 => xr_push <| xr_zret (Or.inl rfl) ?_) (fun h2 => xr_push <| xr_zret (Or.inr rfl) ?_))
  · simpa [isL, h1, bI] using h
  · simpa [isL, h1, h2, bI] using h
  · simpa [isL, h1, h2, bI] using h
-- copies
def exq (c : Cp) (now : Int32) : Bool := decide (¬ c.voi = 0 ∧ ¬ now < c.voi)
theorem p_C_isExpired {a : Nat} {c : Cp} {now : Int32} (hc : isC m a c) (h : Rh (some (.int (bI (exq c now)))) m) : cp_C_isExpired [.ref a, .int now] m Rh := by
  refine ⟨Nat.le_of_ble_eq_true rfl, fun X hX => eC_isExpired_0 hX ?_⟩
  unfold cC_isExpired_0
  refine xr_aload rfl <| xr_get hc rfl <| xr_if (fun h1 => xr_push <| xr_zret (Or.inl rfl) ?_) (fun h1 => xr_aload rfl <| xr_get hc rfl <| xr_iload rfl <| xr_cmp (fun h2 => xr_push <| xr_zret (Or.inl rfl) ?_) (fun h2 => xr_push <| xr_zret (Or.inr rfl) ?_))
  · simpa [exq, h1, bI] using h
  · simpa [exq, h1, h2, bI] using h
  · simpa [exq, h1, h2, bI] using h
theorem p_C_isNewerThan0 {a : Nat} {c : Cp} (hc : isC m a c) (h : Rh (some (.int 1)) m) : cp_C_isNewerThan [.ref a, .null] m Rh := by
  refine ⟨Nat.le_of_ble_eq_true rfl, fun X hX => eC_isNewerThan_0 hX ?_⟩
  unfold cC_isNewerThan_0
  exact xr_aloadq rfl xm_ref_n <| xr_isnull <| xr_push <| xr_zret (Or.inr rfl) h
theorem p_C_isNewerThan {a b : Nat} {c d : Cp} (hc : isC m a c) (hd : isC m b d) (h : Rh (some (.int (bI (decide (¬ c.stp ≤ d.stp))))) m) : cp_C_isNewerThan [.ref a, .ref b] m Rh := by
  refine ⟨Nat.le_of_ble_eq_true rfl, fun X hX => eC_isNewerThan_0 hX ?_⟩
  unfold cC_isNewerThan_0
  refine xr_aload rfl <| xr_nonnull <| xr_aload rfl <| xr_get hc rfl <| xr_aload rfl <| xr_get hd rfl <| xr_cmp (fun h1 => xr_push <| xr_zret (Or.inl rfl) ?_) (fun h1 => xr_push <| xr_zret (Or.inr rfl) ?_)
  · simpa [h1, bI] using h
  · simpa [h1, bI] using h
def thr (v : Vt) (k : Nat) : Bool := match v.ent k with
  | none => false
  | some e => !e.1.tmb && !exq e.1 v.clk
theorem p_V_isThere (hR : Rep ad m v) {k : Nat} (hk : k < 16) (h : Rh (some (.int (bI (thr v k)))) m) : cp_V_isThere [.ref (ad 0), .int (nI k)] m Rh := by
  refine ⟨Nat.le_of_ble_eq_true rfl, fun X hX => eV_isThere_0 hX ?_⟩
  unfold cV_isThere_0
  cases he : v.ent k with
  | none =>
    have h : Rh (some (.int 0)) m := by simpa [thr, he, bI] using h
    exact q_ent hR hk rfl rfl <| xr_get (hR.e0 hk he) rfl <| xr_astoreq xm_ref_n <| xr_aloadq rfl xm_ref_n <| xr_isnull <| xr_push <| xr_zret (Or.inl rfl) h
  | some e =>
    obtain ⟨c, hh, p⟩ := e
    obtain ⟨a, g1, g2⟩ := hR.e1 hk he
    refine q_ent hR hk rfl rfl <| xr_get g1 rfl <| xr_astore <| xr_aload rfl <| xr_nonnull <| xr_aload rfl <| xr_get g2 rfl <| xr_if (fun h1 => ?_) (fun h1 => ?_)
    · rw [bI_0] at h1
      refine xr_aload rfl <| xr_aload rfl <| xr_get hR.vt rfl <| xr_callV (by decide) (by decide) rfl (by decide) g2 <| p_C_isExpired g2 <| xr_if (fun h2 => ?_) (fun h2 => ?_)
      · rw [bI_0] at h2
        exact xr_push <| xr_zret (Or.inr rfl) (by simpa [thr, he, h1, h2, bI] using h)
      · rw [bI_0] at h2
        exact xr_push <| xr_zret (Or.inl rfl) (by simpa [thr, he, h1, h2, bI] using h)
    · rw [bI_0] at h1
      exact xr_push <| xr_zret (Or.inl rfl) (by simpa [thr, he, h1, bI] using h)
-- counting and finding
def lis (v : Vt) (s : Nat) : Nat → Nat → Option Nat
  | 0, _ => none
  | n + 1, b => if v.sta b = s then some b else lis v s n (b + 1)
theorem p_V_leastInState (hR : Rep ad m v) (hw : Wf v) {x : Int32} {s : Nat} (hx : x = nI s) (hs : s ≤ 4) (h : Rh (some (.int (oI (lis v s 8 0)))) m) : cp_V_leastInState [.ref (ad 0), .int x] m Rh := by
  refine ⟨Nat.le_of_ble_eq_true rfl, fun X hX => ?_⟩
  subst hx
  have L : ∀ n b, b + n = 8 → Rh (some (.int (oI (lis v s n b)))) m → X 2 [(0, .ref (ad 0)), (1, .int (nI s)), (2, .int (nI b))] [] m 0 0 := by
    intro n
    induction n with
    | zero =>
      intro b hb h
      have : b = 8 := by omega
      subst this
      refine eV_leastInState_2 hX ?_
      unfold cV_leastInState_2
      exact xr_iload rfl <| xr_push <| xr_cmpt (Int32.le_refl _) <| xr_push <| xr_iret h
    | succ n ih =>
      intro b hb h
      refine eV_leastInState_2 hX ?_
      unfold cV_leastInState_2
      have hb8 : b < 8 := by omega
      have h4 := (hw.1 b hb8).1
      refine xr_iload rfl <| xr_push <| xr_cmpf (nI_ge hb8 (by decide)) <| q_blk hR hb8 rfl rfl <| xr_get (hR.bk hb8) rfl <| xr_iload rfl <| xr_cmp (fun h1 => ?_) (fun h1 => ?_)
      · rw [nI_eq (by omega) (by omega)] at h1
        exact xr_iload rfl <| xr_iret (by simpa [lis, h1, oI] using h)
      · rw [nI_eq (by omega) (by omega)] at h1
        refine xr_iinc rfl <| xr_jmp rfl ?_
        rw [nI_1]
        exact ih (b + 1) (by omega) (by simpa [lis, h1] using h)
  refine eV_leastInState_0 hX ?_
  unfold cV_leastInState_0
  exact xr_push <| xr_istore <| xr_jmp rfl (L 8 0 rfl h)
def cis (v : Vt) (s : Nat) : Nat → Nat → Nat → Nat
  | 0, _, a => a
  | n + 1, b, a => cis v s n (b + 1) (if v.sta b = s then a + 1 else a)
theorem p_V_countInState (hR : Rep ad m v) (hw : Wf v) {x : Int32} {s : Nat} (hx : x = nI s) (hs : s ≤ 4) (h : Rh (some (.int (nI (cis v s 8 0 0)))) m) : cp_V_countInState [.ref (ad 0), .int x] m Rh := by
  refine ⟨Nat.le_of_ble_eq_true rfl, fun X hX => ?_⟩
  subst hx
  have L : ∀ n b a, b + n = 8 → Rh (some (.int (nI (cis v s n b a)))) m → X 4 [(0, .ref (ad 0)), (1, .int (nI s)), (2, .int (nI a)), (3, .int (nI b))] [] m 0 0 := by
    intro n
    induction n with
    | zero =>
      intro b a hb h
      have : b = 8 := by omega
      subst this
      refine eV_countInState_4 hX ?_
      unfold cV_countInState_4
      exact xr_iload rfl <| xr_push <| xr_cmpt (Int32.le_refl _) <| xr_iload rfl <| xr_iret h
    | succ n ih =>
      intro b a hb h
      refine eV_countInState_4 hX ?_
      unfold cV_countInState_4
      have hb8 : b < 8 := by omega
      have h4 := (hw.1 b hb8).1
      refine xr_iload rfl <| xr_push <| xr_cmpf (nI_ge hb8 (by decide)) <| q_blk hR hb8 rfl rfl <| xr_get (hR.bk hb8) rfl <| xr_iload rfl <| xr_cmp (fun h1 => ?_) (fun h1 => ?_)
      · rw [nI_eq (by omega) (by omega)] at h1
        refine xr_iinc rfl <| xr_iinc rfl <| xr_jmp rfl ?_
        rw [nI_1, nI_1]
        exact ih (b + 1) (a + 1) (by omega) (by simpa [cis, h1] using h)
      · rw [nI_eq (by omega) (by omega)] at h1
        refine xr_iinc rfl <| xr_jmp rfl ?_
        rw [nI_1]
        exact ih (b + 1) a (by omega) (by simpa [cis, h1] using h)
  refine eV_countInState_0 hX ?_
  unfold cV_countInState_0
  exact xr_push <| xr_istore <| xr_push <| xr_istore <| xr_jmp rfl (L 8 0 0 rfl h)
end
