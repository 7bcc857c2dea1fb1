/-! the vault's private methods, II -/
section
variable {K Kd : xm_PT} {Ks : List xm_PT} {ls : xm_L} {st r : List Value} {m : xm_M} {bc bs : Nat}
theorem xr_tsw {lo : Int} {x : Int32} (h : xm_sw x.toInt lo Ks Kd ls r m bc bs) : xo_tsw lo Ks Kd ls (.int x :: r) m bc bs := h
theorem xr_sw {x lo : Int} (ht : x = lo → K ls st m bc bs) (hf : ¬ x = lo → xm_sw x (lo + 1) Ks Kd ls st m bc bs) : xm_sw x lo (K :: Ks) Kd ls st m bc bs := ⟨ht, hf⟩
theorem xr_sd {x lo : Int} (h : Kd ls st m bc bs) : xm_sw x lo [] Kd ls st m bc bs := h
end
def rlh (v : Vt) (k : Nat) (x : Int32) : Bool := if x.toInt = -3 then thr v k else if x.toInt = -2 then !thr v k else if x.toInt = -1 then true else thr v k && (match v.ent k with
  | none => false
  | some e => decide (e.1.gen = x))
def hid (v : Vt) (d : Cp) : Nat → Nat → Bool
  | 0, _ => false
  | n + 1, b => hot d (v.row b) || (hot d (v.row (8 + b)) || hid v d n (b + 1))
def ndl (v : Vt) (k : Nat) : Bool := match v.ent k with
  | none => false
  | some e => if e.1.tmb = true then !hid v e.1 8 0 else exq e.1 v.clk
def opn (v : Vt) (f : Nat) : Vt := v.setB f (1, v.sat f, v.wai f)
def cwr (v : Vt) (s : Nat) : Int32 ⊕ (Nat × Vt) := match lis v 1 8 0 with
  | some b => if szs (v.row b) + s ≤ 12 then .inr (b, v) else if 3 ≤ cis v 2 8 0 0 then .inl (-5) else (match lis v 0 8 0 with
    | none => .inl (-6)
    | some f => .inr (f, opn (sealB v b) f))
  | none => (match lis v 0 8 0 with
    | none => .inl (-6)
    | some f => .inr (f, opn v f))
def apE (v : Vt) (c : Cp) (h : Nat) : Vt := (v.setR h (v.row h ++ [c])).setE c.key (some (c, h, (v.row h).length))
def apd (v : Vt) (c : Cp) : Int32 ⊕ (Nat × Vt) := match cwr v c.siz with
  | .inl e => .inl e
  | .inr (h, v1) => .inr (h, match v1.ent c.key with
    | none => apE v1 c h
    | some e => emp (apE v1 c h) e.2.1)
def inc1 (v : Vt) : Vt := v.setI (v.clk, v.nst + 1, v.wrt, v.mvd, v.dwn, v.sls)
def wri (v : Vt) (c : Cp) : Int32 ⊕ (Nat × Vt) := match apd v c with
  | .inl e => .inl e
  | .inr (h, v1) => .inr (h, inc1 v1)
theorem lis_lt {v : Vt} {s : Nat} : ∀ n b x, lis v s n b = some x → b ≤ x ∧ x < b + n ∧ v.sta x = s := by
  intro n
  induction n with
  | zero => intro b x h; simp [lis] at h
  | succ n ih =>
    intro b x h
    simp only [lis] at h
    split at h
    · cases h; rename_i hs; exact ⟨Nat.le_refl _, by omega, hs⟩
    · have := ih (b + 1) x h; exact ⟨by omega, by omega, this.2.2⟩
theorem lis8 {v : Vt} {s x : Nat} (h : lis v s 8 0 = some x) : x < 8 := by have := lis_lt 8 0 x h; omega
theorem cis_le {v : Vt} {s : Nat} : ∀ n b a, cis v s n b a ≤ a + n := by
  intro n
  induction n with
  | zero => intro b a; simp [cis]
  | succ n ih =>
    intro b a
    simp only [cis]
    have := ih (b + 1) (if v.sta b = s then a + 1 else a)
    split at this <;> rename_i h <;> simp [h] <;> omega
theorem szs_le {l : List Cp} (h : ∀ c, c ∈ l → c.key < 16 ∧ c.siz ≤ 6) : szs l ≤ 6 * l.length := by
  induction l with
  | nil => simp [szs]
  | cons c l ih =>
    have h1 := (h c List.mem_cons_self).2
    have h2 := ih (fun d hd => h d (List.mem_cons_of_mem _ hd))
    simp only [szs, List.length_cons]
    omega
section
variable {ad : Nat → Nat} {m : xm_M} {v : Vt} {K : xm_PT} {ls : xm_L} {st : List Value} {bc bs : Nat} {Rh : Option Value → xm_M → Prop}
theorem p_V_ruleHolds (hR : Rep ad m v) {k : Nat} (hk : k < 16) {x : Int32} (h : Rh (some (.int (bI (rlh v k x)))) m) : cp_V_ruleHolds [.ref (ad 0), .int (nI k), .int x] m Rh := by
  refine ⟨Nat.le_of_ble_eq_true rfl, fun X hX => eV_ruleHolds_0 hX ?_⟩
  unfold cV_ruleHolds_0
  refine xr_aload rfl <| xr_iload rfl <| xr_callV (by decide) (by decide) rfl (by decide) hR.vt <| p_V_isThere hR hk <| xr_istore <| xr_iload rfl <| xr_tsw <| xr_sw (fun h1 => ?_) (fun h1 => xr_sw (fun h2 => ?_) (fun h2 => xr_sw (fun h3 => ?_) (fun h3 => xr_sd ?_)))
  · exact xr_iload rfl <| xr_zret (bI_01 _) (by simpa [rlh, h1] using h)
  · have h2 : x.toInt = -2 := h2
    refine xr_iload rfl <| xr_if (fun h4 => ?_) (fun h4 => ?_)
    · rw [bI_0] at h4
      exact xr_push <| xr_zret (Or.inr rfl) (by simpa [rlh, h2, h4, bI] using h)
    · rw [bI_0] at h4
      exact xr_push <| xr_zret (Or.inl rfl) (by simpa [rlh, h2, h4, bI] using h)
  · have h3 : x.toInt = -1 := h3
    exact xr_push <| xr_zret (Or.inr rfl) (by simpa [rlh, h3, bI] using h)
  · have h2 : ¬ x.toInt = -2 := h2
    have h3 : ¬ x.toInt = -1 := h3
    refine xr_iload rfl <| xr_if (fun h4 => ?_) (fun h4 => ?_)
    · rw [bI_0] at h4
      exact xr_push <| xr_zret (Or.inl rfl) (by simpa [rlh, h1, h2, h3, h4, bI] using h)
    · rw [bI_0] at h4
      have h4 : thr v k = true := by simpa using h4
      cases he : v.ent k with
      | none => simp [thr, he] at h4
      | some e =>
        obtain ⟨c, hh, p⟩ := e
        obtain ⟨q, g1, g2⟩ := hR.e1 hk he
        refine q_ent hR hk rfl rfl <| xr_get g1 rfl <| xr_get g2 rfl <| xr_iload rfl <| xr_cmp (fun h5 => ?_) (fun h5 => ?_)
        · exact xr_push <| xr_zret (Or.inr rfl) (by simpa [rlh, h1, h2, h3, h4, he, h5, bI] using h)
        · exact xr_push <| xr_zret (Or.inl rfl) (by simpa [rlh, h1, h2, h3, h4, he, h5, bI] using h)
theorem p_V_isLiveAt (hR : Rep ad m v) {a : Nat} {c : Cp} (hc : isC m a c) (hk : c.key < 16) {b p : Nat} (h : Rh (some (.int (bI (decide (v.hom c.key = nI b) && decide (v.plc c.key = nI p))))) m) : cp_V_isLiveAt [.ref (ad 0), .ref a, .int (nI b), .int (nI p)] m Rh := by
  refine ⟨Nat.le_of_ble_eq_true rfl, fun X hX => eV_isLiveAt_0 hX ?_⟩
  unfold cV_isLiveAt_0
  obtain ⟨f, g1, g2⟩ := hR.ia
  obtain ⟨q, g3⟩ := hR.eh hk
  refine xr_aload rfl <| xr_get hR.vt rfl <| xr_aload rfl <| xr_get hc rfl <| xr_aald g1 rfl rfl hk (by decide) (g2 _ hk) <| xr_astore <| xr_aload rfl <| xr_get g3 rfl <| xr_iload rfl <| xr_cmp (fun h1 => ?_) (fun h1 => ?_)
  · refine xr_aload rfl <| xr_get g3 rfl <| xr_iload rfl <| xr_cmp (fun h2 => ?_) (fun h2 => ?_)
    · exact xr_push <| xr_zret (Or.inr rfl) (by simpa [h1, h2, bI] using h)
    · exact xr_push <| xr_zret (Or.inl rfl) (by simpa [h1, h2, bI] using h)
  · exact xr_push <| xr_zret (Or.inl rfl) (by simpa [h1, bI] using h)
theorem p_V_hidesAnother (hR : Rep ad m v) (hw : Wf v) {a : Nat} {d : Cp} (hc : isC m a d) (hk : d.key < 16) (h : Rh (some (.int (bI (hid v d 8 0)))) m) : cp_V_hidesAnother [.ref (ad 0), .ref a] m Rh := by
  refine ⟨Nat.le_of_ble_eq_true rfl, fun X hX => ?_⟩
  have L : ∀ n b, b + n = 8 → Rh (some (.int (bI (hid v d n b)))) m → X 2 [(0, .ref (ad 0)), (1, .ref a), (2, .int (nI b))] [] m 0 0 := by
    intro n
    induction n with
    | zero =>
      intro b hb h
      have : b = 8 := by omega
      subst this
      refine eV_hidesAnother_2 hX ?_
      unfold cV_hidesAnother_2
      exact xr_iload rfl <| xr_push <| xr_cmpt (Int32.le_refl _) <| xr_push <| xr_zret (Or.inl rfl) h
    | succ n ih =>
      intro b hb h
      refine eV_hidesAnother_2 hX ?_
      unfold cV_hidesAnother_2
      have hb8 : b < 8 := by omega
      refine xr_iload rfl <| xr_push <| xr_cmpf (nI_ge hb8 (by decide)) <| q_blk hR hb8 rfl rfl <| xr_get (hR.bk hb8) rfl <| xr_aload rfl <| xr_callV (by decide) (by decide) rfl (by decide) (hR.rw (by omega)) <| p_R_hasOther hR hw (by omega) hc hk <| xr_if (fun h1 => ?_) (fun h1 => ?_)
      · rw [bI_0] at h1
        refine q_blk hR hb8 rfl rfl <| xr_get (hR.bk hb8) rfl <| xr_aload rfl <| xr_callV (by decide) (by decide) rfl (by decide) (hR.rw (r := 8 + b) (by omega)) <| p_R_hasOther hR hw (by omega) hc hk <| xr_if (fun h2 => ?_) (fun h2 => ?_)
        · rw [bI_0] at h2
          refine xr_iinc rfl <| xr_jmp rfl ?_
          rw [nI_1]
          exact ih (b + 1) (by omega) (by simpa [hid, h1, h2] using h)
        · rw [bI_0] at h2
          exact xr_push <| xr_zret (Or.inr rfl) (by simpa [hid, h1, h2, bI] using h)
      · rw [bI_0] at h1
        exact xr_push <| xr_zret (Or.inr rfl) (by simpa [hid, h1, bI] using h)
  refine eV_hidesAnother_0 hX ?_
  unfold cV_hidesAnother_0
  exact xr_push <| xr_istore <| xr_jmp rfl (L 8 0 rfl h)
theorem p_V_isNeedless (hR : Rep ad m v) (hw : Wf v) {k : Nat} (hk : k < 16) (h : Rh (some (.int (bI (ndl v k)))) m) : cp_V_isNeedless [.ref (ad 0), .int (nI k)] m Rh := by
  refine ⟨Nat.le_of_ble_eq_true rfl, fun X hX => eV_isNeedless_0 hX ?_⟩
  unfold cV_isNeedless_0
  cases he : v.ent k with
  | none => exact q_ent hR hk rfl rfl <| xr_get (hR.e0 hk he) rfl <| xr_astoreq xm_ref_n <| xr_aloadq rfl xm_ref_n <| xr_isnull <| xr_push <| xr_zret (Or.inl rfl) (by simpa [ndl, he, bI] using h)
  | some e =>
    obtain ⟨c, hh, p⟩ := e
    obtain ⟨a, g1, g2⟩ := hR.e1 hk he
    have hwe := hw.2.2.2 k hk c hh p he
    refine q_ent hR hk rfl rfl <| xr_get g1 rfl <| xr_astore <| xr_aload rfl <| xr_nonnull <| xr_aload rfl <| xr_get g2 rfl <| xr_if (fun h1 => ?_) (fun h1 => ?_)
    · rw [bI_0] at h1
      exact xr_aload rfl <| xr_aload rfl <| xr_get hR.vt rfl <| xr_callV (by decide) (by decide) rfl (by decide) g2 <| p_C_isExpired g2 <| xr_zret (bI_01 _) (by simpa [ndl, he, h1] using h)
    · rw [bI_0] at h1
      refine xr_aload rfl <| xr_aload rfl <| xr_callV (by decide) (by decide) rfl (by decide) hR.vt <| p_V_hidesAnother hR hw g2 hwe.1 <| xr_if (fun h2 => ?_) (fun h2 => ?_)
      · rw [bI_0] at h2
        exact xr_push <| xr_zret (Or.inr rfl) (by simpa [ndl, he, h1, h2, bI] using h)
      · rw [bI_0] at h2
        exact xr_push <| xr_zret (Or.inl rfl) (by simpa [ndl, he, h1, h2, bI] using h)
theorem sealB_wf (hw : Wf v) {b : Nat} (hs : v.sls + 1 < 2 ^ 30) : Wf (sealB v b) := (hw.setB (x := (2, v.sls, v.wai b)) (by show 2 ≤ 4; omega) (by show v.sls < 2 ^ 30; omega)).setI hs
theorem p_V_currentWithRoom (hR : Rep ad m v) (hw : Wf v) (hsl : v.sls + 1 < 2 ^ 30) {s : Nat} (hs : s ≤ 6) (h1 : ∀ e, cwr v s = .inl e → Rh (some (.int e)) m) (h2 : ∀ f v1 m', cwr v s = .inr (f, v1) → f < 8 → Rep ad m' v1 → Wf v1 → FrC m m' → Rh (some (.int (nI f))) m') : cp_V_currentWithRoom [.ref (ad 0), .int (nI s)] m Rh := by
  refine ⟨Nat.le_of_ble_eq_true rfl, fun X hX => eV_currentWithRoom_0 hX ?_⟩
  -- the new CURRENT block
  have J73 : ∀ f m1 (v1 : Vt) (r3 : xm_L), f < 8 → Rep ad m1 v1 → Wf v1 → FrC m m1 → cwr v s = .inr (f, opn v1 f) → cV_currentWithRoom_73 X Rh [(0, .ref (ad 0)), (3, .int (nI f))] [] m1 0 0 := by
    intro f m1 v1 _ hf hR1 hW1 hF1 hc
    unfold cV_currentWithRoom_73
    refine q_blk hR1 hf rfl rfl <| xr_push <| xr_put (hR1.bk hf) (by simp) rfl rfl rfl <| xr_iload rfl <| xr_iret ?_
    exact h2 f (opn v1 f) _ hc hf (hR1.upB2 hf (1, v1.sat f, v1.wai f)) (hW1.setB (x := (1, v1.sat f, v1.wai f)) (by show 1 ≤ 4; omega) (hW1.1 f hf).2) (hF1.tr (FrC.up (hR1.bk hf) rfl))
  unfold cV_currentWithRoom_0
  refine xr_aload rfl <| xr_push <| xr_callV (by decide) (by decide) rfl (by decide) hR.vt <| p_V_leastInState hR hw (s := 1) rfl (by decide) <| xr_istore <| ?_
  cases hc : lis v 1 8 0 with
  | none =>
    refine xr_iload rfl <| xr_push <| xr_cmpt rfl <| xr_jmp rfl ?_
    unfold cV_currentWithRoom_32
    refine xr_iload rfl <| xr_push <| xr_cmpt rfl <| xr_jmp rfl ?_
    unfold cV_currentWithRoom_49
    refine xr_aload rfl <| xr_push <| xr_callV (by decide) (by decide) rfl (by decide) hR.vt <| p_V_leastInState hR hw (s := 0) rfl (by decide) <| xr_istore <| ?_
    cases hf : lis v 0 8 0 with
    | none => exact xr_iload rfl <| xr_push <| xr_cmpt rfl <| xr_push <| xr_iret (h1 _ (by simp [cwr, hc, hf]))
    | some f =>
      have hf8 := lis8 hf
      exact xr_iload rfl <| xr_push <| xr_cmpf (nI_m1 (by omega)) <| xr_iload rfl <| xr_push <| xr_cmpt rfl <| xr_jmp rfl (J73 f m v [] hf8 hR hw FrC.rf (by simp [cwr, hc, hf]))
  | some b =>
    have hb8 := lis8 hc
    have hlen := hR.len (r := b) (by omega)
    have hz := szs_le (l := v.row b) (fun c hc => hw.2.2.1 b (by omega) c hc)
    have J32 : ¬ szs (v.row b) + s ≤ 12 → cV_currentWithRoom_32 X Rh [(0, .ref (ad 0)), (2, .int (nI b))] [] m 0 0 := by
      intro hn
      have J49 : ¬ 3 ≤ cis v 2 8 0 0 → cV_currentWithRoom_49 X Rh [(0, .ref (ad 0)), (2, .int (nI b))] [] m 0 0 := by
        intro hn2
        unfold cV_currentWithRoom_49
        refine xr_aload rfl <| xr_push <| xr_callV (by decide) (by decide) rfl (by decide) hR.vt <| p_V_leastInState hR hw (s := 0) rfl (by decide) <| xr_istore <| ?_
        cases hf : lis v 0 8 0 with
        | none => exact xr_iload rfl <| xr_push <| xr_cmpt rfl <| xr_push <| xr_iret (h1 _ (by simp [cwr, hc, hf, hn, hn2]))
        | some f =>
          have hf8 := lis8 hf
          refine xr_iload rfl <| xr_push <| xr_cmpf (nI_m1 (by omega)) <| xr_iload rfl <| xr_push <| xr_cmpf (nI_m1 (by omega)) <| xr_aload rfl <| xr_iload rfl <| xr_callV (by decide) (by decide) rfl (by decide) hR.vt <| p_V_sealBlock hR hb8 (fun m1 hR1 hF1 => ?_)
          exact xr_jmp rfl (J73 f m1 _ [] hf8 hR1 (sealB_wf hw hsl) hF1 (by simp [cwr, hc, hf, hn, hn2]))
      unfold cV_currentWithRoom_32
      have hci := cis_le (v := v) (s := 2) 8 0 0
      refine xr_iload rfl <| xr_push <| xr_cmpf (nI_m1 (by omega)) <| xr_aload rfl <| xr_push <| xr_callV (by decide) (by decide) rfl (by decide) hR.vt <| p_V_countInState hR hw (s := 2) rfl (by decide) <| xr_push <| xr_cmp (fun h3 => ?_) (fun h3 => ?_)
      · rw [nI_ltI (by omega) (by omega)] at h3
        exact xr_jmp rfl (J49 (by omega))
      · rw [nI_ltI (by omega) (by omega)] at h3
        exact xr_push <| xr_iret (h1 _ (by simp [cwr, hc, hn, show 3 ≤ cis v 2 8 0 0 by omega]))
    refine xr_iload rfl <| xr_push <| xr_cmpf (nI_m1 (by omega)) <| q_blk hR hb8 rfl rfl <| xr_get (hR.bk hb8) rfl <| xr_callV (by decide) (by decide) rfl (by decide) (hR.rw (by omega)) <| p_R_sizes hR (by omega) <| xr_iload rfl <| xr_ibin <| xr_push <| ?_
    rw [nI_add]
    refine xr_cmp (fun h3 => ?_) (fun h3 => ?_)
    · rw [nI_ltI (by omega) (by omega)] at h3
      exact xr_jmp rfl (J32 (by omega))
    · rw [nI_ltI (by omega) (by omega)] at h3
      exact xr_iload rfl <| xr_iret (h2 b v m (by simp [cwr, hc, show szs (v.row b) + s ≤ 12 by omega]) hb8 hR hw FrC.rf)
end
