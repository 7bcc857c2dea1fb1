/-! the law's calls, one by one; written by wip/tools/gen_law.py -/
def lwL (b i : Nat) (ad am : Nat → Nat) : xm_L := [(0, .ref b), (1, .ref (ad 0)), (2, .ref (am 0)), (3, .int (nI i))]
def lwN (X : Nat → xm_PT) (b i : Nat) (ad am : Nat → Nat) (B bc bs : Nat) : Prop := ∀ v' m' bc' bs', Rep ad m' v' → QM am m' v' → Inv (B + 40) v' → bc ≤ bc' + 16 → bs ≤ bs' + 112 → X 18 (lwL b (i + 6) ad am) [] m' bc' bs'
theorem QM.fr {am : Nat → Nat} {m m' : xm_M} {v : Vt} (h : QM am m v) (hf : FrC m m') : QM am m' v := by
  obtain ⟨A, h1, h2⟩ := h
  exact ⟨A, h1.fr hf, h2⟩
theorem QM.vt {am : Nat → Nat} {m : xm_M} {v : Vt} (h : QM am m v) : ∃ fs, m (am 0) = some (.inr (5, fs)) := by
  obtain ⟨A, h1, h2⟩ := h
  exact ⟨_, h1.2.1⟩
theorem inv_siz {B : Nat} {v : Vt} (h : Inv B v) : ∀ k, k < 16 → ∀ c h p, v.ent k = some (c, h, p) → 1 ≤ c.siz := by
  intro k hk c hh p he
  obtain ⟨h1, h2, -⟩ := h.p.ent k hk c hh p he
  exact ((h.p.row hh (by omega)).1 c (List.mem_of_getElem? h2)).2.1
theorem lg_cmp_self (x : Int64) : lg_cmp x x = 0 := by simp [lg_cmp]
theorem sl_arg {K : xm_PT} {ls : xm_L} {st : List Value} {m : xm_M} {bc bs b L i j : Nat} {xs : Nat → Int32} {d : Int32} (hd : d = nI j) (hj : i + j < L) (hL : L ≤ 3072) (h0 : xm_lk ls 0 = some (.ref b)) (h3 : xm_lk ls 3 = some (.int (nI i))) (k : K ls (.int (xs (i + j)) :: st) m bc bs) : xo_aload 0 (xo_iload 3 (xo_push (.int d) (xo_ibin (fun x y => x + y) (xo_sld b L xs K)))) ls st m bc bs := by
  subst hd
  exact xr_aload h0 <| xr_iload h3 <| xr_push <| xr_ibin <| xr_sld (nI_add i j) hj (by omega) k
section
variable {X : Nat → xm_PT} {Rh : Option Value → xm_M → Prop} {b L i B bc bs : Nat} {xs : Nat → Int32} {ad am : Nat → Nat} {v : Vt} {m : xm_M}
theorem lc_put (hR : Rep ad m v) (hQ : QM am m v) (hI : Inv B v) (hB : B + 40 < 2 ^ 30) (hi : i + 6 ≤ L) (hL : L ≤ 3072) (hbc : 16 ≤ bc) (hbs : 112 ≤ bs) (N : lwN X b i ad am B bc bs) : claw_120 b L xs X Rh (lwL b i ad am) [] m bc bs := by
  have hw : Wf v := hI.p.wf (by omega)
  unfold claw_120 lwL
  refine xr_aload rfl <| sl_arg (j := 1) (by decide) (by omega) hL rfl rfl <| sl_arg (j := 2) (by decide) (by omega) hL rfl rfl <| sl_arg (j := 3) (by decide) (by omega) hL rfl rfl <| sl_arg (j := 4) (by decide) (by omega) hL rfl rfl <| sl_arg (j := 5) (by decide) (by omega) hL rfl rfl <| xr_callV (by omega) (by omega) rfl (by simp) hR.vt <| p_V_put hR hw (inv_FIT hI.p (by omega)) (fun m1 hR1 hw1 f1 => ?_)
  obtain ⟨fs, hq⟩ := (hQ.fr f1).vt
  refine xr_aload rfl <| sl_arg (j := 1) (by decide) (by omega) hL rfl rfl <| sl_arg (j := 2) (by decide) (by omega) hL rfl rfl <| sl_arg (j := 3) (by decide) (by omega) hL rfl rfl <| sl_arg (j := 4) (by decide) (by omega) hL rfl rfl <| sl_arg (j := 5) (by decide) (by omega) hL rfl rfl <| xr_callV (by omega) (by omega) rfl (by simp) hq <| p_M_put (hQ.fr f1) hI (by omega) (fun m2 hQ2 f2 => ?_)
  refine xr_cmpt rfl ?_
  refine xr_iinc rfl <| xr_jmp rfl ?_
  rw [nI_add]
  exact N _ m2 _ _ (hR1.frM f2) hQ2 (inv_put hI) (by omega) (by omega)
theorem lc_get (hR : Rep ad m v) (hQ : QM am m v) (hI : Inv B v) (hB : B + 40 < 2 ^ 30) (hi : i + 6 ≤ L) (hL : L ≤ 3072) (hbc : 16 ≤ bc) (hbs : 112 ≤ bs) (N : lwN X b i ad am B bc bs) : claw_183 b L xs X Rh (lwL b i ad am) [] m bc bs := by
  have hw : Wf v := hI.p.wf (by omega)
  unfold claw_183 lwL
  obtain ⟨fs, hq⟩ := hQ.vt
  refine xr_aload rfl <| sl_arg (j := 1) (by decide) (by omega) hL rfl rfl <| xr_callV (by omega) (by omega) rfl (by simp) hR.vt <| p_V_get hR ?_
  refine xr_aload rfl <| sl_arg (j := 1) (by decide) (by omega) hL rfl rfl <| xr_callV (by omega) (by omega) rfl (by simp) hq <| p_M_get hQ hI ?_
  refine xr_lcmp <| xr_ift (lg_cmp_self _) ?_
  refine xr_iinc rfl <| xr_jmp rfl ?_
  rw [nI_add]
  exact N _ m _ _ hR hQ (hI.mono (by omega)) (by omega) (by omega)
theorem lc_touch (hR : Rep ad m v) (hQ : QM am m v) (hI : Inv B v) (hB : B + 40 < 2 ^ 30) (hi : i + 6 ≤ L) (hL : L ≤ 3072) (hbc : 16 ≤ bc) (hbs : 112 ≤ bs) (N : lwN X b i ad am B bc bs) : claw_207 b L xs X Rh (lwL b i ad am) [] m bc bs := by
  have hw : Wf v := hI.p.wf (by omega)
  unfold claw_207 lwL
  refine xr_aload rfl <| sl_arg (j := 1) (by decide) (by omega) hL rfl rfl <| sl_arg (j := 2) (by decide) (by omega) hL rfl rfl <| xr_callV (by omega) (by omega) rfl (by simp) hR.vt <| p_V_touch hR hw (inv_FIT hI.p (by omega)) (inv_siz hI) (fun m1 hR1 hw1 f1 => ?_)
  obtain ⟨fs, hq⟩ := (hQ.fr f1).vt
  refine xr_aload rfl <| sl_arg (j := 1) (by decide) (by omega) hL rfl rfl <| sl_arg (j := 2) (by decide) (by omega) hL rfl rfl <| xr_callV (by omega) (by omega) rfl (by simp) hq <| p_M_touch (hQ.fr f1) hI (by omega) (fun m2 hQ2 f2 => ?_)
  refine xr_cmpt rfl ?_
  refine xr_iinc rfl <| xr_jmp rfl ?_
  rw [nI_add]
  exact N _ m2 _ _ (hR1.frM f2) hQ2 (inv_touch hI) (by omega) (by omega)
theorem lc_remove (hR : Rep ad m v) (hQ : QM am m v) (hI : Inv B v) (hB : B + 40 < 2 ^ 30) (hi : i + 6 ≤ L) (hL : L ≤ 3072) (hbc : 16 ≤ bc) (hbs : 112 ≤ bs) (N : lwN X b i ad am B bc bs) : claw_240 b L xs X Rh (lwL b i ad am) [] m bc bs := by
  have hw : Wf v := hI.p.wf (by omega)
  unfold claw_240 lwL
  have tail : ∀ z : Int32, (xs (i + 2) = 0 → z = 0) → (¬ xs (i + 2) = 0 → z = 1) → claw_259 b L xs X Rh (lwL b i ad am) [.int z, .int (xs (i + 1)), .ref (ad 0)] m bc bs := by
    intro z hz0 hz1
    unfold claw_259 lwL
    refine xr_callV (by omega) (by omega) rfl (by simp) hR.vt <| p_V_remove hR hw (inv_FIT hI.p (by omega)) (fun m1 hR1 hw1 f1 => ?_)
    obtain ⟨fs, hq⟩ := (hQ.fr f1).vt
    have tail2 : claw_281 b L xs X Rh (lwL b i ad am) [.int z, .int (xs (i + 1)), .ref (am 0), .int (Fremove v (xs (i + 1)) z).1] m1 (bc - 1) (bs - 7) := by
      unfold claw_281 lwL
      refine xr_callV (by omega) (by omega) rfl (by simp) hq <| p_M_remove (hQ.fr f1) hI (by omega) (fun m2 hQ2 f2 => ?_)
      refine xr_cmpt rfl ?_
      refine xr_iinc rfl <| xr_jmp rfl ?_
      rw [nI_add]
      exact N _ m2 _ _ (hR1.frM f2) hQ2 (inv_remove hI) (by omega) (by omega)
    refine xr_aload rfl <| sl_arg (j := 1) (by decide) (by omega) hL rfl rfl <| sl_arg (j := 2) (by decide) (by omega) hL rfl rfl <| xr_if (fun h0 => ?_) (fun h0 => ?_)
    · have := hz0 h0
      subst this
      exact xr_push <| xr_jmp rfl tail2
    · have := hz1 h0
      subst this
      exact xr_push <| xr_jmp rfl tail2
  refine xr_aload rfl <| sl_arg (j := 1) (by decide) (by omega) hL rfl rfl <| sl_arg (j := 2) (by decide) (by omega) hL rfl rfl <| xr_if (fun h0 => ?_) (fun h0 => ?_)
  · exact xr_push <| xr_jmp rfl (tail 0 (fun _ => rfl) (fun q => absurd h0 q))
  · exact xr_push <| xr_jmp rfl (tail 1 (fun q => absurd q h0) (fun _ => rfl))
theorem lc_evict (hR : Rep ad m v) (hQ : QM am m v) (hI : Inv B v) (hB : B + 40 < 2 ^ 30) (hi : i + 6 ≤ L) (hL : L ≤ 3072) (hbc : 16 ≤ bc) (hbs : 112 ≤ bs) (N : lwN X b i ad am B bc bs) : claw_289 b L xs X Rh (lwL b i ad am) [] m bc bs := by
  have hw : Wf v := hI.p.wf (by omega)
  unfold claw_289 lwL
  refine xr_aload rfl <| sl_arg (j := 1) (by decide) (by omega) hL rfl rfl <| xr_callV (by omega) (by omega) rfl (by simp) hR.vt <| p_V_evict (Pev (B + 40)) (Pev_step (by omega)) hR hw (fun hd => ⟨B, hI, hd, by omega⟩) Pev_mono (fun m1 hR1 hw1 f1 => ?_)
  obtain ⟨fs, hq⟩ := (hQ.fr f1).vt
  refine xr_aload rfl <| sl_arg (j := 1) (by decide) (by omega) hL rfl rfl <| xr_callV (by omega) (by omega) rfl (by simp) hq <| p_M_evict (hQ.fr f1) hI hB (fun m2 hQ2 f2 => ?_)
  refine xr_cmpt rfl ?_
  refine xr_iinc rfl <| xr_jmp rfl ?_
  rw [nI_add]
  exact N _ m2 _ _ (hR1.frM f2) hQ2 (inv_evict hI) (by omega) (by omega)
theorem lc_tick (hR : Rep ad m v) (hQ : QM am m v) (hI : Inv B v) (hB : B + 40 < 2 ^ 30) (hi : i + 6 ≤ L) (hL : L ≤ 3072) (hbc : 16 ≤ bc) (hbs : 112 ≤ bs) (N : lwN X b i ad am B bc bs) : claw_312 b L xs X Rh (lwL b i ad am) [] m bc bs := by
  have hw : Wf v := hI.p.wf (by omega)
  unfold claw_312 lwL
  refine xr_aload rfl <| sl_arg (j := 1) (by decide) (by omega) hL rfl rfl <| xr_callV (by omega) (by omega) rfl (by simp) hR.vt <| p_V_tick hR hw  (fun m1 hR1 hw1 f1 => ?_)
  obtain ⟨fs, hq⟩ := (hQ.fr f1).vt
  refine xr_aload rfl <| sl_arg (j := 1) (by decide) (by omega) hL rfl rfl <| xr_callV (by omega) (by omega) rfl (by simp) hq <| p_M_tick (hQ.fr f1)  (fun m2 hQ2 f2 => ?_)
  refine xr_cmpt rfl ?_
  refine xr_iinc rfl <| xr_jmp rfl ?_
  rw [nI_add]
  exact N _ m2 _ _ (hR1.frM f2) hQ2 (inv_tick hI) (by omega) (by omega)
theorem lc_sweep (hR : Rep ad m v) (hQ : QM am m v) (hI : Inv B v) (hB : B + 40 < 2 ^ 30) (hi : i + 6 ≤ L) (hL : L ≤ 3072) (hbc : 16 ≤ bc) (hbs : 112 ≤ bs) (N : lwN X b i ad am B bc bs) : claw_335 b L xs X Rh (lwL b i ad am) [] m bc bs := by
  have hw : Wf v := hI.p.wf (by omega)
  unfold claw_335 lwL
  refine xr_aload rfl <| xr_callV (by omega) (by omega) rfl (by simp) hR.vt <| p_V_sweep hR hw  (fun m1 hR1 hw1 f1 => ?_)
  obtain ⟨fs, hq⟩ := (hQ.fr f1).vt
  refine xr_aload rfl <| xr_callV (by omega) (by omega) rfl (by simp) hq <| p_M_sweep (hQ.fr f1) hI (by omega) (fun m2 hQ2 f2 => ?_)
  refine xr_cmpt rfl ?_
  refine xr_iinc rfl <| xr_jmp rfl ?_
  rw [nI_add]
  exact N _ m2 _ _ (hR1.frM f2) hQ2 (inv_sweep hI) (by omega) (by omega)
theorem lc_seal (hR : Rep ad m v) (hQ : QM am m v) (hI : Inv B v) (hB : B + 40 < 2 ^ 30) (hi : i + 6 ≤ L) (hL : L ≤ 3072) (hbc : 16 ≤ bc) (hbs : 112 ≤ bs) (N : lwN X b i ad am B bc bs) : claw_348 b L xs X Rh (lwL b i ad am) [] m bc bs := by
  have hw : Wf v := hI.p.wf (by omega)
  unfold claw_348 lwL
  refine xr_aload rfl <| xr_callV (by omega) (by omega) rfl (by simp) hR.vt <| p_V_seal hR hw (by have := hI.p.bnd.1; omega) (fun m1 hR1 hw1 f1 => ?_)
  obtain ⟨fs, hq⟩ := (hQ.fr f1).vt
  refine xr_aload rfl <| xr_callV (by omega) (by omega) rfl (by simp) hq <| p_M_seal (hQ.fr f1) hI (by omega) (fun m2 hQ2 f2 => ?_)
  refine xr_cmpt rfl ?_
  refine xr_iinc rfl <| xr_jmp rfl ?_
  rw [nI_add]
  exact N _ m2 _ _ (hR1.frM f2) hQ2 (inv_sealF hI) (by omega) (by omega)
theorem lc_flush (hR : Rep ad m v) (hQ : QM am m v) (hI : Inv B v) (hB : B + 40 < 2 ^ 30) (hi : i + 6 ≤ L) (hL : L ≤ 3072) (hbc : 16 ≤ bc) (hbs : 112 ≤ bs) (N : lwN X b i ad am B bc bs) : claw_361 b L xs X Rh (lwL b i ad am) [] m bc bs := by
  have hw : Wf v := hI.p.wf (by omega)
  unfold claw_361 lwL
  refine xr_aload rfl <| sl_arg (j := 1) (by decide) (by omega) hL rfl rfl <| xr_callV (by omega) (by omega) rfl (by simp) hR.vt <| p_V_flush hR hw  (fun m1 hR1 hw1 f1 => ?_)
  obtain ⟨fs, hq⟩ := (hQ.fr f1).vt
  refine xr_aload rfl <| sl_arg (j := 1) (by decide) (by omega) hL rfl rfl <| xr_callV (by omega) (by omega) rfl (by simp) hq <| p_M_flush (hQ.fr f1) hI (by omega) (fun m2 hQ2 f2 => ?_)
  refine xr_cmpt rfl ?_
  refine xr_iinc rfl <| xr_jmp rfl ?_
  rw [nI_add]
  exact N _ m2 _ _ (hR1.frM f2) hQ2 (inv_flush hI) (by omega) (by omega)
theorem lc_compact (hR : Rep ad m v) (hQ : QM am m v) (hI : Inv B v) (hB : B + 40 < 2 ^ 30) (hi : i + 6 ≤ L) (hL : L ≤ 3072) (hbc : 16 ≤ bc) (hbs : 112 ≤ bs) (N : lwN X b i ad am B bc bs) : claw_384 b L xs X Rh (lwL b i ad am) [] m bc bs := by
  have hw : Wf v := hI.p.wf (by omega)
  unfold claw_384 lwL
  refine xr_aload rfl <| sl_arg (j := 1) (by decide) (by omega) hL rfl rfl <| xr_callV (by omega) (by omega) rfl (by simp) hR.vt <| p_V_compact hR hw (inv_mok hI (by omega)) (fun m1 hR1 hw1 f1 => ?_)
  obtain ⟨fs, hq⟩ := (hQ.fr f1).vt
  refine xr_aload rfl <| sl_arg (j := 1) (by decide) (by omega) hL rfl rfl <| xr_callV (by omega) (by omega) rfl (by simp) hq <| p_M_compact (hQ.fr f1) hI (by omega) (fun m2 hQ2 f2 => ?_)
  refine xr_cmpt rfl ?_
  refine xr_iinc rfl <| xr_jmp rfl ?_
  rw [nI_add]
  exact N _ m2 _ _ (hR1.frM f2) hQ2 (inv_compact hI) (by omega) (by omega)
theorem lc_crash (hR : Rep ad m v) (hQ : QM am m v) (hI : Inv B v) (hB : B + 40 < 2 ^ 30) (hi : i + 6 ≤ L) (hL : L ≤ 3072) (hbc : 16 ≤ bc) (hbs : 112 ≤ bs) (N : lwN X b i ad am B bc bs) : claw_407 b L xs X Rh (lwL b i ad am) [] m bc bs := by
  have hw : Wf v := hI.p.wf (by omega)
  unfold claw_407 lwL
  refine xr_aload rfl <| sl_arg (j := 1) (by decide) (by omega) hL rfl rfl <| xr_callV (by omega) (by omega) rfl (by simp) hR.vt <| p_V_crash hR hw  (fun m1 hR1 hw1 f1 => ?_)
  obtain ⟨fs, hq⟩ := (hQ.fr f1).vt
  refine xr_aload rfl <| sl_arg (j := 1) (by decide) (by omega) hL rfl rfl <| xr_callV (by omega) (by omega) rfl (by simp) hq <| p_M_crash (hQ.fr f1) hI (by omega) (fun m2 hQ2 f2 => ?_)
  refine xr_cmpt rfl ?_
  refine xr_iinc rfl <| xr_jmp rfl ?_
  rw [nI_add]
  exact N _ m2 _ _ (hR1.frM f2) hQ2 (inv_crash hI) (by omega) (by omega)
theorem lc_start (hR : Rep ad m v) (hQ : QM am m v) (hI : Inv B v) (hB : B + 40 < 2 ^ 30) (hi : i + 6 ≤ L) (hL : L ≤ 3072) (hbc : 16 ≤ bc) (hbs : 112 ≤ bs) (N : lwN X b i ad am B bc bs) : claw_430 b L xs X Rh (lwL b i ad am) [] m bc bs := by
  have hw : Wf v := hI.p.wf (by omega)
  unfold claw_430 lwL
  refine xr_aload rfl <| xr_callV (by omega) (by omega) rfl (by simp) hR.vt <| p_V_start hR hw  (fun m1 hR1 hw1 f1 => ?_)
  obtain ⟨fs, hq⟩ := (hQ.fr f1).vt
  refine xr_aload rfl <| xr_callV (by omega) (by omega) rfl (by simp) hq <| p_M_start (hQ.fr f1) hI (by omega) (fun m2 hQ2 f2 => ?_)
  refine xr_cmpt rfl ?_
  refine xr_iinc rfl <| xr_jmp rfl ?_
  rw [nI_add]
  exact N _ m2 _ _ (hR1.frM f2) hQ2 (inv_start hI (by omega)) (by omega) (by omega)
theorem lc_entry (hR : Rep ad m v) (hQ : QM am m v) (hI : Inv B v) (hB : B + 40 < 2 ^ 30) (hi : i + 6 ≤ L) (hL : L ≤ 3072) (hbc : 16 ≤ bc) (hbs : 112 ≤ bs) (N : lwN X b i ad am B bc bs) : claw_443 b L xs X Rh (lwL b i ad am) [] m bc bs := by
  have hw : Wf v := hI.p.wf (by omega)
  unfold claw_443 lwL
  obtain ⟨fs, hq⟩ := hQ.vt
  refine xr_aload rfl <| sl_arg (j := 1) (by decide) (by omega) hL rfl rfl <| sl_arg (j := 2) (by decide) (by omega) hL rfl rfl <| xr_callV (by omega) (by omega) rfl (by simp) hR.vt <| p_V_entry hR ?_
  refine xr_aload rfl <| sl_arg (j := 1) (by decide) (by omega) hL rfl rfl <| sl_arg (j := 2) (by decide) (by omega) hL rfl rfl <| xr_callV (by omega) (by omega) rfl (by simp) hq <| p_M_entry hQ hI ?_
  refine xr_cmpt rfl ?_
  refine xr_iinc rfl <| xr_jmp rfl ?_
  rw [nI_add]
  exact N _ m _ _ hR hQ (hI.mono (by omega)) (by omega) (by omega)
theorem lc_next (hR : Rep ad m v) (hQ : QM am m v) (hI : Inv B v) (hB : B + 40 < 2 ^ 30) (hi : i + 6 ≤ L) (hL : L ≤ 3072) (hbc : 16 ≤ bc) (hbs : 112 ≤ bs) (N : lwN X b i ad am B bc bs) : claw_476 b L xs X Rh (lwL b i ad am) [] m bc bs := by
  have hw : Wf v := hI.p.wf (by omega)
  unfold claw_476 lwL
  obtain ⟨fs, hq⟩ := hQ.vt
  refine xr_aload rfl <| sl_arg (j := 1) (by decide) (by omega) hL rfl rfl <| xr_callV (by omega) (by omega) rfl (by simp) hR.vt <| p_V_next hR ?_
  refine xr_aload rfl <| sl_arg (j := 1) (by decide) (by omega) hL rfl rfl <| xr_callV (by omega) (by omega) rfl (by simp) hq <| p_M_next hQ hI ?_
  refine xr_cmpt rfl ?_
  refine xr_iinc rfl <| xr_jmp rfl ?_
  rw [nI_add]
  exact N _ m _ _ hR hQ (hI.mono (by omega)) (by omega) (by omega)
theorem lc_rank (hR : Rep ad m v) (hQ : QM am m v) (hI : Inv B v) (hB : B + 40 < 2 ^ 30) (hi : i + 6 ≤ L) (hL : L ≤ 3072) (hbc : 16 ≤ bc) (hbs : 112 ≤ bs) (N : lwN X b i ad am B bc bs) : claw_499 b L xs X Rh (lwL b i ad am) [] m bc bs := by
  have hw : Wf v := hI.p.wf (by omega)
  unfold claw_499 lwL
  obtain ⟨fs, hq⟩ := hQ.vt
  refine xr_aload rfl <| sl_arg (j := 1) (by decide) (by omega) hL rfl rfl <| xr_callV (by omega) (by omega) rfl (by simp) hR.vt <| p_V_rank hR ?_
  refine xr_aload rfl <| sl_arg (j := 1) (by decide) (by omega) hL rfl rfl <| xr_callV (by omega) (by omega) rfl (by simp) hq <| p_M_rank hQ hI ?_
  refine xr_cmpt rfl ?_
  refine xr_iinc rfl <| xr_jmp rfl ?_
  rw [nI_add]
  exact N _ m _ _ hR hQ (hI.mono (by omega)) (by omega) (by omega)
theorem lc_block (hR : Rep ad m v) (hQ : QM am m v) (hI : Inv B v) (hB : B + 40 < 2 ^ 30) (hi : i + 6 ≤ L) (hL : L ≤ 3072) (hbc : 16 ≤ bc) (hbs : 112 ≤ bs) (N : lwN X b i ad am B bc bs) : claw_522 b L xs X Rh (lwL b i ad am) [] m bc bs := by
  have hw : Wf v := hI.p.wf (by omega)
  unfold claw_522 lwL
  obtain ⟨fs, hq⟩ := hQ.vt
  refine xr_aload rfl <| sl_arg (j := 1) (by decide) (by omega) hL rfl rfl <| sl_arg (j := 2) (by decide) (by omega) hL rfl rfl <| xr_callV (by omega) (by omega) rfl (by simp) hR.vt <| p_V_block hR hw ?_
  refine xr_aload rfl <| sl_arg (j := 1) (by decide) (by omega) hL rfl rfl <| sl_arg (j := 2) (by decide) (by omega) hL rfl rfl <| xr_callV (by omega) (by omega) rfl (by simp) hq <| p_M_block hQ hI (by omega) ?_
  refine xr_cmpt rfl ?_
  refine xr_iinc rfl <| xr_jmp rfl ?_
  rw [nI_add]
  exact N _ m _ _ hR hQ (hI.mono (by omega)) (by omega) (by omega)
theorem lc_image (hR : Rep ad m v) (hQ : QM am m v) (hI : Inv B v) (hB : B + 40 < 2 ^ 30) (hi : i + 6 ≤ L) (hL : L ≤ 3072) (hbc : 16 ≤ bc) (hbs : 112 ≤ bs) (N : lwN X b i ad am B bc bs) : claw_555 b L xs X Rh (lwL b i ad am) [] m bc bs := by
  have hw : Wf v := hI.p.wf (by omega)
  unfold claw_555 lwL
  obtain ⟨fs, hq⟩ := hQ.vt
  refine xr_aload rfl <| sl_arg (j := 1) (by decide) (by omega) hL rfl rfl <| sl_arg (j := 2) (by decide) (by omega) hL rfl rfl <| xr_callV (by omega) (by omega) rfl (by simp) hR.vt <| p_V_image hR ?_
  refine xr_aload rfl <| sl_arg (j := 1) (by decide) (by omega) hL rfl rfl <| sl_arg (j := 2) (by decide) (by omega) hL rfl rfl <| xr_callV (by omega) (by omega) rfl (by simp) hq <| p_M_image hQ  ?_
  refine xr_cmpt rfl ?_
  refine xr_iinc rfl <| xr_jmp rfl ?_
  rw [nI_add]
  exact N _ m _ _ hR hQ (hI.mono (by omega)) (by omega) (by omega)
theorem lc_count (hR : Rep ad m v) (hQ : QM am m v) (hI : Inv B v) (hB : B + 40 < 2 ^ 30) (hi : i + 6 ≤ L) (hL : L ≤ 3072) (hbc : 16 ≤ bc) (hbs : 112 ≤ bs) (N : lwN X b i ad am B bc bs) : claw_588 b L xs X Rh (lwL b i ad am) [] m bc bs := by
  have hw : Wf v := hI.p.wf (by omega)
  unfold claw_588 lwL
  obtain ⟨fs, hq⟩ := hQ.vt
  refine xr_aload rfl <| sl_arg (j := 1) (by decide) (by omega) hL rfl rfl <| xr_callV (by omega) (by omega) rfl (by simp) hR.vt <| p_V_count hR ?_
  refine xr_aload rfl <| sl_arg (j := 1) (by decide) (by omega) hL rfl rfl <| xr_callV (by omega) (by omega) rfl (by simp) hq <| p_M_count hQ hI.p.ec ?_
  refine xr_cmpt rfl ?_
  refine xr_iinc rfl <| xr_jmp rfl ?_
  rw [nI_add]
  exact N _ m _ _ hR hQ (hI.mono (by omega)) (by omega) (by omega)
theorem lw_end (hL : L ≤ 3072) (hi : i < 2 ^ 31) : nI L - nI 6 < nI i ↔ L < i + 6 := by
  by_cases h6 : 6 ≤ L
  · have e : nI L - nI 6 = nI (L - 6) := by
      have := nI_add (L - 6) 6
      rw [show L - 6 + 6 = L by omega] at this
      rw [← this]
      exact Int32.add_sub_cancel _ _
    rw [e, nI_ltI (by omega) hi]; omega
  · have e : (nI L - nI 6).toInt = (L : Int) - 6 := by
      rcases (show L = 0 ∨ L = 1 ∨ L = 2 ∨ L = 3 ∨ L = 4 ∨ L = 5 by omega) with rfl | rfl | rfl | rfl | rfl | rfl <;> decide
    rw [Int32.lt_iff_toInt_lt, e, nI_toInt hi]; omega
end
theorem law_run {b L : Nat} {xs : Nat → Int32} (hL : L ≤ 3072) {X : Nat → xm_PT} {Rh : Option Value → xm_M → Prop} (hRh : ∀ m, Rh (some (.int 1)) m) (h0 : xm_le (claw_0 b L xs X Rh) (X 0)) (h18 : xm_le (claw_18 b L xs X Rh) (X 18)) : X 0 [(0, .ref b)] [] (fun _ => none) 10000 100000 := by
  have LO : ∀ n i ad am v m B bc bs, L ≤ i + 6 * n + 5 → n ≤ 512 → i ≤ 4000 → Rep ad m v → QM am m v → Inv B v → B + 40 * n + 40 < 2 ^ 30 → 16 * n ≤ bc → 112 * n ≤ bs → X 18 (lwL b i ad am) [] m bc bs := by
    intro n
    induction n with
    | zero =>
      intro i ad am v m B bc bs hLi hn hi hR hQ hI hB hbc hbs
      refine h18 _ _ _ _ _ ?_
      unfold claw_18 lwL
      exact xr_iload rfl <| xr_aload rfl <| xr_slen <| xr_push <| xr_ibin <| xr_cmpt ((lw_end hL (by omega)).mpr (by omega)) <| xr_push <| xr_zret (Or.inr rfl) (hRh m)
    | succ n ih =>
      intro i ad am v m B bc bs hLi hn hi hR hQ hI hB hbc hbs
      refine h18 _ _ _ _ _ ?_
      unfold claw_18
      refine xr_iload rfl <| xr_aload rfl <| xr_slen <| xr_push <| xr_ibin <| xr_cmp (fun hc => xr_push <| xr_zret (Or.inr rfl) (hRh m)) (fun hc => ?_)
      have hiL : i + 6 ≤ L := by
        have := mt (lw_end (i := i) hL (by omega)).mpr hc
        omega
      have N : lwN X b i ad am B bc bs := fun v' m' bc' bs' r1 r2 r3 r4 r5 => ih (i + 6) ad am v' m' (B + 40) bc' bs' (by omega) (by omega) (by omega) r1 r2 r3 (by omega) (by omega) (by omega)
      refine xr_aload rfl <| xr_iload rfl <| xr_sld rfl (by omega) (by omega) <| xr_push <| xr_ibin <| xr_tsw ?_
      refine xr_sw (fun _ => xr_jmp rfl (lc_put hR hQ hI (by omega) (by omega) hL (by omega) (by omega) N)) (fun _ => ?_)
      refine xr_sw (fun _ => xr_jmp rfl (lc_get hR hQ hI (by omega) (by omega) hL (by omega) (by omega) N)) (fun _ => ?_)
      refine xr_sw (fun _ => xr_jmp rfl (lc_touch hR hQ hI (by omega) (by omega) hL (by omega) (by omega) N)) (fun _ => ?_)
      refine xr_sw (fun _ => xr_jmp rfl (lc_remove hR hQ hI (by omega) (by omega) hL (by omega) (by omega) N)) (fun _ => ?_)
      refine xr_sw (fun _ => xr_jmp rfl (lc_evict hR hQ hI (by omega) (by omega) hL (by omega) (by omega) N)) (fun _ => ?_)
      refine xr_sw (fun _ => xr_jmp rfl (lc_tick hR hQ hI (by omega) (by omega) hL (by omega) (by omega) N)) (fun _ => ?_)
      refine xr_sw (fun _ => xr_jmp rfl (lc_sweep hR hQ hI (by omega) (by omega) hL (by omega) (by omega) N)) (fun _ => ?_)
      refine xr_sw (fun _ => xr_jmp rfl (lc_seal hR hQ hI (by omega) (by omega) hL (by omega) (by omega) N)) (fun _ => ?_)
      refine xr_sw (fun _ => xr_jmp rfl (lc_flush hR hQ hI (by omega) (by omega) hL (by omega) (by omega) N)) (fun _ => ?_)
      refine xr_sw (fun _ => xr_jmp rfl (lc_compact hR hQ hI (by omega) (by omega) hL (by omega) (by omega) N)) (fun _ => ?_)
      refine xr_sw (fun _ => xr_jmp rfl (lc_crash hR hQ hI (by omega) (by omega) hL (by omega) (by omega) N)) (fun _ => ?_)
      refine xr_sw (fun _ => xr_jmp rfl (lc_start hR hQ hI (by omega) (by omega) hL (by omega) (by omega) N)) (fun _ => ?_)
      refine xr_sw (fun _ => xr_jmp rfl (lc_entry hR hQ hI (by omega) (by omega) hL (by omega) (by omega) N)) (fun _ => ?_)
      refine xr_sw (fun _ => xr_jmp rfl (lc_next hR hQ hI (by omega) (by omega) hL (by omega) (by omega) N)) (fun _ => ?_)
      refine xr_sw (fun _ => xr_jmp rfl (lc_rank hR hQ hI (by omega) (by omega) hL (by omega) (by omega) N)) (fun _ => ?_)
      refine xr_sw (fun _ => xr_jmp rfl (lc_block hR hQ hI (by omega) (by omega) hL (by omega) (by omega) N)) (fun _ => ?_)
      refine xr_sw (fun _ => xr_jmp rfl (lc_image hR hQ hI (by omega) (by omega) hL (by omega) (by omega) N)) (fun _ => ?_)
      refine xr_sw (fun _ => xr_jmp rfl (lc_count hR hQ hI (by omega) (by omega) hL (by omega) (by omega) N)) (fun _ => ?_)
      refine xr_sd <| xr_iinc rfl <| xr_jmp rfl ?_
      rw [nI_add]
      exact N _ m _ _ hR hQ (hI.mono (by omega)) (by omega) (by omega)
  refine h0 _ _ _ _ _ ?_
  unfold claw_0
  refine xr_new (by decide) (by decide) (fun a ha => ?_)
  refine xr_dup rfl <| xr_callI (by decide) (by decide) rfl (by simp) <| p_V_init (xm_up_s _ _ _) (fun ad m1 had hR => ?_)
  subst had
  refine xr_astore <| xr_new (by decide) (by decide) (fun a2 ha2 => ?_)
  refine xr_dup rfl <| xr_callI (by decide) (by decide) rfl (by simp) <| p_M_init (xm_up_s _ _ _) (fun am m2 ham hQ hF => ?_)
  subst ham
  refine xr_astore <| xr_push <| xr_istore <| xr_jmp rfl ?_
  exact LO 512 0 ad am v0 m2 1 _ _ (by omega) (by decide) (by decide) ((hR.new ha2).frM hF) hQ inv_v0 (by decide) (by decide) (by decide)

