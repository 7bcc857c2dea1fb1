/-! every call keeps the invariant -/
section
variable {v u : Vt} {B C : Nat}
theorem gW_inv (h : Inv B v) (hd : v.dwn = false) {c : Cp} (hok : CpOk (B + 1) c) : Inv (B + 40) (gW v c).2 := by
  unfold gW ans
  cases hw : wri v c with
  | inl e => exact h.mono (by omega)
  | inr x => obtain ⟨f, v1⟩ := x; exact (wri_inv h hd hok hw).1.mono (by omega)
theorem ans_inv (h : Inv B v) (hd : v.dwn = false) {c : Cp} (hok : CpOk (B + 1) c) (ok : Nat → Int32) : Inv (B + 40) (ans v (wri v c) ok).2 := by
  unfold ans
  cases hw : wri v c with
  | inl e => exact h.mono (by omega)
  | inr x => obtain ⟨f, v1⟩ := x; exact (wri_inv h hd hok hw).1.mono (by omega)
theorem dfalse (h : ¬ v.dwn = true) : v.dwn = false := by cases hh : v.dwn with
  | true => exact absurd hh h
  | false => rfl
theorem inv_put (h : Inv B v) {key x size life rule : Int32} : Inv (B + 40) (Fput v key x size life rule).2 := by
  have hm : Inv (B + 40) v := h.mono (by omega)
  unfold Fput
  split
  · exact hm
  · rename_i hg
    split
    · exact hm
    · rename_i hd
      split
      · exact hm
      · have g1 : ¬ badK key := fun z => hg (Or.inl z)
        have g2 : ¬ size < 1 := fun z => hg (Or.inr (Or.inl z))
        have g3 : size ≤ nI 6 := Int32.not_lt.mp (fun z => hg (Or.inr (Or.inr (Or.inl z))))
        obtain ⟨k, hk, rfl⟩ := badK_not g1
        obtain ⟨s, hs1, hs6, rfl⟩ := rng_not (n := 6) (by omega) g2 g3
        rw [kk_nI (by omega), kk_nI (by omega)]
        exact gW_inv h (dfalse hd) (h.p.wrec hk hs1 hs6)
theorem inv_touch (h : Inv B v) {key life : Int32} : Inv (B + 40) (Ftouch v key life).2 := by
  have hm : Inv (B + 40) v := h.mono (by omega)
  unfold Ftouch
  split
  · exact hm
  · rename_i hg
    split
    · exact hm
    · rename_i hd
      split
      · exact hm
      · have g1 : ¬ badK key := fun z => hg (Or.inl z)
        obtain ⟨k, hk, rfl⟩ := badK_not g1
        rw [kk_nI (by omega)]
        cases he : v.ent k with
        | none => exact hm
        | some e =>
          obtain ⟨c, hh, p⟩ := e
          obtain ⟨i1, i2, i3⟩ := h.p.ent k hk c hh p he
          have hok := (h.p.row hh (by omega)).1 c (List.mem_of_getElem? i2)
          exact gW_inv h (dfalse hd) (h.p.wrec hk hok.2.1 hok.2.2.1)
theorem inv_remove (h : Inv B v) {key la : Int32} : Inv (B + 40) (Fremove v key la).2 := by
  have hm : Inv (B + 40) v := h.mono (by omega)
  unfold Fremove
  split
  · exact hm
  · rename_i g1
    split
    · exact hm
    · rename_i hd
      split
      · exact hm
      · obtain ⟨k, hk, rfl⟩ := badK_not g1
        rw [kk_nI (by omega)]
        split
        · show Inv (B + 40) (dre v k)
          rw [dre_eq h hk]
          exact (sfn_inv (setE_pinv h.p)).mono (by omega)
        · exact ans_inv h (dfalse hd) (h.p.wtmb hk) _
theorem fte16 {k : Nat} (h : fte v 16 0 none = some k) : k < 16 := by
  have := fte_lt 16 0 none k (fun y hy => by cases hy) h
  omega
theorem evl_inv : ∀ n v a B, Inv B v → v.dwn = false → Inv (B + 2 * n) (evl n v a).2 := by
  intro n
  induction n with
  | zero => intro v a B h _; exact h
  | succ n ih =>
    intro v a B h hd
    rw [evl]
    cases hf : fte v 16 0 none with
    | none => exact h.mono (by omega)
    | some k =>
      simp only []
      cases hw : wri v (wtmb v k) with
      | inl e => exact h.mono (by omega)
      | inr x =>
        obtain ⟨f, v1⟩ := x
        obtain ⟨i1, i2, -⟩ := wri_inv h hd (h.p.wtmb (fte16 hf)) hw
        have := ih v1 (a + 1) (B + 2) i1 i2
        rw [show B + 2 + 2 * n = B + 2 * (n + 1) by omega] at this
        exact this
theorem inv_evict (h : Inv B v) {n : Int32} : Inv (B + 40) (Fevict v n).2 := by
  have hm : Inv (B + 40) v := h.mono (by omega)
  unfold Fevict
  split
  · exact hm
  · rename_i hg
    split
    · exact hm
    · rename_i hd
      obtain ⟨N, hN1, hN16, rfl⟩ := rng_not (n := 16) (by omega) (fun z => hg (Or.inl z)) (Classical.byContradiction (fun z => hg (Or.inr z)))
      rw [kk_nI (by omega)]
      exact (evl_inv N v 0 B h (dfalse hd)).mono (by omega)
theorem inv_setI (h : Inv B v) {a b c : Int32} : Inv B (v.setI (a, v.nst, b, c, v.dwn, v.sls)) := ⟨Pinv.of (row := h.p.row) (ent := h.p.ent) (emt := h.p.emt) (img := h.p.img) (wai := h.p.wai) (sat := h.p.sat) (blk := h.p.blk) (sld := h.p.sld) (bnd := h.p.bnd) (dwn := h.p.dwn), h.lv, h.em⟩
theorem inv_tick (h : Inv B v) {n : Int32} : Inv (B + 40) (Ftick v n).2 := by
  unfold Ftick
  split
  · exact h.mono (by omega)
  · exact (inv_setI h).mono (by omega)
theorem inv_sweep (h : Inv B v) : Inv (B + 40) (Fsweep v).2 := by
  unfold Fsweep
  split
  · exact h.mono (by omega)
  · obtain ⟨e1, e2⟩ := swl_swm 16 0 v 0 rfl h.p
    rw [h.sfn] at e1
    rw [e1]
    exact (sfn_inv e2).mono (by omega)
theorem inv_sealF (h : Inv B v) : Inv (B + 40) (Fseal v).2 := by
  have hm : Inv (B + 40) v := h.mono (by omega)
  unfold Fseal
  split
  · exact hm
  · rename_i hd
    cases hl : lis v 1 8 0 with
    | none => exact hm
    | some b =>
      show Inv (B + 40) (if 3 ≤ cis v 2 8 0 0 then ((-5 : Int32), v) else (1, sealB v b)).2
      split
      · exact hm
      · rename_i hc
        exact (inv_seal h (lis8 hl) (lis_lt 8 0 b hl).2.2 hc (dfalse hd)).mono (by omega)
theorem flb_inv : ∀ n v a, Inv B v → Inv B (flb n v a).2 := by
  intro n
  induction n with
  | zero => intro v a h; exact h
  | succ n ih =>
    intro v a h
    rw [flb]
    cases hl : lgs v 8 0 none with
    | none => exact h
    | some b =>
      obtain ⟨hb, hs⟩ := lgs_s2 hl
      exact ih (wbk v b) (a + 1) (wbk_inv h hb hs).1
theorem inv_flush (h : Inv B v) {n : Int32} : Inv (B + 40) (Fflush v n).2 := by
  have hm : Inv (B + 40) v := h.mono (by omega)
  unfold Fflush
  split
  · exact hm
  · split
    · exact hm
    · exact (inv_setI (flb_inv _ v 0 h)).mono (by omega)
theorem spw8 {x n : Nat} (h : spw v 8 0 none n = some x) : x < 8 := by
  have := spw_lt 8 0 none n x (fun y hy => by cases hy) h
  omega
theorem inv_compact (h : Inv B v) {n : Int32} : Inv (B + 40) (Fcompact v n).2 := by
  have hm : Inv (B + 40) v := h.mono (by omega)
  unfold Fcompact
  split
  · exact hm
  · split
    · exact hm
    · rename_i hd
      cases hl : spw v 8 0 none (kk n) with
      | none => exact hm
      | some b =>
        show Inv (B + 40) (addM (mlc b 12 v 0 0).2 (mlc b 12 v 0 0).1)
        exact (inv_setI (mlc_inv 12 v 0 0 B h (dfalse hd) (spw8 hl)).1).mono (by omega)
theorem szs_take : ∀ (l : List Cp) n, szs (l.take n) ≤ szs l := by
  intro l
  induction l with
  | nil => intro n; simp [szs]
  | cons c l ih =>
    intro n
    cases n with
    | zero => simp [szs]
    | succ n => simp only [List.take_succ_cons, szs]; have := ih n; omega
theorem inv_crash (h : Inv B v) {k : Int32} : Inv (B + 40) (Fcrash v k).2 := by
  have hm : Inv (B + 40) v := h.mono (by omega)
  have hl0 : Inv (B + 40) (los v) := (los_inv h.p.row (fun b hb => (h.p.blk b hb).2.1) h.p.bnd).mono (by omega)
  unfold Fcrash
  cases hl : lgs v 8 0 none with
  | none =>
    show Inv (B + 40) (if ¬ k = -1 then ((-1 : Int32), v) else if v.dwn = true then (-2, v) else (1, los v)).2
    split
    · exact hm
    · split
      · exact hm
      · exact hl0
  | some t =>
    obtain ⟨ht, hs⟩ := lgs_s2 hl
    show Inv (B + 40) (if ¬ k = -1 ∧ (k < 0 ∨ ¬ k ≤ nI (v.row t).length) then ((-1 : Int32), v) else if v.dwn = true then (-2, v) else if k = -1 then (1, los v) else (1, los (v.setR (8 + t) ((v.row t).take (kk k))))).2
    split
    · exact hm
    · split
      · exact hm
      · split
        · exact hl0
        · have hr2 : ∀ r, r < 16 → (∀ c, c ∈ (v.setR (8 + t) ((v.row t).take (kk k))).row r → CpOk B c) ∧ szs ((v.setR (8 + t) ((v.row t).take (kk k))).row r) ≤ 12 := by
            intro r hr
            by_cases hrt : r = 8 + t
            · subst hrt
              rw [Vt.setR_row]
              have := h.p.row t (by omega)
              exact ⟨fun c hc => this.1 c (List.mem_of_mem_take hc), Nat.le_trans (szs_take _ _) this.2⟩
            · rw [Vt.setR_ne _ _ hrt]; exact h.p.row r hr
          have hs2 : ∀ b, b < 8 → (v.setR (8 + t) ((v.row t).take (kk k))).sat b ≤ B := fun b hb => (h.p.blk b hb).2.1
          have hb2 : (v.setR (8 + t) ((v.row t).take (kk k))).sls ≤ B ∧ ∃ t', (v.setR (8 + t) ((v.row t).take (kk k))).nst = nI t' ∧ t' ≤ B := h.p.bnd
          generalize v.setR (8 + t) ((v.row t).take (kk k)) = w at hr2 hs2 hb2 ⊢
          have := los_inv hr2 hs2 hb2
          exact this.mono (by omega)
theorem inv_start (h : Inv B v) (hB : B < 2 ^ 30) : Inv (B + 40) (Fstart v).2 := by
  unfold Fstart
  split
  · exact h.mono (by omega)
  · rename_i hd
    have hd : v.dwn = true := by cases hh : v.dwn with
      | true => rfl
      | false => exact absurd hh hd
    exact (sta2_inv h hd hB).mono (by omega)
theorem inv_mok (h : Inv B v) (hB : B + 40 < 2 ^ 30) : ∀ b, b < 8 → mok b 12 v 0 := by
  intro b hb
  cases hd : v.dwn with
  | false => exact mok_inv 12 v 0 B h hd (by omega) hb
  | true =>
    rw [mok, ((h.p.dwn hd).1 b hb).2]
    trivial
/-- the evictions' budget -/
def Pev (B : Nat) (n : Nat) (v : Vt) : Prop := ∃ C, Inv C v ∧ v.dwn = false ∧ C + 2 * n ≤ B
theorem Pev_step (hB : B < 2 ^ 30) : ∀ n v, Pev B (n + 1) v → FIT v ∧ ∀ k h v1, k < 16 → wri v (wtmb v k) = .inr (h, v1) → Pev B n v1 := by
  rintro n v ⟨C, h1, h2, h3⟩
  refine ⟨inv_FIT h1.p (by omega), fun k h v1 hk he => ?_⟩
  obtain ⟨i1, i2, -⟩ := wri_inv h1 h2 (h1.p.wtmb hk) he
  exact ⟨C + 2, i1, i2, by omega⟩
theorem Pev_mono : ∀ n v, Pev B (n + 1) v → Pev B n v := by
  rintro n v ⟨C, h1, h2, h3⟩
  exact ⟨C, h1, h2, by omega⟩
end
