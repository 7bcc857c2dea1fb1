/-! appending keeps the invariant -/
section
variable {v w : Vt} {B C : Nat}
theorem inv_seal (h : Inv B v) {b : Nat} (hb : b < 8) (hs : v.sta b = 1) (hc : ¬ 3 ≤ cis v 2 8 0 0) (hd : v.dwn = false) : Inv (B + 1) (sealB v b) := by
  have e1 : (sealB v b).blk b = (2, v.sls, v.wai b) := Vt.setB_blk _ _ _
  have e2 : ∀ c, c ≠ b → (sealB v b).blk c = v.blk c := fun c hcb => Vt.setB_ne _ _ hcb
  have s1 : (sealB v b).sta b = 2 := by unfold Vt.sta; rw [e1]
  have a1 : (sealB v b).sat b = v.sls := by unfold Vt.sat; rw [e1]
  have w1 : (sealB v b).wai b = v.wai b := by unfold Vt.wai; rw [e1]; rfl
  have s2 : ∀ c, c ≠ b → (sealB v b).sta c = v.sta c := fun c hcb => by unfold Vt.sta; rw [e2 c hcb]
  have a2 : ∀ c, c ≠ b → (sealB v b).sat c = v.sat c := fun c hcb => by unfold Vt.sat; rw [e2 c hcb]
  have w2 : ∀ c, c ≠ b → (sealB v b).wai c = v.wai c := fun c hcb => by unfold Vt.wai; rw [e2 c hcb]
  have hsl : (sealB v b).sls = v.sls + 1 := rfl
  have hm := h.p.mono (Nat.le_succ B)
  refine ⟨Pinv.of (row := hm.row) (ent := hm.ent) (emt := ?_) (img := ?_) (wai := ?_) (sat := ?_) (blk := ?_) (sld := ?_) (bnd := ?_) (dwn := fun q => absurd (q.symm.trans hd) (by decide)), ?_, ?_⟩
  · intro c hc' hq
    by_cases hcb : c = b
    · subst hcb; rw [s1] at hq; omega
    · rw [s2 c hcb] at hq; exact h.p.emt c hc' hq
  · intro c hc' hq
    by_cases hcb : c = b
    · subst hcb; rw [s1] at hq; omega
    · rw [s2 c hcb] at hq; exact h.p.img c hc' hq
  · intro c hc'
    by_cases hcb : c = b
    · subst hcb; rw [w1]; exact ⟨fun _ => (h.p.wai c hc').1 (by omega), (h.p.wai c hc').2⟩
    · rw [s2 c hcb, w2 c hcb]; exact h.p.wai c hc'
  · intro x y hx hy h1 h2 h3
    by_cases hxb : x = b
    · by_cases hyb : y = b
      · omega
      · subst hxb
        rw [s2 y hyb] at h2; rw [a1, a2 y hyb] at h3
        have := (h.p.blk y hy).2.2 h2; omega
    · by_cases hyb : y = b
      · subst hyb
        rw [s2 x hxb] at h1; rw [a1, a2 x hxb] at h3
        have := (h.p.blk x hx).2.2 h1; omega
      · rw [s2 x hxb] at h1; rw [s2 y hyb] at h2; rw [a2 x hxb, a2 y hyb] at h3
        exact h.p.sat x y hx hy h1 h2 h3
  · intro c hc'
    have hbn := h.p.bnd.1
    by_cases hcb : c = b
    · subst hcb; rw [s1, a1, hsl]; exact ⟨by omega, by omega, fun _ => by omega⟩
    · rw [s2 c hcb, a2 c hcb, hsl]
      have := h.p.blk c hc'
      exact ⟨this.1, by omega, fun q => by have := this.2.2 q; omega⟩
  · have := (cis_le1 (v := v) (w := sealB v b) (s := 2) (c := b) 8 0 (fun x _ _ hx hq => by rw [s2 x hx] at hq; exact hq)).1
    omega
  · obtain ⟨t, h1, h2⟩ := h.p.bnd.2
    exact ⟨by have := h.p.bnd.1; rw [hsl]; omega, t, h1, by omega⟩
  · intro c hc' hq
    by_cases hcb : c = b
    · subst hcb; rw [s1] at hq; omega
    · rw [s2 c hcb] at hq; exact h.lv c hc' hq
  · intro c hc' hq
    by_cases hcb : c = b
    · subst hcb; rw [s1] at hq; omega
    · rw [s2 c hcb] at hq; rw [w2 c hcb]; exact h.em c hc' hq
theorem inv_opn (h : Inv B v) {b : Nat} (hb : b < 8) (hs : v.sta b = 0) (hd : v.dwn = false) : Inv B (opn v b) := by
  have e1 : (opn v b).blk b = (1, v.sat b, v.wai b) := Vt.setB_blk _ _ _
  have e2 : ∀ c, c ≠ b → (opn v b).blk c = v.blk c := fun c hcb => Vt.setB_ne _ _ hcb
  have s1 : (opn v b).sta b = 1 := by unfold Vt.sta; rw [e1]
  have a1 : ∀ c, (opn v b).sat c = v.sat c := fun c => by
    by_cases hcb : c = b
    · subst hcb; unfold Vt.sat; rw [e1]; rfl
    · unfold Vt.sat; rw [e2 c hcb]
  have w1 : ∀ c, (opn v b).wai c = v.wai c := fun c => by
    by_cases hcb : c = b
    · subst hcb; unfold Vt.wai; rw [e1]; rfl
    · unfold Vt.wai; rw [e2 c hcb]
  have s2 : ∀ c, c ≠ b → (opn v b).sta c = v.sta c := fun c hcb => by unfold Vt.sta; rw [e2 c hcb]
  have h2 : ∀ c, (opn v b).sta c = 2 ↔ v.sta c = 2 := fun c => by
    by_cases hcb : c = b
    · subst hcb; rw [s1]; omega
    · rw [s2 c hcb]
  refine ⟨Pinv.of (row := h.p.row) (ent := h.p.ent) (emt := ?_) (img := ?_) (wai := ?_) (sat := ?_) (blk := ?_) (sld := ?_) (bnd := h.p.bnd) (dwn := fun q => absurd (q.symm.trans hd) (by decide)), ?_, ?_⟩
  · intro c hc' hq
    by_cases hcb : c = b
    · subst hcb; rw [s1] at hq; omega
    · rw [s2 c hcb] at hq; exact h.p.emt c hc' hq
  · intro c hc' hq
    by_cases hcb : c = b
    · subst hcb; rw [s1] at hq; omega
    · rw [s2 c hcb] at hq; exact h.p.img c hc' hq
  · intro c hc'
    rw [w1]
    by_cases hcb : c = b
    · subst hcb; exact ⟨fun _ => (h.p.wai c hc').1 (by omega), (h.p.wai c hc').2⟩
    · rw [s2 c hcb]; exact h.p.wai c hc'
  · intro x y hx hy h1 h2' h3
    rw [a1, a1] at h3
    exact h.p.sat x y hx hy ((h2 x).mp h1) ((h2 y).mp h2') h3
  · intro c hc'
    have := h.p.blk c hc'
    refine ⟨?_, by rw [a1]; exact this.2.1, fun q => by rw [a1]; exact this.2.2 ((h2 c).mp q)⟩
    by_cases hcb : c = b
    · subst hcb; rw [s1]; omega
    · rw [s2 c hcb]; exact this.1
  · rw [cis_congr (v := opn v b) (w := v) 8 0 0 (fun x _ _ => h2 x)]; exact h.p.sld
  · intro c hc' hq
    by_cases hcb : c = b
    · subst hcb; rw [s1] at hq; omega
    · rw [s2 c hcb] at hq; exact h.lv c hc' hq
  · intro c hc' hq
    by_cases hcb : c = b
    · subst hcb; rw [s1] at hq; omega
    · rw [s2 c hcb] at hq; rw [w1]; exact h.em c hc' hq
theorem cwr_row {s f : Nat} {v1 : Vt} (he : cwr v s = .inr (f, v1)) (hs : s ≤ 12) (h : Pinv B v) : f < 8 ∧ szs (v1.row f) + s ≤ 12 ∧ (∀ r, v1.row r = v.row r) ∧ (∀ k, v1.ent k = v.ent k) ∧ v1.nst = v.nst ∧ v1.dwn = v.dwn ∧ v1.clk = v.clk ∧ v1.wrt = v.wrt ∧ v1.mvd = v.mvd := by
  cases hl : lis v 1 8 0 with
  | some b =>
    simp only [cwr, hl] at he
    split at he
    · rename_i hz
      cases he
      exact ⟨lis8 hl, hz, fun _ => rfl, fun _ => rfl, rfl, rfl, rfl, rfl, rfl⟩
    · split at he
      · cases he
      · cases h0 : lis v 0 8 0 with
        | none => simp only [h0] at he; cases he
        | some g =>
          simp only [h0] at he
          cases he
          have hr := h.emt f (lis8 h0) (Or.inl (lis_lt 8 0 f h0).2.2)
          refine ⟨lis8 h0, ?_, fun _ => rfl, fun _ => rfl, rfl, rfl, rfl, rfl, rfl⟩
          show szs (v.row f) + s ≤ 12
          rw [hr]; simp only [szs]; omega
  | none =>
    simp only [cwr, hl] at he
    cases h0 : lis v 0 8 0 with
    | none => simp only [h0] at he; cases he
    | some g =>
      simp only [h0] at he
      cases he
      have hr := h.emt f (lis8 h0) (Or.inl (lis_lt 8 0 f h0).2.2)
      refine ⟨lis8 h0, ?_, fun _ => rfl, fun _ => rfl, rfl, rfl, rfl, rfl, rfl⟩
      show szs (v.row f) + s ≤ 12
      rw [hr]; simp only [szs]; omega
theorem cwr_inv (h : Inv B v) (hd : v.dwn = false) {s f : Nat} {v1 : Vt} (he : cwr v s = .inr (f, v1)) : Inv (B + 1) v1 ∧ v1.sta f = 1 := by
  cases hl : lis v 1 8 0 with
  | some b =>
    have hb1 := (lis_lt 8 0 b hl).2.2
    simp only [cwr, hl] at he
    split at he
    · cases he
      exact ⟨h.mono (Nat.le_succ B), hb1⟩
    · split at he
      · cases he
      · rename_i hc3
        cases h0 : lis v 0 8 0 with
        | none => simp only [h0] at he; cases he
        | some g =>
          simp only [h0] at he
          cases he
          have hf0 := (lis_lt 8 0 f h0).2.2
          have hfb : f ≠ b := fun e => by subst e; omega
          have hs0 : (sealB v b).sta f = 0 := by
            show ((sealB v b).blk f).1 = 0
            rw [show (sealB v b).blk f = v.blk f from Vt.setB_ne _ _ hfb]; exact hf0
          refine ⟨inv_opn (inv_seal h (lis8 hl) hb1 hc3 hd) (lis8 h0) hs0 hd, ?_⟩
          show ((opn (sealB v b) f).blk f).1 = 1
          rw [show (opn (sealB v b) f).blk f = (1, (sealB v b).sat f, (sealB v b).wai f) from Vt.setB_blk _ _ _]
  | none =>
    simp only [cwr, hl] at he
    cases h0 : lis v 0 8 0 with
    | none => simp only [h0] at he; cases he
    | some g =>
      simp only [h0] at he
      cases he
      have hf0 := (lis_lt 8 0 f h0).2.2
      refine ⟨(inv_opn h (lis8 h0) hf0 hd).mono (Nat.le_succ B), ?_⟩
      show ((opn v f).blk f).1 = 1
      rw [show (opn v f).blk f = (1, v.sat f, v.wai f) from Vt.setB_blk _ _ _]
theorem szs_app (l : List Cp) (c : Cp) : szs (l ++ [c]) = szs l + c.siz := by
  induction l with
  | nil => simp [szs]
  | cons d l ih => simp only [List.cons_append, szs, ih]; omega
theorem apE_pinv (h : Pinv B v) (hd : v.dwn = false) {f : Nat} {c : Cp} (hf : f < 8) (hs : v.sta f = 1) (hz : szs (v.row f) + c.siz ≤ 12) (hok : CpOk B c) : Pinv B (apE v c f) := by
  have r1 : (apE v c f).row f = v.row f ++ [c] := Vt.setR_row _ _ _
  have r2 : ∀ r, r ≠ f → (apE v c f).row r = v.row r := fun r hr => Vt.setR_ne _ _ hr
  have x1 : (apE v c f).ent c.key = some (c, f, (v.row f).length) := Vt.setE_ent _ _ _
  have x2 : ∀ k, k ≠ c.key → (apE v c f).ent k = v.ent k := fun k hk => Vt.setE_ne _ _ hk
  refine Pinv.of (row := ?_) (ent := ?_) (emt := ?_) (img := ?_) (wai := h.wai) (sat := h.sat) (blk := h.blk) (sld := h.sld) (bnd := h.bnd) (dwn := fun q => absurd (q.symm.trans hd) (by decide))
  · intro r hr
    by_cases hrf : r = f
    · subst hrf
      rw [r1]
      refine ⟨fun d hd' => ?_, by rw [szs_app]; exact hz⟩
      rcases List.mem_append.mp hd' with h1 | h1
      · exact (h.row r hr).1 d h1
      · rw [List.mem_singleton] at h1; subst h1; exact hok
    · rw [r2 r hrf]; exact h.row r hr
  · intro k hk d hh p he
    by_cases hkc : k = c.key
    · subst hkc
      rw [x1] at he
      cases he
      exact ⟨hf, by rw [r1]; simp, rfl⟩
    · rw [x2 k hkc] at he
      obtain ⟨h1, h2, h3⟩ := h.ent k hk d hh p he
      refine ⟨h1, ?_, h3⟩
      by_cases hrf : hh = f
      · subst hrf
        have hp : p < (v.row hh).length := (List.getElem?_eq_some_iff.mp h2).1
        rw [r1, List.getElem?_append_left hp]; exact h2
      · rw [r2 hh hrf]; exact h2
  · intro b hb hq
    have hq' : v.sta b = 0 ∨ v.sta b = 4 := hq
    have hbf : b ≠ f := fun e => by subst e; omega
    rw [r2 b hbf]; exact h.emt b hb hq'
  · intro b hb hq
    have hq' : v.sta b = 3 := hq
    have hbf : b ≠ f := fun e => by subst e; omega
    rw [r2 b hbf, r2 (8 + b) (by omega)]; exact h.img b hb hq'
theorem apE_lv (h : Inv B v) {f : Nat} {c : Cp} (hs : v.sta f = 1) {b : Nat} (hb : b < 8) (h3 : v.sta b = 3) (hn : ∀ e, v.ent c.key = some e → b ≠ e.2.1) : liv (apE v c f) b := by
  obtain ⟨k, hk, d, p, he⟩ := h.lv b hb h3
  have hkc : k ≠ c.key := fun e => by subst e; exact hn _ he rfl
  exact ⟨k, hk, d, p, by rw [show (apE v c f).ent k = v.ent k from Vt.setE_ne _ _ hkc]; exact he⟩
theorem apd_inv (h : Inv B v) (hd : v.dwn = false) {c : Cp} (hok : CpOk (B + 1) c) {f : Nat} {v2 : Vt} (he : apd v c = .inr (f, v2)) : ∃ v1, cwr v c.siz = .inr (f, v1) ∧ v2 = sfn (apE v1 c f) ∧ Pinv (B + 1) (apE v1 c f) ∧ Inv (B + 1) v2 ∧ f < 8 ∧ v2.dwn = false ∧ v2.nst = v.nst ∧ v2.clk = v.clk := by
  unfold apd at he
  cases hw : cwr v c.siz with
  | inl e => simp only [hw] at he; cases he
  | inr x =>
    obtain ⟨g, v1⟩ := x
    simp only [hw] at he
    obtain ⟨h1, h2⟩ := cwr_inv h hd hw
    obtain ⟨g1, g2, g3, g4, g5, g6, g7, -⟩ := cwr_row hw (by have := hok.2.2.1; omega) h.p
    have hd1 : v1.dwn = false := g6.trans hd
    have hP := apE_pinv h1.p hd1 g1 h2 g2 hok
    have e4 : ∀ c', c' < 8 → (apE v1 c g).sta c' = 4 → ¬ (apE v1 c g).wai c' = 0 := h1.em
    have key : v2 = sfn (apE v1 c g) ∧ f = g := by
      cases hx : v1.ent c.key with
      | none =>
        simp only [hx] at he
        cases he
        exact ⟨(sfn_id hP (fun b hb h3 => apE_lv h1 h2 hb h3 (fun e q => by rw [hx] at q; cases q)) e4).symm, rfl⟩
      | some y =>
        simp only [hx] at he
        cases he
        obtain ⟨d, hh, p⟩ := y
        have := (h1.p.ent c.key hok.1 d hh p hx).1
        exact ⟨emp_eq hP this (fun b hb hbn h3 => apE_lv h1 h2 hb h3 (fun e q => by rw [hx] at q; cases q; exact hbn)) e4, rfl⟩
    obtain ⟨k1, k2⟩ := key
    subst k2
    refine ⟨v1, rfl, k1, hP, by rw [k1]; exact sfn_inv hP, g1, ?_, ?_, ?_⟩
    · rw [k1]; exact hd1
    · rw [k1]; exact g5
    · rw [k1]; exact g7
theorem inv_fit (h : Pinv B v) (hB : B + 1 < 2 ^ 30) {c : Cp} (hk : c.key < 16) (h1 : 1 ≤ c.siz) (h6 : c.siz ≤ 6) : fit v c := by
  refine ⟨hk, h6, by have := h.bnd.1; omega, fun f v1 he => ?_⟩
  obtain ⟨g1, g2, g3, -⟩ := cwr_row he (by omega) h
  have := len_szs (B := B) (v1.row f) (by rw [g3 f]; exact (h.row f (by omega)).1)
  omega
theorem inv_FIT (h : Pinv B v) (hB : B + 1 < 2 ^ 30) : FIT v := fun _ hk h1 h6 => inv_fit h hB hk h1 h6
theorem inc1_inv (h : Inv B v) : Inv (B + 1) (inc1 v) := by
  have hm := h.mono (Nat.le_succ B)
  refine ⟨Pinv.of (row := hm.p.row) (ent := hm.p.ent) (emt := hm.p.emt) (img := hm.p.img) (wai := hm.p.wai) (sat := hm.p.sat) (blk := hm.p.blk) (sld := hm.p.sld) (bnd := ?_) (dwn := hm.p.dwn), hm.lv, hm.em⟩
  obtain ⟨t, h1, h2⟩ := h.p.bnd.2
  refine ⟨by have := h.p.bnd.1; show v.sls ≤ _; omega, t + 1, ?_, by omega⟩
  show v.nst + 1 = nI (t + 1)
  rw [h1, nI_1]
end
