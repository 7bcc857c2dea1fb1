/-! start: the two ends meet -/
section
variable {v u w : Vt} {B C : Nat}
theorem dxf_o : ∀ n k u, (dxf n k u).row = u.row ∧ (dxf n k u).blk = u.blk ∧ (dxf n k u).1 = u.1 := by
  intro n
  induction n with
  | zero => intro k u; exact ⟨rfl, rfl, rfl⟩
  | succ n ih =>
    intro k u
    rw [dxf]
    have key : ∀ z : Vt, z.row = u.row ∧ z.blk = u.blk ∧ z.1 = u.1 → (dxf n (k + 1) z).row = u.row ∧ (dxf n (k + 1) z).blk = u.blk ∧ (dxf n (k + 1) z).1 = u.1 := fun z hz => ⟨(ih (k + 1) z).1.trans hz.1, (ih (k + 1) z).2.1.trans hz.2.1, (ih (k + 1) z).2.2.trans hz.2.2⟩
    refine key _ ?_
    split
    · exact ⟨rfl, rfl, rfl⟩
    · split
      · exact ⟨rfl, rfl, rfl⟩
      · exact ⟨rfl, rfl, rfl⟩
theorem dxm_o : ∀ n k u, (dxm n k u).row = u.row ∧ (dxm n k u).blk = u.blk ∧ (dxm n k u).1 = u.1 := by
  intro n
  induction n with
  | zero => intro k u; exact ⟨rfl, rfl, rfl⟩
  | succ n ih =>
    intro k u
    rw [dxm]
    have key : ∀ z : Vt, z.row = u.row ∧ z.blk = u.blk ∧ z.1 = u.1 → (dxm n (k + 1) z).row = u.row ∧ (dxm n (k + 1) z).blk = u.blk ∧ (dxm n (k + 1) z).1 = u.1 := fun z hz => ⟨(ih (k + 1) z).1.trans hz.1, (ih (k + 1) z).2.1.trans hz.2.1, (ih (k + 1) z).2.2.trans hz.2.2⟩
    refine key _ ?_
    split
    · exact ⟨rfl, rfl, rfl⟩
    · split
      · exact ⟨rfl, rfl, rfl⟩
      · exact ⟨rfl, rfl, rfl⟩
theorem EK.setN {R : Nat → List Cp} {k : Nat} (h : EK R u) : EK R (u.setE k none) := by
  intro j hj d hh q he
  by_cases hjk : j = k
  · subst hjk; rw [Vt.setE_ent] at he; cases he
  · rw [Vt.setE_ne _ _ hjk] at he; exact h j hj d hh q he
theorem dxm_EK {R : Nat → List Cp} : ∀ n k u, EK R u → EK R (dxm n k u) := by
  intro n
  induction n with
  | zero => intro k u h; exact h
  | succ n ih =>
    intro k u h
    rw [dxm]
    refine ih (k + 1) _ ?_
    split
    · exact h
    · split
      · exact h.setN
      · exact h
theorem dxm_ent {R : Nat → List Cp} (hR : ∀ r, r < 8 → ∀ c, c ∈ R r → CpOk B c) : ∀ n k u w, k + n ≤ 16 → u.ent = w.ent → u.clk = w.clk → EK R u → (dxm n k u).ent = (dxf n k w).ent := by
  intro n
  induction n with
  | zero => intro k u w _ h _ _; exact h
  | succ n ih =>
    intro k u w hk h hclk hE
    rw [dxm, dxf]
    have hek : u.ent k = w.ent k := by rw [h]
    cases he : w.ent k with
    | none =>
      rw [he] at hek
      rw [hek]
      exact ih (k + 1) u w (by omega) h hclk hE
    | some e =>
      rw [he] at hek
      rw [hek]
      obtain ⟨c, hh, p⟩ := e
      obtain ⟨h1, h2, h3⟩ := hE k (by omega) c hh p hek
      have hok := hR hh h1 c (List.mem_of_getElem? h2)
      have hx : exm c u.clk = exq c w.clk := by
        rw [hclk]; unfold exm
        cases ht : c.tmb with
        | false => simp
        | true => have := hok.2.2.2.1 ht; simp [exq, this]
      show (dxm n (k + 1) (if exm c u.clk = true then u.setE k none else u)).ent = (dxf n (k + 1) (if exq c w.clk = true then w.setE k none else w)).ent
      rw [hx]
      split
      · refine ih (k + 1) _ _ (by omega) ?_ hclk hE.setN
        show va_up u.ent _ _ = va_up w.ent _ _
        rw [h]
      · exact ih (k + 1) u w (by omega) h hclk hE
/-- how much is live, out of the entries alone -/
theorem um_hlc (hrow : ∀ r, r < 16 → (∀ c, c ∈ u.row r → CpOk B c) ∧ szs (u.row r) ≤ 12) (hE : EK u.row u) {b : Nat} (hb : b < 8) : um u b (u.row b) 0 0 = 0 ↔ hlc u b 16 0 = false := by
  have hP : Pinv B ((u.clk, 0, u.wrt, u.mvd, false, 0), (fun _ => (1, 0, 0)), u.row, u.ent) := by
    refine Pinv.of (row := hrow) (ent := hE) (emt := ?_) (img := ?_) (wai := ?_) (sat := ?_) (blk := ?_) (sld := ?_) (bnd := ⟨Nat.zero_le _, 0, rfl, Nat.zero_le _⟩) (dwn := fun z => by cases z)
    · intro b _ h; rcases h with h | h <;> cases h
    · intro b _ h; cases h
    · intro b _; exact ⟨fun _ => rfl, (show (0 : Int32) &&& 255 = 0 by decide)⟩
    · intro b c _ _ h; cases h
    · intro b _; exact ⟨(show 1 ≤ 4 by omega), Nat.zero_le _, fun h => by cases h⟩
    · rw [cis_none 8 0 0 (fun x _ _ h => by cases h)]; omega
  have h1 := hP.um0 hb
  rw [um_ent (v := ((u.clk, 0, u.wrt, u.mvd, false, 0), (fun _ => (1, 0, 0)), u.row, u.ent)) (w := u) _ _ _ (fun _ => rfl)] at h1
  rw [show um u b (u.row b) 0 0 = um u b (Vt.row ((u.clk, 0, u.wrt, u.mvd, false, 0), (fun _ => (1, 0, 0)), u.row, u.ent) b) 0 0 from rfl, h1]
  unfold ded
  rw [hlc_ent (v := ((u.clk, 0, u.wrt, u.mvd, false, 0), (fun _ => (1, 0, 0)), u.row, u.ent)) (w := u) 16 0 (fun _ => rfl)]
  simp
theorem rob_eq : ∀ n b w, b + n ≤ 8 → rob n b w = (w.1, (fun y => if (b ≤ y ∧ y < b + n) ∧ hlc w y 16 0 = true then (3, w.sat y, w.wai y) else w.blk y), (fun r => if (b ≤ r ∧ r < b + n) ∧ hlc w r 16 0 = true then w.row (8 + r) else w.row r), w.ent) := by
  intro n
  induction n with
  | zero => intro b w _; exact Vt.ext rfl (fun y => by show w.blk y = if _ then _ else _; rw [if_neg (by omega)]) (fun y => by show w.row y = if _ then _ else _; rw [if_neg (by omega)]) (fun _ => rfl)
  | succ n ih =>
    intro b w hb
    rw [rob, ih (b + 1) _ (by omega)]
    by_cases hh : hlc w b 16 0 = true
    · rw [if_pos hh]
      have he : ∀ y, hlc ((w.setR b (w.row (8 + b))).setB b (3, w.sat b, w.wai b)) y 16 0 = hlc w y 16 0 := fun y => hlc_ent 16 0 (fun _ => rfl)
      refine Vt.ext rfl (fun y => ?_) (fun y => ?_) (fun _ => rfl)
      · show (if (b + 1 ≤ y ∧ y < b + 1 + n) ∧ hlc ((w.setR b (w.row (8 + b))).setB b (3, w.sat b, w.wai b)) y 16 0 = true then (3, Vt.sat ((w.setR b (w.row (8 + b))).setB b (3, w.sat b, w.wai b)) y, Vt.wai ((w.setR b (w.row (8 + b))).setB b (3, w.sat b, w.wai b)) y) else Vt.blk ((w.setR b (w.row (8 + b))).setB b (3, w.sat b, w.wai b)) y) = if (b ≤ y ∧ y < b + (n + 1)) ∧ hlc w y 16 0 = true then (3, w.sat y, w.wai y) else w.blk y
        rw [he y]
        by_cases hy : y = b
        · subst hy
          rw [if_neg (by omega), if_pos ⟨by omega, hh⟩, Vt.setB_blk]
        · have e : Vt.blk ((w.setR b (w.row (8 + b))).setB b (3, w.sat b, w.wai b)) y = w.blk y := Vt.setB_ne _ _ hy
          generalize (w.setR b (w.row (8 + b))).setB b (3, w.sat b, w.wai b) = z at e ⊢
          unfold Vt.sat Vt.wai
          rw [e]
          by_cases hc : (b ≤ y ∧ y < b + (n + 1)) ∧ hlc w y 16 0 = true
          · rw [if_pos hc, if_pos ⟨by omega, hc.2⟩]
          · rw [if_neg hc, if_neg (fun x => hc ⟨by omega, x.2⟩)]
      · show (if (b + 1 ≤ y ∧ y < b + 1 + n) ∧ hlc ((w.setR b (w.row (8 + b))).setB b (3, w.sat b, w.wai b)) y 16 0 = true then (w.setR b (w.row (8 + b))).row (8 + y) else (w.setR b (w.row (8 + b))).row y) = if (b ≤ y ∧ y < b + (n + 1)) ∧ hlc w y 16 0 = true then w.row (8 + y) else w.row y
        rw [he y]
        by_cases hy : y = b
        · subst hy
          rw [if_neg (by omega), if_pos ⟨by omega, hh⟩, Vt.setR_row]
        · rw [Vt.setR_ne _ _ hy, Vt.setR_ne _ _ (show 8 + y ≠ b by omega)]
          by_cases hc : (b ≤ y ∧ y < b + (n + 1)) ∧ hlc w y 16 0 = true
          · rw [if_pos hc, if_pos ⟨by omega, hc.2⟩]
          · rw [if_neg hc, if_neg (fun x => hc ⟨by omega, x.2⟩)]
    · rw [if_neg hh]
      refine Vt.ext rfl (fun y => ?_) (fun y => ?_) (fun _ => rfl)
      · show (if (b + 1 ≤ y ∧ y < b + 1 + n) ∧ _ then _ else _) = if (b ≤ y ∧ y < b + (n + 1)) ∧ _ then _ else _
        by_cases hc : (b ≤ y ∧ y < b + (n + 1)) ∧ hlc w y 16 0 = true
        · have : y ≠ b := fun e => by subst e; exact hh hc.2
          rw [if_pos hc, if_pos ⟨by omega, hc.2⟩]
        · rw [if_neg hc, if_neg (fun x => hc ⟨by omega, x.2⟩)]
      · show (if (b + 1 ≤ y ∧ y < b + 1 + n) ∧ _ then _ else _) = if (b ≤ y ∧ y < b + (n + 1)) ∧ _ then _ else _
        by_cases hc : (b ≤ y ∧ y < b + (n + 1)) ∧ hlc w y 16 0 = true
        · have : y ≠ b := fun e => by subst e; exact hh hc.2
          rw [if_pos hc, if_pos ⟨by omega, hc.2⟩]
        · rw [if_neg hc, if_neg (fun x => hc ⟨by omega, x.2⟩)]
theorem rbm_eq : ∀ n b u, b + n ≤ 8 → (∀ y, b ≤ y → y < b + n → (um u y (u.row y) 0 0 = 0 ↔ hlc u y 16 0 = false)) → rbm n b u = (u.1, (fun y => if (b ≤ y ∧ y < b + n) ∧ hlc u y 16 0 = true then (3, u.sat y, u.wai y) else u.blk y), (fun r => if (b ≤ r ∧ r < b + n) ∧ ¬ hlc u r 16 0 = true then [] else u.row r), u.ent) := by
  intro n
  induction n with
  | zero => intro b w _ _; exact Vt.ext rfl (fun y => by show w.blk y = if _ then _ else _; rw [if_neg (by omega)]) (fun y => by show w.row y = if _ then _ else _; rw [if_neg (by omega)]) (fun _ => rfl)
  | succ n ih =>
    intro b u hb hu
    have hub := hu b (Nat.le_refl _) (by omega)
    rw [rbm]
    by_cases hh : hlc u b 16 0 = true
    · have hnz : ¬ um u b (u.row b) 0 0 = 0 := fun z => by have := hub.mp z; rw [hh] at this; cases this
      rw [if_neg hnz]
      have he : ∀ y, hlc (u.setB b (3, u.sat b, u.wai b)) y 16 0 = hlc u y 16 0 := fun y => hlc_ent 16 0 (fun _ => rfl)
      rw [ih (b + 1) _ (by omega) (fun y h1 h2 => by
        rw [he, show um (u.setB b (3, u.sat b, u.wai b)) y ((u.setB b (3, u.sat b, u.wai b)).row y) 0 0 = um u y (u.row y) 0 0 from um_ent _ _ _ (fun _ => rfl)]
        exact hu y (by omega) (by omega))]
      refine Vt.ext rfl (fun y => ?_) (fun y => ?_) (fun _ => rfl)
      · show (if (b + 1 ≤ y ∧ y < b + 1 + n) ∧ hlc (u.setB b (3, u.sat b, u.wai b)) y 16 0 = true then (3, Vt.sat (u.setB b (3, u.sat b, u.wai b)) y, Vt.wai (u.setB b (3, u.sat b, u.wai b)) y) else Vt.blk (u.setB b (3, u.sat b, u.wai b)) y) = if (b ≤ y ∧ y < b + (n + 1)) ∧ hlc u y 16 0 = true then (3, u.sat y, u.wai y) else u.blk y
        rw [he y]
        by_cases hy : y = b
        · subst hy
          rw [if_neg (by omega), if_pos ⟨by omega, hh⟩, Vt.setB_blk]
        · have e : Vt.blk (u.setB b (3, u.sat b, u.wai b)) y = u.blk y := Vt.setB_ne _ _ hy
          generalize u.setB b (3, u.sat b, u.wai b) = z at e ⊢
          unfold Vt.sat Vt.wai
          rw [e]
          by_cases hc : (b ≤ y ∧ y < b + (n + 1)) ∧ hlc u y 16 0 = true
          · rw [if_pos hc, if_pos ⟨by omega, hc.2⟩]
          · rw [if_neg hc, if_neg (fun x => hc ⟨by omega, x.2⟩)]
      · show (if (b + 1 ≤ y ∧ y < b + 1 + n) ∧ ¬ hlc (u.setB b (3, u.sat b, u.wai b)) y 16 0 = true then [] else u.row y) = if (b ≤ y ∧ y < b + (n + 1)) ∧ ¬ hlc u y 16 0 = true then [] else u.row y
        rw [he y]
        by_cases hc : (b ≤ y ∧ y < b + (n + 1)) ∧ ¬ hlc u y 16 0 = true
        · have : y ≠ b := fun e => by subst e; exact hc.2 hh
          rw [if_pos hc, if_pos ⟨by omega, hc.2⟩]
        · rw [if_neg hc, if_neg (fun x => hc ⟨by omega, x.2⟩)]
    · have hz : um u b (u.row b) 0 0 = 0 := hub.mpr (by cases h : hlc u b 16 0 with
        | true => exact absurd h hh
        | false => rfl)
      rw [if_pos hz]
      have he : ∀ y, hlc (u.setR b []) y 16 0 = hlc u y 16 0 := fun y => hlc_ent 16 0 (fun _ => rfl)
      rw [ih (b + 1) _ (by omega) (fun y h1 h2 => by
        rw [he, Vt.setR_ne _ _ (show y ≠ b by omega), show um (u.setR b []) y (u.row y) 0 0 = um u y (u.row y) 0 0 from um_ent _ _ _ (fun _ => rfl)]
        exact hu y (by omega) (by omega))]
      refine Vt.ext rfl (fun y => ?_) (fun y => ?_) (fun _ => rfl)
      · show (if (b + 1 ≤ y ∧ y < b + 1 + n) ∧ hlc (u.setR b []) y 16 0 = true then (3, u.sat y, u.wai y) else u.blk y) = if (b ≤ y ∧ y < b + (n + 1)) ∧ hlc u y 16 0 = true then (3, u.sat y, u.wai y) else u.blk y
        rw [he y]
        by_cases hc : (b ≤ y ∧ y < b + (n + 1)) ∧ hlc u y 16 0 = true
        · have : y ≠ b := fun e => by subst e; exact hh hc.2
          rw [if_pos hc, if_pos ⟨by omega, hc.2⟩]
        · rw [if_neg hc, if_neg (fun x => hc ⟨by omega, x.2⟩)]
      · show (if (b + 1 ≤ y ∧ y < b + 1 + n) ∧ ¬ hlc (u.setR b []) y 16 0 = true then [] else (u.setR b []).row y) = if (b ≤ y ∧ y < b + (n + 1)) ∧ ¬ hlc u y 16 0 = true then [] else u.row y
        rw [he y]
        by_cases hy : y = b
        · subst hy
          rw [if_neg (by omega), if_pos ⟨by omega, hh⟩, Vt.setR_row]
        · rw [Vt.setR_ne _ _ hy]
          by_cases hc : (b ≤ y ∧ y < b + (n + 1)) ∧ ¬ hlc u y 16 0 = true
          · rw [if_pos hc, if_pos ⟨by omega, hc.2⟩]
          · rw [if_neg hc, if_neg (fun x => hc ⟨by omega, x.2⟩)]
def st0 (v : Vt) : Vt := v.setI (v.clk, 1, v.wrt, v.mvd, false, v.sls)
def st1 (v : Vt) : Vt := rcl 8 0 (st0 v)
def st2 (v : Vt) : Vt := sl 96 0 (st1 v)
def st3 (v : Vt) : Vt := dxm 16 0 (st2 v)
def cw3 (v : Vt) : Vt := dxf 16 0 (nno 8 0 (setD v false))
theorem st1_row (v : Vt) (r : Nat) : (st1 v).row r = if r < 8 then v.row (8 + r) else v.row r := by
  unfold st1
  rw [rcl_row 8 0 _ (by omega)]
  by_cases h : r < 8
  · rw [if_pos (by omega), if_pos h]; rfl
  · rw [if_neg (by omega), if_neg h]; rfl
theorem st1_rows (h : Pinv B v) : ∀ r, r < 16 → (∀ c, c ∈ (st1 v).row r → CpOk B c) ∧ szs ((st1 v).row r) ≤ 12 := by
  intro r hr
  rw [st1_row]
  split
  · exact h.row (8 + r) (by omega)
  · exact h.row r hr
theorem st2_eq (h : Pinv B v) : st2 v = nnb 8 0 (st1 v) := sl_nnb 8 0 (st1 v) (fun r hr => Nat.le_trans (len_szs _ (st1_rows h r hr).1) (st1_rows h r hr).2) (by omega)
theorem st1_EK (h : Pinv B v) (hd : v.dwn = true) : EK (st1 v).row (st1 v) := by
  intro k hk c hh p he
  rw [show (st1 v).ent = v.ent from (rcl_o 8 0 (st0 v)).2.2, (h.dwn hd).2 k hk] at he
  cases he
theorem st2_EK (h : Pinv B v) (hd : v.dwn = true) : EK (st1 v).row (st2 v) := by
  rw [st2_eq h]
  exact nnb_EK 8 0 _ (by omega) (fun r _ => rfl) (st1_EK h hd)
theorem Vt.e1 (z : Vt) : z.1 = (z.clk, z.nst, z.wrt, z.mvd, z.dwn, z.sls) := rfl
theorem st3_facts (h : Pinv B v) (hd : v.dwn = true) (hB : B < 2 ^ 30) : (st3 v).row = (st1 v).row ∧ (st3 v).blk = v.blk ∧ (st3 v).ent = (cw3 v).ent ∧ EK (st1 v).row (st3 v) ∧ (st3 v).1 = (v.clk, nI (gsM (st1 v).row 8 0 0 + 1), v.wrt, v.mvd, false, v.sls) := by
  have hR : ∀ r, r < 8 → ∀ c, c ∈ (st1 v).row r → CpOk B c := fun r hr => (st1_rows h r (by omega)).1
  have e2 := st2_eq h
  have hs := nnb_sam 8 0 (st1 v)
  rw [← e2] at hs
  have ho := dxm_o 16 0 (st2 v)
  have h1 := rcl_o 8 0 (st0 v)
  have hst : (st2 v).nst = nI (gsM (st1 v).row 8 0 0 + 1) := by
    rw [e2]
    exact nnb_nst hR hB 8 0 (st1 v) 0 (by omega) (fun _ _ => rfl) (Nat.zero_le _) (by show (rcl 8 0 (st0 v)).1.2.1 = _; rw [h1.1]; rfl)
  refine ⟨ho.1.trans hs.1, ho.2.1.trans (hs.2.1.trans h1.2.1), ?_, dxm_EK 16 0 _ (st2_EK h hd), ?_⟩
  · refine dxm_ent hR 16 0 (st2 v) (nno 8 0 (setD v false)) (by omega) ?_ ?_ (st2_EK h hd)
    · rw [e2]
      refine nnb_ent 8 0 (st1 v) (setD v false) h1.2.2 (by omega) (fun r hr => ?_)
      rw [st1_row, if_pos hr]; rfl
    · rw [hs.2.2.1]
      show (rcl 8 0 (st0 v)).1.1 = (nno 8 0 (setD v false)).1.1
      rw [h1.1, (nno_o 8 0 _).2.2]; rfl
  · rw [show (st3 v).1 = (st2 v).1 from ho.2.2]
    have a1 : (st2 v).clk = v.clk := hs.2.2.1.trans (by show (rcl 8 0 (st0 v)).1.1 = _; rw [h1.1]; rfl)
    have a2 : (st2 v).wrt = v.wrt := hs.2.2.2.1.trans (by show (rcl 8 0 (st0 v)).1.2.2.1 = _; rw [h1.1]; rfl)
    have a3 : (st2 v).mvd = v.mvd := hs.2.2.2.2.1.trans (by show (rcl 8 0 (st0 v)).1.2.2.2.1 = _; rw [h1.1]; rfl)
    have a4 : (st2 v).dwn = false := hs.2.2.2.2.2.1.trans (by show (rcl 8 0 (st0 v)).1.2.2.2.2.1 = _; rw [h1.1]; rfl)
    have a5 : (st2 v).sls = v.sls := hs.2.2.2.2.2.2.trans (by show (rcl 8 0 (st0 v)).1.2.2.2.2.2 = _; rw [h1.1]; rfl)
    rw [Vt.e1 (st2 v), a1, hst, a2, a3, a4, a5]
theorem cw3_o (v : Vt) : (cw3 v).row = v.row ∧ (cw3 v).blk = v.blk ∧ (cw3 v).1 = (v.clk, v.nst, v.wrt, v.mvd, false, v.sls) := by
  have h1 := dxf_o 16 0 (nno 8 0 (setD v false))
  have h2 := nno_o 8 0 (setD v false)
  exact ⟨h1.1.trans h2.1, h1.2.1.trans h2.2.1, h1.2.2.trans h2.2.2⟩
theorem rb_facts {z w : Vt} {R : Nat → List Cp} {g : Int32} (hR : ∀ r, r < 16 → (∀ c, c ∈ R r → CpOk B c) ∧ szs (R r) ≤ 12) (f1 : z.row = R) (f2 : z.blk = v.blk) (f3 : z.ent = w.ent) (f4 : EK R z) (f5 : z.1 = (v.clk, g, v.wrt, v.mvd, false, v.sls)) : rbm 8 0 z = ((v.clk, g, v.wrt, v.mvd, false, v.sls), (fun y => if y < 8 ∧ hlc w y 16 0 = true then (3, v.sat y, v.wai y) else v.blk y), (fun r => if r < 8 ∧ ¬ hlc w r 16 0 = true then [] else R r), w.ent) := by
  have he : ∀ y, hlc z y 16 0 = hlc w y 16 0 := fun y => hlc_ent 16 0 (fun k => by rw [f3])
  rw [rbm_eq 8 0 z (by omega) (fun y _ hy => um_hlc (B := B) (by rw [f1]; exact hR) (by rw [f1]; exact f4) (by omega))]
  refine Vt.ext f5 (fun y => ?_) (fun r => ?_) (fun k => by rw [f3]; rfl)
  · show (if (0 ≤ y ∧ y < 0 + 8) ∧ hlc z y 16 0 = true then (3, z.sat y, z.wai y) else z.blk y) = if y < 8 ∧ hlc w y 16 0 = true then (3, v.sat y, v.wai y) else v.blk y
    rw [he y]
    unfold Vt.sat Vt.wai
    rw [f2]
    by_cases hc : y < 8 ∧ hlc w y 16 0 = true
    · rw [if_pos hc, if_pos ⟨by omega, hc.2⟩]
    · rw [if_neg hc, if_neg (fun x => hc ⟨by omega, x.2⟩)]
  · show (if (0 ≤ r ∧ r < 0 + 8) ∧ ¬ hlc z r 16 0 = true then [] else z.row r) = if r < 8 ∧ ¬ hlc w r 16 0 = true then [] else R r
    rw [he r, f1]
    by_cases hc : r < 8 ∧ ¬ hlc w r 16 0 = true
    · rw [if_pos hc, if_pos ⟨by omega, hc.2⟩]
    · rw [if_neg hc, if_neg (fun x => hc ⟨by omega, x.2⟩)]
theorem ro_facts {w : Vt} {R : Nat → List Cp} {g : Int32} (hd : ∀ r, r < 8 → v.row r = []) (hR : ∀ r, R r = if r < 8 then v.row (8 + r) else v.row r) (g1 : w.row = v.row) (g2 : w.blk = v.blk) (g3 : w.1 = (v.clk, v.nst, v.wrt, v.mvd, false, v.sls)) : nxs (rob 8 0 w) g = ((v.clk, g, v.wrt, v.mvd, false, v.sls), (fun y => if y < 8 ∧ hlc w y 16 0 = true then (3, v.sat y, v.wai y) else v.blk y), (fun r => if r < 8 ∧ ¬ hlc w r 16 0 = true then [] else R r), w.ent) := by
  rw [rob_eq 8 0 w (by omega)]
  refine Vt.ext ?_ (fun y => ?_) (fun r => ?_) (fun k => rfl)
  · show (w.1.1, g, w.1.2.2.1, w.1.2.2.2.1, w.1.2.2.2.2.1, w.1.2.2.2.2.2) = _
    rw [g3]
  · show (if (0 ≤ y ∧ y < 0 + 8) ∧ hlc w y 16 0 = true then (3, w.sat y, w.wai y) else w.blk y) = if y < 8 ∧ hlc w y 16 0 = true then (3, v.sat y, v.wai y) else v.blk y
    unfold Vt.sat Vt.wai
    rw [g2]
    by_cases hc : y < 8 ∧ hlc w y 16 0 = true
    · rw [if_pos hc, if_pos ⟨by omega, hc.2⟩]
    · rw [if_neg hc, if_neg (fun x => hc ⟨by omega, x.2⟩)]
  · show (if (0 ≤ r ∧ r < 0 + 8) ∧ hlc w r 16 0 = true then w.row (8 + r) else w.row r) = if r < 8 ∧ ¬ hlc w r 16 0 = true then [] else R r
    rw [g1, hR]
    by_cases hr : r < 8
    · by_cases hc : hlc w r 16 0 = true
      · rw [if_pos ⟨by omega, hc⟩, if_neg (fun x => x.2 hc), if_pos hr]
      · rw [if_neg (fun x => hc x.2), if_pos ⟨hr, hc⟩]
        exact hd r hr
    · rw [if_neg (by omega), if_neg (fun x => hr x.1), if_neg hr]
theorem rob8 {w : Vt} {r : Nat} : (rob 8 0 w).row (8 + r) = w.row (8 + r) := by
  rw [rob_eq 8 0 w (by omega)]
  show (if (0 ≤ 8 + r ∧ 8 + r < 0 + 8) ∧ _ then _ else w.row (8 + r)) = _
  rw [if_neg (by omega)]
theorem stm_facts (h : Pinv B v) (hd : v.dwn = true) (hB : B < 2 ^ 30) : rbm 8 0 (st3 v) = (((v.clk, nI (gsM (st1 v).row 8 0 0 + 1), v.wrt, v.mvd, false, v.sls)), (fun y => if y < 8 ∧ hlc (cw3 v) y 16 0 = true then (3, v.sat y, v.wai y) else v.blk y), (fun r => if r < 8 ∧ ¬ hlc (cw3 v) r 16 0 = true then [] else (st1 v).row r), (cw3 v).ent) := by
  obtain ⟨f1, f2, f3, f4, f5⟩ := st3_facts h hd hB
  exact rb_facts (st1_rows h) f1 f2 f3 f4 f5
theorem gso_r {u : Vt} {R : Nat → List Cp} (hR : ∀ r, r < 8 → ∀ c, c ∈ R r → CpOk B c) (hB : B < 2 ^ 30) (hr : ∀ r, r < 8 → u.row (8 + r) = R r) : gso u 8 0 0 + 1 = nI (gsM R 8 0 0 + 1) := by
  have := gso_M (u := u) hR hB 8 0 0 (by omega) hr (Nat.zero_le _)
  rw [nI_0] at this
  rw [this, nI_1]
theorem sta_facts (h : Pinv B v) (hd : v.dwn = true) (hB : B < 2 ^ 30) : sta2 v = (((v.clk, nI (gsM (st1 v).row 8 0 0 + 1), v.wrt, v.mvd, false, v.sls)), (fun y => if y < 8 ∧ hlc (cw3 v) y 16 0 = true then (3, v.sat y, v.wai y) else v.blk y), (fun r => if r < 8 ∧ ¬ hlc (cw3 v) r 16 0 = true then [] else (st1 v).row r), (cw3 v).ent) := by
  have hR : ∀ r, r < 8 → ∀ c, c ∈ (st1 v).row r → CpOk B c := fun r hr => (st1_rows h r (by omega)).1
  obtain ⟨g1, g2, g3⟩ := cw3_o v
  have e1 : sta1 v = rob 8 0 (cw3 v) := by unfold sta1 cw3; rfl
  unfold sta2
  rw [e1]
  rw [gso_r (u := rob 8 0 (cw3 v)) (R := (st1 v).row) hR hB (fun r hr => by rw [rob8, g1, st1_row, if_pos hr])]
  exact ro_facts (fun r hr => ((h.dwn hd).1 r hr).2) (st1_row v) g1 g2 g3
theorem stm_eq (h : Pinv B v) (hd : v.dwn = true) (hB : B < 2 ^ 30) : rbm 8 0 (st3 v) = sta2 v := by rw [stm_facts h hd hB, sta_facts h hd hB]
theorem sta2_inv (h : Inv B v) (hd : v.dwn = true) (hB : B < 2 ^ 30) : Inv (B + 1) (sta2 v) := by
  have hR : ∀ r, r < 8 → ∀ c, c ∈ (st1 v).row r → CpOk B c := fun r hr => (st1_rows h.p r (by omega)).1
  have hG := gsM_le hR hB 8 0 0 (by omega) (Nat.zero_le _)
  obtain ⟨f1, f2, f3, f4, f5⟩ := st3_facts h.p hd hB
  have hf := sta_facts h.p hd hB
  have hs1 := st1_rows h.p
  have hs1r := st1_row v
  clear hR f1 f2 f5
  generalize gsM (st1 v).row 8 0 0 = G at hf hG
  generalize sta2 v = T at hf ⊢
  generalize st3 v = z at f3 f4
  generalize cw3 v = w at hf f3
  generalize st1 v = y1 at hf f4 hs1 hs1r
  have hent0 : ∀ k, T.ent k = w.ent k := fun k => by rw [hf]; rfl
  have hent : ∀ k, T.ent k = z.ent k := fun k => by rw [hent0, f3]
  have hrow : ∀ r, T.row r = if r < 8 ∧ ¬ hlc w r 16 0 = true then [] else y1.row r := fun r => by rw [hf]; rfl
  have hblk : ∀ y, T.blk y = if y < 8 ∧ hlc (w) y 16 0 = true then (3, v.sat y, v.wai y) else v.blk y := fun y => by rw [hf]; rfl
  have hst : ∀ y, y < 8 → T.sta y = if hlc (w) y 16 0 = true then 3 else 0 := by
    intro y hy
    unfold Vt.sta
    rw [hblk]
    by_cases hc : hlc (w) y 16 0 = true
    · rw [if_pos ⟨hy, hc⟩, if_pos hc]
    · rw [if_neg (fun x => hc x.2), if_neg hc]; exact ((h.p.dwn hd).1 y hy).1
  have hliv : ∀ y, y < 8 → (hlc (w) y 16 0 = true ↔ liv T y) := by
    intro y hy
    have e0 : hlc (w) y 16 0 = hlc z y 16 0 := hlc_ent 16 0 (fun k => by rw [f3])
    rw [e0, hlc_iff hy (fun k hk c hh p he => (f4 k hk c hh p he).1) 16 0 rfl]
    constructor
    · rintro ⟨j, -, h2, c, p, h3⟩; exact ⟨j, h2, c, p, by rw [hent]; exact h3⟩
    · rintro ⟨j, h2, c, p, h3⟩; exact ⟨j, Nat.zero_le _, h2, c, p, by rw [← hent]; exact h3⟩
  have hwai : ∀ y, y < 8 → T.wai y = 0 := by
    intro y hy
    have h0 : v.wai y = 0 := (h.p.wai y hy).1 (by have := ((h.p.dwn hd).1 y hy).1; omega)
    unfold Vt.wai
    rw [hblk]
    split
    · exact h0
    · exact h0
  have hsat : ∀ y, T.sat y = v.sat y := by
    intro y
    unfold Vt.sat
    rw [hblk]
    split <;> rfl
  refine ⟨Pinv.of (row := ?_) (ent := ?_) (emt := ?_) (img := ?_) (wai := ?_) (sat := ?_) (blk := ?_) (sld := ?_) (bnd := ?_) (dwn := ?_), ?_, ?_⟩
  · intro r hr
    rw [hrow]
    split
    · exact ⟨fun c hc => (by cases hc), by simp [szs]⟩
    · have := hs1 r hr
      exact ⟨fun c hc => (this.1 c hc).mono (Nat.le_succ B), this.2⟩
  · intro k hk c hh p he
    have he' := he
    rw [hent] at he
    obtain ⟨h1, h2, h3⟩ := f4 k hk c hh p he
    refine ⟨h1, ?_, h3⟩
    have : hlc (w) hh 16 0 = true := (hliv hh h1).mpr ⟨k, hk, c, p, he'⟩
    rw [hrow, if_neg (fun x => x.2 this)]
    exact h2
  · intro b hb hs
    rw [hst b hb] at hs
    rw [hrow]
    split at hs
    · omega
    · rename_i hc; rw [if_pos ⟨hb, hc⟩]
  · intro b hb hs
    rw [hst b hb] at hs
    split at hs
    · rename_i hc
      rw [hrow, hrow, if_neg (fun x => x.2 hc), if_neg (by omega), hs1r, hs1r, if_pos hb, if_neg (by omega)]
    · omega
  · intro b hb
    rw [hwai b hb]; exact ⟨fun _ => rfl, rfl⟩
  · intro b c hb hc h1
    rw [hst b hb] at h1; split at h1 <;> omega
  · intro b hb
    rw [hst b hb, hsat]
    refine ⟨by split <;> omega, by have := (h.p.blk b hb).2.1; omega, fun z => by split at z <;> omega⟩
  · rw [cis_none 8 0 0 (fun x _ hx => by rw [hst x (by omega)]; split <;> omega)]; omega
  · have e1 : T.sls = v.sls := by rw [hf]; rfl
    have e2 : T.nst = nI (G + 1) := by rw [hf]; rfl
    exact ⟨by rw [e1]; have := h.p.bnd.1; omega, _, e2, by omega⟩
  · intro z
    have : T.dwn = false := by rw [hf]; rfl
    rw [this] at z; cases z
  · intro b hb hs
    rw [hst b hb] at hs
    split at hs
    · rename_i hc; exact (hliv b hb).mp hc
    · omega
  · intro b hb hs
    rw [hst b hb] at hs; split at hs <;> omega
end
