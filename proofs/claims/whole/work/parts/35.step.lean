/-! the steps of the value -/
section
variable {v w : Vt} {B C : Nat}
theorem um_ent {b : Nat} : ∀ (l : List Cp) p a, (∀ j, v.ent j = w.ent j) → um v b l p a = um w b l p a := by
  intro l
  induction l with
  | nil => intro p a _; rfl
  | cons c l ih => intro p a h; simp only [um, h c.key]; exact ih _ _ h
theorem Pinv.um0 (h : Pinv B v) {b : Nat} (hb : b < 8) : um v b (v.row b) 0 0 = 0 ↔ ded v b = true := by
  rw [um_usd h hb, usd_zero h hb, h.dd hb]
theorem sfU0 (q : Int32) : sfU v q 0 0 = v := by
  refine Vt.ext rfl (fun b => ?_) (fun r => ?_) (fun k => rfl)
  · rw [sfU_blk, if_neg (by omega)]
  · rw [sfU_row, if_neg (by omega)]
theorem stl_step (h : Pinv B v) (q : Int32) {b : Nat} (hb : b < 8) : frw (stp1 (sfU v q 0 b) q b) b = sfU v q 0 (b + 1) := by
  have hblk : (sfU v q 0 b).blk b = v.blk b := by rw [sfU_blk, if_neg (by omega)]
  have hrow : (sfU v q 0 b).row b = v.row b := by rw [sfU_row, if_neg (by omega)]
  have hsta : (sfU v q 0 b).sta b = v.sta b := by unfold Vt.sta; rw [hblk]
  have hsat : (sfU v q 0 b).sat b = v.sat b := by unfold Vt.sat; rw [hblk]
  have hwai : (sfU v q 0 b).wai b = v.wai b := by unfold Vt.wai; rw [hblk]
  have hum : um (sfU v q 0 b) b ((sfU v q 0 b).row b) 0 0 = um v b (v.row b) 0 0 := by rw [hrow]; exact um_ent _ _ _ (fun _ => rfl)
  unfold stp1
  rw [hum, hsta, hsat]
  by_cases hd : ded v b = true ∧ v.sta b = 3
  · rw [if_pos ⟨hd.2, (h.um0 hb).mpr hd.1⟩, frw_set]
    refine Vt.ext rfl (fun c => ?_) (fun r => ?_) (fun k => rfl)
    · by_cases hcb : c = b
      · subst hcb
        rw [Vt.setB_blk, sfU_blk, if_pos (show 0 ≤ c ∧ c < c + 1 by omega)]
        unfold sfB
        rw [if_pos hd]
      · rw [Vt.setB_ne _ _ hcb]
        show (sfU v q 0 b).blk c = _
        rw [sfU_blk, sfU_blk]
        by_cases hc : 0 ≤ c ∧ c < b
        · rw [if_pos hc, if_pos (by omega)]
        · rw [if_neg hc, if_neg (by omega)]
    · show ((sfU v q 0 b).setR b []).row r = _
      by_cases hrb : r = b
      · subst hrb; rw [Vt.setR_row, sfU_row, if_pos ⟨by omega, by omega, hd⟩]
      · rw [Vt.setR_ne _ _ hrb, sfU_row, sfU_row]
        by_cases hc : 0 ≤ r ∧ r < b ∧ ded v r = true ∧ v.sta r = 3
        · rw [if_pos hc, if_pos ⟨hc.1, by omega, hc.2.2⟩]
        · rw [if_neg hc, if_neg (fun x => hc ⟨x.1, by omega, x.2.2⟩)]
  · rw [if_neg (fun x => hd ⟨(h.um0 hb).mp x.2, x.1⟩)]
    have rows : ∀ r, (sfU v q 0 b).row r = (sfU v q 0 (b + 1)).row r := by
      intro r
      rw [sfU_row, sfU_row]
      by_cases hc : 0 ≤ r ∧ r < b ∧ ded v r = true ∧ v.sta r = 3
      · rw [if_pos hc, if_pos ⟨hc.1, by omega, hc.2.2⟩]
      · rw [if_neg hc, if_neg (fun x => hc ⟨x.1, by
          have : r ≠ b := fun e => by subst e; exact hd x.2.2
          omega, x.2.2⟩)]
    have oth : ∀ c, c ≠ b → (sfU v q 0 b).blk c = (sfU v q 0 (b + 1)).blk c := by
      intro c hcb
      rw [sfU_blk, sfU_blk]
      by_cases hc : 0 ≤ c ∧ c < b
      · rw [if_pos hc, if_pos (by omega)]
      · rw [if_neg hc, if_neg (by omega)]
    have me : (sfU v q 0 (b + 1)).blk b = if v.sta b = 4 ∧ v.wai b = 0 then (0, v.sat b, v.wai b) else v.blk b := by
      rw [sfU_blk, if_pos (by omega)]
      unfold sfB
      rw [if_neg hd]
    unfold frw
    rw [hsta, hwai, hsat]
    by_cases h4 : v.sta b = 4 ∧ v.wai b = 0
    · rw [if_pos h4]
      rw [if_pos h4] at me
      refine Vt.ext rfl (fun c => ?_) (fun r => rows r) (fun k => rfl)
      by_cases hcb : c = b
      · subst hcb; rw [Vt.setB_blk, me]
      · rw [Vt.setB_ne _ _ hcb]; exact oth c hcb
    · rw [if_neg h4]
      rw [if_neg h4] at me
      refine Vt.ext rfl (fun c => ?_) (fun r => rows r) (fun k => rfl)
      by_cases hcb : c = b
      · subst hcb; rw [me, hblk]
      · exact oth c hcb
theorem settle_eq (h : Pinv B v) : settle v = sfn v := by
  have L : ∀ n b, b + n = 8 → stl (unw v 8 0 0) n b (sfU v (unw v 8 0 0) 0 b) = sfn v := by
    intro n
    induction n with
    | zero => intro b hb; have : b = 8 := by omega
              subst this; rfl
    | succ n ih =>
      intro b hb
      simp only [stl]
      rw [stl_step h _ (by omega)]
      exact ih (b + 1) (by omega)
  have := L 8 0 rfl
  rw [sfU0] at this
  exact this
theorem sfn_wf (h : Pinv B v) (hB : B < 2 ^ 30) : Wf (sfn v) := (sfn_inv h).p.wf hB
/-! finding -/
theorem lis_snoc {s : Nat} : ∀ n b, lis v s (n + 1) b = match lis v s n b with
    | some x => some x
    | none => if v.sta (b + n) = s then some (b + n) else none := by
  intro n
  induction n with
  | zero => intro b; simp [lis]
  | succ n ih =>
    intro b
    rw [lis]
    by_cases hs : v.sta b = s
    · simp [lis, hs]
    · rw [if_neg hs, ih (b + 1)]
      simp only [lis, if_neg hs]
      rw [show b + 1 + n = b + (n + 1) by omega]
theorem fsm_s {s n : Nat} {a : Option Nat} : fsm v s (n + 1) a = fsm v s n (if v.sta n = s then (match a with
    | none => some n
    | some x => if s = 2 then (if v.sat x ≤ v.sat n then some x else some n) else some n) else a) := rfl
theorem lgs_s {n b : Nat} {a : Option Nat} : lgs v (n + 1) b a = lgs v n (b + 1) (if v.sta b = 2 then (match a with
    | none => some b
    | some x => if v.sat x ≤ v.sat b then some x else some b) else a) := rfl
theorem fsm_lis {s : Nat} (hs : s ≠ 2) : ∀ n a, fsm v s n a = match lis v s n 0 with
    | some x => some x
    | none => a := by
  intro n
  induction n with
  | zero => intro a; rfl
  | succ n ih =>
    intro a
    rw [fsm_s, lis_snoc, Nat.zero_add]
    rw [ih]
    cases hl : lis v s n 0 with
    | some x => rfl
    | none =>
      by_cases hn : v.sta n = s
      · cases a <;> simp [hn, hs]
      · simp [hn]
theorem first_eq {s : Nat} (hs : s ≠ 2) : fsm v s 8 none = lis v s 8 0 := by
  rw [fsm_lis hs]
  cases lis v s 8 0 <;> rfl
def mns (v : Vt) (lo hi : Nat) (o : Option Nat) : Prop := (o = none → ∀ y, lo ≤ y → y < hi → ¬ v.sta y = 2) ∧ ∀ x, o = some x → lo ≤ x ∧ x < hi ∧ v.sta x = 2 ∧ ∀ y, lo ≤ y → y < hi → v.sta y = 2 → v.sat x ≤ v.sat y
theorem lgs_mns : ∀ n b a, mns v 0 b a → mns v 0 (b + n) (lgs v n b a) := by
  intro n
  induction n with
  | zero => intro b a h; exact h
  | succ n ih =>
    intro b a h
    rw [lgs_s, show b + (n + 1) = b + 1 + n by omega]
    refine ih (b + 1) _ ?_
    by_cases hs : v.sta b = 2
    · rw [if_pos hs]
      cases a with
      | none =>
        refine ⟨fun q => (by cases q), fun x hx => ?_⟩
        cases hx
        refine ⟨Nat.zero_le _, by omega, hs, fun y h1 h2 h3 => ?_⟩
        by_cases hy : y = b
        · subst hy; exact Nat.le_refl _
        · exact absurd h3 (h.1 rfl y h1 (by omega))
      | some z =>
        obtain ⟨g1, g2, g3, g4⟩ := h.2 z rfl
        by_cases hz : v.sat z ≤ v.sat b
        · simp only [if_pos hz]
          refine ⟨fun q => (by cases q), fun x hx => ?_⟩
          cases hx
          refine ⟨g1, by omega, g3, fun y h1 h2 h3 => ?_⟩
          by_cases hy : y = b
          · subst hy; exact hz
          · exact g4 y h1 (by omega) h3
        · simp only [if_neg hz]
          refine ⟨fun q => (by cases q), fun x hx => ?_⟩
          cases hx
          refine ⟨Nat.zero_le _, by omega, hs, fun y h1 h2 h3 => ?_⟩
          by_cases hy : y = b
          · subst hy; exact Nat.le_refl _
          · have := g4 y h1 (by omega) h3; omega
    · rw [if_neg hs]
      refine ⟨fun q y h1 h2 => ?_, fun x hx => ?_⟩
      · by_cases hy : y = b
        · subst hy; exact hs
        · exact h.1 q y h1 (by omega)
      · obtain ⟨g1, g2, g3, g4⟩ := h.2 x hx
        refine ⟨g1, by omega, g3, fun y h1 h2 h3 => ?_⟩
        by_cases hy : y = b
        · subst hy; exact absurd h3 hs
        · exact g4 y h1 (by omega) h3
theorem fsm_mns : ∀ n a, n ≤ 8 → mns v n 8 a → mns v 0 8 (fsm v 2 n a) := by
  intro n
  induction n with
  | zero => intro a _ h; exact h
  | succ b ih =>
    intro a hb8 h
    rw [fsm_s]
    refine ih _ (by omega) ?_
    by_cases hs : v.sta b = 2
    · rw [if_pos hs]
      cases a with
      | none =>
        refine ⟨fun q => (by cases q), fun x hx => ?_⟩
        cases hx
        refine ⟨Nat.le_refl _, by omega, hs, fun y h1 h2 h3 => ?_⟩
        by_cases hy : y = b
        · subst hy; exact Nat.le_refl _
        · exact absurd h3 (h.1 rfl y (by omega) h2)
      | some z =>
        obtain ⟨g1, g2, g3, g4⟩ := h.2 z rfl
        by_cases hz : v.sat z ≤ v.sat b
        · simp only [if_pos hz]
          refine ⟨fun q => (by cases q), fun x hx => ?_⟩
          cases hx
          refine ⟨by omega, g2, g3, fun y h1 h2 h3 => ?_⟩
          by_cases hy : y = b
          · subst hy; exact hz
          · exact g4 y (by omega) h2 h3
        · simp only [if_neg hz]
          refine ⟨fun q => (by cases q), fun x hx => ?_⟩
          cases hx
          refine ⟨Nat.le_refl _, by omega, hs, fun y h1 h2 h3 => ?_⟩
          by_cases hy : y = b
          · subst hy; exact Nat.le_refl _
          · have := g4 y (by omega) h2 h3; omega
    · rw [if_neg hs]
      refine ⟨fun q y h1 h2 => ?_, fun x hx => ?_⟩
      · by_cases hy : y = b
        · subst hy; exact hs
        · exact h.1 q y (by omega) h2
      · obtain ⟨g1, g2, g3, g4⟩ := h.2 x hx
        refine ⟨by omega, g2, g3, fun y h1 h2 h3 => ?_⟩
        by_cases hy : y = b
        · subst hy; exact absurd h3 hs
        · exact g4 y (by omega) h2 h3
theorem mns_lgs : mns v 0 8 (lgs v 8 0 none) := lgs_mns 8 0 none ⟨fun _ y h1 h2 => by omega, fun x hx => by cases hx⟩
theorem firsts_eq (h : Pinv B v) : fsm v 2 8 none = lgs v 8 0 none := by
  have h1 := fsm_mns (v := v) 8 none (Nat.le_refl 8) ⟨fun _ y h1 h2 => by omega, fun x hx => by cases hx⟩
  have h2 := mns_lgs (v := v)
  cases hx : fsm v 2 8 none with
  | none =>
    cases hy : lgs v 8 0 none with
    | none => rfl
    | some y =>
      rw [hx] at h1; rw [hy] at h2
      obtain ⟨g1, g2, g3, -⟩ := h2.2 y rfl
      exact absurd g3 (h1.1 rfl y g1 g2)
  | some x =>
    rw [hx] at h1
    obtain ⟨f1, f2, f3, f4⟩ := h1.2 x rfl
    cases hy : lgs v 8 0 none with
    | none =>
      rw [hy] at h2
      exact absurd f3 (h2.1 rfl x f1 f2)
    | some y =>
      rw [hy] at h2
      obtain ⟨g1, g2, g3, g4⟩ := h2.2 y rfl
      have := h.sat x y f2 g2 f3 g3 (Nat.le_antisymm (f4 y g1 g2 g3) (g4 x f1 f2 f3))
      rw [this]
theorem rmm_eq : ∀ (l : List Cp) a, szs l ≤ a → rmm l (nI a) = nI (a - szs l) := by
  intro l
  induction l with
  | nil => intro a _; rfl
  | cons c l ih =>
    intro a h
    simp only [szs] at h
    simp only [rmm, szs]
    rw [pk_sub (by omega), ih _ (by omega)]
    congr 1; omega
end
