/-! flush: the class's way and the reference's way; crash -/
section
variable {v w u : Vt} {B C : Nat}
def msk (b : Nat) : Int32 := (1 <<< (nI b &&& 31)) ^^^ (-1)
def wml (b : Nat) : Nat → Nat → Vt → Vt
  | 0, _, u => u
  | n + 1, x, u => wml b n (x + 1) (u.setB x (u.sta x, u.sat x, u.wai x &&& msk b))
def wmp (b : Nat) (u : Vt) (lo hi : Nat) : Vt := (u.1, (fun y => if lo ≤ y ∧ y < hi then (u.sta y, u.sat y, u.wai y &&& msk b) else u.blk y), u.row, u.ent)
theorem wml_eq {b : Nat} : ∀ n x u, wml b n x u = wmp b u x (x + n) := by
  intro n
  induction n with
  | zero => intro x u; exact Vt.ext rfl (fun y => by show u.blk y = if _ then _ else _; rw [if_neg (by omega)]) (fun _ => rfl) (fun _ => rfl)
  | succ n ih =>
    intro x u
    rw [wml, ih]
    refine Vt.ext rfl (fun y => ?_) (fun _ => rfl) (fun _ => rfl)
    show (if x + 1 ≤ y ∧ y < x + 1 + n then _ else _) = if x ≤ y ∧ y < x + (n + 1) then _ else _
    by_cases hy : y = x
    · subst hy
      rw [if_neg (by omega), if_pos (by omega), Vt.setB_blk]
    · have e : (u.setB x (u.sta x, u.sat x, u.wai x &&& msk b)).blk y = u.blk y := Vt.setB_ne _ _ hy
      unfold Vt.sta Vt.sat Vt.wai at *
      rw [e]
      by_cases hc : x ≤ y ∧ y < x + (n + 1)
      · rw [if_pos hc, if_pos (by omega)]
      · rw [if_neg hc, if_neg (by omega)]
def fre (u : Vt) : Vt := (u.1, (fun y => if y < 8 ∧ u.sta y = 4 ∧ u.wai y = 0 then (0, u.sat y, u.wai y) else u.blk y), u.row, u.ent)
def ewp (b : Nat) (u : Vt) (lo hi : Nat) : Vt := (u.1, (fun y => if lo ≤ y ∧ y < hi then (if u.sta y = 4 ∧ u.wai y &&& msk b = 0 then 0 else u.sta y, u.sat y, u.wai y &&& msk b) else u.blk y), u.row, u.ent)
theorem ewf_eq {b : Nat} : ∀ n x u, ewf u b n x = ewp b u x (x + n) := by
  intro n
  induction n with
  | zero => intro x u; exact Vt.ext rfl (fun y => by show u.blk y = if _ then _ else _; rw [if_neg (by omega)]) (fun _ => rfl) (fun _ => rfl)
  | succ n ih =>
    intro x u
    rw [ewf, ih]
    have e1 : frw (u.setB x (u.sta x, u.sat x, u.wai x &&& msk b)) x = u.setB x (if u.sta x = 4 ∧ u.wai x &&& msk b = 0 then 0 else u.sta x, u.sat x, u.wai x &&& msk b) := by
      unfold frw
      have s1 : (u.setB x (u.sta x, u.sat x, u.wai x &&& msk b)).sta x = u.sta x := by show ((u.setB x _).blk x).1 = _; rw [Vt.setB_blk]
      have s2 : (u.setB x (u.sta x, u.sat x, u.wai x &&& msk b)).wai x = u.wai x &&& msk b := by show ((u.setB x _).blk x).2.2 = _; rw [Vt.setB_blk]
      have s3 : (u.setB x (u.sta x, u.sat x, u.wai x &&& msk b)).sat x = u.sat x := by show ((u.setB x _).blk x).2.1 = _; rw [Vt.setB_blk]
      rw [s1, s2, s3]
      by_cases hc : u.sta x = 4 ∧ u.wai x &&& msk b = 0
      · rw [if_pos hc, if_pos hc, Vt.setB_set]
      · rw [if_neg hc, if_neg hc]
    show ewp b (frw (u.setB x (u.sta x, u.sat x, u.wai x &&& msk b)) x) (x + 1) (x + 1 + n) = _
    rw [e1]
    refine Vt.ext rfl (fun y => ?_) (fun _ => rfl) (fun _ => rfl)
    show (if x + 1 ≤ y ∧ y < x + 1 + n then _ else _) = if x ≤ y ∧ y < x + (n + 1) then _ else _
    by_cases hy : y = x
    · subst hy
      rw [if_neg (by omega), if_pos (show y ≤ y ∧ y < y + (n + 1) by omega), Vt.setB_blk]
    · have e : (u.setB x (if u.sta x = 4 ∧ u.wai x &&& msk b = 0 then 0 else u.sta x, u.sat x, u.wai x &&& msk b)).blk y = u.blk y := Vt.setB_ne _ _ hy
      generalize (u.setB x (if u.sta x = 4 ∧ u.wai x &&& msk b = 0 then 0 else u.sta x, u.sat x, u.wai x &&& msk b)) = z at e ⊢
      unfold Vt.sta Vt.sat Vt.wai
      rw [e]
      by_cases hc : x ≤ y ∧ y < x + (n + 1)
      · rw [if_pos hc, if_pos (by omega)]
      · rw [if_neg hc, if_neg (by omega)]
theorem ewf_fre {b : Nat} : ewf u b 8 0 = fre (wml b 8 0 u) := by
  rw [ewf_eq, wml_eq]
  refine Vt.ext rfl (fun y => ?_) (fun _ => rfl) (fun _ => rfl)
  show (if 0 ≤ y ∧ y < 0 + 8 then _ else _) = if y < 8 ∧ _ ∧ _ then _ else _
  by_cases hy : y < 8
  · have e : (wmp b u 0 (0 + 8)).blk y = (u.sta y, u.sat y, u.wai y &&& msk b) := by show (if 0 ≤ y ∧ y < 0 + 8 then _ else _) = _; rw [if_pos (by omega)]
    have e1 : (wmp b u 0 (0 + 8)).sta y = u.sta y := by unfold Vt.sta; rw [e]; rfl
    have e2 : (wmp b u 0 (0 + 8)).wai y = u.wai y &&& msk b := by unfold Vt.wai; rw [e]; rfl
    have e3 : (wmp b u 0 (0 + 8)).sat y = u.sat y := by unfold Vt.sat; rw [e]; rfl
    rw [if_pos (by omega), e, e1, e2, e3]
    by_cases hc : u.sta y = 4 ∧ u.wai y &&& msk b = 0
    · rw [if_pos hc, if_pos ⟨hy, hc⟩]
    · rw [if_neg hc, if_neg (fun z => hc z.2)]
  · have e : (wmp b u 0 (0 + 8)).blk y = u.blk y := by show (if 0 ≤ y ∧ y < 0 + 8 then _ else _) = _; rw [if_neg (by omega)]
    rw [if_neg (by omega), if_neg (fun z => hy z.1), e]
theorem fre_blk {y : Nat} : (fre u).blk y = if y < 8 ∧ u.sta y = 4 ∧ u.wai y = 0 then (0, u.sat y, u.wai y) else u.blk y := rfl
theorem fre_sta {y : Nat} : (fre u).sta y = if y < 8 ∧ u.sta y = 4 ∧ u.wai y = 0 then 0 else u.sta y := by
  unfold Vt.sta; rw [fre_blk]; unfold Vt.sta; split <;> rfl
theorem fre_sat {y : Nat} : (fre u).sat y = u.sat y := by
  unfold Vt.sat; rw [fre_blk]; unfold Vt.sat; split <;> rfl
theorem fre_wai {y : Nat} : (fre u).wai y = u.wai y := by
  unfold Vt.wai; rw [fre_blk]; unfold Vt.wai; split <;> rfl
theorem fre_s2 {y s : Nat} (h0 : s ≠ 0) (h4 : s ≠ 4) : (fre u).sta y = s ↔ u.sta y = s := by
  rw [fre_sta]; split
  · omega
  · exact Iff.rfl
theorem fre_pinv (h : Pinv B u) : Pinv B (fre u) := by
  refine Pinv.of (row := h.row) (ent := h.ent) (emt := ?_) (img := ?_) (wai := ?_) (sat := ?_) (blk := ?_) (sld := ?_) (bnd := h.bnd) (dwn := ?_)
  · intro y hy hs
    rw [fre_sta] at hs
    split at hs
    · rename_i hc; exact h.emt y hy (Or.inr hc.2.1)
    · exact h.emt y hy hs
  · intro y hy hs
    rw [fre_s2 (by omega) (by omega)] at hs
    exact h.img y hy hs
  · intro y hy
    rw [fre_sta, fre_wai]
    refine ⟨fun hs => ?_, (h.wai y hy).2⟩
    split at hs
    · rename_i hc; exact hc.2.2
    · exact (h.wai y hy).1 hs
  · intro x y hx hy h1 h2 h3
    rw [fre_s2 (by omega) (by omega)] at h1 h2
    rw [fre_sat, fre_sat] at h3
    exact h.sat x y hx hy h1 h2 h3
  · intro y hy
    have := h.blk y hy
    rw [fre_sat]
    refine ⟨?_, this.2.1, fun z => this.2.2 ((fre_s2 (by omega) (by omega)).mp z)⟩
    rw [fre_sta]; split <;> omega
  · rw [cis_congr (v := fre u) (w := u) 8 0 0 (fun x _ _ => fre_s2 (by omega) (by omega))]; exact h.sld
  · intro hd
    obtain ⟨h1, h2⟩ := h.dwn hd
    refine ⟨fun y hy => ⟨?_, (h1 y hy).2⟩, h2⟩
    rw [fre_sta]; have := (h1 y hy).1; split <;> omega
theorem fre_em {y : Nat} (hy : y < 8) (hs : (fre u).sta y = 4) : ¬ (fre u).wai y = 0 := by
  rw [fre_sta] at hs
  rw [fre_wai]
  split at hs
  · omega
  · rename_i hc; exact fun z => hc ⟨hy, hs, z⟩
theorem sfn_fre : sfn (fre u) = sfn u := by
  have hq : unw (fre u) 8 0 0 = unw u 8 0 0 := unw_congr 8 0 0 (fun x _ _ => by rw [fre_s2 (s := 1) (by omega) (by omega), fre_s2 (s := 2) (by omega) (by omega)])
  have hd : ∀ y, ded (fre u) y = ded u y := fun y => by unfold ded; rw [hlc_ent (v := fre u) (w := u) 16 0 (fun _ => rfl)]
  refine Vt.ext rfl (fun y => ?_) (fun r => ?_) (fun _ => rfl)
  · by_cases hy : y < 8
    · rw [sfn_blk hy, sfn_blk hy, hq, hd]
      unfold sfB
      rw [fre_sat, fre_wai]
      by_cases h3 : ded u y = true ∧ u.sta y = 3
      · rw [if_pos h3, if_pos ⟨h3.1, (fre_s2 (by omega) (by omega)).mpr h3.2⟩]
      · rw [if_neg h3, if_neg (fun z => h3 ⟨z.1, (fre_s2 (by omega) (by omega)).mp z.2⟩)]
        by_cases h4 : u.sta y = 4 ∧ u.wai y = 0
        · have f1 : (fre u).sta y = 0 := by rw [fre_sta, if_pos ⟨hy, h4⟩]
          rw [if_pos h4, if_neg (by omega), fre_blk, if_pos ⟨hy, h4⟩]
        · have f1 : (fre u).sta y = u.sta y := by rw [fre_sta, if_neg (fun z => h4 z.2)]
          rw [if_neg h4, f1, if_neg h4, fre_blk, if_neg (fun z => h4 z.2)]
    · rw [sfn_blk8 hy, sfn_blk8 hy, fre_blk, if_neg (fun z => hy z.1)]
  · rw [sfn_row, sfn_row, hd]
    have : (fre u).sta r = 3 ↔ u.sta r = 3 := fre_s2 (by omega) (by omega)
    by_cases hc : r < 8 ∧ ded u r = true ∧ u.sta r = 3
    · rw [if_pos hc, if_pos ⟨hc.1, hc.2.1, this.mpr hc.2.2⟩]
    · rw [if_neg hc, if_neg (fun z => hc ⟨z.1, z.2.1, this.mp z.2.2⟩)]; rfl
def wb0 (v : Vt) (b : Nat) : Vt := (v.setR (8 + b) (v.row b)).setB b (3, v.sat b, v.wai b)
theorem wml_pinv (h : Inv B v) {b : Nat} (hb : b < 8) (hs : v.sta b = 2) : Pinv B (wml b 8 0 (wb0 v b)) ∧ (∀ c, c < 8 → c ≠ b → (wml b 8 0 (wb0 v b)).sta c = 3 → liv (wml b 8 0 (wb0 v b)) c) ∧ (wml b 8 0 (wb0 v b)).dwn = v.dwn := by
  have hd : v.dwn = false := by
    cases hh : v.dwn with
    | false => rfl
    | true => have := ((h.p.dwn hh).1 b hb).1; omega
  have e1 : (wb0 v b).blk b = (3, v.sat b, v.wai b) := Vt.setB_blk _ _ _
  have e2 : ∀ c, c ≠ b → (wb0 v b).blk c = v.blk c := fun c hc => Vt.setB_ne _ _ hc
  rw [wml_eq]
  have g1 : ∀ c, c < 8 → (wmp b (wb0 v b) 0 (0 + 8)).blk c = ((wb0 v b).sta c, (wb0 v b).sat c, (wb0 v b).wai c &&& msk b) := fun c hc => by show (if 0 ≤ c ∧ c < 0 + 8 then _ else _) = _; rw [if_pos (by omega)]
  have s1 : (wmp b (wb0 v b) 0 (0 + 8)).sta b = 3 := by unfold Vt.sta; rw [g1 b hb]; unfold Vt.sta; rw [e1]
  have s2 : ∀ c, c < 8 → c ≠ b → (wmp b (wb0 v b) 0 (0 + 8)).sta c = v.sta c := fun c hc hcb => by unfold Vt.sta; rw [g1 c hc]; unfold Vt.sta; rw [e2 c hcb]
  have a1 : ∀ c, c < 8 → (wmp b (wb0 v b) 0 (0 + 8)).sat c = v.sat c := fun c hc => by
    unfold Vt.sat; rw [g1 c hc]; unfold Vt.sat
    by_cases hcb : c = b
    · subst hcb; rw [e1]; rfl
    · rw [e2 c hcb]
  have w1 : ∀ c, c < 8 → (wmp b (wb0 v b) 0 (0 + 8)).wai c = v.wai c &&& msk b := fun c hc => by
    unfold Vt.wai; rw [g1 c hc]; unfold Vt.wai
    by_cases hcb : c = b
    · subst hcb; rw [e1]; rfl
    · rw [e2 c hcb]
  have r1 : (wmp b (wb0 v b) 0 (0 + 8)).row (8 + b) = v.row b := Vt.setR_row _ _ _
  have r2 : ∀ r, r ≠ 8 + b → (wmp b (wb0 v b) 0 (0 + 8)).row r = v.row r := fun r hr => Vt.setR_ne _ _ hr
  refine ⟨Pinv.of (row := ?_) (ent := ?_) (emt := ?_) (img := ?_) (wai := ?_) (sat := ?_) (blk := ?_) (sld := ?_) (bnd := h.p.bnd) (dwn := fun z => absurd (z.symm.trans hd) (by decide)), ?_, rfl⟩
  · intro r hr
    by_cases hrb : r = 8 + b
    · subst hrb; rw [r1]; exact h.p.row b (by omega)
    · rw [r2 r hrb]; exact h.p.row r hr
  · intro k hk c hh p he
    obtain ⟨h1, h2, h3⟩ := h.p.ent k hk c hh p he
    exact ⟨h1, by rw [r2 hh (by omega)]; exact h2, h3⟩
  · intro c hc hq
    by_cases hcb : c = b
    · subst hcb; rw [s1] at hq; omega
    · rw [s2 c hc hcb] at hq; rw [r2 c (by omega)]; exact h.p.emt c hc hq
  · intro c hc hq
    by_cases hcb : c = b
    · subst hcb; rw [r1, r2 c (by omega)]
    · rw [s2 c hc hcb] at hq; rw [r2 c (by omega), r2 (8 + c) (by omega)]; exact h.p.img c hc hq
  · intro c hc
    rw [w1 c hc]
    refine ⟨fun hq => ?_, ?_⟩
    · have : v.wai c = 0 := by
        by_cases hcb : c = b
        · subst hcb; exact (h.p.wai c hc).1 (by omega)
        · rw [s2 c hc hcb] at hq; exact (h.p.wai c hc).1 hq
      rw [this, Int32.zero_and]
    · rw [Int32.and_assoc, Int32.and_comm (msk b) 255, ← Int32.and_assoc, (h.p.wai c hc).2]
  · intro x y hx hy h1 h2 h3
    rw [a1 x hx, a1 y hy] at h3
    have hxb : x ≠ b := fun e => by subst e; rw [s1] at h1; omega
    have hyb : y ≠ b := fun e => by subst e; rw [s1] at h2; omega
    rw [s2 x hx hxb] at h1; rw [s2 y hy hyb] at h2
    exact h.p.sat x y hx hy h1 h2 h3
  · intro c hc
    have := h.p.blk c hc
    rw [a1 c hc]
    by_cases hcb : c = b
    · subst hcb; rw [s1]; exact ⟨by omega, this.2.1, fun z => by omega⟩
    · rw [s2 c hc hcb]; exact this
  · have := (cis_le1 (v := v) (w := wmp b (wb0 v b) 0 (0 + 8)) (s := 2) (c := b) 8 0 (fun x _ hx hxb hq => by rw [s2 x (by omega) hxb] at hq; exact hq)).2 (Or.inr (fun _ => hs))
    have := h.p.sld
    omega
  · intro c hc hcb hq
    rw [s2 c hc hcb] at hq
    exact h.lv c hc hq
theorem wbk_eq (h : Inv B v) {b : Nat} (hb : b < 8) (hs : v.sta b = 2) : wbk v b = sfn (wml b 8 0 (wb0 v b)) := by
  obtain ⟨h1, h2, -⟩ := wml_pinv h hb hs
  unfold wbk
  rw [show ewf ((v.setR (8 + b) (v.row b)).setB b (3, v.sat b, v.wai b)) b 8 0 = fre (wml b 8 0 (wb0 v b)) from ewf_fre]
  rw [emp_eq (fre_pinv h1) hb (fun c hc hcb hq => h2 c hc hcb ((fre_s2 (by omega) (by omega)).mp hq)) (fun c hc hq => fre_em hc hq), sfn_fre]
theorem wbk_inv (h : Inv B v) {b : Nat} (hb : b < 8) (hs : v.sta b = 2) : Inv B (wbk v b) ∧ (wbk v b).dwn = v.dwn := by
  rw [wbk_eq h hb hs]
  obtain ⟨h1, h2, h3⟩ := wml_pinv h hb hs
  exact ⟨sfn_inv h1, h3⟩
theorem lgs_s2 {b : Nat} (h : lgs v 8 0 none = some b) : b < 8 ∧ v.sta b = 2 := by
  have := (mns_lgs (v := v)).2 b h
  exact ⟨this.2.1, this.2.2.1⟩
end
