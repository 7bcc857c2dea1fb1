/-! the reference's memory stands for the same value -/
def eI : En → Int32
  | none => -1
  | some (_, h, p) => nI (12 * h + p)
def mcA (A : Nat → Nat → Int32) (j : Nat) (c : Cp) : Prop := A 0 j = bI c.tmb ∧ A 1 j = nI c.key ∧ A 2 j = c.val ∧ A 3 j = nI c.siz ∧ A 4 j = c.gen ∧ A 5 j = c.voi ∧ A 6 j = c.stp
def scV (v : Vt) : Sc := (v.clk, v.nst, nI v.sls, v.wrt, v.mvd, v.dwn)
def Rv (A : Nat → Nat → Int32) (S : Sc) (v : Vt) : Prop :=
  (∀ r, r < 16 → ∀ p c, (v.row r)[p]? = some c → mcA A (12 * r + p) c) ∧ (∀ r, r < 16 → A 7 r = nI (v.row r).length ∧ (v.row r).length ≤ 12) ∧
  (∀ b, b < 8 → A 8 b = nI (v.sta b) ∧ A 10 b = v.wai b ∧ (v.sta b = 2 → A 9 b = nI (v.sat b + 1))) ∧ (∀ k, k < 16 → A 11 k = eI (v.ent k)) ∧ S = scV v
/-- the ENTRIES name COPIES that are where they say -/
def EC (v : Vt) : Prop := ∀ k, k < 16 → ∀ c h p, v.ent k = some (c, h, p) → h < 8 ∧ (v.row h)[p]? = some c
section
variable {am : Nat → Nat} {m : xm_M} {A : Nat → Nat → Int32} {S : Sc} {v : Vt} {K : xm_PT} {ls : xm_L} {st : List Value} {bc bs : Nat} {Rh : Option Value → xm_M → Prop}
theorem mcA_up {i p j : Nat} {x : Int32} {c : Cp} (h : mcA A j c) (hn : 6 < i ∨ j ≠ p) : mcA (upA A i p x) j c := by
  have key : ∀ q, q ≤ 6 → upA A i p x q j = A q j := by
    intro q hq
    by_cases hqi : q = i
    · subst hqi; rw [upA_s, if_neg (by omega)]
    · rw [upA_n _ _ _ hqi]
  obtain ⟨h0, h1, h2, h3, h4, h5, h6⟩ := h
  exact ⟨by rw [key 0 (by omega)]; exact h0, by rw [key 1 (by omega)]; exact h1, by rw [key 2 (by omega)]; exact h2, by rw [key 3 (by omega)]; exact h3, by rw [key 4 (by omega)]; exact h4, by rw [key 5 (by omega)]; exact h5, by rw [key 6 (by omega)]; exact h6⟩
theorem Rv.idx (h : Rv A S v) {r p : Nat} (hr : r < 16) {c : Cp} (hc : (v.row r)[p]? = some c) : p < 12 ∧ 12 * r + p < 192 := by
  have hp : p < (v.row r).length := (List.getElem?_eq_some_iff.mp hc).1
  have := (h.2.1 r hr).2
  omega
theorem Rv.draft (h : Rv A S v) {i : Nat} {x : Int32} (hi : i ≤ 6) : Rv (upA A i 192 x) S v := by
  refine ⟨fun r hr p c hc => mcA_up (h.1 r hr p c hc) (Or.inr (by have := h.idx hr hc; omega)), fun r hr => ?_, fun b hb => ?_, fun k hk => ?_, h.2.2.2.2⟩
  · rw [upA_n _ _ _ (by omega)]; exact h.2.1 r hr
  · rw [upA_n _ _ _ (by omega), upA_n _ _ _ (by omega), upA_n _ _ _ (by omega)]; exact h.2.2.1 b hb
  · rw [upA_n _ _ _ (by omega)]; exact h.2.2.2.1 k hk
theorem Rv.uSta (h : Rv A S v) {b s : Nat} (hs : s = 2 → A 9 b = nI (v.sat b + 1)) : Rv (upA A 8 b (nI s)) S (v.setB b (s, v.sat b, v.wai b)) := by
  refine ⟨fun r hr p c hc => mcA_up (h.1 r hr p c hc) (Or.inl (by omega)), fun r hr => ?_, fun c hc => ?_, fun k hk => ?_, h.2.2.2.2⟩
  · rw [upA_n _ _ _ (by omega)]; exact h.2.1 r hr
  · rw [upA_s, upA_n _ _ _ (by omega), upA_n _ _ _ (by omega)]
    by_cases hcb : c = b
    · subst hcb
      simp only [Vt.sta, Vt.sat, Vt.wai, Vt.setB_blk, if_true]
      exact ⟨trivial, (h.2.2.1 c hc).2.1, hs⟩
    · simp only [Vt.sta, Vt.sat, Vt.wai, Vt.setB_ne _ _ hcb, if_neg hcb]
      exact h.2.2.1 c hc
  · rw [upA_n _ _ _ (by omega)]; exact h.2.2.2.1 k hk
theorem Rv.uWai (h : Rv A S v) {b : Nat} {w : Int32} : Rv (upA A 10 b w) S (v.setB b (v.sta b, v.sat b, w)) := by
  refine ⟨fun r hr p c hc => mcA_up (h.1 r hr p c hc) (Or.inl (by omega)), fun r hr => ?_, fun c hc => ?_, fun k hk => ?_, h.2.2.2.2⟩
  · rw [upA_n _ _ _ (by omega)]; exact h.2.1 r hr
  · rw [upA_s, upA_n _ _ _ (by omega), upA_n _ _ _ (by omega)]
    by_cases hcb : c = b
    · subst hcb
      simp only [Vt.sta, Vt.sat, Vt.wai, Vt.setB_blk, if_true]
      exact ⟨(h.2.2.1 c hc).1, trivial, (h.2.2.1 c hc).2.2⟩
    · simp only [Vt.sta, Vt.sat, Vt.wai, Vt.setB_ne _ _ hcb, if_neg hcb]
      exact h.2.2.1 c hc
  · rw [upA_n _ _ _ (by omega)]; exact h.2.2.2.1 k hk
theorem Rv.uRow0 (h : Rv A S v) {b : Nat} : Rv (upA A 7 b 0) S (v.setR b []) := by
  refine ⟨fun r hr p c hc => ?_, fun r hr => ?_, fun c hc => ?_, fun k hk => ?_, h.2.2.2.2⟩
  · by_cases hrb : r = b
    · subst hrb; rw [Vt.setR_row] at hc; simp at hc
    · rw [Vt.setR_ne _ _ hrb] at hc; exact mcA_up (h.1 r hr p c hc) (Or.inl (by omega))
  · rw [upA_s]
    by_cases hrb : r = b
    · subst hrb; rw [Vt.setR_row, if_pos rfl]; exact ⟨rfl, by simp⟩
    · rw [Vt.setR_ne _ _ hrb, if_neg hrb]; exact h.2.1 r hr
  · rw [upA_n _ _ _ (by omega), upA_n _ _ _ (by omega), upA_n _ _ _ (by omega)]; exact h.2.2.1 c hc
  · rw [upA_n _ _ _ (by omega)]; exact h.2.2.2.1 k hk
theorem Rv.uEnt (h : Rv A S v) {k : Nat} {x : En} : Rv (upA A 11 k (eI x)) S (v.setE k x) := by
  refine ⟨fun r hr p c hc => mcA_up (h.1 r hr p c hc) (Or.inl (by omega)), fun r hr => ?_, fun c hc => ?_, fun j hj => ?_, h.2.2.2.2⟩
  · rw [upA_n _ _ _ (by omega)]; exact h.2.1 r hr
  · rw [upA_n _ _ _ (by omega), upA_n _ _ _ (by omega), upA_n _ _ _ (by omega)]; exact h.2.2.1 c hc
  · rw [upA_s]
    by_cases hjk : j = k
    · subst hjk; rw [Vt.setE_ent, if_pos rfl]
    · rw [Vt.setE_ne _ _ hjk, if_neg hjk]; exact h.2.2.2.1 j hj
theorem Rv.sc (h : Rv A S v) {x : Int32 × Int32 × Int32 × Int32 × Bool × Nat} : Rv A (scV (v.setI x)) (v.setI x) := ⟨h.1, h.2.1, h.2.2.1, h.2.2.2.1, rfl⟩
theorem mcA_cp {f t j : Nat} {c : Cp} (h : mcA A j c) (hn : j ≠ t) : mcA (cpA A f t) j c := by
  obtain ⟨h0, h1, h2, h3, h4, h5, h6⟩ := h
  have key : ∀ q, cpA A f t q j = A q j := fun q => by simp [cpA, hn]
  exact ⟨by rw [key]; exact h0, by rw [key]; exact h1, by rw [key]; exact h2, by rw [key]; exact h3, by rw [key]; exact h4, by rw [key]; exact h5, by rw [key]; exact h6⟩
theorem mcA_cpt {f t : Nat} {c : Cp} (h : mcA A f c) : mcA (cpA A f t) t c := by
  obtain ⟨h0, h1, h2, h3, h4, h5, h6⟩ := h
  have key : ∀ q, q ≤ 6 → cpA A f t q t = A q f := fun q hq => by simp [cpA, hq]
  exact ⟨by rw [key 0 (by omega)]; exact h0, by rw [key 1 (by omega)]; exact h1, by rw [key 2 (by omega)]; exact h2, by rw [key 3 (by omega)]; exact h3, by rw [key 4 (by omega)]; exact h4, by rw [key 5 (by omega)]; exact h5, by rw [key 6 (by omega)]; exact h6⟩
/-- cells that no row holds may change -/
theorem Rv.cp (h : Rv A S v) {f t : Nat} (ht : ∀ r, r < 16 → ∀ p c, (v.row r)[p]? = some c → 12 * r + p ≠ t) : Rv (cpA A f t) S v := by
  have key : ∀ q p, 6 < q → cpA A f t q p = A q p := fun q p hq => by simp [cpA, show ¬ q ≤ 6 by omega]
  refine ⟨fun r hr p c hc => mcA_cp (h.1 r hr p c hc) (ht r hr p c hc), fun r hr => ?_, fun b hb => ?_, fun k hk => ?_, h.2.2.2.2⟩
  · rw [key 7 r (by omega)]; exact h.2.1 r hr
  · rw [key 8 b (by omega), key 9 b (by omega), key 10 b (by omega)]; exact h.2.2.1 b hb
  · rw [key 11 k (by omega)]; exact h.2.2.2.1 k hk
theorem Rv.uAdd (h : Rv A S v) {r : Nat} {c : Cp} (hr : r < 16) (hl : (v.row r).length < 12) (hc : mcA A (12 * r + (v.row r).length) c) : Rv (upA A 7 r (nI ((v.row r).length + 1))) S (v.setR r (v.row r ++ [c])) := by
  refine ⟨fun s hs p d hd => ?_, fun s hs => ?_, fun b hb => ?_, fun k hk => ?_, h.2.2.2.2⟩
  · by_cases hsr : s = r
    · subst hsr
      rw [Vt.setR_row] at hd
      by_cases hp : p < (v.row s).length
      · rw [List.getElem?_append_left hp] at hd
        exact mcA_up (h.1 s hs p d hd) (Or.inl (by omega))
      · rw [List.getElem?_append_right (by omega)] at hd
        have hz : p - (v.row s).length < 1 := (List.getElem?_eq_some_iff.mp hd).1
        rw [show p - (v.row s).length = 0 by omega] at hd
        cases hd
        rw [show p = (v.row s).length by omega]
        exact mcA_up hc (Or.inl (by omega))
    · rw [Vt.setR_ne _ _ hsr] at hd
      exact mcA_up (h.1 s hs p d hd) (Or.inl (by omega))
  · rw [upA_s]
    by_cases hsr : s = r
    · subst hsr; rw [Vt.setR_row, if_pos rfl]; exact ⟨by simp, by simp; omega⟩
    · rw [Vt.setR_ne _ _ hsr, if_neg hsr]; exact h.2.1 s hs
  · rw [upA_n _ _ _ (by omega), upA_n _ _ _ (by omega), upA_n _ _ _ (by omega)]; exact h.2.2.1 b hb
  · rw [upA_n _ _ _ (by omega)]; exact h.2.2.2.1 k hk
end
