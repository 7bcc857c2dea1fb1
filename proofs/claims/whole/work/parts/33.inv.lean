/-! the value's invariant -/
def CpOk (B : Nat) (c : Cp) : Prop := c.key < 16 ∧ 1 ≤ c.siz ∧ c.siz ≤ 6 ∧ (c.tmb = true → c.voi = 0) ∧ ∃ s, c.stp = nI s ∧ s ≤ B
def liv (v : Vt) (b : Nat) : Prop := ∃ k, k < 16 ∧ ∃ c p, v.ent k = some (c, b, p)
def Pinv (B : Nat) (v : Vt) : Prop :=
  (∀ r, r < 16 → (∀ c, c ∈ v.row r → CpOk B c) ∧ szs (v.row r) ≤ 12) ∧
  (∀ k, k < 16 → ∀ c h p, v.ent k = some (c, h, p) → h < 8 ∧ (v.row h)[p]? = some c ∧ c.key = k) ∧
  (∀ b, b < 8 → v.sta b = 0 ∨ v.sta b = 4 → v.row b = []) ∧
  (∀ b, b < 8 → v.sta b = 3 → v.row b = v.row (8 + b)) ∧
  (∀ b, b < 8 → (v.sta b ≠ 4 → v.wai b = 0) ∧ v.wai b &&& 255 = v.wai b) ∧
  (∀ b c, b < 8 → c < 8 → v.sta b = 2 → v.sta c = 2 → v.sat b = v.sat c → b = c) ∧
  (∀ b, b < 8 → v.sta b ≤ 4 ∧ v.sat b ≤ B ∧ (v.sta b = 2 → v.sat b < v.sls)) ∧
  (cis v 2 8 0 0 ≤ 3) ∧
  (v.sls ≤ B ∧ ∃ t, v.nst = nI t ∧ t ≤ B) ∧
  (v.dwn = true → (∀ b, b < 8 → v.sta b = 0 ∧ v.row b = []) ∧ ∀ k, k < 16 → v.ent k = none)
theorem Pinv.row {B : Nat} {v : Vt} (h : Pinv B v) : ∀ r, r < 16 → (∀ c, c ∈ v.row r → CpOk B c) ∧ szs (v.row r) ≤ 12 := h.1
theorem Pinv.ent {B : Nat} {v : Vt} (h : Pinv B v) : ∀ k, k < 16 → ∀ c h p, v.ent k = some (c, h, p) → h < 8 ∧ (v.row h)[p]? = some c ∧ c.key = k := h.2.1
theorem Pinv.emt {B : Nat} {v : Vt} (h : Pinv B v) : ∀ b, b < 8 → v.sta b = 0 ∨ v.sta b = 4 → v.row b = [] := h.2.2.1
theorem Pinv.img {B : Nat} {v : Vt} (h : Pinv B v) : ∀ b, b < 8 → v.sta b = 3 → v.row b = v.row (8 + b) := h.2.2.2.1
theorem Pinv.wai {B : Nat} {v : Vt} (h : Pinv B v) : ∀ b, b < 8 → (v.sta b ≠ 4 → v.wai b = 0) ∧ v.wai b &&& 255 = v.wai b := h.2.2.2.2.1
theorem Pinv.sat {B : Nat} {v : Vt} (h : Pinv B v) : ∀ b c, b < 8 → c < 8 → v.sta b = 2 → v.sta c = 2 → v.sat b = v.sat c → b = c := h.2.2.2.2.2.1
theorem Pinv.blk {B : Nat} {v : Vt} (h : Pinv B v) : ∀ b, b < 8 → v.sta b ≤ 4 ∧ v.sat b ≤ B ∧ (v.sta b = 2 → v.sat b < v.sls) := h.2.2.2.2.2.2.1
theorem Pinv.sld {B : Nat} {v : Vt} (h : Pinv B v) : cis v 2 8 0 0 ≤ 3 := h.2.2.2.2.2.2.2.1
theorem Pinv.bnd {B : Nat} {v : Vt} (h : Pinv B v) : v.sls ≤ B ∧ ∃ t, v.nst = nI t ∧ t ≤ B := h.2.2.2.2.2.2.2.2.1
theorem Pinv.dwn {B : Nat} {v : Vt} (h : Pinv B v) : v.dwn = true → (∀ b, b < 8 → v.sta b = 0 ∧ v.row b = []) ∧ ∀ k, k < 16 → v.ent k = none := h.2.2.2.2.2.2.2.2.2
theorem Pinv.of {B : Nat} {v : Vt} (row : ∀ r, r < 16 → (∀ c, c ∈ v.row r → CpOk B c) ∧ szs (v.row r) ≤ 12) (ent : ∀ k, k < 16 → ∀ c h p, v.ent k = some (c, h, p) → h < 8 ∧ (v.row h)[p]? = some c ∧ c.key = k) (emt : ∀ b, b < 8 → v.sta b = 0 ∨ v.sta b = 4 → v.row b = []) (img : ∀ b, b < 8 → v.sta b = 3 → v.row b = v.row (8 + b)) (wai : ∀ b, b < 8 → (v.sta b ≠ 4 → v.wai b = 0) ∧ v.wai b &&& 255 = v.wai b) (sat : ∀ b c, b < 8 → c < 8 → v.sta b = 2 → v.sta c = 2 → v.sat b = v.sat c → b = c) (blk : ∀ b, b < 8 → v.sta b ≤ 4 ∧ v.sat b ≤ B ∧ (v.sta b = 2 → v.sat b < v.sls)) (sld : cis v 2 8 0 0 ≤ 3) (bnd : v.sls ≤ B ∧ ∃ t, v.nst = nI t ∧ t ≤ B) (dwn : v.dwn = true → (∀ b, b < 8 → v.sta b = 0 ∧ v.row b = []) ∧ ∀ k, k < 16 → v.ent k = none) : Pinv B v := ⟨row, ent, emt, img, wai, sat, blk, sld, bnd, dwn⟩
def Inv (B : Nat) (v : Vt) : Prop := Pinv B v ∧ (∀ b, b < 8 → v.sta b = 3 → liv v b) ∧ (∀ b, b < 8 → v.sta b = 4 → ¬ v.wai b = 0)
theorem Inv.p {B : Nat} {v : Vt} (h : Inv B v) : Pinv B v := h.1
theorem Inv.lv {B : Nat} {v : Vt} (h : Inv B v) : ∀ b, b < 8 → v.sta b = 3 → liv v b := h.2.1
theorem Inv.em {B : Nat} {v : Vt} (h : Inv B v) : ∀ b, b < 8 → v.sta b = 4 → ¬ v.wai b = 0 := h.2.2
section
variable {v w : Vt} {B C : Nat}
theorem CpOk.mono {c : Cp} (h : CpOk B c) (hb : B ≤ C) : CpOk C c := by
  obtain ⟨h1, h2, h3, h4, s, h5, h6⟩ := h
  exact ⟨h1, h2, h3, h4, s, h5, Nat.le_trans h6 hb⟩
theorem Pinv.mono (h : Pinv B v) (hb : B ≤ C) : Pinv C v := Pinv.of (row := fun r hr => ⟨fun c hc => ((h.row r hr).1 c hc).mono hb, (h.row r hr).2⟩) (ent := h.ent) (emt := h.emt) (img := h.img) (wai := h.wai) (sat := h.sat) (blk := fun b hb' => ⟨(h.blk b hb').1, Nat.le_trans (h.blk b hb').2.1 hb, (h.blk b hb').2.2⟩) (sld := h.sld) (bnd := ⟨Nat.le_trans h.bnd.1 hb, by obtain ⟨t, h1, h2⟩ := h.bnd.2; exact ⟨t, h1, Nat.le_trans h2 hb⟩⟩) (dwn := h.dwn)
theorem Inv.mono (h : Inv B v) (hb : B ≤ C) : Inv C v := ⟨h.p.mono hb, h.lv, h.em⟩
theorem Pinv.wf (h : Pinv B v) (hB : B < 2 ^ 30) : Wf v := by
  refine ⟨fun b hb => ⟨(h.blk b hb).1, by have := (h.blk b hb).2.1; omega⟩, by have := h.bnd.1; omega, fun r hr c hc => ?_, fun k hk c hh p he => ?_⟩
  · have := (h.row r hr).1 c hc; exact ⟨this.1, this.2.2.1⟩
  · obtain ⟨h1, h2, h3⟩ := h.ent k hk c hh p he
    have hc := (h.row hh (by omega)).1 c (List.mem_of_getElem? h2)
    refine ⟨hc.1, h1, ?_, hc.2.2.1⟩
    have hp : p < (v.row hh).length := (List.getElem?_eq_some_iff.mp h2).1
    have hl : ∀ l : List Cp, (∀ c, c ∈ l → CpOk B c) → l.length ≤ szs l := by
      intro l
      induction l with
      | nil => intro _; simp [szs]
      | cons d l ih =>
        intro hl
        have := ih (fun e he => hl e (List.mem_cons_of_mem _ he))
        have := (hl d List.mem_cons_self).2.1
        simp only [List.length_cons, szs]; omega
    have := hl _ (h.row hh (by omega)).1
    have := (h.row hh (by omega)).2
    omega
theorem len_szs : ∀ l : List Cp, (∀ c, c ∈ l → CpOk B c) → l.length ≤ szs l := by
  intro l
  induction l with
  | nil => intro _; simp [szs]
  | cons d l ih =>
    intro hl
    have := ih (fun e he => hl e (List.mem_cons_of_mem _ he))
    have := (hl d List.mem_cons_self).2.1
    simp only [List.length_cons, szs]; omega
theorem Pinv.len (h : Pinv B v) {r : Nat} (hr : r < 16) : (v.row r).length ≤ 12 := Nat.le_trans (len_szs _ (h.row r hr).1) (h.row r hr).2
theorem Pinv.ec (h : Pinv B v) : EC v := fun k hk c hh p he => ⟨(h.ent k hk c hh p he).1, (h.ent k hk c hh p he).2.1⟩
theorem Pinv.pl (h : Pinv B v) {k : Nat} (hk : k < 16) {c : Cp} {hh p : Nat} (he : v.ent k = some (c, hh, p)) : hh < 8 ∧ p < 12 := by
  obtain ⟨h1, h2, -⟩ := h.ent k hk c hh p he
  have hp : p < (v.row hh).length := (List.getElem?_eq_some_iff.mp h2).1
  have := h.len (r := hh) (by omega)
  omega
theorem Vt.ext (h1 : v.1 = w.1) (h2 : ∀ b, v.blk b = w.blk b) (h3 : ∀ r, v.row r = w.row r) (h4 : ∀ k, v.ent k = w.ent k) : v = w := by
  obtain ⟨a, b, c, d⟩ := v
  obtain ⟨a', b', c', d'⟩ := w
  have e1 : a = a' := h1
  have e2 : b = b' := funext h2
  have e3 : c = c' := funext h3
  have e4 : d = d' := funext h4
  subst e1; subst e2; subst e3; subst e4; rfl
theorem hlc_iff {b : Nat} (hb : b < 8) (hh : ∀ k, k < 16 → ∀ c h p, v.ent k = some (c, h, p) → h < 8) : ∀ n k, k + n = 16 → (hlc v b n k = true ↔ ∃ j, k ≤ j ∧ j < 16 ∧ ∃ c p, v.ent j = some (c, b, p)) := by
  intro n
  induction n with
  | zero => intro k hk; simp only [hlc]; constructor
            · intro h; cases h
            · rintro ⟨j, h1, h2, -⟩; omega
  | succ n ih =>
    intro k hk
    simp only [hlc, Bool.or_eq_true, decide_eq_true_eq, ih (k + 1) (by omega)]
    constructor
    · rintro (h | ⟨j, h1, h2, h3⟩)
      · cases he : v.ent k with
        | none => simp only [Vt.hom, he] at h; exact absurd h.symm (nI_m1 (by omega))
        | some e =>
          obtain ⟨c, h', p⟩ := e
          simp only [Vt.hom, he] at h
          have := hh k (by omega) c h' p he
          rw [nI_eq (by omega) (by omega)] at h
          subst h
          exact ⟨k, Nat.le_refl _, by omega, c, p, he⟩
      · exact ⟨j, by omega, h2, h3⟩
    · rintro ⟨j, h1, h2, c, p, h3⟩
      by_cases hj : j = k
      · subst hj; left; simp [Vt.hom, h3]
      · right; exact ⟨j, by omega, h2, c, p, h3⟩
theorem Pinv.hlc (h : Pinv B v) {b : Nat} (hb : b < 8) : hlc v b 16 0 = true ↔ liv v b := by
  rw [hlc_iff hb (fun k hk c hh p he => (h.ent k hk c hh p he).1) 16 0 rfl]
  constructor
  · rintro ⟨j, -, h2, h3⟩; exact ⟨j, h2, h3⟩
  · rintro ⟨j, h2, h3⟩; exact ⟨j, Nat.zero_le _, h2, h3⟩
theorem cis_congr {s : Nat} : ∀ n b a, (∀ x, b ≤ x → x < b + n → (v.sta x = s ↔ w.sta x = s)) → cis v s n b a = cis w s n b a := by
  intro n
  induction n with
  | zero => intro b a _; rfl
  | succ n ih =>
    intro b a h
    simp only [cis]
    have h0 := h b (Nat.le_refl _) (by omega)
    rw [ih (b + 1) _ (fun x h1 h2 => h x (by omega) (by omega))]
    by_cases hs : v.sta b = s
    · rw [if_pos hs, if_pos (h0.mp hs)]
    · rw [if_neg hs, if_neg (fun q => hs (h0.mpr q))]
theorem cis_add {s : Nat} : ∀ n b a, cis v s n b a = a + cis v s n b 0 := by
  intro n
  induction n with
  | zero => intro b a; simp [cis]
  | succ n ih =>
    intro b a
    simp only [cis]
    rw [ih (b + 1) (if v.sta b = s then a + 1 else a), ih (b + 1) (if v.sta b = s then 0 + 1 else 0)]
    split <;> omega
theorem cis_le1 {s c : Nat} : ∀ n b, (∀ x, b ≤ x → x < b + n → x ≠ c → w.sta x = s → v.sta x = s) → cis w s n b 0 ≤ cis v s n b 0 + 1 ∧ ((c < b ∨ (w.sta c = s → v.sta c = s)) → cis w s n b 0 ≤ cis v s n b 0) := by
  intro n
  induction n with
  | zero => intro b _; simp [cis]
  | succ n ih =>
    intro b h
    obtain ⟨i1, i2⟩ := ih (b + 1) (fun x h1 h2 h3 => h x (by omega) (by omega) h3)
    simp only [cis]
    rw [cis_add (v := w) n (b + 1) (if w.sta b = s then 0 + 1 else 0), cis_add (v := v) n (b + 1) (if v.sta b = s then 0 + 1 else 0)]
    by_cases hbc : b = c
    · subst hbc
      have := i2 (Or.inl (by omega))
      constructor
      · split <;> split <;> omega
      · rintro (hq | hq)
        · omega
        · by_cases hws : w.sta b = s
          · rw [if_pos hws, if_pos (hq hws)]; omega
          · rw [if_neg hws]; split <;> omega
    · have h0 := h b (Nat.le_refl _) (by omega) hbc
      constructor
      · by_cases hws : w.sta b = s
        · rw [if_pos hws, if_pos (h0 hws)]; omega
        · rw [if_neg hws]; split <;> omega
      · intro hq
        have := i2 (by rcases hq with hq | hq
                       · exact Or.inl (by omega)
                       · exact Or.inr hq)
        by_cases hws : w.sta b = s
        · rw [if_pos hws, if_pos (h0 hws)]; omega
        · rw [if_neg hws]; split <;> omega
/-! the settled value -/
def sfB (v : Vt) (q : Int32) (D : Bool) (b : Nat) : Bk := if D = true ∧ v.sta b = 3 then (if q = 0 then 0 else 4, v.sat b, q) else if v.sta b = 4 ∧ v.wai b = 0 then (0, v.sat b, v.wai b) else v.blk b
def ded (v : Vt) (b : Nat) : Bool := !hlc v b 16 0
theorem Pinv.dd (h : Pinv B v) {b : Nat} (hb : b < 8) : ded v b = true ↔ ¬ liv v b := by rw [← h.hlc hb]; simp [ded]
def sfU (v : Vt) (q : Int32) (lo hi : Nat) : Vt := (v.1, (fun b => if lo ≤ b ∧ b < hi then sfB v q (ded v b) b else v.blk b), (fun r => if lo ≤ r ∧ r < hi ∧ ded v r = true ∧ v.sta r = 3 then [] else v.row r), v.ent)
def sfn (v : Vt) : Vt := sfU v (unw v 8 0 0) 0 8
theorem unw_congr : ∀ n b s, (∀ x, b ≤ x → x < b + n → (v.sta x = 1 ∨ v.sta x = 2 ↔ w.sta x = 1 ∨ w.sta x = 2)) → unw v n b s = unw w n b s := by
  intro n
  induction n with
  | zero => intro b s _; rfl
  | succ n ih =>
    intro b s h
    simp only [unw]
    have h0 := h b (Nat.le_refl _) (by omega)
    rw [ih (b + 1) _ (fun x h1 h2 => h x (by omega) (by omega))]
    by_cases hs : v.sta b = 1 ∨ v.sta b = 2
    · rw [if_pos hs, if_pos (h0.mp hs)]
    · rw [if_neg hs, if_neg (fun q => hs (h0.mpr q))]
theorem bit255 : ∀ b, b < 8 → ((1 : Int32) <<< (nI b &&& (31 : Int32))) &&& (255 : Int32) = (1 : Int32) <<< (nI b &&& (31 : Int32)) := by decide +kernel
theorem i32_aor (x y z : Int32) : (x ||| y) &&& z = (x &&& z) ||| (y &&& z) := Int32.toBitVec_inj.1 BitVec.and_or_distrib_right
theorem unw255 : ∀ n b s, b + n ≤ 8 → s &&& 255 = s → unw v n b s &&& 255 = unw v n b s := by
  intro n
  induction n with
  | zero => intro b s _ h; exact h
  | succ n ih =>
    intro b s hb h
    simp only [unw]
    refine ih (b + 1) _ (by omega) ?_
    split
    · rw [i32_aor, h, bit255 b (by omega)]
    · exact h
end
