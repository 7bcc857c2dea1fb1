/-! start: the reference's way and the class's way -/
section
variable {v u w : Vt} {B C : Nat}
def rcl : Nat → Nat → Vt → Vt
  | 0, _, u => u
  | n + 1, b, u => rcl n (b + 1) (u.setR b (u.row (8 + b)))
def se (u : Vt) (b p : Nat) (c : Cp) : Vt := match u.ent c.key with
  | none => u.setE c.key (some (c, b, p))
  | some e => if c.stp ≤ e.1.stp then u else u.setE c.key (some (c, b, p))
def sn (u : Vt) (c : Cp) : Vt := if u.nst ≤ c.stp then nxs u (c.stp + 1) else u
def sc1 (u : Vt) (d : Nat) : Option Cp → Vt
  | none => u
  | some c => se (sn u c) (d / 12) (d % 12) c
def sl : Nat → Nat → Vt → Vt
  | 0, _, u => u
  | n + 1, d, u => sl n (d + 1) (sc1 u d (u.row (d / 12))[d % 12]?)
def dxm : Nat → Nat → Vt → Vt
  | 0, _, u => u
  | n + 1, k, u => dxm n (k + 1) (match u.ent k with
    | none => u
    | some e => if exm e.1 u.clk = true then u.setE k none else u)
def rbm : Nat → Nat → Vt → Vt
  | 0, _, u => u
  | n + 1, b, u => rbm n (b + 1) (if um u b (u.row b) 0 0 = 0 then u.setR b [] else u.setB b (3, u.sat b, u.wai b))
def stm (v : Vt) : Vt := rbm 8 0 (dxm 16 0 (sl 96 0 (rcl 8 0 (v.setI (v.clk, 1, v.wrt, v.mvd, false, v.sls)))))
theorem rcl_row : ∀ n b u, b + n ≤ 8 → ∀ r, (rcl n b u).row r = if b ≤ r ∧ r < b + n then u.row (8 + r) else u.row r := by
  intro n
  induction n with
  | zero => intro b u _ r; rw [if_neg (by omega)]; rfl
  | succ n ih =>
    intro b u hb r
    rw [rcl, ih (b + 1) _ (by omega)]
    by_cases hr : r = b
    · subst hr; rw [if_neg (by omega), if_pos (by omega), Vt.setR_row]
    · rw [Vt.setR_ne _ _ (show 8 + r ≠ b by omega), Vt.setR_ne _ _ hr]
      by_cases hc : b ≤ r ∧ r < b + (n + 1)
      · rw [if_pos hc, if_pos (by omega)]
      · rw [if_neg hc, if_neg (by omega)]
theorem rcl_o : ∀ n b u, (rcl n b u).1 = u.1 ∧ (rcl n b u).blk = u.blk ∧ (rcl n b u).ent = u.ent := by
  intro n
  induction n with
  | zero => intro b u; exact ⟨rfl, rfl, rfl⟩
  | succ n ih => intro b u; rw [rcl]; exact ih (b + 1) _
/-- the fields that naming leaves alone -/
def sam (u w : Vt) : Prop := u.row = w.row ∧ u.blk = w.blk ∧ u.clk = w.clk ∧ u.wrt = w.wrt ∧ u.mvd = w.mvd ∧ u.dwn = w.dwn ∧ u.sls = w.sls
theorem sam.rf : sam u u := ⟨rfl, rfl, rfl, rfl, rfl, rfl, rfl⟩
theorem sam.tr {x : Vt} (h : sam u w) (k : sam w x) : sam u x := ⟨h.1.trans k.1, h.2.1.trans k.2.1, h.2.2.1.trans k.2.2.1, h.2.2.2.1.trans k.2.2.2.1, h.2.2.2.2.1.trans k.2.2.2.2.1, h.2.2.2.2.2.1.trans k.2.2.2.2.2.1, h.2.2.2.2.2.2.trans k.2.2.2.2.2.2⟩
theorem sam_se {b p : Nat} {c : Cp} : sam (se u b p c) u ∧ (se u b p c).nst = u.nst := by
  unfold se
  split
  · exact ⟨sam.rf, rfl⟩
  · split
    · exact ⟨sam.rf, rfl⟩
    · exact ⟨sam.rf, rfl⟩
theorem sam_sn {c : Cp} : sam (sn u c) u ∧ (sn u c).ent = u.ent := by
  unfold sn; split
  · exact ⟨sam.rf, rfl⟩
  · exact ⟨sam.rf, rfl⟩
/-- entries name the images' copies -/
def EK (R : Nat → List Cp) (u : Vt) : Prop := ∀ k, k < 16 → ∀ c h p, u.ent k = some (c, h, p) → h < 8 ∧ (R h)[p]? = some c ∧ c.key = k
theorem se_EK {R : Nat → List Cp} {b p : Nat} {c : Cp} (h : EK R u) (hb : b < 8) (hc : (R b)[p]? = some c) : EK R (se u b p c) := by
  have key : EK R (u.setE c.key (some (c, b, p))) := by
    intro k hk d hh q he
    by_cases hkc : k = c.key
    · subst hkc; rw [Vt.setE_ent] at he; cases he; exact ⟨hb, hc, rfl⟩
    · rw [Vt.setE_ne _ _ hkc] at he; exact h k hk d hh q he
  unfold se
  split
  · exact key
  · split
    · exact h
    · exact key
theorem sn_EK {R : Nat → List Cp} {c : Cp} (h : EK R u) : EK R (sn u c) := by
  intro k hk d hh q he
  rw [sam_sn.2] at he
  exact h k hk d hh q he
def nns (b : Nat) : List Cp → Nat → Vt → Vt
  | [], _, u => u
  | c :: l, p, u => nns b l (p + 1) (se (sn u c) b p c)
def nnb : Nat → Nat → Vt → Vt
  | 0, _, u => u
  | n + 1, b, u => nnb n (b + 1) (nns b (u.row b) 0 u)
theorem sl_add : ∀ n m d u, sl (n + m) d u = sl m (d + n) (sl n d u) := by
  intro n
  induction n with
  | zero => intro m d u; rw [Nat.zero_add]; rfl
  | succ n ih =>
    intro m d u
    rw [show n + 1 + m = (n + m) + 1 by omega, sl, sl, ih, show d + 1 + n = d + (n + 1) by omega]
theorem sl_blk {b : Nat} : ∀ n p u, p + n = 12 → (u.row b).length ≤ 12 → sl n (12 * b + p) u = nns b ((u.row b).drop p) p u := by
  intro n
  induction n with
  | zero => intro p u hp hl; rw [List.drop_eq_nil_of_le (by omega)]; rfl
  | succ n ih =>
    intro p u hp hl
    rw [sl, show (12 * b + p) / 12 = b by omega, show (12 * b + p) % 12 = p by omega]
    by_cases hpl : p < (u.row b).length
    · obtain ⟨c, hc, hd⟩ := drop_at (l := u.row b) (p := p) hpl
      rw [hc, hd]
      have hs : sc1 u (12 * b + p) (some c) = se (sn u c) b p c := by
        show se (sn u c) ((12 * b + p) / 12) ((12 * b + p) % 12) c = _
        rw [show (12 * b + p) / 12 = b by omega, show (12 * b + p) % 12 = p by omega]
      rw [hs, nns]
      have hr : (se (sn u c) b p c).row = u.row := (sam_se.1.tr sam_sn.1).1
      have := ih (p + 1) (se (sn u c) b p c) (by omega) (by rw [hr]; exact hl)
      rw [hr] at this
      exact this
    · rw [List.getElem?_eq_none (by omega), List.drop_eq_nil_of_le (by omega)]
      have := ih (p + 1) u (by omega) hl
      rw [List.drop_eq_nil_of_le (by omega)] at this
      exact this
theorem nns_sam {b : Nat} : ∀ l p u, sam (nns b l p u) u := by
  intro l
  induction l with
  | nil => intro p u; exact sam.rf
  | cons c l ih => intro p u; rw [nns]; exact (ih (p + 1) _).tr (sam_se.1.tr sam_sn.1)
theorem nnb_sam : ∀ n b u, sam (nnb n b u) u := by
  intro n
  induction n with
  | zero => intro b u; exact sam.rf
  | succ n ih => intro b u; rw [nnb]; exact (ih (b + 1) _).tr (nns_sam _ _ _)
theorem sl_nnb : ∀ n b u, (∀ r, r < 16 → (u.row r).length ≤ 12) → b + n ≤ 8 → sl (12 * n) (12 * b) u = nnb n b u := by
  intro n
  induction n with
  | zero => intro b u _ _; rfl
  | succ n ih =>
    intro b u hl hb
    rw [show 12 * (n + 1) = 12 + 12 * n by omega, sl_add, show 12 * b + 12 = 12 * (b + 1) by omega]
    have h1 := sl_blk (b := b) 12 0 u rfl (hl b (by omega))
    rw [Nat.add_zero, List.drop_zero] at h1
    rw [h1, nnb]
    refine ih (b + 1) _ (fun r hr => ?_) (by omega)
    rw [(nns_sam _ _ _).1]; exact hl r hr
/-- the entries do not depend on the stamps to come -/
theorem se_ent {b p : Nat} {c : Cp} (h : u.ent = w.ent) : (se u b p c).ent = (match w.ent c.key with
    | none => w.setE c.key (some (c, b, p))
    | some e => if c.stp ≤ e.1.stp then w else w.setE c.key (some (c, b, p))).ent := by
  have key : (u.setE c.key (some (c, b, p))).ent = (w.setE c.key (some (c, b, p))).ent := by
    show va_up u.ent _ _ = va_up w.ent _ _
    rw [h]
  unfold se
  rw [h]
  cases w.ent c.key with
  | none => exact key
  | some e =>
    show (if c.stp ≤ e.1.stp then u else u.setE c.key (some (c, b, p))).ent = (if c.stp ≤ e.1.stp then w else w.setE c.key (some (c, b, p))).ent
    split
    · exact h
    · exact key
theorem nns_ent {b : Nat} : ∀ l p u w, u.ent = w.ent → (nns b l p u).ent = (nni b l p w).ent := by
  intro l
  induction l with
  | nil => intro p u w h; exact h
  | cons c l ih =>
    intro p u w h
    rw [nns, nni]
    refine ih (p + 1) _ _ ?_
    exact se_ent (sam_sn.2.trans h)
theorem nni_o {b : Nat} : ∀ l p u, (nni b l p u).row = u.row ∧ (nni b l p u).blk = u.blk ∧ (nni b l p u).1 = u.1 := by
  intro l
  induction l with
  | nil => intro p u; exact ⟨rfl, rfl, rfl⟩
  | cons c l ih =>
    intro p u
    rw [nni]
    have key : ∀ z : Vt, z.row = u.row ∧ z.blk = u.blk ∧ z.1 = u.1 → (nni b l (p + 1) z).row = u.row ∧ (nni b l (p + 1) z).blk = u.blk ∧ (nni b l (p + 1) z).1 = u.1 := fun z hz => ⟨(ih (p + 1) z).1.trans hz.1, (ih (p + 1) z).2.1.trans hz.2.1, (ih (p + 1) z).2.2.trans hz.2.2⟩
    refine key _ ?_
    split
    · exact ⟨rfl, rfl, rfl⟩
    · split
      · exact ⟨rfl, rfl, rfl⟩
      · exact ⟨rfl, rfl, rfl⟩
theorem nno_o : ∀ n b u, (nno n b u).row = u.row ∧ (nno n b u).blk = u.blk ∧ (nno n b u).1 = u.1 := by
  intro n
  induction n with
  | zero => intro b u; exact ⟨rfl, rfl, rfl⟩
  | succ n ih => intro b u; rw [nno]; exact ⟨(ih (b + 1) _).1.trans (nni_o _ _ _).1, (ih (b + 1) _).2.1.trans (nni_o _ _ _).2.1, (ih (b + 1) _).2.2.trans (nni_o _ _ _).2.2⟩
theorem nnb_ent : ∀ n b u w, u.ent = w.ent → b + n ≤ 8 → (∀ r, r < 8 → u.row r = w.row (8 + r)) → (nnb n b u).ent = (nno n b w).ent := by
  intro n
  induction n with
  | zero => intro b u w h _ _; exact h
  | succ n ih =>
    intro b u w h hb hr
    rw [nnb, nno]
    refine ih (b + 1) _ _ ?_ (by omega) (fun r hr8 => ?_)
    · rw [hr b (by omega)]; exact nns_ent _ _ _ _ h
    · rw [(nns_sam _ _ _).1, (nni_o _ _ _).1]; exact hr r hr8
theorem nns_EK {R : Nat → List Cp} {b : Nat} (hb : b < 8) : ∀ n p u, p + n = (R b).length → EK R u → EK R (nns b ((R b).drop p) p u) := by
  intro n
  induction n with
  | zero => intro p u hp h; rw [List.drop_eq_nil_of_le (by omega)]; exact h
  | succ n ih =>
    intro p u hp h
    obtain ⟨c, hc, hd⟩ := drop_at (l := R b) (p := p) (by omega)
    rw [hd, nns]
    exact ih (p + 1) _ (by omega) (se_EK (sn_EK h) hb hc)
theorem nnb_EK {R : Nat → List Cp} : ∀ n b u, b + n ≤ 8 → (∀ r, r < 8 → u.row r = R r) → EK R u → EK R (nnb n b u) := by
  intro n
  induction n with
  | zero => intro b u _ _ h; exact h
  | succ n ih =>
    intro b u hb hr h
    rw [nnb]
    refine ih (b + 1) _ (by omega) (fun r hr8 => by rw [(nns_sam _ _ _).1]; exact hr r hr8) ?_
    rw [hr b (by omega)]
    have := nns_EK (R := R) (b := b) (by omega) (R b).length 0 u (by omega) h
    rwa [List.drop_zero] at this
/-! the next stamp -/
def gsN : List Cp → Nat → Nat
  | [], x => x
  | c :: l, x => gsN l (max x (kk c.stp))
theorem gsN_max : ∀ l x, gsN l x = max x (gsN l 0) := by
  intro l
  induction l with
  | nil => intro x; simp [gsN]
  | cons c l ih => intro x; simp only [gsN]; rw [ih (max x (kk c.stp)), ih (max 0 (kk c.stp))]; omega
theorem gsN_le : ∀ l x, (∀ c, c ∈ l → CpOk B c) → B < 2 ^ 30 → x ≤ B → gsN l x ≤ B := by
  intro l
  induction l with
  | nil => intro x _ _ h; exact h
  | cons c l ih =>
    intro x hl hB hx
    simp only [gsN]
    refine ih _ (fun d hd => hl d (List.mem_cons_of_mem _ hd)) hB ?_
    obtain ⟨-, -, -, -, s, h1, h2⟩ := hl c List.mem_cons_self
    rw [h1, kk_nI (by omega)]; omega
theorem gst_N : ∀ l x, (∀ c, c ∈ l → CpOk B c) → B < 2 ^ 30 → x ≤ B → gst l (nI x) = nI (gsN l x) := by
  intro l
  induction l with
  | nil => intro x _ _ _; rfl
  | cons c l ih =>
    intro x hl hB hx
    obtain ⟨-, -, -, -, s, h1, h2⟩ := hl c List.mem_cons_self
    have hl' := fun d hd => hl d (List.mem_cons_of_mem _ hd)
    simp only [gst, gsN]
    rw [h1, kk_nI (by omega)]
    by_cases hc : x < s
    · rw [if_pos ((nI_ltI (by omega) (by omega)).mpr hc), ih s hl' hB h2, Nat.max_eq_right (by omega)]
    · rw [if_neg (fun z => hc ((nI_ltI (by omega) (by omega)).mp z)), ih x hl' hB hx, Nat.max_eq_left (by omega)]
theorem nns_nst {b : Nat} : ∀ l p u x, (∀ c, c ∈ l → CpOk B c) → B < 2 ^ 30 → x ≤ B → u.nst = nI (x + 1) → (nns b l p u).nst = nI (gsN l x + 1) := by
  intro l
  induction l with
  | nil => intro p u x _ _ _ h; exact h
  | cons c l ih =>
    intro p u x hl hB hx h
    obtain ⟨-, -, -, -, s, h1, h2⟩ := hl c List.mem_cons_self
    have hl' := fun d hd => hl d (List.mem_cons_of_mem _ hd)
    simp only [nns, gsN]
    rw [h1, kk_nI (by omega)]
    refine ih (p + 1) _ _ hl' hB (by omega) ?_
    rw [sam_se.2]
    unfold sn
    rw [h, h1]
    by_cases hc : x + 1 ≤ s
    · rw [if_pos ((nI_leI (by omega) (by omega)).mpr hc), Nat.max_eq_right (by omega)]
      show nI s + 1 = _
      rw [nI_1]
    · rw [if_neg (fun z => hc ((nI_leI (by omega) (by omega)).mp z)), Nat.max_eq_left (by omega)]
      exact h
def gsM (R : Nat → List Cp) : Nat → Nat → Nat → Nat
  | 0, _, x => x
  | n + 1, b, x => gsM R n (b + 1) (gsN (R b) x)
theorem gsM_le {R : Nat → List Cp} (hR : ∀ r, r < 8 → ∀ c, c ∈ R r → CpOk B c) (hB : B < 2 ^ 30) : ∀ n b x, b + n ≤ 8 → x ≤ B → gsM R n b x ≤ B := by
  intro n
  induction n with
  | zero => intro b x _ h; exact h
  | succ n ih => intro b x hb h; rw [gsM]; exact ih (b + 1) _ (by omega) (gsN_le _ _ (hR b (by omega)) hB h)
theorem nnb_nst {R : Nat → List Cp} (hR : ∀ r, r < 8 → ∀ c, c ∈ R r → CpOk B c) (hB : B < 2 ^ 30) : ∀ n b u x, b + n ≤ 8 → (∀ r, r < 8 → u.row r = R r) → x ≤ B → u.nst = nI (x + 1) → (nnb n b u).nst = nI (gsM R n b x + 1) := by
  intro n
  induction n with
  | zero => intro b u x _ _ _ h; exact h
  | succ n ih =>
    intro b u x hb hr hx h
    rw [nnb, gsM]
    refine ih (b + 1) _ _ (by omega) (fun r hr8 => by rw [(nns_sam _ _ _).1]; exact hr r hr8) (gsN_le _ _ (hR b (by omega)) hB hx) ?_
    rw [hr b (by omega)]
    exact nns_nst _ _ _ _ (hR b (by omega)) hB hx h
theorem gso_M {R : Nat → List Cp} (hR : ∀ r, r < 8 → ∀ c, c ∈ R r → CpOk B c) (hB : B < 2 ^ 30) : ∀ n b x, b + n ≤ 8 → (∀ r, r < 8 → u.row (8 + r) = R r) → x ≤ B → gso u n b (nI x) = nI (gsM R n b x) := by
  intro n
  induction n with
  | zero => intro b x _ _ _; rfl
  | succ n ih =>
    intro b x hb hr hx
    rw [gso, gsM, hr b (by omega)]
    have h0 : gst (R b) 0 = nI (gsN (R b) 0) := gst_N (R b) 0 (hR b (by omega)) hB (Nat.zero_le _)
    have hle := gsN_le (R b) 0 (hR b (by omega)) hB (Nat.zero_le _)
    have hmx := gsN_max (R b) x
    have hle2 := gsN_le (R b) x (hR b (by omega)) hB hx
    rw [h0]
    by_cases hc : x < gsN (R b) 0
    · rw [if_pos ((nI_ltI (by omega) (by omega)).mpr hc), ih (b + 1) _ (by omega) hr hle]
      rw [show gsN (R b) x = gsN (R b) 0 by omega]
    · rw [if_neg (fun z => hc ((nI_ltI (by omega) (by omega)).mp z)), ih (b + 1) _ (by omega) hr hx]
      rw [show gsN (R b) x = x by omega]
end
