/-! settling: the reference's way and the class's way -/
section
variable {v w : Vt} {B C : Nat}
theorem hlc_ent {b : Nat} : ∀ n k, (∀ j, v.ent j = w.ent j) → hlc v b n k = hlc w b n k := by
  intro n
  induction n with
  | zero => intro k _; rfl
  | succ n ih =>
    intro k h
    have : v.hom k = w.hom k := by simp only [Vt.hom, h k]
    simp only [hlc, this, ih (k + 1) h]
theorem sfU_row (q : Int32) {lo hi r : Nat} : (sfU v q lo hi).row r = if lo ≤ r ∧ r < hi ∧ ded v r = true ∧ v.sta r = 3 then [] else v.row r := rfl
theorem sfU_blk (q : Int32) {lo hi b : Nat} : (sfU v q lo hi).blk b = if lo ≤ b ∧ b < hi then sfB v q (ded v b) b else v.blk b := rfl
theorem sfn_ent {k : Nat} : (sfn v).ent k = v.ent k := rfl
theorem sfn_1 : (sfn v).1 = v.1 := rfl
theorem sfn_row {r : Nat} : (sfn v).row r = if r < 8 ∧ ded v r = true ∧ v.sta r = 3 then [] else v.row r := by
  unfold sfn; rw [sfU_row]; simp
theorem sfn_blk {b : Nat} (hb : b < 8) : (sfn v).blk b = sfB v (unw v 8 0 0) (ded v b) b := by
  unfold sfn; rw [sfU_blk, if_pos ⟨Nat.zero_le _, hb⟩]
theorem sfn_blk8 {b : Nat} (hb : ¬ b < 8) : (sfn v).blk b = v.blk b := by
  unfold sfn; rw [sfU_blk, if_neg (fun q => hb q.2)]
theorem sfB_sta {q : Int32} {D : Bool} {b : Nat} : (sfB v q D b).1 = (if D = true ∧ v.sta b = 3 then (if q = 0 then 0 else 4) else if v.sta b = 4 ∧ v.wai b = 0 then 0 else v.sta b) := by
  unfold sfB; split
  · rfl
  · split <;> rfl
theorem sfB_sat {q : Int32} {D : Bool} {b : Nat} : (sfB v q D b).2.1 = v.sat b := by
  unfold sfB; split
  · rfl
  · split <;> rfl
theorem sfB_wai {q : Int32} {D : Bool} {b : Nat} : (sfB v q D b).2.2 = if D = true ∧ v.sta b = 3 then q else v.wai b := by
  unfold sfB; split
  · rfl
  · split <;> rfl
theorem sfn_sta2 {b : Nat} (hb : b < 8) : (sfn v).sta b = 2 ↔ v.sta b = 2 := by
  unfold Vt.sta; rw [sfn_blk hb, sfB_sta]; unfold Vt.sta
  split
  · rename_i h
    constructor
    · intro q; split at q <;> omega
    · intro q; omega
  · split <;> omega
theorem sfn_sta12 {b : Nat} (hb : b < 8) : ((sfn v).sta b = 1 ∨ (sfn v).sta b = 2) ↔ (v.sta b = 1 ∨ v.sta b = 2) := by
  unfold Vt.sta; rw [sfn_blk hb, sfB_sta]; unfold Vt.sta
  split
  · rename_i h
    constructor
    · intro q; split at q <;> omega
    · intro q; omega
  · split <;> omega
theorem sfn_inv (h : Pinv B v) : Inv B (sfn v) := by
  have hrow : ∀ b, b < 8 → v.sta b = 0 ∨ v.sta b = 4 → (sfn v).row b = [] := by
    intro b hb hs
    rw [sfn_row]
    split
    · rfl
    · exact h.emt b hb hs
  have hsta : ∀ b, b < 8 → (sfn v).sta b = if ded v b = true ∧ v.sta b = 3 then (if unw v 8 0 0 = 0 then 0 else 4) else if v.sta b = 4 ∧ v.wai b = 0 then 0 else v.sta b := by
    intro b hb
    show ((sfn v).blk b).1 = _
    rw [sfn_blk hb, sfB_sta]
  have hwai : ∀ b, b < 8 → (sfn v).wai b = if ded v b = true ∧ v.sta b = 3 then unw v 8 0 0 else v.wai b := by
    intro b hb
    show ((sfn v).blk b).2.2 = _
    rw [sfn_blk hb, sfB_wai]
  have hsat : ∀ b, b < 8 → (sfn v).sat b = v.sat b := by
    intro b hb
    show ((sfn v).blk b).2.1 = _
    rw [sfn_blk hb, sfB_sat]
  refine ⟨Pinv.of (row := ?_) (ent := ?_) (emt := ?_) (img := ?_) (wai := ?_) (sat := ?_) (blk := ?_) (sld := ?_) (bnd := h.bnd) (dwn := ?_), ?_, ?_⟩
  · intro r hr
    rw [sfn_row]
    split
    · exact ⟨fun c hc => (by cases hc), by simp [szs]⟩
    · exact h.row r hr
  · intro k hk c hh p he
    obtain ⟨h1, h2, h3⟩ := h.ent k hk c hh p he
    refine ⟨h1, ?_, h3⟩
    rw [sfn_row, if_neg]
    · exact h2
    · intro q
      exact (h.dd h1).mp q.2.1 ⟨k, hk, c, p, he⟩
  · intro b hb hs
    rw [hsta b hb] at hs
    by_cases hd : ded v b = true ∧ v.sta b = 3
    · rw [sfn_row, if_pos ⟨hb, hd⟩]
    · rw [if_neg hd] at hs
      split at hs
      · rename_i h4; exact hrow b hb (Or.inr h4.1)
      · exact hrow b hb hs
  · intro b hb hs
    rw [hsta b hb] at hs
    by_cases hd : ded v b = true ∧ v.sta b = 3
    · rw [if_pos hd] at hs; split at hs <;> omega
    · rw [if_neg hd] at hs
      split at hs
      · omega
      · rw [sfn_row, sfn_row, if_neg (fun q => hd q.2), if_neg (fun q => by omega)]
        exact h.img b hb hs
  · intro b hb
    rw [hsta b hb, hwai b hb]
    by_cases hd : ded v b = true ∧ v.sta b = 3
    · rw [if_pos hd, if_pos hd]
      refine ⟨fun q => ?_, unw255 8 0 0 (by omega) rfl⟩
      split at q
      · assumption
      · omega
    · rw [if_neg hd, if_neg hd]
      refine ⟨fun q => ?_, (h.wai b hb).2⟩
      split at q
      · rename_i h4; exact h4.2
      · exact (h.wai b hb).1 q
  · intro b c hb hc h1 h2 h3
    rw [hsat b hb, hsat c hc] at h3
    exact h.sat b c hb hc ((sfn_sta2 hb).mp h1) ((sfn_sta2 hc).mp h2) h3
  · intro b hb
    have h0 := h.blk b hb
    refine ⟨?_, by rw [hsat b hb]; exact h0.2.1, fun q => by rw [hsat b hb]; exact h0.2.2 ((sfn_sta2 hb).mp q)⟩
    rw [hsta b hb]
    split
    · split <;> omega
    · split <;> omega
  · rw [cis_congr (v := sfn v) (w := v) 8 0 0 (fun x _ hx => sfn_sta2 (by omega))]
    exact h.sld
  · intro hd
    obtain ⟨h1, h2⟩ := h.dwn hd
    refine ⟨fun b hb => ⟨?_, hrow b hb (Or.inl (h1 b hb).1)⟩, h2⟩
    have := (h1 b hb).1
    rw [hsta b hb, if_neg (by omega)]
    split <;> omega
  · intro b hb hs
    rw [hsta b hb] at hs
    by_cases hd : ded v b = true ∧ v.sta b = 3
    · rw [if_pos hd] at hs; split at hs <;> omega
    · rw [if_neg hd] at hs
      split at hs
      · omega
      · have hl : liv v b := Classical.byContradiction (fun q => hd ⟨(h.dd hb).mpr q, hs⟩)
        exact hl
  · intro b hb hs
    rw [hsta b hb] at hs
    rw [hwai b hb]
    by_cases hd : ded v b = true ∧ v.sta b = 3
    · rw [if_pos hd] at hs; rw [if_pos hd]; split at hs
      · omega
      · assumption
    · rw [if_neg hd] at hs; rw [if_neg hd]
      split at hs
      · omega
      · rename_i h4; exact fun q => h4 ⟨hs, q⟩
/-- nothing to settle -/
theorem sfn_id (h : Pinv B v) (h3 : ∀ b, b < 8 → v.sta b = 3 → liv v b) (h4 : ∀ b, b < 8 → v.sta b = 4 → ¬ v.wai b = 0) : sfn v = v := by
  refine Vt.ext rfl (fun b => ?_) (fun r => ?_) (fun k => rfl)
  · by_cases hb : b < 8
    · rw [sfn_blk hb]
      unfold sfB
      rw [if_neg (fun q => (h.dd hb).mp q.1 (h3 b hb q.2)), if_neg (fun q => h4 b hb q.1 q.2)]
    · rw [sfn_blk8 hb]
  · rw [sfn_row, if_neg (fun q => (h.dd q.1).mp q.2.1 (h3 r q.1 q.2.2))]
theorem Inv.sfn (h : Inv B v) : sfn v = v := sfn_id h.p h.lv h.em
theorem frw_set {b a : Nat} {q : Int32} : frw (v.setB b (4, a, q)) b = v.setB b (if q = 0 then 0 else 4, a, q) := by
  unfold frw Vt.sta Vt.wai Vt.sat
  rw [Vt.setB_blk]
  by_cases hq : q = 0
  · rw [if_pos ⟨rfl, hq⟩, Vt.setB_set, if_pos hq]
  · rw [if_neg (fun x => hq x.2), if_neg hq]
/-- the class's emptying of one block -/
theorem emp_eq {b : Nat} (h : Pinv B v) (hb : b < 8) (h3 : ∀ c, c < 8 → c ≠ b → v.sta c = 3 → liv v c) (h4 : ∀ c, c < 8 → v.sta c = 4 → ¬ v.wai c = 0) : emp v b = sfn v := by
  unfold emp
  split
  · rename_i hd
    have hdd : ded v b = true := by simp [ded, hd.2]
    have hu : unw (emd v b) 8 0 0 = unw v 8 0 0 := by
      refine unw_congr 8 0 0 (fun x _ hx => ?_)
      by_cases hxb : x = b
      · subst hxb
        have : (emd v x).sta x = 4 := by simp [emd, Vt.sta, Vt.setB_blk]
        rw [this]; omega
      · have : (emd v b).sta x = v.sta x := by simp only [emd, Vt.sta, Vt.setB_ne _ _ hxb]; rfl
        rw [this]
    rw [hu]
    have e0 : ((emd v b).setB b (4, v.sat b, unw v 8 0 0)) = (v.setR b []).setB b (4, v.sat b, unw v 8 0 0) := by unfold emd; rw [Vt.setB_set]
    rw [e0, frw_set]
    refine Vt.ext rfl (fun c => ?_) (fun r => ?_) (fun k => rfl)
    · by_cases hcb : c = b
      · subst hcb
        rw [Vt.setB_blk, sfn_blk hb]
        unfold sfB
        rw [if_pos (show ded v c = true ∧ v.sta c = 3 from ⟨hdd, hd.1⟩)]
      · rw [Vt.setB_ne _ _ hcb]
        show v.blk c = _
        by_cases hc : c < 8
        · rw [sfn_blk hc]
          unfold sfB
          rw [if_neg (fun q => (h.dd hc).mp q.1 (h3 c hc hcb q.2)), if_neg (fun q => h4 c hc q.1 q.2)]
        · rw [sfn_blk8 hc]
    · show (v.setR b []).row r = _
      rw [sfn_row]
      by_cases hrb : r = b
      · subst hrb; rw [Vt.setR_row, if_pos ⟨hb, hdd, hd.1⟩]
      · rw [Vt.setR_ne _ _ hrb, if_neg (fun q => (h.dd q.1).mp q.2.1 (h3 r q.1 hrb q.2.2))]
  · rename_i hd
    refine (sfn_id h (fun c hc hs => ?_) h4).symm
    by_cases hcb : c = b
    · subst hcb
      refine (h.hlc hc).mp ?_
      cases hh : hlc v c 16 0 with
      | true => rfl
      | false => exact absurd ⟨hs, hh⟩ hd
    · exact h3 c hc hcb hs
/-! the places' sum is the keys' sum -/
def smf (f : Nat → Nat) : Nat → Nat → Nat
  | 0, _ => 0
  | n + 1, k => f k + smf f n (k + 1)
theorem smf_congr {f g : Nat → Nat} : ∀ n k, (∀ j, k ≤ j → j < k + n → f j = g j) → smf f n k = smf g n k := by
  intro n
  induction n with
  | zero => intro k _; rfl
  | succ n ih => intro k h; simp only [smf]; rw [h k (Nat.le_refl _) (by omega), ih (k + 1) (fun j h1 h2 => h j (by omega) (by omega))]
theorem smf_one {f g : Nat → Nat} {x d : Nat} (hx : g x = f x + d) : ∀ n k, (∀ j, j ≠ x → g j = f j) → smf g n k = smf f n k + (if k ≤ x ∧ x < k + n then d else 0) := by
  intro n
  induction n with
  | zero => intro k _; rw [if_neg (by omega)]; rfl
  | succ n ih =>
    intro k h
    simp only [smf]
    rw [ih (k + 1) h]
    by_cases hk : k = x
    · subst hk
      rw [hx, if_neg (by omega), if_pos (by omega)]; omega
    · rw [h k hk]
      by_cases h1 : k ≤ x ∧ x < k + (n + 1)
      · rw [if_pos h1, if_pos (by omega)]; omega
      · rw [if_neg h1, if_neg (by omega)]; omega
theorem smf_zero {f : Nat → Nat} : ∀ n k, smf f n k = 0 ↔ ∀ j, k ≤ j → j < k + n → f j = 0 := by
  intro n
  induction n with
  | zero => intro k; exact ⟨fun _ j h1 h2 => by omega, fun _ => rfl⟩
  | succ n ih =>
    intro k
    simp only [smf]
    constructor
    · intro h j h1 h2
      by_cases hj : j = k
      · subst hj; omega
      · exact (ih (k + 1)).mp (by omega) j (by omega) (by omega)
    · intro h
      rw [h k (Nat.le_refl _) (by omega), (ih (k + 1)).mpr (fun j h1 h2 => h j (by omega) (by omega))]
def uf (v : Vt) (b p k : Nat) : Nat := match v.ent k with
  | none => 0
  | some e => if e.2.1 = b ∧ e.2.2 < p then e.1.siz else 0
theorem usd_smf {b p : Nat} (hp : ∀ k, k < 16 → ∀ c h q, v.ent k = some (c, h, q) → q < p) : ∀ n k a, k + n = 16 → usd v b n k a = a + smf (uf v b p) n k := by
  intro n
  induction n with
  | zero => intro k a _; rfl
  | succ n ih =>
    intro k a hk
    simp only [usd, smf]
    rw [ih (k + 1) _ (by omega)]
    cases he : v.ent k with
    | none =>
      have : uf v b p k = 0 := by simp [uf, he]
      rw [this]
      show a + _ = _
      omega
    | some e =>
      obtain ⟨c, h, q⟩ := e
      have hq := hp k (by omega) c h q he
      by_cases hb : h = b
      · have : uf v b p k = c.siz := by simp [uf, he, hb, hq]
        simp only []
        rw [if_pos hb, this]; omega
      · have : uf v b p k = 0 := by simp [uf, he, hb]
        simp only []
        rw [if_neg hb, this]; omega
theorem eI_at (h : Pinv B v) {k b p : Nat} (hk : k < 16) (hb : b < 8) (hp : p < 12) : eI (v.ent k) = nI (12 * b + p) ↔ ∃ c, v.ent k = some (c, b, p) := by
  cases he : v.ent k with
  | none =>
    simp only [eI]
    exact ⟨fun q => absurd q.symm (nI_m1 (by omega)), fun ⟨c, q⟩ => by cases q⟩
  | some e =>
    obtain ⟨c, hh, q⟩ := e
    obtain ⟨h1, h2⟩ := h.pl hk he
    simp only [eI]
    rw [nI_eq (by omega) (by omega)]
    constructor
    · intro hq
      have e1 : hh = b := by omega
      have e2 : q = p := by omega
      subst e1; subst e2; exact ⟨c, rfl⟩
    · rintro ⟨d, hd⟩; cases hd; rfl
theorem um_smf (h : Pinv B v) {b : Nat} (hb : b < 8) : ∀ n p a, p + n = (v.row b).length → um v b ((v.row b).drop p) p (a + smf (uf v b p) 16 0) = a + smf (uf v b (v.row b).length) 16 0 := by
  intro n
  induction n with
  | zero =>
    intro p a hp
    have : p = (v.row b).length := by omega
    subst this
    simp [um]
  | succ n ih =>
    intro p a hp
    obtain ⟨c, hc, hd⟩ := drop_at (l := v.row b) (p := p) (by omega)
    have hl := h.len (r := b) (by omega)
    have hok := (h.row b (by omega)).1 c (List.mem_of_getElem? hc)
    rw [hd]
    simp only [um]
    rw [← ih (p + 1) a (by omega)]
    refine congrArg (fun z => um v b ((v.row b).drop (p + 1)) (p + 1) z) ?_
    have hoth : ∀ j, j ≠ c.key → j < 16 → uf v b (p + 1) j = uf v b p j := by
      intro j hj hj16
      unfold uf
      cases he : v.ent j with
      | none => rfl
      | some e =>
        obtain ⟨d, hh, q⟩ := e
        obtain ⟨h1, h2, h3⟩ := h.ent j hj16 d hh q he
        by_cases hcnd : hh = b ∧ q = p
        · obtain ⟨e1, e2⟩ := hcnd
          subst e1; subst e2
          rw [hc] at h2
          cases h2
          exact absurd h3.symm hj
        · by_cases hx : hh = b ∧ q < p
          · show (if hh = b ∧ q < p + 1 then d.siz else 0) = if hh = b ∧ q < p then d.siz else 0
            rw [if_pos ⟨hx.1, by omega⟩, if_pos hx]
          · show (if hh = b ∧ q < p + 1 then d.siz else 0) = if hh = b ∧ q < p then d.siz else 0
            rw [if_neg (by omega), if_neg hx]
    by_cases hat : eI (v.ent c.key) = nI (12 * b + p)
    · rw [if_pos hat]
      obtain ⟨d, hd'⟩ := (eI_at h hok.1 hb (by omega)).mp hat
      have hdc : d = c := by
        have := (h.ent c.key hok.1 d b p hd').2.1
        rw [hc] at this; cases this; rfl
      subst hdc
      have key : smf (uf v b (p + 1)) 16 0 = smf (uf v b p) 16 0 + d.siz := by
        have e1 : smf (uf v b (p + 1)) 16 0 = smf (fun j => if j < 16 then uf v b (p + 1) j else uf v b p j) 16 0 := smf_congr 16 0 (fun j _ hj => by rw [if_pos (by omega)])
        have e2 := smf_one (f := uf v b p) (g := fun j => if j < 16 then uf v b (p + 1) j else uf v b p j) (x := d.key) (d := d.siz) (by rw [if_pos hok.1]; simp [uf, hd']) 16 0 (fun j hj => by
          by_cases h16 : j < 16
          · rw [if_pos h16]; exact hoth j hj h16
          · rw [if_neg h16])
        rw [e1, e2, if_pos ⟨Nat.zero_le _, by have := hok.1; omega⟩]
      rw [key]; omega
    · rw [if_neg hat]
      refine congrArg (fun z => a + z) ?_
      refine smf_congr 16 0 (fun j _ hj => ?_)
      by_cases hjc : j = c.key
      · subst hjc
        unfold uf
        cases he : v.ent c.key with
        | none => rfl
        | some e =>
          obtain ⟨d, hh, q⟩ := e
          by_cases hcnd : hh = b ∧ q = p
          · exact absurd ((eI_at h hok.1 hb (by omega)).mpr ⟨d, by rw [he, hcnd.1, hcnd.2]⟩) hat
          · by_cases hx : hh = b ∧ q < p
            · show (if hh = b ∧ q < p then d.siz else 0) = if hh = b ∧ q < p + 1 then d.siz else 0
              rw [if_pos hx, if_pos ⟨hx.1, by omega⟩]
            · show (if hh = b ∧ q < p then d.siz else 0) = if hh = b ∧ q < p + 1 then d.siz else 0
              rw [if_neg hx, if_neg (by omega)]
      · exact (hoth j hjc (by omega)).symm
theorem um_usd (h : Pinv B v) {b : Nat} (hb : b < 8) : um v b (v.row b) 0 0 = usd v b 16 0 0 := by
  have h0 := um_smf h hb (v.row b).length 0 0 (by omega)
  have hz : smf (uf v b 0) 16 0 = 0 := (smf_zero 16 0).mpr (fun j _ _ => by unfold uf; split <;> simp)
  rw [hz] at h0
  rw [show um v b (v.row b) 0 0 = um v b ((v.row b).drop 0) 0 (0 + 0) from rfl, h0]
  rw [usd_smf (p := 12) (fun k hk c hh q he => (h.pl hk he).2) 16 0 0 rfl]
  refine congrArg (fun z => 0 + z) ?_
  refine smf_congr 16 0 (fun j _ hj => ?_)
  unfold uf
  cases he : v.ent j with
  | none => rfl
  | some e =>
    obtain ⟨d, hh, q⟩ := e
    obtain ⟨h1, h2, h3⟩ := h.ent j (by omega) d hh q he
    have hp : q < (v.row hh).length := (List.getElem?_eq_some_iff.mp h2).1
    have := (h.pl (by omega) he).2
    by_cases hx : hh = b
    · subst hx; simp [hp, this]
    · simp [hx]
theorem usd_zero (h : Pinv B v) {b : Nat} (hb : b < 8) : usd v b 16 0 0 = 0 ↔ ¬ liv v b := by
  rw [usd_smf (p := 12) (fun k hk c hh q he => (h.pl hk he).2) 16 0 0 rfl, Nat.zero_add, smf_zero]
  constructor
  · rintro h0 ⟨k, hk, c, p, he⟩
    have hz := h0 k (Nat.zero_le _) (by omega)
    obtain ⟨h1, h2, h3⟩ := h.ent k hk c b p he
    have hok := ((h.row b (by omega)).1 c (List.mem_of_getElem? h2)).2.1
    have hp := (h.pl hk he).2
    have : uf v b 12 k = c.siz := by simp [uf, he, hp]
    omega
  · intro hl j _ hj
    unfold uf
    cases he : v.ent j with
    | none => rfl
    | some e =>
      obtain ⟨d, hh, q⟩ := e
      by_cases hx : hh = b
      · subst hx; exact absurd ⟨j, by omega, d, q, he⟩ hl
      · simp [hx]
end
