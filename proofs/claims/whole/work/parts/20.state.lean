/-! THE VALUE that class and reference both stand for -/
-- a COPY: key, value, size, generation, void time, stamp, tombstone
abbrev Cp : Type := Nat × Int32 × Nat × Int32 × Int32 × Int32 × Bool
def Cp.key (c : Cp) : Nat := c.1
def Cp.val (c : Cp) : Int32 := c.2.1
def Cp.siz (c : Cp) : Nat := c.2.2.1
def Cp.gen (c : Cp) : Int32 := c.2.2.2.1
def Cp.voi (c : Cp) : Int32 := c.2.2.2.2.1
def Cp.stp (c : Cp) : Int32 := c.2.2.2.2.2.1
def Cp.tmb (c : Cp) : Bool := c.2.2.2.2.2.2
def bI (b : Bool) : Int32 := if b = true then 1 else 0
theorem bI_01 (b : Bool) : bI b = 0 ∨ bI b = 1 := by cases b <;> simp [bI]
theorem bI_0 {b : Bool} : bI b = 0 ↔ b = false := by cases b <;> simp [bI]
-- a block: state, sealedAt, waits
abbrev Bk : Type := Nat × Nat × Int32
-- an entry: copy, home, place
abbrev En : Type := Option (Cp × Nat × Nat)
-- (clock, next stamp, written, moved, down, seals), blocks, rows (0..7 contents, 8..15 images), entries
abbrev Vt : Type := (Int32 × Int32 × Int32 × Int32 × Bool × Nat) × (Nat → Bk) × (Nat → List Cp) × (Nat → En)
def Vt.clk (v : Vt) : Int32 := v.1.1
def Vt.nst (v : Vt) : Int32 := v.1.2.1
def Vt.wrt (v : Vt) : Int32 := v.1.2.2.1
def Vt.mvd (v : Vt) : Int32 := v.1.2.2.2.1
def Vt.dwn (v : Vt) : Bool := v.1.2.2.2.2.1
def Vt.sls (v : Vt) : Nat := v.1.2.2.2.2.2
def Vt.blk (v : Vt) : Nat → Bk := v.2.1
def Vt.row (v : Vt) : Nat → List Cp := v.2.2.1
def Vt.ent (v : Vt) : Nat → En := v.2.2.2
def Vt.sta (v : Vt) (b : Nat) : Nat := (v.blk b).1
def Vt.sat (v : Vt) (b : Nat) : Nat := (v.blk b).2.1
def Vt.wai (v : Vt) (b : Nat) : Int32 := (v.blk b).2.2
def Vt.cpy (v : Vt) (k : Nat) : Option Cp := (v.ent k).map (·.1)
def Vt.hom (v : Vt) (k : Nat) : Int32 := match v.ent k with
  | none => -1
  | some e => nI e.2.1
def Vt.plc (v : Vt) (k : Nat) : Int32 := match v.ent k with
  | none => 0
  | some e => nI e.2.2
def Vt.setI (v : Vt) (x : Int32 × Int32 × Int32 × Int32 × Bool × Nat) : Vt := (x, v.2)
def Vt.setB (v : Vt) (b : Nat) (x : Bk) : Vt := (v.1, va_up v.2.1 b x, v.2.2)
def Vt.setR (v : Vt) (r : Nat) (x : List Cp) : Vt := (v.1, v.2.1, va_up v.2.2.1 r x, v.2.2.2)
def Vt.setE (v : Vt) (k : Nat) (x : En) : Vt := (v.1, v.2.1, v.2.2.1, va_up v.2.2.2 k x)
def Vt.setS (v : Vt) (b : Nat) (s : Nat) : Vt := v.setB b (s, (v.blk b).2.1, (v.blk b).2.2)
def Vt.setW (v : Vt) (b : Nat) (w : Int32) : Vt := v.setB b ((v.blk b).1, (v.blk b).2.1, w)
-- the class's cells
abbrev cpV (c : Cp) : va_E := .inr (1, [.int (nI c.key), .int c.val, .int (nI c.siz), .int c.gen, .int c.voi, .int c.stp, .int (bI c.tmb)])
def isC (m : xm_M) (a : Nat) (c : Cp) : Prop := m a = some (cpV c)
def isQ (m : xm_M) (r : Option Nat) : Option Cp → Prop
  | none => r = none
  | some c => ∃ a, r = some a ∧ isC m a c
abbrev vtV (ad : Nat → Nat) (v : Vt) : va_E := .inr (0, [.ref (ad 1), .ref (ad 2), .int v.clk, .int v.nst, .int (nI v.sls), .int v.wrt, .int v.mvd, .int (bI v.dwn)])
abbrev bkV (ad : Nat → Nat) (v : Vt) (b : Nat) : va_E := .inr (3, [.ref (ad (20 + b)), .ref (ad (20 + (8 + b))), .int (nI (v.sta b)), .int (nI (v.sat b)), .int (v.wai b)])
abbrev rwV (ad : Nat → Nat) (l : List Cp) (r : Nat) : va_E := .inr (2, [.ref (ad (40 + r)), .int (nI l.length)])
abbrev enV (q : Option Nat) (v : Vt) (k : Nat) : va_E := .inr (4, [va_rf q, .int (v.hom k), .int (v.plc k)])
abbrev qA (t n : Nat) (f : Nat → Option Nat) : va_E := .inl (t, n, .inr (.inr (.inr (.inr f))))
def rwok (m : xm_M) (f : Nat → Option Nat) (l : List Cp) : Prop := l.length ≤ 12 ∧ ∀ i c, l[i]? = some c → ∃ a, f i = some a ∧ isC m a c
/-- object numbers: 0 the vault, 1 and 2 its arrays, 10.. blocks, 20.. rows (contents, then images), 40.. the rows' arrays, 60.. entries -/
def Rep (ad : Nat → Nat) (m : xm_M) (v : Vt) : Prop :=
  (∀ i j, i < 80 → j < 80 → ad i = ad j → i = j) ∧ m (ad 0) = some (vtV ad v) ∧
  (∃ f, m (ad 1) = some (qA 0 8 f) ∧ ∀ b, b < 8 → f b = some (ad (10 + b))) ∧
  (∃ f, m (ad 2) = some (qA 1 16 f) ∧ ∀ k, k < 16 → f k = some (ad (60 + k))) ∧
  (∀ b, b < 8 → m (ad (10 + b)) = some (bkV ad v b)) ∧
  (∀ r, r < 16 → m (ad (20 + r)) = some (rwV ad (v.row r) r)) ∧
  (∀ r, r < 16 → ∃ f, m (ad (40 + r)) = some (qA 2 12 f) ∧ rwok m f (v.row r)) ∧
  (∀ k, k < 16 → ∃ q, m (ad (60 + k)) = some (enV q v k) ∧ isQ m q (v.cpy k))
section
variable {ad : Nat → Nat} {m : xm_M} {v : Vt}
theorem Rep.inj (h : Rep ad m v) {i j : Nat} (hi : i < 80) (hj : j < 80) (hn : i ≠ j) : ad i ≠ ad j := fun e => hn (h.1 i j hi hj e)
theorem Rep.vt (h : Rep ad m v) : m (ad 0) = some (vtV ad v) := h.2.1
theorem Rep.ba (h : Rep ad m v) : ∃ f, m (ad 1) = some (qA 0 8 f) ∧ ∀ b, b < 8 → f b = some (ad (10 + b)) := h.2.2.1
theorem Rep.ia (h : Rep ad m v) : ∃ f, m (ad 2) = some (qA 1 16 f) ∧ ∀ k, k < 16 → f k = some (ad (60 + k)) := h.2.2.2.1
theorem Rep.bk (h : Rep ad m v) {b : Nat} (hb : b < 8) : m (ad (10 + b)) = some (bkV ad v b) := h.2.2.2.2.1 b hb
theorem Rep.rw (h : Rep ad m v) {r : Nat} (hr : r < 16) : m (ad (20 + r)) = some (rwV ad (v.row r) r) := h.2.2.2.2.2.1 r hr
theorem Rep.ra (h : Rep ad m v) {r : Nat} (hr : r < 16) : ∃ f, m (ad (40 + r)) = some (qA 2 12 f) ∧ rwok m f (v.row r) := h.2.2.2.2.2.2.1 r hr
theorem Rep.en (h : Rep ad m v) {k : Nat} (hk : k < 16) : ∃ q, m (ad (60 + k)) = some (enV q v k) ∧ isQ m q (v.cpy k) := h.2.2.2.2.2.2.2 k hk
end
/-- cells of the class's own mutable kinds -/
def kindC : va_E → Bool
  | .inr (c, _) => c == 0 || c == 2 || c == 3 || c == 4
  | .inl (t, _) => t == 0 || t == 1 || t == 2
def FrC (m m' : xm_M) : Prop := ∀ a e, m a = some e → kindC e = false → m' a = some e
theorem FrC.rf {m : xm_M} : FrC m m := fun _ _ h _ => h
theorem FrC.tr {m m1 m2 : xm_M} (h1 : FrC m m1) (h2 : FrC m1 m2) : FrC m m2 := fun a e h k => h2 a e (h1 a e h k) k
theorem FrC.up {m : xm_M} {a : Nat} {e e' : va_E} (h : m a = some e) (hk : kindC e = true) : FrC m (xm_up m a e') := by
  intro b x hb hx
  have hne : b ≠ a := fun q => by subst q; rw [h] at hb; cases hb; rw [hk] at hx; cases hx
  rw [xm_up_n _ _ hne]; exact hb
theorem FrC.new {m : xm_M} {a : Nat} {e : va_E} (h : m a = none) : FrC m (xm_up m a e) := by
  intro b x hb _
  have hne : b ≠ a := fun q => by subst q; rw [h] at hb; cases hb
  rw [xm_up_n _ _ hne]; exact hb
theorem isC.fr {m m' : xm_M} {a : Nat} {c : Cp} (h : isC m a c) (hf : FrC m m') : isC m' a c := hf a _ h rfl
theorem isQ.fr {m m' : xm_M} {r : Option Nat} {c : Option Cp} (h : isQ m r c) (hf : FrC m m') : isQ m' r c := by
  cases c with
  | none => exact h
  | some c => obtain ⟨a, h1, h2⟩ := h; exact ⟨a, h1, h2.fr hf⟩
theorem rwok.fr {m m' : xm_M} {f : Nat → Option Nat} {l : List Cp} (h : rwok m f l) (hf : FrC m m') : rwok m' f l := ⟨h.1, fun i c hi => by obtain ⟨a, h1, h2⟩ := h.2 i c hi; exact ⟨a, h1, h2.fr hf⟩⟩
/-! a write to one of the class's cells -/
theorem Rep.up {ad : Nat → Nat} {m : xm_M} {v v' : Vt} (h : Rep ad m v) {j : Nat} {e e' : va_E} (hj : j < 80) (hm : m (ad j) = some e) (hk : kindC e = true)
    (h0 : (if 0 = j then some e' else m (ad 0)) = some (vtV ad v'))
    (h1 : j ≠ 1) (h2 : j ≠ 2)
    (h3 : ∀ b, b < 8 → (if 10 + b = j then some e' else m (ad (10 + b))) = some (bkV ad v' b))
    (h4 : ∀ r, r < 16 → (if 20 + r = j then some e' else m (ad (20 + r))) = some (rwV ad (v'.row r) r))
    (h5 : ∀ r, r < 16 → ∃ f, (if 40 + r = j then some e' else m (ad (40 + r))) = some (qA 2 12 f) ∧ rwok m f (v'.row r))
    (h6 : ∀ k, k < 16 → ∃ q, (if 60 + k = j then some e' else m (ad (60 + k))) = some (enV q v' k) ∧ isQ m q (v'.cpy k)) : Rep ad (xm_up m (ad j) e') v' := by
  have hF : FrC m (xm_up m (ad j) e') := FrC.up hm hk
  have key : ∀ i, i < 80 → xm_up m (ad j) e' (ad i) = if i = j then some e' else m (ad i) := by
    intro i hi
    by_cases hij : i = j
    · subst hij; simp [xm_up]
    · rw [xm_up_n _ _ (h.inj hi hj hij), if_neg hij]
  refine ⟨h.1, by rw [key 0 (by omega)]; exact h0, ?_, ?_, fun b hb => by rw [key _ (by omega)]; exact h3 b hb, fun r hr => by rw [key _ (by omega)]; exact h4 r hr, fun r hr => ?_, fun k hk' => ?_⟩
  · obtain ⟨f, g1, g2⟩ := h.ba; exact ⟨f, by rw [key 1 (by omega), if_neg (fun q => h1 q.symm)]; exact g1, g2⟩
  · obtain ⟨f, g1, g2⟩ := h.ia; exact ⟨f, by rw [key 2 (by omega), if_neg (fun q => h2 q.symm)]; exact g1, g2⟩
  · obtain ⟨f, g1, g2⟩ := h5 r hr; exact ⟨f, by rw [key _ (by omega)]; exact g1, g2.fr hF⟩
  · obtain ⟨q, g1, g2⟩ := h6 k hk'; exact ⟨q, by rw [key _ (by omega)]; exact g1, g2.fr hF⟩
/-- the vault's own numbers -/
theorem Rep.upV {ad : Nat → Nat} {m : xm_M} {v : Vt} (h : Rep ad m v) (x : Int32 × Int32 × Int32 × Int32 × Bool × Nat) : Rep ad (xm_up m (ad 0) (vtV ad (v.setI x))) (v.setI x) := by
  refine h.up (j := 0) (by omega) h.vt rfl (by simp) (by omega) (by omega) (fun b hb => ?_) (fun r hr => ?_) (fun r hr => ?_) (fun k hk => ?_)
  · rw [if_neg (by omega)]; exact h.bk hb
  · rw [if_neg (by omega)]; exact h.rw hr
  · rw [if_neg (by omega)]; exact h.ra hr
  · rw [if_neg (by omega)]; exact h.en hk
theorem Rep.upB {ad : Nat → Nat} {m : xm_M} {v : Vt} (h : Rep ad m v) {b : Nat} (hb : b < 8) (x : Bk) : Rep ad (xm_up m (ad (10 + b)) (bkV ad (v.setB b x) b)) (v.setB b x) := by
  refine h.up (j := 10 + b) (by omega) (h.bk hb) rfl (by rw [if_neg (by omega)]; exact h.vt) (by omega) (by omega) (fun c hc => ?_) (fun r hr => ?_) (fun r hr => ?_) (fun k hk => ?_)
  · by_cases hcb : c = b
    · subst hcb; simp
    · rw [if_neg (by omega), h.bk hc]; simp [bkV, Vt.sta, Vt.sat, Vt.wai, Vt.blk, Vt.setB, va_up, hcb]
  · rw [if_neg (by omega)]; exact h.rw hr
  · rw [if_neg (by omega)]; exact h.ra hr
  · rw [if_neg (by omega)]; exact h.en hk
/-- an entry -/
theorem Rep.upE {ad : Nat → Nat} {m : xm_M} {v : Vt} (h : Rep ad m v) {k : Nat} (hk : k < 16) (x : En) {q : Option Nat} (hq : isQ m q ((v.setE k x).cpy k)) : Rep ad (xm_up m (ad (60 + k)) (enV q (v.setE k x) k)) (v.setE k x) := by
  obtain ⟨q0, g0, -⟩ := h.en hk
  refine h.up (j := 60 + k) (by omega) g0 rfl (by rw [if_neg (by omega)]; exact h.vt) (by omega) (by omega) (fun c hc => ?_) (fun r hr => ?_) (fun r hr => ?_) (fun c hc => ?_)
  · rw [if_neg (by omega)]; exact h.bk hc
  · rw [if_neg (by omega)]; exact h.rw hr
  · rw [if_neg (by omega)]; exact h.ra hr
  · by_cases hck : c = k
    · subst hck; exact ⟨q, by simp, hq⟩
    · rw [if_neg (by omega)]
      obtain ⟨q1, g1, g2⟩ := h.en hc
      refine ⟨q1, ?_, ?_⟩
      · rw [g1]; simp [enV, Vt.hom, Vt.plc, Vt.ent, Vt.setE, va_up, hck]
      · have : (v.setE k x).cpy c = v.cpy c := by simp [Vt.cpy, Vt.ent, Vt.setE, va_up, hck]
        rw [this]; exact g2
/-- a row's length: fewer -/
theorem Rep.upR {ad : Nat → Nat} {m : xm_M} {v : Vt} (h : Rep ad m v) {r : Nat} (hr : r < 16) {l : List Cp} (hl : ∀ f, rwok m f (v.row r) → m (ad (40 + r)) = some (qA 2 12 f) → rwok m f l) : Rep ad (xm_up m (ad (20 + r)) (rwV ad l r)) (v.setR r l) := by
  refine h.up (j := 20 + r) (by omega) (h.rw hr) rfl (by rw [if_neg (by omega)]; exact h.vt) (by omega) (by omega) (fun c hc => ?_) (fun c hc => ?_) (fun c hc => ?_) (fun c hc => ?_)
  · rw [if_neg (by omega)]; exact h.bk hc
  · by_cases hcr : c = r
    · subst hcr; simp [Vt.row, Vt.setR, va_up]
    · rw [if_neg (by omega), h.rw hc]; simp [Vt.row, Vt.setR, va_up, hcr]
  · rw [if_neg (by omega)]
    obtain ⟨f, g1, g2⟩ := h.ra hc
    by_cases hcr : c = r
    · subst hcr; exact ⟨f, g1, by have := hl f g2 g1; simpa [Vt.row, Vt.setR, va_up] using this⟩
    · exact ⟨f, g1, by simpa [Vt.row, Vt.setR, va_up, hcr] using g2⟩
  · rw [if_neg (by omega)]; exact h.en hc
/-- a row's array, behind its length -/
theorem Rep.upA {ad : Nat → Nat} {m : xm_M} {v : Vt} (h : Rep ad m v) {r : Nat} (hr : r < 16) {f f' : Nat → Option Nat} (hf : m (ad (40 + r)) = some (qA 2 12 f)) (hl : rwok m f (v.row r) → rwok m f' (v.row r)) : Rep ad (xm_up m (ad (40 + r)) (qA 2 12 f')) v := by
  refine h.up (j := 40 + r) (by omega) hf rfl (by rw [if_neg (by omega)]; exact h.vt) (by omega) (by omega) (fun c hc => ?_) (fun c hc => ?_) (fun c hc => ?_) (fun c hc => ?_)
  · rw [if_neg (by omega)]; exact h.bk hc
  · rw [if_neg (by omega)]; exact h.rw hc
  · obtain ⟨f1, g1, g2⟩ := h.ra hc
    by_cases hcr : c = r
    · subst hcr
      rw [hf] at g1
      cases g1
      exact ⟨f', by simp, hl g2⟩
    · rw [if_neg (by omega)]; exact ⟨f1, g1, g2⟩
  · rw [if_neg (by omega)]; exact h.en hc
/-- a new cell, or cells of other kinds -/
theorem Rep.fr {ad : Nat → Nat} {m m' : xm_M} {v : Vt} (h : Rep ad m v) (hk : ∀ a e, m a = some e → (kindC e = true ∨ ∃ fs, e = .inr (1, fs)) → m' a = some e) : Rep ad m' v := by
  have hC : ∀ a c, isC m a c → isC m' a c := fun a c hc => hk a _ hc (Or.inr ⟨_, rfl⟩)
  have hQ : ∀ q c, isQ m q c → isQ m' q c := by
    intro q c hq
    cases c with
    | none => exact hq
    | some c => obtain ⟨a, h1, h2⟩ := hq; exact ⟨a, h1, hC a c h2⟩
  refine ⟨h.1, hk _ _ h.vt (Or.inl rfl), ?_, ?_, fun b hb => hk _ _ (h.bk hb) (Or.inl rfl), fun r hr => hk _ _ (h.rw hr) (Or.inl rfl), fun r hr => ?_, fun k hk' => ?_⟩
  · obtain ⟨f, g1, g2⟩ := h.ba; exact ⟨f, hk _ _ g1 (Or.inl rfl), g2⟩
  · obtain ⟨f, g1, g2⟩ := h.ia; exact ⟨f, hk _ _ g1 (Or.inl rfl), g2⟩
  · obtain ⟨f, g1, g2⟩ := h.ra hr
    refine ⟨f, hk _ _ g1 (Or.inl rfl), g2.1, fun i c hi => ?_⟩
    obtain ⟨a, e1, e2⟩ := g2.2 i c hi
    exact ⟨a, e1, hC a c e2⟩
  · obtain ⟨q, g1, g2⟩ := h.en hk'; exact ⟨q, hk _ _ g1 (Or.inl rfl), hQ q _ g2⟩
theorem Rep.new {ad : Nat → Nat} {m : xm_M} {v : Vt} (h : Rep ad m v) {a : Nat} {e : va_E} (ha : m a = none) : Rep ad (xm_up m a e) v := by
  refine h.fr (fun b x hb _ => ?_)
  have hne : b ≠ a := fun q => by subst q; rw [ha] at hb; cases hb
  rw [xm_up_n _ _ hne]; exact hb
