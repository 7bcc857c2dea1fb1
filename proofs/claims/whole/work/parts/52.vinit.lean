/-! the vault's constructor -/
abbrev us (b e i : Nat) : Prop := i < 3 ∨ (10 ≤ i ∧ i < 10 + b) ∨ (20 ≤ i ∧ i < 20 + b) ∨ (28 ≤ i ∧ i < 28 + b) ∨ (40 ≤ i ∧ i < 40 + b) ∨ (48 ≤ i ∧ i < 48 + b) ∨ (60 ≤ i ∧ i < 60 + e)
abbrev rok (b r : Nat) : Prop := r < b ∨ (8 ≤ r ∧ r < 8 + b)
def BI (b e : Nat) (ad : Nat → Nat) (m : xm_M) : Prop :=
  (∀ i j, us b e i → us b e j → ad i = ad j → i = j) ∧ m (ad 0) = some (vtV ad v0) ∧
  (∃ f, m (ad 1) = some (qA 0 8 f) ∧ ∀ c, c < b → f c = some (ad (10 + c))) ∧
  (∃ f, m (ad 2) = some (qA 1 16 f) ∧ ∀ k, k < e → f k = some (ad (60 + k))) ∧
  (∀ c, c < b → m (ad (10 + c)) = some (bkV ad v0 c)) ∧
  (∀ r, rok b r → m (ad (20 + r)) = some (rwV ad [] r)) ∧
  (∀ r, rok b r → ∃ f, m (ad (40 + r)) = some (qA 2 12 f)) ∧
  (∀ k, k < e → m (ad (60 + k)) = some (enV none v0 k))
theorem BI.nn {b e : Nat} {ad : Nat → Nat} {m : xm_M} (h : BI b e ad m) (hb : b ≤ 8) {i : Nat} (hi : us b e i) : m (ad i) ≠ none := by
  obtain ⟨-, h0, ⟨f1, h1, -⟩, ⟨f2, h2, -⟩, h3, h4, h5, h6⟩ := h
  rcases hi with hi | ⟨g1, g2⟩ | ⟨g1, g2⟩ | ⟨g1, g2⟩ | ⟨g1, g2⟩ | ⟨g1, g2⟩ | ⟨g1, g2⟩
  · rcases (show i = 0 ∨ i = 1 ∨ i = 2 by omega) with rfl | rfl | rfl
    · rw [h0]; simp
    · rw [h1]; simp
    · rw [h2]; simp
  · have := h3 (i - 10) (by omega)
    rw [show 10 + (i - 10) = i by omega] at this; rw [this]; simp
  · have := h4 (i - 20) (Or.inl (by omega))
    rw [show 20 + (i - 20) = i by omega] at this; rw [this]; simp
  · have := h4 (i - 20) (Or.inr ⟨by omega, by omega⟩)
    rw [show 20 + (i - 20) = i by omega] at this; rw [this]; simp
  · obtain ⟨f, this⟩ := h5 (i - 40) (Or.inl (by omega))
    rw [show 40 + (i - 40) = i by omega] at this; rw [this]; simp
  · obtain ⟨f, this⟩ := h5 (i - 40) (Or.inr ⟨by omega, by omega⟩)
    rw [show 40 + (i - 40) = i by omega] at this; rw [this]; simp
  · have := h6 (i - 60) (by omega)
    rw [show 60 + (i - 60) = i by omega] at this; rw [this]; simp
/-- one block more -/
theorem BI.blk {b e : Nat} {ad : Nat → Nat} {m m' : xm_M} (h : BI b e ad m) (hb : b < 8) {p r1 c1 r2 c2 : Nat} {f : Nat → Option Nat} (hf : m (ad 1) = some (qA 0 8 f))
    (np : m p = none) (n1 : m r1 = none) (n2 : m c1 = none) (n3 : m r2 = none) (n4 : m c2 = none)
    (d1 : r1 ≠ p) (d2 : c1 ≠ p) (d3 : r2 ≠ p) (d4 : c2 ≠ p) (e1 : c1 ≠ r1) (e2 : r2 ≠ r1) (e3 : c2 ≠ r1) (e4 : r2 ≠ c1) (e5 : c2 ≠ c1) (e6 : c2 ≠ r2)
    (vp : m' p = some (.inr (3, [.ref r1, .ref r2, .int 0, .int 0, .int 0]))) (v1 : m' r1 = some (.inr (2, [.ref c1, .int 0]))) (v2 : m' c1 = some n12) (v3 : m' r2 = some (.inr (2, [.ref c2, .int 0]))) (v4 : m' c2 = some n12)
    (va : m' (ad 1) = some (qA 0 8 (va_up f b (some p)))) (ho : ∀ x, x ≠ p → x ≠ r1 → x ≠ c1 → x ≠ r2 → x ≠ c2 → x ≠ ad 1 → m' x = m x) : ∃ ad', ad' 0 = ad 0 ∧ BI (b + 1) e ad' m' := by
  have hnn : ∀ i, us b e i → ad i ≠ p ∧ ad i ≠ r1 ∧ ad i ≠ c1 ∧ ad i ≠ r2 ∧ ad i ≠ c2 := by
    intro i hi
    have := h.nn (by omega) hi
    exact ⟨fun q => this (by rw [q]; exact np), fun q => this (by rw [q]; exact n1), fun q => this (by rw [q]; exact n2), fun q => this (by rw [q]; exact n3), fun q => this (by rw [q]; exact n4)⟩
  have hinj := h.1
  obtain ⟨ad', hd⟩ : ∃ ad' : Nat → Nat, ad' = fun i => if i = 10 + b then p else if i = 20 + b then r1 else if i = 28 + b then r2 else if i = 40 + b then c1 else if i = 48 + b then c2 else ad i := ⟨_, rfl⟩
  have a0 : ∀ i, us b e i → ad' i = ad i := by
    intro i hi
    rw [hd]
    simp only
    rw [if_neg (by unfold us at hi; omega), if_neg (by unfold us at hi; omega), if_neg (by unfold us at hi; omega), if_neg (by unfold us at hi; omega), if_neg (by unfold us at hi; omega)]
  have a1 : ad' (10 + b) = p := by rw [hd]; simp
  have a2 : ad' (20 + b) = r1 := by rw [hd]; simp only; rw [if_neg (by omega), if_pos trivial]
  have a3 : ad' (28 + b) = r2 := by rw [hd]; simp only; rw [if_neg (by omega), if_neg (by omega), if_pos trivial]
  have a4 : ad' (40 + b) = c1 := by rw [hd]; simp only; rw [if_neg (by omega), if_neg (by omega), if_neg (by omega), if_pos trivial]
  have a5 : ad' (48 + b) = c2 := by rw [hd]; simp only; rw [if_neg (by omega), if_neg (by omega), if_neg (by omega), if_neg (by omega), if_pos trivial]
  clear hd
  have m0 : ∀ i, us b e i → i ≠ 1 → m' (ad i) = m (ad i) := by
    intro i hi hn
    obtain ⟨g1, g2, g3, g4, g5⟩ := hnn i hi
    exact ho _ g1 g2 g3 g4 g5 (fun q => hn (hinj i 1 hi (Or.inl (by omega)) q))
  have cs : ∀ i, us (b + 1) e i → us b e i ∨ i = 10 + b ∨ i = 20 + b ∨ i = 28 + b ∨ i = 40 + b ∨ i = 48 + b := by
    intro i hi; unfold us at hi ⊢; omega
  have u0 : us b e 0 := Or.inl (by omega)
  have u1 : us b e 1 := Or.inl (by omega)
  have u2 : us b e 2 := Or.inl (by omega)
  obtain ⟨-, h0, ⟨f1, h1, h1'⟩, ⟨f2, h2, h2'⟩, h3, h4, h5, h6⟩ := h
  rw [hf] at h1
  cases h1
  refine ⟨ad', a0 0 u0, ?_, ?_, ?_, ?_, ?_, ?_, ?_, ?_⟩
  · intro i j hi hj hq
    rcases cs i hi with gi | gi | gi | gi | gi | gi <;> rcases cs j hj with gj | gj | gj | gj | gj | gj <;> (try rw [a0 i gi] at hq) <;> (try rw [a0 j gj] at hq) <;> (try subst gi) <;> (try subst gj) <;> (try rw [a1] at hq) <;> (try rw [a2] at hq) <;> (try rw [a3] at hq) <;> (try rw [a4] at hq) <;> (try rw [a5] at hq) <;> first
      | rfl
      | exact hinj i j gi gj hq
      | exact absurd hq d1 | exact absurd hq d2 | exact absurd hq d3 | exact absurd hq d4 | exact absurd hq e1 | exact absurd hq e2 | exact absurd hq e3 | exact absurd hq e4 | exact absurd hq e5 | exact absurd hq e6
      | exact absurd hq.symm d1 | exact absurd hq.symm d2 | exact absurd hq.symm d3 | exact absurd hq.symm d4 | exact absurd hq.symm e1 | exact absurd hq.symm e2 | exact absurd hq.symm e3 | exact absurd hq.symm e4 | exact absurd hq.symm e5 | exact absurd hq.symm e6
      | exact absurd hq (hnn _ gi).1 | exact absurd hq (hnn _ gi).2.1 | exact absurd hq (hnn _ gi).2.2.1 | exact absurd hq (hnn _ gi).2.2.2.1 | exact absurd hq (hnn _ gi).2.2.2.2
      | exact absurd hq.symm (hnn _ gj).1 | exact absurd hq.symm (hnn _ gj).2.1 | exact absurd hq.symm (hnn _ gj).2.2.1 | exact absurd hq.symm (hnn _ gj).2.2.2.1 | exact absurd hq.symm (hnn _ gj).2.2.2.2
  · rw [a0 0 u0, m0 0 u0 (by decide), h0]
    show some (vtV ad v0) = some (vtV ad' v0)
    simp only [vtV]
    rw [a0 1 u1, a0 2 u2]
  · refine ⟨_, by rw [a0 1 u1]; exact va, fun c hc => ?_⟩
    by_cases hcb : c = b
    · subst hcb; rw [a1]; simp [va_up]
    · rw [a0 (10 + c) (by unfold us; omega)]
      simp only [va_up, if_neg hcb]
      exact h1' c (by omega)
  · refine ⟨f2, by rw [a0 2 u2, m0 2 u2 (by decide)]; exact h2, fun k hk => ?_⟩
    rw [a0 (60 + k) (by unfold us; omega)]
    exact h2' k hk
  · intro c hc
    by_cases hcb : c = b
    · subst hcb
      rw [a1, vp]
      simp only [bkV]
      rw [a2, show 20 + (8 + c) = 28 + c by omega, a3]
      rfl
    · rw [a0 (10 + c) (by unfold us; omega), m0 (10 + c) (by unfold us; omega) (by omega), h3 c (by omega)]
      simp only [bkV]
      rw [a0 (20 + c) (by unfold us; omega), a0 (20 + (8 + c)) (by unfold us; omega)]
  · intro r hr
    by_cases hrb : r = b
    · subst hrb; rw [a2, v1]; simp only [rwV]; rw [a4]; rfl
    by_cases hrb8 : r = 8 + b
    · subst hrb8; rw [show 20 + (8 + b) = 28 + b by omega, a3, v3]; simp only [rwV]; rw [show 40 + (8 + b) = 48 + b by omega, a5]; rfl
    · rw [a0 (20 + r) (by unfold us; unfold rok at hr; omega), m0 (20 + r) (by unfold us; unfold rok at hr; omega) (by omega), h4 r (by unfold rok at hr ⊢; omega)]
      simp only [rwV]
      rw [a0 (40 + r) (by unfold us; unfold rok at hr; omega)]
  · intro r hr
    by_cases hrb : r = b
    · subst hrb; rw [a4]; exact ⟨_, v2⟩
    by_cases hrb8 : r = 8 + b
    · subst hrb8; rw [show 40 + (8 + b) = 48 + b by omega, a5]; exact ⟨_, v4⟩
    · rw [a0 (40 + r) (by unfold us; unfold rok at hr; omega), m0 (40 + r) (by unfold us; unfold rok at hr; omega) (by omega)]
      exact h5 r (by unfold rok at hr ⊢; omega)
  · intro k hk
    rw [a0 (60 + k) (by unfold us; omega), m0 (60 + k) (by unfold us; omega) (by omega)]
    exact h6 k hk
/-- one ENTRY more -/
theorem BI.ent {b e : Nat} {ad : Nat → Nat} {m m' : xm_M} (h : BI b e ad m) (hb : b ≤ 8) {p : Nat} {f : Nat → Option Nat} (hf : m (ad 2) = some (qA 1 16 f))
    (np : m p = none) (vp : m' p = some (.inr (4, [.null, .int (-1), .int 0])))
    (va : m' (ad 2) = some (qA 1 16 (va_up f e (some p)))) (ho : ∀ x, x ≠ p → x ≠ ad 2 → m' x = m x) : ∃ ad', ad' 0 = ad 0 ∧ BI b (e + 1) ad' m' := by
  have hnn : ∀ i, us b e i → ad i ≠ p := by
    intro i hi
    have := h.nn (by omega) hi
    exact fun q => this (by rw [q]; exact np)
  have hinj := h.1
  obtain ⟨ad', hd⟩ : ∃ ad' : Nat → Nat, ad' = fun i => if i = 60 + e then p else ad i := ⟨_, rfl⟩
  have a0 : ∀ i, us b e i → ad' i = ad i := by
    intro i hi
    rw [hd]
    simp only
    rw [if_neg (by unfold us at hi; omega)]
  have a1 : ad' (60 + e) = p := by rw [hd]; simp
  clear hd
  have m0 : ∀ i, us b e i → i ≠ 2 → m' (ad i) = m (ad i) := fun i hi hn => ho _ (hnn i hi) (fun q => hn (hinj i 2 hi (Or.inl (by omega)) q))
  have cs : ∀ i, us b (e + 1) i → us b e i ∨ i = 60 + e := by
    intro i hi; unfold us at hi ⊢; omega
  have u0 : us b e 0 := Or.inl (by omega)
  have u1 : us b e 1 := Or.inl (by omega)
  have u2 : us b e 2 := Or.inl (by omega)
  obtain ⟨-, h0, ⟨f1, h1, h1'⟩, ⟨f2, h2, h2'⟩, h3, h4, h5, h6⟩ := h
  rw [hf] at h2
  cases h2
  refine ⟨ad', a0 0 u0, ?_, ?_, ?_, ?_, ?_, ?_, ?_, ?_⟩
  · intro i j hi hj hq
    rcases cs i hi with gi | gi <;> rcases cs j hj with gj | gj
    · rw [a0 i gi, a0 j gj] at hq; exact hinj i j gi gj hq
    · subst gj; rw [a0 i gi, a1] at hq; exact absurd hq (hnn i gi)
    · subst gi; rw [a0 j gj, a1] at hq; exact absurd hq.symm (hnn j gj)
    · rw [gi, gj]
  · rw [a0 0 u0, m0 0 u0 (by decide), h0]
    show some (vtV ad v0) = some (vtV ad' v0)
    simp only [vtV]
    rw [a0 1 u1, a0 2 u2]
  · refine ⟨f1, by rw [a0 1 u1, m0 1 u1 (by decide)]; exact h1, fun c hc => ?_⟩
    rw [a0 (10 + c) (by unfold us; omega)]
    exact h1' c hc
  · refine ⟨_, by rw [a0 2 u2]; exact va, fun k hk => ?_⟩
    by_cases hke : k = e
    · subst hke; rw [a1]; simp [va_up]
    · rw [a0 (60 + k) (by unfold us; omega)]
      simp only [va_up, if_neg hke]
      exact h2' k (by omega)
  · intro c hc
    rw [a0 (10 + c) (by unfold us; omega), m0 (10 + c) (by unfold us; omega) (by omega), h3 c hc]
    simp only [bkV]
    rw [a0 (20 + c) (by unfold us; omega), a0 (20 + (8 + c)) (by unfold us; omega)]
  · intro r hr
    rw [a0 (20 + r) (by unfold us; unfold rok at hr; omega), m0 (20 + r) (by unfold us; unfold rok at hr; omega) (by omega), h4 r hr]
    simp only [rwV]
    rw [a0 (40 + r) (by unfold us; unfold rok at hr; omega)]
  · intro r hr
    rw [a0 (40 + r) (by unfold us; unfold rok at hr; omega), m0 (40 + r) (by unfold us; unfold rok at hr; omega) (by omega)]
    exact h5 r hr
  · intro k hk
    by_cases hke : k = e
    · subst hke; rw [a1, vp]; rfl
    · rw [a0 (60 + k) (by unfold us; omega), m0 (60 + k) (by unfold us; omega) (by omega)]
      exact h6 k (by omega)
theorem bnd_ex (g : Nat → Nat) : ∀ n, ∃ B, ∀ j, j < n → g j < B := by
  intro n
  induction n with
  | zero => exact ⟨0, fun j hj => absurd hj (Nat.not_lt_zero _)⟩
  | succ n ih =>
    obtain ⟨B, hB⟩ := ih
    refine ⟨B + g n + 1, fun j hj => ?_⟩
    by_cases hjn : j = n
    · subst hjn; omega
    · have := hB j (by omega); omega
theorem BI.rep {ad : Nat → Nat} {m : xm_M} (h : BI 8 16 ad m) : ∃ ad', ad' 0 = ad 0 ∧ Rep ad' m v0 := by
  obtain ⟨hinj, h0, ⟨f1, h1, h1'⟩, ⟨f2, h2, h2'⟩, h3, h4, h5, h6⟩ := h
  obtain ⟨B, hB⟩ := bnd_ex ad 80
  obtain ⟨ad', hd⟩ : ∃ ad' : Nat → Nat, ad' = fun i => if us 8 16 i then ad i else B + i := ⟨_, rfl⟩
  have a0 : ∀ i, us 8 16 i → ad' i = ad i := by intro i hi; rw [hd]; simp only; rw [if_pos hi]
  have a1 : ∀ i, ¬ us 8 16 i → ad' i = B + i := by intro i hi; rw [hd]; simp only; rw [if_neg hi]
  clear hd
  have u0 : us 8 16 0 := Or.inl (by omega)
  have u1 : us 8 16 1 := Or.inl (by omega)
  have u2 : us 8 16 2 := Or.inl (by omega)
  refine ⟨ad', a0 0 u0, ?_, ?_, ?_, ?_, ?_, ?_, ?_, ?_⟩
  · intro i j hi hj hq
    by_cases ui : us 8 16 i <;> by_cases uj : us 8 16 j
    · rw [a0 i ui, a0 j uj] at hq; exact hinj i j ui uj hq
    · rw [a0 i ui, a1 j uj] at hq; have := hB i hi; omega
    · rw [a1 i ui, a0 j uj] at hq; have := hB j hj; omega
    · rw [a1 i ui, a1 j uj] at hq; omega
  · rw [a0 0 u0, h0]
    simp only [vtV]
    rw [a0 1 u1, a0 2 u2]
  · refine ⟨f1, by rw [a0 1 u1]; exact h1, fun c hc => ?_⟩
    rw [a0 (10 + c) (by unfold us; omega)]
    exact h1' c hc
  · refine ⟨f2, by rw [a0 2 u2]; exact h2, fun k hk => ?_⟩
    rw [a0 (60 + k) (by unfold us; omega)]
    exact h2' k hk
  · intro c hc
    rw [a0 (10 + c) (by unfold us; omega), h3 c hc]
    simp only [bkV]
    rw [a0 (20 + c) (by unfold us; omega), a0 (20 + (8 + c)) (by unfold us; omega)]
  · intro r hr
    rw [a0 (20 + r) (by unfold us; omega), h4 r (by unfold rok; omega)]
    show some (rwV ad [] r) = some (rwV ad' [] r)
    simp only [rwV]
    rw [a0 (40 + r) (by unfold us; omega)]
  · intro r hr
    rw [a0 (40 + r) (by unfold us; omega)]
    obtain ⟨f, g⟩ := h5 r (by unfold rok; omega)
    refine ⟨f, g, by show ([] : List Cp).length ≤ 12; decide, fun i c hc => ?_⟩
    have hc : ([] : List Cp)[i]? = some c := hc
    simp at hc
  · intro k hk
    rw [a0 (60 + k) (by unfold us; omega)]
    exact ⟨none, h6 k hk, rfl⟩
section
variable {m : xm_M} {Rh : Option Value → xm_M → Prop}
theorem p_V_init {a : Nat} {x0 x1 x2 x3 x4 x5 x6 x7 : Value} (ha : m a = some (.inr (0, [x0, x1, x2, x3, x4, x5, x6, x7]))) (h : ∀ ad m', ad 0 = a → Rep ad m' v0 → Rh none m') : cp_V_init [.ref a] m Rh := by
  refine ⟨Nat.le_of_ble_eq_true rfl, fun X hX => ?_⟩
  have LE : ∀ n e ad m, e + n = 16 → ad 0 = a → BI 8 e ad m → ∀ bc bs, n ≤ bc → 3 * n ≤ bs → X 81 [(0, .ref a), (1, .int (nI e))] [] m bc bs := by
    intro n
    induction n with
    | zero =>
      intro e ad m he h0 hI bc bs h1 h2
      have : e = 16 := by omega
      subst this
      refine eV_init_81 hX ?_
      unfold cV_init_81
      obtain ⟨ad', g1, g2⟩ := hI.rep
      exact xr_iload rfl <| xr_push <| xr_cmpt (Int32.le_refl _) <| xr_vret (h ad' m (g1.trans h0) g2)
    | succ n ih =>
      intro e ad m he h0 hI bc bs h1 h2
      have he16 : e < 16 := by omega
      refine eV_init_81 hX ?_
      unfold cV_init_81
      obtain ⟨f2, i2, i2'⟩ := hI.2.2.2.1
      refine xr_iload rfl <| xr_push <| xr_cmpf (nI_ge he16 (by decide)) <| xr_aload rfl <| xr_get (fs := [.ref (ad 1), .ref (ad 2), .int v0.clk, .int v0.nst, .int (nI v0.sls), .int v0.wrt, .int v0.mvd, .int (bI v0.dwn)]) (by rw [← h0]; exact hI.2.1) rfl <| xr_iload rfl <| xr_new (by omega) (by omega) (fun p hp => ?_)
      have hp2 : ad 2 ≠ p := fun q => by rw [q, hp] at i2; cases i2
      refine xr_dup rfl <| xr_callI (Nat.zero_le _) (Nat.zero_le _) rfl (by simp) <| p_E_init (xm_up_s _ _ _) ?_
      rw [xm_up_uu]
      refine xr_aast (f := f2) (ci := 4) (vs := [.null, .int (-1), .int 0]) (by rw [xm_up_n _ _ hp2]; exact i2) (xm_up_s _ _ _) rfl (by decide) rfl he16 (by decide) <| xr_iinc rfl <| xr_jmp rfl ?_
      rw [nI_1]
      obtain ⟨ad', g1, g2⟩ := hI.ent (m' := xm_up (xm_up m p (.inr (4, [.null, .int (-1), .int 0]))) (ad 2) (qA 1 16 (va_up f2 e (some p)))) (Nat.le_refl _) i2 hp (by rw [xm_up_n _ _ hp2.symm, xm_up_s]) (xm_up_s _ _ _) (fun x q1 q2 => by rw [xm_up_n _ _ q2, xm_up_n _ _ q1])
      exact ih (e + 1) ad' _ (by omega) (g1.trans h0) g2 _ _ (by omega) (by omega)
  have LB : ∀ n b ad m, b + n = 8 → ad 0 = a → BI b 0 ad m → ∀ bc bs, 5 * n + 16 ≤ bc → 33 * n + 48 ≤ bs → X 54 [(0, .ref a), (1, .int (nI b))] [] m bc bs := by
    intro n
    induction n with
    | zero =>
      intro b ad m hb h0 hI bc bs h1 h2
      have : b = 8 := by omega
      subst this
      refine eV_init_54 hX ?_
      unfold cV_init_54
      exact xr_iload rfl <| xr_push <| xr_cmpt (Int32.le_refl _) <| xr_push <| xr_istore <| xr_jmp rfl (LE 16 0 ad m rfl h0 hI bc bs (by omega) (by omega))
    | succ n ih =>
      intro b ad m hb h0 hI bc bs h1 h2
      have hb8 : b < 8 := by omega
      refine eV_init_54 hX ?_
      unfold cV_init_54
      obtain ⟨f1, i1, i1'⟩ := hI.2.2.1
      refine xr_iload rfl <| xr_push <| xr_cmpf (nI_ge hb8 (by decide)) <| xr_aload rfl <| xr_get (fs := [.ref (ad 1), .ref (ad 2), .int v0.clk, .int v0.nst, .int (nI v0.sls), .int v0.wrt, .int v0.mvd, .int (bI v0.dwn)]) (by rw [← h0]; exact hI.2.1) rfl <| xr_iload rfl <| xr_new (by omega) (by omega) (fun p hp => ?_)
      have hp2 : ad 1 ≠ p := fun q => by rw [q, hp] at i1; cases i1
      refine xr_dup rfl <| xr_callI (by omega) (by omega) rfl (by simp) <| p_B_init (xm_up_s _ _ _) (fun m' r1 c1 r2 c2 hB => ?_)
      obtain ⟨⟨n1, n2, n3, n4⟩, ⟨e1, e2, e3, e4, e5, e6⟩, vp, v1, v2, v3, v4, ho⟩ := hB
      obtain ⟨d1, n1⟩ := xm_up_none n1
      obtain ⟨d2, n2⟩ := xm_up_none n2
      obtain ⟨d3, n3⟩ := xm_up_none n3
      obtain ⟨d4, n4⟩ := xm_up_none n4
      have k1 : ad 1 ≠ r1 := fun q => by rw [q, n1] at i1; cases i1
      have k2 : ad 1 ≠ c1 := fun q => by rw [q, n2] at i1; cases i1
      have k3 : ad 1 ≠ r2 := fun q => by rw [q, n3] at i1; cases i1
      have k4 : ad 1 ≠ c2 := fun q => by rw [q, n4] at i1; cases i1
      have i1m : m' (ad 1) = some (qA 0 8 f1) := by rw [ho _ hp2 k1 k2 k3 k4, xm_up_n _ _ hp2]; exact i1
      refine xr_aast (f := f1) (ci := 3) (vs := [.ref r1, .ref r2, .int 0, .int 0, .int 0]) i1m vp rfl (by decide) rfl hb8 (by decide) <| xr_iinc rfl <| xr_jmp rfl ?_
      rw [nI_1]
      obtain ⟨ad', g1, g2⟩ := hI.blk (m' := xm_up m' (ad 1) (qA 0 8 (va_up f1 b (some p)))) hb8 i1 hp n1 n2 n3 n4 d1 d2 d3 d4 e1 e2 e3 e4 e5 e6 (by rw [xm_up_n _ _ hp2.symm]; exact vp) (by rw [xm_up_n _ _ k1.symm]; exact v1) (by rw [xm_up_n _ _ k2.symm]; exact v2) (by rw [xm_up_n _ _ k3.symm]; exact v3) (by rw [xm_up_n _ _ k4.symm]; exact v4) (xm_up_s _ _ _) (fun x q1 q2 q3 q4 q5 q6 => by rw [xm_up_n _ _ q6, ho x q1 q2 q3 q4 q5, xm_up_n _ _ q1])
      exact ih (b + 1) ad' _ (by omega) (g1.trans h0) g2 _ _ (by omega) (by omega)
  refine eV_init_0 hX ?_
  unfold cV_init_0
  refine xr_aload rfl <| xr_drop (by decide) <| xr_aload rfl <| xr_push <| xr_anew rfl (by decide) (by decide) (by decide) (fun q1 hq1 => ?_)
  have a1 : a ≠ q1 := fun e => by subst e; rw [ha] at hq1; cases hq1
  refine xr_put (fs := [x0, x1, x2, x3, x4, x5, x6, x7]) (by rw [xm_up_n _ _ a1]; exact ha) (by simp) rfl rfl rfl <| xr_aload rfl <| xr_push <| xr_anew rfl (by decide) (by decide) (by decide) (fun q2 hq2 => ?_)
  obtain ⟨a2, hq2⟩ := xm_up_none hq2
  obtain ⟨a3, hq2⟩ := xm_up_none hq2
  refine xr_put (fs := [.ref q1, x1, x2, x3, x4, x5, x6, x7]) (by rw [xm_up_n _ _ a2.symm, xm_up_s]; rfl) (by simp) rfl rfl rfl <| xr_aload rfl <| xr_push <| xr_put (xm_up_s _ _ _) (by simp) rfl rfl rfl <| xr_aload rfl <| xr_push <| xr_put (xm_up_s _ _ _) (by simp) rfl rfl rfl <| xr_aload rfl <| xr_push <| xr_put (xm_up_s _ _ _) (by simp) rfl rfl rfl <| xr_aload rfl <| xr_push <| xr_put (xm_up_s _ _ _) (by simp) rfl rfl rfl <| xr_aload rfl <| xr_push <| xr_put (xm_up_s _ _ _) (by simp) rfl rfl rfl <| xr_aload rfl <| xr_push <| xr_put (xm_up_s _ _ _) (by simp) rfl rfl rfl <| xr_push <| xr_istore <| xr_jmp rfl ?_
  simp only [xm_up_uu]
  refine LB 8 0 (fun i => if i = 0 then a else if i = 1 then q1 else q2) _ rfl rfl ?_ _ _ (by decide) (by decide)
  refine ⟨?_, ?_, ⟨fun _ => none, ?_, fun c hc => absurd hc (Nat.not_lt_zero _)⟩, ⟨fun _ => none, ?_, fun c hc => absurd hc (Nat.not_lt_zero _)⟩, fun c hc => absurd hc (Nat.not_lt_zero _), fun r hr => ?_, fun r hr => ?_, fun c hc => absurd hc (Nat.not_lt_zero _)⟩
  · intro i j hi hj hq
    have hi : i < 3 := by unfold us at hi; omega
    have hj : j < 3 := by unfold us at hj; omega
    rcases (show i = 0 ∨ i = 1 ∨ i = 2 by omega) with rfl | rfl | rfl <;> rcases (show j = 0 ∨ j = 1 ∨ j = 2 by omega) with rfl | rfl | rfl <;> first
      | rfl
      | exact absurd hq a1 | exact absurd hq.symm a1 | exact absurd hq a2 | exact absurd hq.symm a2 | exact absurd hq a3 | exact absurd hq.symm a3
  · exact xm_up_s _ _ _
  · show xm_up _ a _ q1 = _
    rw [xm_up_n _ _ a1.symm, xm_up_n _ _ a3.symm, xm_up_n _ _ a1.symm, xm_up_s]
  · show xm_up _ a _ q2 = _
    rw [xm_up_n _ _ a2, xm_up_s]
  · unfold rok at hr; omega
  · unfold rok at hr; omega
end
