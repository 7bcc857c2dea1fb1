/-! the constructors: what they leave in the memory -/
def v0 : Vt := ((0, 1, 0, 0, false, 0), fun _ => (0, 0, 0), fun _ => [], fun _ => none)
theorem xm_up_none {m : xm_M} {a b : Nat} {e : va_E} (h : xm_up m a e b = none) : b ≠ a ∧ m b = none := by
  by_cases hb : b = a
  · subst hb; rw [xm_up_s] at h; cases h
  · rw [xm_up_n _ _ hb] at h; exact ⟨hb, h⟩
theorem xm_up_uu (m : xm_M) (a : Nat) (e e' : va_E) : xm_up (xm_up m a e) a e' = xm_up m a e' := by
  funext b
  by_cases hb : b = a
  · subst hb; rw [xm_up_s, xm_up_s]
  · rw [xm_up_n _ _ hb, xm_up_n _ _ hb, xm_up_n _ _ hb]
section
variable {m : xm_M} {K : xm_PT} {ls : xm_L} {st : List Value} {bc bs : Nat} {Rh : Option Value → xm_M → Prop}
abbrev n12 : va_E := qA 2 12 (fun _ => none)
theorem p_R_init {a : Nat} {x0 x1 : Value} (ha : m a = some (.inr (2, [x0, x1]))) (h : ∀ q, m q = none → Rh none (xm_up (xm_up m q n12) a (.inr (2, [.ref q, .int 0])))) : cp_R_init [.ref a] m Rh := by
  refine ⟨Nat.le_of_ble_eq_true rfl, fun X hX => eR_init_0 hX ?_⟩
  unfold cR_init_0
  refine xr_aload rfl <| xr_drop (by decide) <| xr_aload rfl <| xr_push <| xr_anew rfl (by decide) (by decide) (by decide) (fun q hq => ?_)
  have hne : a ≠ q := fun e => by subst e; rw [ha] at hq; cases hq
  refine xr_put (fs := [x0, x1]) (by rw [xm_up_n _ _ hne]; exact ha) (by simp) rfl rfl rfl <| xr_aload rfl <| xr_push <| xr_put (xm_up_s _ _ _) (by simp) rfl rfl rfl <| xr_vret ?_
  rw [xm_up_uu]
  exact h q hq
theorem p_E_init {a : Nat} {x0 x1 x2 : Value} (ha : m a = some (.inr (4, [x0, x1, x2]))) (h : Rh none (xm_up m a (.inr (4, [.null, .int (-1), .int 0])))) : cp_E_init [.ref a] m Rh := by
  refine ⟨Nat.le_of_ble_eq_true rfl, fun X hX => eE_init_0 hX ?_⟩
  unfold cE_init_0
  refine xr_aload rfl <| xr_drop (by decide) <| xr_aload rfl <| xr_push <| xr_put ha (by simp) rfl rfl rfl <| xr_aload rfl <| xr_push <| xr_put (xm_up_s _ _ _) (by simp) rfl rfl rfl <| xr_aload rfl <| xr_push <| xr_put (xm_up_s _ _ _) (by simp) rfl rfl rfl <| xr_vret ?_
  rw [xm_up_uu, xm_up_uu]
  exact h
/-- a block and its two rows, newly made -/
def nB (m m' : xm_M) (a r1 c1 r2 c2 : Nat) : Prop :=
  (m r1 = none ∧ m c1 = none ∧ m r2 = none ∧ m c2 = none) ∧ (c1 ≠ r1 ∧ r2 ≠ r1 ∧ c2 ≠ r1 ∧ r2 ≠ c1 ∧ c2 ≠ c1 ∧ c2 ≠ r2) ∧
  m' a = some (.inr (3, [.ref r1, .ref r2, .int 0, .int 0, .int 0])) ∧ m' r1 = some (.inr (2, [.ref c1, .int 0])) ∧ m' c1 = some n12 ∧ m' r2 = some (.inr (2, [.ref c2, .int 0])) ∧ m' c2 = some n12 ∧
  ∀ x, x ≠ a → x ≠ r1 → x ≠ c1 → x ≠ r2 → x ≠ c2 → m' x = m x
theorem p_B_init {a : Nat} {x0 x1 x2 x3 x4 : Value} (ha : m a = some (.inr (3, [x0, x1, x2, x3, x4]))) (h : ∀ m' r1 c1 r2 c2, nB m m' a r1 c1 r2 c2 → Rh none m') : cp_B_init [.ref a] m Rh := by
  refine ⟨Nat.le_of_ble_eq_true rfl, fun X hX => eB_init_0 hX ?_⟩
  unfold cB_init_0
  refine xr_aload rfl <| xr_drop (by decide) <| xr_aload rfl <| xr_new (by decide) (by decide) (fun r1 hr1 => ?_)
  have a1 : a ≠ r1 := fun e => by subst e; rw [ha] at hr1; cases hr1
  refine xr_dup rfl <| xr_callI (by decide) (by decide) rfl (by simp) <| p_R_init (xm_up_s _ _ _) (fun c1 hc1 => ?_)
  obtain ⟨c1r1, hc1'⟩ := xm_up_none hc1
  have a2 : a ≠ c1 := fun e => by subst e; rw [ha] at hc1'; cases hc1'
  refine xr_put (fs := [x0, x1, x2, x3, x4]) (by rw [xm_up_n _ _ a1, xm_up_n _ _ a2, xm_up_n _ _ a1]; exact ha) (by simp) rfl rfl rfl <| xr_aload rfl <| xr_new (by decide) (by decide) (fun r2 hr2 => ?_)
  obtain ⟨r2a, hr2⟩ := xm_up_none hr2
  obtain ⟨r2r1, hr2⟩ := xm_up_none hr2
  obtain ⟨r2c1, hr2⟩ := xm_up_none hr2
  obtain ⟨-, hr2⟩ := xm_up_none hr2
  refine xr_dup rfl <| xr_callI (by decide) (by decide) rfl (by simp) <| p_R_init (xm_up_s _ _ _) (fun c2 hc2 => ?_)
  obtain ⟨c2r2, hc2⟩ := xm_up_none hc2
  obtain ⟨c2a, hc2⟩ := xm_up_none hc2
  obtain ⟨c2r1, hc2⟩ := xm_up_none hc2
  obtain ⟨c2c1, hc2⟩ := xm_up_none hc2
  obtain ⟨-, hc2⟩ := xm_up_none hc2
  refine xr_put (fs := [.ref r1, x1, x2, x3, x4]) (by rw [xm_up_n _ _ r2a.symm, xm_up_n _ _ c2a.symm, xm_up_n _ _ r2a.symm, xm_up_s]; rfl) (by simp) rfl rfl rfl <| xr_aload rfl <| xr_push <| xr_put (xm_up_s _ _ _) (by simp) rfl rfl rfl <| xr_aload rfl <| xr_push <| xr_put (xm_up_s _ _ _) (by simp) rfl rfl rfl <| xr_aload rfl <| xr_push <| xr_put (xm_up_s _ _ _) (by simp) rfl rfl rfl <| xr_vret ?_
  refine h _ r1 c1 r2 c2 ⟨⟨hr1, hc1', hr2, hc2⟩, ⟨c1r1, r2r1, c2r1, r2c1, c2c1, c2r2⟩, ?_, ?_, ?_, ?_, ?_, ?_⟩
  · rw [xm_up_s]; rfl
  · simp [xm_up, a1.symm, r2r1.symm, c2r1.symm]
  · simp [xm_up, a2.symm, r2c1.symm, c2c1.symm, c1r1]
  · simp [xm_up, r2a]
  · simp [xm_up, c2a, c2r2]
  · intro x g1 g2 g3 g4 g5
    simp [xm_up, g1, g2, g3, g4, g5]
end
