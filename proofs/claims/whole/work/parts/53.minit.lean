/-! the reference's constructor -/
abbrev fsn (am : Nat → Nat) (n : Nat) : List Value := [if 0 < n then .ref (am 1) else .null, if 1 < n then .ref (am 2) else .null, if 2 < n then .ref (am 3) else .null, if 3 < n then .ref (am 4) else .null, if 4 < n then .ref (am 5) else .null, if 5 < n then .ref (am 6) else .null, if 6 < n then .ref (am 7) else .null, if 7 < n then .ref (am 8) else .null, if 8 < n then .ref (am 9) else .null, if 9 < n then .ref (am 10) else .null, if 10 < n then .ref (am 11) else .null, if 11 < n then .ref (am 12) else .null, .int 0, .int 0, .int 0, .int 0, .int 0, .int 0]
def RI (n : Nat) (am : Nat → Nat) (m : xm_M) : Prop :=
  (∀ i j, i < n + 1 → j < n + 1 → am i = am j → i = j) ∧ m (am 0) = some (.inr (5, fsn am n)) ∧ ∀ i, i < n → m (am (1 + i)) = some (iA (aty i) (aln i) (fun _ => 0))
theorem RI.nn {n : Nat} {am : Nat → Nat} {m : xm_M} (h : RI n am m) {i : Nat} (hi : i < n + 1) : m (am i) ≠ none := by
  by_cases h0 : i = 0
  · subst h0; rw [h.2.1]; simp
  · have := h.2.2 (i - 1) (by omega)
    rw [show 1 + (i - 1) = i by omega] at this
    rw [this]; simp
theorem fsn_set (am : Nat → Nat) {n q : Nat} (hn : n < 12) : (fsn am n).set n (.ref q) = fsn (va_up am (1 + n) q) (n + 1) := by
  rcases (show n = 0 ∨ n = 1 ∨ n = 2 ∨ n = 3 ∨ n = 4 ∨ n = 5 ∨ n = 6 ∨ n = 7 ∨ n = 8 ∨ n = 9 ∨ n = 10 ∨ n = 11 by omega) with rfl | rfl | rfl | rfl | rfl | rfl | rfl | rfl | rfl | rfl | rfl | rfl <;> simp [fsn, va_up]
theorem RI.step {n : Nat} {am : Nat → Nat} {m : xm_M} (h : RI n am m) (hn : n < 12) {q : Nat} (hq : m q = none) : RI (n + 1) (va_up am (1 + n) q) (xm_up (xm_up m q (iA (aty n) (aln n) (fun _ => 0))) (am 0) (.inr (5, (fsn am n).set n (.ref q)))) := by
  have hne : ∀ i, i < n + 1 → am i ≠ q := fun i hi e => h.nn hi (by rw [e]; exact hq)
  have k0 : ∀ i, i < n + 1 → va_up am (1 + n) q i = am i := fun i hi => by simp only [va_up]; rw [if_neg (by omega)]
  have k1 : va_up am (1 + n) q (1 + n) = q := by simp [va_up]
  refine ⟨fun i j hi hj e => ?_, ?_, fun i hi => ?_⟩
  · by_cases hi' : i < n + 1 <;> by_cases hj' : j < n + 1
    · rw [k0 i hi', k0 j hj'] at e; exact h.1 i j hi' hj' e
    · rw [show j = 1 + n by omega, k0 i hi', k1] at e; exact absurd e (hne i hi')
    · rw [show i = 1 + n by omega, k0 j hj', k1] at e; exact absurd e.symm (hne j hj')
    · omega
  · rw [k0 0 (by omega), xm_up_s, fsn_set am hn]
  · by_cases hin : i < n
    · rw [k0 (1 + i) (by omega), xm_up_n _ _ (fun e => by have := h.1 (1 + i) 0 (by omega) (by omega) e; omega), xm_up_n _ _ (hne _ (by omega))]
      exact h.2.2 i hin
    · rw [show i = n by omega, k1, xm_up_n _ _ (hne 0 (by omega)).symm, xm_up_s]
section
variable {m : xm_M} {K : xm_PT} {ls : xm_L} {st : List Value} {bc bs : Nat} {Rh : Option Value → xm_M → Prop}
theorem mi_step {n t L a : Nat} {ty : FieldType} {am : Nat → Nat} (h : RI n am m) (h0 : am 0 = a) (hn : n < 12) (ht : aty n = t) (hL : aln n = L) (hL' : L ≤ 100000) (hbc : 1 ≤ bc) (hbs : L ≤ bs) (hls : xm_lk ls 0 = some (.ref a)) (hw : ∀ q, narrow ty (.ref q) = .ref q) (hf : ∀ q, fits ty (.ref q) = true) (k : ∀ am' m', am' 0 = a → RI (n + 1) am' m' → FrM m m' → K ls st m' (bc - 1) (bs - L)) : xo_aload 0 (xo_push (.int (nI L)) (xo_newi t (xo_put 5 n ty K))) ls st m bc bs := by
  subst h0
  subst ht
  subst hL
  refine xr_aload hls <| xr_push <| xr_newi rfl hL' hbc hbs (fun q hq => ?_)
  have hne : am 0 ≠ q := fun e => h.nn (Nat.succ_pos n) (by rw [e]; exact hq)
  refine xr_put (fs := fsn am n) (by rw [xm_up_n _ _ hne]; exact h.2.1) (by simp; omega) (hw q) (hf q) rfl ?_
  refine k (va_up am (1 + n) q) _ (by simp only [va_up]; rw [if_neg (by omega)]) (h.step hn hq) ?_
  exact (FrM.new hq).tr (FrM.up (e := .inr (5, fsn am n)) (by rw [xm_up_n _ _ hne]; exact h.2.1) rfl)
set_option maxRecDepth 8000 in
set_option maxHeartbeats 2000000 in
theorem p_M_init {a : Nat} (ha : m a = some (.inr (5, [.null, .null, .null, .null, .null, .null, .null, .null, .null, .null, .null, .null, .int 0, .int 0, .int 0, .int 0, .int 0, .int 0]))) (h : ∀ am m', am 0 = a → QM am m' v0 → FrM m m' → Rh none m') : cp_M_init [.ref a] m Rh := by
  refine ⟨Nat.le_of_ble_eq_true rfl, fun X hX => ?_⟩
  have L : ∀ n k am A m', k + n = 16 → am 0 = a → RM am m' A (scV v0) → (∀ i, i ≠ 11 → A i = fun _ => 0) → (∀ j, j < k → A 11 j = -1) → FrM m m' → ∀ bc bs, X 114 [(0, .ref a), (1, .int (nI k))] [] m' bc bs := by
    intro n
    induction n with
    | zero =>
      intro k am A m' hk h0 hR hz hm hF bc bs
      have : k = 16 := by omega
      subst this
      refine eM_init_114 hX ?_
      unfold cM_init_114
      refine xr_iload rfl <| xr_push <| xr_cmpt (Int32.le_refl _) <| xr_vret (h am m' h0 ⟨A, hR, ?_⟩ hF)
      refine ⟨fun r hr p c hc => ?_, fun r hr => ⟨by rw [hz 7 (by decide)]; rfl, by show ([] : List Cp).length ≤ 12; decide⟩, fun b hb => ⟨by rw [hz 8 (by decide)]; rfl, by rw [hz 10 (by decide)]; rfl, fun q => ?_⟩, fun k hk => hm k hk, rfl⟩
      · have hc : ([] : List Cp)[p]? = some c := hc
        simp at hc
      · have q : (0 : Nat) = 2 := q
        omega
    | succ n ih =>
      intro k am A m' hk h0 hR hz hm hF bc bs
      have hk16 : k < 16 := by omega
      refine eM_init_114 hX ?_
      unfold cM_init_114
      refine xr_iload rfl <| xr_push <| xr_cmpf (nI_ge hk16 (by decide)) <| zg hR 11 (by omega) (by rw [h0]; rfl) <| xr_iload rfl <| xr_push <| zs hR 11 rfl (by omega) (by exact hk16) (fun m1 h1 f1 => xr_iinc rfl <| xr_jmp rfl ?_)
      rw [nI_1]
      refine ih (k + 1) am _ m1 (by omega) h0 h1 (fun i hi => by rw [upA_n _ _ _ hi]; exact hz i hi) (fun j hj => ?_) (hF.tr f1) bc bs
      rw [upA_s]
      split
      · rfl
      · exact hm j (by omega)
  refine eM_init_0 hX ?_
  unfold cM_init_0
  have R0 : RI 0 (fun _ => a) m := ⟨fun i j hi hj _ => by omega, ha, fun i hi => absurd hi (Nat.not_lt_zero _)⟩
  refine xr_aload rfl <| xr_drop (by decide) ?_
  refine mi_step R0 rfl (by decide) rfl rfl (by decide) (by decide) (by decide) rfl (fun _ => rfl) (fun _ => rfl) (fun a1 m1 z1 R1 f1 => ?_)
  refine mi_step R1 z1 (by decide) rfl rfl (by decide) (by decide) (by decide) rfl (fun _ => rfl) (fun _ => rfl) (fun a2 m2 z2 R2 f2 => ?_)
  refine mi_step R2 z2 (by decide) rfl rfl (by decide) (by decide) (by decide) rfl (fun _ => rfl) (fun _ => rfl) (fun a3 m3 z3 R3 f3 => ?_)
  refine mi_step R3 z3 (by decide) rfl rfl (by decide) (by decide) (by decide) rfl (fun _ => rfl) (fun _ => rfl) (fun a4 m4 z4 R4 f4 => ?_)
  refine mi_step R4 z4 (by decide) rfl rfl (by decide) (by decide) (by decide) rfl (fun _ => rfl) (fun _ => rfl) (fun a5 m5 z5 R5 f5 => ?_)
  refine mi_step R5 z5 (by decide) rfl rfl (by decide) (by decide) (by decide) rfl (fun _ => rfl) (fun _ => rfl) (fun a6 m6 z6 R6 f6 => ?_)
  refine mi_step R6 z6 (by decide) rfl rfl (by decide) (by decide) (by decide) rfl (fun _ => rfl) (fun _ => rfl) (fun a7 m7 z7 R7 f7 => ?_)
  refine mi_step R7 z7 (by decide) rfl rfl (by decide) (by decide) (by decide) rfl (fun _ => rfl) (fun _ => rfl) (fun a8 m8 z8 R8 f8 => ?_)
  refine mi_step R8 z8 (by decide) rfl rfl (by decide) (by decide) (by decide) rfl (fun _ => rfl) (fun _ => rfl) (fun a9 m9 z9 R9 f9 => ?_)
  refine mi_step R9 z9 (by decide) rfl rfl (by decide) (by decide) (by decide) rfl (fun _ => rfl) (fun _ => rfl) (fun a10 m10 z10 R10 f10 => ?_)
  refine mi_step R10 z10 (by decide) rfl rfl (by decide) (by decide) (by decide) rfl (fun _ => rfl) (fun _ => rfl) (fun a11 m11 z11 R11 f11 => ?_)
  refine mi_step R11 z11 (by decide) rfl rfl (by decide) (by decide) (by decide) rfl (fun _ => rfl) (fun _ => rfl) (fun a12 m12 z12 R12 f12 => ?_)
  have hF : FrM m m12 := (((((((((((f1.tr f2).tr f3).tr f4).tr f5).tr f6).tr f7).tr f8).tr f9).tr f10).tr f11).tr f12)
  clear R0 R1 R2 R3 R4 R5 R6 R7 R8 R9 R10 R11 f1 f2 f3 f4 f5 f6 f7 f8 f9 f10 f11 f12
  have e12 : m12 a = some (.inr (5, fsn a12 12)) := by rw [← z12]; exact R12.2.1
  refine xr_aload rfl <| xr_push <| xr_put e12 (by simp) rfl rfl rfl <| xr_push <| xr_istore <| xr_jmp rfl ?_
  refine L 16 0 a12 (fun _ _ => 0) _ rfl z12 ⟨R12.1, ?_, fun i hi => ?_, fun j => Or.inl rfl⟩ (fun _ _ => rfl) (fun j hj => absurd hj (Nat.not_lt_zero _)) (hF.tr (FrM.up e12 rfl)) _ _
  · rw [z12, xm_up_s]; rfl
  · rw [xm_up_n _ _ (fun e => by have := R12.1 (1 + i) 0 (by omega) (by omega) (e.trans z12.symm); omega)]
    exact R12.2.2 i hi
theorem inv_v0 : Inv 1 v0 := by
  refine ⟨Pinv.of (fun r hr => ⟨fun c hc => ?_, ?_⟩) (fun k hk c hh p he => ?_) (fun b hb _ => rfl) (fun b hb q => ?_) (fun b hb => ⟨fun _ => rfl, ?_⟩) (fun b c hb hc q => ?_) (fun b hb => ⟨Nat.zero_le _, Nat.zero_le _, fun q => ?_⟩) ?_ ⟨Nat.zero_le _, 1, rfl, Nat.le_refl _⟩ (fun q => ?_), fun b hb q => ?_, fun b hb q => ?_⟩
  · have hc : c ∈ ([] : List Cp) := hc
    simp at hc
  · show szs [] ≤ 12; decide
  · have he : (none : En) = some (c, hh, p) := he
    cases he
  · have q : (0 : Nat) = 3 := q
    omega
  · show (0 : Int32) &&& 255 = 0; decide
  · have q : (0 : Nat) = 2 := q
    omega
  · have q : (0 : Nat) = 2 := q
    omega
  · decide
  · have q : false = true := q
    cases q
  · have q : (0 : Nat) = 3 := q
    omega
  · have q : (0 : Nat) = 4 := q
    omega
end
