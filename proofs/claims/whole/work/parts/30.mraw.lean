/-! the reference's memory: twelve arrays and six numbers -/
abbrev Sc : Type := Int32 × Int32 × Int32 × Int32 × Int32 × Bool
def aln (i : Nat) : Nat := if i ≤ 6 then 193 else if i = 7 then 16 else if i = 11 then 16 else 8
abbrev moV (am : Nat → Nat) (S : Sc) : va_E := .inr (5, [.ref (am 1), .ref (am 2), .ref (am 3), .ref (am 4), .ref (am 5), .ref (am 6), .ref (am 7), .ref (am 8), .ref (am 9), .ref (am 10), .ref (am 11), .ref (am 12), .int S.1, .int S.2.1, .int S.2.2.1, .int S.2.2.2.1, .int S.2.2.2.2.1, .int (bI S.2.2.2.2.2)])
abbrev iA (t n : Nat) (f : Nat → Int32) : va_E := .inl (t, n, .inl f)
def aty (i : Nat) : Nat := if i = 0 then 4 else 3
def RM (am : Nat → Nat) (m : xm_M) (A : Nat → Nat → Int32) (S : Sc) : Prop :=
  (∀ i j, i < 13 → j < 13 → am i = am j → i = j) ∧ m (am 0) = some (moV am S) ∧ (∀ i, i < 12 → m (am (1 + i)) = some (iA (aty i) (aln i) (A i))) ∧ ∀ j, A 0 j = 0 ∨ A 0 j = 1
def upA (A : Nat → Nat → Int32) (i p : Nat) (x : Int32) : Nat → Nat → Int32 := fun j => if j = i then upd (A i) p x else A j
theorem upA_s (A : Nat → Nat → Int32) (i p : Nat) (x : Int32) (q : Nat) : upA A i p x i q = if q = p then x else A i q := by simp [upA, upd]
theorem upA_n (A : Nat → Nat → Int32) {i j : Nat} (p : Nat) (x : Int32) (h : j ≠ i) : upA A i p x j = A j := by simp [upA, h]
def kindM : va_E → Bool
  | .inr (c, _) => c == 5
  | .inl (t, _) => t == 3 || t == 4
def FrM (m m' : xm_M) : Prop := ∀ a e, m a = some e → kindM e = false → m' a = some e
theorem FrM.rf {m : xm_M} : FrM m m := fun _ _ h _ => h
theorem FrM.tr {m m1 m2 : xm_M} (h1 : FrM m m1) (h2 : FrM m1 m2) : FrM m m2 := fun a e h k => h2 a e (h1 a e h k) k
theorem FrM.up {m : xm_M} {a : Nat} {e e' : va_E} (h : m a = some e) (hk : kindM e = true) : FrM m (xm_up m a e') := by
  intro b x hb hx
  have hne : b ≠ a := fun q => by subst q; rw [h] at hb; cases hb; rw [hk] at hx; cases hx
  rw [xm_up_n _ _ hne]; exact hb
theorem FrM.new {m : xm_M} {a : Nat} {e : va_E} (h : m a = none) : FrM m (xm_up m a e) := by
  intro b x hb _
  have hne : b ≠ a := fun q => by subst q; rw [h] at hb; cases hb
  rw [xm_up_n _ _ hne]; exact hb
/-- the class's value under the reference's writes, and the other way round -/
theorem Rep.frM {ad : Nat → Nat} {m m' : xm_M} {v : Vt} (h : Rep ad m v) (hf : FrM m m') : Rep ad m' v := by
  refine h.fr (fun a e he hk => hf a e he ?_)
  rcases hk with hk | ⟨fs, rfl⟩
  · cases e with
    | inl x =>
      obtain ⟨t, y⟩ := x
      cases hM : kindM (.inl (t, y)) with
      | false => rfl
      | true =>
        simp only [kindM, Bool.or_eq_true, beq_iff_eq] at hM
        rcases hM with rfl | rfl <;> simp [kindC] at hk
    | inr o =>
      obtain ⟨c, fs⟩ := o
      cases hM : kindM (.inr (c, fs)) with
      | false => rfl
      | true =>
        simp only [kindM, beq_iff_eq] at hM
        subst hM
        simp [kindC] at hk
  · rfl
section
variable {am : Nat → Nat} {m : xm_M} {A : Nat → Nat → Int32} {S : Sc} {K : xm_PT} {ls : xm_L} {st : List Value} {bc bs : Nat} {Rh : Option Value → xm_M → Prop}
theorem RM.fr {m' : xm_M} (h : RM am m A S) (hf : FrC m m') : RM am m' A S := by
  refine ⟨h.1, hf _ _ h.2.1 rfl, fun i hi => hf _ _ (h.2.2.1 i hi) ?_, h.2.2.2⟩
  simp only [kindC, aty]
  split <;> rfl
theorem RM.new {a : Nat} {e : va_E} (h : RM am m A S) (ha : m a = none) : RM am (xm_up m a e) A S := h.fr (FrC.new ha)
theorem RM.up {i p : Nat} {x : Int32} (h : RM am m A S) (hi : i < 12) (hx : i = 0 → x = 0 ∨ x = 1) : RM am (xm_up m (am (1 + i)) (iA (aty i) (aln i) (upd (A i) p x))) (upA A i p x) S := by
  have key : ∀ j, j < 13 → j ≠ 1 + i → am j ≠ am (1 + i) := fun j hj hn e => hn (h.1 j (1 + i) hj (by omega) e)
  refine ⟨h.1, by rw [xm_up_n _ _ (key 0 (by omega) (by omega))]; exact h.2.1, fun j hj => ?_, fun j => ?_⟩
  · by_cases hji : j = i
    · subst hji; rw [xm_up_s]; simp [upA]
    · rw [xm_up_n _ _ (key _ (by omega) (by omega)), upA_n _ _ _ hji]; exact h.2.2.1 j hj
  · by_cases h0 : 0 = i
    · subst h0
      rw [upA_s]
      split
      · exact hx rfl
      · exact h.2.2.2 j
    · rw [upA_n _ _ _ h0]; exact h.2.2.2 j
theorem RM.upS (h : RM am m A S) (T : Sc) : RM am (xm_up m (am 0) (moV am T)) A T := by
  have key : ∀ j, j < 12 → am (1 + j) ≠ am 0 := fun j hj e => by have := h.1 (1 + j) 0 (by omega) (by omega) e; omega
  exact ⟨h.1, xm_up_s _ _ _, fun j hj => by rw [xm_up_n _ _ (key j hj)]; exact h.2.2.1 j hj, h.2.2.2⟩
theorem zg (h : RM am m A S) (i : Nat) (hi : i < 12) (h0 : xm_lk ls 0 = some (.ref (am 0))) (k : K ls (.ref (am (1 + i)) :: st) m bc bs) : xo_aload 0 (xo_get 5 i K) ls st m bc bs := by
  refine xr_aload h0 (xr_get h.2.1 ?_ k)
  rcases (show i = 0 ∨ i = 1 ∨ i = 2 ∨ i = 3 ∨ i = 4 ∨ i = 5 ∨ i = 6 ∨ i = 7 ∨ i = 8 ∨ i = 9 ∨ i = 10 ∨ i = 11 by omega) with rfl | rfl | rfl | rfl | rfl | rfl | rfl | rfl | rfl | rfl | rfl | rfl <;> rfl
theorem aln_lt (i : Nat) : aln i < 2 ^ 31 := by unfold aln; split <;> (try split) <;> (try split) <;> decide
/-- an int of an array -/
theorem za (h : RM am m A S) (i : Nat) {x : Int32} {p : Nat} (hx : x = nI p) (hi : i < 12 ∧ 0 < i) (hp : p < aln i) (k : K ls (.int (A i p) :: st) m bc bs) : xo_iald ats K ls (.int x :: .ref (am (1 + i)) :: st) m bc bs :=
  xr_iald (h.2.2.1 i hi.1) (by rw [show aty i = 3 by unfold aty; rw [if_neg (by omega)]]; rfl) hx hp (aln_lt i) k
theorem zz (h : RM am m A S) {x : Int32} {p : Nat} (hx : x = nI p) (hp : p < 193) (k : K ls (.int (A 0 p) :: st) m bc bs) : xo_zald ats K ls (.int x :: .ref (am (1 + 0)) :: st) m bc bs :=
  xr_zald (h.2.2.1 0 (by omega)) rfl hx (by exact hp) (aln_lt 0) k
theorem zs (h : RM am m A S) (i : Nat) {x y : Int32} {p : Nat} (hx : x = nI p) (hi : i < 12 ∧ 0 < i) (hp : p < aln i) (k : ∀ m', RM am m' (upA A i p y) S → FrM m m' → K ls st m' bc bs) : xo_iast ats K ls (.int y :: .int x :: .ref (am (1 + i)) :: st) m bc bs :=
  xr_iast (h.2.2.1 i hi.1) (by rw [show aty i = 3 by unfold aty; rw [if_neg (by omega)]]; rfl) hx hp (aln_lt i) (k _ (h.up hi.1 (fun e => absurd e (by omega))) (FrM.up (h.2.2.1 i hi.1) (by simp only [kindM, aty]; split <;> rfl)))
theorem zt (h : RM am m A S) {x y : Int32} {p : Nat} (hx : x = nI p) (hp : p < 193) (hy : y = 0 ∨ y = 1) (k : ∀ m', RM am m' (upA A 0 p y) S → FrM m m' → K ls st m' bc bs) : xo_zast ats K ls (.int y :: .int x :: .ref (am (1 + 0)) :: st) m bc bs :=
  xr_zast (h.2.2.1 0 (by omega)) rfl hy hx (by exact hp) (aln_lt 0) (k _ (h.up (i := 0) (by omega) (fun _ => hy)) (FrM.up (h.2.2.1 0 (by omega)) rfl))
/-- the copy of a cell to another -/
def cpA (A : Nat → Nat → Int32) (f t : Nat) : Nat → Nat → Int32 := fun i p => if i ≤ 6 ∧ p = t then A i f else A i p
theorem cpA_eq (A : Nat → Nat → Int32) (f t : Nat) : upA (upA (upA (upA (upA (upA (upA A 0 t (A 0 f)) 1 t (A 1 f)) 2 t (A 2 f)) 3 t (A 3 f)) 4 t (A 4 f)) 5 t (A 5 f)) 6 t (A 6 f) = cpA A f t := by
  funext i p
  simp only [upA, upd, cpA]
  by_cases h6 : i = 6
  · subst h6; simp [upd]
  by_cases h5 : i = 5
  · subst h5; simp [upd]
  by_cases h4 : i = 4
  · subst h4; simp [upd]
  by_cases h3 : i = 3
  · subst h3; simp [upd]
  by_cases h2 : i = 2
  · subst h2; simp [upd]
  by_cases h1 : i = 1
  · subst h1; simp [upd]
  by_cases h0 : i = 0
  · subst h0; simp [upd]
  have : ¬ i ≤ 6 := by omega
  simp [h0, h1, h2, h3, h4, h5, h6, this]
theorem p_M_copy (h : RM am m A S) {f t : Nat} (hf : f < 193) (ht : t < 193) (k : ∀ m', RM am m' (cpA A f t) S → FrM m m' → Rh none m') : cp_M_copy [.ref (am 0), .int (nI f), .int (nI t)] m Rh := by
  refine ⟨Nat.le_of_ble_eq_true rfl, fun X hX => eM_copy_0 hX ?_⟩
  unfold cM_copy_0
  refine zg h 0 (by omega) rfl <| xr_iload rfl <| zg h 0 (by omega) rfl <| xr_iload rfl <| zz h rfl hf <| zt h rfl ht (h.2.2.2 f) (fun m0 h0 f0 => ?_)
  refine zg h0 1 (by omega) rfl <| xr_iload rfl <| zg h0 1 (by omega) rfl <| xr_iload rfl <| za h0 1 rfl (by omega) hf <| zs h0 1 rfl (by omega) ht (fun m1 h1 f1 => ?_)
  refine zg h1 2 (by omega) rfl <| xr_iload rfl <| zg h1 2 (by omega) rfl <| xr_iload rfl <| za h1 2 rfl (by omega) hf <| zs h1 2 rfl (by omega) ht (fun m2 h2 f2 => ?_)
  refine zg h2 3 (by omega) rfl <| xr_iload rfl <| zg h2 3 (by omega) rfl <| xr_iload rfl <| za h2 3 rfl (by omega) hf <| zs h2 3 rfl (by omega) ht (fun m3 h3 f3 => ?_)
  refine zg h3 4 (by omega) rfl <| xr_iload rfl <| zg h3 4 (by omega) rfl <| xr_iload rfl <| za h3 4 rfl (by omega) hf <| zs h3 4 rfl (by omega) ht (fun m4 h4 f4 => ?_)
  refine zg h4 5 (by omega) rfl <| xr_iload rfl <| zg h4 5 (by omega) rfl <| xr_iload rfl <| za h4 5 rfl (by omega) hf <| zs h4 5 rfl (by omega) ht (fun m5 h5 f5 => ?_)
  refine zg h5 6 (by omega) rfl <| xr_iload rfl <| zg h5 6 (by omega) rfl <| xr_iload rfl <| za h5 6 rfl (by omega) hf <| zs h5 6 rfl (by omega) ht (fun m6 h6 f6 => ?_)
  refine xr_vret (k m6 ?_ ((((((f0.tr f1).tr f2).tr f3).tr f4).tr f5).tr f6))
  rw [← cpA_eq]
  exact h6
theorem p_M_in {x lo hi : Int32} (h : Rh (some (.int (bI (decide (¬ x < lo ∧ ¬ hi < x))))) m) : cp_M_in [.int x, .int lo, .int hi] m Rh := by
  refine ⟨Nat.le_of_ble_eq_true rfl, fun X hX => eM_in_0 hX ?_⟩
  unfold cM_in_0
  refine xr_iload rfl <| xr_iload rfl <| xr_cmp (fun h1 => xr_push <| xr_zret (Or.inl rfl) ?_) (fun h1 => xr_iload rfl <| xr_iload rfl <| xr_cmp (fun h2 => xr_push <| xr_zret (Or.inl rfl) ?_) (fun h2 => xr_push <| xr_zret (Or.inr rfl) ?_))
  · simpa [h1, bI] using h
  · simpa [h1, h2, bI] using h
  · simpa [h1, h2, bI] using h
end
