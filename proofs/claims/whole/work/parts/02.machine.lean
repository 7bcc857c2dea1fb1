/-! Predicate transformers over an abstract memory: a row each for the machine's instructions. A code piece K : xm_PT says of locals, stack, memory and room left that all goes well from there; xm_le K (xm_A .. pc) says that the machine at pc does what K says. -/
abbrev xm_M : Type := Nat → Option va_E
def xm_up (m : xm_M) (a : Nat) (e : va_E) : xm_M := fun b => if b = a then some e else m b
theorem xm_up_s (m : xm_M) (a : Nat) (e : va_E) : xm_up m a e a = some e := by simp [xm_up]
theorem xm_up_n (m : xm_M) {a b : Nat} (e : va_E) (h : b ≠ a) : xm_up m a e b = m b := by simp [xm_up, h]
abbrev xm_L : Type := List (Nat × Value)
abbrev xm_PT : Type := xm_L → List Value → xm_M → Nat → Nat → Prop
def xm_lk : xm_L → Nat → Option Value
  | [], _ => none
  | (j, w) :: r, i => if j = i then some w else xm_lk r i
def xm_rm : xm_L → Nat → xm_L
  | [], _ => []
  | (j, w) :: r, i => if j = i ∨ (j + 1 = i ∧ w.category = 2) then xm_rm r i else (j, w) :: xm_rm r i
def xm_sto (ls : xm_L) (i : Nat) (v : Value) : xm_L := (i, v) :: xm_rm ls i
def xm_keep (ls : xm_L) : List Nat → xm_L
  | [] => []
  | i :: ks => match xm_lk ls i with
    | some v => (i, v) :: xm_keep ls ks
    | none => xm_keep ls ks
theorem xm_lk_mem {ls : xm_L} {i : Nat} {v : Value} (h : xm_lk ls i = some v) : (i, v) ∈ ls := by
  induction ls with
  | nil => simp [xm_lk] at h
  | cons q r ih =>
    obtain ⟨j, w⟩ := q
    simp only [xm_lk] at h
    split at h
    · rename_i hj
      subst hj
      cases h
      exact List.mem_cons_self
    · exact List.mem_cons_of_mem _ (ih h)
theorem xm_rm_mem {ls : xm_L} {i : Nat} {q : Nat × Value} (h : q ∈ xm_rm ls i) : q ∈ ls ∧ ¬ q.1 = i ∧ ¬ (q.1 + 1 = i ∧ q.2.category = 2) := by
  induction ls with
  | nil => simp [xm_rm] at h
  | cons a r ih =>
    obtain ⟨j, w⟩ := a
    simp only [xm_rm] at h
    split at h
    · obtain ⟨h1, h2⟩ := ih h
      exact ⟨List.mem_cons_of_mem _ h1, h2⟩
    · rename_i hn
      rcases List.mem_cons.mp h with h | h
      · subst h
        exact ⟨List.mem_cons_self, fun e => hn (Or.inl e), fun e => hn (Or.inr e)⟩
      · obtain ⟨h1, h2⟩ := ih h
        exact ⟨List.mem_cons_of_mem _ h1, h2⟩
theorem xm_keep_mem {ls : xm_L} {ks : List Nat} {q : Nat × Value} (h : q ∈ xm_keep ls ks) : q ∈ ls := by
  induction ks with
  | nil => simp [xm_keep] at h
  | cons i ks ih =>
    simp only [xm_keep] at h
    split at h
    · rename_i v hv
      rcases List.mem_cons.mp h with h | h
      · subst h; exact xm_lk_mem hv
      · exact ih h
    · exact ih h
theorem xm_has_sub {la : Array Slot} {nL : Nat} {l l' : xm_L} (h : lv_has la nL l) (hs : ∀ q ∈ l', q ∈ l) : lv_has la nL l' := ⟨h.1, h.2.1, fun q hq => h.2.2 q (hs q hq)⟩
theorem xm_has_lk {la : Array Slot} {nL : Nat} {l : xm_L} {i : Nat} {v : Value} (h : lv_has la nL l) (hv : xm_lk l i = some v) : la[i]? = some (.val v) := h.2.2 (i, v) (xm_lk_mem hv)
theorem xm_has_sto {la : Array Slot} {nL i : Nat} {l : xm_L} {v : Value} (h : lv_has la nL ((i, v) :: l.filter (fun q => !(q.1 == i) && !(q.1 + 1 == i && q.2.category == 2)))) : lv_has la nL (xm_sto l i v) := by
  refine xm_has_sub h (fun q hq => ?_)
  rcases List.mem_cons.mp hq with hq | hq
  · subst hq; exact List.mem_cons_self
  · obtain ⟨h1, h2, h3⟩ := xm_rm_mem hq
    refine List.mem_cons_of_mem _ (List.mem_filter.mpr ⟨h1, ?_⟩)
    simp only [Bool.and_eq_true, Bool.not_eq_true', beq_eq_false_iff_ne, Bool.and_eq_false_iff]
    refine ⟨h2, ?_⟩
    by_cases h4 : q.1 + 1 = i
    · exact Or.inr (fun e => h3 ⟨h4, e⟩)
    · exact Or.inl h4
def xm_tr (D : va_G) : va_E → va_E
  | .inl x => .inl (D.1 (100 + x.1), x.2)
  | .inr o => .inr o
def xm_W (D : va_G) (cl : List vw_C) (m : xm_M) (H : Heap) : Prop := ∀ (a : Nat) (e : va_E), m a = some e → va_at D cl (a, xm_tr D e) H
def xm_ty (D : va_G) (ats : List FieldType) : List (ClassId × FieldType) := ats.zipIdx.map (fun q => (D.1 (100 + q.2), q.1))
theorem xm_ty_at {D : va_G} {ats : List FieldType} {t : Nat} {ty : FieldType} (h : ats[t]? = some ty) : (xm_ty D ats)[t]? = some (D.1 (100 + t), ty) := by
  simp [xm_ty, List.getElem?_map, List.getElem?_zipIdx, h]
theorem xm_W.one {D : va_G} {cl : List vw_C} {m : xm_M} {H : Heap} (h : xm_W D cl m H) {a : Nat} {e : va_E} (ha : m a = some e) : va_P D cl [(a, xm_tr D e)] H := by
  intro k q hk
  have hz : k < 1 := (List.getElem?_eq_some_iff.mp hk).1
  rw [show k = 0 by omega] at hk
  cases hk
  exact h a e ha
theorem xm_W.lt {D : va_G} {cl : List vw_C} {m : xm_M} {H : Heap} (h : xm_W D cl m H) {a : Nat} {e : va_E} (ha : m a = some e) : a < H.size := (h a e ha).lt
theorem xm_W.fresh {D : va_G} {cl : List vw_C} {m : xm_M} {H : Heap} (h : xm_W D cl m H) : m H.size = none := by
  cases he : m H.size with
  | none => rfl
  | some e => exact absurd (h.lt he) (Nat.lt_irrefl _)
theorem xm_W.up {D : va_G} {cl : List vw_C} {m : xm_M} {H H1 : Heap} (h : xm_W D cl m H) {a : Nat} {e : va_E} (he : va_at D cl (a, xm_tr D e) H1) (ho : ∀ q, q ≠ a → H1[q]? = H[q]?) : xm_W D cl (xm_up m a e) H1 := by
  intro b x hb
  by_cases hba : b = a
  · subst hba
    rw [xm_up_s] at hb
    cases hb
    exact he
  · rw [xm_up_n _ _ hba] at hb
    exact (h b x hb).kept (ho b hba)
theorem xm_W.push {D : va_G} {cl : List vw_C} {m : xm_M} {H H1 : Heap} (h : xm_W D cl m H) {e : va_E} (he : va_at D cl (H.size, xm_tr D e) H1) (ho : ∀ q, q < H.size → H1[q]? = H[q]?) : xm_W D cl (xm_up m H.size e) H1 := by
  intro b x hb
  by_cases hba : b = H.size
  · subst hba
    rw [xm_up_s] at hb
    cases hb
    exact he
  · rw [xm_up_n _ _ hba] at hb
    exact (h b x hb).kept (ho b (h.lt hb))
theorem xm_in_up {A : Nat → Prop} {m : xm_M} (h : ∀ a, m a ≠ none → A a) {a : Nat} (e : va_E) (ha : A a) : ∀ b, xm_up m a e b ≠ none → A b := by
  intro b hb
  by_cases hba : b = a
  · subst hba; exact ha
  · rw [xm_up_n _ _ hba] at hb; exact h b hb
def xm_As (m : xm_M) (sz : Nat) : Nat → Prop := fun q => m q ≠ none ∨ sz ≤ q
def xm_le (K K' : xm_PT) : Prop := ∀ ls st m bc bs, K ls st m bc bs → K' ls st m bc bs
def xm_ref (v : Value) : Prop := v = .null ∨ ∃ a, v = .ref a
theorem xm_ref_r (a : Nat) : xm_ref (.ref a) := Or.inr ⟨a, rfl⟩
theorem xm_ref_n : xm_ref .null := Or.inl rfl
theorem xm_ref_q (r : Option Nat) : xm_ref (va_rf r) := va_rf_or r
theorem xm_ref.cat {v : Value} (h : xm_ref v) : v.category = 1 := by
  rcases h with h | ⟨a, h⟩ <;> subst h <;> rfl
/-- the arguments off the stack -/
def xm_sp : Nat → List Value → List Value → Option (List Value × List Value)
  | 0, st, acc => some (acc, st)
  | _ + 1, [], _ => none
  | n + 1, v :: st, acc => xm_sp n st (v :: acc)
theorem xm_sp_ok {n : Nat} : ∀ {st acc as rest : List Value}, xm_sp n st acc = some (as, rest) → ∃ l : List Value, l.length = n ∧ st = l ++ rest ∧ as = l.reverse ++ acc := by
  induction n with
  | zero =>
    intro st acc as rest h
    simp only [xm_sp, Option.some.injEq, Prod.mk.injEq] at h
    exact ⟨[], rfl, by rw [h.2]; rfl, by rw [← h.1]; rfl⟩
  | succ n ih =>
    intro st acc as rest h
    cases st with
    | nil => simp [xm_sp] at h
    | cons v st =>
      simp only [xm_sp] at h
      obtain ⟨l, h1, h2, h3⟩ := ih h
      exact ⟨v :: l, by simp [h1], by simp [h2], by simp [h3]⟩
theorem xm_cat4 {rest : List Value} (h : rest.length ≤ 4) : (rest.map fun v => v.category).sum ≤ 8 := by
  have key : ∀ r : List Value, (r.map fun v => v.category).sum ≤ 2 * r.length := by
    intro r
    induction r with
    | nil => simp
    | cons v r ih =>
      simp only [List.map_cons, List.sum_cons, List.length_cons]
      rcases lv_cat v with hv | hv <;> omega
  have := key rest
  omega
/-! the transformers -/
def xo_push (v : Value) (K : xm_PT) (ls : xm_L) (st : List Value) (m : xm_M) (bc bs : Nat) : Prop := K ls (v :: st) m bc bs
def xo_iload (i : Nat) (K : xm_PT) (ls : xm_L) (st : List Value) (m : xm_M) (bc bs : Nat) : Prop := match xm_lk ls i with
  | some (.int v) => K ls (.int v :: st) m bc bs
  | _ => False
def xo_lload (i : Nat) (K : xm_PT) (ls : xm_L) (st : List Value) (m : xm_M) (bc bs : Nat) : Prop := match xm_lk ls i with
  | some (.long v) => K ls (.long v :: st) m bc bs
  | _ => False
def xo_aload (i : Nat) (K : xm_PT) (ls : xm_L) (st : List Value) (m : xm_M) (bc bs : Nat) : Prop := match xm_lk ls i with
  | some v => xm_ref v ∧ K ls (v :: st) m bc bs
  | _ => False
def xo_istore (i : Nat) (K : xm_PT) (ls : xm_L) (st : List Value) (m : xm_M) (bc bs : Nat) : Prop := match st with
  | .int v :: r => K (xm_sto ls i (.int v)) r m bc bs
  | _ => False
def xo_astore (i : Nat) (K : xm_PT) (ls : xm_L) (st : List Value) (m : xm_M) (bc bs : Nat) : Prop := match st with
  | v :: r => xm_ref v ∧ K (xm_sto ls i v) r m bc bs
  | _ => False
def xo_iinc (i : Nat) (n : Int32) (K : xm_PT) (ls : xm_L) (st : List Value) (m : xm_M) (bc bs : Nat) : Prop := match xm_lk ls i with
  | some (.int v) => K (xm_sto ls i (.int (v + n))) st m bc bs
  | _ => False
def xo_ibin (f : Int32 → Int32 → Int32) (K : xm_PT) (ls : xm_L) (st : List Value) (m : xm_M) (bc bs : Nat) : Prop := match st with
  | .int y :: .int x :: r => K ls (.int (f x y) :: r) m bc bs
  | _ => False
def xo_iun (f : Int32 → Int32) (K : xm_PT) (ls : xm_L) (st : List Value) (m : xm_M) (bc bs : Nat) : Prop := match st with
  | .int x :: r => K ls (.int (f x) :: r) m bc bs
  | _ => False
def xo_i2l (K : xm_PT) (ls : xm_L) (st : List Value) (m : xm_M) (bc bs : Nat) : Prop := match st with
  | .int x :: r => K ls (.long x.toInt64 :: r) m bc bs
  | _ => False
def xo_l2i (K : xm_PT) (ls : xm_L) (st : List Value) (m : xm_M) (bc bs : Nat) : Prop := match st with
  | .long x :: r => K ls (.int x.toInt32 :: r) m bc bs
  | _ => False
def xo_lcmp (K : xm_PT) (ls : xm_L) (st : List Value) (m : xm_M) (bc bs : Nat) : Prop := match st with
  | .long y :: .long x :: r => K ls (.int (lg_cmp x y) :: r) m bc bs
  | _ => False
def xo_dup (K : xm_PT) (ls : xm_L) (st : List Value) (m : xm_M) (bc bs : Nat) : Prop := match st with
  | v :: r => v.category = 1 ∧ K ls (v :: v :: r) m bc bs
  | _ => False
def xo_pop (K : xm_PT) (ls : xm_L) (st : List Value) (m : xm_M) (bc bs : Nat) : Prop := match st with
  | v :: r => v.category = 1 ∧ K ls r m bc bs
  | _ => False
def xo_dup_x1 (K : xm_PT) (ls : xm_L) (st : List Value) (m : xm_M) (bc bs : Nat) : Prop := match st with
  | v :: w :: r => v.category = 1 ∧ w.category = 1 ∧ K ls (v :: w :: v :: r) m bc bs
  | _ => False
def xo_dup2 (K : xm_PT) (ls : xm_L) (st : List Value) (m : xm_M) (bc bs : Nat) : Prop := match st with
  | v :: w :: r => v.category = 1 ∧ w.category = 1 ∧ K ls (v :: w :: v :: w :: r) m bc bs
  | _ => False
def xo_if (cnd : Int32 → Prop) (Kt Kf : xm_PT) (ls : xm_L) (st : List Value) (m : xm_M) (bc bs : Nat) : Prop := match st with
  | .int x :: r => (cnd x → Kt ls r m bc bs) ∧ (¬ cnd x → Kf ls r m bc bs)
  | _ => False
def xo_icmp (cnd : Int32 → Int32 → Prop) (Kt Kf : xm_PT) (ls : xm_L) (st : List Value) (m : xm_M) (bc bs : Nat) : Prop := match st with
  | .int y :: .int x :: r => (cnd x y → Kt ls r m bc bs) ∧ (¬ cnd x y → Kf ls r m bc bs)
  | _ => False
/-- Kn: where it is null; Kr: where it isn't -/
def xo_null (Kn Kr : xm_PT) (ls : xm_L) (st : List Value) (m : xm_M) (bc bs : Nat) : Prop := match st with
  | v :: r => xm_ref v ∧ (v = .null → Kn ls r m bc bs) ∧ (v ≠ .null → Kr ls r m bc bs)
  | _ => False
def xo_get (ci k : Nat) (K : xm_PT) (ls : xm_L) (st : List Value) (m : xm_M) (bc bs : Nat) : Prop := match st with
  | .ref a :: r => (match m a with
    | some (.inr (c, fs)) => c = ci ∧ (match fs[k]? with
      | some v => K ls (v :: r) m bc bs
      | none => False)
    | _ => False)
  | _ => False
def xo_put (ci k : Nat) (ty : FieldType) (K : xm_PT) (ls : xm_L) (st : List Value) (m : xm_M) (bc bs : Nat) : Prop := match st with
  | v :: .ref a :: r => narrow ty v = v ∧ fits ty v = true ∧ (match m a with
    | some (.inr (c, fs)) => c = ci ∧ k < fs.length ∧ K ls r (xm_up m a (.inr (ci, fs.set k v))) bc bs
    | _ => False)
  | _ => False
def xo_alen (ats : List FieldType) (K : xm_PT) (ls : xm_L) (st : List Value) (m : xm_M) (bc bs : Nat) : Prop := match st with
  | .ref a :: r => (match m a with
    | some (.inl (t, x)) => (∃ ty, ats[t]? = some ty) ∧ K ls (.int (nI x.1) :: r) m bc bs
    | _ => False)
  | _ => False
def xo_iald (ats : List FieldType) (K : xm_PT) (ls : xm_L) (st : List Value) (m : xm_M) (bc bs : Nat) : Prop := match st with
  | .int i :: .ref a :: r => (match m a with
    | some (.inl (t, n, .inl f)) => ats[t]? = some .int ∧ vp_in i n ∧ K ls (.int (f i.toNatClampNeg) :: r) m bc bs
    | _ => False)
  | _ => False
def xo_iast (ats : List FieldType) (K : xm_PT) (ls : xm_L) (st : List Value) (m : xm_M) (bc bs : Nat) : Prop := match st with
  | .int x :: .int i :: .ref a :: r => (match m a with
    | some (.inl (t, n, .inl f)) => ats[t]? = some .int ∧ vp_in i n ∧ K ls r (xm_up m a (.inl (t, n, .inl (upd f i.toNatClampNeg x)))) bc bs
    | _ => False)
  | _ => False
def xo_aald (ats : List FieldType) (K : xm_PT) (ls : xm_L) (st : List Value) (m : xm_M) (bc bs : Nat) : Prop := match st with
  | .int i :: .ref a :: r => (match m a with
    | some (.inl (t, n, .inr (.inr (.inr (.inr f))))) => (∃ C, ats[t]? = some (.object C)) ∧ vp_in i n ∧ K ls (va_rf (f i.toNatClampNeg) :: r) m bc bs
    | _ => False)
  | _ => False
def xo_aast (ats : List FieldType) (cl : List vw_C) (K : xm_PT) (ls : xm_L) (st : List Value) (m : xm_M) (bc bs : Nat) : Prop := match st with
  | .ref v :: .int i :: .ref a :: r => (match m a, m v with
    | some (.inl (t, n, .inr (.inr (.inr (.inr f))))), some (.inr (ci, _)) => ats[t]? = some (.object (cl.getD ci ("", fun _ => ("", "", "", false), 0)).1) ∧ ci < cl.length ∧ vp_in i n ∧ K ls r (xm_up m a (.inl (t, n, .inr (.inr (.inr (.inr (va_up f i.toNatClampNeg (some v)))))))) bc bs
    | _, _ => False)
  | _ => False
def xo_mmax (K : xm_PT) (ls : xm_L) (st : List Value) (m : xm_M) (bc bs : Nat) : Prop := match st with
  | .int y :: .int x :: r => r.length ≤ 4 ∧ K ls (.int (if x < y then y else x) :: r) m bc bs
  | _ => False
def xo_idiv (K : xm_PT) (ls : xm_L) (st : List Value) (m : xm_M) (bc bs : Nat) : Prop := match st with
  | .int y :: .int x :: r => ¬ y = 0 ∧ K ls (.int (x / y) :: r) m bc bs
  | _ => False
def xo_irem (K : xm_PT) (ls : xm_L) (st : List Value) (m : xm_M) (bc bs : Nat) : Prop := match st with
  | .int y :: .int x :: r => ¬ y = 0 ∧ K ls (.int (x - x / y * y) :: r) m bc bs
  | _ => False
def xo_zald (ats : List FieldType) (K : xm_PT) (ls : xm_L) (st : List Value) (m : xm_M) (bc bs : Nat) : Prop := match st with
  | .int i :: .ref a :: r => (match m a with
    | some (.inl (t, n, .inl f)) => ats[t]? = some .boolean ∧ vp_in i n ∧ K ls (.int (f i.toNatClampNeg) :: r) m bc bs
    | _ => False)
  | _ => False
def xo_zast (ats : List FieldType) (K : xm_PT) (ls : xm_L) (st : List Value) (m : xm_M) (bc bs : Nat) : Prop := match st with
  | .int x :: .int i :: .ref a :: r => (match m a with
    | some (.inl (t, n, .inl f)) => ats[t]? = some .boolean ∧ (x = 0 ∨ x = 1) ∧ vp_in i n ∧ K ls r (xm_up m a (.inl (t, n, .inl (upd f i.toNatClampNeg x)))) bc bs
    | _ => False)
  | _ => False
def xo_sld (b L : Nat) (xs : Nat → Int32) (K : xm_PT) (ls : xm_L) (st : List Value) (m : xm_M) (bc bs : Nat) : Prop := match st with
  | .int i :: .ref a :: r => a = b ∧ vp_in i L ∧ K ls (.int (xs i.toNatClampNeg) :: r) m bc bs
  | _ => False
def xo_slen (b L : Nat) (K : xm_PT) (ls : xm_L) (st : List Value) (m : xm_M) (bc bs : Nat) : Prop := match st with
  | .ref a :: r => a = b ∧ K ls (.int (nI L) :: r) m bc bs
  | _ => False
def xo_new (ci N : Nat) (fs : List Value) (K : xm_PT) (ls : xm_L) (st : List Value) (m : xm_M) (bc bs : Nat) : Prop := 1 ≤ bc ∧ N ≤ bs ∧ ∀ q, m q = none → K ls (.ref q :: st) (xm_up m q (.inr (ci, fs))) (bc - 1) (bs - N)
def xo_anew (t : Nat) (K : xm_PT) (ls : xm_L) (st : List Value) (m : xm_M) (bc bs : Nat) : Prop := match st with
  | .int n :: r => ¬ n < 0 ∧ n.toNatClampNeg ≤ 100000 ∧ 1 ≤ bc ∧ n.toNatClampNeg ≤ bs ∧ ∀ q, m q = none → K ls (.ref q :: r) (xm_up m q (.inl (t, n.toNatClampNeg, .inr (.inr (.inr (.inr (fun _ => none))))))) (bc - 1) (bs - n.toNatClampNeg)
  | _ => False
def xo_newi (t : Nat) (K : xm_PT) (ls : xm_L) (st : List Value) (m : xm_M) (bc bs : Nat) : Prop := match st with
  | .int n :: r => ¬ n < 0 ∧ n.toNatClampNeg ≤ 100000 ∧ 1 ≤ bc ∧ n.toNatClampNeg ≤ bs ∧ ∀ q, m q = none → K ls (.ref q :: r) (xm_up m q (.inl (t, n.toNatClampNeg, .inl (fun _ => 0)))) (bc - 1) (bs - n.toNatClampNeg)
  | _ => False
def xo_drop (K : xm_PT) (ls : xm_L) (st : List Value) (m : xm_M) (bc bs : Nat) : Prop := match st with
  | .ref _ :: r => r.length ≤ 4 ∧ K ls r m bc bs
  | _ => False
abbrev xm_CP : Type := List Value → xm_M → (Option Value → xm_M → Prop) → Prop
def xo_callV (ci n mc ms : Nat) (CP : xm_CP) (K : xm_PT) (ls : xm_L) (st : List Value) (m : xm_M) (bc bs : Nat) : Prop := mc ≤ bc ∧ ms ≤ bs ∧ match xm_sp n st [] with
  | some (as, .ref b :: rest) => rest.length ≤ 4 ∧ (match m b with
    | some (.inr (c, _)) => c = ci
    | _ => False) ∧ CP (.ref b :: as) m (fun r m' => K ls (r.toList ++ rest) m' (bc - mc) (bs - ms))
  | _ => False
def xo_callI (n mc ms : Nat) (CP : xm_CP) (K : xm_PT) (ls : xm_L) (st : List Value) (m : xm_M) (bc bs : Nat) : Prop := mc ≤ bc ∧ ms ≤ bs ∧ match xm_sp n st [] with
  | some (as, .ref b :: rest) => rest.length ≤ 4 ∧ CP (.ref b :: as) m (fun r m' => K ls (r.toList ++ rest) m' (bc - mc) (bs - ms))
  | _ => False
def xo_callS (n mc ms : Nat) (CP : xm_CP) (K : xm_PT) (ls : xm_L) (st : List Value) (m : xm_M) (bc bs : Nat) : Prop := mc ≤ bc ∧ ms ≤ bs ∧ match xm_sp n st [] with
  | some (as, rest) => rest.length ≤ 4 ∧ CP as m (fun r m' => K ls (r.toList ++ rest) m' (bc - mc) (bs - ms))
  | _ => False
def xo_jmp (ks : List Nat) (K : xm_PT) (ls : xm_L) (st : List Value) (m : xm_M) (bc bs : Nat) : Prop := K (xm_keep ls ks) st m bc bs
def xo_iret (Rh : Option Value → xm_M → Prop) (_ls : xm_L) (st : List Value) (m : xm_M) (_bc _bs : Nat) : Prop := match st with
  | [.int v] => Rh (some (.int v)) m
  | _ => False
def xo_zret (Rh : Option Value → xm_M → Prop) (_ls : xm_L) (st : List Value) (m : xm_M) (_bc _bs : Nat) : Prop := match st with
  | [.int v] => (v = 0 ∨ v = 1) ∧ Rh (some (.int v)) m
  | _ => False
def xo_lret (Rh : Option Value → xm_M → Prop) (_ls : xm_L) (st : List Value) (m : xm_M) (_bc _bs : Nat) : Prop := match st with
  | [.long v] => Rh (some (.long v)) m
  | _ => False
def xo_aret (Rh : Option Value → xm_M → Prop) (_ls : xm_L) (st : List Value) (m : xm_M) (_bc _bs : Nat) : Prop := match st with
  | [v] => xm_ref v ∧ Rh (some v) m
  | _ => False
def xo_vret (Rh : Option Value → xm_M → Prop) (_ls : xm_L) (st : List Value) (m : xm_M) (_bc _bs : Nat) : Prop := match st with
  | [] => Rh none m
  | _ => False
def xm_sw (x : Int) : Int → List xm_PT → xm_PT → xm_L → List Value → xm_M → Nat → Nat → Prop
  | _, [], Kd, ls, st, m, bc, bs => Kd ls st m bc bs
  | lo, K :: Ks, Kd, ls, st, m, bc, bs => (x = lo → K ls st m bc bs) ∧ (¬ x = lo → xm_sw x (lo + 1) Ks Kd ls st m bc bs)
def xo_tsw (lo : Int) (Ks : List xm_PT) (Kd : xm_PT) (ls : xm_L) (st : List Value) (m : xm_M) (bc bs : Nat) : Prop := match st with
  | .int x :: r => xm_sw x.toInt lo Ks Kd ls r m bc bs
  | _ => False
def xm_lsw (x : Int) : List (Int × xm_PT) → xm_PT → xm_L → List Value → xm_M → Nat → Nat → Prop
  | [], Kd, ls, st, m, bc, bs => Kd ls st m bc bs
  | (k, K) :: Ks, Kd, ls, st, m, bc, bs => (x = k → K ls st m bc bs) ∧ (¬ x = k → xm_lsw x Ks Kd ls st m bc bs)
def xo_lsw (Ks : List (Int × xm_PT)) (Kd : xm_PT) (ls : xm_L) (st : List Value) (m : xm_M) (bc bs : Nat) : Prop := match st with
  | .int x :: r => xm_lsw x.toInt Ks Kd ls r m bc bs
  | _ => False
