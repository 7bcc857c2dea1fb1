/-! rows, entries, copies: the small classes' methods -/
theorem xm_uu (m : xm_M) (a : Nat) (e e' : va_E) : xm_up (xm_up m a e) a e' = xm_up m a e' := by
  funext b; by_cases h : b = a <;> simp [xm_up, h]
theorem nb_n (b : Bool) : narrow .boolean (.int (bI b)) = .int (bI b) := by cases b <;> rfl
theorem nb_f (b : Bool) : fits .boolean (.int (bI b)) = true := by cases b <;> rfl
theorem nq_n {C : String} {w : Value} (h : xm_ref w) : narrow (.object C) w = w := by rcases h with rfl | ⟨a, rfl⟩ <;> rfl
theorem nq_f {C : String} {w : Value} (h : xm_ref w) : fits (.object C) w = true := by rcases h with rfl | ⟨a, rfl⟩ <;> rfl
def szs : List Cp → Nat
  | [] => 0
  | c :: l => c.siz + szs l
def gst : List Cp → Int32 → Int32
  | [], a => a
  | c :: l, a => gst l (if a < c.stp then c.stp else a)
def hot (d : Cp) : List Cp → Bool
  | [] => false
  | c :: l => (decide (c.key = d.key) && !decide (c.stp = d.stp)) || hot d l
section
variable {ad : Nat → Nat} {m : xm_M} {v : Vt} {K : xm_PT} {ls : xm_L} {st : List Value} {bc bs : Nat} {Rh : Option Value → xm_M → Prop}
theorem p_E_point {e : Nat} {x0 x1 x2 w : Value} {hh p : Int32} (hm : m e = some (.inr (4, [x0, x1, x2]))) (hw : xm_ref w) (h : Rh none (xm_up m e (.inr (4, [w, .int hh, .int p])))) : cp_E_point [.ref e, w, .int hh, .int p] m Rh := by
  have e0 : (lg_sl [.ref e, w, .int hh, .int p]).length ≤ 4 := by rcases hw with rfl | ⟨a, rfl⟩ <;> exact Nat.le_of_ble_eq_true rfl
  have e1 : lv_args 0 [.ref e, w, .int hh, .int p] = [(0, .ref e), (1, w), (2, .int hh), (3, .int p)] := by rcases hw with rfl | ⟨a, rfl⟩ <;> rfl
  refine ⟨e0, fun X hX => eE_point_0 hX ?_⟩
  unfold cE_point_0
  rw [e1]
  refine xr_aload rfl <| xr_aloadq rfl hw <| xr_put hm (by simp) (nq_n hw) (nq_f hw) rfl <| xr_aload rfl <| xr_iload rfl <| xr_put (xm_up_s _ _ _) (by simp) rfl rfl rfl <| xr_aload rfl <| xr_iload rfl <| xr_put (xm_up_s _ _ _) (by simp) rfl rfl rfl <| xr_vret ?_
  rw [xm_uu, xm_uu]
  exact h
theorem p_E_forget {e : Nat} {x0 x1 x2 : Value} (hm : m e = some (.inr (4, [x0, x1, x2]))) (h : Rh none (xm_up m e (.inr (4, [.null, .int (-1), .int 0])))) : cp_E_forget [.ref e] m Rh := by
  refine ⟨Nat.le_of_ble_eq_true rfl, fun X hX => eE_forget_0 hX ?_⟩
  unfold cE_forget_0
  exact xr_aload rfl <| xr_push <| xr_push <| xr_push <| xr_callV (by decide) (by decide) rfl (by decide) hm <| p_E_point hm xm_ref_n <| xr_vret h
theorem p_C_init {a : Nat} {x0 x1 x2 x3 x4 x5 x6 : Value} {c : Cp} (hm : m a = some (.inr (1, [x0, x1, x2, x3, x4, x5, x6]))) (h : Rh none (xm_up m a (cpV c))) : cp_C_init [.ref a, .int (nI c.key), .int c.val, .int (nI c.siz), .int c.gen, .int c.voi, .int c.stp, .int (bI c.tmb)] m Rh := by
  refine ⟨Nat.le_of_ble_eq_true rfl, fun X hX => eC_init_0 hX ?_⟩
  unfold cC_init_0
  refine xr_aload rfl <| xr_drop (by decide) <| xr_aload rfl <| xr_iload rfl <| xr_put hm (by simp) rfl rfl rfl <| xr_aload rfl <| xr_iload rfl <| xr_put (xm_up_s _ _ _) (by simp) rfl rfl rfl <| xr_aload rfl <| xr_iload rfl <| xr_put (xm_up_s _ _ _) (by simp) rfl rfl rfl <| xr_aload rfl <| xr_iload rfl <| xr_put (xm_up_s _ _ _) (by simp) rfl rfl rfl <| xr_aload rfl <| xr_iload rfl <| xr_put (xm_up_s _ _ _) (by simp) rfl rfl rfl <| xr_aload rfl <| xr_iload rfl <| xr_put (xm_up_s _ _ _) (by simp) rfl rfl rfl <| xr_aload rfl <| xr_iload rfl <| xr_put (xm_up_s _ _ _) (by simp) (nb_n _) (nb_f _) rfl <| xr_vret ?_
  rw [xm_uu, xm_uu, xm_uu, xm_uu, xm_uu, xm_uu]
  exact h
theorem drop_at {l : List Cp} {p : Nat} (hp : p < l.length) : ∃ c, l[p]? = some c ∧ l.drop p = c :: l.drop (p + 1) := ⟨l[p], by simp [hp], List.drop_eq_getElem_cons hp⟩
/-- the COPY at a place of a row: as the code reads it -/
theorem q_cp (hR : Rep ad m v) {r p i j : Nat} (hr : r < 16) {c : Cp} (hc : (v.row r)[p]? = some c) (h0 : xm_lk ls i = some (.ref (ad (20 + r)))) (hi : xm_lk ls j = some (.int (nI p))) (h : ∀ a, isC m a c → K ls (.ref a :: st) m bc bs) : xo_aload i (xo_get 2 0 (xo_iload j (xo_aald ats K))) ls st m bc bs := by
  obtain ⟨f, g1, g2, g3⟩ := hR.rc hr
  obtain ⟨a, e1, e2⟩ := g3 p c hc
  have hp : p < (v.row r).length := (List.getElem?_eq_some_iff.mp hc).1
  exact xr_aload h0 (xr_get (hR.rw hr) rfl (xr_iload hi (xr_aald g1 rfl rfl (by omega) (by decide) e1 (h a e2))))
theorem Rep.len (hR : Rep ad m v) {r : Nat} (hr : r < 16) : (v.row r).length ≤ 12 := (hR.rc hr).choose_spec.2.1
theorem p_R_sizes (hR : Rep ad m v) {r : Nat} (hr : r < 16) (h : Rh (some (.int (nI (szs (v.row r))))) m) : cp_R_sizes [.ref (ad (20 + r))] m Rh := by
  refine ⟨Nat.le_of_ble_eq_true rfl, fun X hX => ?_⟩
  have h12 := hR.len hr
  have L : ∀ n p a, p + n = (v.row r).length → Rh (some (.int (nI (a + szs ((v.row r).drop p))))) m → X 4 [(0, .ref (ad (20 + r))), (1, .int (nI a)), (2, .int (nI p))] [] m 0 0 := by
    intro n
    induction n with
    | zero =>
      intro p a hp h
      refine eR_sizes_4 hX ?_
      unfold cR_sizes_4
      have : p = (v.row r).length := by omega
      subst this
      exact xr_iload rfl <| xr_aload rfl <| xr_get (hR.rw hr) rfl <| xr_cmpt (Int32.le_refl _) <| xr_iload rfl <| xr_iret (by simpa [szs] using h)
    | succ n ih =>
      intro p a hp h
      refine eR_sizes_4 hX ?_
      unfold cR_sizes_4
      obtain ⟨c, hc, hd⟩ := drop_at (l := v.row r) (p := p) (by omega)
      refine xr_iload rfl <| xr_aload rfl <| xr_get (hR.rw hr) rfl <| xr_cmpf (nI_ge (by omega) (by omega)) <| xr_iload rfl <| q_cp hR hr hc rfl rfl (fun q hq => xr_get hq rfl <| xr_ibin <| xr_istore <| xr_iinc rfl <| xr_jmp rfl ?_)
      rw [nI_add, nI_1]
      exact ih (p + 1) (a + c.siz) (by omega) (by rw [hd] at h; simpa [szs, Nat.add_assoc] using h)
  refine eR_sizes_0 hX ?_
  unfold cR_sizes_0
  exact xr_push <| xr_istore <| xr_push <| xr_istore <| xr_jmp rfl (L _ 0 0 (Nat.zero_add _) (by simpa using h))
theorem p_R_greatestStamp (hR : Rep ad m v) {r : Nat} (hr : r < 16) (h : Rh (some (.int (gst (v.row r) 0))) m) : cp_R_greatestStamp [.ref (ad (20 + r))] m Rh := by
  refine ⟨Nat.le_of_ble_eq_true rfl, fun X hX => ?_⟩
  have h12 := hR.len hr
  have L : ∀ n p a, p + n = (v.row r).length → Rh (some (.int (gst ((v.row r).drop p) a))) m → X 4 [(0, .ref (ad (20 + r))), (1, .int a), (2, .int (nI p))] [] m 0 0 := by
    intro n
    induction n with
    | zero =>
      intro p a hp h
      refine eR_greatestStamp_4 hX ?_
      unfold cR_greatestStamp_4
      have : p = (v.row r).length := by omega
      subst this
      exact xr_iload rfl <| xr_aload rfl <| xr_get (hR.rw hr) rfl <| xr_cmpt (Int32.le_refl _) <| xr_iload rfl <| xr_iret (by simpa [gst] using h)
    | succ n ih =>
      intro p a hp h
      refine eR_greatestStamp_4 hX ?_
      unfold cR_greatestStamp_4
      obtain ⟨c, hc, hd⟩ := drop_at (l := v.row r) (p := p) (by omega)
      refine xr_iload rfl <| xr_aload rfl <| xr_get (hR.rw hr) rfl <| xr_cmpf (nI_ge (by omega) (by omega)) <| xr_iload rfl <| q_cp hR hr hc rfl rfl (fun q hq => xr_get hq rfl <| xr_mmax (by decide) <| xr_istore <| xr_iinc rfl <| xr_jmp rfl ?_)
      rw [nI_1]
      exact ih (p + 1) _ (by omega) (by rw [hd] at h; simpa [gst] using h)
  refine eR_greatestStamp_0 hX ?_
  unfold cR_greatestStamp_0
  exact xr_push <| xr_istore <| xr_push <| xr_istore <| xr_jmp rfl (L _ 0 0 (Nat.zero_add _) (by simpa using h))
theorem p_R_hasOther (hR : Rep ad m v) (hw : Wf v) {r a : Nat} (hr : r < 16) {d : Cp} (hd : isC m a d) (hk : d.key < 16) (h : Rh (some (.int (bI (hot d (v.row r))))) m) : cp_R_hasOther [.ref (ad (20 + r)), .ref a] m Rh := by
  refine ⟨Nat.le_of_ble_eq_true rfl, fun X hX => ?_⟩
  have h12 := hR.len hr
  have L : ∀ n p, p + n = (v.row r).length → Rh (some (.int (bI (hot d ((v.row r).drop p))))) m → X 2 [(0, .ref (ad (20 + r))), (1, .ref a), (2, .int (nI p))] [] m 0 0 := by
    intro n
    induction n with
    | zero =>
      intro p hp h
      refine eR_hasOther_2 hX ?_
      unfold cR_hasOther_2
      have : p = (v.row r).length := by omega
      subst this
      exact xr_iload rfl <| xr_aload rfl <| xr_get (hR.rw hr) rfl <| xr_cmpt (Int32.le_refl _) <| xr_push <| xr_zret (Or.inl rfl) (by simpa [hot, bI] using h)
    | succ n ih =>
      intro p hp h
      refine eR_hasOther_2 hX ?_
      unfold cR_hasOther_2
      obtain ⟨c, hc, hdr⟩ := drop_at (l := v.row r) (p := p) (by omega)
      have hck := (hw.2.2.1 r hr c (List.mem_of_getElem? hc)).1
      refine xr_iload rfl <| xr_aload rfl <| xr_get (hR.rw hr) rfl <| xr_cmpf (nI_ge (by omega) (by omega)) <| q_cp hR hr hc rfl rfl (fun q hq => xr_get hq rfl <| xr_aload rfl <| xr_get hd rfl <| xr_cmp (fun h1 => ?_) (fun h1 => ?_))
      · rw [nI_eq (by omega) (by omega)] at h1
        refine q_cp hR hr hc rfl rfl (fun q hq => xr_get hq rfl <| xr_aload rfl <| xr_get hd rfl <| xr_cmp (fun h2 => ?_) (fun h2 => ?_))
        · refine xr_iinc rfl <| xr_jmp rfl ?_
          rw [nI_1]
          exact ih (p + 1) (by omega) (by rw [hdr] at h; simpa [hot, h1, h2] using h)
        · exact xr_push <| xr_zret (Or.inr rfl) (by rw [hdr] at h; simpa [hot, h1, h2, bI] using h)
      · rw [nI_eq (by omega) (by omega)] at h1
        refine xr_iinc rfl <| xr_jmp rfl ?_
        rw [nI_1]
        exact ih (p + 1) (by omega) (by rw [hdr] at h; simpa [hot, h1] using h)
  refine eR_hasOther_0 hX ?_
  unfold cR_hasOther_0
  exact xr_push <| xr_istore <| xr_jmp rfl (L _ 0 (Nat.zero_add _) (by simpa using h))
theorem p_R_at {r p : Nat} (hR : Rep ad m v) (hr : r < 16) {c : Cp} (hc : (v.row r)[p]? = some c) (h : ∀ a, isC m a c → Rh (some (.ref a)) m) : cp_R_at [.ref (ad (20 + r)), .int (nI p)] m Rh := by
  refine ⟨Nat.le_of_ble_eq_true rfl, fun X hX => eR_at_0 hX ?_⟩
  have h12 := hR.len hr
  have hp : p < (v.row r).length := (List.getElem?_eq_some_iff.mp hc).1
  unfold cR_at_0
  exact xr_iload rfl <| xr_iff (nI_pos (by omega)) <| xr_iload rfl <| xr_aload rfl <| xr_get (hR.rw hr) rfl <| xr_cmpf (nI_ge hp (by omega)) <| q_cp hR hr hc rfl rfl (fun a ha => xr_aret (xm_ref_r a) (h a ha))
theorem p_R_at0 {r : Nat} {x : Int32} (hR : Rep ad m v) (hr : r < 16) (hx : x < 0 ∨ nI (v.row r).length ≤ x) (h : Rh (some .null) m) : cp_R_at [.ref (ad (20 + r)), .int x] m Rh := by
  refine ⟨Nat.le_of_ble_eq_true rfl, fun X hX => eR_at_0 hX ?_⟩
  unfold cR_at_0
  refine xr_iload rfl <| xr_if (fun h1 => xr_push <| xr_aret xm_ref_n h) (fun h1 => ?_)
  exact xr_iload rfl <| xr_aload rfl <| xr_get (hR.rw hr) rfl <| xr_cmpt (hx.resolve_left h1) <| xr_push <| xr_aret xm_ref_n h
theorem p_R_clear {r : Nat} (hR : Rep ad m v) (hr : r < 16) (h : ∀ m', Rep ad m' (v.setR r []) → FrC m m' → Rh none m') : cp_R_clear [.ref (ad (20 + r))] m Rh := by
  refine ⟨Nat.le_of_ble_eq_true rfl, fun X hX => eR_clear_0 hX ?_⟩
  unfold cR_clear_0
  refine xr_aload rfl <| xr_push <| xr_put (hR.rw hr) (by simp) rfl rfl rfl <| xr_vret ?_
  exact h _ (hR.upR hr (l := []) (fun f _ _ => ⟨by simp, fun i c hi => by simp at hi⟩)) (FrC.up (hR.rw hr) rfl)
theorem p_R_add {r a : Nat} {c : Cp} (hR : Rep ad m v) (hr : r < 16) (hc : isC m a c) (hl : (v.row r).length < 12) (h : ∀ m', Rep ad m' (v.setR r (v.row r ++ [c])) → FrC m m' → Rh none m') : cp_R_add [.ref (ad (20 + r)), .ref a] m Rh := by
  refine ⟨Nat.le_of_ble_eq_true rfl, fun X hX => eR_add_0 hX ?_⟩
  unfold cR_add_0
  obtain ⟨f, g1, g2⟩ := hR.ra hr
  have hR1 : Rep ad (xm_up m (ad (40 + r)) (qA 2 12 (va_up f (v.row r).length (some a)))) v := hR.upA hr g1 (fun q => ⟨q.1, fun i d hi => by
    obtain ⟨b, e1, e2⟩ := q.2 i d hi
    have : i < (v.row r).length := (List.getElem?_eq_some_iff.mp hi).1
    exact ⟨b, by rw [va_up_ne _ _ (by omega)]; exact e1, e2⟩⟩)
  have hF1 : FrC m (xm_up m (ad (40 + r)) (qA 2 12 (va_up f (v.row r).length (some a)))) := FrC.up g1 rfl
  refine xr_aload rfl <| xr_nonnull <| xr_aload rfl <| xr_get (hR.rw hr) rfl <| xr_push <| xr_cmpf (nI_ge hl (by decide)) <| xr_aload rfl <| xr_get (hR.rw hr) rfl <| xr_aload rfl <| xr_get (hR.rw hr) rfl <| xr_aload rfl <| xr_aast g1 hc rfl (by decide) rfl hl (by decide) <| xr_aload rfl <| xr_dup rfl <| xr_get (hR1.rw hr) rfl <| xr_push <| xr_ibin <| xr_put (hR1.rw hr) (by simp) rfl rfl rfl <| xr_vret ?_
  have hR2 := hR1.upR hr (l := v.row r ++ [c]) (fun f2 q hm2 => by
    rw [xm_up_s] at hm2
    cases hm2
    refine ⟨by simp; omega, fun i d hi => ?_⟩
    by_cases hil : i < (v.row r).length
    · rw [List.getElem?_append_left hil] at hi
      exact q.2 i d hi
    · rw [List.getElem?_append_right (by omega)] at hi
      have hz : i - (v.row r).length < 1 := (List.getElem?_eq_some_iff.mp hi).1
      rw [show i - (v.row r).length = 0 by omega] at hi
      cases hi
      refine ⟨a, ?_, hc.fr hF1⟩
      rw [show i = (v.row r).length by omega]
      exact va_up_self _ _ _)
  have e1 : (rwV ad (v.row r ++ [c]) r) = .inr (2, [.ref (ad (40 + r)), .int (nI (v.row r).length + 1)]) := by
    simp [rwV, nI_1]
  rw [e1] at hR2
  exact h _ hR2 (hF1.tr (FrC.up (hR1.rw hr) rfl))
theorem Vt.setR_row (v : Vt) (r : Nat) (l : List Cp) : (v.setR r l).row r = l := by simp [Vt.setR, Vt.row, va_up]
theorem Vt.setR_ne (v : Vt) {r s : Nat} (l : List Cp) (h : s ≠ r) : (v.setR r l).row s = v.row s := by simp [Vt.setR, Vt.row, va_up, h]
theorem Vt.setR_set (v : Vt) (r : Nat) (l l' : List Cp) : (v.setR r l).setR r l' = v.setR r l' := by
  simp only [Vt.setR]
  congr 3
  funext j
  by_cases h : j = r <;> simp [va_up, h]
theorem p_R_takeFirst {r s n : Nat} (hR : Rep ad m v) (hr : r < 16) (hs : s < 16) (hrs : s ≠ r) (hn : n < 2 ^ 31) (h : ∀ m', Rep ad m' (v.setR r ((v.row s).take n)) → FrC m m' → Rh none m') : cp_R_takeFirst [.ref (ad (20 + r)), .int (nI n), .ref (ad (20 + s))] m Rh := by
  refine ⟨Nat.le_of_ble_eq_true rfl, fun X hX => ?_⟩
  have h12 := hR.len hs
  have L : ∀ k p m1, p + k = min n (v.row s).length → Rep ad m1 (v.setR r ((v.row s).take p)) → FrC m m1 → X 6 [(0, .ref (ad (20 + r))), (1, .int (nI n)), (2, .ref (ad (20 + s))), (3, .int (nI p))] [] m1 0 0 := by
    intro k
    induction k with
    | zero =>
      intro p m1 hp hR1 hF1
      refine eR_takeFirst_6 hX ?_
      unfold cR_takeFirst_6
      have hfin : Rh none m1 := by
        refine h m1 ?_ hF1
        have : (v.row s).take n = (v.row s).take p := by
          rw [Nat.add_zero] at hp
          rw [hp, List.take_eq_take_iff]
          omega
        rw [this]; exact hR1
      have hrw := hR1.rw hs
      rw [Vt.setR_ne _ _ hrs] at hrw
      refine xr_iload rfl <| xr_iload rfl <| xr_cmp (fun h1 => xr_vret hfin) (fun h1 => ?_)
      rw [nI_leI (by omega) (by omega)] at h1
      exact xr_iload rfl <| xr_aload rfl <| xr_get hrw rfl <| xr_cmpt (nI_le (by omega) (by omega)) <| xr_vret hfin
    | succ k ih =>
      intro p m1 hp hR1 hF1
      refine eR_takeFirst_6 hX ?_
      unfold cR_takeFirst_6
      have hrw := hR1.rw hs
      rw [Vt.setR_ne _ _ hrs] at hrw
      have hps : p < (v.row s).length := by omega
      obtain ⟨c, hc, -⟩ := drop_at hps
      have hc1 : ((v.setR r ((v.row s).take p)).row s)[p]? = some c := by rw [Vt.setR_ne _ _ hrs]; exact hc
      refine xr_iload rfl <| xr_iload rfl <| xr_cmpf (nI_ge (by omega) (by omega)) <| xr_iload rfl <| xr_aload rfl <| xr_get hrw rfl <| xr_cmpf (nI_ge hps (by omega)) <| xr_aload rfl <| q_cp hR1 hs hc1 rfl rfl (fun q hq => xr_callV (by decide) (by decide) rfl (by decide) (hR1.rw hr) <| p_R_add hR1 hr hq (by rw [Vt.setR_row]; simp; omega) (fun m2 hR2 hF2 => ?_))
      refine xr_iinc rfl <| xr_jmp rfl ?_
      rw [nI_1]
      refine ih (p + 1) m2 (by omega) ?_ (hF1.tr hF2)
      rw [Vt.setR_set, Vt.setR_row] at hR2
      have : (v.row s).take (p + 1) = (v.row s).take p ++ [c] := by rw [List.take_add_one, hc]; rfl
      rw [this]; exact hR2
  refine eR_takeFirst_0 hX ?_
  unfold cR_takeFirst_0
  refine xr_aload rfl <| xr_callV (by decide) (by decide) rfl (by decide) (hR.rw hr) <| p_R_clear hR hr (fun m1 hR1 hF1 => ?_)
  exact xr_push <| xr_istore <| xr_jmp rfl (L _ 0 m1 (Nat.zero_add _) (by simpa using hR1) hF1)
end
