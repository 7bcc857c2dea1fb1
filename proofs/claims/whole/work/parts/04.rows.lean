/-! the transformers' introduction rows: from the goal behind an instruction to the goal before it -/
section XR
variable {K Kt Kf : xm_PT} {ls ls' : xm_L} {st r : List Value} {m : xm_M} {bc bs : Nat} {Rh : Option Value → xm_M → Prop}
theorem xr_push {v : Value} (h : K ls (v :: st) m bc bs) : xo_push v K ls st m bc bs := h
theorem xr_iload {i : Nat} {v : Int32} (hl : xm_lk ls i = some (.int v)) (h : K ls (.int v :: st) m bc bs) : xo_iload i K ls st m bc bs := by
  simp only [xo_iload, hl]; exact h
theorem xr_lload {i : Nat} {v : Int64} (hl : xm_lk ls i = some (.long v)) (h : K ls (.long v :: st) m bc bs) : xo_lload i K ls st m bc bs := by
  simp only [xo_lload, hl]; exact h
theorem xr_aload {i : Nat} {a : Nat} (hl : xm_lk ls i = some (.ref a)) (h : K ls (.ref a :: st) m bc bs) : xo_aload i K ls st m bc bs := by
  simp only [xo_aload, hl]; exact ⟨xm_ref_r a, h⟩
theorem xr_aloadq {i : Nat} {v : Value} (hl : xm_lk ls i = some v) (hr : xm_ref v) (h : K ls (v :: st) m bc bs) : xo_aload i K ls st m bc bs := by
  simp only [xo_aload, hl]; exact ⟨hr, h⟩
theorem xr_istore {i : Nat} {v : Int32} (h : K (xm_sto ls i (.int v)) r m bc bs) : xo_istore i K ls (.int v :: r) m bc bs := h
theorem xr_astore {i : Nat} {a : Nat} (h : K (xm_sto ls i (.ref a)) r m bc bs) : xo_astore i K ls (.ref a :: r) m bc bs := ⟨xm_ref_r a, h⟩
theorem xr_astoreq {i : Nat} {v : Value} (hr : xm_ref v) (h : K (xm_sto ls i v) r m bc bs) : xo_astore i K ls (v :: r) m bc bs := ⟨hr, h⟩
theorem xr_iinc {i : Nat} {n v : Int32} (hl : xm_lk ls i = some (.int v)) (h : K (xm_sto ls i (.int (v + n))) st m bc bs) : xo_iinc i n K ls st m bc bs := by
  simp only [xo_iinc, hl]; exact h
theorem xr_ibin {f : Int32 → Int32 → Int32} {x y : Int32} (h : K ls (.int (f x y) :: r) m bc bs) : xo_ibin f K ls (.int y :: .int x :: r) m bc bs := h
theorem xr_iun {f : Int32 → Int32} {x : Int32} (h : K ls (.int (f x) :: r) m bc bs) : xo_iun f K ls (.int x :: r) m bc bs := h
theorem xr_i2l {x : Int32} (h : K ls (.long x.toInt64 :: r) m bc bs) : xo_i2l K ls (.int x :: r) m bc bs := h
theorem xr_l2i {x : Int64} (h : K ls (.int x.toInt32 :: r) m bc bs) : xo_l2i K ls (.long x :: r) m bc bs := h
theorem xr_lcmp {x y : Int64} (h : K ls (.int (lg_cmp x y) :: r) m bc bs) : xo_lcmp K ls (.long y :: .long x :: r) m bc bs := h
theorem xr_dup {v : Value} (hv : v.category = 1) (h : K ls (v :: v :: r) m bc bs) : xo_dup K ls (v :: r) m bc bs := ⟨hv, h⟩
theorem xr_pop {v : Value} (hv : v.category = 1) (h : K ls r m bc bs) : xo_pop K ls (v :: r) m bc bs := ⟨hv, h⟩
theorem xr_dup_x1 {v w : Value} (hv : v.category = 1) (hw : w.category = 1) (h : K ls (v :: w :: v :: r) m bc bs) : xo_dup_x1 K ls (v :: w :: r) m bc bs := ⟨hv, hw, h⟩
theorem xr_dup2 {v w : Value} (hv : v.category = 1) (hw : w.category = 1) (h : K ls (v :: w :: v :: w :: r) m bc bs) : xo_dup2 K ls (v :: w :: r) m bc bs := ⟨hv, hw, h⟩
theorem xr_if {cnd : Int32 → Prop} {x : Int32} (ht : cnd x → Kt ls r m bc bs) (hf : ¬ cnd x → Kf ls r m bc bs) : xo_if cnd Kt Kf ls (.int x :: r) m bc bs := ⟨ht, hf⟩
theorem xr_ift {cnd : Int32 → Prop} {x : Int32} (hc : cnd x) (h : Kt ls r m bc bs) : xo_if cnd Kt Kf ls (.int x :: r) m bc bs := ⟨fun _ => h, fun q => absurd hc q⟩
theorem xr_iff {cnd : Int32 → Prop} {x : Int32} (hc : ¬ cnd x) (h : Kf ls r m bc bs) : xo_if cnd Kt Kf ls (.int x :: r) m bc bs := ⟨fun q => absurd q hc, fun _ => h⟩
theorem xr_cmp {cnd : Int32 → Int32 → Prop} {x y : Int32} (ht : cnd x y → Kt ls r m bc bs) (hf : ¬ cnd x y → Kf ls r m bc bs) : xo_icmp cnd Kt Kf ls (.int y :: .int x :: r) m bc bs := ⟨ht, hf⟩
theorem xr_cmpt {cnd : Int32 → Int32 → Prop} {x y : Int32} (hc : cnd x y) (h : Kt ls r m bc bs) : xo_icmp cnd Kt Kf ls (.int y :: .int x :: r) m bc bs := ⟨fun _ => h, fun q => absurd hc q⟩
theorem xr_cmpf {cnd : Int32 → Int32 → Prop} {x y : Int32} (hc : ¬ cnd x y) (h : Kf ls r m bc bs) : xo_icmp cnd Kt Kf ls (.int y :: .int x :: r) m bc bs := ⟨fun q => absurd q hc, fun _ => h⟩
theorem xr_isnull (h : Kt ls r m bc bs) : xo_null Kt Kf ls (.null :: r) m bc bs := ⟨xm_ref_n, fun _ => h, fun q => absurd rfl q⟩
theorem xr_nonnull {a : Nat} (h : Kf ls r m bc bs) : xo_null Kt Kf ls (.ref a :: r) m bc bs := ⟨xm_ref_r a, (fun q => by cases q), fun _ => h⟩
theorem xr_get {ci k a : Nat} {fs : List Value} {v : Value} (hm : m a = some (.inr (ci, fs))) (hv : fs[k]? = some v) (h : K ls (v :: r) m bc bs) : xo_get ci k K ls (.ref a :: r) m bc bs := by
  simp only [xo_get, hm, hv]; exact ⟨trivial, h⟩
theorem xr_put {ci k a : Nat} {ty : FieldType} {fs fs' : List Value} {v : Value} (hm : m a = some (.inr (ci, fs))) (hl : k < fs.length) (hn : narrow ty v = v) (hf : fits ty v = true) (he : fs.set k v = fs') (h : K ls r (xm_up m a (.inr (ci, fs'))) bc bs) : xo_put ci k ty K ls (v :: .ref a :: r) m bc bs := by
  subst he
  simp only [xo_put, hm]; exact ⟨hn, hf, trivial, hl, h⟩
theorem xr_alen {ats : List FieldType} {a t : Nat} {x : vp_A} {ty : FieldType} (hm : m a = some (.inl (t, x))) (ht : ats[t]? = some ty) (h : K ls (.int (nI x.1) :: r) m bc bs) : xo_alen ats K ls (.ref a :: r) m bc bs := by
  simp only [xo_alen, hm]; exact ⟨⟨ty, ht⟩, h⟩
theorem xr_iald {ats : List FieldType} {a t n j : Nat} {i : Int32} {f : Nat → Int32} (hm : m a = some (.inl (t, n, .inl f))) (ht : ats[t]? = some .int) (hi : i = nI j) (hj : j < n) (hn : n < 2 ^ 31) (h : K ls (.int (f j) :: r) m bc bs) : xo_iald ats K ls (.int i :: .ref a :: r) m bc bs := by
  subst hi
  simp only [xo_iald, hm]; refine ⟨ht, vp_in_nI hj hn, ?_⟩
  rw [nI_clamp (by omega)]; exact h
theorem xr_iast {ats : List FieldType} {a t n j : Nat} {i x : Int32} {f : Nat → Int32} (hm : m a = some (.inl (t, n, .inl f))) (ht : ats[t]? = some .int) (hi : i = nI j) (hj : j < n) (hn : n < 2 ^ 31) (h : K ls r (xm_up m a (.inl (t, n, .inl (upd f j x)))) bc bs) : xo_iast ats K ls (.int x :: .int i :: .ref a :: r) m bc bs := by
  subst hi
  simp only [xo_iast, hm]; refine ⟨ht, vp_in_nI hj hn, ?_⟩
  rw [nI_clamp (by omega)]; exact h
theorem xr_aald {ats : List FieldType} {a t n j : Nat} {i : Int32} {C : String} {q : Option Nat} {f : Nat → Option Nat} (hm : m a = some (.inl (t, n, .inr (.inr (.inr (.inr f)))))) (ht : ats[t]? = some (.object C)) (hi : i = nI j) (hj : j < n) (hn : n < 2 ^ 31) (hq : f j = q) (h : K ls (va_rf q :: r) m bc bs) : xo_aald ats K ls (.int i :: .ref a :: r) m bc bs := by
  subst hi
  simp only [xo_aald, hm]; refine ⟨⟨C, ht⟩, vp_in_nI hj hn, ?_⟩
  rw [nI_clamp (by omega), hq]; exact h
theorem xr_aast {ats : List FieldType} {cl : List vw_C} {a t n j v ci : Nat} {i : Int32} {vs : List Value} {f : Nat → Option Nat} (hm : m a = some (.inl (t, n, .inr (.inr (.inr (.inr f)))))) (hv : m v = some (.inr (ci, vs))) (ht : ats[t]? = some (.object (cl.getD ci ("", fun _ => ("", "", "", false), 0)).1)) (hc : ci < cl.length) (hi : i = nI j) (hj : j < n) (hn : n < 2 ^ 31) (h : K ls r (xm_up m a (.inl (t, n, .inr (.inr (.inr (.inr (va_up f j (some v)))))))) bc bs) : xo_aast ats cl K ls (.ref v :: .int i :: .ref a :: r) m bc bs := by
  subst hi
  simp only [xo_aast, hm, hv]; refine ⟨ht, hc, vp_in_nI hj hn, ?_⟩
  rw [nI_clamp (by omega)]; exact h
theorem xr_mmax {x y : Int32} (hr : r.length ≤ 4) (h : K ls (.int (if x < y then y else x) :: r) m bc bs) : xo_mmax K ls (.int y :: .int x :: r) m bc bs := ⟨hr, h⟩
theorem xr_idiv {x y : Int32} (hy : ¬ y = 0) (h : K ls (.int (x / y) :: r) m bc bs) : xo_idiv K ls (.int y :: .int x :: r) m bc bs := ⟨hy, h⟩
theorem xr_irem {x y : Int32} (hy : ¬ y = 0) (h : K ls (.int (x - x / y * y) :: r) m bc bs) : xo_irem K ls (.int y :: .int x :: r) m bc bs := ⟨hy, h⟩
theorem xr_zald {ats : List FieldType} {a t n j : Nat} {i : Int32} {f : Nat → Int32} (hm : m a = some (.inl (t, n, .inl f))) (ht : ats[t]? = some .boolean) (hi : i = nI j) (hj : j < n) (hn : n < 2 ^ 31) (h : K ls (.int (f j) :: r) m bc bs) : xo_zald ats K ls (.int i :: .ref a :: r) m bc bs := by
  subst hi
  simp only [xo_zald, hm]; refine ⟨ht, vp_in_nI hj hn, ?_⟩
  rw [nI_clamp (by omega)]; exact h
theorem xr_zast {ats : List FieldType} {a t n j : Nat} {i x : Int32} {f : Nat → Int32} (hm : m a = some (.inl (t, n, .inl f))) (ht : ats[t]? = some .boolean) (hx : x = 0 ∨ x = 1) (hi : i = nI j) (hj : j < n) (hn : n < 2 ^ 31) (h : K ls r (xm_up m a (.inl (t, n, .inl (upd f j x)))) bc bs) : xo_zast ats K ls (.int x :: .int i :: .ref a :: r) m bc bs := by
  subst hi
  simp only [xo_zast, hm]; refine ⟨ht, hx, vp_in_nI hj hn, ?_⟩
  rw [nI_clamp (by omega)]; exact h
theorem xr_sld {b L j : Nat} {xs : Nat → Int32} {i : Int32} (hi : i = nI j) (hj : j < L) (hL : L < 2 ^ 31) (h : K ls (.int (xs j) :: r) m bc bs) : xo_sld b L xs K ls (.int i :: .ref b :: r) m bc bs := by
  subst hi
  refine ⟨rfl, vp_in_nI hj hL, ?_⟩
  rw [nI_clamp (by omega)]; exact h
theorem xr_slen {b L : Nat} (h : K ls (.int (nI L) :: r) m bc bs) : xo_slen b L K ls (.ref b :: r) m bc bs := ⟨rfl, h⟩
theorem xr_new {ci N : Nat} {fs : List Value} (h1 : 1 ≤ bc) (h2 : N ≤ bs) (h : ∀ q, m q = none → K ls (.ref q :: st) (xm_up m q (.inr (ci, fs))) (bc - 1) (bs - N)) : xo_new ci N fs K ls st m bc bs := ⟨h1, h2, h⟩
theorem xr_anew {t n : Nat} {i : Int32} (hi : i = nI n) (hn : n ≤ 100000) (h1 : 1 ≤ bc) (h2 : n ≤ bs) (h : ∀ q, m q = none → K ls (.ref q :: r) (xm_up m q (.inl (t, n, .inr (.inr (.inr (.inr (fun _ => none))))))) (bc - 1) (bs - n)) : xo_anew t K ls (.int i :: r) m bc bs := by
  subst hi
  simp only [xo_anew]
  rw [nI_clamp (by omega)]
  exact ⟨nI_pos (by omega), hn, h1, h2, h⟩
theorem xr_newi {t n : Nat} {i : Int32} (hi : i = nI n) (hn : n ≤ 100000) (h1 : 1 ≤ bc) (h2 : n ≤ bs) (h : ∀ q, m q = none → K ls (.ref q :: r) (xm_up m q (.inl (t, n, .inl (fun _ => 0)))) (bc - 1) (bs - n)) : xo_newi t K ls (.int i :: r) m bc bs := by
  subst hi
  simp only [xo_newi]
  rw [nI_clamp (by omega)]
  exact ⟨nI_pos (by omega), hn, h1, h2, h⟩
theorem xr_drop {a : Nat} (hr : r.length ≤ 4) (h : K ls r m bc bs) : xo_drop K ls (.ref a :: r) m bc bs := ⟨hr, h⟩
theorem xr_callV {ci n mc ms b : Nat} {CP : xm_CP} {as rest fs : List Value} (h1 : mc ≤ bc) (h2 : ms ≤ bs) (hs : xm_sp n st [] = some (as, .ref b :: rest)) (hr : rest.length ≤ 4) (hb : m b = some (.inr (ci, fs))) (h : CP (.ref b :: as) m (fun r m' => K ls (r.toList ++ rest) m' (bc - mc) (bs - ms))) : xo_callV ci n mc ms CP K ls st m bc bs := by
  refine ⟨h1, h2, ?_⟩
  simp only [hs, hb]
  exact ⟨hr, trivial, h⟩
theorem xr_callI {n mc ms b : Nat} {CP : xm_CP} {as rest : List Value} (h1 : mc ≤ bc) (h2 : ms ≤ bs) (hs : xm_sp n st [] = some (as, .ref b :: rest)) (hr : rest.length ≤ 4) (h : CP (.ref b :: as) m (fun r m' => K ls (r.toList ++ rest) m' (bc - mc) (bs - ms))) : xo_callI n mc ms CP K ls st m bc bs := by
  refine ⟨h1, h2, ?_⟩
  simp only [hs]
  exact ⟨hr, h⟩
theorem xr_callS {n mc ms : Nat} {CP : xm_CP} {as rest : List Value} (h1 : mc ≤ bc) (h2 : ms ≤ bs) (hs : xm_sp n st [] = some (as, rest)) (hr : rest.length ≤ 4) (h : CP as m (fun r m' => K ls (r.toList ++ rest) m' (bc - mc) (bs - ms))) : xo_callS n mc ms CP K ls st m bc bs := by
  refine ⟨h1, h2, ?_⟩
  simp only [hs]
  exact ⟨hr, h⟩
theorem xr_jmp {ks : List Nat} (he : xm_keep ls ks = ls') (h : K ls' st m bc bs) : xo_jmp ks K ls st m bc bs := by
  subst he; exact h
theorem xr_iret {v : Int32} (h : Rh (some (.int v)) m) : xo_iret Rh ls [.int v] m bc bs := h
theorem xr_zret {v : Int32} (hv : v = 0 ∨ v = 1) (h : Rh (some (.int v)) m) : xo_zret Rh ls [.int v] m bc bs := ⟨hv, h⟩
theorem xr_lret {v : Int64} (h : Rh (some (.long v)) m) : xo_lret Rh ls [.long v] m bc bs := h
theorem xr_aret {v : Value} (hv : xm_ref v) (h : Rh (some v) m) : xo_aret Rh ls [v] m bc bs := ⟨hv, h⟩
theorem xr_vret (h : Rh none m) : xo_vret Rh ls [] m bc bs := h
end XR
