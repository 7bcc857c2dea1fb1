/-! each transformer is what the machine does -/
/-- what the machine's tables say that isn't among a method's words: links to nest mates, classes of arrays of references -/
def xm_N (U : State) : Prop := (∀ q ∈ xm_ns, va_Nw (.methodLinkNest q.1 q.2.1 q.2.2.1 q.2.2.2) U) ∧ ∀ C ∈ xm_os, va_AO C U
theorem xm_N.warm {s U : State} (h : xm_N s) (hW : s.WarmedH U.vm) : xm_N U := ⟨fun q hq => va_Nw.warmM hW (h.1 q hq), fun C hC => (h.2 C hC).moved hW.alike⟩
theorem xm_N.call {U : State} (h : xm_N U) (g : JFrame) (mk : MethodId) (a : Array Value) : xm_N (U.calling g mk a) := ⟨fun q hq => va_Nw.same rfl (rfl : U.vm = (U.calling g mk a).vm) (h.1 q hq), fun C hC => (h.2 C hC).moved (Vm.Alike.refl U.vm)⟩
def xm_C (p : Program) (s : State) (mm : MethodId) (args : Array Value) (c : Code) (cc : ByteArray) (nL : Nat) (own : String) (Ts : List Cond) (D : va_G) (cl : List vw_C) (ats : List FieldType) (A : Nat → Prop) : Prop :=
  CallFix p mm c cc nL s args Ts own ∧ va_K D cl (xm_ty D ats) s ∧ (∀ q, s.heap.size ≤ q → A q) ∧ xm_N s
def xm_A (p : Program) (l : Launch) (e : Env) (R : Room) (s : State) (mm : MethodId) (args : Array Value) (below : List Frame) (meth : Method) (c : Code) (nL : Nat) (D : va_G) (cl : List vw_C) (A : Nat → Prop) (Q : State → Prop) (pc : Nat) : xm_PT := fun ls st m bc bs =>
  ∀ (H : Heap) (locs : List Loc) (cells slots : Nat) (la : Array Slot), lv_has la nL ls → xm_W D cl m H → (∀ a, m a ≠ none → A a) → va_S A s.heap H locs → cells + bc ≤ R.cells → slots + bs ≤ R.slots → W p l e R s mm args below meth c H locs cells slots Q (F0 mm pc la st)
def xm_Q (D : va_G) (cl : List vw_C) (Rh : Option Value → xm_M → Prop) (A : Nat → Prop) : Array Value → State → Outcome → State → Prop := fun _ st oc t => (∃ (r : Option Value) (m' : xm_M), oc = .returned r ∧ Rh r m' ∧ xm_W D cl m' t.heap ∧ ∀ a, m' a ≠ none → A a) ∧ va_F A st t
def xm_Pre (D : va_G) (cl : List vw_C) (ats : List FieldType) (as : List Value) (m : xm_M) (sz : Nat) : Array Value → State → Prop := va_Pc as (fun U => U.heap.size = sz ∧ xm_W D cl m U.heap ∧ va_K D cl (xm_ty D ats) U ∧ xm_N U)
def xm_Met (l : Launch) (D : va_G) (cl : List vw_C) (ats : List FieldType) (y : MethodName) (ws : List Cond) (rm : Room) (mc ms : Nat) (CP : xm_CP) : Prop :=
  ∀ (as : List Value) (m : xm_M) (sz : Nat) (Rh : Option Value → xm_M → Prop), CP as m Rh → Met l y ws rm (xm_Pre D cl ats as m sz) (xm_Q D cl Rh (xm_As m sz)) mc ms (xm_As m sz)
theorem xm_blind {D : va_G} {cl : List vw_C} {ats : List FieldType} {as : List Value} {m : xm_M} {sz : Nat} : FrameBlind (xm_Pre D cl ats as m sz) := fun a U g mk q => by
  obtain ⟨q0, q1, qP, qK, qN⟩ := q
  exact ⟨q0, q1, qP, va_K.moved (u := U) (U := U.calling g mk a) (Vm.Alike.refl U.vm) qK, qN.call g mk a⟩
section XS
variable {p : Program} {l : Launch} {e : Env} {R : Room} {s : State} {mm : MethodId} {args : Array Value} {below : List Frame} {meth : Method} {c : Code} {cc : ByteArray} {nL : Nat} {own : String} {Ts : List Cond} {D : va_G} {cl : List vw_C} {ats : List FieldType} {A : Nat → Prop} {Q : State → Prop} {pc : Nat} {K Kt Kf : xm_PT}
theorem xs_iconst (C : xm_C p s mm args c cc nL own Ts D cl ats A) {n : Int} {v : Int32} (hd : decode cc pc = .ok (.iconst n, 1)) (hv : Int32.ofInt n = v) (hK : xm_le K (xm_A p l e R s mm args below meth c nL D cl A Q (pc + 1))) : xm_le (xo_push (.int v) K) (xm_A p l e R s mm args below meth c nL D cl A Q pc) := by
  intro ls st m bc bs h H locs cells slots la hl hW hin hS h1 h2
  exact lv_iconst C.1.1 C.1.2.1 hd hv (hK _ _ _ _ _ h H locs cells slots la hl hW hin hS h1 h2)
theorem xs_bipush (C : xm_C p s mm args c cc nL own Ts D cl ats A) {n : Int} {v : Int32} (hd : decode cc pc = .ok (.bipush n, 2)) (hv : (Int8.ofInt n).toInt32 = v) (hK : xm_le K (xm_A p l e R s mm args below meth c nL D cl A Q (pc + 2))) : xm_le (xo_push (.int v) K) (xm_A p l e R s mm args below meth c nL D cl A Q pc) := by
  intro ls st m bc bs h H locs cells slots la hl hW hin hS h1 h2
  exact lv_bipush C.1.1 C.1.2.1 hd hv (hK _ _ _ _ _ h H locs cells slots la hl hW hin hS h1 h2)
theorem xs_sipush (C : xm_C p s mm args c cc nL own Ts D cl ats A) {n : Int} {v : Int32} (hd : decode cc pc = .ok (.sipush n, 3)) (hv : (Int16.ofInt n).toInt32 = v) (hK : xm_le K (xm_A p l e R s mm args below meth c nL D cl A Q (pc + 3))) : xm_le (xo_push (.int v) K) (xm_A p l e R s mm args below meth c nL D cl A Q pc) := by
  intro ls st m bc bs h H locs cells slots la hl hW hin hS h1 h2
  exact lv_sipush C.1.1 C.1.2.1 hd hv (hK _ _ _ _ _ h H locs cells slots la hl hW hin hS h1 h2)
theorem xs_lconst (C : xm_C p s mm args c cc nL own Ts D cl ats A) {n : Fin 2} {v : Int64} (hd : decode cc pc = .ok (.lconst n, 1)) (hv : Int64.ofNat (n : Nat) = v) (hK : xm_le K (xm_A p l e R s mm args below meth c nL D cl A Q (pc + 1))) : xm_le (xo_push (.long v) K) (xm_A p l e R s mm args below meth c nL D cl A Q pc) := by
  intro ls st m bc bs h H locs cells slots la hl hW hin hS h1 h2
  exact lv_lconst C.1.1 C.1.2.1 hd hv (hK _ _ _ _ _ h H locs cells slots la hl hW hin hS h1 h2)
theorem xs_null (C : xm_C p s mm args c cc nL own Ts D cl ats A)  (hd : decode cc pc = .ok (.aconst_null, 1))  (hK : xm_le K (xm_A p l e R s mm args below meth c nL D cl A Q (pc + 1))) : xm_le (xo_push (.null) K) (xm_A p l e R s mm args below meth c nL D cl A Q pc) := by
  intro ls st m bc bs h H locs cells slots la hl hW hin hS h1 h2
  exact lv_null C.1.1 C.1.2.1 hd (hK _ _ _ _ _ h H locs cells slots la hl hW hin hS h1 h2)
theorem xs_ldc (C : xm_C p s mm args c cc nL own Ts D cl ats A) {index : Nat} {v : Int32} (hd : decode cc pc = .ok (.ldc index, 2)) (hc : Jvm.Cond.constant own index v ∈ Ts) (hK : xm_le K (xm_A p l e R s mm args below meth c nL D cl A Q (pc + 2))) : xm_le (xo_push (.int v) K) (xm_A p l e R s mm args below meth c nL D cl A Q pc) := by
  intro ls st m bc bs h H locs cells slots la hl hW hin hS h1 h2
  exact lv_ldc C.1.1 C.1.2.1 C.1.2.2.2.1 (C.1.2.2.2.2 _ hc) hd (hK _ _ _ _ _ h H locs cells slots la hl hW hin hS h1 h2)
theorem xs_ldc2 (C : xm_C p s mm args c cc nL own Ts D cl ats A) {index : Nat} {v : Int64} (hd : decode cc pc = .ok (.ldc2_w index, 3)) (hc : Jvm.Cond.constantLong own index v ∈ Ts) (hK : xm_le K (xm_A p l e R s mm args below meth c nL D cl A Q (pc + 3))) : xm_le (xo_push (.long v) K) (xm_A p l e R s mm args below meth c nL D cl A Q pc) := by
  intro ls st m bc bs h H locs cells slots la hl hW hin hS h1 h2
  exact lv_ldc2 C.1.1 C.1.2.1 C.1.2.2.2.1 (C.1.2.2.2.2 _ hc) hd (hK _ _ _ _ _ h H locs cells slots la hl hW hin hS h1 h2)
theorem xs_ldcw (C : xm_C p s mm args c cc nL own Ts D cl ats A) {index : Nat} {v : Int32} (hd : decode cc pc = .ok (.ldc_w index, 3)) (hc : Jvm.Cond.constant own index v ∈ Ts) (hK : xm_le K (xm_A p l e R s mm args below meth c nL D cl A Q (pc + 3))) : xm_le (xo_push (.int v) K) (xm_A p l e R s mm args below meth c nL D cl A Q pc) := by
  intro ls st m bc bs h H locs cells slots la hl hW hin hS h1 h2
  exact lv_ldcw C.1.1 C.1.2.1 C.1.2.2.2.1 (C.1.2.2.2.2 _ hc) hd (hK _ _ _ _ _ h H locs cells slots la hl hW hin hS h1 h2)
theorem xs_iload_n (C : xm_C p s mm args c cc nL own Ts D cl ats A) {k : Fin 4} {i : Nat} (hd : decode cc pc = .ok (.iload_n k, 1)) (hi : (k : Nat) = i) (hK : xm_le K (xm_A p l e R s mm args below meth c nL D cl A Q (pc + 1))) : xm_le (xo_iload i K) (xm_A p l e R s mm args below meth c nL D cl A Q pc) := by
  intro ls st m bc bs h H locs cells slots la hl hW hin hS h1 h2
  simp only [xo_iload] at h
  split at h
  · rename_i v hv
    exact lv_iload_n C.1.1 C.1.2.1 hd hi (xm_has_lk hl hv) (hK _ _ _ _ _ h H locs cells slots la hl hW hin hS h1 h2)
  · exact h.elim
theorem xs_iload (C : xm_C p s mm args c cc nL own Ts D cl ats A) {i : Nat} (hd : decode cc pc = .ok (.iload i, 2)) (hK : xm_le K (xm_A p l e R s mm args below meth c nL D cl A Q (pc + 2))) : xm_le (xo_iload i K) (xm_A p l e R s mm args below meth c nL D cl A Q pc) := by
  intro ls st m bc bs h H locs cells slots la hl hW hin hS h1 h2
  simp only [xo_iload] at h
  split at h
  · rename_i v hv
    exact lv_iload C.1.1 C.1.2.1 hd (xm_has_lk hl hv) (hK _ _ _ _ _ h H locs cells slots la hl hW hin hS h1 h2)
  · exact h.elim
theorem xs_lload_n (C : xm_C p s mm args c cc nL own Ts D cl ats A) {k : Fin 4} {i : Nat} (hd : decode cc pc = .ok (.lload_n k, 1)) (hi : (k : Nat) = i) (hK : xm_le K (xm_A p l e R s mm args below meth c nL D cl A Q (pc + 1))) : xm_le (xo_lload i K) (xm_A p l e R s mm args below meth c nL D cl A Q pc) := by
  intro ls st m bc bs h H locs cells slots la hl hW hin hS h1 h2
  simp only [xo_lload] at h
  split at h
  · rename_i v hv
    exact lv_lload_n C.1.1 C.1.2.1 hd hi (xm_has_lk hl hv) (hK _ _ _ _ _ h H locs cells slots la hl hW hin hS h1 h2)
  · exact h.elim
theorem xs_lload (C : xm_C p s mm args c cc nL own Ts D cl ats A) {i : Nat} (hd : decode cc pc = .ok (.lload i, 2)) (hK : xm_le K (xm_A p l e R s mm args below meth c nL D cl A Q (pc + 2))) : xm_le (xo_lload i K) (xm_A p l e R s mm args below meth c nL D cl A Q pc) := by
  intro ls st m bc bs h H locs cells slots la hl hW hin hS h1 h2
  simp only [xo_lload] at h
  split at h
  · rename_i v hv
    exact lv_lload C.1.1 C.1.2.1 hd (xm_has_lk hl hv) (hK _ _ _ _ _ h H locs cells slots la hl hW hin hS h1 h2)
  · exact h.elim
theorem xs_aload_n (C : xm_C p s mm args c cc nL own Ts D cl ats A) {k : Fin 4} {i : Nat} (hd : decode cc pc = .ok (.aload_n k, 1)) (hi : (k : Nat) = i) (hK : xm_le K (xm_A p l e R s mm args below meth c nL D cl A Q (pc + 1))) : xm_le (xo_aload i K) (xm_A p l e R s mm args below meth c nL D cl A Q pc) := by
  intro ls st m bc bs h H locs cells slots la hl hW hin hS h1 h2
  simp only [xo_aload] at h
  split at h
  · rename_i v hv
    obtain ⟨hr, h⟩ := h
    rcases hr with rfl | ⟨a, rfl⟩
    · exact lv_aload_nN C.1.1 C.1.2.1 hd hi (xm_has_lk hl hv) (hK _ _ _ _ _ h H locs cells slots la hl hW hin hS h1 h2)
    · exact lv_aload_n C.1.1 C.1.2.1 hd hi (xm_has_lk hl hv) (hK _ _ _ _ _ h H locs cells slots la hl hW hin hS h1 h2)
  · exact h.elim
theorem xs_aload (C : xm_C p s mm args c cc nL own Ts D cl ats A) {i : Nat} (hd : decode cc pc = .ok (.aload i, 2)) (hK : xm_le K (xm_A p l e R s mm args below meth c nL D cl A Q (pc + 2))) : xm_le (xo_aload i K) (xm_A p l e R s mm args below meth c nL D cl A Q pc) := by
  intro ls st m bc bs h H locs cells slots la hl hW hin hS h1 h2
  simp only [xo_aload] at h
  split at h
  · rename_i v hv
    obtain ⟨hr, h⟩ := h
    rcases hr with rfl | ⟨a, rfl⟩
    · exact lv_aloadN C.1.1 C.1.2.1 hd (xm_has_lk hl hv) (hK _ _ _ _ _ h H locs cells slots la hl hW hin hS h1 h2)
    · exact lv_aload C.1.1 C.1.2.1 hd (xm_has_lk hl hv) (hK _ _ _ _ _ h H locs cells slots la hl hW hin hS h1 h2)
  · exact h.elim
theorem xs_istore_n (C : xm_C p s mm args c cc nL own Ts D cl ats A) {k : Fin 4} {i : Nat} (hd : decode cc pc = .ok (.istore_n k, 1)) (hi : (k : Nat) = i) (hn : i < nL) (hK : xm_le K (xm_A p l e R s mm args below meth c nL D cl A Q (pc + 1))) : xm_le (xo_istore i K) (xm_A p l e R s mm args below meth c nL D cl A Q pc) := by
  intro ls st m bc bs h H locs cells slots la hl hW hin hS h1 h2
  simp only [xo_istore] at h
  split at h
  · exact lv_istore_n C.1.1 C.1.2.1 hd hi hl hn rfl (fun la' hl' => hK _ _ _ _ _ h H locs cells slots la' (xm_has_sto hl') hW hin hS h1 h2)
  · exact h.elim
theorem xs_istore (C : xm_C p s mm args c cc nL own Ts D cl ats A) {i : Nat} (hd : decode cc pc = .ok (.istore i, 2)) (hn : i < nL) (hK : xm_le K (xm_A p l e R s mm args below meth c nL D cl A Q (pc + 2))) : xm_le (xo_istore i K) (xm_A p l e R s mm args below meth c nL D cl A Q pc) := by
  intro ls st m bc bs h H locs cells slots la hl hW hin hS h1 h2
  simp only [xo_istore] at h
  split at h
  · exact lv_istore C.1.1 C.1.2.1 hd hl hn rfl (fun la' hl' => hK _ _ _ _ _ h H locs cells slots la' (xm_has_sto hl') hW hin hS h1 h2)
  · exact h.elim
theorem xs_astore_n (C : xm_C p s mm args c cc nL own Ts D cl ats A) {k : Fin 4} {i : Nat} (hd : decode cc pc = .ok (.astore_n k, 1)) (hi : (k : Nat) = i) (hn : i < nL) (hK : xm_le K (xm_A p l e R s mm args below meth c nL D cl A Q (pc + 1))) : xm_le (xo_astore i K) (xm_A p l e R s mm args below meth c nL D cl A Q pc) := by
  intro ls st m bc bs h H locs cells slots la hl hW hin hS h1 h2
  simp only [xo_astore] at h
  split at h
  · obtain ⟨hr, h⟩ := h
    rcases hr with rfl | ⟨a, rfl⟩
    · exact lv_astore_nN C.1.1 C.1.2.1 hd hi hl hn rfl (fun la' hl' => hK _ _ _ _ _ h H locs cells slots la' (xm_has_sto hl') hW hin hS h1 h2)
    · exact lv_astore_n C.1.1 C.1.2.1 hd hi hl hn rfl (fun la' hl' => hK _ _ _ _ _ h H locs cells slots la' (xm_has_sto hl') hW hin hS h1 h2)
  · exact h.elim
theorem xs_astore (C : xm_C p s mm args c cc nL own Ts D cl ats A) {i : Nat} (hd : decode cc pc = .ok (.astore i, 2)) (hn : i < nL) (hK : xm_le K (xm_A p l e R s mm args below meth c nL D cl A Q (pc + 2))) : xm_le (xo_astore i K) (xm_A p l e R s mm args below meth c nL D cl A Q pc) := by
  intro ls st m bc bs h H locs cells slots la hl hW hin hS h1 h2
  simp only [xo_astore] at h
  split at h
  · obtain ⟨hr, h⟩ := h
    rcases hr with rfl | ⟨a, rfl⟩
    · exact lv_astoreN C.1.1 C.1.2.1 hd hl hn rfl (fun la' hl' => hK _ _ _ _ _ h H locs cells slots la' (xm_has_sto hl') hW hin hS h1 h2)
    · exact lv_astore C.1.1 C.1.2.1 hd hl hn rfl (fun la' hl' => hK _ _ _ _ _ h H locs cells slots la' (xm_has_sto hl') hW hin hS h1 h2)
  · exact h.elim
theorem xs_iinc (C : xm_C p s mm args c cc nL own Ts D cl ats A) {i : Nat} {n : Int} {v : Int32} (hd : decode cc pc = .ok (.iinc i n, 3)) (hv : Int32.ofInt n = v) (hn : i < nL) (hK : xm_le K (xm_A p l e R s mm args below meth c nL D cl A Q (pc + 3))) : xm_le (xo_iinc i v K) (xm_A p l e R s mm args below meth c nL D cl A Q pc) := by
  intro ls st m bc bs h H locs cells slots la hl hW hin hS h1 h2
  simp only [xo_iinc] at h
  split at h
  · rename_i x hx
    subst hv
    obtain ⟨k, hk⟩ := List.getElem?_of_mem (xm_lk_mem hx)
    exact lv_iinc C.1.1 C.1.2.1 hd hl hk rfl hn rfl (fun la' hl' => hK _ _ _ _ _ h H locs cells slots la' (xm_has_sto hl') hW hin hS h1 h2)
  · exact h.elim
theorem xs_iadd (C : xm_C p s mm args c cc nL own Ts D cl ats A) (hd : decode cc pc = .ok (.iadd, 1)) (hK : xm_le K (xm_A p l e R s mm args below meth c nL D cl A Q (pc + 1))) : xm_le (xo_ibin (fun x y => x + y) K) (xm_A p l e R s mm args below meth c nL D cl A Q pc) := by
  intro ls st m bc bs h H locs cells slots la hl hW hin hS h1 h2
  simp only [xo_ibin] at h
  split at h
  · exact lv_iadd C.1.1 C.1.2.1 hd (hK _ _ _ _ _ h H locs cells slots la hl hW hin hS h1 h2)
  · exact h.elim
theorem xs_isub (C : xm_C p s mm args c cc nL own Ts D cl ats A) (hd : decode cc pc = .ok (.isub, 1)) (hK : xm_le K (xm_A p l e R s mm args below meth c nL D cl A Q (pc + 1))) : xm_le (xo_ibin (fun x y => x - y) K) (xm_A p l e R s mm args below meth c nL D cl A Q pc) := by
  intro ls st m bc bs h H locs cells slots la hl hW hin hS h1 h2
  simp only [xo_ibin] at h
  split at h
  · exact lv_isub C.1.1 C.1.2.1 hd (hK _ _ _ _ _ h H locs cells slots la hl hW hin hS h1 h2)
  · exact h.elim
theorem xs_imul (C : xm_C p s mm args c cc nL own Ts D cl ats A) (hd : decode cc pc = .ok (.imul, 1)) (hK : xm_le K (xm_A p l e R s mm args below meth c nL D cl A Q (pc + 1))) : xm_le (xo_ibin (fun x y => x * y) K) (xm_A p l e R s mm args below meth c nL D cl A Q pc) := by
  intro ls st m bc bs h H locs cells slots la hl hW hin hS h1 h2
  simp only [xo_ibin] at h
  split at h
  · exact lv_imul C.1.1 C.1.2.1 hd (hK _ _ _ _ _ h H locs cells slots la hl hW hin hS h1 h2)
  · exact h.elim
theorem xs_iand (C : xm_C p s mm args c cc nL own Ts D cl ats A) (hd : decode cc pc = .ok (.iand, 1)) (hK : xm_le K (xm_A p l e R s mm args below meth c nL D cl A Q (pc + 1))) : xm_le (xo_ibin (fun x y => x &&& y) K) (xm_A p l e R s mm args below meth c nL D cl A Q pc) := by
  intro ls st m bc bs h H locs cells slots la hl hW hin hS h1 h2
  simp only [xo_ibin] at h
  split at h
  · exact lv_iand C.1.1 C.1.2.1 hd (hK _ _ _ _ _ h H locs cells slots la hl hW hin hS h1 h2)
  · exact h.elim
theorem xs_ior (C : xm_C p s mm args c cc nL own Ts D cl ats A) (hd : decode cc pc = .ok (.ior, 1)) (hK : xm_le K (xm_A p l e R s mm args below meth c nL D cl A Q (pc + 1))) : xm_le (xo_ibin (fun x y => x ||| y) K) (xm_A p l e R s mm args below meth c nL D cl A Q pc) := by
  intro ls st m bc bs h H locs cells slots la hl hW hin hS h1 h2
  simp only [xo_ibin] at h
  split at h
  · exact lv_ior C.1.1 C.1.2.1 hd (hK _ _ _ _ _ h H locs cells slots la hl hW hin hS h1 h2)
  · exact h.elim
theorem xs_ixor (C : xm_C p s mm args c cc nL own Ts D cl ats A) (hd : decode cc pc = .ok (.ixor, 1)) (hK : xm_le K (xm_A p l e R s mm args below meth c nL D cl A Q (pc + 1))) : xm_le (xo_ibin (fun x y => x ^^^ y) K) (xm_A p l e R s mm args below meth c nL D cl A Q pc) := by
  intro ls st m bc bs h H locs cells slots la hl hW hin hS h1 h2
  simp only [xo_ibin] at h
  split at h
  · exact lv_ixor C.1.1 C.1.2.1 hd (hK _ _ _ _ _ h H locs cells slots la hl hW hin hS h1 h2)
  · exact h.elim
theorem xs_ishl (C : xm_C p s mm args c cc nL own Ts D cl ats A) (hd : decode cc pc = .ok (.ishl, 1)) (hK : xm_le K (xm_A p l e R s mm args below meth c nL D cl A Q (pc + 1))) : xm_le (xo_ibin (fun x y => x <<< (y &&& 31)) K) (xm_A p l e R s mm args below meth c nL D cl A Q pc) := by
  intro ls st m bc bs h H locs cells slots la hl hW hin hS h1 h2
  simp only [xo_ibin] at h
  split at h
  · exact lv_ishl C.1.1 C.1.2.1 hd (hK _ _ _ _ _ h H locs cells slots la hl hW hin hS h1 h2)
  · exact h.elim
theorem xs_ishr (C : xm_C p s mm args c cc nL own Ts D cl ats A) (hd : decode cc pc = .ok (.ishr, 1)) (hK : xm_le K (xm_A p l e R s mm args below meth c nL D cl A Q (pc + 1))) : xm_le (xo_ibin (fun x y => x >>> (y &&& 31)) K) (xm_A p l e R s mm args below meth c nL D cl A Q pc) := by
  intro ls st m bc bs h H locs cells slots la hl hW hin hS h1 h2
  simp only [xo_ibin] at h
  split at h
  · exact lv_ishr C.1.1 C.1.2.1 hd (hK _ _ _ _ _ h H locs cells slots la hl hW hin hS h1 h2)
  · exact h.elim
theorem xs_iushr (C : xm_C p s mm args c cc nL own Ts D cl ats A) (hd : decode cc pc = .ok (.iushr, 1)) (hK : xm_le K (xm_A p l e R s mm args below meth c nL D cl A Q (pc + 1))) : xm_le (xo_ibin (fun x y => (x.toUInt32 >>> (y.toUInt32 &&& Int32.toUInt32 31)).toInt32) K) (xm_A p l e R s mm args below meth c nL D cl A Q pc) := by
  intro ls st m bc bs h H locs cells slots la hl hW hin hS h1 h2
  simp only [xo_ibin] at h
  split at h
  · exact lv_iushr C.1.1 C.1.2.1 hd rfl (hK _ _ _ _ _ h H locs cells slots la hl hW hin hS h1 h2)
  · exact h.elim
theorem xs_ineg (C : xm_C p s mm args c cc nL own Ts D cl ats A) (hd : decode cc pc = .ok (.ineg, 1)) (hK : xm_le K (xm_A p l e R s mm args below meth c nL D cl A Q (pc + 1))) : xm_le (xo_iun (fun x => -x) K) (xm_A p l e R s mm args below meth c nL D cl A Q pc) := by
  intro ls st m bc bs h H locs cells slots la hl hW hin hS h1 h2
  simp only [xo_iun] at h
  split at h
  · exact lv_ineg C.1.1 C.1.2.1 hd (hK _ _ _ _ _ h H locs cells slots la hl hW hin hS h1 h2)
  · exact h.elim
theorem xs_i2l (C : xm_C p s mm args c cc nL own Ts D cl ats A) (hd : decode cc pc = .ok (.i2l, 1)) (hK : xm_le K (xm_A p l e R s mm args below meth c nL D cl A Q (pc + 1))) : xm_le (xo_i2l K) (xm_A p l e R s mm args below meth c nL D cl A Q pc) := by
  intro ls st m bc bs h H locs cells slots la hl hW hin hS h1 h2
  simp only [xo_i2l] at h
  split at h
  · exact lv_i2l C.1.1 C.1.2.1 hd rfl (hK _ _ _ _ _ h H locs cells slots la hl hW hin hS h1 h2)
  · exact h.elim
theorem xs_l2i (C : xm_C p s mm args c cc nL own Ts D cl ats A) (hd : decode cc pc = .ok (.l2i, 1)) (hK : xm_le K (xm_A p l e R s mm args below meth c nL D cl A Q (pc + 1))) : xm_le (xo_l2i K) (xm_A p l e R s mm args below meth c nL D cl A Q pc) := by
  intro ls st m bc bs h H locs cells slots la hl hW hin hS h1 h2
  simp only [xo_l2i] at h
  split at h
  · exact lv_l2i C.1.1 C.1.2.1 hd rfl (hK _ _ _ _ _ h H locs cells slots la hl hW hin hS h1 h2)
  · exact h.elim
theorem xs_lcmp (C : xm_C p s mm args c cc nL own Ts D cl ats A) (hd : decode cc pc = .ok (.lcmp, 1)) (hK : xm_le K (xm_A p l e R s mm args below meth c nL D cl A Q (pc + 1))) : xm_le (xo_lcmp K) (xm_A p l e R s mm args below meth c nL D cl A Q pc) := by
  intro ls st m bc bs h H locs cells slots la hl hW hin hS h1 h2
  simp only [xo_lcmp] at h
  split at h
  · exact W.lcmp C.1.1 C.1.2.1 hd (hK _ _ _ _ _ h H locs cells slots la hl hW hin hS h1 h2)
  · exact h.elim
theorem xs_dup (C : xm_C p s mm args c cc nL own Ts D cl ats A) (hd : decode cc pc = .ok (.dup, 1)) (hK : xm_le K (xm_A p l e R s mm args below meth c nL D cl A Q (pc + 1))) : xm_le (xo_dup K) (xm_A p l e R s mm args below meth c nL D cl A Q pc) := by
  intro ls st m bc bs h H locs cells slots la hl hW hin hS h1 h2
  simp only [xo_dup] at h
  split at h
  · obtain ⟨hv, h⟩ := h
    exact lv_dup C.1.1 C.1.2.1 hd hv (hK _ _ _ _ _ h H locs cells slots la hl hW hin hS h1 h2)
  · exact h.elim
theorem xs_pop (C : xm_C p s mm args c cc nL own Ts D cl ats A) (hd : decode cc pc = .ok (.pop, 1)) (hK : xm_le K (xm_A p l e R s mm args below meth c nL D cl A Q (pc + 1))) : xm_le (xo_pop K) (xm_A p l e R s mm args below meth c nL D cl A Q pc) := by
  intro ls st m bc bs h H locs cells slots la hl hW hin hS h1 h2
  simp only [xo_pop] at h
  split at h
  · obtain ⟨hv, h⟩ := h
    exact lv_pop C.1.1 C.1.2.1 hd hv (hK _ _ _ _ _ h H locs cells slots la hl hW hin hS h1 h2)
  · exact h.elim
theorem xs_dup_x1 (C : xm_C p s mm args c cc nL own Ts D cl ats A) (hd : decode cc pc = .ok (.dup_x1, 1)) (hK : xm_le K (xm_A p l e R s mm args below meth c nL D cl A Q (pc + 1))) : xm_le (xo_dup_x1 K) (xm_A p l e R s mm args below meth c nL D cl A Q pc) := by
  intro ls st m bc bs h H locs cells slots la hl hW hin hS h1 h2
  simp only [xo_dup_x1] at h
  split at h
  · obtain ⟨hv, hw, h⟩ := h
    exact lv_dup_x1 C.1.1 C.1.2.1 hd hv hw (hK _ _ _ _ _ h H locs cells slots la hl hW hin hS h1 h2)
  · exact h.elim
theorem xs_dup2 (C : xm_C p s mm args c cc nL own Ts D cl ats A) (hd : decode cc pc = .ok (.dup2, 1)) (hK : xm_le K (xm_A p l e R s mm args below meth c nL D cl A Q (pc + 1))) : xm_le (xo_dup2 K) (xm_A p l e R s mm args below meth c nL D cl A Q pc) := by
  intro ls st m bc bs h H locs cells slots la hl hW hin hS h1 h2
  simp only [xo_dup2] at h
  split at h
  · obtain ⟨hv, hw, h⟩ := h
    exact lv_dup2_11 C.1.1 C.1.2.1 hd hv hw (hK _ _ _ _ _ h H locs cells slots la hl hW hin hS h1 h2)
  · exact h.elim
theorem xs_if_eq (C : xm_C p s mm args c cc nL own Ts D cl ats A) {off : Int} {tgt : Nat} (hd : decode cc pc = .ok (.ifCond .eq off, 3)) (ht : (pc : Int) + off = (tgt : Int)) (hT : xm_le Kt (xm_A p l e R s mm args below meth c nL D cl A Q tgt)) (hF : xm_le Kf (xm_A p l e R s mm args below meth c nL D cl A Q (pc + 3))) : xm_le (xo_if (fun x => x = 0) Kt Kf) (xm_A p l e R s mm args below meth c nL D cl A Q pc) := by
  intro ls st m bc bs h H locs cells slots la hl hW hin hS h1 h2
  simp only [xo_if] at h
  split at h
  · exact lv_if_eq C.1.1 C.1.2.1 hd ht (fun q => hT _ _ _ _ _ (h.1 q) H locs cells slots la hl hW hin hS h1 h2) (fun q => hF _ _ _ _ _ (h.2 q) H locs cells slots la hl hW hin hS h1 h2)
  · exact h.elim
theorem xs_if_lt (C : xm_C p s mm args c cc nL own Ts D cl ats A) {off : Int} {tgt : Nat} (hd : decode cc pc = .ok (.ifCond .lt off, 3)) (ht : (pc : Int) + off = (tgt : Int)) (hT : xm_le Kt (xm_A p l e R s mm args below meth c nL D cl A Q tgt)) (hF : xm_le Kf (xm_A p l e R s mm args below meth c nL D cl A Q (pc + 3))) : xm_le (xo_if (fun x => x < 0) Kt Kf) (xm_A p l e R s mm args below meth c nL D cl A Q pc) := by
  intro ls st m bc bs h H locs cells slots la hl hW hin hS h1 h2
  simp only [xo_if] at h
  split at h
  · exact lv_if_lt C.1.1 C.1.2.1 hd ht (fun q => hT _ _ _ _ _ (h.1 q) H locs cells slots la hl hW hin hS h1 h2) (fun q => hF _ _ _ _ _ (h.2 q) H locs cells slots la hl hW hin hS h1 h2)
  · exact h.elim
theorem xs_if_ge (C : xm_C p s mm args c cc nL own Ts D cl ats A) {off : Int} {tgt : Nat} (hd : decode cc pc = .ok (.ifCond .ge off, 3)) (ht : (pc : Int) + off = (tgt : Int)) (hT : xm_le Kt (xm_A p l e R s mm args below meth c nL D cl A Q tgt)) (hF : xm_le Kf (xm_A p l e R s mm args below meth c nL D cl A Q (pc + 3))) : xm_le (xo_if (fun x => 0 ≤ x) Kt Kf) (xm_A p l e R s mm args below meth c nL D cl A Q pc) := by
  intro ls st m bc bs h H locs cells slots la hl hW hin hS h1 h2
  simp only [xo_if] at h
  split at h
  · exact lv_if_ge C.1.1 C.1.2.1 hd ht (fun q => hT _ _ _ _ _ (h.1 q) H locs cells slots la hl hW hin hS h1 h2) (fun q => hF _ _ _ _ _ (h.2 q) H locs cells slots la hl hW hin hS h1 h2)
  · exact h.elim
theorem xs_if_gt (C : xm_C p s mm args c cc nL own Ts D cl ats A) {off : Int} {tgt : Nat} (hd : decode cc pc = .ok (.ifCond .gt off, 3)) (ht : (pc : Int) + off = (tgt : Int)) (hT : xm_le Kt (xm_A p l e R s mm args below meth c nL D cl A Q tgt)) (hF : xm_le Kf (xm_A p l e R s mm args below meth c nL D cl A Q (pc + 3))) : xm_le (xo_if (fun x => 0 < x) Kt Kf) (xm_A p l e R s mm args below meth c nL D cl A Q pc) := by
  intro ls st m bc bs h H locs cells slots la hl hW hin hS h1 h2
  simp only [xo_if] at h
  split at h
  · exact lv_if_gt C.1.1 C.1.2.1 hd ht (fun q => hT _ _ _ _ _ (h.1 q) H locs cells slots la hl hW hin hS h1 h2) (fun q => hF _ _ _ _ _ (h.2 q) H locs cells slots la hl hW hin hS h1 h2)
  · exact h.elim
theorem xs_if_le (C : xm_C p s mm args c cc nL own Ts D cl ats A) {off : Int} {tgt : Nat} (hd : decode cc pc = .ok (.ifCond .le off, 3)) (ht : (pc : Int) + off = (tgt : Int)) (hT : xm_le Kt (xm_A p l e R s mm args below meth c nL D cl A Q tgt)) (hF : xm_le Kf (xm_A p l e R s mm args below meth c nL D cl A Q (pc + 3))) : xm_le (xo_if (fun x => x ≤ 0) Kt Kf) (xm_A p l e R s mm args below meth c nL D cl A Q pc) := by
  intro ls st m bc bs h H locs cells slots la hl hW hin hS h1 h2
  simp only [xo_if] at h
  split at h
  · exact lv_if_le C.1.1 C.1.2.1 hd ht (fun q => hT _ _ _ _ _ (h.1 q) H locs cells slots la hl hW hin hS h1 h2) (fun q => hF _ _ _ _ _ (h.2 q) H locs cells slots la hl hW hin hS h1 h2)
  · exact h.elim
theorem xs_icmp_eq (C : xm_C p s mm args c cc nL own Ts D cl ats A) {off : Int} {tgt : Nat} (hd : decode cc pc = .ok (.if_icmp .eq off, 3)) (ht : (pc : Int) + off = (tgt : Int)) (hT : xm_le Kt (xm_A p l e R s mm args below meth c nL D cl A Q tgt)) (hF : xm_le Kf (xm_A p l e R s mm args below meth c nL D cl A Q (pc + 3))) : xm_le (xo_icmp (fun x y => x = y) Kt Kf) (xm_A p l e R s mm args below meth c nL D cl A Q pc) := by
  intro ls st m bc bs h H locs cells slots la hl hW hin hS h1 h2
  simp only [xo_icmp] at h
  split at h
  · exact lv_icmp_eq C.1.1 C.1.2.1 hd ht (fun q => hT _ _ _ _ _ (h.1 q) H locs cells slots la hl hW hin hS h1 h2) (fun q => hF _ _ _ _ _ (h.2 q) H locs cells slots la hl hW hin hS h1 h2)
  · exact h.elim
theorem xs_icmp_lt (C : xm_C p s mm args c cc nL own Ts D cl ats A) {off : Int} {tgt : Nat} (hd : decode cc pc = .ok (.if_icmp .lt off, 3)) (ht : (pc : Int) + off = (tgt : Int)) (hT : xm_le Kt (xm_A p l e R s mm args below meth c nL D cl A Q tgt)) (hF : xm_le Kf (xm_A p l e R s mm args below meth c nL D cl A Q (pc + 3))) : xm_le (xo_icmp (fun x y => x < y) Kt Kf) (xm_A p l e R s mm args below meth c nL D cl A Q pc) := by
  intro ls st m bc bs h H locs cells slots la hl hW hin hS h1 h2
  simp only [xo_icmp] at h
  split at h
  · exact lv_icmp_lt C.1.1 C.1.2.1 hd ht (fun q => hT _ _ _ _ _ (h.1 q) H locs cells slots la hl hW hin hS h1 h2) (fun q => hF _ _ _ _ _ (h.2 q) H locs cells slots la hl hW hin hS h1 h2)
  · exact h.elim
theorem xs_icmp_ge (C : xm_C p s mm args c cc nL own Ts D cl ats A) {off : Int} {tgt : Nat} (hd : decode cc pc = .ok (.if_icmp .ge off, 3)) (ht : (pc : Int) + off = (tgt : Int)) (hT : xm_le Kt (xm_A p l e R s mm args below meth c nL D cl A Q tgt)) (hF : xm_le Kf (xm_A p l e R s mm args below meth c nL D cl A Q (pc + 3))) : xm_le (xo_icmp (fun x y => y ≤ x) Kt Kf) (xm_A p l e R s mm args below meth c nL D cl A Q pc) := by
  intro ls st m bc bs h H locs cells slots la hl hW hin hS h1 h2
  simp only [xo_icmp] at h
  split at h
  · exact lv_icmp_ge C.1.1 C.1.2.1 hd ht (fun q => hT _ _ _ _ _ (h.1 q) H locs cells slots la hl hW hin hS h1 h2) (fun q => hF _ _ _ _ _ (h.2 q) H locs cells slots la hl hW hin hS h1 h2)
  · exact h.elim
theorem xs_icmp_gt (C : xm_C p s mm args c cc nL own Ts D cl ats A) {off : Int} {tgt : Nat} (hd : decode cc pc = .ok (.if_icmp .gt off, 3)) (ht : (pc : Int) + off = (tgt : Int)) (hT : xm_le Kt (xm_A p l e R s mm args below meth c nL D cl A Q tgt)) (hF : xm_le Kf (xm_A p l e R s mm args below meth c nL D cl A Q (pc + 3))) : xm_le (xo_icmp (fun x y => y < x) Kt Kf) (xm_A p l e R s mm args below meth c nL D cl A Q pc) := by
  intro ls st m bc bs h H locs cells slots la hl hW hin hS h1 h2
  simp only [xo_icmp] at h
  split at h
  · exact lv_icmp_gt C.1.1 C.1.2.1 hd ht (fun q => hT _ _ _ _ _ (h.1 q) H locs cells slots la hl hW hin hS h1 h2) (fun q => hF _ _ _ _ _ (h.2 q) H locs cells slots la hl hW hin hS h1 h2)
  · exact h.elim
theorem xs_icmp_le (C : xm_C p s mm args c cc nL own Ts D cl ats A) {off : Int} {tgt : Nat} (hd : decode cc pc = .ok (.if_icmp .le off, 3)) (ht : (pc : Int) + off = (tgt : Int)) (hT : xm_le Kt (xm_A p l e R s mm args below meth c nL D cl A Q tgt)) (hF : xm_le Kf (xm_A p l e R s mm args below meth c nL D cl A Q (pc + 3))) : xm_le (xo_icmp (fun x y => x ≤ y) Kt Kf) (xm_A p l e R s mm args below meth c nL D cl A Q pc) := by
  intro ls st m bc bs h H locs cells slots la hl hW hin hS h1 h2
  simp only [xo_icmp] at h
  split at h
  · exact lv_icmp_le C.1.1 C.1.2.1 hd ht (fun q => hT _ _ _ _ _ (h.1 q) H locs cells slots la hl hW hin hS h1 h2) (fun q => hF _ _ _ _ _ (h.2 q) H locs cells slots la hl hW hin hS h1 h2)
  · exact h.elim
theorem xs_if_ne (C : xm_C p s mm args c cc nL own Ts D cl ats A) {off : Int} {tgt : Nat} (hd : decode cc pc = .ok (.ifCond .ne off, 3)) (ht : (pc : Int) + off = (tgt : Int)) (hT : xm_le Kt (xm_A p l e R s mm args below meth c nL D cl A Q (pc + 3))) (hF : xm_le Kf (xm_A p l e R s mm args below meth c nL D cl A Q tgt)) : xm_le (xo_if (fun x => x = 0) Kt Kf) (xm_A p l e R s mm args below meth c nL D cl A Q pc) := by
  intro ls st m bc bs h H locs cells slots la hl hW hin hS h1 h2
  simp only [xo_if] at h
  split at h
  · exact lv_if_ne C.1.1 C.1.2.1 hd ht (fun q => hF _ _ _ _ _ (h.2 q) H locs cells slots la hl hW hin hS h1 h2) (fun q => hT _ _ _ _ _ (h.1 q) H locs cells slots la hl hW hin hS h1 h2)
  · exact h.elim
theorem xs_icmp_ne (C : xm_C p s mm args c cc nL own Ts D cl ats A) {off : Int} {tgt : Nat} (hd : decode cc pc = .ok (.if_icmp .ne off, 3)) (ht : (pc : Int) + off = (tgt : Int)) (hT : xm_le Kt (xm_A p l e R s mm args below meth c nL D cl A Q (pc + 3))) (hF : xm_le Kf (xm_A p l e R s mm args below meth c nL D cl A Q tgt)) : xm_le (xo_icmp (fun x y => x = y) Kt Kf) (xm_A p l e R s mm args below meth c nL D cl A Q pc) := by
  intro ls st m bc bs h H locs cells slots la hl hW hin hS h1 h2
  simp only [xo_icmp] at h
  split at h
  · exact lv_icmp_ne C.1.1 C.1.2.1 hd ht (fun q => hF _ _ _ _ _ (h.2 q) H locs cells slots la hl hW hin hS h1 h2) (fun q => hT _ _ _ _ _ (h.1 q) H locs cells slots la hl hW hin hS h1 h2)
  · exact h.elim
theorem xs_ifnull (C : xm_C p s mm args c cc nL own Ts D cl ats A) {off : Int} {tgt : Nat} (hd : decode cc pc = .ok (.ifnull off, 3)) (ht : (pc : Int) + off = (tgt : Int)) (hT : xm_le Kt (xm_A p l e R s mm args below meth c nL D cl A Q tgt)) (hF : xm_le Kf (xm_A p l e R s mm args below meth c nL D cl A Q (pc + 3))) : xm_le (xo_null Kt Kf) (xm_A p l e R s mm args below meth c nL D cl A Q pc) := by
  intro ls st m bc bs h H locs cells slots la hl hW hin hS h1 h2
  simp only [xo_null] at h
  split at h
  · obtain ⟨hr, h⟩ := h
    rcases hr with rfl | ⟨a, rfl⟩
    · exact lv_ifnullN C.1.1 C.1.2.1 hd ht (hT _ _ _ _ _ (h.1 rfl) H locs cells slots la hl hW hin hS h1 h2)
    · exact lv_ifnull C.1.1 C.1.2.1 hd (hF _ _ _ _ _ (h.2 (fun z => by cases z)) H locs cells slots la hl hW hin hS h1 h2)
  · exact h.elim
theorem xs_ifnonnull (C : xm_C p s mm args c cc nL own Ts D cl ats A) {off : Int} {tgt : Nat} (hd : decode cc pc = .ok (.ifnonnull off, 3)) (ht : (pc : Int) + off = (tgt : Int)) (hT : xm_le Kt (xm_A p l e R s mm args below meth c nL D cl A Q (pc + 3))) (hF : xm_le Kf (xm_A p l e R s mm args below meth c nL D cl A Q tgt)) : xm_le (xo_null Kt Kf) (xm_A p l e R s mm args below meth c nL D cl A Q pc) := by
  intro ls st m bc bs h H locs cells slots la hl hW hin hS h1 h2
  simp only [xo_null] at h
  split at h
  · obtain ⟨hr, h⟩ := h
    rcases hr with rfl | ⟨a, rfl⟩
    · exact lv_ifnonnullN C.1.1 C.1.2.1 hd (hT _ _ _ _ _ (h.1 rfl) H locs cells slots la hl hW hin hS h1 h2)
    · exact lv_ifnonnull C.1.1 C.1.2.1 hd ht (hF _ _ _ _ _ (h.2 (fun z => by cases z)) H locs cells slots la hl hW hin hS h1 h2)
  · exact h.elim
theorem xs_goto (C : xm_C p s mm args c cc nL own Ts D cl ats A) {off : Int} {tgt : Nat} (hd : decode cc pc = .ok (.goto off, 3)) (ht : (pc : Int) + off = (tgt : Int)) (hK : xm_le K (xm_A p l e R s mm args below meth c nL D cl A Q tgt)) : xm_le K (xm_A p l e R s mm args below meth c nL D cl A Q pc) := by
  intro ls st m bc bs h H locs cells slots la hl hW hin hS h1 h2
  exact lv_goto C.1.1 C.1.2.1 hd ht (hK _ _ _ _ _ h H locs cells slots la hl hW hin hS h1 h2)
theorem xs_jmp {ks : List Nat} (hK : xm_le K (xm_A p l e R s mm args below meth c nL D cl A Q pc)) : xm_le (xo_jmp ks K) (xm_A p l e R s mm args below meth c nL D cl A Q pc) := by
  intro ls st m bc bs h H locs cells slots la hl hW hin hS h1 h2
  exact hK _ _ _ _ _ h H locs cells slots la (xm_has_sub hl (fun q hq => xm_keep_mem hq)) hW hin hS h1 h2
theorem xs_get (C : xm_C p s mm args c cc nL own Ts D cl ats A) {ref CN : String} {T : u_T} {N ci index k : Nat} (hd : decode cc pc = .ok (.getfield index, 3)) (hin0 : ∀ w ∈ u_ws CN T N, w ∈ Ts) (hc : cl[ci]? = some (CN, T, N)) (hk : k < N) (hlink : Cond.fieldLink own index ref (T k).2.1 (T k).2.2.1 ∈ Ts) (href : (T k).1 = ref) (hK : xm_le K (xm_A p l e R s mm args below meth c nL D cl A Q (pc + 3))) : xm_le (xo_get ci k K) (xm_A p l e R s mm args below meth c nL D cl A Q pc) := by
  intro ls st m bc bs h H locs cells slots la hl hW hin hS h1 h2
  subst href
  simp only [xo_get] at h
  split at h
  · split at h
    · rename_i a r c0 fs hm
      obtain ⟨rfl, h⟩ := h
      split at h
      · rename_i v hv
        exact va_get C.1.1 C.1.2.1 C.1.2.2.2.2 hin0 C.1.2.2.2.1 C.2.1 (hW.one hm) 0 rfl hc k hk (C.1.2.2.2.2 _ hlink) (fun _ h9 => h9) hv hd (hK _ _ _ _ _ h H locs cells slots la hl hW hin hS h1 h2)
      · exact h.elim
    · exact h.elim
  · exact h.elim
theorem xs_getN (C : xm_C p s mm args c cc nL own Ts D cl ats A) {ref CN : String} {T : u_T} {N ci index k : Nat} {host : String} (hd : decode cc pc = .ok (.getfield index, 3)) (hin0 : ∀ w ∈ u_ws CN T N, w ∈ Ts) (hc : cl[ci]? = some (CN, T, N)) (hk : k < N) (hlink : Cond.fieldLinkNest own index ref (T k).2.1 (T k).2.2.1 host ∈ Ts) (href : (T k).1 = ref) (hK : xm_le K (xm_A p l e R s mm args below meth c nL D cl A Q (pc + 3))) : xm_le (xo_get ci k K) (xm_A p l e R s mm args below meth c nL D cl A Q pc) := by
  intro ls st m bc bs h H locs cells slots la hl hW hin hS h1 h2
  subst href
  simp only [xo_get] at h
  split at h
  · split at h
    · rename_i a r c0 fs hm
      obtain ⟨rfl, h⟩ := h
      split at h
      · rename_i v hv
        exact va_getN C.1.1 C.1.2.1 C.1.2.2.2.2 hin0 C.1.2.2.2.1 C.2.1 (hW.one hm) 0 rfl hc k hk (C.1.2.2.2.2 _ hlink) (fun _ h9 => h9) hv hd (hK _ _ _ _ _ h H locs cells slots la hl hW hin hS h1 h2)
      · exact h.elim
    · exact h.elim
  · exact h.elim
theorem xs_put (C : xm_C p s mm args c cc nL own Ts D cl ats A) {ref CN : String} {T : u_T} {N ci index k : Nat} {ty : FieldType} (hd : decode cc pc = .ok (.putfield index, 3)) (hin0 : ∀ w ∈ u_ws CN T N, w ∈ Ts) (ty0 : Nat → FieldType) (hty : ∀ k, k < N → parseFieldDescriptor (T k).2.2.1 = some (ty0 k)) (hnm : ∀ a, a < N → ∀ b, b < N → a ≠ b → (T a).2.1 ≠ (T b).2.1) (hc : cl[ci]? = some (CN, T, N)) (hk : k < N) (hlink : Cond.fieldLink own index ref (T k).2.1 (T k).2.2.1 ∈ Ts) (href : (T k).1 = ref) (hfin : (T k).2.2.2 = false) (hd0 : parseFieldDescriptor (T k).2.2.1 = some ty) (hK : xm_le K (xm_A p l e R s mm args below meth c nL D cl A Q (pc + 3))) : xm_le (xo_put ci k ty K) (xm_A p l e R s mm args below meth c nL D cl A Q pc) := by
  intro ls st m bc bs h H locs cells slots la hl hW hin hS h1 h2
  subst href
  simp only [xo_put] at h
  split at h
  · rename_i v a r
    obtain ⟨hn, hfit, h⟩ := h
    split at h
    · rename_i c0 fs hm
      obtain ⟨rfl, hlen, h⟩ := h
      have hap := va_apart (own := own) C.1.2.2.2.2 hin0 ty0 hty hnm C.2.1 hc
      obtain ⟨r0, g1, cell, q1, q2, q3, q4⟩ := hW a _ hm
      have hr0 : r0 = (CN, T, N) := Option.some.inj (g1.symm.trans hc)
      subst hr0
      obtain ⟨hSl, hfc, kC, hkC, hkind⟩ := C.2.1.1 _ _ hc
      obtain ⟨cf, kf, fi, f, hi, hsl⟩ := hSl k hk
      have hlay := C.1.2.2.2.2 _ (hin0 _ (u_in_lay hk))
      unfold u_lay at hlay
      rw [if_neg (by rw [hfin]; decide)] at hlay
      have hst := (u_facts hfc hkC (u_lays C.1.2.2.2.2 hin0 hk) hi).1
      have h6 := u_store hfc hkC hkind hlay hi hd0 hn hfit
      refine W.putK C.1.1 C.1.2.1 (f := f) ⟨C.1.2.2.2.1, C.1.2.2.2.2 _ hlink, ⟨_, _, _, hi⟩, hst⟩ (by rw [q2]; exact h6) q1 q3 (by rw [hsl]; exact k2_hasslot (q4 k hk)) rfl rfl hd fun H' e1 e2 e3 => ?_
      rw [hsl] at e1 ⊢
      have ha : A a := hin a (by rw [hm]; exact fun z => by cases z)
      refine hK _ _ _ _ _ h H' _ cells slots la hl (hW.up ⟨_, hc, t_OB.to (V := updV (vp_V fs) k v) ⟨_, e1, q2, q3, t_set q4 hap hk v⟩ (fun j _ => vp_updV_set hlen v j)⟩ e3) (xm_in_up hin _ ha) (hS.put e2 e3 ha) h1 h2
    · exact h.elim
  · exact h.elim
theorem xs_putN (C : xm_C p s mm args c cc nL own Ts D cl ats A) {ref CN : String} {T : u_T} {N ci index k : Nat} {host : String} {ty : FieldType} (hd : decode cc pc = .ok (.putfield index, 3)) (hin0 : ∀ w ∈ u_ws CN T N, w ∈ Ts) (ty0 : Nat → FieldType) (hty : ∀ k, k < N → parseFieldDescriptor (T k).2.2.1 = some (ty0 k)) (hnm : ∀ a, a < N → ∀ b, b < N → a ≠ b → (T a).2.1 ≠ (T b).2.1) (hc : cl[ci]? = some (CN, T, N)) (hk : k < N) (hlink : Cond.fieldLinkNest own index ref (T k).2.1 (T k).2.2.1 host ∈ Ts) (href : (T k).1 = ref) (hfin : (T k).2.2.2 = false) (hd0 : parseFieldDescriptor (T k).2.2.1 = some ty) (hK : xm_le K (xm_A p l e R s mm args below meth c nL D cl A Q (pc + 3))) : xm_le (xo_put ci k ty K) (xm_A p l e R s mm args below meth c nL D cl A Q pc) := by
  intro ls st m bc bs h H locs cells slots la hl hW hin hS h1 h2
  subst href
  simp only [xo_put] at h
  split at h
  · rename_i v a r
    obtain ⟨hn, hfit, h⟩ := h
    split at h
    · rename_i c0 fs hm
      obtain ⟨rfl, hlen, h⟩ := h
      have hap := va_apart (own := own) C.1.2.2.2.2 hin0 ty0 hty hnm C.2.1 hc
      obtain ⟨r0, g1, cell, q1, q2, q3, q4⟩ := hW a _ hm
      have hr0 : r0 = (CN, T, N) := Option.some.inj (g1.symm.trans hc)
      subst hr0
      obtain ⟨hSl, hfc, kC, hkC, hkind⟩ := C.2.1.1 _ _ hc
      obtain ⟨cf, kf, fi, f, hi, hsl⟩ := hSl k hk
      have hlay := C.1.2.2.2.2 _ (hin0 _ (u_in_lay hk))
      unfold u_lay at hlay
      rw [if_neg (by rw [hfin]; decide)] at hlay
      have hst := (u_facts hfc hkC (u_lays C.1.2.2.2.2 hin0 hk) hi).1
      have h6 := u_store hfc hkC hkind hlay hi hd0 hn hfit
      refine va_WputK C.1.1 C.1.2.1 (f := f) C.1.2.2.2.1 (C.1.2.2.2.2 _ hlink) hi hst (by rw [q2]; exact h6) q1 q3 (by rw [hsl]; exact k2_hasslot (q4 k hk)) rfl rfl hd fun H' e1 e2 e3 => ?_
      rw [hsl] at e1 ⊢
      have ha : A a := hin a (by rw [hm]; exact fun z => by cases z)
      refine hK _ _ _ _ _ h H' _ cells slots la hl (hW.up ⟨_, hc, t_OB.to (V := updV (vp_V fs) k v) ⟨_, e1, q2, q3, t_set q4 hap hk v⟩ (fun j _ => vp_updV_set hlen v j)⟩ e3) (xm_in_up hin _ ha) (hS.put e2 e3 ha) h1 h2
    · exact h.elim
  · exact h.elim
theorem xs_putF (C : xm_C p s mm args c cc nL own Ts D cl ats A) {ref CN : String} {T : u_T} {N ci index k : Nat} {ty : FieldType} (hd : decode cc pc = .ok (.putfield index, 3)) (hin0 : ∀ w ∈ u_ws CN T N, w ∈ Ts) (ty0 : Nat → FieldType) (hty : ∀ k, k < N → parseFieldDescriptor (T k).2.2.1 = some (ty0 k)) (hnm : ∀ a, a < N → ∀ b, b < N → a ≠ b → (T a).2.1 ≠ (T b).2.1) (hc : cl[ci]? = some (CN, T, N)) (hk : k < N) (hlink : Cond.fieldLink own index ref (T k).2.1 (T k).2.2.1 ∈ Ts) (href : (T k).1 = ref) (hfin : (T k).2.2.2 = true) (hin2 : meth.name = "<init>") (hdecl : ref = own) (hd0 : parseFieldDescriptor (T k).2.2.1 = some ty) (hK : xm_le K (xm_A p l e R s mm args below meth c nL D cl A Q (pc + 3))) : xm_le (xo_put ci k ty K) (xm_A p l e R s mm args below meth c nL D cl A Q pc) := by
  intro ls st m bc bs h H locs cells slots la hl hW hin hS h1 h2
  subst href
  simp only [xo_put] at h
  split at h
  · rename_i v a r
    obtain ⟨hn, hfit, h⟩ := h
    split at h
    · rename_i c0 fs hm
      obtain ⟨rfl, hlen, h⟩ := h
      have hap := va_apart (own := own) C.1.2.2.2.2 hin0 ty0 hty hnm C.2.1 hc
      obtain ⟨r0, g1, cell, q1, q2, q3, q4⟩ := hW a _ hm
      have hr0 : r0 = (CN, T, N) := Option.some.inj (g1.symm.trans hc)
      subst hr0
      obtain ⟨hSl, hfc, kC, hkC, hkind⟩ := C.2.1.1 _ _ hc
      obtain ⟨cf, kf, fi, f, hi, hsl⟩ := hSl k hk
      have hlay := C.1.2.2.2.2 _ (hin0 _ (u_in_lay hk))
      unfold u_lay at hlay
      rw [if_pos hfin] at hlay
      have hst := (u_facts hfc hkC (u_lays C.1.2.2.2.2 hin0 hk) hi).1
      have hcf : mm.cls = cf := by
        obtain ⟨_, _, c', _, _, _, -, -, hf', -, -, -, hown2, -⟩ := Cond.laysFinal_spec hlay
        have e1 : c' = cf := by have := hi.symm.trans hf'; simp at this; exact this.1.symm
        rw [hdecl] at hown2
        rw [← e1]; exact Option.some.inj (C.1.2.2.2.1.symm.trans hown2)
      have h6 := u_fits hfc hkC hkind (Or.inr hlay) hi hd0 hn hfit
      refine W.putFinK C.1.1 C.1.2.1 C.1.2.2.2.1 (C.1.2.2.2.2 _ hlink) hi hst hcf hin2 (by rw [q2]; exact h6) q1 q3 (by rw [hsl]; exact k2_hasslot (q4 k hk)) rfl rfl hd fun H' e1 e2 e3 => ?_
      rw [hsl] at e1 ⊢
      have ha : A a := hin a (by rw [hm]; exact fun z => by cases z)
      refine hK _ _ _ _ _ h H' _ cells slots la hl (hW.up ⟨_, hc, t_OB.to (V := updV (vp_V fs) k v) ⟨_, e1, q2, q3, t_set q4 hap hk v⟩ (fun j _ => vp_updV_set hlen v j)⟩ e3) (xm_in_up hin _ ha) (hS.put e2 e3 ha) h1 h2
    · exact h.elim
  · exact h.elim
theorem xs_alen (C : xm_C p s mm args c cc nL own Ts D cl ats A) (hall : ∀ t, t < ats.length ∨ ¬ t < ats.length) (hd : decode cc pc = .ok (.arraylength, 1)) (hK : xm_le K (xm_A p l e R s mm args below meth c nL D cl A Q (pc + 1))) : xm_le (xo_alen ats K) (xm_A p l e R s mm args below meth c nL D cl A Q pc) := by
  intro ls st m bc bs h H locs cells slots la hl hW hin hS h1 h2
  simp only [xo_alen] at h
  split at h
  · split at h
    · rename_i a r t x hm
      obtain ⟨⟨ty, ht⟩, h⟩ := h
      exact va_alen C.1.1 C.1.2.1 C.2.1 (hW.one hm) 0 t rfl (xm_ty_at ht) rfl hd (hK _ _ _ _ _ h H locs cells slots la hl hW hin hS h1 h2)
    · exact h.elim
  · exact h.elim
theorem xs_iald (C : xm_C p s mm args c cc nL own Ts D cl ats A) (hd : decode cc pc = .ok (.iaload, 1)) (hK : xm_le K (xm_A p l e R s mm args below meth c nL D cl A Q (pc + 1))) : xm_le (xo_iald ats K) (xm_A p l e R s mm args below meth c nL D cl A Q pc) := by
  intro ls st m bc bs h H locs cells slots la hl hW hin hS h1 h2
  simp only [xo_iald] at h
  split at h
  · split at h
    · rename_i i a r t n f hm
      obtain ⟨ht, hix, h⟩ := h
      exact va_iald C.1.1 C.1.2.1 C.2.1 (hW.one hm) 0 t rfl (xm_ty_at ht) hix hd (hK _ _ _ _ _ h H locs cells slots la hl hW hin hS h1 h2)
    · exact h.elim
  · exact h.elim
theorem xs_aald (C : xm_C p s mm args c cc nL own Ts D cl ats A) (hd : decode cc pc = .ok (.aaload, 1)) (hK : xm_le K (xm_A p l e R s mm args below meth c nL D cl A Q (pc + 1))) : xm_le (xo_aald ats K) (xm_A p l e R s mm args below meth c nL D cl A Q pc) := by
  intro ls st m bc bs h H locs cells slots la hl hW hin hS h1 h2
  simp only [xo_aald] at h
  split at h
  · split at h
    · rename_i i a r t n f hm
      obtain ⟨⟨CC, ht⟩, hix, h⟩ := h
      exact va_aldq C.1.1 C.1.2.1 C.2.1 (hW.one hm) 0 t rfl (xm_ty_at ht) hix hd (hK _ _ _ _ _ h H locs cells slots la hl hW hin hS h1 h2)
    · exact h.elim
  · exact h.elim
theorem xs_iast (C : xm_C p s mm args c cc nL own Ts D cl ats A) (hd : decode cc pc = .ok (.iastore, 1)) (hK : xm_le K (xm_A p l e R s mm args below meth c nL D cl A Q (pc + 1))) : xm_le (xo_iast ats K) (xm_A p l e R s mm args below meth c nL D cl A Q pc) := by
  intro ls st m bc bs h H locs cells slots la hl hW hin hS h1 h2
  simp only [xo_iast] at h
  split at h
  · split at h
    · rename_i x i a r _ t n f hm
      obtain ⟨ht, hix, h⟩ := h
      have ha : A a := hin a (by rw [hm]; exact fun z => by cases z)
      have hP := hW a _ hm
      refine W.iast C.1.1 C.1.2.1 hP ((C.2.1.2 t _ (xm_ty_at ht)).1 n (fun j => .int (f j))) (fun q => by cases q) (by show ¬ (i < 0 ∨ (arrV _ _ _).slots.size ≤ _); rw [arrV_size]; exact hix) rfl rfl hd fun H1 e z oq => ?_
      refine hK _ _ _ _ _ h H1 _ cells slots la hl (hW.up ?_ oq) (xm_in_up hin _ ha) (hS.put z oq ha) h1 h2
      show H1[a]? = some (vp_cell _ _)
      rw [e]
      rw [vp_cell_i, vp_cell_i, arrV_store]
      congr 2
      funext q
      by_cases hq : q = i.toNatClampNeg
      · subst hq
        simp [updV, upd]
      · simp [updV, upd, hq]
    · exact h.elim
  · exact h.elim
theorem xs_aast (C : xm_C p s mm args c cc nL own Ts D cl ats A) (hd : decode cc pc = .ok (.aastore, 1)) (hK : xm_le K (xm_A p l e R s mm args below meth c nL D cl A Q (pc + 1))) : xm_le (xo_aast ats cl K) (xm_A p l e R s mm args below meth c nL D cl A Q pc) := by
  intro ls st m bc bs h H locs cells slots la hl hW hin hS h1 h2
  simp only [xo_aast] at h
  split at h
  · split at h
    · rename_i v i a r x y t n f ci vs hm hv
      obtain ⟨ht, hci, hix, h⟩ := h
      have ha : A a := hin a (by rw [hm]; exact fun z => by cases z)
      have hP := hW a _ hm
      have hc : cl[ci]? = some (cl.getD ci ("", fun _ => ("", "", "", false), 0)) := by
        rw [List.getD_eq_getElem?_getD, List.getElem?_eq_getElem hci]; rfl
      have hlt : i.toNatClampNeg < n := Nat.not_le.mp fun q => hix (Or.inr q)
      have h0 : ¬ i < 0 := fun q => hix (Or.inl q)
      obtain ⟨r', hr', cellV, g1, g2, g3, -⟩ := hW v _ hv
      have hcls := (C.2.1.1 ci _ hc).2
      obtain ⟨kA, comp, k1, k2, k3, -⟩ := (C.2.1.2 t _ (xm_ty_at ht)).2
      have hcomp : comp = D.1 ci := Option.some.inj (k3.symm.trans hcls.1)
      subst hcomp
      obtain ⟨kC, hkC, -⟩ := id hcls.2
      refine W.aast C.1.1 C.1.2.1 hP (fun q h => by cases h) (fun h => by cases h) k1 k2 rfl hkC ⟨h0, by show _ < (arrV _ _ _).slots.size; rw [arrV_size]; exact hlt⟩ g1 (fun q h => by rw [g3] at h; cases h) (by rw [g2]; exact hkC) (by rw [g2]; exact va_assign hcls) rfl rfl hd fun H1 e z oq => ?_
      refine hK _ _ _ _ _ h H1 _ cells slots la hl (hW.up ?_ oq) (xm_in_up hin _ ha) (hS.put z oq ha) h1 h2
      show H1[a]? = some (vp_cell _ _)
      rw [e]
      rw [vp_cell_q, vp_cell_q, arrV_store]
      congr 2
      funext q
      by_cases hq : q = i.toNatClampNeg
      · subst hq
        simp [updV, va_up, va_rf]
      · simp [updV, va_up, hq]
    · exact h.elim
  · exact h.elim
theorem xs_idiv (C : xm_C p s mm args c cc nL own Ts D cl ats A) (hd : decode cc pc = .ok (.idiv, 1)) (hK : xm_le K (xm_A p l e R s mm args below meth c nL D cl A Q (pc + 1))) : xm_le (xo_idiv K) (xm_A p l e R s mm args below meth c nL D cl A Q pc) := by
  intro ls st m bc bs h H locs cells slots la hl hW hin hS h1 h2
  simp only [xo_idiv] at h
  split at h
  · obtain ⟨hne, h⟩ := h
    exact lv_idiv C.1.1 C.1.2.1 hd hne (hK _ _ _ _ _ h H locs cells slots la hl hW hin hS h1 h2)
  · exact h.elim
theorem xs_irem (C : xm_C p s mm args c cc nL own Ts D cl ats A) (hd : decode cc pc = .ok (.irem, 1)) (hK : xm_le K (xm_A p l e R s mm args below meth c nL D cl A Q (pc + 1))) : xm_le (xo_irem K) (xm_A p l e R s mm args below meth c nL D cl A Q pc) := by
  intro ls st m bc bs h H locs cells slots la hl hW hin hS h1 h2
  simp only [xo_irem] at h
  split at h
  · obtain ⟨hne, h⟩ := h
    exact lv_irem C.1.1 C.1.2.1 hd hne (hK _ _ _ _ _ h H locs cells slots la hl hW hin hS h1 h2)
  · exact h.elim
theorem xs_zald (C : xm_C p s mm args c cc nL own Ts D cl ats A) (hd : decode cc pc = .ok (.baload, 1)) (hK : xm_le K (xm_A p l e R s mm args below meth c nL D cl A Q (pc + 1))) : xm_le (xo_zald ats K) (xm_A p l e R s mm args below meth c nL D cl A Q pc) := by
  intro ls st m bc bs h H locs cells slots la hl hW hin hS h1 h2
  simp only [xo_zald] at h
  split at h
  · split at h
    · rename_i i a r t n f hm
      obtain ⟨ht, hix, h⟩ := h
      exact va_zald C.1.1 C.1.2.1 C.2.1 (hW.one hm) 0 t rfl (xm_ty_at ht) hix hd (hK _ _ _ _ _ h H locs cells slots la hl hW hin hS h1 h2)
    · exact h.elim
  · exact h.elim
theorem xs_zast (C : xm_C p s mm args c cc nL own Ts D cl ats A) (hd : decode cc pc = .ok (.bastore, 1)) (hK : xm_le K (xm_A p l e R s mm args below meth c nL D cl A Q (pc + 1))) : xm_le (xo_zast ats K) (xm_A p l e R s mm args below meth c nL D cl A Q pc) := by
  intro ls st m bc bs h H locs cells slots la hl hW hin hS h1 h2
  simp only [xo_zast] at h
  split at h
  · split at h
    · rename_i x i a r _ t n f hm
      obtain ⟨ht, hx01, hix, h⟩ := h
      have ha : A a := hin a (by rw [hm]; exact fun z => by cases z)
      have hP := hW a _ hm
      have hnx : narrow .boolean (.int x) = .int x := by rcases hx01 with rfl | rfl <;> rfl
      refine W.zast C.1.1 C.1.2.1 hP ((C.2.1.2 t _ (xm_ty_at ht)).1 n (fun j => .int (f j))) (fun q => by cases q) (by show ¬ (i < 0 ∨ (arrV _ _ _).slots.size ≤ _); rw [arrV_size]; exact hix) rfl rfl hd fun H1 e z oq => ?_
      refine hK _ _ _ _ _ h H1 _ cells slots la hl (hW.up ?_ oq) (xm_in_up hin _ ha) (hS.put z oq ha) h1 h2
      show H1[a]? = some (vp_cell _ _)
      rw [e, hnx]
      rw [vp_cell_i, vp_cell_i, arrV_store]
      congr 2
      funext q
      by_cases hq : q = i.toNatClampNeg
      · subst hq
        simp [updV, upd]
      · simp [updV, upd, hq]
    · exact h.elim
  · exact h.elim
theorem xs_newz (C : xm_C p s mm args c cc nL own Ts D cl ats A) {t : Nat} (hd : decode cc pc = .ok (.newarray .boolean, 2)) (ht : ats[t]? = some .boolean) (harr : Cond.arrayClass .boolean ∈ Ts) (hK : xm_le K (xm_A p l e R s mm args below meth c nL D cl A Q (pc + 2))) : xm_le (xo_newi t K) (xm_A p l e R s mm args below meth c nL D cl A Q pc) := by
  intro ls st m bc bs h H locs cells slots la hl hW hin hS h1 h2
  simp only [xo_newi] at h
  split at h
  · rename_i n r
    obtain ⟨hn, hb, b1, b2, h⟩ := h
    refine va_newaK (atype := .boolean) C.1.1 C.1.2.1 (show (Cond.arrayClass (newarray.typeOf .boolean)).before args s = true from C.1.2.2.2.2 _ harr) rfl hd rfl hn rfl (by show n.toNatClampNeg * 1 ≤ 536870912; omega) (by omega) (by omega) rfl fun H1 cA e1 z1 o1 hAr hNm => ?_
    have j4 := (C.2.1.2 t _ (xm_ty_at ht)).2
    have hcA : cA = D.1 (100 + t) := Option.some.inj (hNm.symm.trans j4)
    subst hcA
    have hA : A H.size := C.2.2.1 _ hS.1
    refine hK _ _ _ _ _ (h H.size hW.fresh) H1 locs (cells + 1) (slots + n.toNatClampNeg) la hl (hW.push ?_ o1) (xm_in_up hin _ hA) ⟨Nat.le_trans hS.1 (by omega), fun x g1 g2 => (o1 x (Nat.lt_of_lt_of_le g1 hS.1)).trans (hS.2.1 x g1 g2), hS.2.2⟩ (by omega) (by omega)
    show H1[H.size]? = some (vp_cell _ _)
    rw [vp_cell_i]
    exact e1
  · exact h.elim
theorem xs_sld (C : xm_C p s mm args c cc nL own Ts D cl ats A) {b L : Nat} {xs : Nat → Int32} (hX : va_X b L xs s s.heap) (hbl : b < s.heap.size) (hbA : ¬ A b) (hd : decode cc pc = .ok (.iaload, 1)) (hK : xm_le K (xm_A p l e R s mm args below meth c nL D cl A Q (pc + 1))) : xm_le (xo_sld b L xs K) (xm_A p l e R s mm args below meth c nL D cl A Q pc) := by
  intro ls st m bc bs h H locs cells slots la hl hW hin hS h1 h2
  simp only [xo_sld] at h
  split at h
  · obtain ⟨rfl, hix, h⟩ := h
    exact va_sld C.1.1 C.1.2.1 hX hbl hbA hS hix hd (hK _ _ _ _ _ h H locs cells slots la hl hW hin hS h1 h2)
  · exact h.elim
theorem xs_slen (C : xm_C p s mm args c cc nL own Ts D cl ats A) {b L : Nat} {xs : Nat → Int32} (hX : va_X b L xs s s.heap) (hbl : b < s.heap.size) (hbA : ¬ A b) (hd : decode cc pc = .ok (.arraylength, 1)) (hK : xm_le K (xm_A p l e R s mm args below meth c nL D cl A Q (pc + 1))) : xm_le (xo_slen b L K) (xm_A p l e R s mm args below meth c nL D cl A Q pc) := by
  intro ls st m bc bs h H locs cells slots la hl hW hin hS h1 h2
  simp only [xo_slen] at h
  split at h
  · obtain ⟨rfl, h⟩ := h
    exact va_slen C.1.1 C.1.2.1 hX hbl hbA hS hd (hK _ _ _ _ _ h H locs cells slots la hl hW hin hS h1 h2)
  · exact h.elim
theorem xs_new (C : xm_C p s mm args c cc nL own Ts D cl ats A) {CN : String} {T : u_T} {N ci index : Nat} {fs : List Value} (hd : decode cc pc = .ok (.new index, 3)) (hin0 : ∀ w ∈ u_ws CN T N, w ∈ Ts) (ty : Nat → FieldType) (hty : ∀ k, k < N → parseFieldDescriptor (T k).2.2.1 = some (ty k)) (hc : cl[ci]? = some (CN, T, N)) (hcl : Cond.classLink own index CN ∈ Ts) (hinst : Cond.instantiable CN N ∈ Ts) (hini : Cond.initialized CN ∈ Ts) (hfs : ∀ j, j < N → defaultValue (ty j) = vp_V fs j) (hK : xm_le K (xm_A p l e R s mm args below meth c nL D cl A Q (pc + 3))) : xm_le (xo_new ci N fs K) (xm_A p l e R s mm args below meth c nL D cl A Q pc) := by
  intro ls st m bc bs h H locs cells slots la hl hW hin hS h1 h2
  obtain ⟨b1, b2, h⟩ := h
  have hKn := C.2.1.1 ci _ hc
  refine W.newcK C.1.1 C.1.2.1 C.1.2.2.2.1 (C.1.2.2.2.2 _ hcl) (C.1.2.2.2.2 _ hinst) (C.1.2.2.2.2 _ hini) rfl hd (by omega) (by omega) hKn.2.1 rfl fun H1 kC hkC e1 z1 o1 => ?_
  have hA : A H.size := C.2.2.1 _ hS.1
  refine hK _ _ _ _ _ (h H.size hW.fresh) H1 locs (cells + 1) (slots + N) la hl (hW.push ⟨_, hc, (u_born ty C.1.2.2.2.2 hin0 hKn hkC e1 hty).to hfs⟩ o1) (xm_in_up hin _ hA) ⟨Nat.le_trans hS.1 (by omega), fun x g1 g2 => (o1 x (Nat.lt_of_lt_of_le g1 hS.1)).trans (hS.2.1 x g1 g2), hS.2.2⟩ (by omega) (by omega)
theorem xs_anew (C : xm_C p s mm args c cc nL own Ts D cl ats A) {CN : String} {index t : Nat} (hd : decode cc pc = .ok (.anewarray index, 3)) (ht : ats[t]? = some (.object CN)) (hcl : Cond.classLink own index CN ∈ Ts) (hov : CN ∈ xm_os) (hK : xm_le K (xm_A p l e R s mm args below meth c nL D cl A Q (pc + 3))) : xm_le (xo_anew t K) (xm_A p l e R s mm args below meth c nL D cl A Q pc) := by
  intro ls st m bc bs h H locs cells slots la hl hW hin hS h1 h2
  simp only [xo_anew] at h
  split at h
  · rename_i n r
    obtain ⟨hn, hb, b1, b2, h⟩ := h
    refine W.anew C.1.1 C.1.2.1 C.1.2.2.2.1 (C.1.2.2.2.2 _ hcl) (va_AO.use (C.2.2.2.2 _ hov)) rfl hd rfl hn (by omega) (by omega) (by omega) fun cA kA comp f1 f2 f3 f4 => ?_
    obtain ⟨kA', comp', j1, j2, j3, j4⟩ := (C.2.1.2 t _ (xm_ty_at ht)).2
    have hcA : cA = D.1 (100 + t) := Option.some.inj (f1.symm.trans j4)
    subst hcA
    have hA : A H.size := C.2.2.1 _ hS.1
    generalize hH1 : H.push ({ cls := D.1 (100 + t), slots := Array.replicate n.toNatClampNeg .null, vm := .none } : Cell) = H1
    have z1 : H1.size = H.size + 1 := by rw [← hH1, Array.size_push]
    have e1 : H1[H.size]? = some (arrV (D.1 (100 + t)) n.toNatClampNeg (fun _ => .null)) := by rw [← hH1, Array.getElem?_push_size, ← arrV_new]
    have o1 : ∀ q : Nat, q < H.size → H1[q]? = H[q]? := fun q hq => by rw [← hH1, Array.getElem?_push, if_neg (Nat.ne_of_lt hq)]
    refine hK _ _ _ _ _ (h H.size hW.fresh) H1 locs (cells + 1) (slots + n.toNatClampNeg) la hl (hW.push ?_ o1) (xm_in_up hin _ hA) ⟨Nat.le_trans hS.1 (by omega), fun x g1 g2 => (o1 x (Nat.lt_of_lt_of_le g1 hS.1)).trans (hS.2.1 x g1 g2), hS.2.2⟩ (by omega) (by omega)
    show H1[H.size]? = some (vp_cell _ _)
    rw [vp_cell_q]
    exact e1
  · exact h.elim
theorem xs_newi (C : xm_C p s mm args c cc nL own Ts D cl ats A) {t : Nat} (hd : decode cc pc = .ok (.newarray .int, 2)) (ht : ats[t]? = some .int) (harr : Cond.arrayClass .int ∈ Ts) (hK : xm_le K (xm_A p l e R s mm args below meth c nL D cl A Q (pc + 2))) : xm_le (xo_newi t K) (xm_A p l e R s mm args below meth c nL D cl A Q pc) := by
  intro ls st m bc bs h H locs cells slots la hl hW hin hS h1 h2
  simp only [xo_newi] at h
  split at h
  · rename_i n r
    obtain ⟨hn, hb, b1, b2, h⟩ := h
    refine va_newaK (atype := .int) C.1.1 C.1.2.1 (show (Cond.arrayClass (newarray.typeOf .int)).before args s = true from C.1.2.2.2.2 _ harr) rfl hd rfl hn rfl (by show n.toNatClampNeg * 4 ≤ 536870912; omega) (by omega) (by omega) rfl fun H1 cA e1 z1 o1 hAr hNm => ?_
    have j4 := (C.2.1.2 t _ (xm_ty_at ht)).2
    have hcA : cA = D.1 (100 + t) := Option.some.inj (hNm.symm.trans j4)
    subst hcA
    have hA : A H.size := C.2.2.1 _ hS.1
    refine hK _ _ _ _ _ (h H.size hW.fresh) H1 locs (cells + 1) (slots + n.toNatClampNeg) la hl (hW.push ?_ o1) (xm_in_up hin _ hA) ⟨Nat.le_trans hS.1 (by omega), fun x g1 g2 => (o1 x (Nat.lt_of_lt_of_le g1 hS.1)).trans (hS.2.1 x g1 g2), hS.2.2⟩ (by omega) (by omega)
    show H1[H.size]? = some (vp_cell _ _)
    rw [vp_cell_i]
    exact e1
  · exact h.elim
theorem xs_obj (C : xm_C p s mm args c cc nL own Ts D cl ats A) {idx : Nat} (hd : decode cc pc = .ok (.invokespecial idx, 3)) (hlink : Cond.methodLink own idx Lib.objectInit ∈ Ts) (hinst : Cond.instanceMethod Lib.objectInit ∈ Ts) (hcode : Cond.code Lib.objectInit ⟨#[0xb1]⟩ 1 none ∈ Ts) (hf : 1 ≤ R.frames) (hlo : 20 ≤ R.locals) (hK : xm_le K (xm_A p l e R s mm args below meth c nL D cl A Q (pc + 3))) : xm_le (xo_drop K) (xm_A p l e R s mm args below meth c nL D cl A Q pc) := by
  intro ls st m bc bs h H locs cells slots la hl hW hin hS h1 h2
  simp only [xo_drop] at h
  split at h
  · obtain ⟨hr, h⟩ := h
    refine W.objInit C.1.1 C.1.2.1 C.1.2.2.2.1 (C.1.2.2.2.2 _ hlink) (C.1.2.2.2.2 _ hinst) (C.1.2.2.2.2 _ hcode) rfl (by rw [C.1.2.2.1]; exact hl.1) rfl hd hf ?_ (hK _ _ _ _ _ h H locs cells slots la hl hW hin hS h1 h2)
    have := xm_cat4 hr
    show 2 * 0 + _ + 12 ≤ R.locals
    omega
  · exact h.elim
theorem xm_cont {H : Heap} {locs : List Loc} {cells slots mc ms : Nat} {la : Array Slot} {st0 rest : List Value} {a : Array Value} {m : xm_M} {Rh : Option Value → xm_M → Prop}
    (hr : va_Run p l e R s mm args below meth c H locs cells slots mc ms (F0 mm pc la st0) rest (xm_Q D cl Rh (xm_As m H.size) a) (xm_As m H.size)) (hS : va_S A s.heap H locs) (hin : ∀ a, m a ≠ none → A a) (hA : ∀ q, s.heap.size ≤ q → A q)
    (kk : ∀ (r : Option Value) (m' : xm_M), Rh r m' → ∀ (H1 : Heap) (locs1 : List Loc), xm_W D cl m' H1 → (∀ a, m' a ≠ none → A a) → va_S A s.heap H1 locs1 → W p l e R s mm args below meth c H1 locs1 (cells + mc) (slots + ms) Q (F0 mm (pc + 3) la (r.toList ++ rest))) : W p l e R s mm args below meth c H locs cells slots Q (F0 mm pc la st0) := by
  intro T hT X
  obtain ⟨v, st₀, t, T', L, h0, X', hL, e1, e2, ⟨⟨r, m', hv, hp, hb, hin'⟩, hz, hk⟩, st⟩ := hr T hT X
  cases hv
  rw [h0] at hz hk
  have hF : ∀ q, xm_As m H.size q → A q := fun q h => h.elim (hin q) (fun h => hA q (Nat.le_trans hS.1 h))
  obtain ⟨t2, a1, b1⟩ := kk v m' hp T'.heap (locs ++ L) (by rw [e1]; exact hb) (fun a h => hF a (hin' a h))
    ⟨Nat.le_trans hS.1 (by rw [e1]; exact hz), fun q h1 h2 => by rw [e1, hk q (Nat.lt_of_lt_of_le h1 hS.1) (fun z => h2 (hF q z))]; exact hS.2.1 q h1 h2, fun q hq => by
      rcases List.mem_append.mp hq with h | h
      · exact hS.2.2 q h
      · exact hF _ (hL q h)⟩ T' rfl X'
  exact ⟨t2, st t2 a1, b1⟩
theorem xs_callV (C : xm_C p s mm args c cc nL own Ts D cl ats A) {index maxL mc ms n ci N : Nat} {y : MethodName} {bytes : ByteArray} {ret : Option FieldType} {ws : List Cond} {rm : Room} {CN : String} {T : u_T} {CP : xm_CP} (hd : decode cc pc = .ok (.invokevirtual index, 3)) (hM : xm_Met l D cl ats y ws rm mc ms CP) (cw : CallW R s args own CN index y bytes maxL ret ws rm mc ms n) (hc : cl[ci]? = some (CN, T, N)) (hK : xm_le K (xm_A p l e R s mm args below meth c nL D cl A Q (pc + 3))) : xm_le (xo_callV ci n mc ms CP K) (xm_A p l e R s mm args below meth c nL D cl A Q pc) := by
  intro ls st m bc bs h H locs cells slots la hl hW hin hS h1 h2
  obtain ⟨b1, b2, h⟩ := h
  split at h
  · rename_i as b rest hsp
    obtain ⟨hr, hb, h⟩ := h
    obtain ⟨l0, hlen, hst, has⟩ := xm_sp_ok hsp
    rw [List.append_nil] at has
    have hlen : as.length = n := by rw [has, List.length_reverse]; exact hlen
    have hst : st = as.reverse ++ .ref b :: rest := by rw [has, List.reverse_reverse]; exact hst
    have hrc : ∃ cell : Cell, H[b]? = some cell ∧ cell.vm.isStatics = false ∧ s.vm.findClass CN = some cell.cls := by
      split at hb
      · rename_i c0 fs hm
        subst hb
        exact va_recv C.2.1 (hW.one hm) hc (q0 := 0) rfl
      · exact hb.elim
    refine xm_cont (va_runV (As := as) (rest := rest) C.1 (hM (.ref b :: as) m H.size _ h) cw ⟨xm_blind, hrc, fun U hU hW9 => ⟨rfl, by rw [hU], by rw [hU]; exact hW, va_K.moved hW9.alike C.2.1, C.2.2.2.warm hW9⟩⟩ rfl hlen hl.1 hst (by show 2 * 0 + _ ≤ 8; have := xm_cat4 hr; omega) hd ⟨by omega, by omega⟩) hS hin C.2.2.1 (fun r m' hq H1 locs1 hW1 hin1 hS1 => ?_)
    exact hK _ _ _ _ _ hq H1 locs1 _ _ la hl hW1 hin1 hS1 (by omega) (by omega)
  · exact h.elim
theorem xs_callVN (C : xm_C p s mm args c cc nL own Ts D cl ats A) {index maxL mc ms n ci N : Nat} {y : MethodName} {bytes : ByteArray} {ret : Option FieldType} {ws : List Cond} {rm : Room} {CN : String} {T : u_T} {CP : xm_CP} {host : String} (hd : decode cc pc = .ok (.invokevirtual index, 3)) (hM : xm_Met l D cl ats y ws rm mc ms CP) (cw : va_CN R s args own index y host bytes maxL ret ws rm mc ms n ∧ (Cond.instanceMethod y).before args s = true ∧ (Cond.selects CN y y).before args s = true) (hc : cl[ci]? = some (CN, T, N)) (hK : xm_le K (xm_A p l e R s mm args below meth c nL D cl A Q (pc + 3))) : xm_le (xo_callV ci n mc ms CP K) (xm_A p l e R s mm args below meth c nL D cl A Q pc) := by
  intro ls st m bc bs h H locs cells slots la hl hW hin hS h1 h2
  obtain ⟨b1, b2, h⟩ := h
  split at h
  · rename_i as b rest hsp
    obtain ⟨hr, hb, h⟩ := h
    obtain ⟨l0, hlen, hst, has⟩ := xm_sp_ok hsp
    rw [List.append_nil] at has
    have hlen : as.length = n := by rw [has, List.length_reverse]; exact hlen
    have hst : st = as.reverse ++ .ref b :: rest := by rw [has, List.reverse_reverse]; exact hst
    have hrc : ∃ cell : Cell, H[b]? = some cell ∧ cell.vm.isStatics = false ∧ s.vm.findClass CN = some cell.cls := by
      split at hb
      · rename_i c0 fs hm
        subst hb
        exact va_recv C.2.1 (hW.one hm) hc (q0 := 0) rfl
      · exact hb.elim
    refine xm_cont (va_runVN (As := as) (rest := rest) C.1 (hM (.ref b :: as) m H.size _ h) cw ⟨xm_blind, hrc, fun U hU hW9 => ⟨rfl, by rw [hU], by rw [hU]; exact hW, va_K.moved hW9.alike C.2.1, C.2.2.2.warm hW9⟩⟩ rfl hlen hl.1 hst (by show 2 * 0 + _ ≤ 8; have := xm_cat4 hr; omega) hd ⟨by omega, by omega⟩) hS hin C.2.2.1 (fun r m' hq H1 locs1 hW1 hin1 hS1 => ?_)
    exact hK _ _ _ _ _ hq H1 locs1 _ _ la hl hW1 hin1 hS1 (by omega) (by omega)
  · exact h.elim
theorem xs_callI (C : xm_C p s mm args c cc nL own Ts D cl ats A) {index maxL mc ms n : Nat} {y : MethodName} {bytes : ByteArray} {ws : List Cond} {rm : Room} {CP : xm_CP} (hd : decode cc pc = .ok (.invokespecial index, 3)) (hM : xm_Met l D cl ats y ws rm mc ms CP) (cw : CallB R s args own index y bytes maxL none ws rm mc ms n ∧ y.name = "<init>" ∧ (Cond.instanceMethod y).before args s = true) (hK : xm_le K (xm_A p l e R s mm args below meth c nL D cl A Q (pc + 3))) : xm_le (xo_callI n mc ms CP K) (xm_A p l e R s mm args below meth c nL D cl A Q pc) := by
  intro ls st m bc bs h H locs cells slots la hl hW hin hS h1 h2
  obtain ⟨b1, b2, h⟩ := h
  split at h
  · rename_i as b rest hsp
    obtain ⟨hr, h⟩ := h
    obtain ⟨l0, hlen, hst, has⟩ := xm_sp_ok hsp
    rw [List.append_nil] at has
    have hlen : as.length = n := by rw [has, List.length_reverse]; exact hlen
    have hst : st = as.reverse ++ .ref b :: rest := by rw [has, List.reverse_reverse]; exact hst
    refine xm_cont (va_runI (As := as) (rest := rest) C.1 (hM (.ref b :: as) m H.size _ h) cw ⟨xm_blind, fun U hU hW9 => ⟨rfl, by rw [hU], by rw [hU]; exact hW, va_K.moved hW9.alike C.2.1, C.2.2.2.warm hW9⟩⟩ rfl hlen hl.1 hst (by show 2 * 0 + _ ≤ 8; have := xm_cat4 hr; omega) hd ⟨by omega, by omega⟩) hS hin C.2.2.1 (fun r m' hq H1 locs1 hW1 hin1 hS1 => ?_)
    exact hK _ _ _ _ _ hq H1 locs1 _ _ la hl hW1 hin1 hS1 (by omega) (by omega)
  · exact h.elim
theorem xs_callIN (C : xm_C p s mm args c cc nL own Ts D cl ats A) {index maxL mc ms n : Nat} {y : MethodName} {bytes : ByteArray} {ws : List Cond} {rm : Room} {CP : xm_CP} {host : String} (hd : decode cc pc = .ok (.invokespecial index, 3)) (hM : xm_Met l D cl ats y ws rm mc ms CP) (cw : va_CN R s args own index y host bytes maxL none ws rm mc ms n ∧ y.name = "<init>" ∧ (Cond.instanceMethod y).before args s = true) (hK : xm_le K (xm_A p l e R s mm args below meth c nL D cl A Q (pc + 3))) : xm_le (xo_callI n mc ms CP K) (xm_A p l e R s mm args below meth c nL D cl A Q pc) := by
  intro ls st m bc bs h H locs cells slots la hl hW hin hS h1 h2
  obtain ⟨b1, b2, h⟩ := h
  split at h
  · rename_i as b rest hsp
    obtain ⟨hr, h⟩ := h
    obtain ⟨l0, hlen, hst, has⟩ := xm_sp_ok hsp
    rw [List.append_nil] at has
    have hlen : as.length = n := by rw [has, List.length_reverse]; exact hlen
    have hst : st = as.reverse ++ .ref b :: rest := by rw [has, List.reverse_reverse]; exact hst
    refine xm_cont (va_runIN (As := as) (rest := rest) C.1 (hM (.ref b :: as) m H.size _ h) cw ⟨xm_blind, fun U hU hW9 => ⟨rfl, by rw [hU], by rw [hU]; exact hW, va_K.moved hW9.alike C.2.1, C.2.2.2.warm hW9⟩⟩ rfl hlen hl.1 hst (by show 2 * 0 + _ ≤ 8; have := xm_cat4 hr; omega) hd ⟨by omega, by omega⟩) hS hin C.2.2.1 (fun r m' hq H1 locs1 hW1 hin1 hS1 => ?_)
    exact hK _ _ _ _ _ hq H1 locs1 _ _ la hl hW1 hin1 hS1 (by omega) (by omega)
  · exact h.elim
theorem xs_callS (C : xm_C p s mm args c cc nL own Ts D cl ats A) {index maxL mc ms n : Nat} {y : MethodName} {bytes : ByteArray} {ret : Option FieldType} {ws : List Cond} {rm : Room} {CP : xm_CP} (hd : decode cc pc = .ok (.invokestatic index, 3)) (hM : xm_Met l D cl ats y ws rm mc ms CP) (cw : CallB R s args own index y bytes maxL ret ws rm mc ms n ∧ (Cond.static y).before args s = true) (hK : xm_le K (xm_A p l e R s mm args below meth c nL D cl A Q (pc + 3))) : xm_le (xo_callS n mc ms CP K) (xm_A p l e R s mm args below meth c nL D cl A Q pc) := by
  intro ls st m bc bs h H locs cells slots la hl hW hin hS h1 h2
  obtain ⟨b1, b2, h⟩ := h
  split at h
  · rename_i as rest hsp
    obtain ⟨hr, h⟩ := h
    obtain ⟨l0, hlen, hst, has⟩ := xm_sp_ok hsp
    rw [List.append_nil] at has
    have hlen : as.length = n := by rw [has, List.length_reverse]; exact hlen
    have hst : st = as.reverse ++ rest := by rw [has, List.reverse_reverse]; exact hst
    refine xm_cont (va_runS (As := as) (rest := rest) C.1 (hM as m H.size _ h) cw ⟨xm_blind, fun U hU hW9 => ⟨rfl, by rw [hU], by rw [hU]; exact hW, va_K.moved hW9.alike C.2.1, C.2.2.2.warm hW9⟩⟩ rfl hlen hl.1 hst (by show 2 * 0 + _ ≤ 8; have := xm_cat4 hr; omega) hd ⟨by omega, by omega⟩) hS hin C.2.2.1 (fun r m' hq H1 locs1 hW1 hin1 hS1 => ?_)
    exact hK _ _ _ _ _ hq H1 locs1 _ _ la hl hW1 hin1 hS1 (by omega) (by omega)
  · exact h.elim
theorem xs_callSN (C : xm_C p s mm args c cc nL own Ts D cl ats A) {index maxL mc ms n : Nat} {y : MethodName} {bytes : ByteArray} {ret : Option FieldType} {ws : List Cond} {rm : Room} {CP : xm_CP} {host : String} (hd : decode cc pc = .ok (.invokestatic index, 3)) (hM : xm_Met l D cl ats y ws rm mc ms CP) (cw : va_CN R s args own index y host bytes maxL ret ws rm mc ms n ∧ (Cond.static y).before args s = true ∧ True) (hK : xm_le K (xm_A p l e R s mm args below meth c nL D cl A Q (pc + 3))) : xm_le (xo_callS n mc ms CP K) (xm_A p l e R s mm args below meth c nL D cl A Q pc) := by
  intro ls st m bc bs h H locs cells slots la hl hW hin hS h1 h2
  obtain ⟨b1, b2, h⟩ := h
  split at h
  · rename_i as rest hsp
    obtain ⟨hr, h⟩ := h
    obtain ⟨l0, hlen, hst, has⟩ := xm_sp_ok hsp
    rw [List.append_nil] at has
    have hlen : as.length = n := by rw [has, List.length_reverse]; exact hlen
    have hst : st = as.reverse ++ rest := by rw [has, List.reverse_reverse]; exact hst
    refine xm_cont (va_runSN (As := as) (rest := rest) C.1 (hM as m H.size _ h) cw ⟨xm_blind, fun U hU hW9 => ⟨rfl, by rw [hU], by rw [hU]; exact hW, va_K.moved hW9.alike C.2.1, C.2.2.2.warm hW9⟩⟩ rfl hlen hl.1 hst (by show 2 * 0 + _ ≤ 8; have := xm_cat4 hr; omega) hd ⟨by omega, by omega⟩) hS hin C.2.2.1 (fun r m' hq H1 locs1 hW1 hin1 hS1 => ?_)
    exact hK _ _ _ _ _ hq H1 locs1 _ _ la hl hW1 hin1 hS1 (by omega) (by omega)
  · exact h.elim
theorem xs_mmax (C : xm_C p s mm args c cc nL own Ts D cl ats A) {index : Nat} (hd : decode cc pc = .ok (.invokestatic index, 3)) (hlink : Cond.methodLink own index Lib.Math.max.name ∈ Ts) (hstat : Cond.static Lib.Math.max.name ∈ Ts) (hini : Cond.initialized "java/lang/Math" ∈ Ts) (hcode : Cond.code Lib.Math.max.name Lib.Math.max.code 2 (some .int) ∈ Ts) (hf : 1 ≤ R.frames) (hlo : 21 ≤ R.locals) (hK : xm_le K (xm_A p l e R s mm args below meth c nL D cl A Q (pc + 3))) : xm_le (xo_mmax K) (xm_A p l e R s mm args below meth c nL D cl A Q pc) := by
  intro ls st m bc bs h H locs cells slots la hl hW hin hS h1 h2
  simp only [xo_mmax] at h
  split at h
  · obtain ⟨hr, h⟩ := h
    have := xm_cat4 hr
    exact va_mmax C.1.1 C.1.2.1 (by rw [C.1.2.2.1]; exact hl.1.symm) C.1.2.2.2.1 (C.1.2.2.2.2 _ hlink) (C.1.2.2.2.2 _ hstat) (C.1.2.2.2.2 _ hini) (C.1.2.2.2.2 _ hcode) hf (by omega) (by omega) (by omega) hd (hK _ _ _ _ _ h H locs cells slots la hl hW hin hS h1 h2)
  · exact h.elim
def xm_ks (pc : Nat) (F : Nat → xm_PT) : List Int → List xm_PT → Prop
  | [], [] => True
  | off :: os, K :: Ks => (∃ tgt : Nat, (pc : Int) + off = (tgt : Int) ∧ xm_le K (F tgt)) ∧ xm_ks pc F os Ks
  | _, _ => False
theorem xm_ks_len {pc : Nat} {F : Nat → xm_PT} : ∀ {os : List Int} {Ks : List xm_PT}, xm_ks pc F os Ks → os.length = Ks.length
  | [], [], _ => rfl
  | _ :: os, _ :: Ks, h => by simp only [List.length_cons]; rw [xm_ks_len h.2]
  | [], _ :: _, h => h.elim
  | _ :: _, [], h => h.elim
theorem xs_tsw (C : xm_C p s mm args c cc nL own Ts D cl ats A) {dflt lo hi : Int} {offs : Array Int} {len tgd : Nat} {Ks : List xm_PT} {Kd : xm_PT} (hd : decode cc pc = .ok (.tableswitch dflt lo hi offs, len)) (hhi : lo + Ks.length = hi + 1) (hks : xm_ks pc (fun q => (xm_A p l e R s mm args below meth c nL D cl A Q q)) offs.toList Ks) (htd : (pc : Int) + dflt = (tgd : Int)) (hD : xm_le Kd (xm_A p l e R s mm args below meth c nL D cl A Q tgd)) : xm_le (xo_tsw lo Ks Kd) (xm_A p l e R s mm args below meth c nL D cl A Q pc) := by
  intro ls st m bc bs h H locs cells slots la hl hW hin hS h1 h2
  simp only [xo_tsw] at h
  split at h
  · rename_i x r
    by_cases hx : x.toInt < lo ∨ hi < x.toInt
    · refine lv_tableOut C.1.1 C.1.2.1 hd hx htd (hD _ _ _ _ _ ?_ H locs cells slots la hl hW hin hS h1 h2)
      have key : ∀ (Ks : List xm_PT) (lo : Int), (x.toInt < lo ∨ lo + Ks.length ≤ x.toInt) → xm_sw x.toInt lo Ks Kd ls r m bc bs → Kd ls r m bc bs := by
        intro Ks
        induction Ks with
        | nil => intro lo _ h; exact h
        | cons K Ks ih =>
          intro lo hx h
          simp only [List.length_cons] at hx
          exact ih (lo + 1) (by omega) (h.2 (by omega))
      exact key Ks lo (by omega) h
    · have key : ∀ (os : List Int) (Ks : List xm_PT) (lo : Int), lo ≤ x.toInt → x.toInt < lo + Ks.length → xm_ks pc (fun q => (xm_A p l e R s mm args below meth c nL D cl A Q q)) os Ks → xm_sw x.toInt lo Ks Kd ls r m bc bs → ∃ (off : Int) (tgt : Nat) (K : xm_PT), os[(x.toInt - lo).toNat]? = some off ∧ (pc : Int) + off = (tgt : Int) ∧ xm_le K (xm_A p l e R s mm args below meth c nL D cl A Q tgt) ∧ K ls r m bc bs := by
        intro os Ks
        induction Ks generalizing os with
        | nil => intro lo a b _ _; simp only [List.length_nil] at b; omega
        | cons K Ks ih =>
          intro lo a b hk h
          cases os with
          | nil => exact hk.elim
          | cons o os =>
            simp only [List.length_cons] at b
            by_cases hxl : x.toInt = lo
            · obtain ⟨⟨tgt, t1, t2⟩, -⟩ := hk
              exact ⟨o, tgt, K, by rw [hxl]; simp, t1, t2, h.1 hxl⟩
            · obtain ⟨off, tgt, K', e1, e2⟩ := ih os (lo + 1) (by omega) (by omega) hk.2 (h.2 hxl)
              refine ⟨off, tgt, K', ?_, e2⟩
              rw [show (x.toInt - lo).toNat = (x.toInt - (lo + 1)).toNat + 1 by omega]
              exact e1
      obtain ⟨off, tgt, K', e1, e2, e3, e4⟩ := key offs.toList Ks lo (by omega) (by omega) hks h
      exact lv_tableIn C.1.1 C.1.2.1 hd (by omega) (by omega) (by rw [← e1]; simp) e2 (e3 _ _ _ _ _ e4 H locs cells slots la hl hW hin hS h1 h2)
  · exact h.elim
def xm_kl (pc : Nat) (F : Nat → xm_PT) : List (Int × Int) → List (Int × xm_PT) → Prop
  | [], [] => True
  | (k, off) :: os, (k', K) :: Ks => k = k' ∧ (∃ tgt : Nat, (pc : Int) + off = (tgt : Int) ∧ xm_le K (F tgt)) ∧ xm_kl pc F os Ks
  | _, _ => False
theorem xs_lsw (C : xm_C p s mm args c cc nL own Ts D cl ats A) {dflt : Int} {ps : Array (Int × Int)} {len tgd : Nat} {Ks : List (Int × xm_PT)} {Kd : xm_PT} (hd : decode cc pc = .ok (.lookupswitch dflt ps, len)) (hp : (ps.toList.zip (ps.toList.drop 1)).all (fun (a, next) => a.1 < next.1) = true) (hks : xm_kl pc (fun q => (xm_A p l e R s mm args below meth c nL D cl A Q q)) ps.toList Ks) (htd : (pc : Int) + dflt = (tgd : Int)) (hD : xm_le Kd (xm_A p l e R s mm args below meth c nL D cl A Q tgd)) : xm_le (xo_lsw Ks Kd) (xm_A p l e R s mm args below meth c nL D cl A Q pc) := by
  intro ls st m bc bs h H locs cells slots la hl hW hin hS h1 h2
  simp only [xo_lsw] at h
  split at h
  · rename_i x r
    have key : ∀ (os : List (Int × Int)) (Ks : List (Int × xm_PT)), xm_kl pc (fun q => (xm_A p l e R s mm args below meth c nL D cl A Q q)) os Ks → xm_lsw x.toInt Ks Kd ls r m bc bs → ∃ (tgt : Nat) (K : xm_PT), (pc : Int) + Op.lookupswitch.offset os dflt x.toInt = (tgt : Int) ∧ xm_le K (xm_A p l e R s mm args below meth c nL D cl A Q tgt) ∧ K ls r m bc bs := by
      intro os
      induction os with
      | nil =>
        intro Ks hk h
        cases Ks with
        | nil => exact ⟨tgd, Kd, by simpa [Op.lookupswitch.offset] using htd, hD, h⟩
        | cons K Ks => exact hk.elim
      | cons o os ih =>
        intro Ks hk h
        cases Ks with
        | nil => exact hk.elim
        | cons K Ks =>
          obtain ⟨k, off⟩ := o
          obtain ⟨k', K⟩ := K
          obtain ⟨rfl, ⟨tgt, t1, t2⟩, hk⟩ := hk
          rw [Op.lookupswitch.offset_cons]
          by_cases hx : x.toInt = k
          · rw [if_pos hx.symm]
            exact ⟨tgt, K, t1, t2, h.1 hx⟩
          · rw [if_neg (fun z => hx z.symm)]
            exact ih Ks hk (h.2 hx)
    obtain ⟨tgt, K', e1, e2, e3⟩ := key ps.toList Ks hks h
    exact lv_lookup C.1.1 C.1.2.1 hd hp rfl e1 (e2 _ _ _ _ _ e3 H locs cells slots la hl hW hin hS h1 h2)
  · exact h.elim
theorem xs_iret (C : xm_C p s mm args c cc nL own Ts D cl ats A) {Rh : Option Value → xm_M → Prop} {mc ms : Nat} (hd : decode cc pc = .ok (.ireturn, 1)) (hr : meth.sig.returnType = some .int) (hlk : meth.locks = false) (hmc : R.cells = mc) (hms : R.slots = ms) : xm_le (xo_iret Rh) (xm_A p l e R s mm args below meth c nL D cl A (MQ below (xm_Q D cl Rh A) args s mc ms A) pc) := by
  intro ls st m bc bs h H locs cells slots la hl hW hin hS h1 h2
  simp only [xo_iret] at h
  split at h
  · refine W.widen (k := mc) (n := ms) (by omega) (by omega) ?_
    exact W.iret C.1.1 C.1.2.1 hr (fun t ht hw => ⟨⟨_, m, rfl, h, by rw [ht]; exact hW, hin⟩, hS.F ht⟩) hS.2.2 hd hlk
  · exact h.elim
theorem xs_zret (C : xm_C p s mm args c cc nL own Ts D cl ats A) {Rh : Option Value → xm_M → Prop} {mc ms : Nat} (hd : decode cc pc = .ok (.ireturn, 1)) (hr : meth.sig.returnType = some .boolean) (hlk : meth.locks = false) (hmc : R.cells = mc) (hms : R.slots = ms) : xm_le (xo_zret Rh) (xm_A p l e R s mm args below meth c nL D cl A (MQ below (xm_Q D cl Rh A) args s mc ms A) pc) := by
  intro ls st m bc bs h H locs cells slots la hl hW hin hS h1 h2
  simp only [xo_zret] at h
  split at h
  · obtain ⟨hv, h⟩ := h
    refine W.widen (k := mc) (n := ms) (by omega) (by omega) ?_
    exact W.zret C.1.1 C.1.2.1 hr (by rcases hv with rfl | rfl <;> rfl) (fun t ht hw => ⟨⟨_, m, rfl, h, by rw [ht]; exact hW, hin⟩, hS.F ht⟩) hS.2.2 hd hlk
  · exact h.elim
theorem xs_lret (C : xm_C p s mm args c cc nL own Ts D cl ats A) {Rh : Option Value → xm_M → Prop} {mc ms : Nat} (hd : decode cc pc = .ok (.lreturn, 1)) (hr : meth.sig.returnType = some .long) (hlk : meth.locks = false) (hmc : R.cells = mc) (hms : R.slots = ms) : xm_le (xo_lret Rh) (xm_A p l e R s mm args below meth c nL D cl A (MQ below (xm_Q D cl Rh A) args s mc ms A) pc) := by
  intro ls st m bc bs h H locs cells slots la hl hW hin hS h1 h2
  simp only [xo_lret] at h
  split at h
  · refine W.widen (k := mc) (n := ms) (by omega) (by omega) ?_
    exact W.lret C.1.1 C.1.2.1 hr (fun t ht hw => ⟨⟨_, m, rfl, h, by rw [ht]; exact hW, hin⟩, hS.F ht⟩) hS.2.2 hd hlk
  · exact h.elim
theorem xs_aret (C : xm_C p s mm args c cc nL own Ts D cl ats A) {Rh : Option Value → xm_M → Prop} {mc ms : Nat} (hd : decode cc pc = .ok (.areturn, 1)) {rt : FieldType} (hr : meth.sig.returnType = some rt) (hrt : (∃ n, rt = .object n) ∨ ∃ t, rt = .array t) (hlk : meth.locks = false) (hmc : R.cells = mc) (hms : R.slots = ms) : xm_le (xo_aret Rh) (xm_A p l e R s mm args below meth c nL D cl A (MQ below (xm_Q D cl Rh A) args s mc ms A) pc) := by
  intro ls st m bc bs h H locs cells slots la hl hW hin hS h1 h2
  simp only [xo_aret] at h
  split at h
  · obtain ⟨hv, h⟩ := h
    refine W.widen (k := mc) (n := ms) (by omega) (by omega) ?_
    exact W.aret C.1.1 C.1.2.1 hr hrt hv (fun t ht hw => ⟨⟨_, m, rfl, h, by rw [ht]; exact hW, hin⟩, hS.F ht⟩) hS.2.2 hd hlk
  · exact h.elim
theorem xs_vret (C : xm_C p s mm args c cc nL own Ts D cl ats A) {Rh : Option Value → xm_M → Prop} {mc ms : Nat} (hd : decode cc pc = .ok (.return_, 1)) (hr : meth.sig.returnType = none) (hlk : meth.locks = false) (hmc : R.cells = mc) (hms : R.slots = ms) : xm_le (xo_vret Rh) (xm_A p l e R s mm args below meth c nL D cl A (MQ below (xm_Q D cl Rh A) args s mc ms A) pc) := by
  intro ls st m bc bs h H locs cells slots la hl hW hin hS h1 h2
  simp only [xo_vret] at h
  split at h
  · refine W.widen (k := mc) (n := ms) (by omega) (by omega) ?_
    exact W.vret C.1.1 C.1.2.1 hr (fun t ht hw => ⟨⟨_, m, rfl, h, by rw [ht]; exact hW, hin⟩, hS.F ht⟩) hS.2.2 hd hlk
  · exact h.elim
end XS
/-- a method's code by labels: heads of loops; 0 is its entry -/
abbrev xm_F : Type := (Nat → xm_PT) → (Option Value → xm_M → Prop) → Nat → xm_PT
def xm_cp (F : xm_F) (mc ms : Nat) : xm_CP := fun as m Rh => ∀ X : Nat → xm_PT, (∀ l, xm_le (F X Rh l) (X l)) → X 0 (lv_args 0 as) [] m mc ms
theorem xm_met {l : Launch} {D : va_G} {cl : List vw_C} {ats : List FieldType} {y : MethodName} {ws ws' : List Cond} {rm : Room} {mc ms maxL : Nat} {cc : ByteArray} {ret : Option FieldType} {F : xm_F} (n : Nat)
    (hy : plainName y.cls = true) (hw : ws = Cond.code y cc maxL ret :: ws') (hmc : rm.cells = mc) (hms : rm.slots = ms)
    (hF : ∀ (p : Program) (e : Env) (s : State) (mm : MethodId) (args : Array Value) (below : List Frame) (meth : Method) (c : Code) (A : Nat → Prop) (Rh : Option Value → xm_M → Prop), xm_C p s mm args c cc maxL y.cls ws D cl ats A → meth.sig.returnType = ret → meth.locks = false → meth.name = y.name →
      ∀ lb, xm_le (F (xm_A p l e rm s mm args below meth c maxL D cl A (MQ below (xm_Q D cl Rh A) args s mc ms A)) Rh lb) (xm_A p l e rm s mm args below meth c maxL D cl A (MQ below (xm_Q D cl Rh A) args s mc ms A) lb)) :
    xm_Met l D cl ats y ws rm mc ms (fun as m Rh => (lg_sl as).length ≤ maxL ∧ xm_cp F mc ms as m Rh) := by
  intro as m sz Rh h
  refine Met.ofW hy hw ?_
  intro p e s mm args below meth c s₁ B hml hv
  obtain ⟨rfl, hsz, hP, hK, hN⟩ := hv
  subst hsz
  have hC : xm_C p s mm as.toArray c cc maxL y.cls ws D cl ats (xm_As m s.heap.size) := ⟨⟨B.exec, B.bytes, hml, findClass_of_methodNamed B.named, atoms_spec (ws := ws) B.pre⟩, hK, fun q hq => Or.inr hq, hN⟩
  have hX := h.2 _ (hF p e s mm as.toArray below meth c (xm_As m s.heap.size) Rh hC B.returns B.notSynchronized (name_of_methodNamed B.named B.method).1)
  rw [lg_entry_eq]
  exact hX s.heap [] 0 0 _ (lv_entry as h.1) hP (fun a ha => Or.inl ha) va_S.rf (by show 0 + mc ≤ rm.cells; omega) (by show 0 + ms ≤ rm.slots; omega)
