/-! the reference's methods over the value: leaves -/
def jI : Nat → Int32
  | 0 => -1
  | n + 1 => nI n
theorem jI_dec (n : Nat) : nI n + (-1) = jI n := by
  cases n with
  | zero => rfl
  | succ n => exact pk_m1 n
def exm (c : Cp) (now : Int32) : Bool := !c.tmb && exq c now
def thm (v : Vt) (k : Nat) : Bool := match v.ent k with
  | none => false
  | some e => !e.1.tmb && !exm e.1 v.clk
def fsm (v : Vt) (s : Nat) : Nat → Option Nat → Option Nat
  | 0, a => a
  | b + 1, a => fsm v s b (if v.sta b = s then (match a with
    | none => some b
    | some x => if s = 2 then (if v.sat x ≤ v.sat b then some x else some b) else some b) else a)
def rmm : List Cp → Int32 → Int32
  | [], a => a
  | c :: l, a => rmm l (a - nI c.siz)
def um (v : Vt) (b : Nat) : List Cp → Nat → Nat → Nat
  | [], _, a => a
  | c :: l, p, a => um v b l (p + 1) (if eI (v.ent c.key) = nI (12 * b + p) then a + c.siz else a)
def stp1 (v : Vt) (w : Int32) (b : Nat) : Vt := if v.sta b = 3 ∧ um v b (v.row b) 0 0 = 0 then (v.setR b []).setB b (4, v.sat b, w) else v
def stl (w : Int32) : Nat → Nat → Vt → Vt
  | 0, _, v => v
  | n + 1, b, v => stl w n (b + 1) (frw (stp1 v w b) b)
def settle (v : Vt) : Vt := stl (unw v 8 0 0) 8 0 v
theorem um_le {v : Vt} {b : Nat} : ∀ (l : List Cp) p a, (∀ c, c ∈ l → c.key < 16 ∧ c.siz ≤ 6) → um v b l p a ≤ a + 6 * l.length := by
  intro l
  induction l with
  | nil => intro p a _; simp [um]
  | cons c l ih =>
    intro p a hl
    have h1 := (hl c List.mem_cons_self).2
    have h2 := fun a => ih (p + 1) a (fun d hd => hl d (List.mem_cons_of_mem _ hd))
    simp only [um, List.length_cons]
    split
    · have := h2 (a + c.siz); omega
    · have := h2 a; omega
section
variable {am : Nat → Nat} {m : xm_M} {A : Nat → Nat → Int32} {S : Sc} {v : Vt} {K : xm_PT} {ls : xm_L} {st : List Value} {bc bs : Nat} {Rh : Option Value → xm_M → Prop}
theorem Rv.eS (h : Rv A S v) : S = scV v := h.2.2.2.2
theorem p_M_expired (h : RM am m A S) (hv : Rv A S v) {j : Nat} {c : Cp} (hj : j < 193) (hc : mcA A j c) (k : Rh (some (.int (bI (exm c v.clk)))) m) : cp_M_expired [.ref (am 0), .int (nI j)] m Rh := by
  refine ⟨Nat.le_of_ble_eq_true rfl, fun X hX => eM_expired_0 hX ?_⟩
  unfold cM_expired_0
  have hS := hv.eS
  subst hS
  obtain ⟨h0, h1, h2, h3, h4, h5, h6⟩ := hc
  refine zg h 0 (by omega) rfl <| xr_iload rfl <| zz h rfl hj <| xr_if (fun a1 => ?_) (fun a1 => ?_)
  · rw [h0, bI_0] at a1
    refine zg h 5 (by omega) rfl <| xr_iload rfl <| za h 5 rfl (by omega) hj <| xr_if (fun a2 => ?_) (fun a2 => ?_)
    · rw [h5] at a2
      exact xr_push <| xr_zret (Or.inl rfl) (by simpa [exm, exq, a1, a2, bI] using k)
    · rw [h5] at a2
      refine zg h 5 (by omega) rfl <| xr_iload rfl <| za h 5 rfl (by omega) hj <| xr_aload rfl <| xr_get h.2.1 rfl <| xr_cmp (fun a3 => ?_) (fun a3 => ?_)
      · rw [h5] at a3
        have a3 : v.clk < c.voi := a3
        exact xr_push <| xr_zret (Or.inl rfl) (by simpa [exm, exq, a1, a2, a3, bI] using k)
      · rw [h5] at a3
        have a3 : ¬ v.clk < c.voi := a3
        exact xr_push <| xr_zret (Or.inr rfl) (by simpa [exm, exq, a1, a2, a3, bI] using k)
  · rw [h0, bI_0] at a1
    exact xr_push <| xr_zret (Or.inl rfl) (by simpa [exm, a1, bI] using k)
theorem Rv.ent0 (hv : Rv A S v) {k : Nat} (hk : k < 16) (he : v.ent k = none) : A 11 k = -1 := by rw [hv.2.2.2.1 k hk, he]; rfl
theorem Rv.ent1 (hv : Rv A S v) (hE : EC v) {k : Nat} (hk : k < 16) {c : Cp} {hh p : Nat} (he : v.ent k = some (c, hh, p)) : A 11 k = nI (12 * hh + p) ∧ 12 * hh + p < 96 ∧ mcA A (12 * hh + p) c := by
  obtain ⟨h1, h2⟩ := hE k hk c hh p he
  have := hv.idx (r := hh) (by omega) h2
  refine ⟨by rw [hv.2.2.2.1 k hk, he]; rfl, by omega, hv.1 hh (by omega) p c h2⟩
theorem p_M_isThere (h : RM am m A S) (hv : Rv A S v) (hE : EC v) {k : Nat} (hk : k < 16) (q : Rh (some (.int (bI (thm v k)))) m) : cp_M_isThere [.ref (am 0), .int (nI k)] m Rh := by
  refine ⟨Nat.le_of_ble_eq_true rfl, fun X hX => eM_isThere_0 hX ?_⟩
  unfold cM_isThere_0
  refine zg h 11 (by omega) rfl <| xr_iload rfl <| za h 11 rfl (by omega) hk <| ?_
  cases he : v.ent k with
  | none =>
    rw [hv.ent0 hk he]
    exact xr_ift (by decide) <| xr_push <| xr_zret (Or.inl rfl) (by simpa [thm, he, bI] using q)
  | some e =>
    obtain ⟨c, hh, p⟩ := e
    obtain ⟨g1, g2, g3⟩ := hv.ent1 hE hk he
    rw [g1]
    refine xr_iff (nI_pos (by omega)) <| zg h 0 (by omega) rfl <| zg h 11 (by omega) rfl <| xr_iload rfl <| za h 11 rfl (by omega) hk <| ?_
    rw [g1]
    refine zz h rfl (by omega) <| xr_if (fun a1 => ?_) (fun a1 => ?_)
    · rw [g3.1, bI_0] at a1
      refine xr_aload rfl <| zg h 11 (by omega) rfl <| xr_iload rfl <| za h 11 rfl (by omega) hk <| ?_
      rw [g1]
      refine xr_callV (by decide) (by decide) rfl (by decide) h.2.1 <| p_M_expired h hv (by omega) g3 <| xr_if (fun a2 => ?_) (fun a2 => ?_)
      · rw [bI_0] at a2
        exact xr_push <| xr_zret (Or.inr rfl) (by simpa [thm, he, a1, a2, bI] using q)
      · rw [bI_0] at a2
        exact xr_push <| xr_zret (Or.inl rfl) (by simpa [thm, he, a1, a2, bI] using q)
    · rw [g3.1, bI_0] at a1
      exact xr_push <| xr_zret (Or.inl rfl) (by simpa [thm, he, a1, bI] using q)
theorem p_M_sealed (h : RM am m A S) (hv : Rv A S v) (hw : Wf v) (q : Rh (some (.int (nI (cis v 2 8 0 0)))) m) : cp_M_sealed [.ref (am 0)] m Rh := by
  refine ⟨Nat.le_of_ble_eq_true rfl, fun X hX => ?_⟩
  have L : ∀ n b a, b + n = 8 → Rh (some (.int (nI (cis v 2 n b a)))) m → X 4 [(0, .ref (am 0)), (1, .int (nI a)), (2, .int (nI b))] [] m 0 0 := by
    intro n
    induction n with
    | zero =>
      intro b a hb q
      have : b = 8 := by omega
      subst this
      refine eM_sealed_4 hX ?_
      unfold cM_sealed_4
      exact xr_iload rfl <| xr_push <| xr_cmpt (Int32.le_refl _) <| xr_iload rfl <| xr_iret q
    | succ n ih =>
      intro b a hb q
      refine eM_sealed_4 hX ?_
      unfold cM_sealed_4
      have hb8 : b < 8 := by omega
      have h4 := (hw.1 b hb8).1
      refine xr_iload rfl <| xr_push <| xr_cmpf (nI_ge hb8 (by decide)) <| zg h 8 (by omega) rfl <| xr_iload rfl <| za h 8 rfl (by omega) hb8 <| xr_push <| ?_
      rw [(hv.2.2.1 b hb8).1]
      refine xr_cmp (fun h1 => ?_) (fun h1 => ?_)
      · rw [nI_eq (by omega) (by omega)] at h1
        refine xr_iinc rfl <| xr_iinc rfl <| xr_jmp rfl ?_
        rw [nI_1, nI_1]
        exact ih (b + 1) (a + 1) (by omega) (by simpa [cis, h1] using q)
      · rw [nI_eq (by omega) (by omega)] at h1
        refine xr_iinc rfl <| xr_jmp rfl ?_
        rw [nI_1]
        exact ih (b + 1) a (by omega) (by simpa [cis, h1] using q)
  refine eM_sealed_0 hX ?_
  unfold cM_sealed_0
  exact xr_push <| xr_istore <| xr_push <| xr_istore <| xr_jmp rfl (L 8 0 0 rfl q)
theorem p_M_first (h : RM am m A S) (hv : Rv A S v) (hw : Wf v) {x : Int32} {s : Nat} (hx : x = nI s) (hs : s ≤ 4) (q : Rh (some (.int (oI (fsm v s 8 none)))) m) : cp_M_first [.ref (am 0), .int x] m Rh := by
  refine ⟨Nat.le_of_ble_eq_true rfl, fun X hX => ?_⟩
  subst hx
  have L : ∀ b a, b ≤ 8 → (∀ y, a = some y → y < 8 ∧ v.sta y = s) → Rh (some (.int (oI (fsm v s b a)))) m → X 5 [(0, .ref (am 0)), (1, .int (nI s)), (2, .int (oI a)), (3, .int (jI b))] [] m 0 0 := by
    intro b
    induction b with
    | zero =>
      intro a _ _ q
      refine eM_first_5 hX ?_
      unfold cM_first_5
      exact xr_iload rfl <| xr_ift (by decide) <| xr_iload rfl <| xr_iret q
    | succ b ih =>
      intro a hb ha q
      refine eM_first_5 hX ?_
      unfold cM_first_5
      have hb8 : b < 8 := by omega
      have h4 := hw.1 b hb8
      refine xr_iload rfl <| xr_iff (nI_pos (by omega)) <| zg h 8 (by omega) rfl <| xr_iload rfl <| za h 8 rfl (by omega) hb8 <| xr_iload rfl <| ?_
      rw [(hv.2.2.1 b hb8).1]
      have step : ∀ a', (∀ y, a' = some y → y < 8 ∧ v.sta y = s) → Rh (some (.int (oI (fsm v s b a')))) m → X 5 [(0, .ref (am 0)), (1, .int (nI s)), (2, .int (oI a')), (3, .int (nI b + (-1)))] [] m 0 0 := by
        intro a' ha' q'
        rw [jI_dec]
        exact ih a' (by omega) ha' q'
      refine xr_cmp (fun h1 => ?_) (fun h1 => ?_)
      · rw [nI_eq (by omega) (by omega)] at h1
        cases a with
        | none => exact xr_iload rfl <| xr_ift (by decide) <| xr_iload rfl <| xr_istore <| xr_iinc rfl <| xr_jmp rfl (step (some b) (fun y hy => by cases hy; exact ⟨hb8, h1⟩) (by simpa [fsm, h1] using q))
        | some y =>
          obtain ⟨hy8, hys⟩ := ha y rfl
          have h5 := hw.1 y hy8
          refine xr_iload rfl <| xr_iff (nI_pos (by omega)) <| xr_iload rfl <| xr_push <| xr_cmp (fun h2 => ?_) (fun h2 => ?_)
          · rw [nI_eq (by omega) (by omega)] at h2
            subst h2
            refine zg h 9 (by omega) rfl <| xr_iload rfl <| za h 9 rfl (by omega) hb8 <| zg h 9 (by omega) rfl <| xr_iload rfl <| za h 9 rfl (by omega) hy8 <| ?_
            rw [(hv.2.2.1 b hb8).2.2 h1, (hv.2.2.1 y hy8).2.2 hys]
            refine xr_cmp (fun h3 => ?_) (fun h3 => ?_)
            · rw [nI_leI (by omega) (by omega)] at h3
              exact xr_iinc rfl <| xr_jmp rfl (step (some y) ha (by simpa [fsm, h1, show v.sat y ≤ v.sat b by omega] using q))
            · rw [nI_leI (by omega) (by omega)] at h3
              exact xr_iload rfl <| xr_istore <| xr_iinc rfl <| xr_jmp rfl (step (some b) (fun y hy => by cases hy; exact ⟨hb8, h1⟩) (by simpa [fsm, h1, show ¬ v.sat y ≤ v.sat b by omega] using q))
          · rw [nI_eq (by omega) (by omega)] at h2
            exact xr_iload rfl <| xr_istore <| xr_iinc rfl <| xr_jmp rfl (step (some b) (fun y hy => by cases hy; exact ⟨hb8, h1⟩) (by simpa [fsm, h1, h2] using q))
      · rw [nI_eq (by omega) (by omega)] at h1
        exact xr_iinc rfl <| xr_jmp rfl (step a ha (by simpa [fsm, h1] using q))
  refine eM_first_0 hX ?_
  unfold cM_first_0
  exact xr_push <| xr_istore <| xr_push <| xr_istore <| xr_jmp rfl (L 8 none (Nat.le_refl 8) (fun y hy => by cases hy) q)
theorem p_M_room (h : RM am m A S) (hv : Rv A S v) {b : Nat} (hb : b < 8) (q : Rh (some (.int (rmm (v.row b) (nI 12)))) m) : cp_M_room [.ref (am 0), .int (nI b)] m Rh := by
  refine ⟨Nat.le_of_ble_eq_true rfl, fun X hX => ?_⟩
  have h12 := (hv.2.1 b (by omega)).2
  have hmn := (hv.2.1 b (by omega)).1
  have L : ∀ n p a, p + n = (v.row b).length → Rh (some (.int (rmm ((v.row b).drop p) a))) m → X 8 [(0, .ref (am 0)), (1, .int (nI b)), (2, .int a), (3, .int (nI (12 * b + p)))] [] m 0 0 := by
    intro n
    induction n with
    | zero =>
      intro p a hp q
      refine eM_room_8 hX ?_
      unfold cM_room_8
      refine xr_iload rfl <| xr_push <| xr_iload rfl <| xr_ibin <| zg h 7 (by omega) rfl <| xr_iload rfl <| za h 7 rfl (by omega) (show b < 16 by omega) <| xr_ibin <| ?_
      rw [hmn, pk_mul, nI_add]
      have : p = (v.row b).length := by omega
      subst this
      exact xr_cmpt (Int32.le_refl _) <| xr_iload rfl <| xr_iret (by simpa [rmm] using q)
    | succ n ih =>
      intro p a hp q
      refine eM_room_8 hX ?_
      unfold cM_room_8
      obtain ⟨c, hc, hd⟩ := drop_at (l := v.row b) (p := p) (by omega)
      have hm := hv.1 b (by omega) p c hc
      refine xr_iload rfl <| xr_push <| xr_iload rfl <| xr_ibin <| zg h 7 (by omega) rfl <| xr_iload rfl <| za h 7 rfl (by omega) (show b < 16 by omega) <| xr_ibin <| ?_
      rw [hmn, pk_mul, nI_add]
      refine xr_cmpf (nI_ge (by omega) (by omega)) <| xr_iload rfl <| zg h 3 (by omega) rfl <| xr_iload rfl <| za h 3 rfl (by omega) (show 12 * b + p < 193 by omega) <| xr_ibin <| xr_istore <| xr_iinc rfl <| xr_jmp rfl ?_
      rw [nI_1, hm.2.2.2.1]
      exact ih (p + 1) _ (by omega) (by rw [hd] at q; simpa [rmm] using q)
  refine eM_room_0 hX ?_
  unfold cM_room_0
  refine xr_push <| xr_istore <| xr_push <| xr_iload rfl <| xr_ibin <| xr_istore <| xr_jmp rfl ?_
  rw [pk_mul]
  exact L _ 0 _ (Nat.zero_add _) (by simpa using q)
theorem p_M_used (h : RM am m A S) (hv : Rv A S v) (hw : Wf v) {b : Nat} (hb : b < 8) (q : Rh (some (.int (nI (um v b (v.row b) 0 0)))) m) : cp_M_used [.ref (am 0), .int (nI b)] m Rh := by
  refine ⟨Nat.le_of_ble_eq_true rfl, fun X hX => ?_⟩
  have h12 := (hv.2.1 b (by omega)).2
  have hmn := (hv.2.1 b (by omega)).1
  have L : ∀ n p a, p + n = (v.row b).length → Rh (some (.int (nI (um v b ((v.row b).drop p) p a)))) m → X 7 [(0, .ref (am 0)), (1, .int (nI b)), (2, .int (nI a)), (3, .int (nI (12 * b + p)))] [] m 0 0 := by
    intro n
    induction n with
    | zero =>
      intro p a hp q
      refine eM_used_7 hX ?_
      unfold cM_used_7
      refine xr_iload rfl <| xr_push <| xr_iload rfl <| xr_ibin <| zg h 7 (by omega) rfl <| xr_iload rfl <| za h 7 rfl (by omega) (show b < 16 by omega) <| xr_ibin <| ?_
      rw [hmn, pk_mul, nI_add]
      have : p = (v.row b).length := by omega
      subst this
      exact xr_cmpt (Int32.le_refl _) <| xr_iload rfl <| xr_iret (by simpa [um] using q)
    | succ n ih =>
      intro p a hp q
      refine eM_used_7 hX ?_
      unfold cM_used_7
      obtain ⟨c, hc, hd⟩ := drop_at (l := v.row b) (p := p) (by omega)
      have hm := hv.1 b (by omega) p c hc
      have hck := (hw.2.2.1 b (by omega) c (List.mem_of_getElem? hc)).1
      refine xr_iload rfl <| xr_push <| xr_iload rfl <| xr_ibin <| zg h 7 (by omega) rfl <| xr_iload rfl <| za h 7 rfl (by omega) (show b < 16 by omega) <| xr_ibin <| ?_
      rw [hmn, pk_mul, nI_add]
      refine xr_cmpf (nI_ge (by omega) (by omega)) <| zg h 11 (by omega) rfl <| zg h 1 (by omega) rfl <| xr_iload rfl <| za h 1 rfl (by omega) (show 12 * b + p < 193 by omega) <| za h 11 hm.2.1 (by omega) hck <| xr_iload rfl <| ?_
      rw [hv.2.2.2.1 _ hck]
      rw [hd] at q
      refine xr_cmp (fun h1 => ?_) (fun h1 => ?_)
      · refine xr_iload rfl <| zg h 3 (by omega) rfl <| xr_iload rfl <| za h 3 rfl (by omega) (show 12 * b + p < 193 by omega) <| xr_ibin <| xr_istore <| xr_iinc rfl <| xr_jmp rfl ?_
        rw [nI_1, hm.2.2.2.1, nI_add]
        exact ih (p + 1) _ (by omega) (by simpa [um, h1] using q)
      · refine xr_iinc rfl <| xr_jmp rfl ?_
        rw [nI_1]
        exact ih (p + 1) _ (by omega) (by simpa [um, h1] using q)
  refine eM_used_0 hX ?_
  unfold cM_used_0
  refine xr_push <| xr_istore <| xr_push <| xr_iload rfl <| xr_ibin <| xr_istore <| xr_jmp rfl ?_
  rw [pk_mul]
  exact L _ 0 0 (Nat.zero_add _) (by simpa using q)
theorem p_M_close (h : RM am m A S) (hv : Rv A S v) {b : Nat} (hb : b < 8) (q : ∀ m' A', RM am m' A' (scV (sealB v b)) → Rv A' (scV (sealB v b)) (sealB v b) → FrM m m' → (∀ i, i ≤ 6 → A' i = A i) → Rh none m') : cp_M_close [.ref (am 0), .int (nI b)] m Rh := by
  refine ⟨Nat.le_of_ble_eq_true rfl, fun X hX => eM_close_0 hX ?_⟩
  unfold cM_close_0
  have hS := hv.eS
  subst hS
  refine zg h 8 (by omega) rfl <| xr_iload rfl <| xr_push <| zs h 8 rfl (by omega) hb (fun m1 h1 f1 => ?_)
  have h2 := h1.upS (v.clk, v.nst, nI v.sls + 1, v.wrt, v.mvd, v.dwn)
  refine xr_aload rfl <| xr_dup rfl <| xr_get h1.2.1 rfl <| xr_push <| xr_ibin <| xr_put h1.2.1 (by simp) rfl rfl rfl <| zg h2 9 (by omega) rfl <| xr_iload rfl <| xr_aload rfl <| xr_get (xm_up_s _ _ _) rfl <| zs h2 9 rfl (by omega) hb (fun m3 h3 f3 => ?_)
  rw [show nI v.sls + 1 = nI (v.sls + 1) from nI_1 _] at h3
  refine xr_vret (q m3 _ h3 ?_ ((f1.tr (FrM.up h1.2.1 rfl)).tr f3) (fun i hi => by rw [upA_n _ _ _ (by omega), upA_n _ _ _ (by omega)]))
  refine ⟨fun r hr p c hc => mcA_up (mcA_up (hv.1 r hr p c hc) (Or.inl (by omega))) (Or.inl (by omega)), fun r hr => ?_, fun c hc => ?_, fun k hk => ?_, rfl⟩
  · rw [upA_n _ _ _ (by omega), upA_n _ _ _ (by omega)]; exact hv.2.1 r hr
  · rw [upA_n (i := 9) (j := 8) _ _ _ (by omega), upA_s, upA_n (i := 9) (j := 10) _ _ _ (by omega), upA_n (i := 8) (j := 10) _ _ _ (by omega), upA_s, upA_n (i := 8) (j := 9) _ _ _ (by omega)]
    by_cases hcb : c = b
    · subst hcb
      have e : (sealB v c).blk c = (2, v.sls, v.wai c) := Vt.setB_blk _ _ _
      simp only [Vt.sta, Vt.sat, Vt.wai, e, if_true]
      exact ⟨trivial, (hv.2.2.1 c hc).2.1, fun _ => trivial⟩
    · have e : (sealB v b).blk c = v.blk c := Vt.setB_ne _ _ hcb
      simp only [Vt.sta, Vt.sat, Vt.wai, e, if_neg hcb]
      exact hv.2.2.1 c hc
  · rw [upA_n _ _ _ (by omega), upA_n _ _ _ (by omega)]; exact hv.2.2.2.1 k hk
end
