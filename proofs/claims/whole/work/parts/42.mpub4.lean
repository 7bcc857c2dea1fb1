/-! the reference's public methods: image, block, store, flush, crash -/
section
variable {am : Nat → Nat} {m : xm_M} {A : Nat → Nat → Int32} {S : Sc} {v : Vt} {K : xm_PT} {ls : xm_L} {st : List Value} {bc bs B : Nat} {Rh : Option Value → xm_M → Prop}
theorem p_M_image (hQ : QM am m v) {b k : Int32} (q : Rh (some (.int (Fimage v b k))) m) : cp_M_image [.ref (am 0), .int b, .int k] m Rh := by
  refine ⟨Nat.le_of_ble_eq_true rfl, fun X hX => eM_image_0 hX ?_⟩
  unfold cM_image_0
  obtain ⟨A, h, hv⟩ := hQ
  unfold Fimage at q
  refine xr_iload rfl <| xr_push <| xr_push <| xr_callS (by decide) (by decide) rfl (by decide) <| p_M_in <| xr_if (fun a1 => ?_) (fun a1 => ?_)
  · rw [in_0, in_blk] at a1
    exact xr_push <| xr_iret (by rw [if_pos a1] at q; exact q)
  · rw [in_0, in_blk] at a1
    rw [if_neg a1] at q
    obtain ⟨x, hx, rfl⟩ := blk_not a1
    rw [kk_nI (by omega)] at q
    have hl := (hv.2.1 (8 + x) (by omega)).2
    refine xr_iload rfl <| xr_push <| zg h 7 (by omega) rfl <| xr_push <| xr_iload rfl <| xr_ibin <| za h 7 (nI_add 8 x) (by omega) (show 8 + x < 16 by omega) <| xr_push <| xr_ibin <| ?_
    rw [(hv.2.1 (8 + x) (by omega)).1]
    have key : ∀ L : Nat, L ≤ 12 → (nI L - 1 < k ↔ nI L ≤ k) := by
      intro L hL
      cases L with
      | zero =>
        rw [show nI 0 - 1 = (-1 : Int32) from rfl, Int32.lt_iff_toInt_lt, Int32.le_iff_toInt_le, show (-1 : Int32).toInt = -1 from rfl, nI_toInt (by omega)]; omega
      | succ L =>
        rw [nI_pred, Int32.lt_iff_toInt_lt, Int32.le_iff_toInt_le, nI_toInt (by omega), nI_toInt (by omega)]; omega
    refine xr_callS (by decide) (by decide) rfl (by decide) <| p_M_in <| xr_if (fun a2 => ?_) (fun a2 => ?_)
    · rw [in_0] at a2
      have hc : k < 0 ∨ nI (v.row (8 + x)).length ≤ k := by
        by_cases z : k < 0
        · exact Or.inl z
        · exact Or.inr ((key _ hl).mp (Classical.byContradiction (fun y => a2 ⟨z, y⟩)))
      exact xr_push <| xr_iret (by rw [if_pos hc] at q; exact q)
    · rw [in_0, Classical.not_not] at a2
      have hc : ¬ (k < 0 ∨ nI (v.row (8 + x)).length ≤ k) := by
        rintro (z | z)
        · exact a2.1 z
        · exact a2.2 ((key _ hl).mpr z)
      rw [if_neg hc] at q
      obtain ⟨j, hj, rfl⟩ := nI_of a2.1
      have hjl : j < (v.row (8 + x)).length := by
        have := hc
        rw [nI_leI (by omega) (by omega)] at this
        have : ¬ (v.row (8 + x)).length ≤ j := fun z => this (Or.inr z)
        omega
      rw [kk_nI (by omega)] at q
      have hcx : (v.row (8 + x))[j]? = some (v.row (8 + x))[j] := by simp [hjl]
      rw [hcx] at q
      have hm := hv.1 (8 + x) (by omega) j _ hcx
      refine zg h 6 (by omega) rfl <| xr_push <| xr_push <| xr_iload rfl <| xr_ibin <| xr_ibin <| xr_iload rfl <| xr_ibin <| za h 6 (p := 12 * (8 + x) + j) ?_ (by omega) (show 12 * (8 + x) + j < 193 by omega) <| xr_iret ?_
      · rw [pk_mul, nI_add, nI_add]; congr 1; omega
      · rw [hm.2.2.2.2.2.2]; exact q
def bcl (w : Int32) : Nat → Nat → Nat → Nat
  | 0, _, a => a
  | n + 1, x, a => bcl w n (x + 1) (if (w >>> (nI x &&& 31)) &&& 1 = 1 then a + 1 else a)
theorem bcl_bcn : ∀ j, j < 256 → nI (bcl (nI j) 8 0 0) = bcn (nI j) := by decide +kernel
theorem Pinv.bcn (h : Pinv B v) {b : Nat} (hb : b < 8) : nI (bcl (v.wai b) 8 0 0) = bcn (v.wai b) := by
  obtain ⟨j, h1, h2⟩ := pk_andE (v.wai b) (m := 255) 8 rfl
  rw [(h.wai b hb).2] at h2
  rw [h2]
  exact bcl_bcn j h1
theorem p_M_block (hQ : QM am m v) (hI : Inv B v) (hB : B < 2 ^ 30) {b what : Int32} (q : Rh (some (.int (Fblock v b what))) m) : cp_M_block [.ref (am 0), .int b, .int what] m Rh := by
  refine ⟨Nat.le_of_ble_eq_true rfl, fun X hX => eM_block_0 hX ?_⟩
  unfold cM_block_0
  obtain ⟨A, h, hv⟩ := hQ
  have hw := hI.p.wf hB
  unfold Fblock at q
  refine xr_iload rfl <| xr_push <| xr_push <| xr_callS (by decide) (by decide) rfl (by decide) <| p_M_in <| xr_if (fun a1 => ?_) (fun a1 => ?_)
  · rw [in_0, in_blk] at a1
    exact xr_push <| xr_iret (by rw [if_pos a1] at q; exact q)
  · rw [in_0, in_blk] at a1
    rw [if_neg a1] at q
    obtain ⟨x, hx, rfl⟩ := blk_not a1
    rw [kk_nI (by omega)] at q
    refine xr_iload rfl <| xr_push <| xr_push <| xr_callS (by decide) (by decide) rfl (by decide) <| p_M_in <| xr_if (fun a2 => ?_) (fun a2 => ?_)
    · rw [in_0, in_rng] at a2
      refine xr_push <| xr_iret ?_
      have hr : what.toInt < 0 ∨ 4 < what.toInt := by
        rcases a2 with z | z
        · exact Or.inl (Int32.lt_iff_toInt_lt.mp z)
        · rw [Int32.not_le, Int32.lt_iff_toInt_lt, nI_toInt (by omega)] at z; exact Or.inr (by omega)
      rw [if_neg (by omega), if_neg (by omega), if_neg (by omega), if_neg (by omega), if_neg (by omega)] at q
      exact q
    · rw [in_0, in_rng] at a2
      have hr : 0 ≤ what.toInt ∧ what.toInt ≤ 4 := by
        constructor
        · have : ¬ what < 0 := fun z => a2 (Or.inl z)
          rw [Int32.lt_iff_toInt_lt] at this
          have h0 : (0 : Int32).toInt = 0 := rfl
          omega
        · have : what ≤ nI 4 := Classical.byContradiction (fun z => a2 (Or.inr z))
          rw [Int32.le_iff_toInt_le, nI_toInt (by omega)] at this
          omega
      have g := hv.2.2.1 x hx
      have h4 := (hw.1 x hx).1
      have hsz := (hI.p.row x (by omega)).2
      have L : ∀ n y a, y + n = 8 → (v.sta x = 4 → bcl (v.wai x) n y a = bcl (v.wai x) 8 0 0) → (v.sta x ≠ 4 → a = 0) → X 26 [(0, .ref (am 0)), (1, .int (nI x)), (2, .int what), (3, .int (nI a)), (4, .int (nI y))] [] m 0 0 := by
        intro n
        induction n with
        | zero =>
          intro y a hy e1 e2
          refine eM_block_26 hX ?_
          unfold cM_block_26
          have : y = 8 := by omega
          subst this
          refine xr_iload rfl <| xr_push <| xr_cmpt (Int32.le_refl _) <| xr_iload rfl <| xr_tsw <| xr_sw (fun a0 => ?_) (fun a0 => xr_sw (fun a1 => ?_) (fun a1 => xr_sw (fun a2 => ?_) (fun a2 => xr_sw (fun a3 => ?_) (fun a3 => xr_sd ?_))))
          · rw [if_pos a0] at q
            exact zg h 8 (by omega) rfl <| xr_iload rfl <| za h 8 rfl (by omega) hx <| xr_iret (by rw [g.1]; exact q)
          · have a1 : what.toInt = 1 := a1
            rw [if_neg a0, if_pos a1] at q
            exact xr_aload rfl <| xr_iload rfl <| xr_callV (by decide) (by decide) rfl (by decide) h.2.1 <| p_M_used h hv hw hx <| xr_iret (by rw [um_usd hI.p hx]; exact q)
          · have a1 : ¬ what.toInt = 1 := a1
            have a2 : what.toInt = 2 := a2
            rw [if_neg a0, if_neg a1, if_pos a2] at q
            refine xr_push <| xr_aload rfl <| xr_iload rfl <| xr_callV (by decide) (by decide) rfl (by decide) h.2.1 <| p_M_room h hv hx <| xr_ibin <| xr_iret ?_
            rw [rmm_eq _ 12 hsz, pk_sub (by omega), show 12 - (12 - szs (v.row x)) = szs (v.row x) by omega]
            exact q
          · have a1 : ¬ what.toInt = 1 := a1
            have a2 : ¬ what.toInt = 2 := a2
            have a3 : what.toInt = 3 := a3
            rw [if_neg a0, if_neg a1, if_neg a2, if_pos a3] at q
            exact zg h 7 (by omega) rfl <| xr_push <| xr_iload rfl <| xr_ibin <| za h 7 (nI_add 8 x) (by omega) (show 8 + x < 16 by omega) <| xr_iret (by rw [(hv.2.1 (8 + x) (by omega)).1]; exact q)
          · have a1 : ¬ what.toInt = 1 := a1
            have a2 : ¬ what.toInt = 2 := a2
            have a3 : ¬ what.toInt = 3 := a3
            rw [if_neg a0, if_neg a1, if_neg a2, if_neg a3, if_pos (by omega)] at q
            refine xr_iload rfl <| xr_iret ?_
            by_cases hs : v.sta x = 4
            · have e1 : a = bcl (v.wai x) 8 0 0 := e1 hs
              rw [e1, hI.p.bcn hx]; exact q
            · rw [e2 hs]
              rw [(hI.p.wai x hx).1 hs] at q
              exact q
        | succ n ih =>
          intro y a hy e1 e2
          refine eM_block_26 hX ?_
          unfold cM_block_26
          refine xr_iload rfl <| xr_push <| xr_cmpf (nI_ge (show y < 8 by omega) (by decide)) <| zg h 8 (by omega) rfl <| xr_iload rfl <| za h 8 rfl (by omega) hx <| xr_push <| ?_
          rw [g.1]
          refine xr_cmp (fun c1 => ?_) (fun c1 => ?_)
          · rw [nI_eq (by omega) (by omega)] at c1
            refine zg h 10 (by omega) rfl <| xr_iload rfl <| za h 10 rfl (by omega) hx <| xr_iload rfl <| xr_ibin <| xr_push <| xr_ibin <| xr_push <| ?_
            rw [g.2.1]
            refine xr_cmp (fun c2 => ?_) (fun c2 => ?_)
            · refine xr_iinc rfl <| xr_iinc rfl <| xr_jmp rfl ?_
              rw [nI_1, nI_1]
              refine ih (y + 1) (a + 1) (by omega) (fun z => ?_) (fun z => absurd c1 z)
              have := e1 z
              rw [bcl, if_pos c2] at this
              exact this
            · refine xr_iinc rfl <| xr_jmp rfl ?_
              rw [nI_1]
              refine ih (y + 1) a (by omega) (fun z => ?_) (fun z => absurd c1 z)
              have := e1 z
              rw [bcl, if_neg c2] at this
              exact this
          · rw [nI_eq (by omega) (by omega)] at c1
            refine xr_iinc rfl <| xr_jmp rfl ?_
            rw [nI_1]
            exact ih (y + 1) a (by omega) (fun z => absurd z c1) e2
      exact xr_push <| xr_istore <| xr_push <| xr_istore <| xr_jmp rfl (L 8 0 0 rfl (fun _ => rfl) (fun _ => rfl))
/-- the image's cells behind its length may be anything -/
theorem Rv.uImg {x n : Nat} (hv : Rv A S v) (hx : x < 16) {l : List Cp} (hl : l.length = n) (h12 : n ≤ 12) (hc : ∀ p c, l[p]? = some c → mcA A (12 * x + p) c) : Rv (upA A 7 x (nI n)) S (v.setR x l) := by
  refine ⟨fun s hs p d hd => ?_, fun s hs => ?_, fun b hb => ?_, fun k hk => ?_, hv.2.2.2.2⟩
  · by_cases hsx : s = x
    · subst hsx
      rw [Vt.setR_row] at hd
      exact mcA_up (hc p d hd) (Or.inl (by omega))
    · rw [Vt.setR_ne _ _ hsx] at hd
      exact mcA_up (hv.1 s hs p d hd) (Or.inl (by omega))
  · rw [upA_s]
    by_cases hsx : s = x
    · subst hsx; rw [Vt.setR_row, if_pos rfl, hl]; exact ⟨rfl, h12⟩
    · rw [Vt.setR_ne _ _ hsx, if_neg hsx]; exact hv.2.1 s hs
  · rw [upA_n _ _ _ (by omega), upA_n _ _ _ (by omega), upA_n _ _ _ (by omega)]; exact hv.2.2.1 b hb
  · rw [upA_n _ _ _ (by omega)]; exact hv.2.2.2.1 k hk
/-- while a row is copied over another -/
def Rvx (x : Nat) (A : Nat → Nat → Int32) (S : Sc) (v : Vt) : Prop :=
  (∀ r, r < 16 → r ≠ x → ∀ p c, (v.row r)[p]? = some c → mcA A (12 * r + p) c) ∧ (∀ r, r < 16 → r ≠ x → A 7 r = nI (v.row r).length ∧ (v.row r).length ≤ 12) ∧
  (∀ b, b < 8 → A 8 b = nI (v.sta b) ∧ A 10 b = v.wai b ∧ (v.sta b = 2 → A 9 b = nI (v.sat b + 1))) ∧ (∀ k, k < 16 → A 11 k = eI (v.ent k)) ∧ S = scV v
theorem Rv.x {x : Nat} (h : Rv A S v) : Rvx x A S v := ⟨fun r hr _ => h.1 r hr, fun r hr _ => h.2.1 r hr, h.2.2.1, h.2.2.2.1, h.2.2.2.2⟩
theorem Rvx.cp {x f p : Nat} (hx : x < 16) (h : Rvx x A S v) (hp : p < 12) : Rvx x (cpA A f (12 * x + p)) S v := by
  have key : ∀ q p', 6 < q → cpA A f (12 * x + p) q p' = A q p' := fun q p' hq => by simp [cpA, show ¬ q ≤ 6 by omega]
  refine ⟨fun r hr hrx p' c hc => mcA_cp (h.1 r hr hrx p' c hc) ?_, fun r hr hrx => ?_, fun b hb => ?_, fun k hk => ?_, h.2.2.2.2⟩
  · have := (h.2.1 r hr hrx).2
    have hp' : p' < (v.row r).length := (List.getElem?_eq_some_iff.mp hc).1
    omega
  · rw [key 7 r (by omega)]; exact h.2.1 r hr hrx
  · rw [key 8 b (by omega), key 9 b (by omega), key 10 b (by omega)]; exact h.2.2.1 b hb
  · rw [key 11 k (by omega)]; exact h.2.2.2.1 k hk
theorem Rvx.fin {x : Nat} (h : Rvx x A S v) {l : List Cp} (h12 : l.length ≤ 12) (hc : ∀ p c, l[p]? = some c → mcA A (12 * x + p) c) : Rv (upA A 7 x (nI l.length)) S (v.setR x l) := by
  refine ⟨fun s hs p d hd => ?_, fun s hs => ?_, fun b hb => ?_, fun k hk => ?_, h.2.2.2.2⟩
  · by_cases hsx : s = x
    · subst hsx
      rw [Vt.setR_row] at hd
      exact mcA_up (hc p d hd) (Or.inl (by omega))
    · rw [Vt.setR_ne _ _ hsx] at hd
      exact mcA_up (h.1 s hs hsx p d hd) (Or.inl (by omega))
  · rw [upA_s]
    by_cases hsx : s = x
    · subst hsx; rw [Vt.setR_row, if_pos rfl]; exact ⟨rfl, h12⟩
    · rw [Vt.setR_ne _ _ hsx, if_neg hsx]; exact h.2.1 s hs hsx
  · rw [upA_n _ _ _ (by omega), upA_n _ _ _ (by omega), upA_n _ _ _ (by omega)]; exact h.2.2.1 b hb
  · rw [upA_n _ _ _ (by omega)]; exact h.2.2.2.1 k hk
theorem p_M_store (hQ : QM am m v) {b N : Nat} (hb : b < 8) (hN : N ≤ (v.row b).length) (q : ∀ m', QM am m' (v.setR (8 + b) ((v.row b).take N)) → FrM m m' → Rh none m') : cp_M_store [.ref (am 0), .int (nI b), .int (nI N)] m Rh := by
  refine ⟨Nat.le_of_ble_eq_true rfl, fun X hX => ?_⟩
  obtain ⟨A, h, hv⟩ := hQ
  have h12 := (hv.2.1 b (by omega)).2
  have L : ∀ n p m1 A1, p + n = N → RM am m1 A1 (scV v) → Rvx (8 + b) A1 (scV v) v → FrM m m1 → (∀ j c, j < p → (v.row b)[j]? = some c → mcA A1 (12 * (8 + b) + j) c) → X 2 [(0, .ref (am 0)), (1, .int (nI b)), (2, .int (nI N)), (3, .int (nI p))] [] m1 0 0 := by
    intro n
    induction n with
    | zero =>
      intro p m1 A1 hp h1 hv1 f1 hc
      refine eM_store_2 hX ?_
      unfold cM_store_2
      have : p = N := by omega
      subst this
      refine xr_iload rfl <| xr_iload rfl <| xr_cmpt (Int32.le_refl _) <| zg h1 7 (by omega) rfl <| xr_push <| xr_iload rfl <| xr_ibin <| xr_iload rfl <| zs h1 7 (nI_add 8 b) (by omega) (show 8 + b < 16 by omega) (fun m2 h2 f2 => xr_vret (q m2 ⟨_, h2, ?_⟩ (f1.tr f2)))
      have hlen : ((v.row b).take p).length = p := by rw [List.length_take]; omega
      have := hv1.fin (l := (v.row b).take p) (by omega) (fun j c hj => by
        have hjp : j < p := by have := (List.getElem?_eq_some_iff.mp hj).1; omega
        rw [List.getElem?_take_of_lt hjp] at hj
        exact hc j c hjp hj)
      rw [hlen] at this
      exact this
    | succ n ih =>
      intro p m1 A1 hp h1 hv1 f1 hc
      refine eM_store_2 hX ?_
      unfold cM_store_2
      obtain ⟨d, hd, -⟩ := drop_at (l := v.row b) (p := p) (by omega)
      refine xr_iload rfl <| xr_iload rfl <| xr_cmpf (nI_ge (by omega) (by omega)) <| xr_aload rfl <| xr_push <| xr_iload rfl <| xr_ibin <| xr_iload rfl <| xr_ibin <| xr_push <| xr_push <| xr_iload rfl <| xr_ibin <| xr_ibin <| xr_iload rfl <| xr_ibin <| ?_
      rw [pk_mul, nI_add, nI_add, nI_add, show 96 + 12 * b + p = 12 * (8 + b) + p by omega]
      refine xr_callV (by decide) (by decide) rfl (by decide) h1.2.1 <| p_M_copy h1 (f := 12 * b + p) (t := 12 * (8 + b) + p) (by omega) (by omega) (fun m2 h2 f2 => xr_iinc rfl <| xr_jmp rfl ?_)
      rw [nI_1]
      refine ih (p + 1) m2 _ (by omega) h2 (hv1.cp (by omega) (by omega)) (f1.tr f2) (fun j c hj hjc => ?_)
      by_cases hjp : j = p
      · subst hjp
        exact mcA_cpt (hv1.1 b (by omega) (by omega) j c hjc)
      · exact mcA_cp (hc j c (by omega) hjc) (by omega)
  refine eM_store_0 hX ?_
  unfold cM_store_0
  exact xr_push <| xr_istore <| xr_jmp rfl (L N 0 m A (by omega) h hv.x FrM.rf (fun j c hj => by omega))
end
