/-! the reference's public methods: evict, entry, next, rank, image, count -/
section
variable {am : Nat → Nat} {m : xm_M} {A : Nat → Nat → Int32} {S : Sc} {v : Vt} {K : xm_PT} {ls : xm_L} {st : List Value} {bc bs B : Nat} {Rh : Option Value → xm_M → Prop}
theorem thr_some {k : Nat} (h : thr v k = true) : ∃ c hh p, v.ent k = some (c, hh, p) := by
  cases he : v.ent k with
  | none => unfold thr at h; rw [he] at h; cases h
  | some e => exact ⟨e.1, e.2.1, e.2.2, rfl⟩
theorem p_M_evict (hQ : QM am m v) (hI : Inv B v) (hB : B + 40 < 2 ^ 30) {n : Int32} (q : ∀ m', QM am m' (Fevict v n).2 → FrM m m' → Rh (some (.int (Fevict v n).1)) m') : cp_M_evict [.ref (am 0), .int n] m Rh := by
  refine ⟨Nat.le_of_ble_eq_true rfl, fun X hX => ?_⟩
  have L : ∀ N j a v m B, a + j = N → N ≤ 16 → QM am m v → Inv B v → B + 2 * j + 2 < 2 ^ 30 → v.dwn = false → (∀ m', QM am m' (evl j v a).2 → FrM m m' → Rh (some (.int (nI (evl j v a).1))) m') → X 24 [(0, .ref (am 0)), (1, .int (nI N)), (2, .int (nI a))] [] m 0 0 := by
    intro N j
    induction j with
    | zero =>
      intro a v m B hN hN16 hQ hI hB hd q
      refine eM_evict_24 hX ?_
      unfold cM_evict_24
      have : a = N := by omega
      subst this
      exact xr_iload rfl <| xr_iload rfl <| xr_cmpt (Int32.le_refl _) <| xr_iload rfl <| xr_iret (q m hQ FrM.rf)
    | succ j ih =>
      intro a v m B hN hN16 hQ hI hB hd q
      refine eM_evict_24 hX ?_
      unfold cM_evict_24
      obtain ⟨A, h, hv⟩ := hQ
      have hEC := hI.p.ec
      have L34 : ∀ n k o, k + n = 16 → (∀ y, o = some y → y < 16 ∧ ∃ c hh p, v.ent y = some (c, hh, p)) → fte v n k o = fte v 16 0 none → X 34 [(0, .ref (am 0)), (1, .int (nI N)), (2, .int (nI a)), (3, .int (oI o)), (4, .int (nI k))] [] m 0 0 := by
        intro n
        induction n with
        | zero =>
          intro k o hk ho he
          refine eM_evict_34 hX ?_
          unfold cM_evict_34
          have : k = 16 := by omega
          subst this
          have he : o = fte v 16 0 none := he
          simp only [evl, ← he] at q
          refine xr_iload rfl <| xr_push <| xr_cmpt (Int32.le_refl _) <| xr_iload rfl <| ?_
          cases o with
          | none => exact xr_ift (by decide) <| xr_iload rfl <| xr_iret (q m ⟨A, h, hv⟩ FrM.rf)
          | some y =>
            obtain ⟨hy, -⟩ := ho y rfl
            refine xr_iff (nI_pos (by omega)) <| xr_aload rfl <| xr_iload rfl <| xr_callV (by decide) (by decide) rfl (by decide) h.2.1 <| p_M_writeTombstone h hv hI (by omega) hd (hI.p.wtmb hy) (fun e' m' w1 w2 w3 w4 => ?_) (fun f v2 m' w1 w2 w3 w4 w5 => ?_)
            · simp only [w1] at q
              exact xr_iff (Int32.not_le.mpr w2) <| xr_iload rfl <| xr_iret (q m' w3 w4)
            · simp only [w1] at q
              refine xr_ift (by decide) <| xr_iinc rfl <| xr_jmp rfl ?_
              rw [nI_1]
              exact ih (a + 1) v2 m' (B + 2) (by omega) hN16 w4 w2 (by omega) w3 (fun m'' z1 z2 => q m'' z1 (w5.tr z2))
        | succ n ih2 =>
          intro k o hk ho he
          refine eM_evict_34 hX ?_
          unfold cM_evict_34
          have hk16 : k < 16 := by omega
          have step : ∀ o', (∀ y, o' = some y → y < 16 ∧ ∃ c hh p, v.ent y = some (c, hh, p)) → fte v n (k + 1) o' = fte v 16 0 none → X 34 [(0, .ref (am 0)), (1, .int (nI N)), (2, .int (nI a)), (3, .int (oI o')), (4, .int (nI k + 1))] [] m 0 0 := by
            intro o' ho' he'
            rw [nI_1]
            exact ih2 (k + 1) o' (by omega) ho' he'
          refine xr_iload rfl <| xr_push <| xr_cmpf (nI_ge hk16 (by decide)) <| xr_aload rfl <| xr_iload rfl <| xr_callV (by decide) (by decide) rfl (by decide) h.2.1 <| p_M_isThere h hv hEC hk16 <| ?_
          rw [thm_thr]
          refine xr_if (fun a3 => ?_) (fun a3 => ?_)
          · rw [bI_0] at a3
            refine xr_iinc rfl <| xr_jmp rfl (step o ho ?_)
            rw [← he, fte]
            cases v.ent k with
            | none => rfl
            | some e => simp [a3]
          · have ht := bI_n0 a3
            obtain ⟨c, hh, p, hek⟩ := thr_some ht
            obtain ⟨g1, g2, g3⟩ := hv.ent1 hEC hk16 hek
            refine zg h 5 (by omega) rfl <| zg h 11 (by omega) rfl <| xr_iload rfl <| za h 11 rfl (by omega) hk16 <| za h 5 g1 (by omega) (show 12 * hh + p < 193 by omega) <| ?_
            rw [g3.2.2.2.2.2.1]
            refine xr_if (fun a4 => ?_) (fun a4 => ?_)
            · refine xr_iinc rfl <| xr_jmp rfl (step o ho ?_)
              rw [← he, fte, hek]
              simp [ht, a4]
            · have me : ∀ y, some k = some y → y < 16 ∧ ∃ c hh p, v.ent y = some (c, hh, p) := fun y hy => by cases hy; exact ⟨hk16, c, hh, p, hek⟩
              refine xr_iload rfl <| ?_
              cases o with
              | none =>
                refine xr_ift (by decide) <| xr_iload rfl <| xr_istore <| xr_iinc rfl <| xr_jmp rfl (step (some k) me ?_)
                rw [← he, fte, hek]
                simp [ht, a4]
              | some y =>
                obtain ⟨hy, c2, hh2, p2, hey⟩ := ho y rfl
                obtain ⟨i1, i2, i3⟩ := hv.ent1 hEC hy hey
                refine xr_iff (nI_pos (by omega)) <| zg h 5 (by omega) rfl <| zg h 11 (by omega) rfl <| xr_iload rfl <| za h 11 rfl (by omega) hk16 <| za h 5 g1 (by omega) (show 12 * hh + p < 193 by omega) <| zg h 5 (by omega) rfl <| zg h 11 (by omega) rfl <| xr_iload rfl <| za h 11 rfl (by omega) hy <| za h 5 i1 (by omega) (show 12 * hh2 + p2 < 193 by omega) <| ?_
                rw [g3.2.2.2.2.2.1, i3.2.2.2.2.2.1]
                refine xr_cmp (fun a5 => ?_) (fun a5 => ?_)
                · refine xr_iinc rfl <| xr_jmp rfl (step (some y) ho ?_)
                  rw [← he, fte, hek]
                  simp [ht, a4, hey, a5]
                · refine xr_iload rfl <| xr_istore <| xr_iinc rfl <| xr_jmp rfl (step (some k) me ?_)
                  rw [← he, fte, hek]
                  simp [ht, a4, hey, a5]
      exact xr_iload rfl <| xr_iload rfl <| xr_cmpf (nI_ge (by omega) (by omega)) <| xr_push <| xr_istore <| xr_push <| xr_istore <| xr_jmp rfl (L34 16 0 none rfl (fun y hy => by cases hy) rfl)
  refine eM_evict_0 hX ?_
  unfold cM_evict_0
  unfold Fevict at q
  refine xr_iload rfl <| xr_push <| xr_push <| xr_callS (by decide) (by decide) rfl (by decide) <| p_M_in <| xr_if (fun a1 => ?_) (fun a1 => ?_)
  · rw [in_0, in_rng] at a1
    rw [if_pos a1] at q
    exact xr_push <| xr_iret (q m hQ FrM.rf)
  · rw [in_0, in_rng] at a1
    rw [if_neg a1] at q
    obtain ⟨N, hN1, hN16, rfl⟩ := rng_not (n := 16) (by omega) (fun z => a1 (Or.inl z)) (Classical.byContradiction (fun z => a1 (Or.inr z)))
    rw [kk_nI (by omega)] at q
    obtain ⟨A, h, hv⟩ := hQ
    refine xr_aload rfl <| xr_get h.2.1 rfl <| xr_if (fun a5 => ?_) (fun a5 => ?_)
    · have a5 : v.dwn = false := bI_0.mp a5
      rw [if_neg (by rw [a5]; decide)] at q
      exact xr_push <| xr_istore <| xr_jmp rfl (L N N 0 v m B (by omega) hN16 ⟨A, h, hv⟩ hI (by omega) a5 q)
    · have a5 : v.dwn = true := bI_n0 a5
      rw [if_pos a5] at q
      exact xr_push <| xr_iret (q m ⟨A, h, hv⟩ FrM.rf)
theorem p_M_next (hQ : QM am m v) (hI : Inv B v) {key : Int32} (q : Rh (some (.int (Fnext v key))) m) : cp_M_next [.ref (am 0), .int key] m Rh := by
  refine ⟨Nat.le_of_ble_eq_true rfl, fun X hX => ?_⟩
  obtain ⟨A, h, hv⟩ := hQ
  have L : ∀ n k, k + n = 16 → Rh (some (.int (match nxt v key n k with
      | none => -4
      | some k => nI k))) m → X 12 [(0, .ref (am 0)), (1, .int key), (2, .int (nI k))] [] m 0 0 := by
    intro n
    induction n with
    | zero =>
      intro k hk q
      refine eM_next_12 hX ?_
      unfold cM_next_12
      have : k = 16 := by omega
      subst this
      exact xr_iload rfl <| xr_push <| xr_cmpt (Int32.le_refl _) <| xr_push <| xr_iret q
    | succ n ih =>
      intro k hk q
      refine eM_next_12 hX ?_
      unfold cM_next_12
      have hk16 : k < 16 := by omega
      refine xr_iload rfl <| xr_push <| xr_cmpf (nI_ge hk16 (by decide)) <| xr_iload rfl <| xr_iload rfl <| xr_cmp (fun a1 => ?_) (fun a1 => ?_)
      · refine xr_iinc rfl <| xr_jmp rfl ?_
        rw [nI_1]
        exact ih (k + 1) (by omega) (by simpa [nxt, a1] using q)
      · refine zg h 11 (by omega) rfl <| xr_iload rfl <| za h 11 rfl (by omega) hk16 <| ?_
        cases he : v.ent k with
        | none =>
          rw [hv.ent0 hk16 he]
          refine xr_ift (by decide) <| xr_iinc rfl <| xr_jmp rfl ?_
          rw [nI_1]
          exact ih (k + 1) (by omega) (by simpa [nxt, a1, he] using q)
        | some e =>
          obtain ⟨c, hh, p⟩ := e
          obtain ⟨g1, g2, g3⟩ := hv.ent1 hI.p.ec hk16 he
          rw [g1]
          exact xr_iff (nI_pos (by omega)) <| xr_iload rfl <| xr_iret (by simpa [nxt, a1, he] using q)
  refine eM_next_0 hX ?_
  unfold cM_next_0
  unfold Fnext at q
  refine xr_aload rfl <| xr_get h.2.1 rfl <| xr_if (fun a5 => ?_) (fun a5 => ?_)
  · have a5 : v.dwn = false := bI_0.mp a5
    rw [if_neg (by rw [a5]; decide)] at q
    exact xr_push <| xr_istore <| xr_jmp rfl (L 16 0 rfl q)
  · have a5 : v.dwn = true := bI_n0 a5
    rw [if_pos a5] at q
    exact xr_push <| xr_iret q
theorem p_M_rank (hQ : QM am m v) (hI : Inv B v) {key : Int32} (q : Rh (some (.int (Frank v key))) m) : cp_M_rank [.ref (am 0), .int key] m Rh := by
  refine ⟨Nat.le_of_ble_eq_true rfl, fun X hX => ?_⟩
  obtain ⟨A, h, hv⟩ := hQ
  have L : ∀ n k a, k + n = 16 → Rh (some (.int (nI (rnk v key n k a)))) m → X 14 [(0, .ref (am 0)), (1, .int key), (2, .int (nI a)), (3, .int (nI k))] [] m 0 0 := by
    intro n
    induction n with
    | zero =>
      intro k a hk q
      refine eM_rank_14 hX ?_
      unfold cM_rank_14
      have : k = 16 := by omega
      subst this
      exact xr_iload rfl <| xr_push <| xr_cmpt (Int32.le_refl _) <| xr_iload rfl <| xr_iret q
    | succ n ih =>
      intro k a hk q
      refine eM_rank_14 hX ?_
      unfold cM_rank_14
      have hk16 : k < 16 := by omega
      refine xr_iload rfl <| xr_push <| xr_cmpf (nI_ge hk16 (by decide)) <| xr_iload rfl <| xr_iload rfl <| xr_cmp (fun a1 => ?_) (fun a1 => ?_)
      · refine xr_iinc rfl <| xr_jmp rfl ?_
        rw [nI_1]
        exact ih (k + 1) a (by omega) (by simpa [rnk, a1] using q)
      · refine zg h 11 (by omega) rfl <| xr_iload rfl <| za h 11 rfl (by omega) hk16 <| ?_
        cases he : v.ent k with
        | none =>
          rw [hv.ent0 hk16 he]
          refine xr_ift (by decide) <| xr_iinc rfl <| xr_jmp rfl ?_
          rw [nI_1]
          exact ih (k + 1) a (by omega) (by simpa [rnk, a1, he] using q)
        | some e =>
          obtain ⟨c, hh, p⟩ := e
          obtain ⟨g1, g2, g3⟩ := hv.ent1 hI.p.ec hk16 he
          rw [g1]
          refine xr_iff (nI_pos (by omega)) <| xr_iinc rfl <| xr_iinc rfl <| xr_jmp rfl ?_
          rw [nI_1, nI_1]
          exact ih (k + 1) (a + 1) (by omega) (by simpa [rnk, a1, he] using q)
  refine eM_rank_0 hX ?_
  unfold cM_rank_0
  unfold Frank at q
  refine xr_aload rfl <| xr_get h.2.1 rfl <| xr_if (fun a5 => ?_) (fun a5 => ?_)
  · have a5 : v.dwn = false := bI_0.mp a5
    rw [if_neg (by rw [a5]; decide)] at q
    exact xr_push <| xr_istore <| xr_push <| xr_istore <| xr_jmp rfl (L 16 0 0 rfl q)
  · have a5 : v.dwn = true := bI_n0 a5
    rw [if_pos a5] at q
    exact xr_push <| xr_iret q
theorem p_M_entry (hQ : QM am m v) (hI : Inv B v) {key what : Int32} (q : Rh (some (.int (Fentry v key what))) m) : cp_M_entry [.ref (am 0), .int key, .int what] m Rh := by
  refine ⟨Nat.le_of_ble_eq_true rfl, fun X hX => eM_entry_0 hX ?_⟩
  unfold cM_entry_0
  obtain ⟨A, h, hv⟩ := hQ
  unfold Fentry at q
  refine xr_iload rfl <| xr_push <| xr_push <| xr_callS (by decide) (by decide) rfl (by decide) <| p_M_in <| xr_if (fun a1 => ?_) (fun a1 => ?_)
  · rw [in_0, in_key] at a1
    exact xr_push <| xr_iret (by rw [if_pos (Or.inl a1)] at q; exact q)
  · rw [in_0, in_key] at a1
    refine xr_iload rfl <| xr_push <| xr_push <| xr_callS (by decide) (by decide) rfl (by decide) <| p_M_in <| xr_if (fun a2 => ?_) (fun a2 => ?_)
    · rw [in_0, in_rng] at a2
      exact xr_push <| xr_iret (by rw [if_pos (Or.inr a2)] at q; exact q)
    · rw [in_0, in_rng] at a2
      rw [if_neg (fun z => z.elim a1 a2)] at q
      obtain ⟨k, hk, rfl⟩ := badK_not a1
      rw [kk_nI (by omega)] at q
      refine xr_aload rfl <| xr_get h.2.1 rfl <| xr_if (fun a5 => ?_) (fun a5 => ?_)
      · have a5 : v.dwn = false := bI_0.mp a5
        rw [if_neg (by rw [a5]; decide)] at q
        refine zg h 11 (by omega) rfl <| xr_iload rfl <| za h 11 rfl (by omega) hk <| ?_
        cases he : v.ent k with
        | none =>
          rw [hv.ent0 hk he]
          rw [he] at q
          exact xr_istore <| xr_iload rfl <| xr_iff (by decide) <| xr_push <| xr_iret q
        | some e =>
          obtain ⟨c, hh, p⟩ := e
          obtain ⟨g1, g2, g3⟩ := hv.ent1 hI.p.ec hk he
          obtain ⟨l1, l2⟩ := hI.p.pl hk he
          rw [g1]
          simp only [he] at q
          have hi : 12 * hh + p < 193 := by omega
          refine xr_istore <| xr_iload rfl <| xr_ift (nI_pos' (by omega)) <| xr_iload rfl <| xr_tsw <| xr_sw (fun a0 => ?_) (fun a0 => xr_sw (fun a1 => ?_) (fun a1 => xr_sw (fun a2 => ?_) (fun a2 => xr_sw (fun a3 => ?_) (fun a3 => xr_sw (fun a4 => ?_) (fun a4 => xr_sw (fun a5 => ?_) (fun a5 => xr_sd ?_))))))
          · refine zg h 0 (by omega) rfl <| xr_iload rfl <| zz h rfl hi <| xr_if (fun h6 => ?_) (fun h6 => ?_)
            · rw [g3.1, bI_0] at h6
              exact xr_push <| xr_iret (by simpa [a0, h6] using q)
            · rw [g3.1, bI_0] at h6
              exact xr_push <| xr_iret (by simpa [a0, h6] using q)
          · have a1 : what.toInt = 1 := a1
            exact zg h 4 (by omega) rfl <| xr_iload rfl <| za h 4 rfl (by omega) hi <| xr_iret (by rw [g3.2.2.2.2.1]; simpa [a1] using q)
          · have a2 : what.toInt = 2 := a2
            exact zg h 5 (by omega) rfl <| xr_iload rfl <| za h 5 rfl (by omega) hi <| xr_iret (by rw [g3.2.2.2.2.2.1]; simpa [a2] using q)
          · have a3 : what.toInt = 3 := a3
            exact zg h 6 (by omega) rfl <| xr_iload rfl <| za h 6 rfl (by omega) hi <| xr_iret (by rw [g3.2.2.2.2.2.2]; simpa [a3] using q)
          · have a4 : what.toInt = 4 := a4
            exact zg h 3 (by omega) rfl <| xr_iload rfl <| za h 3 rfl (by omega) hi <| xr_iret (by rw [g3.2.2.2.1]; simpa [a4] using q)
          · have a5 : what.toInt = 5 := a5
            refine xr_iload rfl <| xr_push <| xr_idiv (by decide) <| xr_iret ?_
            rw [pk_div (by omega) (by omega) (by omega), show (12 * hh + p) / 12 = hh by omega]
            simpa [a5] using q
          · have a1 : ¬ what.toInt = 1 := a1
            have a2 : ¬ what.toInt = 2 := a2
            have a3 : ¬ what.toInt = 3 := a3
            have a4 : ¬ what.toInt = 4 := a4
            have a5 : ¬ what.toInt = 5 := a5
            refine xr_iload rfl <| xr_push <| xr_irem (by decide) <| xr_iret ?_
            rw [pk_rem (by omega) (by omega) (by omega), show (12 * hh + p) % 12 = p by omega]
            simpa only [a0, a1, a2, a3, a4, a5, if_false] using q
      · have a5 : v.dwn = true := bI_n0 a5
        rw [if_pos a5] at q
        exact xr_push <| xr_iret q
theorem p_M_count (hQ : QM am m v) (hE : EC v) {what : Int32} (q : Rh (some (.int (Fcount v what))) m) : cp_M_count [.ref (am 0), .int what] m Rh := by
  refine ⟨Nat.le_of_ble_eq_true rfl, fun X hX => ?_⟩
  obtain ⟨A, h, hv⟩ := hQ
  have L : ∀ n k a b c, k + n = 16 → ths v n k a = ths v 16 0 0 → ens v n k b = ens v 16 0 0 → tbs v n k c = tbs v 16 0 0 → X 10 [(0, .ref (am 0)), (1, .int what), (2, .int (nI a)), (3, .int (nI b)), (4, .int (nI c)), (5, .int (nI k))] [] m 0 0 := by
    intro n
    induction n with
    | zero =>
      intro k a b c hk e1 e2 e3
      refine eM_count_10 hX ?_
      unfold cM_count_10
      have : k = 16 := by omega
      subst this
      have e1 : a = ths v 16 0 0 := e1
      have e2 : b = ens v 16 0 0 := e2
      have e3 : c = tbs v 16 0 0 := e3
      unfold Fcount at q
      rw [← e1, ← e2, ← e3] at q
      refine xr_iload rfl <| xr_push <| xr_cmpt (Int32.le_refl _) <| xr_iload rfl <| xr_tsw <| xr_sw (fun a0 => ?_) (fun a0 => xr_sw (fun a1 => ?_) (fun a1 => xr_sw (fun a2 => ?_) (fun a2 => xr_sw (fun a3 => ?_) (fun a3 => xr_sw (fun a4 => ?_) (fun a4 => xr_sw (fun a5 => ?_) (fun a5 => xr_sw (fun a6 => ?_) (fun a6 => xr_sw (fun a7 => ?_) (fun a7 => xr_sd ?_))))))))
      · rw [if_pos a0] at q
        exact xr_iload rfl <| xr_iret q
      · have a1 : what.toInt = 1 := a1
        rw [if_neg a0, if_pos a1] at q
        exact xr_iload rfl <| xr_iret q
      · have a1 : ¬ what.toInt = 1 := a1
        have a2 : what.toInt = 2 := a2
        rw [if_neg a0, if_neg a1, if_pos a2] at q
        exact xr_iload rfl <| xr_iret q
      · have a3 : what.toInt = 3 := a3
        exact xr_aload rfl <| xr_get h.2.1 rfl <| xr_iret (by simpa [a3, scV] using q)
      · have a4 : what.toInt = 4 := a4
        refine xr_aload rfl <| xr_get h.2.1 rfl <| xr_if (fun h5 => ?_) (fun h5 => ?_)
        · have h5 : v.dwn = false := bI_0.mp h5
          exact xr_aload rfl <| xr_get h.2.1 rfl <| xr_iret (by simpa [a4, h5, scV] using q)
        · have h5 : v.dwn = true := bI_n0 h5
          exact xr_push <| xr_iret (by simpa [a4, h5] using q)
      · have a5 : what.toInt = 5 := a5
        exact xr_aload rfl <| xr_get h.2.1 rfl <| xr_iret (by simpa [a5, scV] using q)
      · have a6 : what.toInt = 6 := a6
        exact xr_aload rfl <| xr_get h.2.1 rfl <| xr_iret (by simpa [a6, scV] using q)
      · have a7 : what.toInt = 7 := a7
        refine xr_aload rfl <| xr_get h.2.1 rfl <| xr_if (fun h5 => ?_) (fun h5 => ?_)
        · have h5 : v.dwn = false := bI_0.mp h5
          exact xr_push <| xr_iret (by simpa [a7, h5] using q)
        · have h5 : v.dwn = true := bI_n0 h5
          exact xr_push <| xr_iret (by simpa [a7, h5] using q)
      · have a1 : ¬ what.toInt = 1 := a1
        have a2 : ¬ what.toInt = 2 := a2
        have a3 : ¬ what.toInt = 3 := a3
        have a4 : ¬ what.toInt = 4 := a4
        have a5 : ¬ what.toInt = 5 := a5
        have a6 : ¬ what.toInt = 6 := a6
        have a7 : ¬ what.toInt = 7 := a7
        exact xr_push <| xr_iret (by simpa only [a0, a1, a2, a3, a4, a5, a6, a7, if_false] using q)
    | succ n ih =>
      intro k a b c hk e1 e2 e3
      refine eM_count_10 hX ?_
      unfold cM_count_10
      have hk16 : k < 16 := by omega
      have J42 : ∀ a b, ths v n (k + 1) a = ths v 16 0 0 → ens v n (k + 1) b = ens v 16 0 0 → cM_count_42 X Rh [(0, .ref (am 0)), (1, .int what), (2, .int (nI a)), (3, .int (nI b)), (4, .int (nI c)), (5, .int (nI k))] [] m 0 0 := by
        intro a b e1 e2
        unfold cM_count_42
        refine zg h 11 (by omega) rfl <| xr_iload rfl <| za h 11 rfl (by omega) hk16 <| ?_
        cases he : v.ent k with
        | none =>
          rw [hv.ent0 hk16 he]
          refine xr_ift (by decide) <| xr_iinc rfl <| xr_jmp rfl ?_
          rw [nI_1]
          exact ih (k + 1) a b c (by omega) e1 e2 (by simpa [tbs, he] using e3)
        | some e =>
          obtain ⟨d, hh, p⟩ := e
          obtain ⟨g1, g2, g3⟩ := hv.ent1 hE hk16 he
          rw [g1]
          refine xr_iff (nI_pos (by omega)) <| zg h 0 (by omega) rfl <| zg h 11 (by omega) rfl <| xr_iload rfl <| za h 11 rfl (by omega) hk16 <| zz h g1 (show 12 * hh + p < 193 by omega) <| ?_
          rw [g3.1]
          refine xr_if (fun a4 => ?_) (fun a4 => ?_)
          · rw [bI_0] at a4
            refine xr_iinc rfl <| xr_jmp rfl ?_
            rw [nI_1]
            exact ih (k + 1) a b c (by omega) e1 e2 (by simpa [tbs, he, a4] using e3)
          · have a4 := bI_n0 a4
            refine xr_iinc rfl <| xr_iinc rfl <| xr_jmp rfl ?_
            rw [nI_1, nI_1]
            exact ih (k + 1) a b (c + 1) (by omega) e1 e2 (by simpa [tbs, he, a4] using e3)
      have J29 : ∀ a, ths v n (k + 1) a = ths v 16 0 0 → cM_count_29 X Rh [(0, .ref (am 0)), (1, .int what), (2, .int (nI a)), (3, .int (nI b)), (4, .int (nI c)), (5, .int (nI k))] [] m 0 0 := by
        intro a e1
        unfold cM_count_29
        refine zg h 11 (by omega) rfl <| xr_iload rfl <| za h 11 rfl (by omega) hk16 <| ?_
        cases he : v.ent k with
        | none =>
          rw [hv.ent0 hk16 he]
          exact xr_ift (by decide) <| xr_jmp rfl (J42 a b e1 (by simpa [ens, he] using e2))
        | some e =>
          obtain ⟨d, hh, p⟩ := e
          obtain ⟨g1, g2, g3⟩ := hv.ent1 hE hk16 he
          rw [g1]
          refine xr_iff (nI_pos (by omega)) <| xr_iinc rfl <| xr_jmp rfl ?_
          rw [nI_1]
          exact J42 a (b + 1) e1 (by simpa [ens, he] using e2)
      refine xr_iload rfl <| xr_push <| xr_cmpf (nI_ge hk16 (by decide)) <| xr_aload rfl <| xr_iload rfl <| xr_callV (by decide) (by decide) rfl (by decide) h.2.1 <| p_M_isThere h hv hE hk16 <| ?_
      rw [thm_thr]
      refine xr_if (fun a3 => ?_) (fun a3 => ?_)
      · rw [bI_0] at a3
        exact xr_jmp rfl (J29 a (by simpa [ths, a3] using e1))
      · have a3 := bI_n0 a3
        refine xr_iinc rfl <| xr_jmp rfl ?_
        rw [nI_1]
        exact J29 (a + 1) (by simpa [ths, a3] using e1)
  refine eM_count_0 hX ?_
  unfold cM_count_0
  exact xr_push <| xr_istore <| xr_push <| xr_istore <| xr_push <| xr_istore <| xr_push <| xr_istore <| xr_jmp rfl (L 16 0 0 0 0 rfl rfl rfl rfl)
end
