/-! compact -/
section
variable {am : Nat → Nat} {m : xm_M} {A : Nat → Nat → Int32} {S : Sc} {v u : Vt} {K : xm_PT} {ls : xm_L} {st : List Value} {bc bs B : Nat} {Rh : Option Value → xm_M → Prop}
theorem cwr_sta3 {s f b : Nat} {v1 : Vt} (he : cwr v s = .inr (f, v1)) (h3 : v.sta b = 3) : v1.sta b = 3 := by
  cases hl : lis v 1 8 0 with
  | some x =>
    have hx1 := (lis_lt 8 0 x hl).2.2
    have hbx : b ≠ x := fun e => by subst e; omega
    simp only [cwr, hl] at he
    split at he
    · cases he; exact h3
    · split at he
      · cases he
      · cases h0 : lis v 0 8 0 with
        | none => simp only [h0] at he; cases he
        | some g =>
          simp only [h0] at he
          cases he
          have hf0 := (lis_lt 8 0 f h0).2.2
          have hbf : b ≠ f := fun e => by subst e; omega
          show ((opn (sealB v x) f).blk b).1 = 3
          rw [show (opn (sealB v x) f).blk b = (sealB v x).blk b from Vt.setB_ne _ _ hbf, show (sealB v x).blk b = v.blk b from Vt.setB_ne _ _ hbx]
          exact h3
  | none =>
    simp only [cwr, hl] at he
    cases h0 : lis v 0 8 0 with
    | none => simp only [h0] at he; cases he
    | some g =>
      simp only [h0] at he
      cases he
      have hf0 := (lis_lt 8 0 f h0).2.2
      have hbf : b ≠ f := fun e => by subst e; omega
      show ((opn v f).blk b).1 = 3
      rw [show (opn v f).blk b = v.blk b from Vt.setB_ne _ _ hbf]
      exact h3
theorem apd_step (h : Inv B v) (hd : v.dwn = false) {c : Cp} (hok : CpOk (B + 1) c) {f b : Nat} {v2 : Vt} (he : apd v c = .inr (f, v2)) (hb : b < 8) (h3 : v.sta b = 3) : (v2.sta b = 3 ∧ v2.row b = v.row b) ∨ (v2.sta b ≠ 3 ∧ v2.row b = []) := by
  obtain ⟨v1, k1, k2, k3, k4, k5, k6, k7, k8⟩ := apd_inv h hd hok he
  have hs := cwr_sta3 k1 h3
  have hf1 := (cwr_inv h hd k1).2
  have hbf : b ≠ f := fun e => by subst e; omega
  have hr : (apE v1 c f).row b = v.row b := by
    rw [show (apE v1 c f).row b = v1.row b from Vt.setR_ne _ _ hbf]
    exact (cwr_row k1 (by have := hok.2.2.1; omega) h.p).2.2.1 b
  have hs2 : (apE v1 c f).sta b = 3 := hs
  subst k2
  by_cases hdd : ded (apE v1 c f) b = true
  · right
    refine ⟨?_, by rw [sfn_row, if_pos ⟨hb, hdd, hs2⟩]⟩
    show ((sfn (apE v1 c f)).blk b).1 ≠ 3
    rw [sfn_blk hb, sfB_sta, if_pos ⟨hdd, hs2⟩]
    split <;> omega
  · left
    refine ⟨?_, by rw [sfn_row, if_neg (fun z => hdd z.2.1)]; exact hr⟩
    show ((sfn (apE v1 c f)).blk b).1 = 3
    rw [sfn_blk hb, sfB_sta, if_neg (fun z => hdd z.1), if_neg (by omega)]
    exact hs2
theorem mlc_none {b p : Nat} (h : (v.row b)[p]? = none) (F a : Nat) : mlc b F v p a = (a, v) := by
  cases F with
  | zero => rfl
  | succ F => simp only [mlc, h]
theorem hp_iff (h : Pinv B v) {k b p : Nat} (hk : k < 16) (hb : b < 8) (hp : p < 12) : (v.hom k = nI b ∧ v.plc k = nI p) ↔ eI (v.ent k) = nI (12 * b + p) := by
  rw [eI_at h hk hb hp]
  cases he : v.ent k with
  | none =>
    simp only [Vt.hom, he]
    exact ⟨fun z => absurd z.1.symm (nI_m1 (by omega)), fun ⟨c, z⟩ => by cases z⟩
  | some e =>
    obtain ⟨c, hh, q⟩ := e
    obtain ⟨l1, l2⟩ := h.pl hk he
    simp only [Vt.hom, Vt.plc, he]
    rw [nI_eq (by omega) (by omega), nI_eq (by omega) (by omega)]
    constructor
    · rintro ⟨e1, e2⟩; subst e1; subst e2; exact ⟨c, rfl⟩
    · rintro ⟨d, z⟩; cases z; exact ⟨rfl, rfl⟩
theorem mok_inv {b : Nat} : ∀ n v p B, Inv B v → v.dwn = false → B + n + 1 < 2 ^ 30 → b < 8 → mok b n v p := by
  intro n
  induction n with
  | zero => intro v p B _ _ _ _; trivial
  | succ n ih =>
    intro v p B h hd hB hb
    rw [mok]
    cases hr : (v.row b)[p]? with
    | none => trivial
    | some c =>
      have hok := (h.p.row b (by omega)).1 c (List.mem_of_getElem? hr)
      simp only []
      split
      · refine ⟨inv_fit h.p (by omega) hok.1 hok.2.1 hok.2.2.1, fun f v1 he => ?_⟩
        obtain ⟨-, -, -, -, k4, -, k6, -⟩ := apd_inv h hd (hok.mono (Nat.le_succ B)) he
        exact ih v1 (p + 1) (B + 1) k4 k6 (by omega) hb
      · exact ih v (p + 1) B h hd (by omega) hb
theorem mlc_inv {b : Nat} : ∀ n v p a B, Inv B v → v.dwn = false → b < 8 → Inv (B + n) (mlc b n v p a).2 ∧ (mlc b n v p a).2.dwn = false := by
  intro n
  induction n with
  | zero => intro v p a B h hd _; exact ⟨h, hd⟩
  | succ n ih =>
    intro v p a B h hd hb
    rw [mlc]
    cases hr : (v.row b)[p]? with
    | none => exact ⟨h.mono (by omega), hd⟩
    | some c =>
      have hok := (h.p.row b (by omega)).1 c (List.mem_of_getElem? hr)
      simp only []
      split
      · cases he : apd v c with
        | inl e => exact ⟨h.mono (by omega), hd⟩
        | inr x =>
          obtain ⟨f, v1⟩ := x
          obtain ⟨-, -, -, -, k4, -, k6, -⟩ := apd_inv h hd (hok.mono (Nat.le_succ B)) he
          have := ih v1 (p + 1) (a + 1) (B + 1) k4 k6 hb
          rw [show B + 1 + n = B + (n + 1) by omega] at this
          exact this
      · have := ih v (p + 1) a B h hd hb
        exact ⟨this.1.mono (by omega), this.2⟩
theorem p_M_compact (hQ : QM am m v) (hI : Inv B v) (hB : B + 20 < 2 ^ 30) {n : Int32} (q : ∀ m', QM am m' (Fcompact v n).2 → FrM m m' → Rh (some (.int (Fcompact v n).1)) m') : cp_M_compact [.ref (am 0), .int n] m Rh := by
  refine ⟨Nat.le_of_ble_eq_true rfl, fun X hX => ?_⟩
  have J173 : ∀ a v m, QM am m v → (∀ m', QM am m' (addM v a) → FrM m m' → Rh (some (.int (nI a))) m') → cM_compact_173 X Rh [(0, .ref (am 0)), (3, .int (nI a))] [] m 0 0 := by
    intro a v m hQ q
    unfold cM_compact_173
    obtain ⟨A, h, hv⟩ := hQ
    have hv3 := hv.sc (x := (v.clk, v.nst, v.wrt, v.mvd + nI a, v.dwn, v.sls))
    exact xr_aload rfl <| xr_dup rfl <| xr_get h.2.1 rfl <| xr_iload rfl <| xr_ibin <| xr_put h.2.1 (by simp) rfl rfl rfl <| xr_iload rfl <| xr_iret (q _ ⟨A, h.upS (scV (addM v a)), hv3⟩ (FrM.up h.2.1 rfl))
  have L99 : ∀ b (r0 : List Cp), b < 8 → r0.length ≤ 12 → ∀ n p v m a B, p + n = r0.length → QM am m v → Inv B v → B + n + 1 < 2 ^ 30 → v.dwn = false → (v.sta b = 3 ∧ v.row b = r0 ∨ v.sta b ≠ 3 ∧ v.row b = []) → (∀ m', QM am m' (addM (mlc b (12 - p) v p a).2 (mlc b (12 - p) v p a).1) → FrM m m' → Rh (some (.int (nI (mlc b (12 - p) v p a).1))) m') → X 99 [(0, .ref (am 0)), (2, .int (nI b)), (3, .int (nI a)), (4, .int (nI r0.length)), (5, .int (nI (12 * b + p)))] [] m 0 0 := by
    intro b r0 hb hr0 n
    induction n with
    | zero =>
      intro p v m a B hp hQ hI hB hd hc q
      refine eM_compact_99 hX ?_
      unfold cM_compact_99
      have hn : (v.row b)[p]? = none := by
        rcases hc with hc | hc
        · rw [hc.2]; exact List.getElem?_eq_none (by omega)
        · rw [hc.2]; rfl
      rw [mlc_none hn] at q
      refine xr_iload rfl <| xr_push <| xr_iload rfl <| xr_ibin <| xr_iload rfl <| xr_ibin <| ?_
      rw [pk_mul, nI_add, show p = r0.length by omega]
      exact xr_cmpt (Int32.le_refl _) <| xr_jmp rfl (J173 a v m hQ q)
    | succ n ih =>
      intro p v m a B hp hQ hI hB hd hc q
      refine eM_compact_99 hX ?_
      unfold cM_compact_99
      obtain ⟨A, h, hv⟩ := hQ
      have h4 := (hI.p.blk b hb).1
      refine xr_iload rfl <| xr_push <| xr_iload rfl <| xr_ibin <| xr_iload rfl <| xr_ibin <| ?_
      rw [pk_mul, nI_add]
      refine xr_cmpf (nI_ge (by omega) (by omega)) <| zg h 8 (by omega) rfl <| xr_iload rfl <| za h 8 rfl (by omega) hb <| xr_push <| ?_
      rw [(hv.2.2.1 b hb).1]
      refine xr_cmp (fun h1 => ?_) (fun h1 => ?_)
      · rw [nI_eq (by omega) (by omega)] at h1
        have hrow : v.row b = r0 := by
          rcases hc with hc | hc
          · exact hc.2
          · exact absurd h1 hc.1
        obtain ⟨c, hcc, -⟩ := drop_at (l := v.row b) (p := p) (by rw [hrow]; omega)
        have hm := hv.1 b (by omega) p c hcc
        have hok := (hI.p.row b (by omega)).1 c (List.mem_of_getElem? hcc)
        rw [show 12 - p = (12 - (p + 1)) + 1 by omega, mlc, hcc] at q
        simp only [hp_iff hI.p hok.1 hb (show p < 12 by omega)] at q
        refine zg h 11 (by omega) rfl <| zg h 1 (by omega) rfl <| xr_iload rfl <| za h 1 rfl (by omega) (show 12 * b + p < 193 by omega) <| za h 11 hm.2.1 (by omega) hok.1 <| xr_iload rfl <| ?_
        rw [hv.2.2.2.1 _ hok.1]
        refine xr_cmp (fun h2 => ?_) (fun h2 => ?_)
        · rw [if_pos h2] at q
          refine xr_aload rfl <| xr_iload rfl <| xr_push <| xr_callV (by decide) (by decide) rfl (by decide) h.2.1 <| p_M_copy h (f := 12 * b + p) (t := 192) (by omega) (by omega) (fun m1 h1' f1 => ?_)
          have hv1 : Rv (cpA A (12 * b + p) 192) (scV v) v := hv.cp (fun r hr p' d hd' => by have := (hv.idx hr hd').2; omega)
          refine xr_aload rfl <| xr_callV (by decide) (by decide) rfl (by decide) h1'.2.1 <| p_M_append h1' hv1 hI (by omega) hd (c := c) (mcA_cpt hm) (hok.mono (Nat.le_succ B)) (fun e he => ?_) (fun f v2 m2 he i2 d2 h2' f2 => ?_)
          · rw [he] at q
            have hneg : e = -5 ∨ e = -6 := by
              unfold apd at he
              cases hw : cwr v c.siz with
              | inl e' => simp only [hw] at he; cases he; exact cwr_neg hw
              | inr x => obtain ⟨a, b⟩ := x; simp only [hw] at he; cases he
            have hlt : ¬ 0 ≤ e := by rcases hneg with rfl | rfl <;> decide
            exact xr_istore <| xr_iload rfl <| xr_iff hlt <| xr_jmp rfl (J173 a v m1 ⟨_, h1', hv1⟩ (fun m' z1 z2 => q m' z1 (f1.tr z2)))
          · rw [he] at q
            refine xr_istore <| xr_iload rfl <| xr_ift (by decide) <| xr_iinc rfl <| xr_iinc rfl <| xr_jmp rfl ?_
            rw [nI_1, nI_1]
            refine ih (p + 1) v2 m2 (a + 1) (B + 1) (by omega) h2' i2 (by omega) d2 ?_ (fun m' z1 z2 => q m' z1 ((f1.tr f2).tr z2))
            have := apd_step hI hd (hok.mono (Nat.le_succ B)) he hb h1
            rw [hrow] at this
            exact this
        · rw [if_neg h2] at q
          refine xr_iinc rfl <| xr_jmp rfl ?_
          rw [nI_1]
          exact ih (p + 1) v m a B (by omega) ⟨A, h, hv⟩ hI (by omega) hd hc q
      · rw [nI_eq (by omega) (by omega)] at h1
        have hn : (v.row b)[p]? = none := by
          rcases hc with hc | hc
          · exact absurd hc.1 h1
          · rw [hc.2]; rfl
        rw [mlc_none hn] at q
        exact xr_jmp rfl (J173 a v m ⟨A, h, hv⟩ q)
  refine eM_compact_0 hX ?_
  unfold cM_compact_0
  unfold Fcompact at q
  obtain ⟨A, h, hv⟩ := hQ
  have hw := hI.p.wf (by omega)
  refine xr_iload rfl <| xr_push <| xr_push <| xr_callS (by decide) (by decide) rfl (by decide) <| p_M_in <| xr_if (fun a1 => ?_) (fun a1 => ?_)
  · rw [in_0, in_rng] at a1
    rw [if_pos a1] at q
    exact xr_push <| xr_iret (q m ⟨A, h, hv⟩ FrM.rf)
  · rw [in_0, in_rng] at a1
    rw [if_neg a1] at q
    obtain ⟨N, hN1, hN12, rfl⟩ := rng_not (n := 12) (by omega) (fun z => a1 (Or.inl z)) (Classical.byContradiction (fun z => a1 (Or.inr z)))
    rw [kk_nI (by omega)] at q
    refine xr_aload rfl <| xr_get h.2.1 rfl <| xr_if (fun a5 => ?_) (fun a5 => ?_)
    · have a5 : v.dwn = false := bI_0.mp a5
      rw [if_neg (by rw [a5]; decide)] at q
      have hus : ∀ b, b < 8 → usd v b 16 0 0 < 1000 := fun b hb => by have := usd_le hw (b := b) 16 0 0 rfl; omega
      have L26 : ∀ n b o l, b + n = 8 → (o = none → l = N) → (∀ x, o = some x → x < 8 ∧ v.sta x = 3 ∧ l = usd v x 16 0 0 ∧ l < N) → spw v n b o l = spw v 8 0 none N → X 26 [(0, .ref (am 0)), (1, .int (nI N)), (2, .int (oI o)), (3, .int (nI b))] [] m 0 0 := by
        intro n
        induction n with
        | zero =>
          intro b o l hb ho1 ho2 e
          refine eM_compact_26 hX ?_
          unfold cM_compact_26
          have : b = 8 := by omega
          subst this
          have e : o = spw v 8 0 none N := e
          rw [← e] at q
          refine xr_iload rfl <| xr_push <| xr_cmpt (Int32.le_refl _) <| xr_iload rfl <| ?_
          cases o with
          | none => exact xr_iff (by decide) <| xr_push <| xr_iret (q m ⟨A, h, hv⟩ FrM.rf)
          | some x =>
            obtain ⟨hx, hs, -, -⟩ := ho2 x rfl
            refine xr_ift (nI_pos' (by omega)) <| xr_push <| xr_istore <| zg h 7 (by omega) rfl <| xr_iload rfl <| za h 7 rfl (by omega) (show x < 16 by omega) <| xr_istore <| xr_push <| xr_iload rfl <| xr_ibin <| xr_istore <| xr_jmp rfl ?_
            rw [(hv.2.1 x (by omega)).1, show nI 12 * oI (some x) = nI (12 * x) from pk_mul 12 x]
            exact L99 x (v.row x) hx (hI.p.len (by omega)) (v.row x).length 0 v m 0 B (by omega) ⟨A, h, hv⟩ hI (by have := hI.p.len (r := x) (by omega); omega) a5 (Or.inl ⟨hs, rfl⟩) q
        | succ n ih =>
          intro b o l hb ho1 ho2 e
          refine eM_compact_26 hX ?_
          unfold cM_compact_26
          have hb8 : b < 8 := by omega
          have h4 := (hI.p.blk b hb8).1
          have hub := hus b hb8
          have hl : l ≤ N := by
            cases o with
            | none => rw [ho1 rfl]; omega
            | some x => have := (ho2 x rfl).2.2.2; omega
          have skip : ¬ (v.sta b = 3 ∧ usd v b 16 0 0 < l) → X 26 [(0, .ref (am 0)), (1, .int (nI N)), (2, .int (oI o)), (3, .int (nI b + 1))] [] m 0 0 := by
            intro hn
            rw [nI_1]
            rw [spw, if_neg hn] at e
            exact ih (b + 1) o l (by omega) ho1 ho2 e
          have take : v.sta b = 3 ∧ usd v b 16 0 0 < l → X 26 [(0, .ref (am 0)), (1, .int (nI N)), (2, .int (nI b)), (3, .int (nI b + 1))] [] m 0 0 := by
            intro hn
            rw [nI_1]
            rw [spw, if_pos hn] at e
            exact ih (b + 1) (some b) _ (by omega) (fun z => by cases z) (fun x hx => by cases hx; exact ⟨hb8, hn.1, rfl, by omega⟩) e
          refine xr_iload rfl <| xr_push <| xr_cmpf (nI_ge hb8 (by decide)) <| zg h 8 (by omega) rfl <| xr_iload rfl <| za h 8 rfl (by omega) hb8 <| xr_push <| ?_
          rw [(hv.2.2.1 b hb8).1]
          refine xr_cmp (fun c1 => ?_) (fun c1 => ?_)
          · rw [nI_eq (by omega) (by omega)] at c1
            refine xr_aload rfl <| xr_iload rfl <| xr_callV (by decide) (by decide) rfl (by decide) h.2.1 <| p_M_used h hv hw hb8 <| ?_
            rw [um_usd hI.p hb8]
            refine xr_iload rfl <| xr_cmp (fun c2 => ?_) (fun c2 => ?_)
            · rw [nI_leI (by omega) (by omega)] at c2
              exact xr_iinc rfl <| xr_jmp rfl (skip (fun z => by omega))
            · rw [nI_leI (by omega) (by omega)] at c2
              refine xr_iload rfl <| ?_
              cases o with
              | none =>
                have := ho1 rfl
                exact xr_ift (by decide) <| xr_iload rfl <| xr_istore <| xr_iinc rfl <| xr_jmp rfl (take ⟨c1, by omega⟩)
              | some x =>
                obtain ⟨hx, hs, hlx, hlN⟩ := ho2 x rfl
                have hux := hus x hx
                refine xr_iff (nI_pos (by omega)) <| xr_aload rfl <| xr_iload rfl <| xr_callV (by decide) (by decide) rfl (by decide) h.2.1 <| p_M_used h hv hw hb8 <| xr_aload rfl <| xr_iload rfl <| xr_callV (by decide) (by decide) rfl (Nat.le_of_ble_eq_true rfl) h.2.1 <| p_M_used h hv hw hx <| ?_
                rw [um_usd hI.p hb8, um_usd hI.p hx]
                refine xr_cmp (fun c3 => ?_) (fun c3 => ?_)
                · rw [nI_leI (by omega) (by omega)] at c3
                  exact xr_iinc rfl <| xr_jmp rfl (skip (fun z => by omega))
                · rw [nI_leI (by omega) (by omega)] at c3
                  exact xr_iload rfl <| xr_istore <| xr_iinc rfl <| xr_jmp rfl (take ⟨c1, by omega⟩)
          · rw [nI_eq (by omega) (by omega)] at c1
            exact xr_iinc rfl <| xr_jmp rfl (skip (fun z => c1 z.1))
      exact xr_push <| xr_istore <| xr_push <| xr_istore <| xr_jmp rfl (L26 8 0 none N rfl (fun _ => rfl) (fun x hx => by cases hx) rfl)
    · have a5 : v.dwn = true := bI_n0 a5
      rw [if_pos a5] at q
      exact xr_push <| xr_iret (q m ⟨A, h, hv⟩ FrM.rf)
end
