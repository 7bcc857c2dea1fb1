/-! sweep -/
section
variable {am : Nat → Nat} {m : xm_M} {A : Nat → Nat → Int32} {S : Sc} {v u : Vt} {K : xm_PT} {ls : xm_L} {st : List Value} {bc bs B : Nat} {Rh : Option Value → xm_M → Prop}
def oth (d e : Cp) : Bool := decide (e.key = d.key) && !decide (e.stp = d.stp)
theorem hot_iff {d : Cp} : ∀ l : List Cp, hot d l = true ↔ ∃ (p : Nat) (e : Cp), l[p]? = some e ∧ oth d e = true := by
  intro l
  induction l with
  | nil => simp [hot]
  | cons c l ih =>
    rw [hot, Bool.or_eq_true, ih]
    constructor
    · rintro (h | ⟨p, e, h1, h2⟩)
      · exact ⟨0, c, rfl, h⟩
      · exact ⟨p + 1, e, by simpa using h1, h2⟩
    · rintro ⟨p, e, h1, h2⟩
      cases p with
      | zero => simp at h1; subst h1; exact Or.inl h2
      | succ p => exact Or.inr ⟨p, e, by simpa using h1, h2⟩
theorem hid_iff {d : Cp} : ∀ n b, hid v d n b = true ↔ ∃ x, b ≤ x ∧ x < b + n ∧ (hot d (v.row x) = true ∨ hot d (v.row (8 + x)) = true) := by
  intro n
  induction n with
  | zero => intro b; simp only [hid]; exact ⟨fun h => (by cases h), fun ⟨x, h1, h2, _⟩ => by omega⟩
  | succ n ih =>
    intro b
    rw [hid, Bool.or_eq_true, Bool.or_eq_true, ih]
    constructor
    · rintro (h | h | ⟨x, h1, h2, h3⟩)
      · exact ⟨b, Nat.le_refl _, by omega, Or.inl h⟩
      · exact ⟨b, Nat.le_refl _, by omega, Or.inr h⟩
      · exact ⟨x, by omega, by omega, h3⟩
    · rintro ⟨x, h1, h2, h3⟩
      by_cases hx : x = b
      · subst hx
        rcases h3 with h3 | h3
        · exact Or.inl h3
        · exact Or.inr (Or.inl h3)
      · exact Or.inr (Or.inr ⟨x, by omega, by omega, h3⟩)
def olc (c : Cp) : Option Cp → Bool
  | none => false
  | some e => oth c e
def hol (v : Vt) (c : Cp) : Nat → Nat → Bool
  | 0, _ => false
  | n + 1, d => olc c (v.row (d / 12))[d % 12]? || hol v c n (d + 1)
theorem hol_iff {c : Cp} : ∀ n d, hol v c n d = true ↔ ∃ y, d ≤ y ∧ y < d + n ∧ ∃ e, (v.row (y / 12))[y % 12]? = some e ∧ oth c e = true := by
  intro n
  induction n with
  | zero => intro b; simp only [hol]; exact ⟨fun h => (by cases h), fun ⟨x, h1, h2, _⟩ => by omega⟩
  | succ n ih =>
    intro b
    rw [hol, Bool.or_eq_true, ih]
    constructor
    · rintro (h | ⟨x, h1, h2, h3⟩)
      · cases he : (v.row (b / 12))[b % 12]? with
        | none => rw [he] at h; cases h
        | some e => rw [he] at h; exact ⟨b, Nat.le_refl _, by omega, e, he, h⟩
      · exact ⟨x, by omega, by omega, h3⟩
    · rintro ⟨x, h1, h2, e, h3, h4⟩
      by_cases hx : x = b
      · subst hx; left; rw [h3]; exact h4
      · exact Or.inr ⟨x, by omega, by omega, e, h3, h4⟩
theorem hol_hid {c : Cp} (hl : ∀ r, r < 16 → (v.row r).length ≤ 12) : hol v c 192 0 = hid v c 8 0 := by
  rw [Bool.eq_iff_iff, hol_iff, hid_iff]
  constructor
  · rintro ⟨y, h1, h2, e, h3, h4⟩
    by_cases h8 : y / 12 < 8
    · exact ⟨y / 12, by omega, by omega, Or.inl ((hot_iff _).mpr ⟨_, e, h3, h4⟩)⟩
    · refine ⟨y / 12 - 8, by omega, by omega, Or.inr ((hot_iff _).mpr ⟨y % 12, e, ?_, h4⟩)⟩
      rw [show 8 + (y / 12 - 8) = y / 12 by omega]; exact h3
  · rintro ⟨x, h1, h2, h3 | h3⟩
    · obtain ⟨p, e, h4, h5⟩ := (hot_iff _).mp h3
      have hp : p < (v.row x).length := (List.getElem?_eq_some_iff.mp h4).1
      have := hl x (by omega)
      refine ⟨12 * x + p, by omega, by omega, e, ?_, h5⟩
      rw [show (12 * x + p) / 12 = x by omega, show (12 * x + p) % 12 = p by omega]; exact h4
    · obtain ⟨p, e, h4, h5⟩ := (hot_iff _).mp h3
      have hp : p < (v.row (8 + x)).length := (List.getElem?_eq_some_iff.mp h4).1
      have := hl (8 + x) (by omega)
      refine ⟨12 * (8 + x) + p, by omega, by omega, e, ?_, h5⟩
      rw [show (12 * (8 + x) + p) / 12 = 8 + x by omega, show (12 * (8 + x) + p) % 12 = p by omega]; exact h4
theorem hid_sfn (h : Pinv B u) {d : Cp} : hid (sfn u) d 8 0 = hid u d 8 0 := by
  rw [Bool.eq_iff_iff, hid_iff, hid_iff]
  have e8 : ∀ x, (sfn u).row (8 + x) = u.row (8 + x) := fun x => by rw [sfn_row, if_neg (by omega)]
  constructor
  · rintro ⟨x, h1, h2, h3 | h3⟩
    · rw [sfn_row] at h3
      split at h3
      · cases h3
      · exact ⟨x, h1, h2, Or.inl h3⟩
    · rw [e8] at h3; exact ⟨x, h1, h2, Or.inr h3⟩
  · rintro ⟨x, h1, h2, h3 | h3⟩
    · by_cases hc : x < 8 ∧ ded u x = true ∧ u.sta x = 3
      · refine ⟨x, h1, h2, Or.inr ?_⟩
        rw [e8, ← h.img x hc.1 hc.2.2]; exact h3
      · refine ⟨x, h1, h2, Or.inl ?_⟩
        rw [sfn_row, if_neg hc]; exact h3
    · exact ⟨x, h1, h2, Or.inr (by rw [e8]; exact h3)⟩
theorem ndl_sfn (h : Pinv B u) {k : Nat} : ndl (sfn u) k = ndl u k := by
  unfold ndl
  rw [sfn_ent]
  cases u.ent k with
  | none => rfl
  | some e =>
    show (if e.1.tmb = true then !hid (sfn u) e.1 8 0 else exq e.1 u.clk) = if e.1.tmb = true then !hid u e.1 8 0 else exq e.1 u.clk
    rw [hid_sfn h]
theorem sfn_sfn (h : Pinv B u) {k : Nat} : sfn ((sfn u).setE k none) = sfn (u.setE k none) := by
  have hP := setE_pinv (k := k) h
  have hq1 : unw ((sfn u).setE k none) 8 0 0 = unw u 8 0 0 := unw_congr 8 0 0 (fun x _ hx => sfn_sta12 (v := u) (by omega))
  have hq2 : unw (u.setE k none) 8 0 0 = unw u 8 0 0 := unw_congr 8 0 0 (fun x _ hx => Iff.rfl)
  have hd : ∀ y, ded ((sfn u).setE k none) y = ded (u.setE k none) y := fun y => by unfold ded; rw [hlc_ent (v := (sfn u).setE k none) (w := u.setE k none) 16 0 (fun _ => rfl)]
  have hmono : ∀ y, y < 8 → ded u y = true → ded (u.setE k none) y = true := by
    intro y hy hdy
    rw [hP.dd hy]
    rw [h.dd hy] at hdy
    rintro ⟨j, hj, c, p, he⟩
    refine hdy ⟨j, hj, c, p, ?_⟩
    by_cases hjk : j = k
    · subst hjk; rw [Vt.setE_ent] at he; cases he
    · rw [Vt.setE_ne _ _ hjk] at he; exact he
  have sB : ∀ y, y < 8 → ((sfn u).setE k none).blk y = sfB u (unw u 8 0 0) (ded u y) y := fun y hy => sfn_blk (v := u) hy
  refine Vt.ext rfl (fun y => ?_) (fun r => ?_) (fun _ => rfl)
  · by_cases hy : y < 8
    · rw [sfn_blk hy, sfn_blk hy, hq1, hq2, hd]
      have x1 : (u.setE k none).sta y = u.sta y := rfl
      have x2 : (u.setE k none).wai y = u.wai y := rfl
      have x3 : (u.setE k none).sat y = u.sat y := rfl
      have x4 : (u.setE k none).blk y = u.blk y := rfl
      have y1 : ((sfn u).setE k none).sta y = (sfB u (unw u 8 0 0) (ded u y) y).1 := by unfold Vt.sta; rw [sB y hy]
      have y2 : ((sfn u).setE k none).wai y = (sfB u (unw u 8 0 0) (ded u y) y).2.2 := by unfold Vt.wai; rw [sB y hy]
      have y3 : ((sfn u).setE k none).sat y = u.sat y := by unfold Vt.sat; rw [sB y hy, sfB_sat]; rfl
      unfold sfB
      rw [x1, x2, x3, x4, y1, y2, y3, sB y hy, sfB_sta, sfB_wai]
      generalize unw u 8 0 0 = q
      by_cases h3 : u.sta y = 3
      · by_cases hdu : ded u y = true
        · have hdt := hmono y hy hdu
          rw [if_pos (show ded (u.setE k none) y = true ∧ u.sta y = 3 from ⟨hdt, h3⟩), if_pos (show ded u y = true ∧ u.sta y = 3 from ⟨hdu, h3⟩), if_pos (show ded u y = true ∧ u.sta y = 3 from ⟨hdu, h3⟩)]
          by_cases hq : q = 0
          · rw [if_pos hq, if_neg (by omega), if_neg (by omega)]
            unfold sfB
            rw [if_pos (show ded u y = true ∧ u.sta y = 3 from ⟨hdu, h3⟩), if_pos hq]
          · rw [if_neg hq, if_neg (by omega), if_neg (fun z => hq z.2)]
            unfold sfB
            rw [if_pos (show ded u y = true ∧ u.sta y = 3 from ⟨hdu, h3⟩), if_neg hq]
        · have n1 : ¬ (ded u y = true ∧ u.sta y = 3) := fun z => hdu z.1
          have n2 : ¬ (u.sta y = 4 ∧ u.wai y = 0) := by omega
          rw [if_neg n1, if_neg n1, if_neg n2]
          unfold sfB
          rw [if_neg n1, if_neg n2]
      · have n1 : ¬ (ded u y = true ∧ u.sta y = 3) := fun z => h3 z.2
        have n0 : ¬ (ded (u.setE k none) y = true ∧ u.sta y = 3) := fun z => h3 z.2
        rw [if_neg n1, if_neg n1, if_neg n0]
        unfold sfB
        rw [if_neg n1]
        by_cases n2 : u.sta y = 4 ∧ u.wai y = 0
        · rw [if_pos n2, if_neg (by omega), if_neg (by omega)]
        · rw [if_neg n2, if_neg n0, if_neg n2, if_neg n2]
    · rw [sfn_blk8 hy, sfn_blk8 hy]
      show (sfn u).blk y = u.blk y
      rw [sfn_blk8 hy]
  · rw [sfn_row, sfn_row, hd]
    show (if r < 8 ∧ ded (u.setE k none) r = true ∧ ((sfn u).setE k none).sta r = 3 then [] else (sfn u).row r) = if r < 8 ∧ ded (u.setE k none) r = true ∧ u.sta r = 3 then [] else u.row r
    rw [sfn_row]
    by_cases hr : r < 8
    · have y1 : ((sfn u).setE k none).sta r = (sfB u (unw u 8 0 0) (ded u r) r).1 := by unfold Vt.sta; rw [sB r hr]
      rw [y1, sfB_sta]
      by_cases hdu : ded u r = true ∧ u.sta r = 3
      · rw [if_pos (show r < 8 ∧ ded u r = true ∧ u.sta r = 3 from ⟨hr, hdu⟩), if_pos (show r < 8 ∧ ded (u.setE k none) r = true ∧ u.sta r = 3 from ⟨hr, hmono r hr hdu.1, hdu.2⟩)]
        exact ite_self _
      · rw [if_neg (show ¬ (r < 8 ∧ ded u r = true ∧ u.sta r = 3) from fun z => hdu z.2), if_neg hdu]
        by_cases h3 : u.sta r = 3
        · rw [if_neg (show ¬ (u.sta r = 4 ∧ u.wai r = 0) by omega)]
        · rw [if_neg (show ¬ (r < 8 ∧ ded (u.setE k none) r = true ∧ u.sta r = 3) from fun z => h3 z.2.2), if_neg]
          rintro ⟨-, -, z⟩
          split at z <;> omega
    · rw [if_neg (fun z => hr z.1), if_neg (fun z => hr z.1), if_neg (fun z => hr z.1)]
theorem dre_sfn (h : Pinv B u) {k : Nat} (hk : k < 16) : dre (sfn u) k = sfn (u.setE k none) := by rw [dre_eq (sfn_inv h) hk, sfn_sfn h]
def swm : Nat → Nat → Vt → Nat → Nat × Vt
  | 0, _, u, a => (a, u)
  | n + 1, k, u, a => if ndl u k = true then swm n (k + 1) (u.setE k none) (a + 1) else swm n (k + 1) u a
theorem swl_swm : ∀ n k u a, k + n = 16 → Pinv B u → swl n k (sfn u) a = ((swm n k u a).1, sfn (swm n k u a).2) ∧ Pinv B (swm n k u a).2 := by
  intro n
  induction n with
  | zero => intro k u a _ h; exact ⟨rfl, h⟩
  | succ n ih =>
    intro k u a hk h
    rw [swl, swm, ndl_sfn h]
    by_cases hn : ndl u k = true
    · rw [if_pos hn, if_pos hn, dre_sfn h (by omega)]
      exact ih (k + 1) _ _ (by omega) (setE_pinv h)
    · rw [if_neg hn, if_neg hn]
      exact ih (k + 1) _ _ (by omega) h
theorem p_M_hasOther (h : RM am m A S) (hv : Rv A S v) (hw : Wf v) {j : Nat} {c : Cp} (hj : j < 193) (hc : mcA A j c) (hck : c.key < 16) (q : Rh (some (.int (bI (hol v c 192 0)))) m) : cp_M_hasOther [.ref (am 0), .int (nI j)] m Rh := by
  refine ⟨Nat.le_of_ble_eq_true rfl, fun X hX => ?_⟩
  have L : ∀ n d, d + n = 192 → Rh (some (.int (bI (hol v c n d)))) m → X 2 [(0, .ref (am 0)), (1, .int (nI j)), (2, .int (nI d))] [] m 0 0 := by
    intro n
    induction n with
    | zero =>
      intro d hd q
      refine eM_hasOther_2 hX ?_
      unfold cM_hasOther_2
      have : d = 192 := by omega
      subst this
      exact xr_iload rfl <| xr_push <| xr_cmpt (Int32.le_refl _) <| xr_push <| xr_zret (Or.inl rfl) q
    | succ n ih =>
      intro d hd q
      refine eM_hasOther_2 hX ?_
      unfold cM_hasOther_2
      have hr16 : d / 12 < 16 := by omega
      have hl := (hv.2.1 (d / 12) hr16).2
      have skip : olc c (v.row (d / 12))[d % 12]? = false → X 2 [(0, .ref (am 0)), (1, .int (nI j)), (2, .int (nI d + 1))] [] m 0 0 := by
        intro ho
        rw [nI_1]
        rw [hol, ho, Bool.false_or] at q
        exact ih (d + 1) (by omega) q
      refine xr_iload rfl <| xr_push <| xr_cmpf (nI_ge (by omega) (by decide)) <| xr_iload rfl <| xr_push <| xr_irem (by decide) <| zg h 7 (by omega) rfl <| xr_iload rfl <| xr_push <| xr_idiv (by decide) <| za h 7 (pk_div (by omega) (by omega) (by omega)) (by omega) hr16 <| ?_
      rw [pk_rem (by omega) (by omega) (by omega), (hv.2.1 (d / 12) hr16).1]
      refine xr_cmp (fun h1 => ?_) (fun h1 => ?_)
      · rw [nI_leI (by omega) (by omega)] at h1
        exact xr_iinc rfl <| xr_jmp rfl (skip (by rw [List.getElem?_eq_none h1]; rfl))
      · rw [nI_leI (by omega) (by omega)] at h1
        obtain ⟨e, he, -⟩ := drop_at (l := v.row (d / 12)) (p := d % 12) (by omega)
        have hm := hv.1 (d / 12) hr16 (d % 12) e he
        rw [show 12 * (d / 12) + d % 12 = d by omega] at hm
        have hek := (hw.2.2.1 (d / 12) hr16 e (List.mem_of_getElem? he)).1
        refine zg h 1 (by omega) rfl <| xr_iload rfl <| za h 1 rfl (by omega) (show d < 193 by omega) <| zg h 1 (by omega) rfl <| xr_iload rfl <| za h 1 rfl (by omega) hj <| ?_
        rw [hm.2.1, hc.2.1]
        refine xr_cmp (fun h2 => ?_) (fun h2 => ?_)
        · rw [nI_eq (by omega) (by omega)] at h2
          refine zg h 6 (by omega) rfl <| xr_iload rfl <| za h 6 rfl (by omega) (show d < 193 by omega) <| zg h 6 (by omega) rfl <| xr_iload rfl <| za h 6 rfl (by omega) hj <| ?_
          rw [hm.2.2.2.2.2.2, hc.2.2.2.2.2.2]
          refine xr_cmp (fun h3 => ?_) (fun h3 => ?_)
          · exact xr_iinc rfl <| xr_jmp rfl (skip (by rw [he]; simp [olc, oth, h3]))
          · refine xr_push <| xr_zret (Or.inr rfl) ?_
            rw [hol, he, show olc c (some e) = true by simp [olc, oth, h2, h3]] at q
            exact q
        · rw [nI_eq (by omega) (by omega)] at h2
          exact xr_iinc rfl <| xr_jmp rfl (skip (by rw [he]; simp [olc, oth, h2]))
  refine eM_hasOther_0 hX ?_
  unfold cM_hasOther_0
  exact xr_push <| xr_istore <| xr_jmp rfl (L 192 0 rfl q)
theorem p_M_sweep (hQ : QM am m v) (hI : Inv B v) (hB : B < 2 ^ 30) (q : ∀ m', QM am m' (Fsweep v).2 → FrM m m' → Rh (some (.int (Fsweep v).1)) m') : cp_M_sweep [.ref (am 0)] m Rh := by
  refine ⟨Nat.le_of_ble_eq_true rfl, fun X hX => ?_⟩
  have L : ∀ n k u a m A, k + n = 16 → RM am m A (scV u) → Rv A (scV u) u → Pinv B u → (∀ m', QM am m' (sfn (swm n k u a).2) → FrM m m' → Rh (some (.int (nI (swm n k u a).1))) m') → X 14 [(0, .ref (am 0)), (1, .int (nI a)), (2, .int (nI k))] [] m 0 0 := by
    intro n
    induction n with
    | zero =>
      intro k u a m A hk h hv hP q
      refine eM_sweep_14 hX ?_
      unfold cM_sweep_14
      have : k = 16 := by omega
      subst this
      exact xr_iload rfl <| xr_push <| xr_cmpt (Int32.le_refl _) <| xr_aload rfl <| xr_callV (by decide) (by decide) rfl (by decide) h.2.1 <| p_M_settle h hv hP hB (fun m1 h1 f1 => xr_iload rfl <| xr_iret (q m1 h1 f1))
    | succ n ih =>
      intro k u a m A hk h hv hP q
      refine eM_sweep_14 hX ?_
      unfold cM_sweep_14
      have hk16 : k < 16 := by omega
      have skip : ndl u k = false → X 14 [(0, .ref (am 0)), (1, .int (nI a)), (2, .int (nI k + 1))] [] m 0 0 := by
        intro hn
        rw [nI_1]
        rw [swm, if_neg (by rw [hn]; decide)] at q
        exact ih (k + 1) u a m A (by omega) h hv hP q
      have J59 : ndl u k = true → cM_sweep_59 X Rh [(0, .ref (am 0)), (1, .int (nI a)), (2, .int (nI k))] [] m 0 0 := by
        intro hn
        unfold cM_sweep_59
        rw [swm, if_pos hn] at q
        refine zg h 11 (by omega) rfl <| xr_iload rfl <| xr_push <| zs h 11 rfl (by omega) hk16 (fun m1 h1 f1 => xr_iinc rfl <| xr_iinc rfl <| xr_jmp rfl ?_)
        rw [nI_1, nI_1]
        exact ih (k + 1) (u.setE k none) (a + 1) m1 _ (by omega) h1 (hv.uEnt (k := k) (x := none)) (setE_pinv hP) (fun m' z1 z2 => q m' z1 (f1.tr z2))
      refine xr_iload rfl <| xr_push <| xr_cmpf (nI_ge hk16 (by decide)) <| zg h 11 (by omega) rfl <| xr_iload rfl <| za h 11 rfl (by omega) hk16 <| ?_
      cases he : u.ent k with
      | none =>
        rw [hv.ent0 hk16 he]
        exact xr_istore <| xr_iload rfl <| xr_ift (by decide) <| xr_iinc rfl <| xr_jmp rfl (skip (by unfold ndl; rw [he]))
      | some e =>
        obtain ⟨c, hh, p⟩ := e
        obtain ⟨g1, g2, g3⟩ := hv.ent1 hP.ec hk16 he
        obtain ⟨i1, i2, i3⟩ := hP.ent k hk16 c hh p he
        have hok := (hP.row hh (by omega)).1 c (List.mem_of_getElem? i2)
        have hnd : ndl u k = if c.tmb = true then !hid u c 8 0 else exq c u.clk := by unfold ndl; rw [he]
        rw [g1]
        refine xr_istore <| xr_iload rfl <| xr_iff (nI_pos (by omega)) <| xr_aload rfl <| xr_iload rfl <| xr_callV (by decide) (by decide) rfl (by decide) h.2.1 <| p_M_expired h hv (by omega) g3 <| xr_if (fun a1 => ?_) (fun a1 => ?_)
        · rw [bI_0] at a1
          refine zg h 0 (by omega) rfl <| xr_iload rfl <| zz h rfl (show 12 * hh + p < 193 by omega) <| ?_
          rw [g3.1]
          refine xr_if (fun a2 => ?_) (fun a2 => ?_)
          · rw [bI_0] at a2
            refine xr_iinc rfl <| xr_jmp rfl (skip ?_)
            rw [hnd, a2]
            unfold exm at a1
            rw [a2] at a1
            simpa using a1
          · have a2 := bI_n0 a2
            refine xr_aload rfl <| xr_iload rfl <| xr_callV (by decide) (by decide) rfl (by decide) h.2.1 <| p_M_hasOther h hv (hP.wf hB) (show 12 * hh + p < 193 by omega) g3 hok.1 <| ?_
            rw [hol_hid (fun r hr => hP.len hr)]
            refine xr_if (fun a3 => ?_) (fun a3 => ?_)
            · rw [bI_0] at a3
              exact xr_jmp rfl (J59 (by rw [hnd, if_pos a2, a3]; rfl))
            · have a3 := bI_n0 a3
              exact xr_iinc rfl <| xr_jmp rfl (skip (by rw [hnd, if_pos a2, a3]; rfl))
        · have a1 := bI_n0 a1
          refine xr_jmp rfl (J59 ?_)
          unfold exm at a1
          rw [Bool.and_eq_true] at a1
          have ht : c.tmb = false := by simpa using a1.1
          rw [hnd, ht]
          simpa using a1.2
  obtain ⟨A, h, hv⟩ := hQ
  refine eM_sweep_0 hX ?_
  unfold cM_sweep_0
  unfold Fsweep at q
  refine xr_aload rfl <| xr_get h.2.1 rfl <| xr_if (fun a5 => ?_) (fun a5 => ?_)
  · have a5 : v.dwn = false := bI_0.mp a5
    rw [if_neg (by rw [a5]; decide)] at q
    have e := (swl_swm 16 0 v 0 rfl hI.p).1
    rw [hI.sfn] at e
    rw [e] at q
    exact xr_push <| xr_istore <| xr_push <| xr_istore <| xr_jmp rfl (L 16 0 v 0 m A rfl h hv hI.p q)
  · have a5 : v.dwn = true := bI_n0 a5
    rw [if_pos a5] at q
    exact xr_push <| xr_iret (q m ⟨A, h, hv⟩ FrM.rf)
end
