/-! the reference's public methods: put, get, touch, remove, tick -/
section
variable {am : Nat → Nat} {m : xm_M} {A : Nat → Nat → Int32} {S : Sc} {v : Vt} {K : xm_PT} {ls : xm_L} {st : List Value} {bc bs B : Nat} {Rh : Option Value → xm_M → Prop}
theorem in_0 {p : Prop} [Decidable p] : bI (decide p) = 0 ↔ ¬ p := by rw [bI_0]; simp
theorem ge_16 {x : Int32} : nI 15 < x ↔ nI 16 ≤ x := by
  rw [Int32.lt_iff_toInt_lt, Int32.le_iff_toInt_le, nI_toInt (by omega), nI_toInt (by omega)]; omega
theorem ge_8 {x : Int32} : nI 7 < x ↔ nI 8 ≤ x := by
  rw [Int32.lt_iff_toInt_lt, Int32.le_iff_toInt_le, nI_toInt (by omega), nI_toInt (by omega)]; omega
theorem in_key {x : Int32} : ¬ (¬ x < 0 ∧ ¬ nI 15 < x) ↔ badK x := by
  rw [ge_16]; unfold badK
  constructor
  · intro h
    by_cases h1 : x < 0
    · exact Or.inl h1
    · exact Or.inr (Classical.byContradiction (fun h2 => h ⟨h1, h2⟩))
  · rintro (h | h) ⟨h1, h2⟩
    · exact h1 h
    · exact h2 h
theorem in_blk {x : Int32} : ¬ (¬ x < 0 ∧ ¬ nI 7 < x) ↔ (x < 0 ∨ nI 8 ≤ x) := by
  rw [ge_8]
  constructor
  · intro h
    by_cases h1 : x < 0
    · exact Or.inl h1
    · exact Or.inr (Classical.byContradiction (fun h2 => h ⟨h1, h2⟩))
  · rintro (h | h) ⟨h1, h2⟩
    · exact h1 h
    · exact h2 h
theorem in_rng {x a b : Int32} : ¬ (¬ x < a ∧ ¬ b < x) ↔ (x < a ∨ ¬ x ≤ b) := by
  rw [Int32.not_le]
  constructor
  · intro h
    by_cases h1 : x < a
    · exact Or.inl h1
    · exact Or.inr (Classical.byContradiction (fun h2 => h ⟨h1, h2⟩))
  · rintro (h | h) ⟨h1, h2⟩
    · exact h1 h
    · exact h2 h
theorem thm_thr (v : Vt) (k : Nat) : thm v k = thr v k := by
  unfold thm thr exm
  cases v.ent k with
  | none => rfl
  | some e => cases h : e.1.tmb <;> simp [h]
theorem Pinv.wrec (h : Pinv B v) {k s : Nat} {x g e : Int32} (hk : k < 16) (h1 : 1 ≤ s) (h6 : s ≤ 6) : CpOk (B + 1) (k, x, s, g, e, v.nst, false) := by
  obtain ⟨t, e1, e2⟩ := h.bnd.2
  exact ⟨hk, h1, h6, fun q => (by cases q), t, e1, by omega⟩
theorem Pinv.wtmb (h : Pinv B v) {k : Nat} (hk : k < 16) : CpOk (B + 1) (wtmb v k) := by
  obtain ⟨t, e1, e2⟩ := h.bnd.2
  exact ⟨hk, Nat.le_refl 1, (show 1 ≤ 6 by omega), fun _ => rfl, t, e1, by omega⟩
theorem wri_inv (h : Inv B v) (hd : v.dwn = false) {c : Cp} (hok : CpOk (B + 1) c) {f : Nat} {v2 : Vt} (he : wri v c = .inr (f, v2)) : Inv (B + 2) v2 ∧ v2.dwn = false ∧ v2.clk = v.clk := by
  unfold wri at he
  cases ha : apd v c with
  | inl e => simp only [ha] at he; cases he
  | inr x =>
    obtain ⟨g, v1⟩ := x
    simp only [ha] at he
    cases he
    obtain ⟨-, -, -, -, k4, -, k6, -, k8⟩ := apd_inv h hd hok ha
    exact ⟨inc1_inv k4, k6, k8⟩
theorem p_M_put (hQ : QM am m v) (hI : Inv B v) (hB : B + 2 < 2 ^ 30) {key x size life rule : Int32} (q : ∀ m', QM am m' (Fput v key x size life rule).2 → FrM m m' → Rh (some (.int (Fput v key x size life rule).1)) m') : cp_M_put [.ref (am 0), .int key, .int x, .int size, .int life, .int rule] m Rh := by
  refine ⟨Nat.le_of_ble_eq_true rfl, fun X hX => eM_put_0 hX ?_⟩
  unfold cM_put_0
  obtain ⟨A, h, hv⟩ := hQ
  have bad : (badK key ∨ size < 1 ∨ nI 6 < size ∨ isL life = false ∨ ¬ -3 ≤ rule) → Rh (some (.int (-1))) m := by
    intro hb
    have e : Fput v key x size life rule = (-1, v) := by unfold Fput; rw [if_pos hb]
    rw [e] at q
    exact q m ⟨A, h, hv⟩ FrM.rf
  refine xr_iload rfl <| xr_push <| xr_push <| xr_callS (by decide) (by decide) rfl (by decide) <| p_M_in <| xr_if (fun a1 => ?_) (fun a1 => ?_)
  · rw [in_0, in_key] at a1
    exact xr_push <| xr_iret (bad (Or.inl a1))
  · rw [in_0, in_key] at a1
    refine xr_iload rfl <| xr_push <| xr_push <| xr_callS (by decide) (by decide) rfl (by decide) <| p_M_in <| xr_if (fun a2 => ?_) (fun a2 => ?_)
    · rw [in_0] at a2
      refine xr_push <| xr_iret (bad (Or.inr ?_))
      by_cases s1 : size < 1
      · exact Or.inl s1
      · by_cases s2 : nI 6 < size
        · exact Or.inr (Or.inl s2)
        · exact absurd ⟨s1, s2⟩ a2
    · rw [in_0, Classical.not_not] at a2
      refine xr_iload rfl <| xr_push <| xr_push <| xr_callS (by decide) (by decide) rfl (by decide) <| p_M_in <| xr_if (fun a3 => ?_) (fun a3 => ?_)
      · rw [bI_0] at a3
        exact xr_push <| xr_iret (bad (Or.inr (Or.inr (Or.inr (Or.inl a3)))))
      · rw [bI_0] at a3
        refine xr_iload rfl <| xr_push <| xr_cmp (fun a4 => ?_) (fun a4 => ?_)
        · have hgood : ¬ (badK key ∨ size < 1 ∨ nI 6 < size ∨ isL life = false ∨ ¬ -3 ≤ rule) := by
            rintro (b | b | b | b | b)
            · exact a1 b
            · exact a2.1 b
            · exact a2.2 b
            · exact a3 b
            · exact b a4
          obtain ⟨k, hk, rfl⟩ := badK_not a1
          obtain ⟨s, hs1, hs6, rfl⟩ := rng_not (n := 6) (by omega) a2.1 (Int32.not_lt.mp a2.2)
          have kn : kk (nI k) = k := kk_nI (by omega)
          have sn : kk (nI s) = s := kk_nI (by omega)
          refine xr_aload rfl <| xr_get h.2.1 rfl <| xr_if (fun a5 => ?_) (fun a5 => ?_)
          · have a5 : v.dwn = false := bI_0.mp a5
            have conf : rlh v k rule = false → Rh (some (.int (-3))) m := by
              intro hr
              have e : Fput v (nI k) x (nI s) life rule = (-3, v) := by unfold Fput; rw [if_neg hgood, if_neg (by rw [a5]; decide), kn, if_pos hr]
              rw [e] at q
              exact q m ⟨A, h, hv⟩ FrM.rf
            have J124 : ∀ g, g + 1 = (match v.ent k with
                | none => 1
                | some e => if thr v k = true then e.1.gen + 1 else 1) → rlh v k rule = true → cM_put_124 X Rh [(0, .ref (am 0)), (1, .int (nI k)), (2, .int x), (3, .int (nI s)), (4, .int life), (7, .int g)] [] m 0 0 := by
              intro g hg hr
              unfold cM_put_124
              have hwr : wrec v k x s life = (k, x, s, g + 1, (if life = 0 then 0 else v.clk + life), v.nst, false) := by unfold wrec; rw [hg] <;> rfl
              have e : Fput v (nI k) x (nI s) life rule = gW v (wrec v k x s life) := by unfold Fput; rw [if_neg hgood, if_neg (by rw [a5]; decide), kn, sn, if_neg (by rw [hr]; decide)]
              rw [e, hwr] at q
              unfold gW ans at q
              refine xr_aload rfl <| xr_iload rfl <| xr_iload rfl <| xr_iload rfl <| xr_iload rfl <| xr_push <| xr_ibin <| xr_iload rfl <| xr_callV (by decide) (by decide) rfl (by decide) h.2.1 <| p_M_writeRecord h hv hI hB a5 (hI.p.wrec hk hs1 hs6) (fun e' m' w1 w2 w3 w4 => ?_) (fun f v2 m' w1 w2 w3 w4 w5 => ?_)
              · rw [w1] at q; exact xr_iret (q m' w3 w4)
              · rw [w1] at q; exact xr_iret (q m' w4 w5)
            have J78 : ∀ g, g + 1 = (match v.ent k with
                | none => 1
                | some e => if thr v k = true then e.1.gen + 1 else 1) → (thr v k = true → ∃ e, v.ent k = some e ∧ g = e.1.gen) → cM_put_78 X Rh [(0, .ref (am 0)), (1, .int (nI k)), (2, .int x), (3, .int (nI s)), (4, .int life), (5, .int rule), (6, .int (bI (thr v k)))] [.int g] m 0 0 := by
              intro g hg hge
              have J104 : ¬ rule.toInt = -2 ∨ thr v k = false → ¬ rule.toInt = -3 ∨ thr v k = true → cM_put_104 X Rh [(0, .ref (am 0)), (1, .int (nI k)), (2, .int x), (3, .int (nI s)), (4, .int life), (5, .int rule), (6, .int (bI (thr v k))), (7, .int g)] [] m 0 0 := by
                intro c1 c2
                unfold cM_put_104
                have hr3 : -3 ≤ rule.toInt := Int32.le_iff_toInt_le.mp a4
                refine xr_iload rfl <| xr_if (fun a8 => ?_) (fun a8 => ?_)
                · have a8 : rule.toInt < 0 := Int32.lt_iff_toInt_lt.mp a8
                  refine xr_jmp rfl (J124 g hg ?_)
                  unfold rlh
                  by_cases t3 : rule.toInt = -3
                  · rw [if_pos t3]; exact c2.resolve_left (fun z => z t3)
                  · rw [if_neg t3]
                    by_cases t2 : rule.toInt = -2
                    · rw [if_pos t2, c1.resolve_left (fun z => z t2)]; rfl
                    · rw [if_neg t2, if_pos (by omega)]
                · have a8 : ¬ rule.toInt < 0 := fun z => a8 (Int32.lt_iff_toInt_lt.mpr z)
                  have hun : rlh v k rule = (thr v k && (match v.ent k with
                      | none => false
                      | some e => decide (e.1.gen = rule))) := by unfold rlh; rw [if_neg (by omega), if_neg (by omega), if_neg (by omega)] <;> rfl
                  refine xr_iload rfl <| xr_if (fun a9 => ?_) (fun a9 => ?_)
                  · rw [bI_0] at a9
                    exact xr_push <| xr_iret (conf (by rw [hun, a9]; rfl))
                  · rw [bI_0] at a9
                    have ht : thr v k = true := by cases hh : thr v k <;> simp_all
                    obtain ⟨e, he, hgg⟩ := hge ht
                    refine xr_iload rfl <| xr_iload rfl <| xr_cmp (fun b1 => ?_) (fun b1 => ?_)
                    · exact xr_jmp rfl (J124 g hg (by rw [hun, ht, he]; simp [← hgg, b1]))
                    · exact xr_push <| xr_iret (conf (by rw [hun, ht, he]; simp [← hgg, b1]))
              have J92 : ¬ rule.toInt = -2 ∨ thr v k = false → cM_put_92 X Rh [(0, .ref (am 0)), (1, .int (nI k)), (2, .int x), (3, .int (nI s)), (4, .int life), (5, .int rule), (6, .int (bI (thr v k))), (7, .int g)] [] m 0 0 := by
                intro c1
                unfold cM_put_92
                refine xr_iload rfl <| xr_push <| xr_cmp (fun a8 => ?_) (fun a8 => ?_)
                · have t3 : rule.toInt = -3 := by rw [a8]; rfl
                  refine xr_iload rfl <| xr_if (fun a9 => ?_) (fun a9 => ?_)
                  · rw [bI_0] at a9
                    exact xr_push <| xr_iret (conf (by unfold rlh; rw [if_pos t3]; exact a9))
                  · rw [bI_0] at a9
                    exact xr_jmp rfl (J104 c1 (Or.inr (by cases hh : thr v k <;> simp_all)))
                · exact xr_jmp rfl (J104 c1 (Or.inl (fun z => a8 (Int32.toInt_inj.mp (by rw [z]; rfl)))))
              unfold cM_put_78
              refine xr_istore <| xr_iload rfl <| xr_push <| xr_cmp (fun a8 => ?_) (fun a8 => ?_)
              · have t2 : rule.toInt = -2 := by rw [a8]; rfl
                refine xr_iload rfl <| xr_if (fun a9 => ?_) (fun a9 => ?_)
                · rw [bI_0] at a9
                  exact xr_jmp rfl (J92 (Or.inr a9))
                · rw [bI_0] at a9
                  have ht : thr v k = true := by cases hh : thr v k <;> simp_all
                  exact xr_push <| xr_iret (conf (by unfold rlh; rw [if_neg (by omega), if_pos t2, ht]; rfl))
              · exact xr_jmp rfl (J92 (Or.inl (fun z => a8 (Int32.toInt_inj.mp (by rw [z]; rfl)))))
            refine xr_aload rfl <| xr_iload rfl <| xr_callV (by decide) (by decide) rfl (by decide) h.2.1 <| p_M_isThere h hv hI.p.ec hk <| ?_
            rw [thm_thr]
            refine xr_istore <| xr_iload rfl <| xr_if (fun a6 => ?_) (fun a6 => ?_)
            · rw [bI_0] at a6
              refine xr_push <| xr_jmp rfl (J78 0 ?_ (fun z => by rw [a6] at z; cases z))
              cases v.ent k with
              | none => rfl
              | some e => rw [a6]; rfl
            · rw [bI_0] at a6
              have ht : thr v k = true := by cases hh : thr v k <;> simp_all
              cases he : v.ent k with
              | none => unfold thr at ht; rw [he] at ht; cases ht
              | some e =>
                obtain ⟨c, hh, p⟩ := e
                obtain ⟨g1, g2, g3⟩ := hv.ent1 hI.p.ec hk he
                refine zg h 4 (by omega) rfl <| zg h 11 (by omega) rfl <| xr_iload rfl <| za h 11 rfl (by omega) hk <| za h 4 g1 (by omega) (show 12 * hh + p < 193 by omega) <| xr_jmp rfl ?_
                rw [g3.2.2.2.2.1]
                exact J78 c.gen (by rw [he, ht]; rfl) (fun _ => ⟨_, he, rfl⟩)
          · have a5 : v.dwn = true := by cases hh : v.dwn with
              | true => rfl
              | false => exact absurd (bI_0.mpr hh) a5
            have e : Fput v (nI k) x (nI s) life rule = (-2, v) := by unfold Fput; rw [if_neg hgood, if_pos a5]
            rw [e] at q
            exact xr_push <| xr_iret (q m ⟨A, h, hv⟩ FrM.rf)
        · exact xr_push <| xr_iret (bad (Or.inr (Or.inr (Or.inr (Or.inr a4)))))
end
