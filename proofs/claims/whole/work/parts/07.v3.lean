theorem d_V_compact_0 : decode b_V_compact 0 = .ok (.iload_n 1, 1) := by decide +kernel
theorem d_V_compact_1 : decode b_V_compact 1 = .ok (.iconst 1, 1) := by decide +kernel
theorem d_V_compact_2 : decode b_V_compact 2 = .ok (.if_icmp .lt 9, 3) := by decide +kernel
theorem d_V_compact_5 : decode b_V_compact 5 = .ok (.iload_n 1, 1) := by decide +kernel
theorem d_V_compact_6 : decode b_V_compact 6 = .ok (.bipush 12, 2) := by decide +kernel
theorem d_V_compact_8 : decode b_V_compact 8 = .ok (.if_icmp .le 5, 3) := by decide +kernel
theorem d_V_compact_11 : decode b_V_compact 11 = .ok (.iconst (-1), 1) := by decide +kernel
theorem d_V_compact_12 : decode b_V_compact 12 = .ok (.ireturn, 1) := by decide +kernel
theorem d_V_compact_13 : decode b_V_compact 13 = .ok (.aload_n 0, 1) := by decide +kernel
theorem d_V_compact_14 : decode b_V_compact 14 = .ok (.getfield 37, 3) := by decide +kernel
theorem d_V_compact_17 : decode b_V_compact 17 = .ok (.ifCond .eq 6, 3) := by decide +kernel
theorem d_V_compact_20 : decode b_V_compact 20 = .ok (.bipush (-2), 2) := by decide +kernel
theorem d_V_compact_22 : decode b_V_compact 22 = .ok (.ireturn, 1) := by decide +kernel
theorem d_V_compact_23 : decode b_V_compact 23 = .ok (.aload_n 0, 1) := by decide +kernel
theorem d_V_compact_24 : decode b_V_compact 24 = .ok (.iload_n 1, 1) := by decide +kernel
theorem d_V_compact_25 : decode b_V_compact 25 = .ok (.invokevirtual 105, 3) := by decide +kernel
theorem d_V_compact_28 : decode b_V_compact 28 = .ok (.istore_n 2, 1) := by decide +kernel
theorem d_V_compact_29 : decode b_V_compact 29 = .ok (.iload_n 2, 1) := by decide +kernel
theorem d_V_compact_30 : decode b_V_compact 30 = .ok (.iconst (-1), 1) := by decide +kernel
theorem d_V_compact_31 : decode b_V_compact 31 = .ok (.if_icmp .ne 6, 3) := by decide +kernel
theorem d_V_compact_34 : decode b_V_compact 34 = .ok (.bipush (-4), 2) := by decide +kernel
theorem d_V_compact_36 : decode b_V_compact 36 = .ok (.ireturn, 1) := by decide +kernel
theorem d_V_compact_37 : decode b_V_compact 37 = .ok (.aload_n 0, 1) := by decide +kernel
theorem d_V_compact_38 : decode b_V_compact 38 = .ok (.iload_n 2, 1) := by decide +kernel
theorem d_V_compact_39 : decode b_V_compact 39 = .ok (.invokevirtual 108, 3) := by decide +kernel
theorem d_V_compact_42 : decode b_V_compact 42 = .ok (.istore_n 3, 1) := by decide +kernel
theorem d_V_compact_43 : decode b_V_compact 43 = .ok (.aload_n 0, 1) := by decide +kernel
theorem d_V_compact_44 : decode b_V_compact 44 = .ok (.dup, 1) := by decide +kernel
theorem d_V_compact_45 : decode b_V_compact 45 = .ok (.getfield 34, 3) := by decide +kernel
theorem d_V_compact_48 : decode b_V_compact 48 = .ok (.iload_n 3, 1) := by decide +kernel
theorem d_V_compact_49 : decode b_V_compact 49 = .ok (.iadd, 1) := by decide +kernel
theorem d_V_compact_50 : decode b_V_compact 50 = .ok (.putfield 34, 3) := by decide +kernel
theorem d_V_compact_53 : decode b_V_compact 53 = .ok (.iload_n 3, 1) := by decide +kernel
theorem d_V_compact_54 : decode b_V_compact 54 = .ok (.ireturn, 1) := by decide +kernel
-- BlockVault.compact(I)I: labels [0], loops []
abbrev rm_V_compact : Room := { frames := 4, cells := 0, slots := 0, locals := 96 }
def cV_compact_0 (X : Nat → xm_PT) (Rh : Option Value → xm_M → Prop) : xm_PT := (xo_iload 1 (xo_push (.int 1) (xo_icmp (fun x y => x < y) (xo_push (.int (-1)) (xo_iret Rh)) (xo_iload 1 (xo_push (.int (nI 12)) (xo_icmp (fun x y => x ≤ y) (xo_aload 0 (xo_get 0 7 (xo_if (fun x => x = 0) (xo_aload 0 (xo_iload 1 (xo_callV 0 1 0 0 cp_V_sparsestWritten (xo_istore 2 (xo_iload 2 (xo_push (.int (-1)) (xo_icmp (fun x y => x = y) (xo_push (.int (-4)) (xo_iret Rh)) (xo_aload 0 (xo_iload 2 (xo_callV 0 1 0 0 cp_V_moveLiveCopies (xo_istore 3 (xo_aload 0 (xo_dup (xo_get 0 6 (xo_iload 3 (xo_ibin (fun x y => x + y) (xo_put 0 6 .int (xo_iload 3 (xo_iret Rh))))))))))))))))))) (xo_push (.int (-2)) (xo_iret Rh))))) (xo_push (.int (-1)) (xo_iret Rh))))))))
def fV_compact : xm_F := fun X Rh lb => if lb = 0 then cV_compact_0 X Rh else fun _ _ _ _ _ => False
def cp_V_compact : xm_CP := fun as m Rh => (lg_sl as).length ≤ 4 ∧ xm_cp fV_compact 0 0 as m Rh
theorem eV_compact_0 {X : Nat → xm_PT} {Rh : Option Value → xm_M → Prop} (hX : ∀ lb, xm_le (fV_compact X Rh lb) (X lb)) {ls : xm_L} {st : List Value} {m : xm_M} {bc bs : Nat} (h : cV_compact_0 X Rh ls st m bc bs) : X 0 ls st m bc bs := hX 0 ls st m bc bs h
set_option maxRecDepth 20000 in
set_option maxHeartbeats 4000000 in
theorem sV_compact_0 {p : Program} {l : Launch} {e : Env} {s : State} {mm : MethodId} {args : Array Value} {below : List Frame} {meth : Method} {c : Code} {D : va_G} {A : Nat → Prop} {Rh : Option Value → xm_M → Prop} (C : xm_C p s mm args c b_V_compact 4 "BlockVault" w_V_compact D classes ats A) (hr : meth.sig.returnType = (some .int)) (hlk : meth.locks = false) (hnm : meth.name = "compact") : xm_le (cV_compact_0 (xm_A p l e rm_V_compact s mm args below meth c 4 D classes A (MQ below (xm_Q D classes Rh A) args s 0 0 A)) Rh) ((xm_A p l e rm_V_compact s mm args below meth c 4 D classes A (MQ below (xm_Q D classes Rh A) args s 0 0 A)) 0) :=
  (xs_iload_n C d_V_compact_0 rfl (xs_iconst C d_V_compact_1 (by decide) (xs_icmp_lt C d_V_compact_2 (by decide) (xs_iconst C d_V_compact_11 (by decide) (xs_iret C d_V_compact_12 hr hlk rfl rfl)) (xs_iload_n C d_V_compact_5 rfl (xs_bipush C d_V_compact_6 (by decide) (xs_icmp_le C d_V_compact_8 (by decide) (xs_aload_n C d_V_compact_13 rfl (xs_get C (k := 7) d_V_compact_14 h_V (ci := 0) rfl (by decide) (List.mem_cons_of_mem _ tw_88) rfl (xs_if_eq C d_V_compact_17 (by decide) (xs_aload_n C d_V_compact_23 rfl (xs_iload_n C d_V_compact_24 rfl (xs_callV C (CN := "BlockVault") (T := F_V) (N := 8) d_V_compact_25 (met_V_sparsestWritten l D) ⟨callB_of (ws := w_V_sparsestWritten) (rm := rm_V_sparsestWritten) 1 C.1.2.2.2.2 (gG_m tw_316) rfl rfl rfl (C.1.2.2.2.2 _ (List.mem_cons_of_mem _ tw_1)) (C.1.2.2.2.2 _ (List.mem_cons_of_mem _ tw_313)) ⟨by decide, by decide, by decide +kernel⟩ ⟨Nat.le_of_ble_eq_true rfl, Nat.le_of_ble_eq_true rfl⟩, (C.1.2.2.2.2 _ (List.mem_cons_of_mem _ tw_315)), (C.1.2.2.2.2 _ (List.mem_cons_of_mem _ ts_21))⟩ (ci := 0) rfl (xs_istore_n C d_V_compact_28 rfl (by decide) (xs_iload_n C d_V_compact_29 rfl (xs_iconst C d_V_compact_30 (by decide) (xs_icmp_ne C d_V_compact_31 (by decide) (xs_bipush C d_V_compact_34 (by decide) (xs_iret C d_V_compact_36 hr hlk rfl rfl)) (xs_aload_n C d_V_compact_37 rfl (xs_iload_n C d_V_compact_38 rfl (xs_callV C (CN := "BlockVault") (T := F_V) (N := 8) d_V_compact_39 (met_V_moveLiveCopies l D) ⟨callB_of (ws := w_V_moveLiveCopies) (rm := rm_V_moveLiveCopies) 1 C.1.2.2.2.2 (gG_m tw_324) rfl rfl rfl (C.1.2.2.2.2 _ (List.mem_cons_of_mem _ tw_1)) (C.1.2.2.2.2 _ (List.mem_cons_of_mem _ tw_321)) ⟨by decide, by decide, by decide +kernel⟩ ⟨Nat.le_of_ble_eq_true rfl, Nat.le_of_ble_eq_true rfl⟩, (C.1.2.2.2.2 _ (List.mem_cons_of_mem _ tw_323)), (C.1.2.2.2.2 _ (List.mem_cons_of_mem _ ts_23))⟩ (ci := 0) rfl (xs_istore_n C d_V_compact_42 rfl (by decide) (xs_aload_n C d_V_compact_43 rfl (xs_dup C d_V_compact_44 (xs_get C (k := 6) d_V_compact_45 h_V (ci := 0) rfl (by decide) (List.mem_cons_of_mem _ tw_87) rfl (xs_iload_n C d_V_compact_48 rfl (xs_iadd C d_V_compact_49 (xs_put C (k := 6) d_V_compact_50 h_V t_V t_V_ok n_V (ci := 0) rfl (by decide) (List.mem_cons_of_mem _ tw_87) rfl rfl (by decide +kernel) (xs_iload_n C d_V_compact_53 rfl (xs_iret C d_V_compact_54 hr hlk rfl rfl))))))))))))))))))) (xs_bipush C d_V_compact_20 (by decide) (xs_iret C d_V_compact_22 hr hlk rfl rfl))))) (xs_iconst C d_V_compact_11 (by decide) (xs_iret C d_V_compact_12 hr hlk rfl rfl))))))))
theorem met_V_compact (l : Launch) (D : va_G) : xm_Met l D classes ats y_V_compact w_V_compact rm_V_compact 0 0 cp_V_compact := by
  refine xm_met 0 (by decide) rfl rfl rfl (fun p e s mm args below meth c A Rh C hr hlk hnm lb => ?_)
  unfold fV_compact
  split
  · rename_i h; subst h; exact sV_compact_0 C hr hlk hnm
  · exact fun _ _ _ _ _ h => h.elim
theorem d_V_loseMemory_0 : decode b_V_loseMemory 0 = .ok (.iconst 0, 1) := by decide +kernel
theorem d_V_loseMemory_1 : decode b_V_loseMemory 1 = .ok (.istore_n 1, 1) := by decide +kernel
theorem d_V_loseMemory_2 : decode b_V_loseMemory 2 = .ok (.iload_n 1, 1) := by decide +kernel
theorem d_V_loseMemory_3 : decode b_V_loseMemory 3 = .ok (.bipush 16, 2) := by decide +kernel
theorem d_V_loseMemory_5 : decode b_V_loseMemory 5 = .ok (.if_icmp .ge 18, 3) := by decide +kernel
theorem d_V_loseMemory_8 : decode b_V_loseMemory 8 = .ok (.aload_n 0, 1) := by decide +kernel
theorem d_V_loseMemory_9 : decode b_V_loseMemory 9 = .ok (.getfield 17, 3) := by decide +kernel
theorem d_V_loseMemory_12 : decode b_V_loseMemory 12 = .ok (.iload_n 1, 1) := by decide +kernel
theorem d_V_loseMemory_13 : decode b_V_loseMemory 13 = .ok (.aaload, 1) := by decide +kernel
theorem d_V_loseMemory_14 : decode b_V_loseMemory 14 = .ok (.invokevirtual 241, 3) := by decide +kernel
theorem d_V_loseMemory_17 : decode b_V_loseMemory 17 = .ok (.iinc 1 1, 3) := by decide +kernel
theorem d_V_loseMemory_20 : decode b_V_loseMemory 20 = .ok (.goto (-18), 3) := by decide +kernel
theorem d_V_loseMemory_23 : decode b_V_loseMemory 23 = .ok (.iconst 0, 1) := by decide +kernel
theorem d_V_loseMemory_24 : decode b_V_loseMemory 24 = .ok (.istore_n 1, 1) := by decide +kernel
theorem d_V_loseMemory_25 : decode b_V_loseMemory 25 = .ok (.iload_n 1, 1) := by decide +kernel
theorem d_V_loseMemory_26 : decode b_V_loseMemory 26 = .ok (.bipush 8, 2) := by decide +kernel
theorem d_V_loseMemory_28 : decode b_V_loseMemory 28 = .ok (.if_icmp .ge 41, 3) := by decide +kernel
theorem d_V_loseMemory_31 : decode b_V_loseMemory 31 = .ok (.aload_n 0, 1) := by decide +kernel
theorem d_V_loseMemory_32 : decode b_V_loseMemory 32 = .ok (.getfield 11, 3) := by decide +kernel
theorem d_V_loseMemory_35 : decode b_V_loseMemory 35 = .ok (.iload_n 1, 1) := by decide +kernel
theorem d_V_loseMemory_36 : decode b_V_loseMemory 36 = .ok (.aaload, 1) := by decide +kernel
theorem d_V_loseMemory_37 : decode b_V_loseMemory 37 = .ok (.iconst 0, 1) := by decide +kernel
theorem d_V_loseMemory_38 : decode b_V_loseMemory 38 = .ok (.putfield 166, 3) := by decide +kernel
theorem d_V_loseMemory_41 : decode b_V_loseMemory 41 = .ok (.aload_n 0, 1) := by decide +kernel
theorem d_V_loseMemory_42 : decode b_V_loseMemory 42 = .ok (.getfield 11, 3) := by decide +kernel
theorem d_V_loseMemory_45 : decode b_V_loseMemory 45 = .ok (.iload_n 1, 1) := by decide +kernel
theorem d_V_loseMemory_46 : decode b_V_loseMemory 46 = .ok (.aaload, 1) := by decide +kernel
theorem d_V_loseMemory_47 : decode b_V_loseMemory 47 = .ok (.getfield 111, 3) := by decide +kernel
theorem d_V_loseMemory_50 : decode b_V_loseMemory 50 = .ok (.invokevirtual 235, 3) := by decide +kernel
theorem d_V_loseMemory_53 : decode b_V_loseMemory 53 = .ok (.aload_n 0, 1) := by decide +kernel
theorem d_V_loseMemory_54 : decode b_V_loseMemory 54 = .ok (.getfield 11, 3) := by decide +kernel
theorem d_V_loseMemory_57 : decode b_V_loseMemory 57 = .ok (.iload_n 1, 1) := by decide +kernel
theorem d_V_loseMemory_58 : decode b_V_loseMemory 58 = .ok (.aaload, 1) := by decide +kernel
theorem d_V_loseMemory_59 : decode b_V_loseMemory 59 = .ok (.iconst 0, 1) := by decide +kernel
theorem d_V_loseMemory_60 : decode b_V_loseMemory 60 = .ok (.putfield 175, 3) := by decide +kernel
theorem d_V_loseMemory_63 : decode b_V_loseMemory 63 = .ok (.iinc 1 1, 3) := by decide +kernel
theorem d_V_loseMemory_66 : decode b_V_loseMemory 66 = .ok (.goto (-41), 3) := by decide +kernel
theorem d_V_loseMemory_69 : decode b_V_loseMemory 69 = .ok (.return_, 1) := by decide +kernel
-- BlockVault.loseMemory()V: labels [0, 2, 25], loops [2, 25]
abbrev rm_V_loseMemory : Room := { frames := 2, cells := 0, slots := 0, locals := 43 }
def cV_loseMemory_25 (X : Nat → xm_PT) (Rh : Option Value → xm_M → Prop) : xm_PT := (xo_iload 1 (xo_push (.int (nI 8)) (xo_icmp (fun x y => y ≤ x) (xo_vret Rh) (xo_aload 0 (xo_get 0 0 (xo_iload 1 (xo_aald ats (xo_push (.int 0) (xo_put 3 2 .int (xo_aload 0 (xo_get 0 0 (xo_iload 1 (xo_aald ats (xo_get 3 0 (xo_callV 2 0 0 0 cp_R_clear (xo_aload 0 (xo_get 0 0 (xo_iload 1 (xo_aald ats (xo_push (.int 0) (xo_put 3 4 .int (xo_iinc 1 1 (xo_jmp [0, 1] (X 25))))))))))))))))))))))))
def cV_loseMemory_2 (X : Nat → xm_PT) (Rh : Option Value → xm_M → Prop) : xm_PT := (xo_iload 1 (xo_push (.int (nI 16)) (xo_icmp (fun x y => y ≤ x) (xo_push (.int 0) (xo_istore 1 (xo_jmp [0, 1] (X 25)))) (xo_aload 0 (xo_get 0 1 (xo_iload 1 (xo_aald ats (xo_callV 4 0 0 0 cp_E_forget (xo_iinc 1 1 (xo_jmp [0, 1] (X 2)))))))))))
def cV_loseMemory_0 (X : Nat → xm_PT) (Rh : Option Value → xm_M → Prop) : xm_PT := (xo_push (.int 0) (xo_istore 1 (xo_jmp [0, 1] (X 2))))
def fV_loseMemory : xm_F := fun X Rh lb => if lb = 0 then cV_loseMemory_0 X Rh else (if lb = 2 then cV_loseMemory_2 X Rh else (if lb = 25 then cV_loseMemory_25 X Rh else fun _ _ _ _ _ => False))
def cp_V_loseMemory : xm_CP := fun as m Rh => (lg_sl as).length ≤ 2 ∧ xm_cp fV_loseMemory 0 0 as m Rh
theorem eV_loseMemory_0 {X : Nat → xm_PT} {Rh : Option Value → xm_M → Prop} (hX : ∀ lb, xm_le (fV_loseMemory X Rh lb) (X lb)) {ls : xm_L} {st : List Value} {m : xm_M} {bc bs : Nat} (h : cV_loseMemory_0 X Rh ls st m bc bs) : X 0 ls st m bc bs := hX 0 ls st m bc bs h
theorem eV_loseMemory_2 {X : Nat → xm_PT} {Rh : Option Value → xm_M → Prop} (hX : ∀ lb, xm_le (fV_loseMemory X Rh lb) (X lb)) {ls : xm_L} {st : List Value} {m : xm_M} {bc bs : Nat} (h : cV_loseMemory_2 X Rh ls st m bc bs) : X 2 ls st m bc bs := hX 2 ls st m bc bs h
theorem eV_loseMemory_25 {X : Nat → xm_PT} {Rh : Option Value → xm_M → Prop} (hX : ∀ lb, xm_le (fV_loseMemory X Rh lb) (X lb)) {ls : xm_L} {st : List Value} {m : xm_M} {bc bs : Nat} (h : cV_loseMemory_25 X Rh ls st m bc bs) : X 25 ls st m bc bs := hX 25 ls st m bc bs h
set_option maxRecDepth 20000 in
set_option maxHeartbeats 4000000 in
theorem sV_loseMemory_25 {p : Program} {l : Launch} {e : Env} {s : State} {mm : MethodId} {args : Array Value} {below : List Frame} {meth : Method} {c : Code} {D : va_G} {A : Nat → Prop} {Rh : Option Value → xm_M → Prop} (C : xm_C p s mm args c b_V_loseMemory 2 "BlockVault" w_V_loseMemory D classes ats A) (hr : meth.sig.returnType = none) (hlk : meth.locks = false) (hnm : meth.name = "loseMemory") : xm_le (cV_loseMemory_25 (xm_A p l e rm_V_loseMemory s mm args below meth c 2 D classes A (MQ below (xm_Q D classes Rh A) args s 0 0 A)) Rh) ((xm_A p l e rm_V_loseMemory s mm args below meth c 2 D classes A (MQ below (xm_Q D classes Rh A) args s 0 0 A)) 25) :=
  (xs_iload_n C d_V_loseMemory_25 rfl (xs_bipush C d_V_loseMemory_26 (by decide) (xs_icmp_ge C d_V_loseMemory_28 (by decide) (xs_vret C d_V_loseMemory_69 hr hlk rfl rfl) (xs_aload_n C d_V_loseMemory_31 rfl (xs_get C (k := 0) d_V_loseMemory_32 h_V (ci := 0) rfl (by decide) (List.mem_cons_of_mem _ tw_81) rfl (xs_iload_n C d_V_loseMemory_35 rfl (xs_aald C d_V_loseMemory_36 (xs_iconst C d_V_loseMemory_37 (by decide) (xs_put C (k := 2) d_V_loseMemory_38 h_B t_B t_B_ok n_B (ci := 3) rfl (by decide) (List.mem_cons_of_mem _ tw_47) rfl rfl (by decide +kernel) (xs_aload_n C d_V_loseMemory_41 rfl (xs_get C (k := 0) d_V_loseMemory_42 h_V (ci := 0) rfl (by decide) (List.mem_cons_of_mem _ tw_81) rfl (xs_iload_n C d_V_loseMemory_45 rfl (xs_aald C d_V_loseMemory_46 (xs_get C (k := 0) d_V_loseMemory_47 h_B (ci := 3) rfl (by decide) (List.mem_cons_of_mem _ tw_43) rfl (xs_callV C (CN := "BlockVault$Row") (T := F_R) (N := 2) d_V_loseMemory_50 (met_R_clear l D) ⟨callB_of (ws := w_R_clear) (rm := rm_R_clear) 0 C.1.2.2.2.2 (gG_m tw_220) rfl rfl rfl (C.1.2.2.2.2 _ (List.mem_cons_of_mem _ tw_3)) (C.1.2.2.2.2 _ (List.mem_cons_of_mem _ tw_217)) ⟨by decide, by decide, by decide +kernel⟩ ⟨Nat.le_of_ble_eq_true rfl, Nat.le_of_ble_eq_true rfl⟩, (C.1.2.2.2.2 _ (List.mem_cons_of_mem _ tw_218)), (C.1.2.2.2.2 _ (List.mem_cons_of_mem _ tw_219))⟩ (ci := 2) rfl (xs_aload_n C d_V_loseMemory_53 rfl (xs_get C (k := 0) d_V_loseMemory_54 h_V (ci := 0) rfl (by decide) (List.mem_cons_of_mem _ tw_81) rfl (xs_iload_n C d_V_loseMemory_57 rfl (xs_aald C d_V_loseMemory_58 (xs_iconst C d_V_loseMemory_59 (by decide) (xs_put C (k := 4) d_V_loseMemory_60 h_B t_B t_B_ok n_B (ci := 3) rfl (by decide) (List.mem_cons_of_mem _ tw_51) rfl rfl (by decide +kernel) (xs_iinc C d_V_loseMemory_63 (by decide) (by decide) (xs_goto C d_V_loseMemory_66 (by decide) (xs_jmp (fun _ _ _ _ _ h => h)))))))))))))))))))))))))
set_option maxRecDepth 20000 in
set_option maxHeartbeats 4000000 in
theorem sV_loseMemory_2 {p : Program} {l : Launch} {e : Env} {s : State} {mm : MethodId} {args : Array Value} {below : List Frame} {meth : Method} {c : Code} {D : va_G} {A : Nat → Prop} {Rh : Option Value → xm_M → Prop} (C : xm_C p s mm args c b_V_loseMemory 2 "BlockVault" w_V_loseMemory D classes ats A) (hr : meth.sig.returnType = none) (hlk : meth.locks = false) (hnm : meth.name = "loseMemory") : xm_le (cV_loseMemory_2 (xm_A p l e rm_V_loseMemory s mm args below meth c 2 D classes A (MQ below (xm_Q D classes Rh A) args s 0 0 A)) Rh) ((xm_A p l e rm_V_loseMemory s mm args below meth c 2 D classes A (MQ below (xm_Q D classes Rh A) args s 0 0 A)) 2) :=
  (xs_iload_n C d_V_loseMemory_2 rfl (xs_bipush C d_V_loseMemory_3 (by decide) (xs_icmp_ge C d_V_loseMemory_5 (by decide) (xs_iconst C d_V_loseMemory_23 (by decide) (xs_istore_n C d_V_loseMemory_24 rfl (by decide) (xs_jmp (fun _ _ _ _ _ h => h)))) (xs_aload_n C d_V_loseMemory_8 rfl (xs_get C (k := 1) d_V_loseMemory_9 h_V (ci := 0) rfl (by decide) (List.mem_cons_of_mem _ tw_82) rfl (xs_iload_n C d_V_loseMemory_12 rfl (xs_aald C d_V_loseMemory_13 (xs_callV C (CN := "BlockVault$Entry") (T := F_E) (N := 3) d_V_loseMemory_14 (met_E_forget l D) ⟨callB_of (ws := w_E_forget) (rm := rm_E_forget) 0 C.1.2.2.2.2 (gG_m tw_249) rfl rfl rfl (C.1.2.2.2.2 _ (List.mem_cons_of_mem _ tw_4)) (C.1.2.2.2.2 _ (List.mem_cons_of_mem _ tw_246)) ⟨by decide, by decide, by decide +kernel⟩ ⟨Nat.le_of_ble_eq_true rfl, Nat.le_of_ble_eq_true rfl⟩, (C.1.2.2.2.2 _ (List.mem_cons_of_mem _ tw_247)), (C.1.2.2.2.2 _ (List.mem_cons_of_mem _ tw_248))⟩ (ci := 4) rfl (xs_iinc C d_V_loseMemory_17 (by decide) (by decide) (xs_goto C d_V_loseMemory_20 (by decide) (xs_jmp (fun _ _ _ _ _ h => h))))))))))))
set_option maxRecDepth 20000 in
set_option maxHeartbeats 4000000 in
theorem sV_loseMemory_0 {p : Program} {l : Launch} {e : Env} {s : State} {mm : MethodId} {args : Array Value} {below : List Frame} {meth : Method} {c : Code} {D : va_G} {A : Nat → Prop} {Rh : Option Value → xm_M → Prop} (C : xm_C p s mm args c b_V_loseMemory 2 "BlockVault" w_V_loseMemory D classes ats A) (hr : meth.sig.returnType = none) (hlk : meth.locks = false) (hnm : meth.name = "loseMemory") : xm_le (cV_loseMemory_0 (xm_A p l e rm_V_loseMemory s mm args below meth c 2 D classes A (MQ below (xm_Q D classes Rh A) args s 0 0 A)) Rh) ((xm_A p l e rm_V_loseMemory s mm args below meth c 2 D classes A (MQ below (xm_Q D classes Rh A) args s 0 0 A)) 0) :=
  (xs_iconst C d_V_loseMemory_0 (by decide) (xs_istore_n C d_V_loseMemory_1 rfl (by decide) (xs_jmp (fun _ _ _ _ _ h => h))))
theorem met_V_loseMemory (l : Launch) (D : va_G) : xm_Met l D classes ats y_V_loseMemory w_V_loseMemory rm_V_loseMemory 0 0 cp_V_loseMemory := by
  refine xm_met 0 (by decide) rfl rfl rfl (fun p e s mm args below meth c A Rh C hr hlk hnm lb => ?_)
  unfold fV_loseMemory
  split
  · rename_i h; subst h; exact sV_loseMemory_0 C hr hlk hnm
  split
  · rename_i h; subst h; exact sV_loseMemory_2 C hr hlk hnm
  split
  · rename_i h; subst h; exact sV_loseMemory_25 C hr hlk hnm
  · exact fun _ _ _ _ _ h => h.elim
theorem d_V_crash_0 : decode b_V_crash 0 = .ok (.aload_n 0, 1) := by decide +kernel
theorem d_V_crash_1 : decode b_V_crash 1 = .ok (.invokevirtual 99, 3) := by decide +kernel
theorem d_V_crash_4 : decode b_V_crash 4 = .ok (.istore_n 2, 1) := by decide +kernel
theorem d_V_crash_5 : decode b_V_crash 5 = .ok (.iload_n 1, 1) := by decide +kernel
theorem d_V_crash_6 : decode b_V_crash 6 = .ok (.iconst (-1), 1) := by decide +kernel
theorem d_V_crash_7 : decode b_V_crash 7 = .ok (.if_icmp .eq 30, 3) := by decide +kernel
theorem d_V_crash_10 : decode b_V_crash 10 = .ok (.iload_n 2, 1) := by decide +kernel
theorem d_V_crash_11 : decode b_V_crash 11 = .ok (.iconst (-1), 1) := by decide +kernel
theorem d_V_crash_12 : decode b_V_crash 12 = .ok (.if_icmp .eq 23, 3) := by decide +kernel
theorem d_V_crash_15 : decode b_V_crash 15 = .ok (.iload_n 1, 1) := by decide +kernel
theorem d_V_crash_16 : decode b_V_crash 16 = .ok (.ifCond .lt 19, 3) := by decide +kernel
theorem d_V_crash_19 : decode b_V_crash 19 = .ok (.iload_n 1, 1) := by decide +kernel
theorem d_V_crash_20 : decode b_V_crash 20 = .ok (.aload_n 0, 1) := by decide +kernel
theorem d_V_crash_21 : decode b_V_crash 21 = .ok (.getfield 11, 3) := by decide +kernel
theorem d_V_crash_24 : decode b_V_crash 24 = .ok (.iload_n 2, 1) := by decide +kernel
theorem d_V_crash_25 : decode b_V_crash 25 = .ok (.aaload, 1) := by decide +kernel
theorem d_V_crash_26 : decode b_V_crash 26 = .ok (.getfield 111, 3) := by decide +kernel
theorem d_V_crash_29 : decode b_V_crash 29 = .ok (.getfield 115, 3) := by decide +kernel
theorem d_V_crash_32 : decode b_V_crash 32 = .ok (.if_icmp .le 5, 3) := by decide +kernel
theorem d_V_crash_35 : decode b_V_crash 35 = .ok (.iconst (-1), 1) := by decide +kernel
theorem d_V_crash_36 : decode b_V_crash 36 = .ok (.ireturn, 1) := by decide +kernel
theorem d_V_crash_37 : decode b_V_crash 37 = .ok (.aload_n 0, 1) := by decide +kernel
theorem d_V_crash_38 : decode b_V_crash 38 = .ok (.getfield 37, 3) := by decide +kernel
theorem d_V_crash_41 : decode b_V_crash 41 = .ok (.ifCond .eq 6, 3) := by decide +kernel
theorem d_V_crash_44 : decode b_V_crash 44 = .ok (.bipush (-2), 2) := by decide +kernel
theorem d_V_crash_46 : decode b_V_crash 46 = .ok (.ireturn, 1) := by decide +kernel
theorem d_V_crash_47 : decode b_V_crash 47 = .ok (.iload_n 1, 1) := by decide +kernel
theorem d_V_crash_48 : decode b_V_crash 48 = .ok (.iconst (-1), 1) := by decide +kernel
theorem d_V_crash_49 : decode b_V_crash 49 = .ok (.if_icmp .eq 25, 3) := by decide +kernel
theorem d_V_crash_52 : decode b_V_crash 52 = .ok (.aload_n 0, 1) := by decide +kernel
theorem d_V_crash_53 : decode b_V_crash 53 = .ok (.getfield 11, 3) := by decide +kernel
theorem d_V_crash_56 : decode b_V_crash 56 = .ok (.iload_n 2, 1) := by decide +kernel
theorem d_V_crash_57 : decode b_V_crash 57 = .ok (.aaload, 1) := by decide +kernel
theorem d_V_crash_58 : decode b_V_crash 58 = .ok (.getfield 120, 3) := by decide +kernel
theorem d_V_crash_61 : decode b_V_crash 61 = .ok (.iload_n 1, 1) := by decide +kernel
theorem d_V_crash_62 : decode b_V_crash 62 = .ok (.aload_n 0, 1) := by decide +kernel
theorem d_V_crash_63 : decode b_V_crash 63 = .ok (.getfield 11, 3) := by decide +kernel
theorem d_V_crash_66 : decode b_V_crash 66 = .ok (.iload_n 2, 1) := by decide +kernel
theorem d_V_crash_67 : decode b_V_crash 67 = .ok (.aaload, 1) := by decide +kernel
theorem d_V_crash_68 : decode b_V_crash 68 = .ok (.getfield 111, 3) := by decide +kernel
theorem d_V_crash_71 : decode b_V_crash 71 = .ok (.invokevirtual 123, 3) := by decide +kernel
theorem d_V_crash_74 : decode b_V_crash 74 = .ok (.aload_n 0, 1) := by decide +kernel
theorem d_V_crash_75 : decode b_V_crash 75 = .ok (.invokevirtual 127, 3) := by decide +kernel
theorem d_V_crash_78 : decode b_V_crash 78 = .ok (.aload_n 0, 1) := by decide +kernel
theorem d_V_crash_79 : decode b_V_crash 79 = .ok (.iconst 1, 1) := by decide +kernel
theorem d_V_crash_80 : decode b_V_crash 80 = .ok (.putfield 37, 3) := by decide +kernel
theorem d_V_crash_83 : decode b_V_crash 83 = .ok (.iconst 1, 1) := by decide +kernel
theorem d_V_crash_84 : decode b_V_crash 84 = .ok (.ireturn, 1) := by decide +kernel
-- BlockVault.crash(I)I: labels [0, 37], loops []
abbrev rm_V_crash : Room := { frames := 3, cells := 0, slots := 0, locals := 64 }
def cV_crash_37 (X : Nat → xm_PT) (Rh : Option Value → xm_M → Prop) : xm_PT := (xo_aload 0 (xo_get 0 7 (xo_if (fun x => x = 0) (xo_iload 1 (xo_push (.int (-1)) (xo_icmp (fun x y => x = y) (xo_aload 0 (xo_callV 0 0 0 0 cp_V_loseMemory (xo_aload 0 (xo_push (.int 1) (xo_put 0 7 .boolean (xo_push (.int 1) (xo_iret Rh))))))) (xo_aload 0 (xo_get 0 0 (xo_iload 2 (xo_aald ats (xo_get 3 1 (xo_iload 1 (xo_aload 0 (xo_get 0 0 (xo_iload 2 (xo_aald ats (xo_get 3 0 (xo_callV 2 2 0 0 cp_R_takeFirst (xo_aload 0 (xo_callV 0 0 0 0 cp_V_loseMemory (xo_aload 0 (xo_push (.int 1) (xo_put 0 7 .boolean (xo_push (.int 1) (xo_iret Rh)))))))))))))))))))))) (xo_push (.int (-2)) (xo_iret Rh)))))
def cV_crash_0 (X : Nat → xm_PT) (Rh : Option Value → xm_M → Prop) : xm_PT := (xo_aload 0 (xo_callV 0 0 0 0 cp_V_longestSealed (xo_istore 2 (xo_iload 1 (xo_push (.int (-1)) (xo_icmp (fun x y => x = y) (xo_jmp [0, 1, 2] (cV_crash_37 X Rh)) (xo_iload 2 (xo_push (.int (-1)) (xo_icmp (fun x y => x = y) (xo_push (.int (-1)) (xo_iret Rh)) (xo_iload 1 (xo_if (fun x => x < 0) (xo_push (.int (-1)) (xo_iret Rh)) (xo_iload 1 (xo_aload 0 (xo_get 0 0 (xo_iload 2 (xo_aald ats (xo_get 3 0 (xo_get 2 1 (xo_icmp (fun x y => x ≤ y) (xo_jmp [0, 1, 2] (cV_crash_37 X Rh)) (xo_push (.int (-1)) (xo_iret Rh)))))))))))))))))))))
def fV_crash : xm_F := fun X Rh lb => if lb = 0 then cV_crash_0 X Rh else fun _ _ _ _ _ => False
def cp_V_crash : xm_CP := fun as m Rh => (lg_sl as).length ≤ 3 ∧ xm_cp fV_crash 0 0 as m Rh
theorem eV_crash_0 {X : Nat → xm_PT} {Rh : Option Value → xm_M → Prop} (hX : ∀ lb, xm_le (fV_crash X Rh lb) (X lb)) {ls : xm_L} {st : List Value} {m : xm_M} {bc bs : Nat} (h : cV_crash_0 X Rh ls st m bc bs) : X 0 ls st m bc bs := hX 0 ls st m bc bs h
set_option maxRecDepth 20000 in
set_option maxHeartbeats 4000000 in
theorem sV_crash_37 {p : Program} {l : Launch} {e : Env} {s : State} {mm : MethodId} {args : Array Value} {below : List Frame} {meth : Method} {c : Code} {D : va_G} {A : Nat → Prop} {Rh : Option Value → xm_M → Prop} (C : xm_C p s mm args c b_V_crash 3 "BlockVault" w_V_crash D classes ats A) (hr : meth.sig.returnType = (some .int)) (hlk : meth.locks = false) (hnm : meth.name = "crash") : xm_le (cV_crash_37 (xm_A p l e rm_V_crash s mm args below meth c 3 D classes A (MQ below (xm_Q D classes Rh A) args s 0 0 A)) Rh) ((xm_A p l e rm_V_crash s mm args below meth c 3 D classes A (MQ below (xm_Q D classes Rh A) args s 0 0 A)) 37) :=
  (xs_aload_n C d_V_crash_37 rfl (xs_get C (k := 7) d_V_crash_38 h_V (ci := 0) rfl (by decide) (List.mem_cons_of_mem _ tw_88) rfl (xs_if_eq C d_V_crash_41 (by decide) (xs_iload_n C d_V_crash_47 rfl (xs_iconst C d_V_crash_48 (by decide) (xs_icmp_eq C d_V_crash_49 (by decide) (xs_aload_n C d_V_crash_74 rfl (xs_callV C (CN := "BlockVault") (T := F_V) (N := 8) d_V_crash_75 (met_V_loseMemory l D) ⟨callB_of (ws := w_V_loseMemory) (rm := rm_V_loseMemory) 0 C.1.2.2.2.2 (gG_m tw_340) rfl rfl rfl (C.1.2.2.2.2 _ (List.mem_cons_of_mem _ tw_1)) (C.1.2.2.2.2 _ (List.mem_cons_of_mem _ tw_337)) ⟨by decide, by decide, by decide +kernel⟩ ⟨Nat.le_of_ble_eq_true rfl, Nat.le_of_ble_eq_true rfl⟩, (C.1.2.2.2.2 _ (List.mem_cons_of_mem _ tw_339)), (C.1.2.2.2.2 _ (List.mem_cons_of_mem _ ts_25))⟩ (ci := 0) rfl (xs_aload_n C d_V_crash_78 rfl (xs_iconst C d_V_crash_79 (by decide) (xs_put C (k := 7) d_V_crash_80 h_V t_V t_V_ok n_V (ci := 0) rfl (by decide) (List.mem_cons_of_mem _ tw_88) rfl rfl (by decide +kernel) (xs_iconst C d_V_crash_83 (by decide) (xs_iret C d_V_crash_84 hr hlk rfl rfl))))))) (xs_aload_n C d_V_crash_52 rfl (xs_get C (k := 0) d_V_crash_53 h_V (ci := 0) rfl (by decide) (List.mem_cons_of_mem _ tw_81) rfl (xs_iload_n C d_V_crash_56 rfl (xs_aald C d_V_crash_57 (xs_get C (k := 1) d_V_crash_58 h_B (ci := 3) rfl (by decide) (List.mem_cons_of_mem _ tw_45) rfl (xs_iload_n C d_V_crash_61 rfl (xs_aload_n C d_V_crash_62 rfl (xs_get C (k := 0) d_V_crash_63 h_V (ci := 0) rfl (by decide) (List.mem_cons_of_mem _ tw_81) rfl (xs_iload_n C d_V_crash_66 rfl (xs_aald C d_V_crash_67 (xs_get C (k := 0) d_V_crash_68 h_B (ci := 3) rfl (by decide) (List.mem_cons_of_mem _ tw_43) rfl (xs_callV C (CN := "BlockVault$Row") (T := F_R) (N := 2) d_V_crash_71 (met_R_takeFirst l D) ⟨callB_of (ws := w_R_takeFirst) (rm := rm_R_takeFirst) 2 C.1.2.2.2.2 (gG_m tw_302) rfl rfl rfl (C.1.2.2.2.2 _ (List.mem_cons_of_mem _ tw_3)) (C.1.2.2.2.2 _ (List.mem_cons_of_mem _ tw_299)) ⟨by decide, by decide, by decide +kernel⟩ ⟨Nat.le_of_ble_eq_true rfl, Nat.le_of_ble_eq_true rfl⟩, (C.1.2.2.2.2 _ (List.mem_cons_of_mem _ tw_300)), (C.1.2.2.2.2 _ (List.mem_cons_of_mem _ tw_301))⟩ (ci := 2) rfl (xs_aload_n C d_V_crash_74 rfl (xs_callV C (CN := "BlockVault") (T := F_V) (N := 8) d_V_crash_75 (met_V_loseMemory l D) ⟨callB_of (ws := w_V_loseMemory) (rm := rm_V_loseMemory) 0 C.1.2.2.2.2 (gG_m tw_340) rfl rfl rfl (C.1.2.2.2.2 _ (List.mem_cons_of_mem _ tw_1)) (C.1.2.2.2.2 _ (List.mem_cons_of_mem _ tw_337)) ⟨by decide, by decide, by decide +kernel⟩ ⟨Nat.le_of_ble_eq_true rfl, Nat.le_of_ble_eq_true rfl⟩, (C.1.2.2.2.2 _ (List.mem_cons_of_mem _ tw_339)), (C.1.2.2.2.2 _ (List.mem_cons_of_mem _ ts_25))⟩ (ci := 0) rfl (xs_aload_n C d_V_crash_78 rfl (xs_iconst C d_V_crash_79 (by decide) (xs_put C (k := 7) d_V_crash_80 h_V t_V t_V_ok n_V (ci := 0) rfl (by decide) (List.mem_cons_of_mem _ tw_88) rfl rfl (by decide +kernel) (xs_iconst C d_V_crash_83 (by decide) (xs_iret C d_V_crash_84 hr hlk rfl rfl)))))))))))))))))))))) (xs_bipush C d_V_crash_44 (by decide) (xs_iret C d_V_crash_46 hr hlk rfl rfl)))))
set_option maxRecDepth 20000 in
set_option maxHeartbeats 4000000 in
theorem sV_crash_0 {p : Program} {l : Launch} {e : Env} {s : State} {mm : MethodId} {args : Array Value} {below : List Frame} {meth : Method} {c : Code} {D : va_G} {A : Nat → Prop} {Rh : Option Value → xm_M → Prop} (C : xm_C p s mm args c b_V_crash 3 "BlockVault" w_V_crash D classes ats A) (hr : meth.sig.returnType = (some .int)) (hlk : meth.locks = false) (hnm : meth.name = "crash") : xm_le (cV_crash_0 (xm_A p l e rm_V_crash s mm args below meth c 3 D classes A (MQ below (xm_Q D classes Rh A) args s 0 0 A)) Rh) ((xm_A p l e rm_V_crash s mm args below meth c 3 D classes A (MQ below (xm_Q D classes Rh A) args s 0 0 A)) 0) :=
  (xs_aload_n C d_V_crash_0 rfl (xs_callV C (CN := "BlockVault") (T := F_V) (N := 8) d_V_crash_1 (met_V_longestSealed l D) ⟨callB_of (ws := w_V_longestSealed) (rm := rm_V_longestSealed) 0 C.1.2.2.2.2 (gG_m tw_294) rfl rfl rfl (C.1.2.2.2.2 _ (List.mem_cons_of_mem _ tw_1)) (C.1.2.2.2.2 _ (List.mem_cons_of_mem _ tw_291)) ⟨by decide, by decide, by decide +kernel⟩ ⟨Nat.le_of_ble_eq_true rfl, Nat.le_of_ble_eq_true rfl⟩, (C.1.2.2.2.2 _ (List.mem_cons_of_mem _ tw_293)), (C.1.2.2.2.2 _ (List.mem_cons_of_mem _ ts_18))⟩ (ci := 0) rfl (xs_istore_n C d_V_crash_4 rfl (by decide) (xs_iload_n C d_V_crash_5 rfl (xs_iconst C d_V_crash_6 (by decide) (xs_icmp_eq C d_V_crash_7 (by decide) (xs_jmp (sV_crash_37 C hr hlk hnm)) (xs_iload_n C d_V_crash_10 rfl (xs_iconst C d_V_crash_11 (by decide) (xs_icmp_eq C d_V_crash_12 (by decide) (xs_iconst C d_V_crash_35 (by decide) (xs_iret C d_V_crash_36 hr hlk rfl rfl)) (xs_iload_n C d_V_crash_15 rfl (xs_if_lt C d_V_crash_16 (by decide) (xs_iconst C d_V_crash_35 (by decide) (xs_iret C d_V_crash_36 hr hlk rfl rfl)) (xs_iload_n C d_V_crash_19 rfl (xs_aload_n C d_V_crash_20 rfl (xs_get C (k := 0) d_V_crash_21 h_V (ci := 0) rfl (by decide) (List.mem_cons_of_mem _ tw_81) rfl (xs_iload_n C d_V_crash_24 rfl (xs_aald C d_V_crash_25 (xs_get C (k := 0) d_V_crash_26 h_B (ci := 3) rfl (by decide) (List.mem_cons_of_mem _ tw_43) rfl (xs_get C (k := 1) d_V_crash_29 h_R (ci := 2) rfl (by decide) (List.mem_cons_of_mem _ tw_36) rfl (xs_icmp_le C d_V_crash_32 (by decide) (xs_jmp (sV_crash_37 C hr hlk hnm)) (xs_iconst C d_V_crash_35 (by decide) (xs_iret C d_V_crash_36 hr hlk rfl rfl)))))))))))))))))))))
theorem met_V_crash (l : Launch) (D : va_G) : xm_Met l D classes ats y_V_crash w_V_crash rm_V_crash 0 0 cp_V_crash := by
  refine xm_met 0 (by decide) rfl rfl rfl (fun p e s mm args below meth c A Rh C hr hlk hnm lb => ?_)
  unfold fV_crash
  split
  · rename_i h; subst h; exact sV_crash_0 C hr hlk hnm
  · exact fun _ _ _ _ _ h => h.elim
theorem d_C_isNewerThan_0 : decode b_C_isNewerThan 0 = .ok (.aload_n 1, 1) := by decide +kernel
theorem d_C_isNewerThan_1 : decode b_C_isNewerThan 1 = .ok (.ifnull 14, 3) := by decide +kernel
theorem d_C_isNewerThan_4 : decode b_C_isNewerThan 4 = .ok (.aload_n 0, 1) := by decide +kernel
theorem d_C_isNewerThan_5 : decode b_C_isNewerThan 5 = .ok (.getfield 25, 3) := by decide +kernel
theorem d_C_isNewerThan_8 : decode b_C_isNewerThan 8 = .ok (.aload_n 1, 1) := by decide +kernel
theorem d_C_isNewerThan_9 : decode b_C_isNewerThan 9 = .ok (.getfield 25, 3) := by decide +kernel
theorem d_C_isNewerThan_12 : decode b_C_isNewerThan 12 = .ok (.if_icmp .le 7, 3) := by decide +kernel
theorem d_C_isNewerThan_15 : decode b_C_isNewerThan 15 = .ok (.iconst 1, 1) := by decide +kernel
theorem d_C_isNewerThan_16 : decode b_C_isNewerThan 16 = .ok (.goto 4, 3) := by decide +kernel
theorem d_C_isNewerThan_19 : decode b_C_isNewerThan 19 = .ok (.iconst 0, 1) := by decide +kernel
theorem d_C_isNewerThan_20 : decode b_C_isNewerThan 20 = .ok (.ireturn, 1) := by decide +kernel
-- BlockVault$Copy.isNewerThan(LBlockVault$Copy;)Z: labels [0], loops []
abbrev rm_C_isNewerThan : Room := { frames := 0, cells := 0, slots := 0, locals := 0 }
def cC_isNewerThan_0 (X : Nat → xm_PT) (Rh : Option Value → xm_M → Prop) : xm_PT := (xo_aload 1 (xo_null (xo_push (.int 1) (xo_zret Rh)) (xo_aload 0 (xo_get 1 5 (xo_aload 1 (xo_get 1 5 (xo_icmp (fun x y => x ≤ y) (xo_push (.int 0) (xo_zret Rh)) (xo_push (.int 1) (xo_zret Rh)))))))))
def fC_isNewerThan : xm_F := fun X Rh lb => if lb = 0 then cC_isNewerThan_0 X Rh else fun _ _ _ _ _ => False
def cp_C_isNewerThan : xm_CP := fun as m Rh => (lg_sl as).length ≤ 2 ∧ xm_cp fC_isNewerThan 0 0 as m Rh
theorem eC_isNewerThan_0 {X : Nat → xm_PT} {Rh : Option Value → xm_M → Prop} (hX : ∀ lb, xm_le (fC_isNewerThan X Rh lb) (X lb)) {ls : xm_L} {st : List Value} {m : xm_M} {bc bs : Nat} (h : cC_isNewerThan_0 X Rh ls st m bc bs) : X 0 ls st m bc bs := hX 0 ls st m bc bs h
set_option maxRecDepth 20000 in
set_option maxHeartbeats 4000000 in
theorem sC_isNewerThan_0 {p : Program} {l : Launch} {e : Env} {s : State} {mm : MethodId} {args : Array Value} {below : List Frame} {meth : Method} {c : Code} {D : va_G} {A : Nat → Prop} {Rh : Option Value → xm_M → Prop} (C : xm_C p s mm args c b_C_isNewerThan 2 "BlockVault$Copy" w_C_isNewerThan D classes ats A) (hr : meth.sig.returnType = (some .boolean)) (hlk : meth.locks = false) (hnm : meth.name = "isNewerThan") : xm_le (cC_isNewerThan_0 (xm_A p l e rm_C_isNewerThan s mm args below meth c 2 D classes A (MQ below (xm_Q D classes Rh A) args s 0 0 A)) Rh) ((xm_A p l e rm_C_isNewerThan s mm args below meth c 2 D classes A (MQ below (xm_Q D classes Rh A) args s 0 0 A)) 0) :=
  (xs_aload_n C d_C_isNewerThan_0 rfl (xs_ifnull C d_C_isNewerThan_1 (by decide) (xs_iconst C d_C_isNewerThan_15 (by decide) (xs_goto C d_C_isNewerThan_16 (by decide) (xs_zret C d_C_isNewerThan_20 hr hlk rfl rfl))) (xs_aload_n C d_C_isNewerThan_4 rfl (xs_get C (k := 5) d_C_isNewerThan_5 h_C (ci := 1) rfl (by decide) (List.mem_cons_of_mem _ tw_150) rfl (xs_aload_n C d_C_isNewerThan_8 rfl (xs_get C (k := 5) d_C_isNewerThan_9 h_C (ci := 1) rfl (by decide) (List.mem_cons_of_mem _ tw_150) rfl (xs_icmp_le C d_C_isNewerThan_12 (by decide) (xs_iconst C d_C_isNewerThan_19 (by decide) (xs_zret C d_C_isNewerThan_20 hr hlk rfl rfl)) (xs_iconst C d_C_isNewerThan_15 (by decide) (xs_goto C d_C_isNewerThan_16 (by decide) (xs_zret C d_C_isNewerThan_20 hr hlk rfl rfl))))))))))
theorem met_C_isNewerThan (l : Launch) (D : va_G) : xm_Met l D classes ats y_C_isNewerThan w_C_isNewerThan rm_C_isNewerThan 0 0 cp_C_isNewerThan := by
  refine xm_met 0 (by decide) rfl rfl rfl (fun p e s mm args below meth c A Rh C hr hlk hnm lb => ?_)
  unfold fC_isNewerThan
  split
  · rename_i h; subst h; exact sC_isNewerThan_0 C hr hlk hnm
  · exact fun _ _ _ _ _ h => h.elim
theorem d_V_nameNewestCopies_0 : decode b_V_nameNewestCopies 0 = .ok (.iconst 0, 1) := by decide +kernel
theorem d_V_nameNewestCopies_1 : decode b_V_nameNewestCopies 1 = .ok (.istore_n 1, 1) := by decide +kernel
theorem d_V_nameNewestCopies_2 : decode b_V_nameNewestCopies 2 = .ok (.iload_n 1, 1) := by decide +kernel
theorem d_V_nameNewestCopies_3 : decode b_V_nameNewestCopies 3 = .ok (.bipush 8, 2) := by decide +kernel
theorem d_V_nameNewestCopies_5 : decode b_V_nameNewestCopies 5 = .ok (.if_icmp .ge 85, 3) := by decide +kernel
theorem d_V_nameNewestCopies_8 : decode b_V_nameNewestCopies 8 = .ok (.aload_n 0, 1) := by decide +kernel
theorem d_V_nameNewestCopies_9 : decode b_V_nameNewestCopies 9 = .ok (.getfield 11, 3) := by decide +kernel
theorem d_V_nameNewestCopies_12 : decode b_V_nameNewestCopies 12 = .ok (.iload_n 1, 1) := by decide +kernel
theorem d_V_nameNewestCopies_13 : decode b_V_nameNewestCopies 13 = .ok (.aaload, 1) := by decide +kernel
theorem d_V_nameNewestCopies_14 : decode b_V_nameNewestCopies 14 = .ok (.getfield 120, 3) := by decide +kernel
theorem d_V_nameNewestCopies_17 : decode b_V_nameNewestCopies 17 = .ok (.astore_n 2, 1) := by decide +kernel
theorem d_V_nameNewestCopies_18 : decode b_V_nameNewestCopies 18 = .ok (.iconst 0, 1) := by decide +kernel
theorem d_V_nameNewestCopies_19 : decode b_V_nameNewestCopies 19 = .ok (.istore_n 3, 1) := by decide +kernel
theorem d_V_nameNewestCopies_20 : decode b_V_nameNewestCopies 20 = .ok (.iload_n 3, 1) := by decide +kernel
theorem d_V_nameNewestCopies_21 : decode b_V_nameNewestCopies 21 = .ok (.aload_n 2, 1) := by decide +kernel
theorem d_V_nameNewestCopies_22 : decode b_V_nameNewestCopies 22 = .ok (.getfield 115, 3) := by decide +kernel
theorem d_V_nameNewestCopies_25 : decode b_V_nameNewestCopies 25 = .ok (.if_icmp .ge 59, 3) := by decide +kernel
theorem d_V_nameNewestCopies_28 : decode b_V_nameNewestCopies 28 = .ok (.aload_n 2, 1) := by decide +kernel
theorem d_V_nameNewestCopies_29 : decode b_V_nameNewestCopies 29 = .ok (.iload_n 3, 1) := by decide +kernel
theorem d_V_nameNewestCopies_30 : decode b_V_nameNewestCopies 30 = .ok (.invokevirtual 183, 3) := by decide +kernel
theorem d_V_nameNewestCopies_33 : decode b_V_nameNewestCopies 33 = .ok (.astore 4, 2) := by decide +kernel
theorem d_V_nameNewestCopies_35 : decode b_V_nameNewestCopies 35 = .ok (.aload 4, 2) := by decide +kernel
theorem d_V_nameNewestCopies_37 : decode b_V_nameNewestCopies 37 = .ok (.ifnull 41, 3) := by decide +kernel
theorem d_V_nameNewestCopies_40 : decode b_V_nameNewestCopies 40 = .ok (.aload 4, 2) := by decide +kernel
theorem d_V_nameNewestCopies_42 : decode b_V_nameNewestCopies 42 = .ok (.aload_n 0, 1) := by decide +kernel
theorem d_V_nameNewestCopies_43 : decode b_V_nameNewestCopies 43 = .ok (.getfield 17, 3) := by decide +kernel
theorem d_V_nameNewestCopies_46 : decode b_V_nameNewestCopies 46 = .ok (.aload 4, 2) := by decide +kernel
theorem d_V_nameNewestCopies_48 : decode b_V_nameNewestCopies 48 = .ok (.getfield 209, 3) := by decide +kernel
theorem d_V_nameNewestCopies_51 : decode b_V_nameNewestCopies 51 = .ok (.aaload, 1) := by decide +kernel
theorem d_V_nameNewestCopies_52 : decode b_V_nameNewestCopies 52 = .ok (.getfield 63, 3) := by decide +kernel
theorem d_V_nameNewestCopies_55 : decode b_V_nameNewestCopies 55 = .ok (.invokevirtual 255, 3) := by decide +kernel
theorem d_V_nameNewestCopies_58 : decode b_V_nameNewestCopies 58 = .ok (.ifCond .eq 20, 3) := by decide +kernel
theorem d_V_nameNewestCopies_61 : decode b_V_nameNewestCopies 61 = .ok (.aload_n 0, 1) := by decide +kernel
theorem d_V_nameNewestCopies_62 : decode b_V_nameNewestCopies 62 = .ok (.getfield 17, 3) := by decide +kernel
theorem d_V_nameNewestCopies_65 : decode b_V_nameNewestCopies 65 = .ok (.aload 4, 2) := by decide +kernel
theorem d_V_nameNewestCopies_67 : decode b_V_nameNewestCopies 67 = .ok (.getfield 209, 3) := by decide +kernel
theorem d_V_nameNewestCopies_70 : decode b_V_nameNewestCopies 70 = .ok (.aaload, 1) := by decide +kernel
theorem d_V_nameNewestCopies_71 : decode b_V_nameNewestCopies 71 = .ok (.aload 4, 2) := by decide +kernel
theorem d_V_nameNewestCopies_73 : decode b_V_nameNewestCopies 73 = .ok (.iload_n 1, 1) := by decide +kernel
theorem d_V_nameNewestCopies_74 : decode b_V_nameNewestCopies 74 = .ok (.iload_n 3, 1) := by decide +kernel
theorem d_V_nameNewestCopies_75 : decode b_V_nameNewestCopies 75 = .ok (.invokevirtual 216, 3) := by decide +kernel
theorem d_V_nameNewestCopies_78 : decode b_V_nameNewestCopies 78 = .ok (.iinc 3 1, 3) := by decide +kernel
theorem d_V_nameNewestCopies_81 : decode b_V_nameNewestCopies 81 = .ok (.goto (-61), 3) := by decide +kernel
theorem d_V_nameNewestCopies_84 : decode b_V_nameNewestCopies 84 = .ok (.iinc 1 1, 3) := by decide +kernel
theorem d_V_nameNewestCopies_87 : decode b_V_nameNewestCopies 87 = .ok (.goto (-85), 3) := by decide +kernel
theorem d_V_nameNewestCopies_90 : decode b_V_nameNewestCopies 90 = .ok (.return_, 1) := by decide +kernel
-- BlockVault.nameNewestCopies()V: labels [0, 2, 20], loops [2, 20]
abbrev rm_V_nameNewestCopies : Room := { frames := 1, cells := 0, slots := 0, locals := 23 }
def cV_nameNewestCopies_20 (X : Nat → xm_PT) (Rh : Option Value → xm_M → Prop) : xm_PT := (xo_iload 3 (xo_aload 2 (xo_get 2 1 (xo_icmp (fun x y => y ≤ x) (xo_iinc 1 1 (xo_jmp [0, 1] (X 2))) (xo_aload 2 (xo_iload 3 (xo_callV 2 1 0 0 cp_R_at (xo_astore 4 (xo_aload 4 (xo_null (xo_iinc 3 1 (xo_jmp [0, 1, 2, 3] (X 20))) (xo_aload 4 (xo_aload 0 (xo_get 0 1 (xo_aload 4 (xo_get 1 0 (xo_aald ats (xo_get 4 0 (xo_callV 1 1 0 0 cp_C_isNewerThan (xo_if (fun x => x = 0) (xo_iinc 3 1 (xo_jmp [0, 1, 2, 3] (X 20))) (xo_aload 0 (xo_get 0 1 (xo_aload 4 (xo_get 1 0 (xo_aald ats (xo_aload 4 (xo_iload 1 (xo_iload 3 (xo_callV 4 3 0 0 cp_E_point (xo_iinc 3 1 (xo_jmp [0, 1, 2, 3] (X 20)))))))))))))))))))))))))))))))
def cV_nameNewestCopies_2 (X : Nat → xm_PT) (Rh : Option Value → xm_M → Prop) : xm_PT := (xo_iload 1 (xo_push (.int (nI 8)) (xo_icmp (fun x y => y ≤ x) (xo_vret Rh) (xo_aload 0 (xo_get 0 0 (xo_iload 1 (xo_aald ats (xo_get 3 1 (xo_astore 2 (xo_push (.int 0) (xo_istore 3 (xo_jmp [0, 1, 2, 3] (X 20)))))))))))))
def cV_nameNewestCopies_0 (X : Nat → xm_PT) (Rh : Option Value → xm_M → Prop) : xm_PT := (xo_push (.int 0) (xo_istore 1 (xo_jmp [0, 1] (X 2))))
def fV_nameNewestCopies : xm_F := fun X Rh lb => if lb = 0 then cV_nameNewestCopies_0 X Rh else (if lb = 2 then cV_nameNewestCopies_2 X Rh else (if lb = 20 then cV_nameNewestCopies_20 X Rh else fun _ _ _ _ _ => False))
def cp_V_nameNewestCopies : xm_CP := fun as m Rh => (lg_sl as).length ≤ 5 ∧ xm_cp fV_nameNewestCopies 0 0 as m Rh
theorem eV_nameNewestCopies_0 {X : Nat → xm_PT} {Rh : Option Value → xm_M → Prop} (hX : ∀ lb, xm_le (fV_nameNewestCopies X Rh lb) (X lb)) {ls : xm_L} {st : List Value} {m : xm_M} {bc bs : Nat} (h : cV_nameNewestCopies_0 X Rh ls st m bc bs) : X 0 ls st m bc bs := hX 0 ls st m bc bs h
theorem eV_nameNewestCopies_2 {X : Nat → xm_PT} {Rh : Option Value → xm_M → Prop} (hX : ∀ lb, xm_le (fV_nameNewestCopies X Rh lb) (X lb)) {ls : xm_L} {st : List Value} {m : xm_M} {bc bs : Nat} (h : cV_nameNewestCopies_2 X Rh ls st m bc bs) : X 2 ls st m bc bs := hX 2 ls st m bc bs h
theorem eV_nameNewestCopies_20 {X : Nat → xm_PT} {Rh : Option Value → xm_M → Prop} (hX : ∀ lb, xm_le (fV_nameNewestCopies X Rh lb) (X lb)) {ls : xm_L} {st : List Value} {m : xm_M} {bc bs : Nat} (h : cV_nameNewestCopies_20 X Rh ls st m bc bs) : X 20 ls st m bc bs := hX 20 ls st m bc bs h
set_option maxRecDepth 20000 in
set_option maxHeartbeats 4000000 in
theorem sV_nameNewestCopies_20 {p : Program} {l : Launch} {e : Env} {s : State} {mm : MethodId} {args : Array Value} {below : List Frame} {meth : Method} {c : Code} {D : va_G} {A : Nat → Prop} {Rh : Option Value → xm_M → Prop} (C : xm_C p s mm args c b_V_nameNewestCopies 5 "BlockVault" w_V_nameNewestCopies D classes ats A) (hr : meth.sig.returnType = none) (hlk : meth.locks = false) (hnm : meth.name = "nameNewestCopies") : xm_le (cV_nameNewestCopies_20 (xm_A p l e rm_V_nameNewestCopies s mm args below meth c 5 D classes A (MQ below (xm_Q D classes Rh A) args s 0 0 A)) Rh) ((xm_A p l e rm_V_nameNewestCopies s mm args below meth c 5 D classes A (MQ below (xm_Q D classes Rh A) args s 0 0 A)) 20) :=
  (xs_iload_n C d_V_nameNewestCopies_20 rfl (xs_aload_n C d_V_nameNewestCopies_21 rfl (xs_get C (k := 1) d_V_nameNewestCopies_22 h_R (ci := 2) rfl (by decide) (List.mem_cons_of_mem _ tw_36) rfl (xs_icmp_ge C d_V_nameNewestCopies_25 (by decide) (xs_iinc C d_V_nameNewestCopies_84 (by decide) (by decide) (xs_goto C d_V_nameNewestCopies_87 (by decide) (xs_jmp (fun _ _ _ _ _ h => h)))) (xs_aload_n C d_V_nameNewestCopies_28 rfl (xs_iload_n C d_V_nameNewestCopies_29 rfl (xs_callV C (CN := "BlockVault$Row") (T := F_R) (N := 2) d_V_nameNewestCopies_30 (met_R_at l D) ⟨callB_of (ws := w_R_at) (rm := rm_R_at) 1 C.1.2.2.2.2 (gG_m tw_328) rfl rfl rfl (C.1.2.2.2.2 _ (List.mem_cons_of_mem _ tw_3)) (C.1.2.2.2.2 _ (List.mem_cons_of_mem _ tw_325)) ⟨by decide, by decide, by decide +kernel⟩ ⟨Nat.le_of_ble_eq_true rfl, Nat.le_of_ble_eq_true rfl⟩, (C.1.2.2.2.2 _ (List.mem_cons_of_mem _ tw_326)), (C.1.2.2.2.2 _ (List.mem_cons_of_mem _ tw_327))⟩ (ci := 2) rfl (xs_astore C d_V_nameNewestCopies_33 (by decide) (xs_aload C d_V_nameNewestCopies_35 (xs_ifnull C d_V_nameNewestCopies_37 (by decide) (xs_iinc C d_V_nameNewestCopies_78 (by decide) (by decide) (xs_goto C d_V_nameNewestCopies_81 (by decide) (xs_jmp (fun _ _ _ _ _ h => h)))) (xs_aload C d_V_nameNewestCopies_40 (xs_aload_n C d_V_nameNewestCopies_42 rfl (xs_get C (k := 1) d_V_nameNewestCopies_43 h_V (ci := 0) rfl (by decide) (List.mem_cons_of_mem _ tw_82) rfl (xs_aload C d_V_nameNewestCopies_46 (xs_get C (k := 0) d_V_nameNewestCopies_48 h_C (ci := 1) rfl (by decide) (List.mem_cons_of_mem _ tw_140) rfl (xs_aald C d_V_nameNewestCopies_51 (xs_get C (k := 0) d_V_nameNewestCopies_52 h_E (ci := 4) rfl (by decide) (List.mem_cons_of_mem _ tw_69) rfl (xs_callV C (CN := "BlockVault$Copy") (T := F_C) (N := 7) d_V_nameNewestCopies_55 (met_C_isNewerThan l D) ⟨callB_of (ws := w_C_isNewerThan) (rm := rm_C_isNewerThan) 1 C.1.2.2.2.2 (gG_m tw_352) rfl rfl rfl (C.1.2.2.2.2 _ (List.mem_cons_of_mem _ tw_6)) (C.1.2.2.2.2 _ (List.mem_cons_of_mem _ tw_349)) ⟨by decide, by decide, by decide +kernel⟩ ⟨Nat.le_of_ble_eq_true rfl, Nat.le_of_ble_eq_true rfl⟩, (C.1.2.2.2.2 _ (List.mem_cons_of_mem _ tw_350)), (C.1.2.2.2.2 _ (List.mem_cons_of_mem _ tw_351))⟩ (ci := 1) rfl (xs_if_eq C d_V_nameNewestCopies_58 (by decide) (xs_iinc C d_V_nameNewestCopies_78 (by decide) (by decide) (xs_goto C d_V_nameNewestCopies_81 (by decide) (xs_jmp (fun _ _ _ _ _ h => h)))) (xs_aload_n C d_V_nameNewestCopies_61 rfl (xs_get C (k := 1) d_V_nameNewestCopies_62 h_V (ci := 0) rfl (by decide) (List.mem_cons_of_mem _ tw_82) rfl (xs_aload C d_V_nameNewestCopies_65 (xs_get C (k := 0) d_V_nameNewestCopies_67 h_C (ci := 1) rfl (by decide) (List.mem_cons_of_mem _ tw_140) rfl (xs_aald C d_V_nameNewestCopies_70 (xs_aload C d_V_nameNewestCopies_71 (xs_iload_n C d_V_nameNewestCopies_73 rfl (xs_iload_n C d_V_nameNewestCopies_74 rfl (xs_callV C (CN := "BlockVault$Entry") (T := F_E) (N := 3) d_V_nameNewestCopies_75 (met_E_point l D) ⟨callB_of (ws := w_E_point) (rm := rm_E_point) 3 C.1.2.2.2.2 (gG_m tw_205) rfl rfl rfl (C.1.2.2.2.2 _ (List.mem_cons_of_mem _ tw_4)) (C.1.2.2.2.2 _ (List.mem_cons_of_mem _ tw_202)) ⟨by decide, by decide, by decide +kernel⟩ ⟨Nat.le_of_ble_eq_true rfl, Nat.le_of_ble_eq_true rfl⟩, (C.1.2.2.2.2 _ (List.mem_cons_of_mem _ tw_203)), (C.1.2.2.2.2 _ (List.mem_cons_of_mem _ tw_204))⟩ (ci := 4) rfl (xs_iinc C d_V_nameNewestCopies_78 (by decide) (by decide) (xs_goto C d_V_nameNewestCopies_81 (by decide) (xs_jmp (fun _ _ _ _ _ h => h))))))))))))))))))))))))))))))))
set_option maxRecDepth 20000 in
set_option maxHeartbeats 4000000 in
theorem sV_nameNewestCopies_2 {p : Program} {l : Launch} {e : Env} {s : State} {mm : MethodId} {args : Array Value} {below : List Frame} {meth : Method} {c : Code} {D : va_G} {A : Nat → Prop} {Rh : Option Value → xm_M → Prop} (C : xm_C p s mm args c b_V_nameNewestCopies 5 "BlockVault" w_V_nameNewestCopies D classes ats A) (hr : meth.sig.returnType = none) (hlk : meth.locks = false) (hnm : meth.name = "nameNewestCopies") : xm_le (cV_nameNewestCopies_2 (xm_A p l e rm_V_nameNewestCopies s mm args below meth c 5 D classes A (MQ below (xm_Q D classes Rh A) args s 0 0 A)) Rh) ((xm_A p l e rm_V_nameNewestCopies s mm args below meth c 5 D classes A (MQ below (xm_Q D classes Rh A) args s 0 0 A)) 2) :=
  (xs_iload_n C d_V_nameNewestCopies_2 rfl (xs_bipush C d_V_nameNewestCopies_3 (by decide) (xs_icmp_ge C d_V_nameNewestCopies_5 (by decide) (xs_vret C d_V_nameNewestCopies_90 hr hlk rfl rfl) (xs_aload_n C d_V_nameNewestCopies_8 rfl (xs_get C (k := 0) d_V_nameNewestCopies_9 h_V (ci := 0) rfl (by decide) (List.mem_cons_of_mem _ tw_81) rfl (xs_iload_n C d_V_nameNewestCopies_12 rfl (xs_aald C d_V_nameNewestCopies_13 (xs_get C (k := 1) d_V_nameNewestCopies_14 h_B (ci := 3) rfl (by decide) (List.mem_cons_of_mem _ tw_45) rfl (xs_astore_n C d_V_nameNewestCopies_17 rfl (by decide) (xs_iconst C d_V_nameNewestCopies_18 (by decide) (xs_istore_n C d_V_nameNewestCopies_19 rfl (by decide) (xs_jmp (fun _ _ _ _ _ h => h)))))))))))))
set_option maxRecDepth 20000 in
set_option maxHeartbeats 4000000 in
theorem sV_nameNewestCopies_0 {p : Program} {l : Launch} {e : Env} {s : State} {mm : MethodId} {args : Array Value} {below : List Frame} {meth : Method} {c : Code} {D : va_G} {A : Nat → Prop} {Rh : Option Value → xm_M → Prop} (C : xm_C p s mm args c b_V_nameNewestCopies 5 "BlockVault" w_V_nameNewestCopies D classes ats A) (hr : meth.sig.returnType = none) (hlk : meth.locks = false) (hnm : meth.name = "nameNewestCopies") : xm_le (cV_nameNewestCopies_0 (xm_A p l e rm_V_nameNewestCopies s mm args below meth c 5 D classes A (MQ below (xm_Q D classes Rh A) args s 0 0 A)) Rh) ((xm_A p l e rm_V_nameNewestCopies s mm args below meth c 5 D classes A (MQ below (xm_Q D classes Rh A) args s 0 0 A)) 0) :=
  (xs_iconst C d_V_nameNewestCopies_0 (by decide) (xs_istore_n C d_V_nameNewestCopies_1 rfl (by decide) (xs_jmp (fun _ _ _ _ _ h => h))))
theorem met_V_nameNewestCopies (l : Launch) (D : va_G) : xm_Met l D classes ats y_V_nameNewestCopies w_V_nameNewestCopies rm_V_nameNewestCopies 0 0 cp_V_nameNewestCopies := by
  refine xm_met 0 (by decide) rfl rfl rfl (fun p e s mm args below meth c A Rh C hr hlk hnm lb => ?_)
  unfold fV_nameNewestCopies
  split
  · rename_i h; subst h; exact sV_nameNewestCopies_0 C hr hlk hnm
  split
  · rename_i h; subst h; exact sV_nameNewestCopies_2 C hr hlk hnm
  split
  · rename_i h; subst h; exact sV_nameNewestCopies_20 C hr hlk hnm
  · exact fun _ _ _ _ _ h => h.elim
theorem d_V_dropExpiredFound_0 : decode b_V_dropExpiredFound 0 = .ok (.iconst 0, 1) := by decide +kernel
theorem d_V_dropExpiredFound_1 : decode b_V_dropExpiredFound 1 = .ok (.istore_n 1, 1) := by decide +kernel
theorem d_V_dropExpiredFound_2 : decode b_V_dropExpiredFound 2 = .ok (.iload_n 1, 1) := by decide +kernel
theorem d_V_dropExpiredFound_3 : decode b_V_dropExpiredFound 3 = .ok (.bipush 16, 2) := by decide +kernel
theorem d_V_dropExpiredFound_5 : decode b_V_dropExpiredFound 5 = .ok (.if_icmp .ge 43, 3) := by decide +kernel
theorem d_V_dropExpiredFound_8 : decode b_V_dropExpiredFound 8 = .ok (.aload_n 0, 1) := by decide +kernel
theorem d_V_dropExpiredFound_9 : decode b_V_dropExpiredFound 9 = .ok (.getfield 17, 3) := by decide +kernel
theorem d_V_dropExpiredFound_12 : decode b_V_dropExpiredFound 12 = .ok (.iload_n 1, 1) := by decide +kernel
theorem d_V_dropExpiredFound_13 : decode b_V_dropExpiredFound 13 = .ok (.aaload, 1) := by decide +kernel
theorem d_V_dropExpiredFound_14 : decode b_V_dropExpiredFound 14 = .ok (.getfield 63, 3) := by decide +kernel
theorem d_V_dropExpiredFound_17 : decode b_V_dropExpiredFound 17 = .ok (.astore_n 2, 1) := by decide +kernel
theorem d_V_dropExpiredFound_18 : decode b_V_dropExpiredFound 18 = .ok (.aload_n 2, 1) := by decide +kernel
theorem d_V_dropExpiredFound_19 : decode b_V_dropExpiredFound 19 = .ok (.ifnull 23, 3) := by decide +kernel
theorem d_V_dropExpiredFound_22 : decode b_V_dropExpiredFound 22 = .ok (.aload_n 2, 1) := by decide +kernel
theorem d_V_dropExpiredFound_23 : decode b_V_dropExpiredFound 23 = .ok (.aload_n 0, 1) := by decide +kernel
theorem d_V_dropExpiredFound_24 : decode b_V_dropExpiredFound 24 = .ok (.getfield 21, 3) := by decide +kernel
theorem d_V_dropExpiredFound_27 : decode b_V_dropExpiredFound 27 = .ok (.invokevirtual 193, 3) := by decide +kernel
theorem d_V_dropExpiredFound_30 : decode b_V_dropExpiredFound 30 = .ok (.ifCond .eq 12, 3) := by decide +kernel
theorem d_V_dropExpiredFound_33 : decode b_V_dropExpiredFound 33 = .ok (.aload_n 0, 1) := by decide +kernel
theorem d_V_dropExpiredFound_34 : decode b_V_dropExpiredFound 34 = .ok (.getfield 17, 3) := by decide +kernel
theorem d_V_dropExpiredFound_37 : decode b_V_dropExpiredFound 37 = .ok (.iload_n 1, 1) := by decide +kernel
theorem d_V_dropExpiredFound_38 : decode b_V_dropExpiredFound 38 = .ok (.aaload, 1) := by decide +kernel
theorem d_V_dropExpiredFound_39 : decode b_V_dropExpiredFound 39 = .ok (.invokevirtual 241, 3) := by decide +kernel
theorem d_V_dropExpiredFound_42 : decode b_V_dropExpiredFound 42 = .ok (.iinc 1 1, 3) := by decide +kernel
theorem d_V_dropExpiredFound_45 : decode b_V_dropExpiredFound 45 = .ok (.goto (-43), 3) := by decide +kernel
theorem d_V_dropExpiredFound_48 : decode b_V_dropExpiredFound 48 = .ok (.return_, 1) := by decide +kernel
-- BlockVault.dropExpiredFound()V: labels [0, 2], loops [2]
abbrev rm_V_dropExpiredFound : Room := { frames := 2, cells := 0, slots := 0, locals := 43 }
def cV_dropExpiredFound_2 (X : Nat → xm_PT) (Rh : Option Value → xm_M → Prop) : xm_PT := (xo_iload 1 (xo_push (.int (nI 16)) (xo_icmp (fun x y => y ≤ x) (xo_vret Rh) (xo_aload 0 (xo_get 0 1 (xo_iload 1 (xo_aald ats (xo_get 4 0 (xo_astore 2 (xo_aload 2 (xo_null (xo_iinc 1 1 (xo_jmp [0, 1] (X 2))) (xo_aload 2 (xo_aload 0 (xo_get 0 2 (xo_callV 1 1 0 0 cp_C_isExpired (xo_if (fun x => x = 0) (xo_iinc 1 1 (xo_jmp [0, 1] (X 2))) (xo_aload 0 (xo_get 0 1 (xo_iload 1 (xo_aald ats (xo_callV 4 0 0 0 cp_E_forget (xo_iinc 1 1 (xo_jmp [0, 1] (X 2))))))))))))))))))))))))
def cV_dropExpiredFound_0 (X : Nat → xm_PT) (Rh : Option Value → xm_M → Prop) : xm_PT := (xo_push (.int 0) (xo_istore 1 (xo_jmp [0, 1] (X 2))))
def fV_dropExpiredFound : xm_F := fun X Rh lb => if lb = 0 then cV_dropExpiredFound_0 X Rh else (if lb = 2 then cV_dropExpiredFound_2 X Rh else fun _ _ _ _ _ => False)
def cp_V_dropExpiredFound : xm_CP := fun as m Rh => (lg_sl as).length ≤ 3 ∧ xm_cp fV_dropExpiredFound 0 0 as m Rh
theorem eV_dropExpiredFound_0 {X : Nat → xm_PT} {Rh : Option Value → xm_M → Prop} (hX : ∀ lb, xm_le (fV_dropExpiredFound X Rh lb) (X lb)) {ls : xm_L} {st : List Value} {m : xm_M} {bc bs : Nat} (h : cV_dropExpiredFound_0 X Rh ls st m bc bs) : X 0 ls st m bc bs := hX 0 ls st m bc bs h
theorem eV_dropExpiredFound_2 {X : Nat → xm_PT} {Rh : Option Value → xm_M → Prop} (hX : ∀ lb, xm_le (fV_dropExpiredFound X Rh lb) (X lb)) {ls : xm_L} {st : List Value} {m : xm_M} {bc bs : Nat} (h : cV_dropExpiredFound_2 X Rh ls st m bc bs) : X 2 ls st m bc bs := hX 2 ls st m bc bs h
set_option maxRecDepth 20000 in
set_option maxHeartbeats 4000000 in
theorem sV_dropExpiredFound_2 {p : Program} {l : Launch} {e : Env} {s : State} {mm : MethodId} {args : Array Value} {below : List Frame} {meth : Method} {c : Code} {D : va_G} {A : Nat → Prop} {Rh : Option Value → xm_M → Prop} (C : xm_C p s mm args c b_V_dropExpiredFound 3 "BlockVault" w_V_dropExpiredFound D classes ats A) (hr : meth.sig.returnType = none) (hlk : meth.locks = false) (hnm : meth.name = "dropExpiredFound") : xm_le (cV_dropExpiredFound_2 (xm_A p l e rm_V_dropExpiredFound s mm args below meth c 3 D classes A (MQ below (xm_Q D classes Rh A) args s 0 0 A)) Rh) ((xm_A p l e rm_V_dropExpiredFound s mm args below meth c 3 D classes A (MQ below (xm_Q D classes Rh A) args s 0 0 A)) 2) :=
  (xs_iload_n C d_V_dropExpiredFound_2 rfl (xs_bipush C d_V_dropExpiredFound_3 (by decide) (xs_icmp_ge C d_V_dropExpiredFound_5 (by decide) (xs_vret C d_V_dropExpiredFound_48 hr hlk rfl rfl) (xs_aload_n C d_V_dropExpiredFound_8 rfl (xs_get C (k := 1) d_V_dropExpiredFound_9 h_V (ci := 0) rfl (by decide) (List.mem_cons_of_mem _ tw_82) rfl (xs_iload_n C d_V_dropExpiredFound_12 rfl (xs_aald C d_V_dropExpiredFound_13 (xs_get C (k := 0) d_V_dropExpiredFound_14 h_E (ci := 4) rfl (by decide) (List.mem_cons_of_mem _ tw_69) rfl (xs_astore_n C d_V_dropExpiredFound_17 rfl (by decide) (xs_aload_n C d_V_dropExpiredFound_18 rfl (xs_ifnull C d_V_dropExpiredFound_19 (by decide) (xs_iinc C d_V_dropExpiredFound_42 (by decide) (by decide) (xs_goto C d_V_dropExpiredFound_45 (by decide) (xs_jmp (fun _ _ _ _ _ h => h)))) (xs_aload_n C d_V_dropExpiredFound_22 rfl (xs_aload_n C d_V_dropExpiredFound_23 rfl (xs_get C (k := 2) d_V_dropExpiredFound_24 h_V (ci := 0) rfl (by decide) (List.mem_cons_of_mem _ tw_83) rfl (xs_callV C (CN := "BlockVault$Copy") (T := F_C) (N := 7) d_V_dropExpiredFound_27 (met_C_isExpired l D) ⟨callB_of (ws := w_C_isExpired) (rm := rm_C_isExpired) 1 C.1.2.2.2.2 (gG_m tw_127) rfl rfl rfl (C.1.2.2.2.2 _ (List.mem_cons_of_mem _ tw_6)) (C.1.2.2.2.2 _ (List.mem_cons_of_mem _ tw_124)) ⟨by decide, by decide, by decide +kernel⟩ ⟨Nat.le_of_ble_eq_true rfl, Nat.le_of_ble_eq_true rfl⟩, (C.1.2.2.2.2 _ (List.mem_cons_of_mem _ tw_125)), (C.1.2.2.2.2 _ (List.mem_cons_of_mem _ tw_126))⟩ (ci := 1) rfl (xs_if_eq C d_V_dropExpiredFound_30 (by decide) (xs_iinc C d_V_dropExpiredFound_42 (by decide) (by decide) (xs_goto C d_V_dropExpiredFound_45 (by decide) (xs_jmp (fun _ _ _ _ _ h => h)))) (xs_aload_n C d_V_dropExpiredFound_33 rfl (xs_get C (k := 1) d_V_dropExpiredFound_34 h_V (ci := 0) rfl (by decide) (List.mem_cons_of_mem _ tw_82) rfl (xs_iload_n C d_V_dropExpiredFound_37 rfl (xs_aald C d_V_dropExpiredFound_38 (xs_callV C (CN := "BlockVault$Entry") (T := F_E) (N := 3) d_V_dropExpiredFound_39 (met_E_forget l D) ⟨callB_of (ws := w_E_forget) (rm := rm_E_forget) 0 C.1.2.2.2.2 (gG_m tw_249) rfl rfl rfl (C.1.2.2.2.2 _ (List.mem_cons_of_mem _ tw_4)) (C.1.2.2.2.2 _ (List.mem_cons_of_mem _ tw_246)) ⟨by decide, by decide, by decide +kernel⟩ ⟨Nat.le_of_ble_eq_true rfl, Nat.le_of_ble_eq_true rfl⟩, (C.1.2.2.2.2 _ (List.mem_cons_of_mem _ tw_247)), (C.1.2.2.2.2 _ (List.mem_cons_of_mem _ tw_248))⟩ (ci := 4) rfl (xs_iinc C d_V_dropExpiredFound_42 (by decide) (by decide) (xs_goto C d_V_dropExpiredFound_45 (by decide) (xs_jmp (fun _ _ _ _ _ h => h)))))))))))))))))))))))))
set_option maxRecDepth 20000 in
set_option maxHeartbeats 4000000 in
theorem sV_dropExpiredFound_0 {p : Program} {l : Launch} {e : Env} {s : State} {mm : MethodId} {args : Array Value} {below : List Frame} {meth : Method} {c : Code} {D : va_G} {A : Nat → Prop} {Rh : Option Value → xm_M → Prop} (C : xm_C p s mm args c b_V_dropExpiredFound 3 "BlockVault" w_V_dropExpiredFound D classes ats A) (hr : meth.sig.returnType = none) (hlk : meth.locks = false) (hnm : meth.name = "dropExpiredFound") : xm_le (cV_dropExpiredFound_0 (xm_A p l e rm_V_dropExpiredFound s mm args below meth c 3 D classes A (MQ below (xm_Q D classes Rh A) args s 0 0 A)) Rh) ((xm_A p l e rm_V_dropExpiredFound s mm args below meth c 3 D classes A (MQ below (xm_Q D classes Rh A) args s 0 0 A)) 0) :=
  (xs_iconst C d_V_dropExpiredFound_0 (by decide) (xs_istore_n C d_V_dropExpiredFound_1 rfl (by decide) (xs_jmp (fun _ _ _ _ _ h => h))))
theorem met_V_dropExpiredFound (l : Launch) (D : va_G) : xm_Met l D classes ats y_V_dropExpiredFound w_V_dropExpiredFound rm_V_dropExpiredFound 0 0 cp_V_dropExpiredFound := by
  refine xm_met 0 (by decide) rfl rfl rfl (fun p e s mm args below meth c A Rh C hr hlk hnm lb => ?_)
  unfold fV_dropExpiredFound
  split
  · rename_i h; subst h; exact sV_dropExpiredFound_0 C hr hlk hnm
  split
  · rename_i h; subst h; exact sV_dropExpiredFound_2 C hr hlk hnm
  · exact fun _ _ _ _ _ h => h.elim
theorem d_V_reopenBlocks_0 : decode b_V_reopenBlocks 0 = .ok (.iconst 0, 1) := by decide +kernel
theorem d_V_reopenBlocks_1 : decode b_V_reopenBlocks 1 = .ok (.istore_n 1, 1) := by decide +kernel
theorem d_V_reopenBlocks_2 : decode b_V_reopenBlocks 2 = .ok (.iload_n 1, 1) := by decide +kernel
theorem d_V_reopenBlocks_3 : decode b_V_reopenBlocks 3 = .ok (.bipush 8, 2) := by decide +kernel
theorem d_V_reopenBlocks_5 : decode b_V_reopenBlocks 5 = .ok (.if_icmp .ge 60, 3) := by decide +kernel
theorem d_V_reopenBlocks_8 : decode b_V_reopenBlocks 8 = .ok (.aload_n 0, 1) := by decide +kernel
theorem d_V_reopenBlocks_9 : decode b_V_reopenBlocks 9 = .ok (.iload_n 1, 1) := by decide +kernel
theorem d_V_reopenBlocks_10 : decode b_V_reopenBlocks 10 = .ok (.invokevirtual 232, 3) := by decide +kernel
theorem d_V_reopenBlocks_13 : decode b_V_reopenBlocks 13 = .ok (.ifCond .eq 46, 3) := by decide +kernel
theorem d_V_reopenBlocks_16 : decode b_V_reopenBlocks 16 = .ok (.aload_n 0, 1) := by decide +kernel
theorem d_V_reopenBlocks_17 : decode b_V_reopenBlocks 17 = .ok (.getfield 11, 3) := by decide +kernel
theorem d_V_reopenBlocks_20 : decode b_V_reopenBlocks 20 = .ok (.iload_n 1, 1) := by decide +kernel
theorem d_V_reopenBlocks_21 : decode b_V_reopenBlocks 21 = .ok (.aaload, 1) := by decide +kernel
theorem d_V_reopenBlocks_22 : decode b_V_reopenBlocks 22 = .ok (.getfield 111, 3) := by decide +kernel
theorem d_V_reopenBlocks_25 : decode b_V_reopenBlocks 25 = .ok (.aload_n 0, 1) := by decide +kernel
theorem d_V_reopenBlocks_26 : decode b_V_reopenBlocks 26 = .ok (.getfield 11, 3) := by decide +kernel
theorem d_V_reopenBlocks_29 : decode b_V_reopenBlocks 29 = .ok (.iload_n 1, 1) := by decide +kernel
theorem d_V_reopenBlocks_30 : decode b_V_reopenBlocks 30 = .ok (.aaload, 1) := by decide +kernel
theorem d_V_reopenBlocks_31 : decode b_V_reopenBlocks 31 = .ok (.getfield 120, 3) := by decide +kernel
theorem d_V_reopenBlocks_34 : decode b_V_reopenBlocks 34 = .ok (.getfield 115, 3) := by decide +kernel
theorem d_V_reopenBlocks_37 : decode b_V_reopenBlocks 37 = .ok (.aload_n 0, 1) := by decide +kernel
theorem d_V_reopenBlocks_38 : decode b_V_reopenBlocks 38 = .ok (.getfield 11, 3) := by decide +kernel
theorem d_V_reopenBlocks_41 : decode b_V_reopenBlocks 41 = .ok (.iload_n 1, 1) := by decide +kernel
theorem d_V_reopenBlocks_42 : decode b_V_reopenBlocks 42 = .ok (.aaload, 1) := by decide +kernel
theorem d_V_reopenBlocks_43 : decode b_V_reopenBlocks 43 = .ok (.getfield 120, 3) := by decide +kernel
theorem d_V_reopenBlocks_46 : decode b_V_reopenBlocks 46 = .ok (.invokevirtual 123, 3) := by decide +kernel
theorem d_V_reopenBlocks_49 : decode b_V_reopenBlocks 49 = .ok (.aload_n 0, 1) := by decide +kernel
theorem d_V_reopenBlocks_50 : decode b_V_reopenBlocks 50 = .ok (.getfield 11, 3) := by decide +kernel
theorem d_V_reopenBlocks_53 : decode b_V_reopenBlocks 53 = .ok (.iload_n 1, 1) := by decide +kernel
theorem d_V_reopenBlocks_54 : decode b_V_reopenBlocks 54 = .ok (.aaload, 1) := by decide +kernel
theorem d_V_reopenBlocks_55 : decode b_V_reopenBlocks 55 = .ok (.iconst 3, 1) := by decide +kernel
theorem d_V_reopenBlocks_56 : decode b_V_reopenBlocks 56 = .ok (.putfield 166, 3) := by decide +kernel
theorem d_V_reopenBlocks_59 : decode b_V_reopenBlocks 59 = .ok (.iinc 1 1, 3) := by decide +kernel
theorem d_V_reopenBlocks_62 : decode b_V_reopenBlocks 62 = .ok (.goto (-60), 3) := by decide +kernel
theorem d_V_reopenBlocks_65 : decode b_V_reopenBlocks 65 = .ok (.return_, 1) := by decide +kernel
-- BlockVault.reopenBlocks()V: labels [0, 2], loops [2]
abbrev rm_V_reopenBlocks : Room := { frames := 2, cells := 0, slots := 0, locals := 44 }
def cV_reopenBlocks_2 (X : Nat → xm_PT) (Rh : Option Value → xm_M → Prop) : xm_PT := (xo_iload 1 (xo_push (.int (nI 8)) (xo_icmp (fun x y => y ≤ x) (xo_vret Rh) (xo_aload 0 (xo_iload 1 (xo_callV 0 1 0 0 cp_V_hasLiveCopy (xo_if (fun x => x = 0) (xo_iinc 1 1 (xo_jmp [0, 1] (X 2))) (xo_aload 0 (xo_get 0 0 (xo_iload 1 (xo_aald ats (xo_get 3 0 (xo_aload 0 (xo_get 0 0 (xo_iload 1 (xo_aald ats (xo_get 3 1 (xo_get 2 1 (xo_aload 0 (xo_get 0 0 (xo_iload 1 (xo_aald ats (xo_get 3 1 (xo_callV 2 2 0 0 cp_R_takeFirst (xo_aload 0 (xo_get 0 0 (xo_iload 1 (xo_aald ats (xo_push (.int (nI 3)) (xo_put 3 2 .int (xo_iinc 1 1 (xo_jmp [0, 1] (X 2)))))))))))))))))))))))))))))))))
def cV_reopenBlocks_0 (X : Nat → xm_PT) (Rh : Option Value → xm_M → Prop) : xm_PT := (xo_push (.int 0) (xo_istore 1 (xo_jmp [0, 1] (X 2))))
def fV_reopenBlocks : xm_F := fun X Rh lb => if lb = 0 then cV_reopenBlocks_0 X Rh else (if lb = 2 then cV_reopenBlocks_2 X Rh else fun _ _ _ _ _ => False)
def cp_V_reopenBlocks : xm_CP := fun as m Rh => (lg_sl as).length ≤ 2 ∧ xm_cp fV_reopenBlocks 0 0 as m Rh
theorem eV_reopenBlocks_0 {X : Nat → xm_PT} {Rh : Option Value → xm_M → Prop} (hX : ∀ lb, xm_le (fV_reopenBlocks X Rh lb) (X lb)) {ls : xm_L} {st : List Value} {m : xm_M} {bc bs : Nat} (h : cV_reopenBlocks_0 X Rh ls st m bc bs) : X 0 ls st m bc bs := hX 0 ls st m bc bs h
theorem eV_reopenBlocks_2 {X : Nat → xm_PT} {Rh : Option Value → xm_M → Prop} (hX : ∀ lb, xm_le (fV_reopenBlocks X Rh lb) (X lb)) {ls : xm_L} {st : List Value} {m : xm_M} {bc bs : Nat} (h : cV_reopenBlocks_2 X Rh ls st m bc bs) : X 2 ls st m bc bs := hX 2 ls st m bc bs h
set_option maxRecDepth 20000 in
set_option maxHeartbeats 4000000 in
theorem sV_reopenBlocks_2 {p : Program} {l : Launch} {e : Env} {s : State} {mm : MethodId} {args : Array Value} {below : List Frame} {meth : Method} {c : Code} {D : va_G} {A : Nat → Prop} {Rh : Option Value → xm_M → Prop} (C : xm_C p s mm args c b_V_reopenBlocks 2 "BlockVault" w_V_reopenBlocks D classes ats A) (hr : meth.sig.returnType = none) (hlk : meth.locks = false) (hnm : meth.name = "reopenBlocks") : xm_le (cV_reopenBlocks_2 (xm_A p l e rm_V_reopenBlocks s mm args below meth c 2 D classes A (MQ below (xm_Q D classes Rh A) args s 0 0 A)) Rh) ((xm_A p l e rm_V_reopenBlocks s mm args below meth c 2 D classes A (MQ below (xm_Q D classes Rh A) args s 0 0 A)) 2) :=
  (xs_iload_n C d_V_reopenBlocks_2 rfl (xs_bipush C d_V_reopenBlocks_3 (by decide) (xs_icmp_ge C d_V_reopenBlocks_5 (by decide) (xs_vret C d_V_reopenBlocks_65 hr hlk rfl rfl) (xs_aload_n C d_V_reopenBlocks_8 rfl (xs_iload_n C d_V_reopenBlocks_9 rfl (xs_callV C (CN := "BlockVault") (T := F_V) (N := 8) d_V_reopenBlocks_10 (met_V_hasLiveCopy l D) ⟨callB_of (ws := w_V_hasLiveCopy) (rm := rm_V_hasLiveCopy) 1 C.1.2.2.2.2 (gG_m tw_216) rfl rfl rfl (C.1.2.2.2.2 _ (List.mem_cons_of_mem _ tw_1)) (C.1.2.2.2.2 _ (List.mem_cons_of_mem _ tw_213)) ⟨by decide, by decide, by decide +kernel⟩ ⟨Nat.le_of_ble_eq_true rfl, Nat.le_of_ble_eq_true rfl⟩, (C.1.2.2.2.2 _ (List.mem_cons_of_mem _ tw_215)), (C.1.2.2.2.2 _ (List.mem_cons_of_mem _ ts_10))⟩ (ci := 0) rfl (xs_if_eq C d_V_reopenBlocks_13 (by decide) (xs_iinc C d_V_reopenBlocks_59 (by decide) (by decide) (xs_goto C d_V_reopenBlocks_62 (by decide) (xs_jmp (fun _ _ _ _ _ h => h)))) (xs_aload_n C d_V_reopenBlocks_16 rfl (xs_get C (k := 0) d_V_reopenBlocks_17 h_V (ci := 0) rfl (by decide) (List.mem_cons_of_mem _ tw_81) rfl (xs_iload_n C d_V_reopenBlocks_20 rfl (xs_aald C d_V_reopenBlocks_21 (xs_get C (k := 0) d_V_reopenBlocks_22 h_B (ci := 3) rfl (by decide) (List.mem_cons_of_mem _ tw_43) rfl (xs_aload_n C d_V_reopenBlocks_25 rfl (xs_get C (k := 0) d_V_reopenBlocks_26 h_V (ci := 0) rfl (by decide) (List.mem_cons_of_mem _ tw_81) rfl (xs_iload_n C d_V_reopenBlocks_29 rfl (xs_aald C d_V_reopenBlocks_30 (xs_get C (k := 1) d_V_reopenBlocks_31 h_B (ci := 3) rfl (by decide) (List.mem_cons_of_mem _ tw_45) rfl (xs_get C (k := 1) d_V_reopenBlocks_34 h_R (ci := 2) rfl (by decide) (List.mem_cons_of_mem _ tw_36) rfl (xs_aload_n C d_V_reopenBlocks_37 rfl (xs_get C (k := 0) d_V_reopenBlocks_38 h_V (ci := 0) rfl (by decide) (List.mem_cons_of_mem _ tw_81) rfl (xs_iload_n C d_V_reopenBlocks_41 rfl (xs_aald C d_V_reopenBlocks_42 (xs_get C (k := 1) d_V_reopenBlocks_43 h_B (ci := 3) rfl (by decide) (List.mem_cons_of_mem _ tw_45) rfl (xs_callV C (CN := "BlockVault$Row") (T := F_R) (N := 2) d_V_reopenBlocks_46 (met_R_takeFirst l D) ⟨callB_of (ws := w_R_takeFirst) (rm := rm_R_takeFirst) 2 C.1.2.2.2.2 (gG_m tw_302) rfl rfl rfl (C.1.2.2.2.2 _ (List.mem_cons_of_mem _ tw_3)) (C.1.2.2.2.2 _ (List.mem_cons_of_mem _ tw_299)) ⟨by decide, by decide, by decide +kernel⟩ ⟨Nat.le_of_ble_eq_true rfl, Nat.le_of_ble_eq_true rfl⟩, (C.1.2.2.2.2 _ (List.mem_cons_of_mem _ tw_300)), (C.1.2.2.2.2 _ (List.mem_cons_of_mem _ tw_301))⟩ (ci := 2) rfl (xs_aload_n C d_V_reopenBlocks_49 rfl (xs_get C (k := 0) d_V_reopenBlocks_50 h_V (ci := 0) rfl (by decide) (List.mem_cons_of_mem _ tw_81) rfl (xs_iload_n C d_V_reopenBlocks_53 rfl (xs_aald C d_V_reopenBlocks_54 (xs_iconst C d_V_reopenBlocks_55 (by decide) (xs_put C (k := 2) d_V_reopenBlocks_56 h_B t_B t_B_ok n_B (ci := 3) rfl (by decide) (List.mem_cons_of_mem _ tw_47) rfl rfl (by decide +kernel) (xs_iinc C d_V_reopenBlocks_59 (by decide) (by decide) (xs_goto C d_V_reopenBlocks_62 (by decide) (xs_jmp (fun _ _ _ _ _ h => h))))))))))))))))))))))))))))))))))
set_option maxRecDepth 20000 in
set_option maxHeartbeats 4000000 in
theorem sV_reopenBlocks_0 {p : Program} {l : Launch} {e : Env} {s : State} {mm : MethodId} {args : Array Value} {below : List Frame} {meth : Method} {c : Code} {D : va_G} {A : Nat → Prop} {Rh : Option Value → xm_M → Prop} (C : xm_C p s mm args c b_V_reopenBlocks 2 "BlockVault" w_V_reopenBlocks D classes ats A) (hr : meth.sig.returnType = none) (hlk : meth.locks = false) (hnm : meth.name = "reopenBlocks") : xm_le (cV_reopenBlocks_0 (xm_A p l e rm_V_reopenBlocks s mm args below meth c 2 D classes A (MQ below (xm_Q D classes Rh A) args s 0 0 A)) Rh) ((xm_A p l e rm_V_reopenBlocks s mm args below meth c 2 D classes A (MQ below (xm_Q D classes Rh A) args s 0 0 A)) 0) :=
  (xs_iconst C d_V_reopenBlocks_0 (by decide) (xs_istore_n C d_V_reopenBlocks_1 rfl (by decide) (xs_jmp (fun _ _ _ _ _ h => h))))
theorem met_V_reopenBlocks (l : Launch) (D : va_G) : xm_Met l D classes ats y_V_reopenBlocks w_V_reopenBlocks rm_V_reopenBlocks 0 0 cp_V_reopenBlocks := by
  refine xm_met 0 (by decide) rfl rfl rfl (fun p e s mm args below meth c A Rh C hr hlk hnm lb => ?_)
  unfold fV_reopenBlocks
  split
  · rename_i h; subst h; exact sV_reopenBlocks_0 C hr hlk hnm
  split
  · rename_i h; subst h; exact sV_reopenBlocks_2 C hr hlk hnm
  · exact fun _ _ _ _ _ h => h.elim
theorem d_R_greatestStamp_0 : decode b_R_greatestStamp 0 = .ok (.iconst 0, 1) := by decide +kernel
theorem d_R_greatestStamp_1 : decode b_R_greatestStamp 1 = .ok (.istore_n 1, 1) := by decide +kernel
theorem d_R_greatestStamp_2 : decode b_R_greatestStamp 2 = .ok (.iconst 0, 1) := by decide +kernel
theorem d_R_greatestStamp_3 : decode b_R_greatestStamp 3 = .ok (.istore_n 2, 1) := by decide +kernel
theorem d_R_greatestStamp_4 : decode b_R_greatestStamp 4 = .ok (.iload_n 2, 1) := by decide +kernel
theorem d_R_greatestStamp_5 : decode b_R_greatestStamp 5 = .ok (.aload_n 0, 1) := by decide +kernel
theorem d_R_greatestStamp_6 : decode b_R_greatestStamp 6 = .ok (.getfield 17, 3) := by decide +kernel
theorem d_R_greatestStamp_9 : decode b_R_greatestStamp 9 = .ok (.if_icmp .ge 23, 3) := by decide +kernel
theorem d_R_greatestStamp_12 : decode b_R_greatestStamp 12 = .ok (.iload_n 1, 1) := by decide +kernel
theorem d_R_greatestStamp_13 : decode b_R_greatestStamp 13 = .ok (.aload_n 0, 1) := by decide +kernel
theorem d_R_greatestStamp_14 : decode b_R_greatestStamp 14 = .ok (.getfield 11, 3) := by decide +kernel
theorem d_R_greatestStamp_17 : decode b_R_greatestStamp 17 = .ok (.iload_n 2, 1) := by decide +kernel
theorem d_R_greatestStamp_18 : decode b_R_greatestStamp 18 = .ok (.aaload, 1) := by decide +kernel
theorem d_R_greatestStamp_19 : decode b_R_greatestStamp 19 = .ok (.getfield 31, 3) := by decide +kernel
theorem d_R_greatestStamp_22 : decode b_R_greatestStamp 22 = .ok (.invokestatic 34, 3) := by decide +kernel
theorem d_R_greatestStamp_25 : decode b_R_greatestStamp 25 = .ok (.istore_n 1, 1) := by decide +kernel
theorem d_R_greatestStamp_26 : decode b_R_greatestStamp 26 = .ok (.iinc 2 1, 3) := by decide +kernel
theorem d_R_greatestStamp_29 : decode b_R_greatestStamp 29 = .ok (.goto (-25), 3) := by decide +kernel
theorem d_R_greatestStamp_32 : decode b_R_greatestStamp 32 = .ok (.iload_n 1, 1) := by decide +kernel
theorem d_R_greatestStamp_33 : decode b_R_greatestStamp 33 = .ok (.ireturn, 1) := by decide +kernel
-- BlockVault$Row.greatestStamp()I: labels [0, 4], loops [4]
abbrev rm_R_greatestStamp : Room := { frames := 1, cells := 0, slots := 0, locals := 21 }
def cR_greatestStamp_4 (X : Nat → xm_PT) (Rh : Option Value → xm_M → Prop) : xm_PT := (xo_iload 2 (xo_aload 0 (xo_get 2 1 (xo_icmp (fun x y => y ≤ x) (xo_iload 1 (xo_iret Rh)) (xo_iload 1 (xo_aload 0 (xo_get 2 0 (xo_iload 2 (xo_aald ats (xo_get 1 5 (xo_mmax (xo_istore 1 (xo_iinc 2 1 (xo_jmp [0, 1, 2] (X 4)))))))))))))))
def cR_greatestStamp_0 (X : Nat → xm_PT) (Rh : Option Value → xm_M → Prop) : xm_PT := (xo_push (.int 0) (xo_istore 1 (xo_push (.int 0) (xo_istore 2 (xo_jmp [0, 1, 2] (X 4))))))
def fR_greatestStamp : xm_F := fun X Rh lb => if lb = 0 then cR_greatestStamp_0 X Rh else (if lb = 4 then cR_greatestStamp_4 X Rh else fun _ _ _ _ _ => False)
def cp_R_greatestStamp : xm_CP := fun as m Rh => (lg_sl as).length ≤ 3 ∧ xm_cp fR_greatestStamp 0 0 as m Rh
theorem eR_greatestStamp_0 {X : Nat → xm_PT} {Rh : Option Value → xm_M → Prop} (hX : ∀ lb, xm_le (fR_greatestStamp X Rh lb) (X lb)) {ls : xm_L} {st : List Value} {m : xm_M} {bc bs : Nat} (h : cR_greatestStamp_0 X Rh ls st m bc bs) : X 0 ls st m bc bs := hX 0 ls st m bc bs h
theorem eR_greatestStamp_4 {X : Nat → xm_PT} {Rh : Option Value → xm_M → Prop} (hX : ∀ lb, xm_le (fR_greatestStamp X Rh lb) (X lb)) {ls : xm_L} {st : List Value} {m : xm_M} {bc bs : Nat} (h : cR_greatestStamp_4 X Rh ls st m bc bs) : X 4 ls st m bc bs := hX 4 ls st m bc bs h
set_option maxRecDepth 20000 in
set_option maxHeartbeats 4000000 in
theorem sR_greatestStamp_4 {p : Program} {l : Launch} {e : Env} {s : State} {mm : MethodId} {args : Array Value} {below : List Frame} {meth : Method} {c : Code} {D : va_G} {A : Nat → Prop} {Rh : Option Value → xm_M → Prop} (C : xm_C p s mm args c b_R_greatestStamp 3 "BlockVault$Row" w_R_greatestStamp D classes ats A) (hr : meth.sig.returnType = (some .int)) (hlk : meth.locks = false) (hnm : meth.name = "greatestStamp") : xm_le (cR_greatestStamp_4 (xm_A p l e rm_R_greatestStamp s mm args below meth c 3 D classes A (MQ below (xm_Q D classes Rh A) args s 0 0 A)) Rh) ((xm_A p l e rm_R_greatestStamp s mm args below meth c 3 D classes A (MQ below (xm_Q D classes Rh A) args s 0 0 A)) 4) :=
  (xs_iload_n C d_R_greatestStamp_4 rfl (xs_aload_n C d_R_greatestStamp_5 rfl (xs_get C (k := 1) d_R_greatestStamp_6 h_R (ci := 2) rfl (by decide) (List.mem_cons_of_mem _ tw_35) rfl (xs_icmp_ge C d_R_greatestStamp_9 (by decide) (xs_iload_n C d_R_greatestStamp_32 rfl (xs_iret C d_R_greatestStamp_33 hr hlk rfl rfl)) (xs_iload_n C d_R_greatestStamp_12 rfl (xs_aload_n C d_R_greatestStamp_13 rfl (xs_get C (k := 0) d_R_greatestStamp_14 h_R (ci := 2) rfl (by decide) (List.mem_cons_of_mem _ tw_34) rfl (xs_iload_n C d_R_greatestStamp_17 rfl (xs_aald C d_R_greatestStamp_18 (xs_get C (k := 5) d_R_greatestStamp_19 h_C (ci := 1) rfl (by decide) (List.mem_cons_of_mem _ tw_151) rfl (xs_mmax C d_R_greatestStamp_22 (List.mem_cons_of_mem _ tw_369) (List.mem_cons_of_mem _ tw_370) (List.mem_cons_of_mem _ tw_7) (List.mem_cons_of_mem _ tw_371) (by decide) (by decide) (xs_istore_n C d_R_greatestStamp_25 rfl (by decide) (xs_iinc C d_R_greatestStamp_26 (by decide) (by decide) (xs_goto C d_R_greatestStamp_29 (by decide) (xs_jmp (fun _ _ _ _ _ h => h))))))))))))))))
set_option maxRecDepth 20000 in
set_option maxHeartbeats 4000000 in
theorem sR_greatestStamp_0 {p : Program} {l : Launch} {e : Env} {s : State} {mm : MethodId} {args : Array Value} {below : List Frame} {meth : Method} {c : Code} {D : va_G} {A : Nat → Prop} {Rh : Option Value → xm_M → Prop} (C : xm_C p s mm args c b_R_greatestStamp 3 "BlockVault$Row" w_R_greatestStamp D classes ats A) (hr : meth.sig.returnType = (some .int)) (hlk : meth.locks = false) (hnm : meth.name = "greatestStamp") : xm_le (cR_greatestStamp_0 (xm_A p l e rm_R_greatestStamp s mm args below meth c 3 D classes A (MQ below (xm_Q D classes Rh A) args s 0 0 A)) Rh) ((xm_A p l e rm_R_greatestStamp s mm args below meth c 3 D classes A (MQ below (xm_Q D classes Rh A) args s 0 0 A)) 0) :=
  (xs_iconst C d_R_greatestStamp_0 (by decide) (xs_istore_n C d_R_greatestStamp_1 rfl (by decide) (xs_iconst C d_R_greatestStamp_2 (by decide) (xs_istore_n C d_R_greatestStamp_3 rfl (by decide) (xs_jmp (fun _ _ _ _ _ h => h))))))
theorem met_R_greatestStamp (l : Launch) (D : va_G) : xm_Met l D classes ats y_R_greatestStamp w_R_greatestStamp rm_R_greatestStamp 0 0 cp_R_greatestStamp := by
  refine xm_met 0 (by decide) rfl rfl rfl (fun p e s mm args below meth c A Rh C hr hlk hnm lb => ?_)
  unfold fR_greatestStamp
  split
  · rename_i h; subst h; exact sR_greatestStamp_0 C hr hlk hnm
  split
  · rename_i h; subst h; exact sR_greatestStamp_4 C hr hlk hnm
  · exact fun _ _ _ _ _ h => h.elim
theorem d_V_greatestStamp_0 : decode b_V_greatestStamp 0 = .ok (.iconst 0, 1) := by decide +kernel
theorem d_V_greatestStamp_1 : decode b_V_greatestStamp 1 = .ok (.istore_n 1, 1) := by decide +kernel
theorem d_V_greatestStamp_2 : decode b_V_greatestStamp 2 = .ok (.iconst 0, 1) := by decide +kernel
theorem d_V_greatestStamp_3 : decode b_V_greatestStamp 3 = .ok (.istore_n 2, 1) := by decide +kernel
theorem d_V_greatestStamp_4 : decode b_V_greatestStamp 4 = .ok (.iload_n 2, 1) := by decide +kernel
theorem d_V_greatestStamp_5 : decode b_V_greatestStamp 5 = .ok (.bipush 8, 2) := by decide +kernel
theorem d_V_greatestStamp_7 : decode b_V_greatestStamp 7 = .ok (.if_icmp .ge 26, 3) := by decide +kernel
theorem d_V_greatestStamp_10 : decode b_V_greatestStamp 10 = .ok (.iload_n 1, 1) := by decide +kernel
theorem d_V_greatestStamp_11 : decode b_V_greatestStamp 11 = .ok (.aload_n 0, 1) := by decide +kernel
theorem d_V_greatestStamp_12 : decode b_V_greatestStamp 12 = .ok (.getfield 11, 3) := by decide +kernel
theorem d_V_greatestStamp_15 : decode b_V_greatestStamp 15 = .ok (.iload_n 2, 1) := by decide +kernel
theorem d_V_greatestStamp_16 : decode b_V_greatestStamp 16 = .ok (.aaload, 1) := by decide +kernel
theorem d_V_greatestStamp_17 : decode b_V_greatestStamp 17 = .ok (.getfield 120, 3) := by decide +kernel
theorem d_V_greatestStamp_20 : decode b_V_greatestStamp 20 = .ok (.invokevirtual 258, 3) := by decide +kernel
theorem d_V_greatestStamp_23 : decode b_V_greatestStamp 23 = .ok (.invokestatic 259, 3) := by decide +kernel
theorem d_V_greatestStamp_26 : decode b_V_greatestStamp 26 = .ok (.istore_n 1, 1) := by decide +kernel
theorem d_V_greatestStamp_27 : decode b_V_greatestStamp 27 = .ok (.iinc 2 1, 3) := by decide +kernel
theorem d_V_greatestStamp_30 : decode b_V_greatestStamp 30 = .ok (.goto (-26), 3) := by decide +kernel
theorem d_V_greatestStamp_33 : decode b_V_greatestStamp 33 = .ok (.iload_n 1, 1) := by decide +kernel
theorem d_V_greatestStamp_34 : decode b_V_greatestStamp 34 = .ok (.ireturn, 1) := by decide +kernel
-- BlockVault.greatestStamp()I: labels [0, 4], loops [4]
abbrev rm_V_greatestStamp : Room := { frames := 2, cells := 0, slots := 0, locals := 43 }
def cV_greatestStamp_4 (X : Nat → xm_PT) (Rh : Option Value → xm_M → Prop) : xm_PT := (xo_iload 2 (xo_push (.int (nI 8)) (xo_icmp (fun x y => y ≤ x) (xo_iload 1 (xo_iret Rh)) (xo_iload 1 (xo_aload 0 (xo_get 0 0 (xo_iload 2 (xo_aald ats (xo_get 3 1 (xo_callV 2 0 0 0 cp_R_greatestStamp (xo_mmax (xo_istore 1 (xo_iinc 2 1 (xo_jmp [0, 1, 2] (X 4)))))))))))))))
def cV_greatestStamp_0 (X : Nat → xm_PT) (Rh : Option Value → xm_M → Prop) : xm_PT := (xo_push (.int 0) (xo_istore 1 (xo_push (.int 0) (xo_istore 2 (xo_jmp [0, 1, 2] (X 4))))))
def fV_greatestStamp : xm_F := fun X Rh lb => if lb = 0 then cV_greatestStamp_0 X Rh else (if lb = 4 then cV_greatestStamp_4 X Rh else fun _ _ _ _ _ => False)
def cp_V_greatestStamp : xm_CP := fun as m Rh => (lg_sl as).length ≤ 3 ∧ xm_cp fV_greatestStamp 0 0 as m Rh
theorem eV_greatestStamp_0 {X : Nat → xm_PT} {Rh : Option Value → xm_M → Prop} (hX : ∀ lb, xm_le (fV_greatestStamp X Rh lb) (X lb)) {ls : xm_L} {st : List Value} {m : xm_M} {bc bs : Nat} (h : cV_greatestStamp_0 X Rh ls st m bc bs) : X 0 ls st m bc bs := hX 0 ls st m bc bs h
theorem eV_greatestStamp_4 {X : Nat → xm_PT} {Rh : Option Value → xm_M → Prop} (hX : ∀ lb, xm_le (fV_greatestStamp X Rh lb) (X lb)) {ls : xm_L} {st : List Value} {m : xm_M} {bc bs : Nat} (h : cV_greatestStamp_4 X Rh ls st m bc bs) : X 4 ls st m bc bs := hX 4 ls st m bc bs h
set_option maxRecDepth 20000 in
set_option maxHeartbeats 4000000 in
theorem sV_greatestStamp_4 {p : Program} {l : Launch} {e : Env} {s : State} {mm : MethodId} {args : Array Value} {below : List Frame} {meth : Method} {c : Code} {D : va_G} {A : Nat → Prop} {Rh : Option Value → xm_M → Prop} (C : xm_C p s mm args c b_V_greatestStamp 3 "BlockVault" w_V_greatestStamp D classes ats A) (hr : meth.sig.returnType = (some .int)) (hlk : meth.locks = false) (hnm : meth.name = "greatestStamp") : xm_le (cV_greatestStamp_4 (xm_A p l e rm_V_greatestStamp s mm args below meth c 3 D classes A (MQ below (xm_Q D classes Rh A) args s 0 0 A)) Rh) ((xm_A p l e rm_V_greatestStamp s mm args below meth c 3 D classes A (MQ below (xm_Q D classes Rh A) args s 0 0 A)) 4) :=
  (xs_iload_n C d_V_greatestStamp_4 rfl (xs_bipush C d_V_greatestStamp_5 (by decide) (xs_icmp_ge C d_V_greatestStamp_7 (by decide) (xs_iload_n C d_V_greatestStamp_33 rfl (xs_iret C d_V_greatestStamp_34 hr hlk rfl rfl)) (xs_iload_n C d_V_greatestStamp_10 rfl (xs_aload_n C d_V_greatestStamp_11 rfl (xs_get C (k := 0) d_V_greatestStamp_12 h_V (ci := 0) rfl (by decide) (List.mem_cons_of_mem _ tw_81) rfl (xs_iload_n C d_V_greatestStamp_15 rfl (xs_aald C d_V_greatestStamp_16 (xs_get C (k := 1) d_V_greatestStamp_17 h_B (ci := 3) rfl (by decide) (List.mem_cons_of_mem _ tw_45) rfl (xs_callV C (CN := "BlockVault$Row") (T := F_R) (N := 2) d_V_greatestStamp_20 (met_R_greatestStamp l D) ⟨callB_of (ws := w_R_greatestStamp) (rm := rm_R_greatestStamp) 0 C.1.2.2.2.2 (gG_m tw_368) rfl rfl rfl (C.1.2.2.2.2 _ (List.mem_cons_of_mem _ tw_3)) (C.1.2.2.2.2 _ (List.mem_cons_of_mem _ tw_365)) ⟨by decide, by decide, by decide +kernel⟩ ⟨Nat.le_of_ble_eq_true rfl, Nat.le_of_ble_eq_true rfl⟩, (C.1.2.2.2.2 _ (List.mem_cons_of_mem _ tw_366)), (C.1.2.2.2.2 _ (List.mem_cons_of_mem _ tw_367))⟩ (ci := 2) rfl (xs_mmax C d_V_greatestStamp_23 (List.mem_cons_of_mem _ tw_372) (List.mem_cons_of_mem _ tw_370) (List.mem_cons_of_mem _ tw_7) (List.mem_cons_of_mem _ tw_371) (by decide) (by decide) (xs_istore_n C d_V_greatestStamp_26 rfl (by decide) (xs_iinc C d_V_greatestStamp_27 (by decide) (by decide) (xs_goto C d_V_greatestStamp_30 (by decide) (xs_jmp (fun _ _ _ _ _ h => h))))))))))))))))
set_option maxRecDepth 20000 in
set_option maxHeartbeats 4000000 in
theorem sV_greatestStamp_0 {p : Program} {l : Launch} {e : Env} {s : State} {mm : MethodId} {args : Array Value} {below : List Frame} {meth : Method} {c : Code} {D : va_G} {A : Nat → Prop} {Rh : Option Value → xm_M → Prop} (C : xm_C p s mm args c b_V_greatestStamp 3 "BlockVault" w_V_greatestStamp D classes ats A) (hr : meth.sig.returnType = (some .int)) (hlk : meth.locks = false) (hnm : meth.name = "greatestStamp") : xm_le (cV_greatestStamp_0 (xm_A p l e rm_V_greatestStamp s mm args below meth c 3 D classes A (MQ below (xm_Q D classes Rh A) args s 0 0 A)) Rh) ((xm_A p l e rm_V_greatestStamp s mm args below meth c 3 D classes A (MQ below (xm_Q D classes Rh A) args s 0 0 A)) 0) :=
  (xs_iconst C d_V_greatestStamp_0 (by decide) (xs_istore_n C d_V_greatestStamp_1 rfl (by decide) (xs_iconst C d_V_greatestStamp_2 (by decide) (xs_istore_n C d_V_greatestStamp_3 rfl (by decide) (xs_jmp (fun _ _ _ _ _ h => h))))))
theorem met_V_greatestStamp (l : Launch) (D : va_G) : xm_Met l D classes ats y_V_greatestStamp w_V_greatestStamp rm_V_greatestStamp 0 0 cp_V_greatestStamp := by
  refine xm_met 0 (by decide) rfl rfl rfl (fun p e s mm args below meth c A Rh C hr hlk hnm lb => ?_)
  unfold fV_greatestStamp
  split
  · rename_i h; subst h; exact sV_greatestStamp_0 C hr hlk hnm
  split
  · rename_i h; subst h; exact sV_greatestStamp_4 C hr hlk hnm
  · exact fun _ _ _ _ _ h => h.elim
theorem d_V_countThere_0 : decode b_V_countThere 0 = .ok (.iconst 0, 1) := by decide +kernel
theorem d_V_countThere_1 : decode b_V_countThere 1 = .ok (.istore_n 1, 1) := by decide +kernel
theorem d_V_countThere_2 : decode b_V_countThere 2 = .ok (.iconst 0, 1) := by decide +kernel
theorem d_V_countThere_3 : decode b_V_countThere 3 = .ok (.istore_n 2, 1) := by decide +kernel
theorem d_V_countThere_4 : decode b_V_countThere 4 = .ok (.iload_n 2, 1) := by decide +kernel
theorem d_V_countThere_5 : decode b_V_countThere 5 = .ok (.bipush 16, 2) := by decide +kernel
theorem d_V_countThere_7 : decode b_V_countThere 7 = .ok (.if_icmp .ge 20, 3) := by decide +kernel
theorem d_V_countThere_10 : decode b_V_countThere 10 = .ok (.aload_n 0, 1) := by decide +kernel
theorem d_V_countThere_11 : decode b_V_countThere 11 = .ok (.iload_n 2, 1) := by decide +kernel
theorem d_V_countThere_12 : decode b_V_countThere 12 = .ok (.invokevirtual 58, 3) := by decide +kernel
theorem d_V_countThere_15 : decode b_V_countThere 15 = .ok (.ifCond .eq 6, 3) := by decide +kernel
theorem d_V_countThere_18 : decode b_V_countThere 18 = .ok (.iinc 1 1, 3) := by decide +kernel
theorem d_V_countThere_21 : decode b_V_countThere 21 = .ok (.iinc 2 1, 3) := by decide +kernel
theorem d_V_countThere_24 : decode b_V_countThere 24 = .ok (.goto (-20), 3) := by decide +kernel
theorem d_V_countThere_27 : decode b_V_countThere 27 = .ok (.iload_n 1, 1) := by decide +kernel
theorem d_V_countThere_28 : decode b_V_countThere 28 = .ok (.ireturn, 1) := by decide +kernel
-- BlockVault.countThere()I: labels [0, 4], loops [4]
abbrev rm_V_countThere : Room := { frames := 2, cells := 0, slots := 0, locals := 43 }
def cV_countThere_4 (X : Nat → xm_PT) (Rh : Option Value → xm_M → Prop) : xm_PT := (xo_iload 2 (xo_push (.int (nI 16)) (xo_icmp (fun x y => y ≤ x) (xo_iload 1 (xo_iret Rh)) (xo_aload 0 (xo_iload 2 (xo_callV 0 1 0 0 cp_V_isThere (xo_if (fun x => x = 0) (xo_iinc 2 1 (xo_jmp [0, 1, 2] (X 4))) (xo_iinc 1 1 (xo_iinc 2 1 (xo_jmp [0, 1, 2] (X 4)))))))))))
def cV_countThere_0 (X : Nat → xm_PT) (Rh : Option Value → xm_M → Prop) : xm_PT := (xo_push (.int 0) (xo_istore 1 (xo_push (.int 0) (xo_istore 2 (xo_jmp [0, 1, 2] (X 4))))))
def fV_countThere : xm_F := fun X Rh lb => if lb = 0 then cV_countThere_0 X Rh else (if lb = 4 then cV_countThere_4 X Rh else fun _ _ _ _ _ => False)
def cp_V_countThere : xm_CP := fun as m Rh => (lg_sl as).length ≤ 3 ∧ xm_cp fV_countThere 0 0 as m Rh
theorem eV_countThere_0 {X : Nat → xm_PT} {Rh : Option Value → xm_M → Prop} (hX : ∀ lb, xm_le (fV_countThere X Rh lb) (X lb)) {ls : xm_L} {st : List Value} {m : xm_M} {bc bs : Nat} (h : cV_countThere_0 X Rh ls st m bc bs) : X 0 ls st m bc bs := hX 0 ls st m bc bs h
theorem eV_countThere_4 {X : Nat → xm_PT} {Rh : Option Value → xm_M → Prop} (hX : ∀ lb, xm_le (fV_countThere X Rh lb) (X lb)) {ls : xm_L} {st : List Value} {m : xm_M} {bc bs : Nat} (h : cV_countThere_4 X Rh ls st m bc bs) : X 4 ls st m bc bs := hX 4 ls st m bc bs h
set_option maxRecDepth 20000 in
set_option maxHeartbeats 4000000 in
theorem sV_countThere_4 {p : Program} {l : Launch} {e : Env} {s : State} {mm : MethodId} {args : Array Value} {below : List Frame} {meth : Method} {c : Code} {D : va_G} {A : Nat → Prop} {Rh : Option Value → xm_M → Prop} (C : xm_C p s mm args c b_V_countThere 3 "BlockVault" w_V_countThere D classes ats A) (hr : meth.sig.returnType = (some .int)) (hlk : meth.locks = false) (hnm : meth.name = "countThere") : xm_le (cV_countThere_4 (xm_A p l e rm_V_countThere s mm args below meth c 3 D classes A (MQ below (xm_Q D classes Rh A) args s 0 0 A)) Rh) ((xm_A p l e rm_V_countThere s mm args below meth c 3 D classes A (MQ below (xm_Q D classes Rh A) args s 0 0 A)) 4) :=
  (xs_iload_n C d_V_countThere_4 rfl (xs_bipush C d_V_countThere_5 (by decide) (xs_icmp_ge C d_V_countThere_7 (by decide) (xs_iload_n C d_V_countThere_27 rfl (xs_iret C d_V_countThere_28 hr hlk rfl rfl)) (xs_aload_n C d_V_countThere_10 rfl (xs_iload_n C d_V_countThere_11 rfl (xs_callV C (CN := "BlockVault") (T := F_V) (N := 8) d_V_countThere_12 (met_V_isThere l D) ⟨callB_of (ws := w_V_isThere) (rm := rm_V_isThere) 1 C.1.2.2.2.2 (gG_m tw_123) rfl rfl rfl (C.1.2.2.2.2 _ (List.mem_cons_of_mem _ tw_1)) (C.1.2.2.2.2 _ (List.mem_cons_of_mem _ tw_120)) ⟨by decide, by decide, by decide +kernel⟩ ⟨Nat.le_of_ble_eq_true rfl, Nat.le_of_ble_eq_true rfl⟩, (C.1.2.2.2.2 _ (List.mem_cons_of_mem _ tw_122)), (C.1.2.2.2.2 _ (List.mem_cons_of_mem _ ts_1))⟩ (ci := 0) rfl (xs_if_eq C d_V_countThere_15 (by decide) (xs_iinc C d_V_countThere_21 (by decide) (by decide) (xs_goto C d_V_countThere_24 (by decide) (xs_jmp (fun _ _ _ _ _ h => h)))) (xs_iinc C d_V_countThere_18 (by decide) (by decide) (xs_iinc C d_V_countThere_21 (by decide) (by decide) (xs_goto C d_V_countThere_24 (by decide) (xs_jmp (fun _ _ _ _ _ h => h))))))))))))
set_option maxRecDepth 20000 in
set_option maxHeartbeats 4000000 in
theorem sV_countThere_0 {p : Program} {l : Launch} {e : Env} {s : State} {mm : MethodId} {args : Array Value} {below : List Frame} {meth : Method} {c : Code} {D : va_G} {A : Nat → Prop} {Rh : Option Value → xm_M → Prop} (C : xm_C p s mm args c b_V_countThere 3 "BlockVault" w_V_countThere D classes ats A) (hr : meth.sig.returnType = (some .int)) (hlk : meth.locks = false) (hnm : meth.name = "countThere") : xm_le (cV_countThere_0 (xm_A p l e rm_V_countThere s mm args below meth c 3 D classes A (MQ below (xm_Q D classes Rh A) args s 0 0 A)) Rh) ((xm_A p l e rm_V_countThere s mm args below meth c 3 D classes A (MQ below (xm_Q D classes Rh A) args s 0 0 A)) 0) :=
  (xs_iconst C d_V_countThere_0 (by decide) (xs_istore_n C d_V_countThere_1 rfl (by decide) (xs_iconst C d_V_countThere_2 (by decide) (xs_istore_n C d_V_countThere_3 rfl (by decide) (xs_jmp (fun _ _ _ _ _ h => h))))))
theorem met_V_countThere (l : Launch) (D : va_G) : xm_Met l D classes ats y_V_countThere w_V_countThere rm_V_countThere 0 0 cp_V_countThere := by
  refine xm_met 0 (by decide) rfl rfl rfl (fun p e s mm args below meth c A Rh C hr hlk hnm lb => ?_)
  unfold fV_countThere
  split
  · rename_i h; subst h; exact sV_countThere_0 C hr hlk hnm
  split
  · rename_i h; subst h; exact sV_countThere_4 C hr hlk hnm
  · exact fun _ _ _ _ _ h => h.elim
theorem d_V_start_0 : decode b_V_start 0 = .ok (.aload_n 0, 1) := by decide +kernel
theorem d_V_start_1 : decode b_V_start 1 = .ok (.getfield 37, 3) := by decide +kernel
theorem d_V_start_4 : decode b_V_start 4 = .ok (.ifCond .ne 6, 3) := by decide +kernel
theorem d_V_start_7 : decode b_V_start 7 = .ok (.bipush (-2), 2) := by decide +kernel
theorem d_V_start_9 : decode b_V_start 9 = .ok (.ireturn, 1) := by decide +kernel
theorem d_V_start_10 : decode b_V_start 10 = .ok (.aload_n 0, 1) := by decide +kernel
theorem d_V_start_11 : decode b_V_start 11 = .ok (.iconst 0, 1) := by decide +kernel
theorem d_V_start_12 : decode b_V_start 12 = .ok (.putfield 37, 3) := by decide +kernel
theorem d_V_start_15 : decode b_V_start 15 = .ok (.aload_n 0, 1) := by decide +kernel
theorem d_V_start_16 : decode b_V_start 16 = .ok (.invokevirtual 130, 3) := by decide +kernel
theorem d_V_start_19 : decode b_V_start 19 = .ok (.aload_n 0, 1) := by decide +kernel
theorem d_V_start_20 : decode b_V_start 20 = .ok (.invokevirtual 133, 3) := by decide +kernel
theorem d_V_start_23 : decode b_V_start 23 = .ok (.aload_n 0, 1) := by decide +kernel
theorem d_V_start_24 : decode b_V_start 24 = .ok (.invokevirtual 136, 3) := by decide +kernel
theorem d_V_start_27 : decode b_V_start 27 = .ok (.aload_n 0, 1) := by decide +kernel
theorem d_V_start_28 : decode b_V_start 28 = .ok (.aload_n 0, 1) := by decide +kernel
theorem d_V_start_29 : decode b_V_start 29 = .ok (.invokevirtual 139, 3) := by decide +kernel
theorem d_V_start_32 : decode b_V_start 32 = .ok (.iconst 1, 1) := by decide +kernel
theorem d_V_start_33 : decode b_V_start 33 = .ok (.iadd, 1) := by decide +kernel
theorem d_V_start_34 : decode b_V_start 34 = .ok (.putfield 25, 3) := by decide +kernel
theorem d_V_start_37 : decode b_V_start 37 = .ok (.aload_n 0, 1) := by decide +kernel
theorem d_V_start_38 : decode b_V_start 38 = .ok (.invokevirtual 142, 3) := by decide +kernel
theorem d_V_start_41 : decode b_V_start 41 = .ok (.ireturn, 1) := by decide +kernel
-- BlockVault.start()I: labels [0], loops []
abbrev rm_V_start : Room := { frames := 3, cells := 0, slots := 0, locals := 65 }
def cV_start_0 (X : Nat → xm_PT) (Rh : Option Value → xm_M → Prop) : xm_PT := (xo_aload 0 (xo_get 0 7 (xo_if (fun x => x = 0) (xo_push (.int (-2)) (xo_iret Rh)) (xo_aload 0 (xo_push (.int 0) (xo_put 0 7 .boolean (xo_aload 0 (xo_callV 0 0 0 0 cp_V_nameNewestCopies (xo_aload 0 (xo_callV 0 0 0 0 cp_V_dropExpiredFound (xo_aload 0 (xo_callV 0 0 0 0 cp_V_reopenBlocks (xo_aload 0 (xo_aload 0 (xo_callV 0 0 0 0 cp_V_greatestStamp (xo_push (.int 1) (xo_ibin (fun x y => x + y) (xo_put 0 3 .int (xo_aload 0 (xo_callV 0 0 0 0 cp_V_countThere (xo_iret Rh)))))))))))))))))))))
def fV_start : xm_F := fun X Rh lb => if lb = 0 then cV_start_0 X Rh else fun _ _ _ _ _ => False
def cp_V_start : xm_CP := fun as m Rh => (lg_sl as).length ≤ 1 ∧ xm_cp fV_start 0 0 as m Rh
theorem eV_start_0 {X : Nat → xm_PT} {Rh : Option Value → xm_M → Prop} (hX : ∀ lb, xm_le (fV_start X Rh lb) (X lb)) {ls : xm_L} {st : List Value} {m : xm_M} {bc bs : Nat} (h : cV_start_0 X Rh ls st m bc bs) : X 0 ls st m bc bs := hX 0 ls st m bc bs h
set_option maxRecDepth 20000 in
set_option maxHeartbeats 4000000 in
theorem sV_start_0 {p : Program} {l : Launch} {e : Env} {s : State} {mm : MethodId} {args : Array Value} {below : List Frame} {meth : Method} {c : Code} {D : va_G} {A : Nat → Prop} {Rh : Option Value → xm_M → Prop} (C : xm_C p s mm args c b_V_start 1 "BlockVault" w_V_start D classes ats A) (hr : meth.sig.returnType = (some .int)) (hlk : meth.locks = false) (hnm : meth.name = "start") : xm_le (cV_start_0 (xm_A p l e rm_V_start s mm args below meth c 1 D classes A (MQ below (xm_Q D classes Rh A) args s 0 0 A)) Rh) ((xm_A p l e rm_V_start s mm args below meth c 1 D classes A (MQ below (xm_Q D classes Rh A) args s 0 0 A)) 0) :=
  (xs_aload_n C d_V_start_0 rfl (xs_get C (k := 7) d_V_start_1 h_V (ci := 0) rfl (by decide) (List.mem_cons_of_mem _ tw_88) rfl (xs_if_ne C d_V_start_4 (by decide) (xs_bipush C d_V_start_7 (by decide) (xs_iret C d_V_start_9 hr hlk rfl rfl)) (xs_aload_n C d_V_start_10 rfl (xs_iconst C d_V_start_11 (by decide) (xs_put C (k := 7) d_V_start_12 h_V t_V t_V_ok n_V (ci := 0) rfl (by decide) (List.mem_cons_of_mem _ tw_88) rfl rfl (by decide +kernel) (xs_aload_n C d_V_start_15 rfl (xs_callV C (CN := "BlockVault") (T := F_V) (N := 8) d_V_start_16 (met_V_nameNewestCopies l D) ⟨callB_of (ws := w_V_nameNewestCopies) (rm := rm_V_nameNewestCopies) 0 C.1.2.2.2.2 (gG_m tw_348) rfl rfl rfl (C.1.2.2.2.2 _ (List.mem_cons_of_mem _ tw_1)) (C.1.2.2.2.2 _ (List.mem_cons_of_mem _ tw_345)) ⟨by decide, by decide, by decide +kernel⟩ ⟨Nat.le_of_ble_eq_true rfl, Nat.le_of_ble_eq_true rfl⟩, (C.1.2.2.2.2 _ (List.mem_cons_of_mem _ tw_347)), (C.1.2.2.2.2 _ (List.mem_cons_of_mem _ ts_26))⟩ (ci := 0) rfl (xs_aload_n C d_V_start_19 rfl (xs_callV C (CN := "BlockVault") (T := F_V) (N := 8) d_V_start_20 (met_V_dropExpiredFound l D) ⟨callB_of (ws := w_V_dropExpiredFound) (rm := rm_V_dropExpiredFound) 0 C.1.2.2.2.2 (gG_m tw_356) rfl rfl rfl (C.1.2.2.2.2 _ (List.mem_cons_of_mem _ tw_1)) (C.1.2.2.2.2 _ (List.mem_cons_of_mem _ tw_353)) ⟨by decide, by decide, by decide +kernel⟩ ⟨Nat.le_of_ble_eq_true rfl, Nat.le_of_ble_eq_true rfl⟩, (C.1.2.2.2.2 _ (List.mem_cons_of_mem _ tw_355)), (C.1.2.2.2.2 _ (List.mem_cons_of_mem _ ts_27))⟩ (ci := 0) rfl (xs_aload_n C d_V_start_23 rfl (xs_callV C (CN := "BlockVault") (T := F_V) (N := 8) d_V_start_24 (met_V_reopenBlocks l D) ⟨callB_of (ws := w_V_reopenBlocks) (rm := rm_V_reopenBlocks) 0 C.1.2.2.2.2 (gG_m tw_360) rfl rfl rfl (C.1.2.2.2.2 _ (List.mem_cons_of_mem _ tw_1)) (C.1.2.2.2.2 _ (List.mem_cons_of_mem _ tw_357)) ⟨by decide, by decide, by decide +kernel⟩ ⟨Nat.le_of_ble_eq_true rfl, Nat.le_of_ble_eq_true rfl⟩, (C.1.2.2.2.2 _ (List.mem_cons_of_mem _ tw_359)), (C.1.2.2.2.2 _ (List.mem_cons_of_mem _ ts_28))⟩ (ci := 0) rfl (xs_aload_n C d_V_start_27 rfl (xs_aload_n C d_V_start_28 rfl (xs_callV C (CN := "BlockVault") (T := F_V) (N := 8) d_V_start_29 (met_V_greatestStamp l D) ⟨callB_of (ws := w_V_greatestStamp) (rm := rm_V_greatestStamp) 0 C.1.2.2.2.2 (gG_m tw_364) rfl rfl rfl (C.1.2.2.2.2 _ (List.mem_cons_of_mem _ tw_1)) (C.1.2.2.2.2 _ (List.mem_cons_of_mem _ tw_361)) ⟨by decide, by decide, by decide +kernel⟩ ⟨Nat.le_of_ble_eq_true rfl, Nat.le_of_ble_eq_true rfl⟩, (C.1.2.2.2.2 _ (List.mem_cons_of_mem _ tw_363)), (C.1.2.2.2.2 _ (List.mem_cons_of_mem _ ts_29))⟩ (ci := 0) rfl (xs_iconst C d_V_start_32 (by decide) (xs_iadd C d_V_start_33 (xs_put C (k := 3) d_V_start_34 h_V t_V t_V_ok n_V (ci := 0) rfl (by decide) (List.mem_cons_of_mem _ tw_84) rfl rfl (by decide +kernel) (xs_aload_n C d_V_start_37 rfl (xs_callV C (CN := "BlockVault") (T := F_V) (N := 8) d_V_start_38 (met_V_countThere l D) ⟨callB_of (ws := w_V_countThere) (rm := rm_V_countThere) 0 C.1.2.2.2.2 (gG_m tw_376) rfl rfl rfl (C.1.2.2.2.2 _ (List.mem_cons_of_mem _ tw_1)) (C.1.2.2.2.2 _ (List.mem_cons_of_mem _ tw_373)) ⟨by decide, by decide, by decide +kernel⟩ ⟨Nat.le_of_ble_eq_true rfl, Nat.le_of_ble_eq_true rfl⟩, (C.1.2.2.2.2 _ (List.mem_cons_of_mem _ tw_375)), (C.1.2.2.2.2 _ (List.mem_cons_of_mem _ ts_30))⟩ (ci := 0) rfl (xs_iret C d_V_start_41 hr hlk rfl rfl)))))))))))))))))))))
theorem met_V_start (l : Launch) (D : va_G) : xm_Met l D classes ats y_V_start w_V_start rm_V_start 0 0 cp_V_start := by
  refine xm_met 0 (by decide) rfl rfl rfl (fun p e s mm args below meth c A Rh C hr hlk hnm lb => ?_)
  unfold fV_start
  split
  · rename_i h; subst h; exact sV_start_0 C hr hlk hnm
  · exact fun _ _ _ _ _ h => h.elim
theorem d_V_entry_0 : decode b_V_entry 0 = .ok (.iload_n 1, 1) := by decide +kernel
theorem d_V_entry_1 : decode b_V_entry 1 = .ok (.invokestatic 43, 3) := by decide +kernel
theorem d_V_entry_4 : decode b_V_entry 4 = .ok (.ifCond .eq 13, 3) := by decide +kernel
theorem d_V_entry_7 : decode b_V_entry 7 = .ok (.iload_n 2, 1) := by decide +kernel
theorem d_V_entry_8 : decode b_V_entry 8 = .ok (.ifCond .lt 9, 3) := by decide +kernel
theorem d_V_entry_11 : decode b_V_entry 11 = .ok (.iload_n 2, 1) := by decide +kernel
theorem d_V_entry_12 : decode b_V_entry 12 = .ok (.bipush 6, 2) := by decide +kernel
theorem d_V_entry_14 : decode b_V_entry 14 = .ok (.if_icmp .le 5, 3) := by decide +kernel
theorem d_V_entry_17 : decode b_V_entry 17 = .ok (.iconst (-1), 1) := by decide +kernel
theorem d_V_entry_18 : decode b_V_entry 18 = .ok (.ireturn, 1) := by decide +kernel
theorem d_V_entry_19 : decode b_V_entry 19 = .ok (.aload_n 0, 1) := by decide +kernel
theorem d_V_entry_20 : decode b_V_entry 20 = .ok (.getfield 37, 3) := by decide +kernel
theorem d_V_entry_23 : decode b_V_entry 23 = .ok (.ifCond .eq 6, 3) := by decide +kernel
theorem d_V_entry_26 : decode b_V_entry 26 = .ok (.bipush (-2), 2) := by decide +kernel
theorem d_V_entry_28 : decode b_V_entry 28 = .ok (.ireturn, 1) := by decide +kernel
theorem d_V_entry_29 : decode b_V_entry 29 = .ok (.aload_n 0, 1) := by decide +kernel
theorem d_V_entry_30 : decode b_V_entry 30 = .ok (.getfield 17, 3) := by decide +kernel
theorem d_V_entry_33 : decode b_V_entry 33 = .ok (.iload_n 1, 1) := by decide +kernel
theorem d_V_entry_34 : decode b_V_entry 34 = .ok (.aaload, 1) := by decide +kernel
theorem d_V_entry_35 : decode b_V_entry 35 = .ok (.astore_n 3, 1) := by decide +kernel
theorem d_V_entry_36 : decode b_V_entry 36 = .ok (.aload_n 3, 1) := by decide +kernel
theorem d_V_entry_37 : decode b_V_entry 37 = .ok (.getfield 63, 3) := by decide +kernel
theorem d_V_entry_40 : decode b_V_entry 40 = .ok (.ifnonnull 6, 3) := by decide +kernel
theorem d_V_entry_43 : decode b_V_entry 43 = .ok (.bipush (-4), 2) := by decide +kernel
theorem d_V_entry_45 : decode b_V_entry 45 = .ok (.ireturn, 1) := by decide +kernel
theorem d_V_entry_46 : decode b_V_entry 46 = .ok (.iload_n 2, 1) := by decide +kernel
theorem d_V_entry_47 : decode b_V_entry 47 = .ok (.tableswitch 90 0 5 #[37, 53, 61, 69, 77, 85], 37) := by decide +kernel
theorem d_V_entry_84 : decode b_V_entry 84 = .ok (.aload_n 3, 1) := by decide +kernel
theorem d_V_entry_85 : decode b_V_entry 85 = .ok (.getfield 63, 3) := by decide +kernel
theorem d_V_entry_88 : decode b_V_entry 88 = .ok (.getfield 145, 3) := by decide +kernel
theorem d_V_entry_91 : decode b_V_entry 91 = .ok (.ifCond .eq 7, 3) := by decide +kernel
theorem d_V_entry_94 : decode b_V_entry 94 = .ok (.iconst 2, 1) := by decide +kernel
theorem d_V_entry_95 : decode b_V_entry 95 = .ok (.goto 4, 3) := by decide +kernel
theorem d_V_entry_98 : decode b_V_entry 98 = .ok (.iconst 1, 1) := by decide +kernel
theorem d_V_entry_99 : decode b_V_entry 99 = .ok (.ireturn, 1) := by decide +kernel
theorem d_V_entry_100 : decode b_V_entry 100 = .ok (.aload_n 3, 1) := by decide +kernel
theorem d_V_entry_101 : decode b_V_entry 101 = .ok (.getfield 63, 3) := by decide +kernel
theorem d_V_entry_104 : decode b_V_entry 104 = .ok (.getfield 148, 3) := by decide +kernel
theorem d_V_entry_107 : decode b_V_entry 107 = .ok (.ireturn, 1) := by decide +kernel
theorem d_V_entry_108 : decode b_V_entry 108 = .ok (.aload_n 3, 1) := by decide +kernel
theorem d_V_entry_109 : decode b_V_entry 109 = .ok (.getfield 63, 3) := by decide +kernel
theorem d_V_entry_112 : decode b_V_entry 112 = .ok (.getfield 151, 3) := by decide +kernel
theorem d_V_entry_115 : decode b_V_entry 115 = .ok (.ireturn, 1) := by decide +kernel
theorem d_V_entry_116 : decode b_V_entry 116 = .ok (.aload_n 3, 1) := by decide +kernel
theorem d_V_entry_117 : decode b_V_entry 117 = .ok (.getfield 63, 3) := by decide +kernel
theorem d_V_entry_120 : decode b_V_entry 120 = .ok (.getfield 154, 3) := by decide +kernel
theorem d_V_entry_123 : decode b_V_entry 123 = .ok (.ireturn, 1) := by decide +kernel
theorem d_V_entry_124 : decode b_V_entry 124 = .ok (.aload_n 3, 1) := by decide +kernel
theorem d_V_entry_125 : decode b_V_entry 125 = .ok (.getfield 63, 3) := by decide +kernel
theorem d_V_entry_128 : decode b_V_entry 128 = .ok (.getfield 72, 3) := by decide +kernel
theorem d_V_entry_131 : decode b_V_entry 131 = .ok (.ireturn, 1) := by decide +kernel
theorem d_V_entry_132 : decode b_V_entry 132 = .ok (.aload_n 3, 1) := by decide +kernel
theorem d_V_entry_133 : decode b_V_entry 133 = .ok (.getfield 157, 3) := by decide +kernel
theorem d_V_entry_136 : decode b_V_entry 136 = .ok (.ireturn, 1) := by decide +kernel
theorem d_V_entry_137 : decode b_V_entry 137 = .ok (.aload_n 3, 1) := by decide +kernel
theorem d_V_entry_138 : decode b_V_entry 138 = .ok (.getfield 160, 3) := by decide +kernel
theorem d_V_entry_141 : decode b_V_entry 141 = .ok (.ireturn, 1) := by decide +kernel
-- BlockVault.entry(II)I: labels [0], loops []
abbrev rm_V_entry : Room := { frames := 1, cells := 0, slots := 0, locals := 20 }
def cV_entry_0 (X : Nat → xm_PT) (Rh : Option Value → xm_M → Prop) : xm_PT := (xo_iload 1 (xo_callS 1 0 0 cp_V_isKey (xo_if (fun x => x = 0) (xo_push (.int (-1)) (xo_iret Rh)) (xo_iload 2 (xo_if (fun x => x < 0) (xo_push (.int (-1)) (xo_iret Rh)) (xo_iload 2 (xo_push (.int (nI 6)) (xo_icmp (fun x y => x ≤ y) (xo_aload 0 (xo_get 0 7 (xo_if (fun x => x = 0) (xo_aload 0 (xo_get 0 1 (xo_iload 1 (xo_aald ats (xo_astore 3 (xo_aload 3 (xo_get 4 0 (xo_null (xo_push (.int (-4)) (xo_iret Rh)) (xo_iload 2 (xo_tsw 0 [(xo_aload 3 (xo_get 4 0 (xo_get 1 6 (xo_if (fun x => x = 0) (xo_push (.int 1) (xo_iret Rh)) (xo_push (.int (nI 2)) (xo_iret Rh)))))), (xo_aload 3 (xo_get 4 0 (xo_get 1 3 (xo_iret Rh)))), (xo_aload 3 (xo_get 4 0 (xo_get 1 4 (xo_iret Rh)))), (xo_aload 3 (xo_get 4 0 (xo_get 1 5 (xo_iret Rh)))), (xo_aload 3 (xo_get 4 0 (xo_get 1 2 (xo_iret Rh)))), (xo_aload 3 (xo_get 4 1 (xo_iret Rh)))] (xo_aload 3 (xo_get 4 2 (xo_iret Rh))))))))))))) (xo_push (.int (-2)) (xo_iret Rh))))) (xo_push (.int (-1)) (xo_iret Rh))))))))))
def fV_entry : xm_F := fun X Rh lb => if lb = 0 then cV_entry_0 X Rh else fun _ _ _ _ _ => False
def cp_V_entry : xm_CP := fun as m Rh => (lg_sl as).length ≤ 4 ∧ xm_cp fV_entry 0 0 as m Rh
theorem eV_entry_0 {X : Nat → xm_PT} {Rh : Option Value → xm_M → Prop} (hX : ∀ lb, xm_le (fV_entry X Rh lb) (X lb)) {ls : xm_L} {st : List Value} {m : xm_M} {bc bs : Nat} (h : cV_entry_0 X Rh ls st m bc bs) : X 0 ls st m bc bs := hX 0 ls st m bc bs h
set_option maxRecDepth 20000 in
set_option maxHeartbeats 4000000 in
theorem sV_entry_0 {p : Program} {l : Launch} {e : Env} {s : State} {mm : MethodId} {args : Array Value} {below : List Frame} {meth : Method} {c : Code} {D : va_G} {A : Nat → Prop} {Rh : Option Value → xm_M → Prop} (C : xm_C p s mm args c b_V_entry 4 "BlockVault" w_V_entry D classes ats A) (hr : meth.sig.returnType = (some .int)) (hlk : meth.locks = false) (hnm : meth.name = "entry") : xm_le (cV_entry_0 (xm_A p l e rm_V_entry s mm args below meth c 4 D classes A (MQ below (xm_Q D classes Rh A) args s 0 0 A)) Rh) ((xm_A p l e rm_V_entry s mm args below meth c 4 D classes A (MQ below (xm_Q D classes Rh A) args s 0 0 A)) 0) :=
  (xs_iload_n C d_V_entry_0 rfl (xs_callS C d_V_entry_1 (met_V_isKey l D) ⟨callB_of (ws := w_V_isKey) (rm := rm_V_isKey) 1 C.1.2.2.2.2 (gG_m tw_112) rfl rfl rfl (C.1.2.2.2.2 _ (List.mem_cons_of_mem _ tw_1)) (C.1.2.2.2.2 _ (List.mem_cons_of_mem _ tw_110)) ⟨by decide, by decide, by decide +kernel⟩ ⟨Nat.le_of_ble_eq_true rfl, Nat.le_of_ble_eq_true rfl⟩, C.1.2.2.2.2 _ (List.mem_cons_of_mem _ tw_111)⟩ (xs_if_eq C d_V_entry_4 (by decide) (xs_iconst C d_V_entry_17 (by decide) (xs_iret C d_V_entry_18 hr hlk rfl rfl)) (xs_iload_n C d_V_entry_7 rfl (xs_if_lt C d_V_entry_8 (by decide) (xs_iconst C d_V_entry_17 (by decide) (xs_iret C d_V_entry_18 hr hlk rfl rfl)) (xs_iload_n C d_V_entry_11 rfl (xs_bipush C d_V_entry_12 (by decide) (xs_icmp_le C d_V_entry_14 (by decide) (xs_aload_n C d_V_entry_19 rfl (xs_get C (k := 7) d_V_entry_20 h_V (ci := 0) rfl (by decide) (List.mem_cons_of_mem _ tw_88) rfl (xs_if_eq C d_V_entry_23 (by decide) (xs_aload_n C d_V_entry_29 rfl (xs_get C (k := 1) d_V_entry_30 h_V (ci := 0) rfl (by decide) (List.mem_cons_of_mem _ tw_82) rfl (xs_iload_n C d_V_entry_33 rfl (xs_aald C d_V_entry_34 (xs_astore_n C d_V_entry_35 rfl (by decide) (xs_aload_n C d_V_entry_36 rfl (xs_get C (k := 0) d_V_entry_37 h_E (ci := 4) rfl (by decide) (List.mem_cons_of_mem _ tw_69) rfl (xs_ifnonnull C d_V_entry_40 (by decide) (xs_bipush C d_V_entry_43 (by decide) (xs_iret C d_V_entry_45 hr hlk rfl rfl)) (xs_iload_n C d_V_entry_46 rfl (xs_tsw C d_V_entry_47 rfl ⟨⟨84, by decide, (xs_aload_n C d_V_entry_84 rfl (xs_get C (k := 0) d_V_entry_85 h_E (ci := 4) rfl (by decide) (List.mem_cons_of_mem _ tw_69) rfl (xs_get C (k := 6) d_V_entry_88 h_C (ci := 1) rfl (by decide) (List.mem_cons_of_mem _ tw_154) rfl (xs_if_eq C d_V_entry_91 (by decide) (xs_iconst C d_V_entry_98 (by decide) (xs_iret C d_V_entry_99 hr hlk rfl rfl)) (xs_iconst C d_V_entry_94 (by decide) (xs_goto C d_V_entry_95 (by decide) (xs_iret C d_V_entry_99 hr hlk rfl rfl)))))))⟩, ⟨⟨100, by decide, (xs_aload_n C d_V_entry_100 rfl (xs_get C (k := 0) d_V_entry_101 h_E (ci := 4) rfl (by decide) (List.mem_cons_of_mem _ tw_69) rfl (xs_get C (k := 3) d_V_entry_104 h_C (ci := 1) rfl (by decide) (List.mem_cons_of_mem _ tw_147) rfl (xs_iret C d_V_entry_107 hr hlk rfl rfl))))⟩, ⟨⟨108, by decide, (xs_aload_n C d_V_entry_108 rfl (xs_get C (k := 0) d_V_entry_109 h_E (ci := 4) rfl (by decide) (List.mem_cons_of_mem _ tw_69) rfl (xs_get C (k := 4) d_V_entry_112 h_C (ci := 1) rfl (by decide) (List.mem_cons_of_mem _ tw_149) rfl (xs_iret C d_V_entry_115 hr hlk rfl rfl))))⟩, ⟨⟨116, by decide, (xs_aload_n C d_V_entry_116 rfl (xs_get C (k := 0) d_V_entry_117 h_E (ci := 4) rfl (by decide) (List.mem_cons_of_mem _ tw_69) rfl (xs_get C (k := 5) d_V_entry_120 h_C (ci := 1) rfl (by decide) (List.mem_cons_of_mem _ tw_152) rfl (xs_iret C d_V_entry_123 hr hlk rfl rfl))))⟩, ⟨⟨124, by decide, (xs_aload_n C d_V_entry_124 rfl (xs_get C (k := 0) d_V_entry_125 h_E (ci := 4) rfl (by decide) (List.mem_cons_of_mem _ tw_69) rfl (xs_get C (k := 2) d_V_entry_128 h_C (ci := 1) rfl (by decide) (List.mem_cons_of_mem _ tw_144) rfl (xs_iret C d_V_entry_131 hr hlk rfl rfl))))⟩, ⟨⟨132, by decide, (xs_aload_n C d_V_entry_132 rfl (xs_get C (k := 1) d_V_entry_133 h_E (ci := 4) rfl (by decide) (List.mem_cons_of_mem _ tw_71) rfl (xs_iret C d_V_entry_136 hr hlk rfl rfl)))⟩, trivial⟩⟩⟩⟩⟩⟩ (tgd := 137) (by decide) (xs_aload_n C d_V_entry_137 rfl (xs_get C (k := 2) d_V_entry_138 h_E (ci := 4) rfl (by decide) (List.mem_cons_of_mem _ tw_73) rfl (xs_iret C d_V_entry_141 hr hlk rfl rfl))))))))))))) (xs_bipush C d_V_entry_26 (by decide) (xs_iret C d_V_entry_28 hr hlk rfl rfl))))) (xs_iconst C d_V_entry_17 (by decide) (xs_iret C d_V_entry_18 hr hlk rfl rfl))))))))))
theorem met_V_entry (l : Launch) (D : va_G) : xm_Met l D classes ats y_V_entry w_V_entry rm_V_entry 0 0 cp_V_entry := by
  refine xm_met 0 (by decide) rfl rfl rfl (fun p e s mm args below meth c A Rh C hr hlk hnm lb => ?_)
  unfold fV_entry
  split
  · rename_i h; subst h; exact sV_entry_0 C hr hlk hnm
  · exact fun _ _ _ _ _ h => h.elim
theorem d_V_next_0 : decode b_V_next 0 = .ok (.aload_n 0, 1) := by decide +kernel
theorem d_V_next_1 : decode b_V_next 1 = .ok (.getfield 37, 3) := by decide +kernel
theorem d_V_next_4 : decode b_V_next 4 = .ok (.ifCond .eq 6, 3) := by decide +kernel
theorem d_V_next_7 : decode b_V_next 7 = .ok (.bipush (-2), 2) := by decide +kernel
theorem d_V_next_9 : decode b_V_next 9 = .ok (.ireturn, 1) := by decide +kernel
theorem d_V_next_10 : decode b_V_next 10 = .ok (.iconst 0, 1) := by decide +kernel
theorem d_V_next_11 : decode b_V_next 11 = .ok (.istore_n 2, 1) := by decide +kernel
theorem d_V_next_12 : decode b_V_next 12 = .ok (.iload_n 2, 1) := by decide +kernel
theorem d_V_next_13 : decode b_V_next 13 = .ok (.bipush 16, 2) := by decide +kernel
theorem d_V_next_15 : decode b_V_next 15 = .ok (.if_icmp .ge 28, 3) := by decide +kernel
theorem d_V_next_18 : decode b_V_next 18 = .ok (.iload_n 2, 1) := by decide +kernel
theorem d_V_next_19 : decode b_V_next 19 = .ok (.iload_n 1, 1) := by decide +kernel
theorem d_V_next_20 : decode b_V_next 20 = .ok (.if_icmp .le 17, 3) := by decide +kernel
theorem d_V_next_23 : decode b_V_next 23 = .ok (.aload_n 0, 1) := by decide +kernel
theorem d_V_next_24 : decode b_V_next 24 = .ok (.getfield 17, 3) := by decide +kernel
theorem d_V_next_27 : decode b_V_next 27 = .ok (.iload_n 2, 1) := by decide +kernel
theorem d_V_next_28 : decode b_V_next 28 = .ok (.aaload, 1) := by decide +kernel
theorem d_V_next_29 : decode b_V_next 29 = .ok (.getfield 63, 3) := by decide +kernel
theorem d_V_next_32 : decode b_V_next 32 = .ok (.ifnull 5, 3) := by decide +kernel
theorem d_V_next_35 : decode b_V_next 35 = .ok (.iload_n 2, 1) := by decide +kernel
theorem d_V_next_36 : decode b_V_next 36 = .ok (.ireturn, 1) := by decide +kernel
theorem d_V_next_37 : decode b_V_next 37 = .ok (.iinc 2 1, 3) := by decide +kernel
theorem d_V_next_40 : decode b_V_next 40 = .ok (.goto (-28), 3) := by decide +kernel
theorem d_V_next_43 : decode b_V_next 43 = .ok (.bipush (-4), 2) := by decide +kernel
theorem d_V_next_45 : decode b_V_next 45 = .ok (.ireturn, 1) := by decide +kernel
-- BlockVault.next(I)I: labels [0, 12], loops [12]
abbrev rm_V_next : Room := { frames := 0, cells := 0, slots := 0, locals := 0 }
def cV_next_12 (X : Nat → xm_PT) (Rh : Option Value → xm_M → Prop) : xm_PT := (xo_iload 2 (xo_push (.int (nI 16)) (xo_icmp (fun x y => y ≤ x) (xo_push (.int (-4)) (xo_iret Rh)) (xo_iload 2 (xo_iload 1 (xo_icmp (fun x y => x ≤ y) (xo_iinc 2 1 (xo_jmp [0, 1, 2] (X 12))) (xo_aload 0 (xo_get 0 1 (xo_iload 2 (xo_aald ats (xo_get 4 0 (xo_null (xo_iinc 2 1 (xo_jmp [0, 1, 2] (X 12))) (xo_iload 2 (xo_iret Rh))))))))))))))
def cV_next_0 (X : Nat → xm_PT) (Rh : Option Value → xm_M → Prop) : xm_PT := (xo_aload 0 (xo_get 0 7 (xo_if (fun x => x = 0) (xo_push (.int 0) (xo_istore 2 (xo_jmp [0, 1, 2] (X 12)))) (xo_push (.int (-2)) (xo_iret Rh)))))
def fV_next : xm_F := fun X Rh lb => if lb = 0 then cV_next_0 X Rh else (if lb = 12 then cV_next_12 X Rh else fun _ _ _ _ _ => False)
def cp_V_next : xm_CP := fun as m Rh => (lg_sl as).length ≤ 3 ∧ xm_cp fV_next 0 0 as m Rh
theorem eV_next_0 {X : Nat → xm_PT} {Rh : Option Value → xm_M → Prop} (hX : ∀ lb, xm_le (fV_next X Rh lb) (X lb)) {ls : xm_L} {st : List Value} {m : xm_M} {bc bs : Nat} (h : cV_next_0 X Rh ls st m bc bs) : X 0 ls st m bc bs := hX 0 ls st m bc bs h
theorem eV_next_12 {X : Nat → xm_PT} {Rh : Option Value → xm_M → Prop} (hX : ∀ lb, xm_le (fV_next X Rh lb) (X lb)) {ls : xm_L} {st : List Value} {m : xm_M} {bc bs : Nat} (h : cV_next_12 X Rh ls st m bc bs) : X 12 ls st m bc bs := hX 12 ls st m bc bs h
set_option maxRecDepth 20000 in
set_option maxHeartbeats 4000000 in
theorem sV_next_12 {p : Program} {l : Launch} {e : Env} {s : State} {mm : MethodId} {args : Array Value} {below : List Frame} {meth : Method} {c : Code} {D : va_G} {A : Nat → Prop} {Rh : Option Value → xm_M → Prop} (C : xm_C p s mm args c b_V_next 3 "BlockVault" w_V_next D classes ats A) (hr : meth.sig.returnType = (some .int)) (hlk : meth.locks = false) (hnm : meth.name = "next") : xm_le (cV_next_12 (xm_A p l e rm_V_next s mm args below meth c 3 D classes A (MQ below (xm_Q D classes Rh A) args s 0 0 A)) Rh) ((xm_A p l e rm_V_next s mm args below meth c 3 D classes A (MQ below (xm_Q D classes Rh A) args s 0 0 A)) 12) :=
  (xs_iload_n C d_V_next_12 rfl (xs_bipush C d_V_next_13 (by decide) (xs_icmp_ge C d_V_next_15 (by decide) (xs_bipush C d_V_next_43 (by decide) (xs_iret C d_V_next_45 hr hlk rfl rfl)) (xs_iload_n C d_V_next_18 rfl (xs_iload_n C d_V_next_19 rfl (xs_icmp_le C d_V_next_20 (by decide) (xs_iinc C d_V_next_37 (by decide) (by decide) (xs_goto C d_V_next_40 (by decide) (xs_jmp (fun _ _ _ _ _ h => h)))) (xs_aload_n C d_V_next_23 rfl (xs_get C (k := 1) d_V_next_24 h_V (ci := 0) rfl (by decide) (List.mem_cons_of_mem _ tw_82) rfl (xs_iload_n C d_V_next_27 rfl (xs_aald C d_V_next_28 (xs_get C (k := 0) d_V_next_29 h_E (ci := 4) rfl (by decide) (List.mem_cons_of_mem _ tw_69) rfl (xs_ifnull C d_V_next_32 (by decide) (xs_iinc C d_V_next_37 (by decide) (by decide) (xs_goto C d_V_next_40 (by decide) (xs_jmp (fun _ _ _ _ _ h => h)))) (xs_iload_n C d_V_next_35 rfl (xs_iret C d_V_next_36 hr hlk rfl rfl))))))))))))))
set_option maxRecDepth 20000 in
set_option maxHeartbeats 4000000 in
theorem sV_next_0 {p : Program} {l : Launch} {e : Env} {s : State} {mm : MethodId} {args : Array Value} {below : List Frame} {meth : Method} {c : Code} {D : va_G} {A : Nat → Prop} {Rh : Option Value → xm_M → Prop} (C : xm_C p s mm args c b_V_next 3 "BlockVault" w_V_next D classes ats A) (hr : meth.sig.returnType = (some .int)) (hlk : meth.locks = false) (hnm : meth.name = "next") : xm_le (cV_next_0 (xm_A p l e rm_V_next s mm args below meth c 3 D classes A (MQ below (xm_Q D classes Rh A) args s 0 0 A)) Rh) ((xm_A p l e rm_V_next s mm args below meth c 3 D classes A (MQ below (xm_Q D classes Rh A) args s 0 0 A)) 0) :=
  (xs_aload_n C d_V_next_0 rfl (xs_get C (k := 7) d_V_next_1 h_V (ci := 0) rfl (by decide) (List.mem_cons_of_mem _ tw_88) rfl (xs_if_eq C d_V_next_4 (by decide) (xs_iconst C d_V_next_10 (by decide) (xs_istore_n C d_V_next_11 rfl (by decide) (xs_jmp (fun _ _ _ _ _ h => h)))) (xs_bipush C d_V_next_7 (by decide) (xs_iret C d_V_next_9 hr hlk rfl rfl)))))
theorem met_V_next (l : Launch) (D : va_G) : xm_Met l D classes ats y_V_next w_V_next rm_V_next 0 0 cp_V_next := by
  refine xm_met 0 (by decide) rfl rfl rfl (fun p e s mm args below meth c A Rh C hr hlk hnm lb => ?_)
  unfold fV_next
  split
  · rename_i h; subst h; exact sV_next_0 C hr hlk hnm
  split
  · rename_i h; subst h; exact sV_next_12 C hr hlk hnm
  · exact fun _ _ _ _ _ h => h.elim
