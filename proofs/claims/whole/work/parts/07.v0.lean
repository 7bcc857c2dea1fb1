theorem d_R_init_0 : decode b_R_init 0 = .ok (.aload_n 0, 1) := by decide +kernel
theorem d_R_init_1 : decode b_R_init 1 = .ok (.invokespecial 3, 3) := by decide +kernel
theorem d_R_init_4 : decode b_R_init 4 = .ok (.aload_n 0, 1) := by decide +kernel
theorem d_R_init_5 : decode b_R_init 5 = .ok (.bipush 12, 2) := by decide +kernel
theorem d_R_init_7 : decode b_R_init 7 = .ok (.anewarray 9, 3) := by decide +kernel
theorem d_R_init_10 : decode b_R_init 10 = .ok (.putfield 11, 3) := by decide +kernel
theorem d_R_init_13 : decode b_R_init 13 = .ok (.aload_n 0, 1) := by decide +kernel
theorem d_R_init_14 : decode b_R_init 14 = .ok (.iconst 0, 1) := by decide +kernel
theorem d_R_init_15 : decode b_R_init 15 = .ok (.putfield 17, 3) := by decide +kernel
theorem d_R_init_18 : decode b_R_init 18 = .ok (.return_, 1) := by decide +kernel
-- BlockVault$Row.<init>()V: labels [0], loops []
abbrev rm_R_init : Room := { frames := 1, cells := 1, slots := 12, locals := 20 }
def cR_init_0 (X : Nat → xm_PT) (Rh : Option Value → xm_M → Prop) : xm_PT := (xo_aload 0 (xo_drop (xo_aload 0 (xo_push (.int (nI 12)) (xo_anew 2 (xo_put 2 0 (.array (.object "BlockVault$Copy")) (xo_aload 0 (xo_push (.int 0) (xo_put 2 1 .int (xo_vret Rh))))))))))
def fR_init : xm_F := fun X Rh lb => if lb = 0 then cR_init_0 X Rh else fun _ _ _ _ _ => False
def cp_R_init : xm_CP := fun as m Rh => (lg_sl as).length ≤ 1 ∧ xm_cp fR_init 1 12 as m Rh
theorem eR_init_0 {X : Nat → xm_PT} {Rh : Option Value → xm_M → Prop} (hX : ∀ lb, xm_le (fR_init X Rh lb) (X lb)) {ls : xm_L} {st : List Value} {m : xm_M} {bc bs : Nat} (h : cR_init_0 X Rh ls st m bc bs) : X 0 ls st m bc bs := hX 0 ls st m bc bs h
set_option maxRecDepth 20000 in
set_option maxHeartbeats 4000000 in
theorem sR_init_0 {p : Program} {l : Launch} {e : Env} {s : State} {mm : MethodId} {args : Array Value} {below : List Frame} {meth : Method} {c : Code} {D : va_G} {A : Nat → Prop} {Rh : Option Value → xm_M → Prop} (C : xm_C p s mm args c b_R_init 1 "BlockVault$Row" w_R_init D classes ats A) (hr : meth.sig.returnType = none) (hlk : meth.locks = false) (hnm : meth.name = "<init>") : xm_le (cR_init_0 (xm_A p l e rm_R_init s mm args below meth c 1 D classes A (MQ below (xm_Q D classes Rh A) args s 1 12 A)) Rh) ((xm_A p l e rm_R_init s mm args below meth c 1 D classes A (MQ below (xm_Q D classes Rh A) args s 1 12 A)) 0) :=
  (xs_aload_n C d_R_init_0 rfl (xs_obj C d_R_init_1 (List.mem_cons_of_mem _ tw_31) (List.mem_cons_of_mem _ tw_15) (List.mem_cons_of_mem _ tw_16) (by decide) (by decide) (xs_aload_n C d_R_init_4 rfl (xs_bipush C d_R_init_5 (by decide) (xs_anew C (t := 2) d_R_init_7 rfl (List.mem_cons_of_mem _ tw_32) (by decide +kernel) (xs_putF C (k := 0) d_R_init_10 h_R t_R t_R_ok n_R (ci := 2) rfl (by decide) (List.mem_cons_of_mem _ tw_34) rfl rfl hnm rfl (by decide +kernel) (xs_aload_n C d_R_init_13 rfl (xs_iconst C d_R_init_14 (by decide) (xs_put C (k := 1) d_R_init_15 h_R t_R t_R_ok n_R (ci := 2) rfl (by decide) (List.mem_cons_of_mem _ tw_35) rfl rfl (by decide +kernel) (xs_vret C d_R_init_18 hr hlk rfl rfl))))))))))
theorem met_R_init (l : Launch) (D : va_G) : xm_Met l D classes ats y_R_init w_R_init rm_R_init 1 12 cp_R_init := by
  refine xm_met 0 (by decide) rfl rfl rfl (fun p e s mm args below meth c A Rh C hr hlk hnm lb => ?_)
  unfold fR_init
  split
  · rename_i h; subst h; exact sR_init_0 C hr hlk hnm
  · exact fun _ _ _ _ _ h => h.elim
theorem d_B_init_0 : decode b_B_init 0 = .ok (.aload_n 0, 1) := by decide +kernel
theorem d_B_init_1 : decode b_B_init 1 = .ok (.invokespecial 3, 3) := by decide +kernel
theorem d_B_init_4 : decode b_B_init 4 = .ok (.aload_n 0, 1) := by decide +kernel
theorem d_B_init_5 : decode b_B_init 5 = .ok (.new 9, 3) := by decide +kernel
theorem d_B_init_8 : decode b_B_init 8 = .ok (.dup, 1) := by decide +kernel
theorem d_B_init_9 : decode b_B_init 9 = .ok (.invokespecial 11, 3) := by decide +kernel
theorem d_B_init_12 : decode b_B_init 12 = .ok (.putfield 12, 3) := by decide +kernel
theorem d_B_init_15 : decode b_B_init 15 = .ok (.aload_n 0, 1) := by decide +kernel
theorem d_B_init_16 : decode b_B_init 16 = .ok (.new 9, 3) := by decide +kernel
theorem d_B_init_19 : decode b_B_init 19 = .ok (.dup, 1) := by decide +kernel
theorem d_B_init_20 : decode b_B_init 20 = .ok (.invokespecial 11, 3) := by decide +kernel
theorem d_B_init_23 : decode b_B_init 23 = .ok (.putfield 18, 3) := by decide +kernel
theorem d_B_init_26 : decode b_B_init 26 = .ok (.aload_n 0, 1) := by decide +kernel
theorem d_B_init_27 : decode b_B_init 27 = .ok (.iconst 0, 1) := by decide +kernel
theorem d_B_init_28 : decode b_B_init 28 = .ok (.putfield 21, 3) := by decide +kernel
theorem d_B_init_31 : decode b_B_init 31 = .ok (.aload_n 0, 1) := by decide +kernel
theorem d_B_init_32 : decode b_B_init 32 = .ok (.iconst 0, 1) := by decide +kernel
theorem d_B_init_33 : decode b_B_init 33 = .ok (.putfield 25, 3) := by decide +kernel
theorem d_B_init_36 : decode b_B_init 36 = .ok (.aload_n 0, 1) := by decide +kernel
theorem d_B_init_37 : decode b_B_init 37 = .ok (.iconst 0, 1) := by decide +kernel
theorem d_B_init_38 : decode b_B_init 38 = .ok (.putfield 28, 3) := by decide +kernel
theorem d_B_init_41 : decode b_B_init 41 = .ok (.return_, 1) := by decide +kernel
-- BlockVault$Block.<init>()V: labels [0], loops []
abbrev rm_B_init : Room := { frames := 2, cells := 4, slots := 28, locals := 40 }
def cB_init_0 (X : Nat → xm_PT) (Rh : Option Value → xm_M → Prop) : xm_PT := (xo_aload 0 (xo_drop (xo_aload 0 (xo_new 2 2 [.null, .int 0] (xo_dup (xo_callI 0 1 12 cp_R_init (xo_put 3 0 (.object "BlockVault$Row") (xo_aload 0 (xo_new 2 2 [.null, .int 0] (xo_dup (xo_callI 0 1 12 cp_R_init (xo_put 3 1 (.object "BlockVault$Row") (xo_aload 0 (xo_push (.int 0) (xo_put 3 2 .int (xo_aload 0 (xo_push (.int 0) (xo_put 3 3 .int (xo_aload 0 (xo_push (.int 0) (xo_put 3 4 .int (xo_vret Rh))))))))))))))))))))))
def fB_init : xm_F := fun X Rh lb => if lb = 0 then cB_init_0 X Rh else fun _ _ _ _ _ => False
def cp_B_init : xm_CP := fun as m Rh => (lg_sl as).length ≤ 1 ∧ xm_cp fB_init 4 28 as m Rh
theorem eB_init_0 {X : Nat → xm_PT} {Rh : Option Value → xm_M → Prop} (hX : ∀ lb, xm_le (fB_init X Rh lb) (X lb)) {ls : xm_L} {st : List Value} {m : xm_M} {bc bs : Nat} (h : cB_init_0 X Rh ls st m bc bs) : X 0 ls st m bc bs := hX 0 ls st m bc bs h
set_option maxRecDepth 20000 in
set_option maxHeartbeats 4000000 in
theorem sB_init_0 {p : Program} {l : Launch} {e : Env} {s : State} {mm : MethodId} {args : Array Value} {below : List Frame} {meth : Method} {c : Code} {D : va_G} {A : Nat → Prop} {Rh : Option Value → xm_M → Prop} (C : xm_C p s mm args c b_B_init 1 "BlockVault$Block" w_B_init D classes ats A) (hr : meth.sig.returnType = none) (hlk : meth.locks = false) (hnm : meth.name = "<init>") : xm_le (cB_init_0 (xm_A p l e rm_B_init s mm args below meth c 1 D classes A (MQ below (xm_Q D classes Rh A) args s 4 28 A)) Rh) ((xm_A p l e rm_B_init s mm args below meth c 1 D classes A (MQ below (xm_Q D classes Rh A) args s 4 28 A)) 0) :=
  (xs_aload_n C d_B_init_0 rfl (xs_obj C d_B_init_1 (List.mem_cons_of_mem _ tw_25) (List.mem_cons_of_mem _ tw_15) (List.mem_cons_of_mem _ tw_16) (by decide) (by decide) (xs_aload_n C d_B_init_4 rfl (xs_new C d_B_init_5 h_R t_R t_R_ok (ci := 2) rfl (List.mem_cons_of_mem _ tw_26) (List.mem_cons_of_mem _ tw_27) (List.mem_cons_of_mem _ tw_3) (by decide +kernel) (xs_dup C d_B_init_8 (xs_callIN C d_B_init_9 (met_R_init l D) ⟨va_cnB (ws := w_R_init) (rm := rm_R_init) 0 C.1.2.2.2.2 (gG_m tw_30) rfl rfl rfl (C.2.2.2.1 ("BlockVault$Block", 11, y_R_init, "BlockVault") (by decide +kernel)) (C.1.2.2.2.2 _ (List.mem_cons_of_mem _ tw_3)) ⟨by decide, by decide, by decide +kernel⟩ ⟨Nat.le_of_ble_eq_true rfl, Nat.le_of_ble_eq_true rfl⟩, rfl, (C.1.2.2.2.2 _ (List.mem_cons_of_mem _ tw_29))⟩ (xs_putF C (k := 0) d_B_init_12 h_B t_B t_B_ok n_B (ci := 3) rfl (by decide) (List.mem_cons_of_mem _ tw_42) rfl rfl hnm rfl (by decide +kernel) (xs_aload_n C d_B_init_15 rfl (xs_new C d_B_init_16 h_R t_R t_R_ok (ci := 2) rfl (List.mem_cons_of_mem _ tw_26) (List.mem_cons_of_mem _ tw_27) (List.mem_cons_of_mem _ tw_3) (by decide +kernel) (xs_dup C d_B_init_19 (xs_callIN C d_B_init_20 (met_R_init l D) ⟨va_cnB (ws := w_R_init) (rm := rm_R_init) 0 C.1.2.2.2.2 (gG_m tw_30) rfl rfl rfl (C.2.2.2.1 ("BlockVault$Block", 11, y_R_init, "BlockVault") (by decide +kernel)) (C.1.2.2.2.2 _ (List.mem_cons_of_mem _ tw_3)) ⟨by decide, by decide, by decide +kernel⟩ ⟨Nat.le_of_ble_eq_true rfl, Nat.le_of_ble_eq_true rfl⟩, rfl, (C.1.2.2.2.2 _ (List.mem_cons_of_mem _ tw_29))⟩ (xs_putF C (k := 1) d_B_init_23 h_B t_B t_B_ok n_B (ci := 3) rfl (by decide) (List.mem_cons_of_mem _ tw_44) rfl rfl hnm rfl (by decide +kernel) (xs_aload_n C d_B_init_26 rfl (xs_iconst C d_B_init_27 (by decide) (xs_put C (k := 2) d_B_init_28 h_B t_B t_B_ok n_B (ci := 3) rfl (by decide) (List.mem_cons_of_mem _ tw_46) rfl rfl (by decide +kernel) (xs_aload_n C d_B_init_31 rfl (xs_iconst C d_B_init_32 (by decide) (xs_put C (k := 3) d_B_init_33 h_B t_B t_B_ok n_B (ci := 3) rfl (by decide) (List.mem_cons_of_mem _ tw_48) rfl rfl (by decide +kernel) (xs_aload_n C d_B_init_36 rfl (xs_iconst C d_B_init_37 (by decide) (xs_put C (k := 4) d_B_init_38 h_B t_B t_B_ok n_B (ci := 3) rfl (by decide) (List.mem_cons_of_mem _ tw_50) rfl rfl (by decide +kernel) (xs_vret C d_B_init_41 hr hlk rfl rfl))))))))))))))))))))))
theorem met_B_init (l : Launch) (D : va_G) : xm_Met l D classes ats y_B_init w_B_init rm_B_init 4 28 cp_B_init := by
  refine xm_met 0 (by decide) rfl rfl rfl (fun p e s mm args below meth c A Rh C hr hlk hnm lb => ?_)
  unfold fB_init
  split
  · rename_i h; subst h; exact sB_init_0 C hr hlk hnm
  · exact fun _ _ _ _ _ h => h.elim
theorem d_E_init_0 : decode b_E_init 0 = .ok (.aload_n 0, 1) := by decide +kernel
theorem d_E_init_1 : decode b_E_init 1 = .ok (.invokespecial 3, 3) := by decide +kernel
theorem d_E_init_4 : decode b_E_init 4 = .ok (.aload_n 0, 1) := by decide +kernel
theorem d_E_init_5 : decode b_E_init 5 = .ok (.aconst_null, 1) := by decide +kernel
theorem d_E_init_6 : decode b_E_init 6 = .ok (.putfield 9, 3) := by decide +kernel
theorem d_E_init_9 : decode b_E_init 9 = .ok (.aload_n 0, 1) := by decide +kernel
theorem d_E_init_10 : decode b_E_init 10 = .ok (.iconst (-1), 1) := by decide +kernel
theorem d_E_init_11 : decode b_E_init 11 = .ok (.putfield 15, 3) := by decide +kernel
theorem d_E_init_14 : decode b_E_init 14 = .ok (.aload_n 0, 1) := by decide +kernel
theorem d_E_init_15 : decode b_E_init 15 = .ok (.iconst 0, 1) := by decide +kernel
theorem d_E_init_16 : decode b_E_init 16 = .ok (.putfield 19, 3) := by decide +kernel
theorem d_E_init_19 : decode b_E_init 19 = .ok (.return_, 1) := by decide +kernel
-- BlockVault$Entry.<init>()V: labels [0], loops []
abbrev rm_E_init : Room := { frames := 1, cells := 0, slots := 0, locals := 20 }
def cE_init_0 (X : Nat → xm_PT) (Rh : Option Value → xm_M → Prop) : xm_PT := (xo_aload 0 (xo_drop (xo_aload 0 (xo_push .null (xo_put 4 0 (.object "BlockVault$Copy") (xo_aload 0 (xo_push (.int (-1)) (xo_put 4 1 .int (xo_aload 0 (xo_push (.int 0) (xo_put 4 2 .int (xo_vret Rh))))))))))))
def fE_init : xm_F := fun X Rh lb => if lb = 0 then cE_init_0 X Rh else fun _ _ _ _ _ => False
def cp_E_init : xm_CP := fun as m Rh => (lg_sl as).length ≤ 1 ∧ xm_cp fE_init 0 0 as m Rh
theorem eE_init_0 {X : Nat → xm_PT} {Rh : Option Value → xm_M → Prop} (hX : ∀ lb, xm_le (fE_init X Rh lb) (X lb)) {ls : xm_L} {st : List Value} {m : xm_M} {bc bs : Nat} (h : cE_init_0 X Rh ls st m bc bs) : X 0 ls st m bc bs := hX 0 ls st m bc bs h
set_option maxRecDepth 20000 in
set_option maxHeartbeats 4000000 in
theorem sE_init_0 {p : Program} {l : Launch} {e : Env} {s : State} {mm : MethodId} {args : Array Value} {below : List Frame} {meth : Method} {c : Code} {D : va_G} {A : Nat → Prop} {Rh : Option Value → xm_M → Prop} (C : xm_C p s mm args c b_E_init 1 "BlockVault$Entry" w_E_init D classes ats A) (hr : meth.sig.returnType = none) (hlk : meth.locks = false) (hnm : meth.name = "<init>") : xm_le (cE_init_0 (xm_A p l e rm_E_init s mm args below meth c 1 D classes A (MQ below (xm_Q D classes Rh A) args s 0 0 A)) Rh) ((xm_A p l e rm_E_init s mm args below meth c 1 D classes A (MQ below (xm_Q D classes Rh A) args s 0 0 A)) 0) :=
  (xs_aload_n C d_E_init_0 rfl (xs_obj C d_E_init_1 (List.mem_cons_of_mem _ tw_67) (List.mem_cons_of_mem _ tw_15) (List.mem_cons_of_mem _ tw_16) (by decide) (by decide) (xs_aload_n C d_E_init_4 rfl (xs_null C d_E_init_5 (xs_put C (k := 0) d_E_init_6 h_E t_E t_E_ok n_E (ci := 4) rfl (by decide) (List.mem_cons_of_mem _ tw_68) rfl rfl (by decide +kernel) (xs_aload_n C d_E_init_9 rfl (xs_iconst C d_E_init_10 (by decide) (xs_put C (k := 1) d_E_init_11 h_E t_E t_E_ok n_E (ci := 4) rfl (by decide) (List.mem_cons_of_mem _ tw_70) rfl rfl (by decide +kernel) (xs_aload_n C d_E_init_14 rfl (xs_iconst C d_E_init_15 (by decide) (xs_put C (k := 2) d_E_init_16 h_E t_E t_E_ok n_E (ci := 4) rfl (by decide) (List.mem_cons_of_mem _ tw_72) rfl rfl (by decide +kernel) (xs_vret C d_E_init_19 hr hlk rfl rfl))))))))))))
theorem met_E_init (l : Launch) (D : va_G) : xm_Met l D classes ats y_E_init w_E_init rm_E_init 0 0 cp_E_init := by
  refine xm_met 0 (by decide) rfl rfl rfl (fun p e s mm args below meth c A Rh C hr hlk hnm lb => ?_)
  unfold fE_init
  split
  · rename_i h; subst h; exact sE_init_0 C hr hlk hnm
  · exact fun _ _ _ _ _ h => h.elim
theorem d_V_init_0 : decode b_V_init 0 = .ok (.aload_n 0, 1) := by decide +kernel
theorem d_V_init_1 : decode b_V_init 1 = .ok (.invokespecial 1, 3) := by decide +kernel
theorem d_V_init_4 : decode b_V_init 4 = .ok (.aload_n 0, 1) := by decide +kernel
theorem d_V_init_5 : decode b_V_init 5 = .ok (.bipush 8, 2) := by decide +kernel
theorem d_V_init_7 : decode b_V_init 7 = .ok (.anewarray 9, 3) := by decide +kernel
theorem d_V_init_10 : decode b_V_init 10 = .ok (.putfield 11, 3) := by decide +kernel
theorem d_V_init_13 : decode b_V_init 13 = .ok (.aload_n 0, 1) := by decide +kernel
theorem d_V_init_14 : decode b_V_init 14 = .ok (.bipush 16, 2) := by decide +kernel
theorem d_V_init_16 : decode b_V_init 16 = .ok (.anewarray 15, 3) := by decide +kernel
theorem d_V_init_19 : decode b_V_init 19 = .ok (.putfield 17, 3) := by decide +kernel
theorem d_V_init_22 : decode b_V_init 22 = .ok (.aload_n 0, 1) := by decide +kernel
theorem d_V_init_23 : decode b_V_init 23 = .ok (.iconst 0, 1) := by decide +kernel
theorem d_V_init_24 : decode b_V_init 24 = .ok (.putfield 21, 3) := by decide +kernel
theorem d_V_init_27 : decode b_V_init 27 = .ok (.aload_n 0, 1) := by decide +kernel
theorem d_V_init_28 : decode b_V_init 28 = .ok (.iconst 1, 1) := by decide +kernel
theorem d_V_init_29 : decode b_V_init 29 = .ok (.putfield 25, 3) := by decide +kernel
theorem d_V_init_32 : decode b_V_init 32 = .ok (.aload_n 0, 1) := by decide +kernel
theorem d_V_init_33 : decode b_V_init 33 = .ok (.iconst 0, 1) := by decide +kernel
theorem d_V_init_34 : decode b_V_init 34 = .ok (.putfield 28, 3) := by decide +kernel
theorem d_V_init_37 : decode b_V_init 37 = .ok (.aload_n 0, 1) := by decide +kernel
theorem d_V_init_38 : decode b_V_init 38 = .ok (.iconst 0, 1) := by decide +kernel
theorem d_V_init_39 : decode b_V_init 39 = .ok (.putfield 31, 3) := by decide +kernel
theorem d_V_init_42 : decode b_V_init 42 = .ok (.aload_n 0, 1) := by decide +kernel
theorem d_V_init_43 : decode b_V_init 43 = .ok (.iconst 0, 1) := by decide +kernel
theorem d_V_init_44 : decode b_V_init 44 = .ok (.putfield 34, 3) := by decide +kernel
theorem d_V_init_47 : decode b_V_init 47 = .ok (.aload_n 0, 1) := by decide +kernel
theorem d_V_init_48 : decode b_V_init 48 = .ok (.iconst 0, 1) := by decide +kernel
theorem d_V_init_49 : decode b_V_init 49 = .ok (.putfield 37, 3) := by decide +kernel
theorem d_V_init_52 : decode b_V_init 52 = .ok (.iconst 0, 1) := by decide +kernel
theorem d_V_init_53 : decode b_V_init 53 = .ok (.istore_n 1, 1) := by decide +kernel
theorem d_V_init_54 : decode b_V_init 54 = .ok (.iload_n 1, 1) := by decide +kernel
theorem d_V_init_55 : decode b_V_init 55 = .ok (.bipush 8, 2) := by decide +kernel
theorem d_V_init_57 : decode b_V_init 57 = .ok (.if_icmp .ge 22, 3) := by decide +kernel
theorem d_V_init_60 : decode b_V_init 60 = .ok (.aload_n 0, 1) := by decide +kernel
theorem d_V_init_61 : decode b_V_init 61 = .ok (.getfield 11, 3) := by decide +kernel
theorem d_V_init_64 : decode b_V_init 64 = .ok (.iload_n 1, 1) := by decide +kernel
theorem d_V_init_65 : decode b_V_init 65 = .ok (.new 9, 3) := by decide +kernel
theorem d_V_init_68 : decode b_V_init 68 = .ok (.dup, 1) := by decide +kernel
theorem d_V_init_69 : decode b_V_init 69 = .ok (.invokespecial 41, 3) := by decide +kernel
theorem d_V_init_72 : decode b_V_init 72 = .ok (.aastore, 1) := by decide +kernel
theorem d_V_init_73 : decode b_V_init 73 = .ok (.iinc 1 1, 3) := by decide +kernel
theorem d_V_init_76 : decode b_V_init 76 = .ok (.goto (-22), 3) := by decide +kernel
theorem d_V_init_79 : decode b_V_init 79 = .ok (.iconst 0, 1) := by decide +kernel
theorem d_V_init_80 : decode b_V_init 80 = .ok (.istore_n 1, 1) := by decide +kernel
theorem d_V_init_81 : decode b_V_init 81 = .ok (.iload_n 1, 1) := by decide +kernel
theorem d_V_init_82 : decode b_V_init 82 = .ok (.bipush 16, 2) := by decide +kernel
theorem d_V_init_84 : decode b_V_init 84 = .ok (.if_icmp .ge 22, 3) := by decide +kernel
theorem d_V_init_87 : decode b_V_init 87 = .ok (.aload_n 0, 1) := by decide +kernel
theorem d_V_init_88 : decode b_V_init 88 = .ok (.getfield 17, 3) := by decide +kernel
theorem d_V_init_91 : decode b_V_init 91 = .ok (.iload_n 1, 1) := by decide +kernel
theorem d_V_init_92 : decode b_V_init 92 = .ok (.new 15, 3) := by decide +kernel
theorem d_V_init_95 : decode b_V_init 95 = .ok (.dup, 1) := by decide +kernel
theorem d_V_init_96 : decode b_V_init 96 = .ok (.invokespecial 42, 3) := by decide +kernel
theorem d_V_init_99 : decode b_V_init 99 = .ok (.aastore, 1) := by decide +kernel
theorem d_V_init_100 : decode b_V_init 100 = .ok (.iinc 1 1, 3) := by decide +kernel
theorem d_V_init_103 : decode b_V_init 103 = .ok (.goto (-22), 3) := by decide +kernel
theorem d_V_init_106 : decode b_V_init 106 = .ok (.return_, 1) := by decide +kernel
-- BlockVault.<init>()V: labels [0, 54, 81], loops [54, 81]
abbrev rm_V_init : Room := { frames := 3, cells := 58, slots := 336, locals := 60 }
def cV_init_81 (X : Nat → xm_PT) (Rh : Option Value → xm_M → Prop) : xm_PT := (xo_iload 1 (xo_push (.int (nI 16)) (xo_icmp (fun x y => y ≤ x) (xo_vret Rh) (xo_aload 0 (xo_get 0 1 (xo_iload 1 (xo_new 4 3 [.null, .int 0, .int 0] (xo_dup (xo_callI 0 0 0 cp_E_init (xo_aast ats classes (xo_iinc 1 1 (xo_jmp [0, 1] (X 81)))))))))))))
def cV_init_54 (X : Nat → xm_PT) (Rh : Option Value → xm_M → Prop) : xm_PT := (xo_iload 1 (xo_push (.int (nI 8)) (xo_icmp (fun x y => y ≤ x) (xo_push (.int 0) (xo_istore 1 (xo_jmp [0, 1] (X 81)))) (xo_aload 0 (xo_get 0 0 (xo_iload 1 (xo_new 3 5 [.null, .null, .int 0, .int 0, .int 0] (xo_dup (xo_callI 0 4 28 cp_B_init (xo_aast ats classes (xo_iinc 1 1 (xo_jmp [0, 1] (X 54)))))))))))))
def cV_init_0 (X : Nat → xm_PT) (Rh : Option Value → xm_M → Prop) : xm_PT := (xo_aload 0 (xo_drop (xo_aload 0 (xo_push (.int (nI 8)) (xo_anew 0 (xo_put 0 0 (.array (.object "BlockVault$Block")) (xo_aload 0 (xo_push (.int (nI 16)) (xo_anew 1 (xo_put 0 1 (.array (.object "BlockVault$Entry")) (xo_aload 0 (xo_push (.int 0) (xo_put 0 2 .int (xo_aload 0 (xo_push (.int 1) (xo_put 0 3 .int (xo_aload 0 (xo_push (.int 0) (xo_put 0 4 .int (xo_aload 0 (xo_push (.int 0) (xo_put 0 5 .int (xo_aload 0 (xo_push (.int 0) (xo_put 0 6 .int (xo_aload 0 (xo_push (.int 0) (xo_put 0 7 .boolean (xo_push (.int 0) (xo_istore 1 (xo_jmp [0, 1] (X 54))))))))))))))))))))))))))))))))
def fV_init : xm_F := fun X Rh lb => if lb = 0 then cV_init_0 X Rh else (if lb = 54 then cV_init_54 X Rh else (if lb = 81 then cV_init_81 X Rh else fun _ _ _ _ _ => False))
def cp_V_init : xm_CP := fun as m Rh => (lg_sl as).length ≤ 2 ∧ xm_cp fV_init 58 336 as m Rh
theorem eV_init_0 {X : Nat → xm_PT} {Rh : Option Value → xm_M → Prop} (hX : ∀ lb, xm_le (fV_init X Rh lb) (X lb)) {ls : xm_L} {st : List Value} {m : xm_M} {bc bs : Nat} (h : cV_init_0 X Rh ls st m bc bs) : X 0 ls st m bc bs := hX 0 ls st m bc bs h
theorem eV_init_54 {X : Nat → xm_PT} {Rh : Option Value → xm_M → Prop} (hX : ∀ lb, xm_le (fV_init X Rh lb) (X lb)) {ls : xm_L} {st : List Value} {m : xm_M} {bc bs : Nat} (h : cV_init_54 X Rh ls st m bc bs) : X 54 ls st m bc bs := hX 54 ls st m bc bs h
theorem eV_init_81 {X : Nat → xm_PT} {Rh : Option Value → xm_M → Prop} (hX : ∀ lb, xm_le (fV_init X Rh lb) (X lb)) {ls : xm_L} {st : List Value} {m : xm_M} {bc bs : Nat} (h : cV_init_81 X Rh ls st m bc bs) : X 81 ls st m bc bs := hX 81 ls st m bc bs h
set_option maxRecDepth 20000 in
set_option maxHeartbeats 4000000 in
theorem sV_init_81 {p : Program} {l : Launch} {e : Env} {s : State} {mm : MethodId} {args : Array Value} {below : List Frame} {meth : Method} {c : Code} {D : va_G} {A : Nat → Prop} {Rh : Option Value → xm_M → Prop} (C : xm_C p s mm args c b_V_init 2 "BlockVault" w_V_init D classes ats A) (hr : meth.sig.returnType = none) (hlk : meth.locks = false) (hnm : meth.name = "<init>") : xm_le (cV_init_81 (xm_A p l e rm_V_init s mm args below meth c 2 D classes A (MQ below (xm_Q D classes Rh A) args s 58 336 A)) Rh) ((xm_A p l e rm_V_init s mm args below meth c 2 D classes A (MQ below (xm_Q D classes Rh A) args s 58 336 A)) 81) :=
  (xs_iload_n C d_V_init_81 rfl (xs_bipush C d_V_init_82 (by decide) (xs_icmp_ge C d_V_init_84 (by decide) (xs_vret C d_V_init_106 hr hlk rfl rfl) (xs_aload_n C d_V_init_87 rfl (xs_get C (k := 1) d_V_init_88 h_V (ci := 0) rfl (by decide) (List.mem_cons_of_mem _ tw_82) rfl (xs_iload_n C d_V_init_91 rfl (xs_new C d_V_init_92 h_E t_E t_E_ok (ci := 4) rfl (List.mem_cons_of_mem _ tw_19) (List.mem_cons_of_mem _ tw_63) (List.mem_cons_of_mem _ tw_4) (by decide +kernel) (xs_dup C d_V_init_95 (xs_callIN C d_V_init_96 (met_E_init l D) ⟨va_cnB (ws := w_E_init) (rm := rm_E_init) 0 C.1.2.2.2.2 (gG_m tw_66) rfl rfl rfl (C.2.2.2.1 ("BlockVault", 42, y_E_init, "BlockVault") (by decide +kernel)) (C.1.2.2.2.2 _ (List.mem_cons_of_mem _ tw_4)) ⟨by decide, by decide, by decide +kernel⟩ ⟨Nat.le_of_ble_eq_true rfl, Nat.le_of_ble_eq_true rfl⟩, rfl, (C.1.2.2.2.2 _ (List.mem_cons_of_mem _ tw_65))⟩ (xs_aast C d_V_init_99 (xs_iinc C d_V_init_100 (by decide) (by decide) (xs_goto C d_V_init_103 (by decide) (xs_jmp (fun _ _ _ _ _ h => h))))))))))))))
set_option maxRecDepth 20000 in
set_option maxHeartbeats 4000000 in
theorem sV_init_54 {p : Program} {l : Launch} {e : Env} {s : State} {mm : MethodId} {args : Array Value} {below : List Frame} {meth : Method} {c : Code} {D : va_G} {A : Nat → Prop} {Rh : Option Value → xm_M → Prop} (C : xm_C p s mm args c b_V_init 2 "BlockVault" w_V_init D classes ats A) (hr : meth.sig.returnType = none) (hlk : meth.locks = false) (hnm : meth.name = "<init>") : xm_le (cV_init_54 (xm_A p l e rm_V_init s mm args below meth c 2 D classes A (MQ below (xm_Q D classes Rh A) args s 58 336 A)) Rh) ((xm_A p l e rm_V_init s mm args below meth c 2 D classes A (MQ below (xm_Q D classes Rh A) args s 58 336 A)) 54) :=
  (xs_iload_n C d_V_init_54 rfl (xs_bipush C d_V_init_55 (by decide) (xs_icmp_ge C d_V_init_57 (by decide) (xs_iconst C d_V_init_79 (by decide) (xs_istore_n C d_V_init_80 rfl (by decide) (xs_jmp (fun _ _ _ _ _ h => h)))) (xs_aload_n C d_V_init_60 rfl (xs_get C (k := 0) d_V_init_61 h_V (ci := 0) rfl (by decide) (List.mem_cons_of_mem _ tw_81) rfl (xs_iload_n C d_V_init_64 rfl (xs_new C d_V_init_65 h_B t_B t_B_ok (ci := 3) rfl (List.mem_cons_of_mem _ tw_17) (List.mem_cons_of_mem _ tw_21) (List.mem_cons_of_mem _ tw_2) (by decide +kernel) (xs_dup C d_V_init_68 (xs_callIN C d_V_init_69 (met_B_init l D) ⟨va_cnB (ws := w_B_init) (rm := rm_B_init) 0 C.1.2.2.2.2 (gG_m tw_24) rfl rfl rfl (C.2.2.2.1 ("BlockVault", 41, y_B_init, "BlockVault") (by decide +kernel)) (C.1.2.2.2.2 _ (List.mem_cons_of_mem _ tw_2)) ⟨by decide, by decide, by decide +kernel⟩ ⟨Nat.le_of_ble_eq_true rfl, Nat.le_of_ble_eq_true rfl⟩, rfl, (C.1.2.2.2.2 _ (List.mem_cons_of_mem _ tw_23))⟩ (xs_aast C d_V_init_72 (xs_iinc C d_V_init_73 (by decide) (by decide) (xs_goto C d_V_init_76 (by decide) (xs_jmp (fun _ _ _ _ _ h => h))))))))))))))
set_option maxRecDepth 20000 in
set_option maxHeartbeats 4000000 in
theorem sV_init_0 {p : Program} {l : Launch} {e : Env} {s : State} {mm : MethodId} {args : Array Value} {below : List Frame} {meth : Method} {c : Code} {D : va_G} {A : Nat → Prop} {Rh : Option Value → xm_M → Prop} (C : xm_C p s mm args c b_V_init 2 "BlockVault" w_V_init D classes ats A) (hr : meth.sig.returnType = none) (hlk : meth.locks = false) (hnm : meth.name = "<init>") : xm_le (cV_init_0 (xm_A p l e rm_V_init s mm args below meth c 2 D classes A (MQ below (xm_Q D classes Rh A) args s 58 336 A)) Rh) ((xm_A p l e rm_V_init s mm args below meth c 2 D classes A (MQ below (xm_Q D classes Rh A) args s 58 336 A)) 0) :=
  (xs_aload_n C d_V_init_0 rfl (xs_obj C d_V_init_1 (List.mem_cons_of_mem _ tw_14) (List.mem_cons_of_mem _ tw_15) (List.mem_cons_of_mem _ tw_16) (by decide) (by decide) (xs_aload_n C d_V_init_4 rfl (xs_bipush C d_V_init_5 (by decide) (xs_anew C (t := 0) d_V_init_7 rfl (List.mem_cons_of_mem _ tw_17) (by decide +kernel) (xs_putF C (k := 0) d_V_init_10 h_V t_V t_V_ok n_V (ci := 0) rfl (by decide) (List.mem_cons_of_mem _ tw_81) rfl rfl hnm rfl (by decide +kernel) (xs_aload_n C d_V_init_13 rfl (xs_bipush C d_V_init_14 (by decide) (xs_anew C (t := 1) d_V_init_16 rfl (List.mem_cons_of_mem _ tw_19) (by decide +kernel) (xs_putF C (k := 1) d_V_init_19 h_V t_V t_V_ok n_V (ci := 0) rfl (by decide) (List.mem_cons_of_mem _ tw_82) rfl rfl hnm rfl (by decide +kernel) (xs_aload_n C d_V_init_22 rfl (xs_iconst C d_V_init_23 (by decide) (xs_put C (k := 2) d_V_init_24 h_V t_V t_V_ok n_V (ci := 0) rfl (by decide) (List.mem_cons_of_mem _ tw_83) rfl rfl (by decide +kernel) (xs_aload_n C d_V_init_27 rfl (xs_iconst C d_V_init_28 (by decide) (xs_put C (k := 3) d_V_init_29 h_V t_V t_V_ok n_V (ci := 0) rfl (by decide) (List.mem_cons_of_mem _ tw_84) rfl rfl (by decide +kernel) (xs_aload_n C d_V_init_32 rfl (xs_iconst C d_V_init_33 (by decide) (xs_put C (k := 4) d_V_init_34 h_V t_V t_V_ok n_V (ci := 0) rfl (by decide) (List.mem_cons_of_mem _ tw_85) rfl rfl (by decide +kernel) (xs_aload_n C d_V_init_37 rfl (xs_iconst C d_V_init_38 (by decide) (xs_put C (k := 5) d_V_init_39 h_V t_V t_V_ok n_V (ci := 0) rfl (by decide) (List.mem_cons_of_mem _ tw_86) rfl rfl (by decide +kernel) (xs_aload_n C d_V_init_42 rfl (xs_iconst C d_V_init_43 (by decide) (xs_put C (k := 6) d_V_init_44 h_V t_V t_V_ok n_V (ci := 0) rfl (by decide) (List.mem_cons_of_mem _ tw_87) rfl rfl (by decide +kernel) (xs_aload_n C d_V_init_47 rfl (xs_iconst C d_V_init_48 (by decide) (xs_put C (k := 7) d_V_init_49 h_V t_V t_V_ok n_V (ci := 0) rfl (by decide) (List.mem_cons_of_mem _ tw_88) rfl rfl (by decide +kernel) (xs_iconst C d_V_init_52 (by decide) (xs_istore_n C d_V_init_53 rfl (by decide) (xs_jmp (fun _ _ _ _ _ h => h))))))))))))))))))))))))))))))))
theorem met_V_init (l : Launch) (D : va_G) : xm_Met l D classes ats y_V_init w_V_init rm_V_init 58 336 cp_V_init := by
  refine xm_met 0 (by decide) rfl rfl rfl (fun p e s mm args below meth c A Rh C hr hlk hnm lb => ?_)
  unfold fV_init
  split
  · rename_i h; subst h; exact sV_init_0 C hr hlk hnm
  split
  · rename_i h; subst h; exact sV_init_54 C hr hlk hnm
  split
  · rename_i h; subst h; exact sV_init_81 C hr hlk hnm
  · exact fun _ _ _ _ _ h => h.elim
theorem d_V_isKey_0 : decode b_V_isKey 0 = .ok (.iload_n 0, 1) := by decide +kernel
theorem d_V_isKey_1 : decode b_V_isKey 1 = .ok (.ifCond .lt 13, 3) := by decide +kernel
theorem d_V_isKey_4 : decode b_V_isKey 4 = .ok (.iload_n 0, 1) := by decide +kernel
theorem d_V_isKey_5 : decode b_V_isKey 5 = .ok (.bipush 16, 2) := by decide +kernel
theorem d_V_isKey_7 : decode b_V_isKey 7 = .ok (.if_icmp .ge 7, 3) := by decide +kernel
theorem d_V_isKey_10 : decode b_V_isKey 10 = .ok (.iconst 1, 1) := by decide +kernel
theorem d_V_isKey_11 : decode b_V_isKey 11 = .ok (.goto 4, 3) := by decide +kernel
theorem d_V_isKey_14 : decode b_V_isKey 14 = .ok (.iconst 0, 1) := by decide +kernel
theorem d_V_isKey_15 : decode b_V_isKey 15 = .ok (.ireturn, 1) := by decide +kernel
-- BlockVault.isKey(I)Z: labels [0], loops []
abbrev rm_V_isKey : Room := { frames := 0, cells := 0, slots := 0, locals := 0 }
def cV_isKey_0 (X : Nat → xm_PT) (Rh : Option Value → xm_M → Prop) : xm_PT := (xo_iload 0 (xo_if (fun x => x < 0) (xo_push (.int 0) (xo_zret Rh)) (xo_iload 0 (xo_push (.int (nI 16)) (xo_icmp (fun x y => y ≤ x) (xo_push (.int 0) (xo_zret Rh)) (xo_push (.int 1) (xo_zret Rh)))))))
def fV_isKey : xm_F := fun X Rh lb => if lb = 0 then cV_isKey_0 X Rh else fun _ _ _ _ _ => False
def cp_V_isKey : xm_CP := fun as m Rh => (lg_sl as).length ≤ 1 ∧ xm_cp fV_isKey 0 0 as m Rh
theorem eV_isKey_0 {X : Nat → xm_PT} {Rh : Option Value → xm_M → Prop} (hX : ∀ lb, xm_le (fV_isKey X Rh lb) (X lb)) {ls : xm_L} {st : List Value} {m : xm_M} {bc bs : Nat} (h : cV_isKey_0 X Rh ls st m bc bs) : X 0 ls st m bc bs := hX 0 ls st m bc bs h
set_option maxRecDepth 20000 in
set_option maxHeartbeats 4000000 in
theorem sV_isKey_0 {p : Program} {l : Launch} {e : Env} {s : State} {mm : MethodId} {args : Array Value} {below : List Frame} {meth : Method} {c : Code} {D : va_G} {A : Nat → Prop} {Rh : Option Value → xm_M → Prop} (C : xm_C p s mm args c b_V_isKey 1 "BlockVault" w_V_isKey D classes ats A) (hr : meth.sig.returnType = (some .boolean)) (hlk : meth.locks = false) (hnm : meth.name = "isKey") : xm_le (cV_isKey_0 (xm_A p l e rm_V_isKey s mm args below meth c 1 D classes A (MQ below (xm_Q D classes Rh A) args s 0 0 A)) Rh) ((xm_A p l e rm_V_isKey s mm args below meth c 1 D classes A (MQ below (xm_Q D classes Rh A) args s 0 0 A)) 0) :=
  (xs_iload_n C d_V_isKey_0 rfl (xs_if_lt C d_V_isKey_1 (by decide) (xs_iconst C d_V_isKey_14 (by decide) (xs_zret C d_V_isKey_15 hr hlk rfl rfl)) (xs_iload_n C d_V_isKey_4 rfl (xs_bipush C d_V_isKey_5 (by decide) (xs_icmp_ge C d_V_isKey_7 (by decide) (xs_iconst C d_V_isKey_14 (by decide) (xs_zret C d_V_isKey_15 hr hlk rfl rfl)) (xs_iconst C d_V_isKey_10 (by decide) (xs_goto C d_V_isKey_11 (by decide) (xs_zret C d_V_isKey_15 hr hlk rfl rfl))))))))
theorem met_V_isKey (l : Launch) (D : va_G) : xm_Met l D classes ats y_V_isKey w_V_isKey rm_V_isKey 0 0 cp_V_isKey := by
  refine xm_met 0 (by decide) rfl rfl rfl (fun p e s mm args below meth c A Rh C hr hlk hnm lb => ?_)
  unfold fV_isKey
  split
  · rename_i h; subst h; exact sV_isKey_0 C hr hlk hnm
  · exact fun _ _ _ _ _ h => h.elim
theorem d_V_isLife_0 : decode b_V_isLife 0 = .ok (.iload_n 0, 1) := by decide +kernel
theorem d_V_isLife_1 : decode b_V_isLife 1 = .ok (.ifCond .lt 14, 3) := by decide +kernel
theorem d_V_isLife_4 : decode b_V_isLife 4 = .ok (.iload_n 0, 1) := by decide +kernel
theorem d_V_isLife_5 : decode b_V_isLife 5 = .ok (.sipush 1000, 3) := by decide +kernel
theorem d_V_isLife_8 : decode b_V_isLife 8 = .ok (.if_icmp .gt 7, 3) := by decide +kernel
theorem d_V_isLife_11 : decode b_V_isLife 11 = .ok (.iconst 1, 1) := by decide +kernel
theorem d_V_isLife_12 : decode b_V_isLife 12 = .ok (.goto 4, 3) := by decide +kernel
theorem d_V_isLife_15 : decode b_V_isLife 15 = .ok (.iconst 0, 1) := by decide +kernel
theorem d_V_isLife_16 : decode b_V_isLife 16 = .ok (.ireturn, 1) := by decide +kernel
-- BlockVault.isLife(I)Z: labels [0], loops []
abbrev rm_V_isLife : Room := { frames := 0, cells := 0, slots := 0, locals := 0 }
def cV_isLife_0 (X : Nat → xm_PT) (Rh : Option Value → xm_M → Prop) : xm_PT := (xo_iload 0 (xo_if (fun x => x < 0) (xo_push (.int 0) (xo_zret Rh)) (xo_iload 0 (xo_push (.int (nI 1000)) (xo_icmp (fun x y => y < x) (xo_push (.int 0) (xo_zret Rh)) (xo_push (.int 1) (xo_zret Rh)))))))
def fV_isLife : xm_F := fun X Rh lb => if lb = 0 then cV_isLife_0 X Rh else fun _ _ _ _ _ => False
def cp_V_isLife : xm_CP := fun as m Rh => (lg_sl as).length ≤ 1 ∧ xm_cp fV_isLife 0 0 as m Rh
theorem eV_isLife_0 {X : Nat → xm_PT} {Rh : Option Value → xm_M → Prop} (hX : ∀ lb, xm_le (fV_isLife X Rh lb) (X lb)) {ls : xm_L} {st : List Value} {m : xm_M} {bc bs : Nat} (h : cV_isLife_0 X Rh ls st m bc bs) : X 0 ls st m bc bs := hX 0 ls st m bc bs h
set_option maxRecDepth 20000 in
set_option maxHeartbeats 4000000 in
theorem sV_isLife_0 {p : Program} {l : Launch} {e : Env} {s : State} {mm : MethodId} {args : Array Value} {below : List Frame} {meth : Method} {c : Code} {D : va_G} {A : Nat → Prop} {Rh : Option Value → xm_M → Prop} (C : xm_C p s mm args c b_V_isLife 1 "BlockVault" w_V_isLife D classes ats A) (hr : meth.sig.returnType = (some .boolean)) (hlk : meth.locks = false) (hnm : meth.name = "isLife") : xm_le (cV_isLife_0 (xm_A p l e rm_V_isLife s mm args below meth c 1 D classes A (MQ below (xm_Q D classes Rh A) args s 0 0 A)) Rh) ((xm_A p l e rm_V_isLife s mm args below meth c 1 D classes A (MQ below (xm_Q D classes Rh A) args s 0 0 A)) 0) :=
  (xs_iload_n C d_V_isLife_0 rfl (xs_if_lt C d_V_isLife_1 (by decide) (xs_iconst C d_V_isLife_15 (by decide) (xs_zret C d_V_isLife_16 hr hlk rfl rfl)) (xs_iload_n C d_V_isLife_4 rfl (xs_sipush C d_V_isLife_5 (by decide) (xs_icmp_gt C d_V_isLife_8 (by decide) (xs_iconst C d_V_isLife_15 (by decide) (xs_zret C d_V_isLife_16 hr hlk rfl rfl)) (xs_iconst C d_V_isLife_11 (by decide) (xs_goto C d_V_isLife_12 (by decide) (xs_zret C d_V_isLife_16 hr hlk rfl rfl))))))))
theorem met_V_isLife (l : Launch) (D : va_G) : xm_Met l D classes ats y_V_isLife w_V_isLife rm_V_isLife 0 0 cp_V_isLife := by
  refine xm_met 0 (by decide) rfl rfl rfl (fun p e s mm args below meth c A Rh C hr hlk hnm lb => ?_)
  unfold fV_isLife
  split
  · rename_i h; subst h; exact sV_isLife_0 C hr hlk hnm
  · exact fun _ _ _ _ _ h => h.elim
theorem d_C_isExpired_0 : decode b_C_isExpired 0 = .ok (.aload_n 0, 1) := by decide +kernel
theorem d_C_isExpired_1 : decode b_C_isExpired 1 = .ok (.getfield 22, 3) := by decide +kernel
theorem d_C_isExpired_4 : decode b_C_isExpired 4 = .ok (.ifCond .eq 15, 3) := by decide +kernel
theorem d_C_isExpired_7 : decode b_C_isExpired 7 = .ok (.aload_n 0, 1) := by decide +kernel
theorem d_C_isExpired_8 : decode b_C_isExpired 8 = .ok (.getfield 22, 3) := by decide +kernel
theorem d_C_isExpired_11 : decode b_C_isExpired 11 = .ok (.iload_n 1, 1) := by decide +kernel
theorem d_C_isExpired_12 : decode b_C_isExpired 12 = .ok (.if_icmp .gt 7, 3) := by decide +kernel
theorem d_C_isExpired_15 : decode b_C_isExpired 15 = .ok (.iconst 1, 1) := by decide +kernel
theorem d_C_isExpired_16 : decode b_C_isExpired 16 = .ok (.goto 4, 3) := by decide +kernel
theorem d_C_isExpired_19 : decode b_C_isExpired 19 = .ok (.iconst 0, 1) := by decide +kernel
theorem d_C_isExpired_20 : decode b_C_isExpired 20 = .ok (.ireturn, 1) := by decide +kernel
-- BlockVault$Copy.isExpired(I)Z: labels [0], loops []
abbrev rm_C_isExpired : Room := { frames := 0, cells := 0, slots := 0, locals := 0 }
def cC_isExpired_0 (X : Nat → xm_PT) (Rh : Option Value → xm_M → Prop) : xm_PT := (xo_aload 0 (xo_get 1 4 (xo_if (fun x => x = 0) (xo_push (.int 0) (xo_zret Rh)) (xo_aload 0 (xo_get 1 4 (xo_iload 1 (xo_icmp (fun x y => y < x) (xo_push (.int 0) (xo_zret Rh)) (xo_push (.int 1) (xo_zret Rh)))))))))
def fC_isExpired : xm_F := fun X Rh lb => if lb = 0 then cC_isExpired_0 X Rh else fun _ _ _ _ _ => False
def cp_C_isExpired : xm_CP := fun as m Rh => (lg_sl as).length ≤ 2 ∧ xm_cp fC_isExpired 0 0 as m Rh
theorem eC_isExpired_0 {X : Nat → xm_PT} {Rh : Option Value → xm_M → Prop} (hX : ∀ lb, xm_le (fC_isExpired X Rh lb) (X lb)) {ls : xm_L} {st : List Value} {m : xm_M} {bc bs : Nat} (h : cC_isExpired_0 X Rh ls st m bc bs) : X 0 ls st m bc bs := hX 0 ls st m bc bs h
set_option maxRecDepth 20000 in
set_option maxHeartbeats 4000000 in
theorem sC_isExpired_0 {p : Program} {l : Launch} {e : Env} {s : State} {mm : MethodId} {args : Array Value} {below : List Frame} {meth : Method} {c : Code} {D : va_G} {A : Nat → Prop} {Rh : Option Value → xm_M → Prop} (C : xm_C p s mm args c b_C_isExpired 2 "BlockVault$Copy" w_C_isExpired D classes ats A) (hr : meth.sig.returnType = (some .boolean)) (hlk : meth.locks = false) (hnm : meth.name = "isExpired") : xm_le (cC_isExpired_0 (xm_A p l e rm_C_isExpired s mm args below meth c 2 D classes A (MQ below (xm_Q D classes Rh A) args s 0 0 A)) Rh) ((xm_A p l e rm_C_isExpired s mm args below meth c 2 D classes A (MQ below (xm_Q D classes Rh A) args s 0 0 A)) 0) :=
  (xs_aload_n C d_C_isExpired_0 rfl (xs_get C (k := 4) d_C_isExpired_1 h_C (ci := 1) rfl (by decide) (List.mem_cons_of_mem _ tw_148) rfl (xs_if_eq C d_C_isExpired_4 (by decide) (xs_iconst C d_C_isExpired_19 (by decide) (xs_zret C d_C_isExpired_20 hr hlk rfl rfl)) (xs_aload_n C d_C_isExpired_7 rfl (xs_get C (k := 4) d_C_isExpired_8 h_C (ci := 1) rfl (by decide) (List.mem_cons_of_mem _ tw_148) rfl (xs_iload_n C d_C_isExpired_11 rfl (xs_icmp_gt C d_C_isExpired_12 (by decide) (xs_iconst C d_C_isExpired_19 (by decide) (xs_zret C d_C_isExpired_20 hr hlk rfl rfl)) (xs_iconst C d_C_isExpired_15 (by decide) (xs_goto C d_C_isExpired_16 (by decide) (xs_zret C d_C_isExpired_20 hr hlk rfl rfl))))))))))
theorem met_C_isExpired (l : Launch) (D : va_G) : xm_Met l D classes ats y_C_isExpired w_C_isExpired rm_C_isExpired 0 0 cp_C_isExpired := by
  refine xm_met 0 (by decide) rfl rfl rfl (fun p e s mm args below meth c A Rh C hr hlk hnm lb => ?_)
  unfold fC_isExpired
  split
  · rename_i h; subst h; exact sC_isExpired_0 C hr hlk hnm
  · exact fun _ _ _ _ _ h => h.elim
theorem d_V_isThere_0 : decode b_V_isThere 0 = .ok (.aload_n 0, 1) := by decide +kernel
theorem d_V_isThere_1 : decode b_V_isThere 1 = .ok (.getfield 17, 3) := by decide +kernel
theorem d_V_isThere_4 : decode b_V_isThere 4 = .ok (.iload_n 1, 1) := by decide +kernel
theorem d_V_isThere_5 : decode b_V_isThere 5 = .ok (.aaload, 1) := by decide +kernel
theorem d_V_isThere_6 : decode b_V_isThere 6 = .ok (.getfield 63, 3) := by decide +kernel
theorem d_V_isThere_9 : decode b_V_isThere 9 = .ok (.astore_n 2, 1) := by decide +kernel
theorem d_V_isThere_10 : decode b_V_isThere 10 = .ok (.aload_n 2, 1) := by decide +kernel
theorem d_V_isThere_11 : decode b_V_isThere 11 = .ok (.ifnull 25, 3) := by decide +kernel
theorem d_V_isThere_14 : decode b_V_isThere 14 = .ok (.aload_n 2, 1) := by decide +kernel
theorem d_V_isThere_15 : decode b_V_isThere 15 = .ok (.getfield 145, 3) := by decide +kernel
theorem d_V_isThere_18 : decode b_V_isThere 18 = .ok (.ifCond .ne 18, 3) := by decide +kernel
theorem d_V_isThere_21 : decode b_V_isThere 21 = .ok (.aload_n 2, 1) := by decide +kernel
theorem d_V_isThere_22 : decode b_V_isThere 22 = .ok (.aload_n 0, 1) := by decide +kernel
theorem d_V_isThere_23 : decode b_V_isThere 23 = .ok (.getfield 21, 3) := by decide +kernel
theorem d_V_isThere_26 : decode b_V_isThere 26 = .ok (.invokevirtual 193, 3) := by decide +kernel
theorem d_V_isThere_29 : decode b_V_isThere 29 = .ok (.ifCond .ne 7, 3) := by decide +kernel
theorem d_V_isThere_32 : decode b_V_isThere 32 = .ok (.iconst 1, 1) := by decide +kernel
theorem d_V_isThere_33 : decode b_V_isThere 33 = .ok (.goto 4, 3) := by decide +kernel
theorem d_V_isThere_36 : decode b_V_isThere 36 = .ok (.iconst 0, 1) := by decide +kernel
theorem d_V_isThere_37 : decode b_V_isThere 37 = .ok (.ireturn, 1) := by decide +kernel
-- BlockVault.isThere(I)Z: labels [0], loops []
abbrev rm_V_isThere : Room := { frames := 1, cells := 0, slots := 0, locals := 21 }
def cV_isThere_0 (X : Nat → xm_PT) (Rh : Option Value → xm_M → Prop) : xm_PT := (xo_aload 0 (xo_get 0 1 (xo_iload 1 (xo_aald ats (xo_get 4 0 (xo_astore 2 (xo_aload 2 (xo_null (xo_push (.int 0) (xo_zret Rh)) (xo_aload 2 (xo_get 1 6 (xo_if (fun x => x = 0) (xo_aload 2 (xo_aload 0 (xo_get 0 2 (xo_callV 1 1 0 0 cp_C_isExpired (xo_if (fun x => x = 0) (xo_push (.int 1) (xo_zret Rh)) (xo_push (.int 0) (xo_zret Rh))))))) (xo_push (.int 0) (xo_zret Rh)))))))))))))
def fV_isThere : xm_F := fun X Rh lb => if lb = 0 then cV_isThere_0 X Rh else fun _ _ _ _ _ => False
def cp_V_isThere : xm_CP := fun as m Rh => (lg_sl as).length ≤ 3 ∧ xm_cp fV_isThere 0 0 as m Rh
theorem eV_isThere_0 {X : Nat → xm_PT} {Rh : Option Value → xm_M → Prop} (hX : ∀ lb, xm_le (fV_isThere X Rh lb) (X lb)) {ls : xm_L} {st : List Value} {m : xm_M} {bc bs : Nat} (h : cV_isThere_0 X Rh ls st m bc bs) : X 0 ls st m bc bs := hX 0 ls st m bc bs h
set_option maxRecDepth 20000 in
set_option maxHeartbeats 4000000 in
theorem sV_isThere_0 {p : Program} {l : Launch} {e : Env} {s : State} {mm : MethodId} {args : Array Value} {below : List Frame} {meth : Method} {c : Code} {D : va_G} {A : Nat → Prop} {Rh : Option Value → xm_M → Prop} (C : xm_C p s mm args c b_V_isThere 3 "BlockVault" w_V_isThere D classes ats A) (hr : meth.sig.returnType = (some .boolean)) (hlk : meth.locks = false) (hnm : meth.name = "isThere") : xm_le (cV_isThere_0 (xm_A p l e rm_V_isThere s mm args below meth c 3 D classes A (MQ below (xm_Q D classes Rh A) args s 0 0 A)) Rh) ((xm_A p l e rm_V_isThere s mm args below meth c 3 D classes A (MQ below (xm_Q D classes Rh A) args s 0 0 A)) 0) :=
  (xs_aload_n C d_V_isThere_0 rfl (xs_get C (k := 1) d_V_isThere_1 h_V (ci := 0) rfl (by decide) (List.mem_cons_of_mem _ tw_82) rfl (xs_iload_n C d_V_isThere_4 rfl (xs_aald C d_V_isThere_5 (xs_get C (k := 0) d_V_isThere_6 h_E (ci := 4) rfl (by decide) (List.mem_cons_of_mem _ tw_69) rfl (xs_astore_n C d_V_isThere_9 rfl (by decide) (xs_aload_n C d_V_isThere_10 rfl (xs_ifnull C d_V_isThere_11 (by decide) (xs_iconst C d_V_isThere_36 (by decide) (xs_zret C d_V_isThere_37 hr hlk rfl rfl)) (xs_aload_n C d_V_isThere_14 rfl (xs_get C (k := 6) d_V_isThere_15 h_C (ci := 1) rfl (by decide) (List.mem_cons_of_mem _ tw_154) rfl (xs_if_ne C d_V_isThere_18 (by decide) (xs_aload_n C d_V_isThere_21 rfl (xs_aload_n C d_V_isThere_22 rfl (xs_get C (k := 2) d_V_isThere_23 h_V (ci := 0) rfl (by decide) (List.mem_cons_of_mem _ tw_83) rfl (xs_callV C (CN := "BlockVault$Copy") (T := F_C) (N := 7) d_V_isThere_26 (met_C_isExpired l D) ⟨callB_of (ws := w_C_isExpired) (rm := rm_C_isExpired) 1 C.1.2.2.2.2 (gG_m tw_127) rfl rfl rfl (C.1.2.2.2.2 _ (List.mem_cons_of_mem _ tw_6)) (C.1.2.2.2.2 _ (List.mem_cons_of_mem _ tw_124)) ⟨by decide, by decide, by decide +kernel⟩ ⟨Nat.le_of_ble_eq_true rfl, Nat.le_of_ble_eq_true rfl⟩, (C.1.2.2.2.2 _ (List.mem_cons_of_mem _ tw_125)), (C.1.2.2.2.2 _ (List.mem_cons_of_mem _ tw_126))⟩ (ci := 1) rfl (xs_if_ne C d_V_isThere_29 (by decide) (xs_iconst C d_V_isThere_32 (by decide) (xs_goto C d_V_isThere_33 (by decide) (xs_zret C d_V_isThere_37 hr hlk rfl rfl))) (xs_iconst C d_V_isThere_36 (by decide) (xs_zret C d_V_isThere_37 hr hlk rfl rfl))))))) (xs_iconst C d_V_isThere_36 (by decide) (xs_zret C d_V_isThere_37 hr hlk rfl rfl)))))))))))))
theorem met_V_isThere (l : Launch) (D : va_G) : xm_Met l D classes ats y_V_isThere w_V_isThere rm_V_isThere 0 0 cp_V_isThere := by
  refine xm_met 0 (by decide) rfl rfl rfl (fun p e s mm args below meth c A Rh C hr hlk hnm lb => ?_)
  unfold fV_isThere
  split
  · rename_i h; subst h; exact sV_isThere_0 C hr hlk hnm
  · exact fun _ _ _ _ _ h => h.elim
theorem d_V_ruleHolds_0 : decode b_V_ruleHolds 0 = .ok (.aload_n 0, 1) := by decide +kernel
theorem d_V_ruleHolds_1 : decode b_V_ruleHolds 1 = .ok (.iload_n 1, 1) := by decide +kernel
theorem d_V_ruleHolds_2 : decode b_V_ruleHolds 2 = .ok (.invokevirtual 58, 3) := by decide +kernel
theorem d_V_ruleHolds_5 : decode b_V_ruleHolds 5 = .ok (.istore_n 3, 1) := by decide +kernel
theorem d_V_ruleHolds_6 : decode b_V_ruleHolds 6 = .ok (.iload_n 2, 1) := by decide +kernel
theorem d_V_ruleHolds_7 : decode b_V_ruleHolds 7 = .ok (.tableswitch 39 (-3) (-1) #[37, 27, 25], 25) := by decide +kernel
theorem d_V_ruleHolds_32 : decode b_V_ruleHolds 32 = .ok (.iconst 1, 1) := by decide +kernel
theorem d_V_ruleHolds_33 : decode b_V_ruleHolds 33 = .ok (.ireturn, 1) := by decide +kernel
theorem d_V_ruleHolds_34 : decode b_V_ruleHolds 34 = .ok (.iload_n 3, 1) := by decide +kernel
theorem d_V_ruleHolds_35 : decode b_V_ruleHolds 35 = .ok (.ifCond .ne 7, 3) := by decide +kernel
theorem d_V_ruleHolds_38 : decode b_V_ruleHolds 38 = .ok (.iconst 1, 1) := by decide +kernel
theorem d_V_ruleHolds_39 : decode b_V_ruleHolds 39 = .ok (.goto 4, 3) := by decide +kernel
theorem d_V_ruleHolds_42 : decode b_V_ruleHolds 42 = .ok (.iconst 0, 1) := by decide +kernel
theorem d_V_ruleHolds_43 : decode b_V_ruleHolds 43 = .ok (.ireturn, 1) := by decide +kernel
theorem d_V_ruleHolds_44 : decode b_V_ruleHolds 44 = .ok (.iload_n 3, 1) := by decide +kernel
theorem d_V_ruleHolds_45 : decode b_V_ruleHolds 45 = .ok (.ireturn, 1) := by decide +kernel
theorem d_V_ruleHolds_46 : decode b_V_ruleHolds 46 = .ok (.iload_n 3, 1) := by decide +kernel
theorem d_V_ruleHolds_47 : decode b_V_ruleHolds 47 = .ok (.ifCond .eq 23, 3) := by decide +kernel
theorem d_V_ruleHolds_50 : decode b_V_ruleHolds 50 = .ok (.aload_n 0, 1) := by decide +kernel
theorem d_V_ruleHolds_51 : decode b_V_ruleHolds 51 = .ok (.getfield 17, 3) := by decide +kernel
theorem d_V_ruleHolds_54 : decode b_V_ruleHolds 54 = .ok (.iload_n 1, 1) := by decide +kernel
theorem d_V_ruleHolds_55 : decode b_V_ruleHolds 55 = .ok (.aaload, 1) := by decide +kernel
theorem d_V_ruleHolds_56 : decode b_V_ruleHolds 56 = .ok (.getfield 63, 3) := by decide +kernel
theorem d_V_ruleHolds_59 : decode b_V_ruleHolds 59 = .ok (.getfield 148, 3) := by decide +kernel
theorem d_V_ruleHolds_62 : decode b_V_ruleHolds 62 = .ok (.iload_n 2, 1) := by decide +kernel
theorem d_V_ruleHolds_63 : decode b_V_ruleHolds 63 = .ok (.if_icmp .ne 7, 3) := by decide +kernel
theorem d_V_ruleHolds_66 : decode b_V_ruleHolds 66 = .ok (.iconst 1, 1) := by decide +kernel
theorem d_V_ruleHolds_67 : decode b_V_ruleHolds 67 = .ok (.goto 4, 3) := by decide +kernel
theorem d_V_ruleHolds_70 : decode b_V_ruleHolds 70 = .ok (.iconst 0, 1) := by decide +kernel
theorem d_V_ruleHolds_71 : decode b_V_ruleHolds 71 = .ok (.ireturn, 1) := by decide +kernel
-- BlockVault.ruleHolds(II)Z: labels [0], loops []
abbrev rm_V_ruleHolds : Room := { frames := 2, cells := 0, slots := 0, locals := 43 }
def cV_ruleHolds_0 (X : Nat → xm_PT) (Rh : Option Value → xm_M → Prop) : xm_PT := (xo_aload 0 (xo_iload 1 (xo_callV 0 1 0 0 cp_V_isThere (xo_istore 3 (xo_iload 2 (xo_tsw (-3) [(xo_iload 3 (xo_zret Rh)), (xo_iload 3 (xo_if (fun x => x = 0) (xo_push (.int 1) (xo_zret Rh)) (xo_push (.int 0) (xo_zret Rh)))), (xo_push (.int 1) (xo_zret Rh))] (xo_iload 3 (xo_if (fun x => x = 0) (xo_push (.int 0) (xo_zret Rh)) (xo_aload 0 (xo_get 0 1 (xo_iload 1 (xo_aald ats (xo_get 4 0 (xo_get 1 3 (xo_iload 2 (xo_icmp (fun x y => x = y) (xo_push (.int 1) (xo_zret Rh)) (xo_push (.int 0) (xo_zret Rh))))))))))))))))))
def fV_ruleHolds : xm_F := fun X Rh lb => if lb = 0 then cV_ruleHolds_0 X Rh else fun _ _ _ _ _ => False
def cp_V_ruleHolds : xm_CP := fun as m Rh => (lg_sl as).length ≤ 4 ∧ xm_cp fV_ruleHolds 0 0 as m Rh
theorem eV_ruleHolds_0 {X : Nat → xm_PT} {Rh : Option Value → xm_M → Prop} (hX : ∀ lb, xm_le (fV_ruleHolds X Rh lb) (X lb)) {ls : xm_L} {st : List Value} {m : xm_M} {bc bs : Nat} (h : cV_ruleHolds_0 X Rh ls st m bc bs) : X 0 ls st m bc bs := hX 0 ls st m bc bs h
set_option maxRecDepth 20000 in
set_option maxHeartbeats 4000000 in
theorem sV_ruleHolds_0 {p : Program} {l : Launch} {e : Env} {s : State} {mm : MethodId} {args : Array Value} {below : List Frame} {meth : Method} {c : Code} {D : va_G} {A : Nat → Prop} {Rh : Option Value → xm_M → Prop} (C : xm_C p s mm args c b_V_ruleHolds 4 "BlockVault" w_V_ruleHolds D classes ats A) (hr : meth.sig.returnType = (some .boolean)) (hlk : meth.locks = false) (hnm : meth.name = "ruleHolds") : xm_le (cV_ruleHolds_0 (xm_A p l e rm_V_ruleHolds s mm args below meth c 4 D classes A (MQ below (xm_Q D classes Rh A) args s 0 0 A)) Rh) ((xm_A p l e rm_V_ruleHolds s mm args below meth c 4 D classes A (MQ below (xm_Q D classes Rh A) args s 0 0 A)) 0) :=
  (xs_aload_n C d_V_ruleHolds_0 rfl (xs_iload_n C d_V_ruleHolds_1 rfl (xs_callV C (CN := "BlockVault") (T := F_V) (N := 8) d_V_ruleHolds_2 (met_V_isThere l D) ⟨callB_of (ws := w_V_isThere) (rm := rm_V_isThere) 1 C.1.2.2.2.2 (gG_m tw_123) rfl rfl rfl (C.1.2.2.2.2 _ (List.mem_cons_of_mem _ tw_1)) (C.1.2.2.2.2 _ (List.mem_cons_of_mem _ tw_120)) ⟨by decide, by decide, by decide +kernel⟩ ⟨Nat.le_of_ble_eq_true rfl, Nat.le_of_ble_eq_true rfl⟩, (C.1.2.2.2.2 _ (List.mem_cons_of_mem _ tw_122)), (C.1.2.2.2.2 _ (List.mem_cons_of_mem _ ts_1))⟩ (ci := 0) rfl (xs_istore_n C d_V_ruleHolds_5 rfl (by decide) (xs_iload_n C d_V_ruleHolds_6 rfl (xs_tsw C d_V_ruleHolds_7 rfl ⟨⟨44, by decide, (xs_iload_n C d_V_ruleHolds_44 rfl (xs_zret C d_V_ruleHolds_45 hr hlk rfl rfl))⟩, ⟨⟨34, by decide, (xs_iload_n C d_V_ruleHolds_34 rfl (xs_if_ne C d_V_ruleHolds_35 (by decide) (xs_iconst C d_V_ruleHolds_38 (by decide) (xs_goto C d_V_ruleHolds_39 (by decide) (xs_zret C d_V_ruleHolds_43 hr hlk rfl rfl))) (xs_iconst C d_V_ruleHolds_42 (by decide) (xs_zret C d_V_ruleHolds_43 hr hlk rfl rfl))))⟩, ⟨⟨32, by decide, (xs_iconst C d_V_ruleHolds_32 (by decide) (xs_zret C d_V_ruleHolds_33 hr hlk rfl rfl))⟩, trivial⟩⟩⟩ (tgd := 46) (by decide) (xs_iload_n C d_V_ruleHolds_46 rfl (xs_if_eq C d_V_ruleHolds_47 (by decide) (xs_iconst C d_V_ruleHolds_70 (by decide) (xs_zret C d_V_ruleHolds_71 hr hlk rfl rfl)) (xs_aload_n C d_V_ruleHolds_50 rfl (xs_get C (k := 1) d_V_ruleHolds_51 h_V (ci := 0) rfl (by decide) (List.mem_cons_of_mem _ tw_82) rfl (xs_iload_n C d_V_ruleHolds_54 rfl (xs_aald C d_V_ruleHolds_55 (xs_get C (k := 0) d_V_ruleHolds_56 h_E (ci := 4) rfl (by decide) (List.mem_cons_of_mem _ tw_69) rfl (xs_get C (k := 3) d_V_ruleHolds_59 h_C (ci := 1) rfl (by decide) (List.mem_cons_of_mem _ tw_147) rfl (xs_iload_n C d_V_ruleHolds_62 rfl (xs_icmp_ne C d_V_ruleHolds_63 (by decide) (xs_iconst C d_V_ruleHolds_66 (by decide) (xs_goto C d_V_ruleHolds_67 (by decide) (xs_zret C d_V_ruleHolds_71 hr hlk rfl rfl))) (xs_iconst C d_V_ruleHolds_70 (by decide) (xs_zret C d_V_ruleHolds_71 hr hlk rfl rfl))))))))))))))))))
theorem met_V_ruleHolds (l : Launch) (D : va_G) : xm_Met l D classes ats y_V_ruleHolds w_V_ruleHolds rm_V_ruleHolds 0 0 cp_V_ruleHolds := by
  refine xm_met 0 (by decide) rfl rfl rfl (fun p e s mm args below meth c A Rh C hr hlk hnm lb => ?_)
  unfold fV_ruleHolds
  split
  · rename_i h; subst h; exact sV_ruleHolds_0 C hr hlk hnm
  · exact fun _ _ _ _ _ h => h.elim
theorem d_C_init_0 : decode b_C_init 0 = .ok (.aload_n 0, 1) := by decide +kernel
theorem d_C_init_1 : decode b_C_init 1 = .ok (.invokespecial 1, 3) := by decide +kernel
theorem d_C_init_4 : decode b_C_init 4 = .ok (.aload_n 0, 1) := by decide +kernel
theorem d_C_init_5 : decode b_C_init 5 = .ok (.iload_n 1, 1) := by decide +kernel
theorem d_C_init_6 : decode b_C_init 6 = .ok (.putfield 7, 3) := by decide +kernel
theorem d_C_init_9 : decode b_C_init 9 = .ok (.aload_n 0, 1) := by decide +kernel
theorem d_C_init_10 : decode b_C_init 10 = .ok (.iload_n 2, 1) := by decide +kernel
theorem d_C_init_11 : decode b_C_init 11 = .ok (.putfield 13, 3) := by decide +kernel
theorem d_C_init_14 : decode b_C_init 14 = .ok (.aload_n 0, 1) := by decide +kernel
theorem d_C_init_15 : decode b_C_init 15 = .ok (.iload_n 3, 1) := by decide +kernel
theorem d_C_init_16 : decode b_C_init 16 = .ok (.putfield 16, 3) := by decide +kernel
theorem d_C_init_19 : decode b_C_init 19 = .ok (.aload_n 0, 1) := by decide +kernel
theorem d_C_init_20 : decode b_C_init 20 = .ok (.iload 4, 2) := by decide +kernel
theorem d_C_init_22 : decode b_C_init 22 = .ok (.putfield 19, 3) := by decide +kernel
theorem d_C_init_25 : decode b_C_init 25 = .ok (.aload_n 0, 1) := by decide +kernel
theorem d_C_init_26 : decode b_C_init 26 = .ok (.iload 5, 2) := by decide +kernel
theorem d_C_init_28 : decode b_C_init 28 = .ok (.putfield 22, 3) := by decide +kernel
theorem d_C_init_31 : decode b_C_init 31 = .ok (.aload_n 0, 1) := by decide +kernel
theorem d_C_init_32 : decode b_C_init 32 = .ok (.iload 6, 2) := by decide +kernel
theorem d_C_init_34 : decode b_C_init 34 = .ok (.putfield 25, 3) := by decide +kernel
theorem d_C_init_37 : decode b_C_init 37 = .ok (.aload_n 0, 1) := by decide +kernel
theorem d_C_init_38 : decode b_C_init 38 = .ok (.iload 7, 2) := by decide +kernel
theorem d_C_init_40 : decode b_C_init 40 = .ok (.putfield 28, 3) := by decide +kernel
theorem d_C_init_43 : decode b_C_init 43 = .ok (.return_, 1) := by decide +kernel
-- BlockVault$Copy.<init>(IIIIIIZ)V: labels [0], loops []
abbrev rm_C_init : Room := { frames := 1, cells := 0, slots := 0, locals := 20 }
def cC_init_0 (X : Nat → xm_PT) (Rh : Option Value → xm_M → Prop) : xm_PT := (xo_aload 0 (xo_drop (xo_aload 0 (xo_iload 1 (xo_put 1 0 .int (xo_aload 0 (xo_iload 2 (xo_put 1 1 .int (xo_aload 0 (xo_iload 3 (xo_put 1 2 .int (xo_aload 0 (xo_iload 4 (xo_put 1 3 .int (xo_aload 0 (xo_iload 5 (xo_put 1 4 .int (xo_aload 0 (xo_iload 6 (xo_put 1 5 .int (xo_aload 0 (xo_iload 7 (xo_put 1 6 .boolean (xo_vret Rh))))))))))))))))))))))))
def fC_init : xm_F := fun X Rh lb => if lb = 0 then cC_init_0 X Rh else fun _ _ _ _ _ => False
def cp_C_init : xm_CP := fun as m Rh => (lg_sl as).length ≤ 8 ∧ xm_cp fC_init 0 0 as m Rh
theorem eC_init_0 {X : Nat → xm_PT} {Rh : Option Value → xm_M → Prop} (hX : ∀ lb, xm_le (fC_init X Rh lb) (X lb)) {ls : xm_L} {st : List Value} {m : xm_M} {bc bs : Nat} (h : cC_init_0 X Rh ls st m bc bs) : X 0 ls st m bc bs := hX 0 ls st m bc bs h
set_option maxRecDepth 20000 in
set_option maxHeartbeats 4000000 in
theorem sC_init_0 {p : Program} {l : Launch} {e : Env} {s : State} {mm : MethodId} {args : Array Value} {below : List Frame} {meth : Method} {c : Code} {D : va_G} {A : Nat → Prop} {Rh : Option Value → xm_M → Prop} (C : xm_C p s mm args c b_C_init 8 "BlockVault$Copy" w_C_init D classes ats A) (hr : meth.sig.returnType = none) (hlk : meth.locks = false) (hnm : meth.name = "<init>") : xm_le (cC_init_0 (xm_A p l e rm_C_init s mm args below meth c 8 D classes A (MQ below (xm_Q D classes Rh A) args s 0 0 A)) Rh) ((xm_A p l e rm_C_init s mm args below meth c 8 D classes A (MQ below (xm_Q D classes Rh A) args s 0 0 A)) 0) :=
  (xs_aload_n C d_C_init_0 rfl (xs_obj C d_C_init_1 (List.mem_cons_of_mem _ tw_137) (List.mem_cons_of_mem _ tw_15) (List.mem_cons_of_mem _ tw_16) (by decide) (by decide) (xs_aload_n C d_C_init_4 rfl (xs_iload_n C d_C_init_5 rfl (xs_putF C (k := 0) d_C_init_6 h_C t_C t_C_ok n_C (ci := 1) rfl (by decide) (List.mem_cons_of_mem _ tw_138) rfl rfl hnm rfl (by decide +kernel) (xs_aload_n C d_C_init_9 rfl (xs_iload_n C d_C_init_10 rfl (xs_putF C (k := 1) d_C_init_11 h_C t_C t_C_ok n_C (ci := 1) rfl (by decide) (List.mem_cons_of_mem _ tw_141) rfl rfl hnm rfl (by decide +kernel) (xs_aload_n C d_C_init_14 rfl (xs_iload_n C d_C_init_15 rfl (xs_putF C (k := 2) d_C_init_16 h_C t_C t_C_ok n_C (ci := 1) rfl (by decide) (List.mem_cons_of_mem _ tw_143) rfl rfl hnm rfl (by decide +kernel) (xs_aload_n C d_C_init_19 rfl (xs_iload C d_C_init_20 (xs_putF C (k := 3) d_C_init_22 h_C t_C t_C_ok n_C (ci := 1) rfl (by decide) (List.mem_cons_of_mem _ tw_146) rfl rfl hnm rfl (by decide +kernel) (xs_aload_n C d_C_init_25 rfl (xs_iload C d_C_init_26 (xs_putF C (k := 4) d_C_init_28 h_C t_C t_C_ok n_C (ci := 1) rfl (by decide) (List.mem_cons_of_mem _ tw_148) rfl rfl hnm rfl (by decide +kernel) (xs_aload_n C d_C_init_31 rfl (xs_iload C d_C_init_32 (xs_putF C (k := 5) d_C_init_34 h_C t_C t_C_ok n_C (ci := 1) rfl (by decide) (List.mem_cons_of_mem _ tw_150) rfl rfl hnm rfl (by decide +kernel) (xs_aload_n C d_C_init_37 rfl (xs_iload C d_C_init_38 (xs_putF C (k := 6) d_C_init_40 h_C t_C t_C_ok n_C (ci := 1) rfl (by decide) (List.mem_cons_of_mem _ tw_153) rfl rfl hnm rfl (by decide +kernel) (xs_vret C d_C_init_43 hr hlk rfl rfl))))))))))))))))))))))))
theorem met_C_init (l : Launch) (D : va_G) : xm_Met l D classes ats y_C_init w_C_init rm_C_init 0 0 cp_C_init := by
  refine xm_met 0 (by decide) rfl rfl rfl (fun p e s mm args below meth c A Rh C hr hlk hnm lb => ?_)
  unfold fC_init
  split
  · rename_i h; subst h; exact sC_init_0 C hr hlk hnm
  · exact fun _ _ _ _ _ h => h.elim
theorem d_V_leastInState_0 : decode b_V_leastInState 0 = .ok (.iconst 0, 1) := by decide +kernel
theorem d_V_leastInState_1 : decode b_V_leastInState 1 = .ok (.istore_n 2, 1) := by decide +kernel
theorem d_V_leastInState_2 : decode b_V_leastInState 2 = .ok (.iload_n 2, 1) := by decide +kernel
theorem d_V_leastInState_3 : decode b_V_leastInState 3 = .ok (.bipush 8, 2) := by decide +kernel
theorem d_V_leastInState_5 : decode b_V_leastInState 5 = .ok (.if_icmp .ge 24, 3) := by decide +kernel
theorem d_V_leastInState_8 : decode b_V_leastInState 8 = .ok (.aload_n 0, 1) := by decide +kernel
theorem d_V_leastInState_9 : decode b_V_leastInState 9 = .ok (.getfield 11, 3) := by decide +kernel
theorem d_V_leastInState_12 : decode b_V_leastInState 12 = .ok (.iload_n 2, 1) := by decide +kernel
theorem d_V_leastInState_13 : decode b_V_leastInState 13 = .ok (.aaload, 1) := by decide +kernel
theorem d_V_leastInState_14 : decode b_V_leastInState 14 = .ok (.getfield 166, 3) := by decide +kernel
theorem d_V_leastInState_17 : decode b_V_leastInState 17 = .ok (.iload_n 1, 1) := by decide +kernel
theorem d_V_leastInState_18 : decode b_V_leastInState 18 = .ok (.if_icmp .ne 5, 3) := by decide +kernel
theorem d_V_leastInState_21 : decode b_V_leastInState 21 = .ok (.iload_n 2, 1) := by decide +kernel
theorem d_V_leastInState_22 : decode b_V_leastInState 22 = .ok (.ireturn, 1) := by decide +kernel
theorem d_V_leastInState_23 : decode b_V_leastInState 23 = .ok (.iinc 2 1, 3) := by decide +kernel
theorem d_V_leastInState_26 : decode b_V_leastInState 26 = .ok (.goto (-24), 3) := by decide +kernel
theorem d_V_leastInState_29 : decode b_V_leastInState 29 = .ok (.iconst (-1), 1) := by decide +kernel
theorem d_V_leastInState_30 : decode b_V_leastInState 30 = .ok (.ireturn, 1) := by decide +kernel
-- BlockVault.leastInState(I)I: labels [0, 2], loops [2]
abbrev rm_V_leastInState : Room := { frames := 0, cells := 0, slots := 0, locals := 0 }
def cV_leastInState_2 (X : Nat → xm_PT) (Rh : Option Value → xm_M → Prop) : xm_PT := (xo_iload 2 (xo_push (.int (nI 8)) (xo_icmp (fun x y => y ≤ x) (xo_push (.int (-1)) (xo_iret Rh)) (xo_aload 0 (xo_get 0 0 (xo_iload 2 (xo_aald ats (xo_get 3 2 (xo_iload 1 (xo_icmp (fun x y => x = y) (xo_iload 2 (xo_iret Rh)) (xo_iinc 2 1 (xo_jmp [0, 1, 2] (X 2)))))))))))))
def cV_leastInState_0 (X : Nat → xm_PT) (Rh : Option Value → xm_M → Prop) : xm_PT := (xo_push (.int 0) (xo_istore 2 (xo_jmp [0, 1, 2] (X 2))))
def fV_leastInState : xm_F := fun X Rh lb => if lb = 0 then cV_leastInState_0 X Rh else (if lb = 2 then cV_leastInState_2 X Rh else fun _ _ _ _ _ => False)
def cp_V_leastInState : xm_CP := fun as m Rh => (lg_sl as).length ≤ 3 ∧ xm_cp fV_leastInState 0 0 as m Rh
theorem eV_leastInState_0 {X : Nat → xm_PT} {Rh : Option Value → xm_M → Prop} (hX : ∀ lb, xm_le (fV_leastInState X Rh lb) (X lb)) {ls : xm_L} {st : List Value} {m : xm_M} {bc bs : Nat} (h : cV_leastInState_0 X Rh ls st m bc bs) : X 0 ls st m bc bs := hX 0 ls st m bc bs h
theorem eV_leastInState_2 {X : Nat → xm_PT} {Rh : Option Value → xm_M → Prop} (hX : ∀ lb, xm_le (fV_leastInState X Rh lb) (X lb)) {ls : xm_L} {st : List Value} {m : xm_M} {bc bs : Nat} (h : cV_leastInState_2 X Rh ls st m bc bs) : X 2 ls st m bc bs := hX 2 ls st m bc bs h
set_option maxRecDepth 20000 in
set_option maxHeartbeats 4000000 in
theorem sV_leastInState_2 {p : Program} {l : Launch} {e : Env} {s : State} {mm : MethodId} {args : Array Value} {below : List Frame} {meth : Method} {c : Code} {D : va_G} {A : Nat → Prop} {Rh : Option Value → xm_M → Prop} (C : xm_C p s mm args c b_V_leastInState 3 "BlockVault" w_V_leastInState D classes ats A) (hr : meth.sig.returnType = (some .int)) (hlk : meth.locks = false) (hnm : meth.name = "leastInState") : xm_le (cV_leastInState_2 (xm_A p l e rm_V_leastInState s mm args below meth c 3 D classes A (MQ below (xm_Q D classes Rh A) args s 0 0 A)) Rh) ((xm_A p l e rm_V_leastInState s mm args below meth c 3 D classes A (MQ below (xm_Q D classes Rh A) args s 0 0 A)) 2) :=
  (xs_iload_n C d_V_leastInState_2 rfl (xs_bipush C d_V_leastInState_3 (by decide) (xs_icmp_ge C d_V_leastInState_5 (by decide) (xs_iconst C d_V_leastInState_29 (by decide) (xs_iret C d_V_leastInState_30 hr hlk rfl rfl)) (xs_aload_n C d_V_leastInState_8 rfl (xs_get C (k := 0) d_V_leastInState_9 h_V (ci := 0) rfl (by decide) (List.mem_cons_of_mem _ tw_81) rfl (xs_iload_n C d_V_leastInState_12 rfl (xs_aald C d_V_leastInState_13 (xs_get C (k := 2) d_V_leastInState_14 h_B (ci := 3) rfl (by decide) (List.mem_cons_of_mem _ tw_47) rfl (xs_iload_n C d_V_leastInState_17 rfl (xs_icmp_ne C d_V_leastInState_18 (by decide) (xs_iload_n C d_V_leastInState_21 rfl (xs_iret C d_V_leastInState_22 hr hlk rfl rfl)) (xs_iinc C d_V_leastInState_23 (by decide) (by decide) (xs_goto C d_V_leastInState_26 (by decide) (xs_jmp (fun _ _ _ _ _ h => h))))))))))))))
set_option maxRecDepth 20000 in
set_option maxHeartbeats 4000000 in
theorem sV_leastInState_0 {p : Program} {l : Launch} {e : Env} {s : State} {mm : MethodId} {args : Array Value} {below : List Frame} {meth : Method} {c : Code} {D : va_G} {A : Nat → Prop} {Rh : Option Value → xm_M → Prop} (C : xm_C p s mm args c b_V_leastInState 3 "BlockVault" w_V_leastInState D classes ats A) (hr : meth.sig.returnType = (some .int)) (hlk : meth.locks = false) (hnm : meth.name = "leastInState") : xm_le (cV_leastInState_0 (xm_A p l e rm_V_leastInState s mm args below meth c 3 D classes A (MQ below (xm_Q D classes Rh A) args s 0 0 A)) Rh) ((xm_A p l e rm_V_leastInState s mm args below meth c 3 D classes A (MQ below (xm_Q D classes Rh A) args s 0 0 A)) 0) :=
  (xs_iconst C d_V_leastInState_0 (by decide) (xs_istore_n C d_V_leastInState_1 rfl (by decide) (xs_jmp (fun _ _ _ _ _ h => h))))
theorem met_V_leastInState (l : Launch) (D : va_G) : xm_Met l D classes ats y_V_leastInState w_V_leastInState rm_V_leastInState 0 0 cp_V_leastInState := by
  refine xm_met 0 (by decide) rfl rfl rfl (fun p e s mm args below meth c A Rh C hr hlk hnm lb => ?_)
  unfold fV_leastInState
  split
  · rename_i h; subst h; exact sV_leastInState_0 C hr hlk hnm
  split
  · rename_i h; subst h; exact sV_leastInState_2 C hr hlk hnm
  · exact fun _ _ _ _ _ h => h.elim
theorem d_R_sizes_0 : decode b_R_sizes 0 = .ok (.iconst 0, 1) := by decide +kernel
theorem d_R_sizes_1 : decode b_R_sizes 1 = .ok (.istore_n 1, 1) := by decide +kernel
theorem d_R_sizes_2 : decode b_R_sizes 2 = .ok (.iconst 0, 1) := by decide +kernel
theorem d_R_sizes_3 : decode b_R_sizes 3 = .ok (.istore_n 2, 1) := by decide +kernel
theorem d_R_sizes_4 : decode b_R_sizes 4 = .ok (.iload_n 2, 1) := by decide +kernel
theorem d_R_sizes_5 : decode b_R_sizes 5 = .ok (.aload_n 0, 1) := by decide +kernel
theorem d_R_sizes_6 : decode b_R_sizes 6 = .ok (.getfield 17, 3) := by decide +kernel
theorem d_R_sizes_9 : decode b_R_sizes 9 = .ok (.if_icmp .ge 21, 3) := by decide +kernel
theorem d_R_sizes_12 : decode b_R_sizes 12 = .ok (.iload_n 1, 1) := by decide +kernel
theorem d_R_sizes_13 : decode b_R_sizes 13 = .ok (.aload_n 0, 1) := by decide +kernel
theorem d_R_sizes_14 : decode b_R_sizes 14 = .ok (.getfield 11, 3) := by decide +kernel
theorem d_R_sizes_17 : decode b_R_sizes 17 = .ok (.iload_n 2, 1) := by decide +kernel
theorem d_R_sizes_18 : decode b_R_sizes 18 = .ok (.aaload, 1) := by decide +kernel
theorem d_R_sizes_19 : decode b_R_sizes 19 = .ok (.getfield 28, 3) := by decide +kernel
theorem d_R_sizes_22 : decode b_R_sizes 22 = .ok (.iadd, 1) := by decide +kernel
theorem d_R_sizes_23 : decode b_R_sizes 23 = .ok (.istore_n 1, 1) := by decide +kernel
theorem d_R_sizes_24 : decode b_R_sizes 24 = .ok (.iinc 2 1, 3) := by decide +kernel
theorem d_R_sizes_27 : decode b_R_sizes 27 = .ok (.goto (-23), 3) := by decide +kernel
theorem d_R_sizes_30 : decode b_R_sizes 30 = .ok (.iload_n 1, 1) := by decide +kernel
theorem d_R_sizes_31 : decode b_R_sizes 31 = .ok (.ireturn, 1) := by decide +kernel
-- BlockVault$Row.sizes()I: labels [0, 4], loops [4]
abbrev rm_R_sizes : Room := { frames := 0, cells := 0, slots := 0, locals := 0 }
def cR_sizes_4 (X : Nat → xm_PT) (Rh : Option Value → xm_M → Prop) : xm_PT := (xo_iload 2 (xo_aload 0 (xo_get 2 1 (xo_icmp (fun x y => y ≤ x) (xo_iload 1 (xo_iret Rh)) (xo_iload 1 (xo_aload 0 (xo_get 2 0 (xo_iload 2 (xo_aald ats (xo_get 1 2 (xo_ibin (fun x y => x + y) (xo_istore 1 (xo_iinc 2 1 (xo_jmp [0, 1, 2] (X 4)))))))))))))))
def cR_sizes_0 (X : Nat → xm_PT) (Rh : Option Value → xm_M → Prop) : xm_PT := (xo_push (.int 0) (xo_istore 1 (xo_push (.int 0) (xo_istore 2 (xo_jmp [0, 1, 2] (X 4))))))
def fR_sizes : xm_F := fun X Rh lb => if lb = 0 then cR_sizes_0 X Rh else (if lb = 4 then cR_sizes_4 X Rh else fun _ _ _ _ _ => False)
def cp_R_sizes : xm_CP := fun as m Rh => (lg_sl as).length ≤ 3 ∧ xm_cp fR_sizes 0 0 as m Rh
theorem eR_sizes_0 {X : Nat → xm_PT} {Rh : Option Value → xm_M → Prop} (hX : ∀ lb, xm_le (fR_sizes X Rh lb) (X lb)) {ls : xm_L} {st : List Value} {m : xm_M} {bc bs : Nat} (h : cR_sizes_0 X Rh ls st m bc bs) : X 0 ls st m bc bs := hX 0 ls st m bc bs h
theorem eR_sizes_4 {X : Nat → xm_PT} {Rh : Option Value → xm_M → Prop} (hX : ∀ lb, xm_le (fR_sizes X Rh lb) (X lb)) {ls : xm_L} {st : List Value} {m : xm_M} {bc bs : Nat} (h : cR_sizes_4 X Rh ls st m bc bs) : X 4 ls st m bc bs := hX 4 ls st m bc bs h
set_option maxRecDepth 20000 in
set_option maxHeartbeats 4000000 in
theorem sR_sizes_4 {p : Program} {l : Launch} {e : Env} {s : State} {mm : MethodId} {args : Array Value} {below : List Frame} {meth : Method} {c : Code} {D : va_G} {A : Nat → Prop} {Rh : Option Value → xm_M → Prop} (C : xm_C p s mm args c b_R_sizes 3 "BlockVault$Row" w_R_sizes D classes ats A) (hr : meth.sig.returnType = (some .int)) (hlk : meth.locks = false) (hnm : meth.name = "sizes") : xm_le (cR_sizes_4 (xm_A p l e rm_R_sizes s mm args below meth c 3 D classes A (MQ below (xm_Q D classes Rh A) args s 0 0 A)) Rh) ((xm_A p l e rm_R_sizes s mm args below meth c 3 D classes A (MQ below (xm_Q D classes Rh A) args s 0 0 A)) 4) :=
  (xs_iload_n C d_R_sizes_4 rfl (xs_aload_n C d_R_sizes_5 rfl (xs_get C (k := 1) d_R_sizes_6 h_R (ci := 2) rfl (by decide) (List.mem_cons_of_mem _ tw_35) rfl (xs_icmp_ge C d_R_sizes_9 (by decide) (xs_iload_n C d_R_sizes_30 rfl (xs_iret C d_R_sizes_31 hr hlk rfl rfl)) (xs_iload_n C d_R_sizes_12 rfl (xs_aload_n C d_R_sizes_13 rfl (xs_get C (k := 0) d_R_sizes_14 h_R (ci := 2) rfl (by decide) (List.mem_cons_of_mem _ tw_34) rfl (xs_iload_n C d_R_sizes_17 rfl (xs_aald C d_R_sizes_18 (xs_get C (k := 2) d_R_sizes_19 h_C (ci := 1) rfl (by decide) (List.mem_cons_of_mem _ tw_145) rfl (xs_iadd C d_R_sizes_22 (xs_istore_n C d_R_sizes_23 rfl (by decide) (xs_iinc C d_R_sizes_24 (by decide) (by decide) (xs_goto C d_R_sizes_27 (by decide) (xs_jmp (fun _ _ _ _ _ h => h))))))))))))))))
set_option maxRecDepth 20000 in
set_option maxHeartbeats 4000000 in
theorem sR_sizes_0 {p : Program} {l : Launch} {e : Env} {s : State} {mm : MethodId} {args : Array Value} {below : List Frame} {meth : Method} {c : Code} {D : va_G} {A : Nat → Prop} {Rh : Option Value → xm_M → Prop} (C : xm_C p s mm args c b_R_sizes 3 "BlockVault$Row" w_R_sizes D classes ats A) (hr : meth.sig.returnType = (some .int)) (hlk : meth.locks = false) (hnm : meth.name = "sizes") : xm_le (cR_sizes_0 (xm_A p l e rm_R_sizes s mm args below meth c 3 D classes A (MQ below (xm_Q D classes Rh A) args s 0 0 A)) Rh) ((xm_A p l e rm_R_sizes s mm args below meth c 3 D classes A (MQ below (xm_Q D classes Rh A) args s 0 0 A)) 0) :=
  (xs_iconst C d_R_sizes_0 (by decide) (xs_istore_n C d_R_sizes_1 rfl (by decide) (xs_iconst C d_R_sizes_2 (by decide) (xs_istore_n C d_R_sizes_3 rfl (by decide) (xs_jmp (fun _ _ _ _ _ h => h))))))
theorem met_R_sizes (l : Launch) (D : va_G) : xm_Met l D classes ats y_R_sizes w_R_sizes rm_R_sizes 0 0 cp_R_sizes := by
  refine xm_met 0 (by decide) rfl rfl rfl (fun p e s mm args below meth c A Rh C hr hlk hnm lb => ?_)
  unfold fR_sizes
  split
  · rename_i h; subst h; exact sR_sizes_0 C hr hlk hnm
  split
  · rename_i h; subst h; exact sR_sizes_4 C hr hlk hnm
  · exact fun _ _ _ _ _ h => h.elim
theorem d_V_countInState_0 : decode b_V_countInState 0 = .ok (.iconst 0, 1) := by decide +kernel
theorem d_V_countInState_1 : decode b_V_countInState 1 = .ok (.istore_n 2, 1) := by decide +kernel
theorem d_V_countInState_2 : decode b_V_countInState 2 = .ok (.iconst 0, 1) := by decide +kernel
theorem d_V_countInState_3 : decode b_V_countInState 3 = .ok (.istore_n 3, 1) := by decide +kernel
theorem d_V_countInState_4 : decode b_V_countInState 4 = .ok (.iload_n 3, 1) := by decide +kernel
theorem d_V_countInState_5 : decode b_V_countInState 5 = .ok (.bipush 8, 2) := by decide +kernel
theorem d_V_countInState_7 : decode b_V_countInState 7 = .ok (.if_icmp .ge 25, 3) := by decide +kernel
theorem d_V_countInState_10 : decode b_V_countInState 10 = .ok (.aload_n 0, 1) := by decide +kernel
theorem d_V_countInState_11 : decode b_V_countInState 11 = .ok (.getfield 11, 3) := by decide +kernel
theorem d_V_countInState_14 : decode b_V_countInState 14 = .ok (.iload_n 3, 1) := by decide +kernel
theorem d_V_countInState_15 : decode b_V_countInState 15 = .ok (.aaload, 1) := by decide +kernel
theorem d_V_countInState_16 : decode b_V_countInState 16 = .ok (.getfield 166, 3) := by decide +kernel
theorem d_V_countInState_19 : decode b_V_countInState 19 = .ok (.iload_n 1, 1) := by decide +kernel
theorem d_V_countInState_20 : decode b_V_countInState 20 = .ok (.if_icmp .ne 6, 3) := by decide +kernel
theorem d_V_countInState_23 : decode b_V_countInState 23 = .ok (.iinc 2 1, 3) := by decide +kernel
theorem d_V_countInState_26 : decode b_V_countInState 26 = .ok (.iinc 3 1, 3) := by decide +kernel
theorem d_V_countInState_29 : decode b_V_countInState 29 = .ok (.goto (-25), 3) := by decide +kernel
theorem d_V_countInState_32 : decode b_V_countInState 32 = .ok (.iload_n 2, 1) := by decide +kernel
theorem d_V_countInState_33 : decode b_V_countInState 33 = .ok (.ireturn, 1) := by decide +kernel
-- BlockVault.countInState(I)I: labels [0, 4], loops [4]
abbrev rm_V_countInState : Room := { frames := 0, cells := 0, slots := 0, locals := 0 }
def cV_countInState_4 (X : Nat → xm_PT) (Rh : Option Value → xm_M → Prop) : xm_PT := (xo_iload 3 (xo_push (.int (nI 8)) (xo_icmp (fun x y => y ≤ x) (xo_iload 2 (xo_iret Rh)) (xo_aload 0 (xo_get 0 0 (xo_iload 3 (xo_aald ats (xo_get 3 2 (xo_iload 1 (xo_icmp (fun x y => x = y) (xo_iinc 2 1 (xo_iinc 3 1 (xo_jmp [0, 1, 2, 3] (X 4)))) (xo_iinc 3 1 (xo_jmp [0, 1, 2, 3] (X 4)))))))))))))
def cV_countInState_0 (X : Nat → xm_PT) (Rh : Option Value → xm_M → Prop) : xm_PT := (xo_push (.int 0) (xo_istore 2 (xo_push (.int 0) (xo_istore 3 (xo_jmp [0, 1, 2, 3] (X 4))))))
def fV_countInState : xm_F := fun X Rh lb => if lb = 0 then cV_countInState_0 X Rh else (if lb = 4 then cV_countInState_4 X Rh else fun _ _ _ _ _ => False)
def cp_V_countInState : xm_CP := fun as m Rh => (lg_sl as).length ≤ 4 ∧ xm_cp fV_countInState 0 0 as m Rh
theorem eV_countInState_0 {X : Nat → xm_PT} {Rh : Option Value → xm_M → Prop} (hX : ∀ lb, xm_le (fV_countInState X Rh lb) (X lb)) {ls : xm_L} {st : List Value} {m : xm_M} {bc bs : Nat} (h : cV_countInState_0 X Rh ls st m bc bs) : X 0 ls st m bc bs := hX 0 ls st m bc bs h
theorem eV_countInState_4 {X : Nat → xm_PT} {Rh : Option Value → xm_M → Prop} (hX : ∀ lb, xm_le (fV_countInState X Rh lb) (X lb)) {ls : xm_L} {st : List Value} {m : xm_M} {bc bs : Nat} (h : cV_countInState_4 X Rh ls st m bc bs) : X 4 ls st m bc bs := hX 4 ls st m bc bs h
set_option maxRecDepth 20000 in
set_option maxHeartbeats 4000000 in
theorem sV_countInState_4 {p : Program} {l : Launch} {e : Env} {s : State} {mm : MethodId} {args : Array Value} {below : List Frame} {meth : Method} {c : Code} {D : va_G} {A : Nat → Prop} {Rh : Option Value → xm_M → Prop} (C : xm_C p s mm args c b_V_countInState 4 "BlockVault" w_V_countInState D classes ats A) (hr : meth.sig.returnType = (some .int)) (hlk : meth.locks = false) (hnm : meth.name = "countInState") : xm_le (cV_countInState_4 (xm_A p l e rm_V_countInState s mm args below meth c 4 D classes A (MQ below (xm_Q D classes Rh A) args s 0 0 A)) Rh) ((xm_A p l e rm_V_countInState s mm args below meth c 4 D classes A (MQ below (xm_Q D classes Rh A) args s 0 0 A)) 4) :=
  (xs_iload_n C d_V_countInState_4 rfl (xs_bipush C d_V_countInState_5 (by decide) (xs_icmp_ge C d_V_countInState_7 (by decide) (xs_iload_n C d_V_countInState_32 rfl (xs_iret C d_V_countInState_33 hr hlk rfl rfl)) (xs_aload_n C d_V_countInState_10 rfl (xs_get C (k := 0) d_V_countInState_11 h_V (ci := 0) rfl (by decide) (List.mem_cons_of_mem _ tw_81) rfl (xs_iload_n C d_V_countInState_14 rfl (xs_aald C d_V_countInState_15 (xs_get C (k := 2) d_V_countInState_16 h_B (ci := 3) rfl (by decide) (List.mem_cons_of_mem _ tw_47) rfl (xs_iload_n C d_V_countInState_19 rfl (xs_icmp_ne C d_V_countInState_20 (by decide) (xs_iinc C d_V_countInState_23 (by decide) (by decide) (xs_iinc C d_V_countInState_26 (by decide) (by decide) (xs_goto C d_V_countInState_29 (by decide) (xs_jmp (fun _ _ _ _ _ h => h))))) (xs_iinc C d_V_countInState_26 (by decide) (by decide) (xs_goto C d_V_countInState_29 (by decide) (xs_jmp (fun _ _ _ _ _ h => h))))))))))))))
set_option maxRecDepth 20000 in
set_option maxHeartbeats 4000000 in
theorem sV_countInState_0 {p : Program} {l : Launch} {e : Env} {s : State} {mm : MethodId} {args : Array Value} {below : List Frame} {meth : Method} {c : Code} {D : va_G} {A : Nat → Prop} {Rh : Option Value → xm_M → Prop} (C : xm_C p s mm args c b_V_countInState 4 "BlockVault" w_V_countInState D classes ats A) (hr : meth.sig.returnType = (some .int)) (hlk : meth.locks = false) (hnm : meth.name = "countInState") : xm_le (cV_countInState_0 (xm_A p l e rm_V_countInState s mm args below meth c 4 D classes A (MQ below (xm_Q D classes Rh A) args s 0 0 A)) Rh) ((xm_A p l e rm_V_countInState s mm args below meth c 4 D classes A (MQ below (xm_Q D classes Rh A) args s 0 0 A)) 0) :=
  (xs_iconst C d_V_countInState_0 (by decide) (xs_istore_n C d_V_countInState_1 rfl (by decide) (xs_iconst C d_V_countInState_2 (by decide) (xs_istore_n C d_V_countInState_3 rfl (by decide) (xs_jmp (fun _ _ _ _ _ h => h))))))
theorem met_V_countInState (l : Launch) (D : va_G) : xm_Met l D classes ats y_V_countInState w_V_countInState rm_V_countInState 0 0 cp_V_countInState := by
  refine xm_met 0 (by decide) rfl rfl rfl (fun p e s mm args below meth c A Rh C hr hlk hnm lb => ?_)
  unfold fV_countInState
  split
  · rename_i h; subst h; exact sV_countInState_0 C hr hlk hnm
  split
  · rename_i h; subst h; exact sV_countInState_4 C hr hlk hnm
  · exact fun _ _ _ _ _ h => h.elim
theorem d_V_sealBlock_0 : decode b_V_sealBlock 0 = .ok (.aload_n 0, 1) := by decide +kernel
theorem d_V_sealBlock_1 : decode b_V_sealBlock 1 = .ok (.getfield 11, 3) := by decide +kernel
theorem d_V_sealBlock_4 : decode b_V_sealBlock 4 = .ok (.iload_n 1, 1) := by decide +kernel
theorem d_V_sealBlock_5 : decode b_V_sealBlock 5 = .ok (.aaload, 1) := by decide +kernel
theorem d_V_sealBlock_6 : decode b_V_sealBlock 6 = .ok (.iconst 2, 1) := by decide +kernel
theorem d_V_sealBlock_7 : decode b_V_sealBlock 7 = .ok (.putfield 166, 3) := by decide +kernel
theorem d_V_sealBlock_10 : decode b_V_sealBlock 10 = .ok (.aload_n 0, 1) := by decide +kernel
theorem d_V_sealBlock_11 : decode b_V_sealBlock 11 = .ok (.getfield 11, 3) := by decide +kernel
theorem d_V_sealBlock_14 : decode b_V_sealBlock 14 = .ok (.iload_n 1, 1) := by decide +kernel
theorem d_V_sealBlock_15 : decode b_V_sealBlock 15 = .ok (.aaload, 1) := by decide +kernel
theorem d_V_sealBlock_16 : decode b_V_sealBlock 16 = .ok (.aload_n 0, 1) := by decide +kernel
theorem d_V_sealBlock_17 : decode b_V_sealBlock 17 = .ok (.getfield 28, 3) := by decide +kernel
theorem d_V_sealBlock_20 : decode b_V_sealBlock 20 = .ok (.putfield 223, 3) := by decide +kernel
theorem d_V_sealBlock_23 : decode b_V_sealBlock 23 = .ok (.aload_n 0, 1) := by decide +kernel
theorem d_V_sealBlock_24 : decode b_V_sealBlock 24 = .ok (.dup, 1) := by decide +kernel
theorem d_V_sealBlock_25 : decode b_V_sealBlock 25 = .ok (.getfield 28, 3) := by decide +kernel
theorem d_V_sealBlock_28 : decode b_V_sealBlock 28 = .ok (.iconst 1, 1) := by decide +kernel
theorem d_V_sealBlock_29 : decode b_V_sealBlock 29 = .ok (.iadd, 1) := by decide +kernel
theorem d_V_sealBlock_30 : decode b_V_sealBlock 30 = .ok (.putfield 28, 3) := by decide +kernel
theorem d_V_sealBlock_33 : decode b_V_sealBlock 33 = .ok (.return_, 1) := by decide +kernel
-- BlockVault.sealBlock(I)V: labels [0], loops []
abbrev rm_V_sealBlock : Room := { frames := 0, cells := 0, slots := 0, locals := 0 }
def cV_sealBlock_0 (X : Nat → xm_PT) (Rh : Option Value → xm_M → Prop) : xm_PT := (xo_aload 0 (xo_get 0 0 (xo_iload 1 (xo_aald ats (xo_push (.int (nI 2)) (xo_put 3 2 .int (xo_aload 0 (xo_get 0 0 (xo_iload 1 (xo_aald ats (xo_aload 0 (xo_get 0 4 (xo_put 3 3 .int (xo_aload 0 (xo_dup (xo_get 0 4 (xo_push (.int 1) (xo_ibin (fun x y => x + y) (xo_put 0 4 .int (xo_vret Rh))))))))))))))))))))
def fV_sealBlock : xm_F := fun X Rh lb => if lb = 0 then cV_sealBlock_0 X Rh else fun _ _ _ _ _ => False
def cp_V_sealBlock : xm_CP := fun as m Rh => (lg_sl as).length ≤ 2 ∧ xm_cp fV_sealBlock 0 0 as m Rh
theorem eV_sealBlock_0 {X : Nat → xm_PT} {Rh : Option Value → xm_M → Prop} (hX : ∀ lb, xm_le (fV_sealBlock X Rh lb) (X lb)) {ls : xm_L} {st : List Value} {m : xm_M} {bc bs : Nat} (h : cV_sealBlock_0 X Rh ls st m bc bs) : X 0 ls st m bc bs := hX 0 ls st m bc bs h
set_option maxRecDepth 20000 in
set_option maxHeartbeats 4000000 in
theorem sV_sealBlock_0 {p : Program} {l : Launch} {e : Env} {s : State} {mm : MethodId} {args : Array Value} {below : List Frame} {meth : Method} {c : Code} {D : va_G} {A : Nat → Prop} {Rh : Option Value → xm_M → Prop} (C : xm_C p s mm args c b_V_sealBlock 2 "BlockVault" w_V_sealBlock D classes ats A) (hr : meth.sig.returnType = none) (hlk : meth.locks = false) (hnm : meth.name = "sealBlock") : xm_le (cV_sealBlock_0 (xm_A p l e rm_V_sealBlock s mm args below meth c 2 D classes A (MQ below (xm_Q D classes Rh A) args s 0 0 A)) Rh) ((xm_A p l e rm_V_sealBlock s mm args below meth c 2 D classes A (MQ below (xm_Q D classes Rh A) args s 0 0 A)) 0) :=
  (xs_aload_n C d_V_sealBlock_0 rfl (xs_get C (k := 0) d_V_sealBlock_1 h_V (ci := 0) rfl (by decide) (List.mem_cons_of_mem _ tw_81) rfl (xs_iload_n C d_V_sealBlock_4 rfl (xs_aald C d_V_sealBlock_5 (xs_iconst C d_V_sealBlock_6 (by decide) (xs_put C (k := 2) d_V_sealBlock_7 h_B t_B t_B_ok n_B (ci := 3) rfl (by decide) (List.mem_cons_of_mem _ tw_47) rfl rfl (by decide +kernel) (xs_aload_n C d_V_sealBlock_10 rfl (xs_get C (k := 0) d_V_sealBlock_11 h_V (ci := 0) rfl (by decide) (List.mem_cons_of_mem _ tw_81) rfl (xs_iload_n C d_V_sealBlock_14 rfl (xs_aald C d_V_sealBlock_15 (xs_aload_n C d_V_sealBlock_16 rfl (xs_get C (k := 4) d_V_sealBlock_17 h_V (ci := 0) rfl (by decide) (List.mem_cons_of_mem _ tw_85) rfl (xs_put C (k := 3) d_V_sealBlock_20 h_B t_B t_B_ok n_B (ci := 3) rfl (by decide) (List.mem_cons_of_mem _ tw_49) rfl rfl (by decide +kernel) (xs_aload_n C d_V_sealBlock_23 rfl (xs_dup C d_V_sealBlock_24 (xs_get C (k := 4) d_V_sealBlock_25 h_V (ci := 0) rfl (by decide) (List.mem_cons_of_mem _ tw_85) rfl (xs_iconst C d_V_sealBlock_28 (by decide) (xs_iadd C d_V_sealBlock_29 (xs_put C (k := 4) d_V_sealBlock_30 h_V t_V t_V_ok n_V (ci := 0) rfl (by decide) (List.mem_cons_of_mem _ tw_85) rfl rfl (by decide +kernel) (xs_vret C d_V_sealBlock_33 hr hlk rfl rfl))))))))))))))))))))
theorem met_V_sealBlock (l : Launch) (D : va_G) : xm_Met l D classes ats y_V_sealBlock w_V_sealBlock rm_V_sealBlock 0 0 cp_V_sealBlock := by
  refine xm_met 0 (by decide) rfl rfl rfl (fun p e s mm args below meth c A Rh C hr hlk hnm lb => ?_)
  unfold fV_sealBlock
  split
  · rename_i h; subst h; exact sV_sealBlock_0 C hr hlk hnm
  · exact fun _ _ _ _ _ h => h.elim
theorem d_V_currentWithRoom_0 : decode b_V_currentWithRoom 0 = .ok (.aload_n 0, 1) := by decide +kernel
theorem d_V_currentWithRoom_1 : decode b_V_currentWithRoom 1 = .ok (.iconst 1, 1) := by decide +kernel
theorem d_V_currentWithRoom_2 : decode b_V_currentWithRoom 2 = .ok (.invokevirtual 90, 3) := by decide +kernel
theorem d_V_currentWithRoom_5 : decode b_V_currentWithRoom 5 = .ok (.istore_n 2, 1) := by decide +kernel
theorem d_V_currentWithRoom_6 : decode b_V_currentWithRoom 6 = .ok (.iload_n 2, 1) := by decide +kernel
theorem d_V_currentWithRoom_7 : decode b_V_currentWithRoom 7 = .ok (.iconst (-1), 1) := by decide +kernel
theorem d_V_currentWithRoom_8 : decode b_V_currentWithRoom 8 = .ok (.if_icmp .eq 24, 3) := by decide +kernel
theorem d_V_currentWithRoom_11 : decode b_V_currentWithRoom 11 = .ok (.aload_n 0, 1) := by decide +kernel
theorem d_V_currentWithRoom_12 : decode b_V_currentWithRoom 12 = .ok (.getfield 11, 3) := by decide +kernel
theorem d_V_currentWithRoom_15 : decode b_V_currentWithRoom 15 = .ok (.iload_n 2, 1) := by decide +kernel
theorem d_V_currentWithRoom_16 : decode b_V_currentWithRoom 16 = .ok (.aaload, 1) := by decide +kernel
theorem d_V_currentWithRoom_17 : decode b_V_currentWithRoom 17 = .ok (.getfield 111, 3) := by decide +kernel
theorem d_V_currentWithRoom_20 : decode b_V_currentWithRoom 20 = .ok (.invokevirtual 172, 3) := by decide +kernel
theorem d_V_currentWithRoom_23 : decode b_V_currentWithRoom 23 = .ok (.iload_n 1, 1) := by decide +kernel
theorem d_V_currentWithRoom_24 : decode b_V_currentWithRoom 24 = .ok (.iadd, 1) := by decide +kernel
theorem d_V_currentWithRoom_25 : decode b_V_currentWithRoom 25 = .ok (.bipush 12, 2) := by decide +kernel
theorem d_V_currentWithRoom_27 : decode b_V_currentWithRoom 27 = .ok (.if_icmp .gt 5, 3) := by decide +kernel
theorem d_V_currentWithRoom_30 : decode b_V_currentWithRoom 30 = .ok (.iload_n 2, 1) := by decide +kernel
theorem d_V_currentWithRoom_31 : decode b_V_currentWithRoom 31 = .ok (.ireturn, 1) := by decide +kernel
theorem d_V_currentWithRoom_32 : decode b_V_currentWithRoom 32 = .ok (.iload_n 2, 1) := by decide +kernel
theorem d_V_currentWithRoom_33 : decode b_V_currentWithRoom 33 = .ok (.iconst (-1), 1) := by decide +kernel
theorem d_V_currentWithRoom_34 : decode b_V_currentWithRoom 34 = .ok (.if_icmp .eq 15, 3) := by decide +kernel
theorem d_V_currentWithRoom_37 : decode b_V_currentWithRoom 37 = .ok (.aload_n 0, 1) := by decide +kernel
theorem d_V_currentWithRoom_38 : decode b_V_currentWithRoom 38 = .ok (.iconst 2, 1) := by decide +kernel
theorem d_V_currentWithRoom_39 : decode b_V_currentWithRoom 39 = .ok (.invokevirtual 93, 3) := by decide +kernel
theorem d_V_currentWithRoom_42 : decode b_V_currentWithRoom 42 = .ok (.iconst 3, 1) := by decide +kernel
theorem d_V_currentWithRoom_43 : decode b_V_currentWithRoom 43 = .ok (.if_icmp .lt 6, 3) := by decide +kernel
theorem d_V_currentWithRoom_46 : decode b_V_currentWithRoom 46 = .ok (.bipush (-5), 2) := by decide +kernel
theorem d_V_currentWithRoom_48 : decode b_V_currentWithRoom 48 = .ok (.ireturn, 1) := by decide +kernel
theorem d_V_currentWithRoom_49 : decode b_V_currentWithRoom 49 = .ok (.aload_n 0, 1) := by decide +kernel
theorem d_V_currentWithRoom_50 : decode b_V_currentWithRoom 50 = .ok (.iconst 0, 1) := by decide +kernel
theorem d_V_currentWithRoom_51 : decode b_V_currentWithRoom 51 = .ok (.invokevirtual 90, 3) := by decide +kernel
theorem d_V_currentWithRoom_54 : decode b_V_currentWithRoom 54 = .ok (.istore_n 3, 1) := by decide +kernel
theorem d_V_currentWithRoom_55 : decode b_V_currentWithRoom 55 = .ok (.iload_n 3, 1) := by decide +kernel
theorem d_V_currentWithRoom_56 : decode b_V_currentWithRoom 56 = .ok (.iconst (-1), 1) := by decide +kernel
theorem d_V_currentWithRoom_57 : decode b_V_currentWithRoom 57 = .ok (.if_icmp .ne 6, 3) := by decide +kernel
theorem d_V_currentWithRoom_60 : decode b_V_currentWithRoom 60 = .ok (.bipush (-6), 2) := by decide +kernel
theorem d_V_currentWithRoom_62 : decode b_V_currentWithRoom 62 = .ok (.ireturn, 1) := by decide +kernel
theorem d_V_currentWithRoom_63 : decode b_V_currentWithRoom 63 = .ok (.iload_n 2, 1) := by decide +kernel
theorem d_V_currentWithRoom_64 : decode b_V_currentWithRoom 64 = .ok (.iconst (-1), 1) := by decide +kernel
theorem d_V_currentWithRoom_65 : decode b_V_currentWithRoom 65 = .ok (.if_icmp .eq 8, 3) := by decide +kernel
theorem d_V_currentWithRoom_68 : decode b_V_currentWithRoom 68 = .ok (.aload_n 0, 1) := by decide +kernel
theorem d_V_currentWithRoom_69 : decode b_V_currentWithRoom 69 = .ok (.iload_n 2, 1) := by decide +kernel
theorem d_V_currentWithRoom_70 : decode b_V_currentWithRoom 70 = .ok (.invokevirtual 96, 3) := by decide +kernel
theorem d_V_currentWithRoom_73 : decode b_V_currentWithRoom 73 = .ok (.aload_n 0, 1) := by decide +kernel
theorem d_V_currentWithRoom_74 : decode b_V_currentWithRoom 74 = .ok (.getfield 11, 3) := by decide +kernel
theorem d_V_currentWithRoom_77 : decode b_V_currentWithRoom 77 = .ok (.iload_n 3, 1) := by decide +kernel
theorem d_V_currentWithRoom_78 : decode b_V_currentWithRoom 78 = .ok (.aaload, 1) := by decide +kernel
theorem d_V_currentWithRoom_79 : decode b_V_currentWithRoom 79 = .ok (.iconst 1, 1) := by decide +kernel
theorem d_V_currentWithRoom_80 : decode b_V_currentWithRoom 80 = .ok (.putfield 166, 3) := by decide +kernel
theorem d_V_currentWithRoom_83 : decode b_V_currentWithRoom 83 = .ok (.iload_n 3, 1) := by decide +kernel
theorem d_V_currentWithRoom_84 : decode b_V_currentWithRoom 84 = .ok (.ireturn, 1) := by decide +kernel
-- BlockVault.currentWithRoom(I)I: labels [0, 32, 49, 73], loops []
abbrev rm_V_currentWithRoom : Room := { frames := 1, cells := 0, slots := 0, locals := 23 }
def cV_currentWithRoom_73 (X : Nat → xm_PT) (Rh : Option Value → xm_M → Prop) : xm_PT := (xo_aload 0 (xo_get 0 0 (xo_iload 3 (xo_aald ats (xo_push (.int 1) (xo_put 3 2 .int (xo_iload 3 (xo_iret Rh))))))))
def cV_currentWithRoom_49 (X : Nat → xm_PT) (Rh : Option Value → xm_M → Prop) : xm_PT := (xo_aload 0 (xo_push (.int 0) (xo_callV 0 1 0 0 cp_V_leastInState (xo_istore 3 (xo_iload 3 (xo_push (.int (-1)) (xo_icmp (fun x y => x = y) (xo_push (.int (-6)) (xo_iret Rh)) (xo_iload 2 (xo_push (.int (-1)) (xo_icmp (fun x y => x = y) (xo_jmp [0, 3] (cV_currentWithRoom_73 X Rh)) (xo_aload 0 (xo_iload 2 (xo_callV 0 1 0 0 cp_V_sealBlock (xo_jmp [0, 3] (cV_currentWithRoom_73 X Rh)))))))))))))))
def cV_currentWithRoom_32 (X : Nat → xm_PT) (Rh : Option Value → xm_M → Prop) : xm_PT := (xo_iload 2 (xo_push (.int (-1)) (xo_icmp (fun x y => x = y) (xo_jmp [0, 2] (cV_currentWithRoom_49 X Rh)) (xo_aload 0 (xo_push (.int (nI 2)) (xo_callV 0 1 0 0 cp_V_countInState (xo_push (.int (nI 3)) (xo_icmp (fun x y => x < y) (xo_jmp [0, 2] (cV_currentWithRoom_49 X Rh)) (xo_push (.int (-5)) (xo_iret Rh))))))))))
def cV_currentWithRoom_0 (X : Nat → xm_PT) (Rh : Option Value → xm_M → Prop) : xm_PT := (xo_aload 0 (xo_push (.int 1) (xo_callV 0 1 0 0 cp_V_leastInState (xo_istore 2 (xo_iload 2 (xo_push (.int (-1)) (xo_icmp (fun x y => x = y) (xo_jmp [0, 2] (cV_currentWithRoom_32 X Rh)) (xo_aload 0 (xo_get 0 0 (xo_iload 2 (xo_aald ats (xo_get 3 0 (xo_callV 2 0 0 0 cp_R_sizes (xo_iload 1 (xo_ibin (fun x y => x + y) (xo_push (.int (nI 12)) (xo_icmp (fun x y => y < x) (xo_jmp [0, 2] (cV_currentWithRoom_32 X Rh)) (xo_iload 2 (xo_iret Rh)))))))))))))))))))
def fV_currentWithRoom : xm_F := fun X Rh lb => if lb = 0 then cV_currentWithRoom_0 X Rh else fun _ _ _ _ _ => False
def cp_V_currentWithRoom : xm_CP := fun as m Rh => (lg_sl as).length ≤ 4 ∧ xm_cp fV_currentWithRoom 0 0 as m Rh
theorem eV_currentWithRoom_0 {X : Nat → xm_PT} {Rh : Option Value → xm_M → Prop} (hX : ∀ lb, xm_le (fV_currentWithRoom X Rh lb) (X lb)) {ls : xm_L} {st : List Value} {m : xm_M} {bc bs : Nat} (h : cV_currentWithRoom_0 X Rh ls st m bc bs) : X 0 ls st m bc bs := hX 0 ls st m bc bs h
set_option maxRecDepth 20000 in
set_option maxHeartbeats 4000000 in
theorem sV_currentWithRoom_73 {p : Program} {l : Launch} {e : Env} {s : State} {mm : MethodId} {args : Array Value} {below : List Frame} {meth : Method} {c : Code} {D : va_G} {A : Nat → Prop} {Rh : Option Value → xm_M → Prop} (C : xm_C p s mm args c b_V_currentWithRoom 4 "BlockVault" w_V_currentWithRoom D classes ats A) (hr : meth.sig.returnType = (some .int)) (hlk : meth.locks = false) (hnm : meth.name = "currentWithRoom") : xm_le (cV_currentWithRoom_73 (xm_A p l e rm_V_currentWithRoom s mm args below meth c 4 D classes A (MQ below (xm_Q D classes Rh A) args s 0 0 A)) Rh) ((xm_A p l e rm_V_currentWithRoom s mm args below meth c 4 D classes A (MQ below (xm_Q D classes Rh A) args s 0 0 A)) 73) :=
  (xs_aload_n C d_V_currentWithRoom_73 rfl (xs_get C (k := 0) d_V_currentWithRoom_74 h_V (ci := 0) rfl (by decide) (List.mem_cons_of_mem _ tw_81) rfl (xs_iload_n C d_V_currentWithRoom_77 rfl (xs_aald C d_V_currentWithRoom_78 (xs_iconst C d_V_currentWithRoom_79 (by decide) (xs_put C (k := 2) d_V_currentWithRoom_80 h_B t_B t_B_ok n_B (ci := 3) rfl (by decide) (List.mem_cons_of_mem _ tw_47) rfl rfl (by decide +kernel) (xs_iload_n C d_V_currentWithRoom_83 rfl (xs_iret C d_V_currentWithRoom_84 hr hlk rfl rfl))))))))
set_option maxRecDepth 20000 in
set_option maxHeartbeats 4000000 in
theorem sV_currentWithRoom_49 {p : Program} {l : Launch} {e : Env} {s : State} {mm : MethodId} {args : Array Value} {below : List Frame} {meth : Method} {c : Code} {D : va_G} {A : Nat → Prop} {Rh : Option Value → xm_M → Prop} (C : xm_C p s mm args c b_V_currentWithRoom 4 "BlockVault" w_V_currentWithRoom D classes ats A) (hr : meth.sig.returnType = (some .int)) (hlk : meth.locks = false) (hnm : meth.name = "currentWithRoom") : xm_le (cV_currentWithRoom_49 (xm_A p l e rm_V_currentWithRoom s mm args below meth c 4 D classes A (MQ below (xm_Q D classes Rh A) args s 0 0 A)) Rh) ((xm_A p l e rm_V_currentWithRoom s mm args below meth c 4 D classes A (MQ below (xm_Q D classes Rh A) args s 0 0 A)) 49) :=
  (xs_aload_n C d_V_currentWithRoom_49 rfl (xs_iconst C d_V_currentWithRoom_50 (by decide) (xs_callV C (CN := "BlockVault") (T := F_V) (N := 8) d_V_currentWithRoom_51 (met_V_leastInState l D) ⟨callB_of (ws := w_V_leastInState) (rm := rm_V_leastInState) 1 C.1.2.2.2.2 (gG_m tw_185) rfl rfl rfl (C.1.2.2.2.2 _ (List.mem_cons_of_mem _ tw_1)) (C.1.2.2.2.2 _ (List.mem_cons_of_mem _ tw_182)) ⟨by decide, by decide, by decide +kernel⟩ ⟨Nat.le_of_ble_eq_true rfl, Nat.le_of_ble_eq_true rfl⟩, (C.1.2.2.2.2 _ (List.mem_cons_of_mem _ tw_184)), (C.1.2.2.2.2 _ (List.mem_cons_of_mem _ ts_6))⟩ (ci := 0) rfl (xs_istore_n C d_V_currentWithRoom_54 rfl (by decide) (xs_iload_n C d_V_currentWithRoom_55 rfl (xs_iconst C d_V_currentWithRoom_56 (by decide) (xs_icmp_ne C d_V_currentWithRoom_57 (by decide) (xs_bipush C d_V_currentWithRoom_60 (by decide) (xs_iret C d_V_currentWithRoom_62 hr hlk rfl rfl)) (xs_iload_n C d_V_currentWithRoom_63 rfl (xs_iconst C d_V_currentWithRoom_64 (by decide) (xs_icmp_eq C d_V_currentWithRoom_65 (by decide) (xs_jmp (sV_currentWithRoom_73 C hr hlk hnm)) (xs_aload_n C d_V_currentWithRoom_68 rfl (xs_iload_n C d_V_currentWithRoom_69 rfl (xs_callV C (CN := "BlockVault") (T := F_V) (N := 8) d_V_currentWithRoom_70 (met_V_sealBlock l D) ⟨callB_of (ws := w_V_sealBlock) (rm := rm_V_sealBlock) 1 C.1.2.2.2.2 (gG_m tw_197) rfl rfl rfl (C.1.2.2.2.2 _ (List.mem_cons_of_mem _ tw_1)) (C.1.2.2.2.2 _ (List.mem_cons_of_mem _ tw_194)) ⟨by decide, by decide, by decide +kernel⟩ ⟨Nat.le_of_ble_eq_true rfl, Nat.le_of_ble_eq_true rfl⟩, (C.1.2.2.2.2 _ (List.mem_cons_of_mem _ tw_196)), (C.1.2.2.2.2 _ (List.mem_cons_of_mem _ ts_8))⟩ (ci := 0) rfl (xs_jmp (sV_currentWithRoom_73 C hr hlk hnm)))))))))))))))
set_option maxRecDepth 20000 in
set_option maxHeartbeats 4000000 in
theorem sV_currentWithRoom_32 {p : Program} {l : Launch} {e : Env} {s : State} {mm : MethodId} {args : Array Value} {below : List Frame} {meth : Method} {c : Code} {D : va_G} {A : Nat → Prop} {Rh : Option Value → xm_M → Prop} (C : xm_C p s mm args c b_V_currentWithRoom 4 "BlockVault" w_V_currentWithRoom D classes ats A) (hr : meth.sig.returnType = (some .int)) (hlk : meth.locks = false) (hnm : meth.name = "currentWithRoom") : xm_le (cV_currentWithRoom_32 (xm_A p l e rm_V_currentWithRoom s mm args below meth c 4 D classes A (MQ below (xm_Q D classes Rh A) args s 0 0 A)) Rh) ((xm_A p l e rm_V_currentWithRoom s mm args below meth c 4 D classes A (MQ below (xm_Q D classes Rh A) args s 0 0 A)) 32) :=
  (xs_iload_n C d_V_currentWithRoom_32 rfl (xs_iconst C d_V_currentWithRoom_33 (by decide) (xs_icmp_eq C d_V_currentWithRoom_34 (by decide) (xs_jmp (sV_currentWithRoom_49 C hr hlk hnm)) (xs_aload_n C d_V_currentWithRoom_37 rfl (xs_iconst C d_V_currentWithRoom_38 (by decide) (xs_callV C (CN := "BlockVault") (T := F_V) (N := 8) d_V_currentWithRoom_39 (met_V_countInState l D) ⟨callB_of (ws := w_V_countInState) (rm := rm_V_countInState) 1 C.1.2.2.2.2 (gG_m tw_193) rfl rfl rfl (C.1.2.2.2.2 _ (List.mem_cons_of_mem _ tw_1)) (C.1.2.2.2.2 _ (List.mem_cons_of_mem _ tw_190)) ⟨by decide, by decide, by decide +kernel⟩ ⟨Nat.le_of_ble_eq_true rfl, Nat.le_of_ble_eq_true rfl⟩, (C.1.2.2.2.2 _ (List.mem_cons_of_mem _ tw_192)), (C.1.2.2.2.2 _ (List.mem_cons_of_mem _ ts_7))⟩ (ci := 0) rfl (xs_iconst C d_V_currentWithRoom_42 (by decide) (xs_icmp_lt C d_V_currentWithRoom_43 (by decide) (xs_jmp (sV_currentWithRoom_49 C hr hlk hnm)) (xs_bipush C d_V_currentWithRoom_46 (by decide) (xs_iret C d_V_currentWithRoom_48 hr hlk rfl rfl))))))))))
set_option maxRecDepth 20000 in
set_option maxHeartbeats 4000000 in
theorem sV_currentWithRoom_0 {p : Program} {l : Launch} {e : Env} {s : State} {mm : MethodId} {args : Array Value} {below : List Frame} {meth : Method} {c : Code} {D : va_G} {A : Nat → Prop} {Rh : Option Value → xm_M → Prop} (C : xm_C p s mm args c b_V_currentWithRoom 4 "BlockVault" w_V_currentWithRoom D classes ats A) (hr : meth.sig.returnType = (some .int)) (hlk : meth.locks = false) (hnm : meth.name = "currentWithRoom") : xm_le (cV_currentWithRoom_0 (xm_A p l e rm_V_currentWithRoom s mm args below meth c 4 D classes A (MQ below (xm_Q D classes Rh A) args s 0 0 A)) Rh) ((xm_A p l e rm_V_currentWithRoom s mm args below meth c 4 D classes A (MQ below (xm_Q D classes Rh A) args s 0 0 A)) 0) :=
  (xs_aload_n C d_V_currentWithRoom_0 rfl (xs_iconst C d_V_currentWithRoom_1 (by decide) (xs_callV C (CN := "BlockVault") (T := F_V) (N := 8) d_V_currentWithRoom_2 (met_V_leastInState l D) ⟨callB_of (ws := w_V_leastInState) (rm := rm_V_leastInState) 1 C.1.2.2.2.2 (gG_m tw_185) rfl rfl rfl (C.1.2.2.2.2 _ (List.mem_cons_of_mem _ tw_1)) (C.1.2.2.2.2 _ (List.mem_cons_of_mem _ tw_182)) ⟨by decide, by decide, by decide +kernel⟩ ⟨Nat.le_of_ble_eq_true rfl, Nat.le_of_ble_eq_true rfl⟩, (C.1.2.2.2.2 _ (List.mem_cons_of_mem _ tw_184)), (C.1.2.2.2.2 _ (List.mem_cons_of_mem _ ts_6))⟩ (ci := 0) rfl (xs_istore_n C d_V_currentWithRoom_5 rfl (by decide) (xs_iload_n C d_V_currentWithRoom_6 rfl (xs_iconst C d_V_currentWithRoom_7 (by decide) (xs_icmp_eq C d_V_currentWithRoom_8 (by decide) (xs_jmp (sV_currentWithRoom_32 C hr hlk hnm)) (xs_aload_n C d_V_currentWithRoom_11 rfl (xs_get C (k := 0) d_V_currentWithRoom_12 h_V (ci := 0) rfl (by decide) (List.mem_cons_of_mem _ tw_81) rfl (xs_iload_n C d_V_currentWithRoom_15 rfl (xs_aald C d_V_currentWithRoom_16 (xs_get C (k := 0) d_V_currentWithRoom_17 h_B (ci := 3) rfl (by decide) (List.mem_cons_of_mem _ tw_43) rfl (xs_callV C (CN := "BlockVault$Row") (T := F_R) (N := 2) d_V_currentWithRoom_20 (met_R_sizes l D) ⟨callB_of (ws := w_R_sizes) (rm := rm_R_sizes) 0 C.1.2.2.2.2 (gG_m tw_189) rfl rfl rfl (C.1.2.2.2.2 _ (List.mem_cons_of_mem _ tw_3)) (C.1.2.2.2.2 _ (List.mem_cons_of_mem _ tw_186)) ⟨by decide, by decide, by decide +kernel⟩ ⟨Nat.le_of_ble_eq_true rfl, Nat.le_of_ble_eq_true rfl⟩, (C.1.2.2.2.2 _ (List.mem_cons_of_mem _ tw_187)), (C.1.2.2.2.2 _ (List.mem_cons_of_mem _ tw_188))⟩ (ci := 2) rfl (xs_iload_n C d_V_currentWithRoom_23 rfl (xs_iadd C d_V_currentWithRoom_24 (xs_bipush C d_V_currentWithRoom_25 (by decide) (xs_icmp_gt C d_V_currentWithRoom_27 (by decide) (xs_jmp (sV_currentWithRoom_32 C hr hlk hnm)) (xs_iload_n C d_V_currentWithRoom_30 rfl (xs_iret C d_V_currentWithRoom_31 hr hlk rfl rfl)))))))))))))))))))
theorem met_V_currentWithRoom (l : Launch) (D : va_G) : xm_Met l D classes ats y_V_currentWithRoom w_V_currentWithRoom rm_V_currentWithRoom 0 0 cp_V_currentWithRoom := by
  refine xm_met 0 (by decide) rfl rfl rfl (fun p e s mm args below meth c A Rh C hr hlk hnm lb => ?_)
  unfold fV_currentWithRoom
  split
  · rename_i h; subst h; exact sV_currentWithRoom_0 C hr hlk hnm
  · exact fun _ _ _ _ _ h => h.elim
theorem d_R_add_0 : decode b_R_add 0 = .ok (.aload_n 1, 1) := by decide +kernel
theorem d_R_add_1 : decode b_R_add 1 = .ok (.ifnull 32, 3) := by decide +kernel
theorem d_R_add_4 : decode b_R_add 4 = .ok (.aload_n 0, 1) := by decide +kernel
theorem d_R_add_5 : decode b_R_add 5 = .ok (.getfield 17, 3) := by decide +kernel
theorem d_R_add_8 : decode b_R_add 8 = .ok (.bipush 12, 2) := by decide +kernel
theorem d_R_add_10 : decode b_R_add 10 = .ok (.if_icmp .ge 23, 3) := by decide +kernel
theorem d_R_add_13 : decode b_R_add 13 = .ok (.aload_n 0, 1) := by decide +kernel
theorem d_R_add_14 : decode b_R_add 14 = .ok (.getfield 11, 3) := by decide +kernel
theorem d_R_add_17 : decode b_R_add 17 = .ok (.aload_n 0, 1) := by decide +kernel
theorem d_R_add_18 : decode b_R_add 18 = .ok (.getfield 17, 3) := by decide +kernel
theorem d_R_add_21 : decode b_R_add 21 = .ok (.aload_n 1, 1) := by decide +kernel
theorem d_R_add_22 : decode b_R_add 22 = .ok (.aastore, 1) := by decide +kernel
theorem d_R_add_23 : decode b_R_add 23 = .ok (.aload_n 0, 1) := by decide +kernel
theorem d_R_add_24 : decode b_R_add 24 = .ok (.dup, 1) := by decide +kernel
theorem d_R_add_25 : decode b_R_add 25 = .ok (.getfield 17, 3) := by decide +kernel
theorem d_R_add_28 : decode b_R_add 28 = .ok (.iconst 1, 1) := by decide +kernel
theorem d_R_add_29 : decode b_R_add 29 = .ok (.iadd, 1) := by decide +kernel
theorem d_R_add_30 : decode b_R_add 30 = .ok (.putfield 17, 3) := by decide +kernel
theorem d_R_add_33 : decode b_R_add 33 = .ok (.return_, 1) := by decide +kernel
-- BlockVault$Row.add(LBlockVault$Copy;)V: labels [0], loops []
abbrev rm_R_add : Room := { frames := 0, cells := 0, slots := 0, locals := 0 }
def cR_add_0 (X : Nat → xm_PT) (Rh : Option Value → xm_M → Prop) : xm_PT := (xo_aload 1 (xo_null (xo_vret Rh) (xo_aload 0 (xo_get 2 1 (xo_push (.int (nI 12)) (xo_icmp (fun x y => y ≤ x) (xo_vret Rh) (xo_aload 0 (xo_get 2 0 (xo_aload 0 (xo_get 2 1 (xo_aload 1 (xo_aast ats classes (xo_aload 0 (xo_dup (xo_get 2 1 (xo_push (.int 1) (xo_ibin (fun x y => x + y) (xo_put 2 1 .int (xo_vret Rh)))))))))))))))))))
def fR_add : xm_F := fun X Rh lb => if lb = 0 then cR_add_0 X Rh else fun _ _ _ _ _ => False
def cp_R_add : xm_CP := fun as m Rh => (lg_sl as).length ≤ 2 ∧ xm_cp fR_add 0 0 as m Rh
theorem eR_add_0 {X : Nat → xm_PT} {Rh : Option Value → xm_M → Prop} (hX : ∀ lb, xm_le (fR_add X Rh lb) (X lb)) {ls : xm_L} {st : List Value} {m : xm_M} {bc bs : Nat} (h : cR_add_0 X Rh ls st m bc bs) : X 0 ls st m bc bs := hX 0 ls st m bc bs h
set_option maxRecDepth 20000 in
set_option maxHeartbeats 4000000 in
theorem sR_add_0 {p : Program} {l : Launch} {e : Env} {s : State} {mm : MethodId} {args : Array Value} {below : List Frame} {meth : Method} {c : Code} {D : va_G} {A : Nat → Prop} {Rh : Option Value → xm_M → Prop} (C : xm_C p s mm args c b_R_add 2 "BlockVault$Row" w_R_add D classes ats A) (hr : meth.sig.returnType = none) (hlk : meth.locks = false) (hnm : meth.name = "add") : xm_le (cR_add_0 (xm_A p l e rm_R_add s mm args below meth c 2 D classes A (MQ below (xm_Q D classes Rh A) args s 0 0 A)) Rh) ((xm_A p l e rm_R_add s mm args below meth c 2 D classes A (MQ below (xm_Q D classes Rh A) args s 0 0 A)) 0) :=
  (xs_aload_n C d_R_add_0 rfl (xs_ifnull C d_R_add_1 (by decide) (xs_vret C d_R_add_33 hr hlk rfl rfl) (xs_aload_n C d_R_add_4 rfl (xs_get C (k := 1) d_R_add_5 h_R (ci := 2) rfl (by decide) (List.mem_cons_of_mem _ tw_35) rfl (xs_bipush C d_R_add_8 (by decide) (xs_icmp_ge C d_R_add_10 (by decide) (xs_vret C d_R_add_33 hr hlk rfl rfl) (xs_aload_n C d_R_add_13 rfl (xs_get C (k := 0) d_R_add_14 h_R (ci := 2) rfl (by decide) (List.mem_cons_of_mem _ tw_34) rfl (xs_aload_n C d_R_add_17 rfl (xs_get C (k := 1) d_R_add_18 h_R (ci := 2) rfl (by decide) (List.mem_cons_of_mem _ tw_35) rfl (xs_aload_n C d_R_add_21 rfl (xs_aast C d_R_add_22 (xs_aload_n C d_R_add_23 rfl (xs_dup C d_R_add_24 (xs_get C (k := 1) d_R_add_25 h_R (ci := 2) rfl (by decide) (List.mem_cons_of_mem _ tw_35) rfl (xs_iconst C d_R_add_28 (by decide) (xs_iadd C d_R_add_29 (xs_put C (k := 1) d_R_add_30 h_R t_R t_R_ok n_R (ci := 2) rfl (by decide) (List.mem_cons_of_mem _ tw_35) rfl rfl (by decide +kernel) (xs_vret C d_R_add_33 hr hlk rfl rfl)))))))))))))))))))
theorem met_R_add (l : Launch) (D : va_G) : xm_Met l D classes ats y_R_add w_R_add rm_R_add 0 0 cp_R_add := by
  refine xm_met 0 (by decide) rfl rfl rfl (fun p e s mm args below meth c A Rh C hr hlk hnm lb => ?_)
  unfold fR_add
  split
  · rename_i h; subst h; exact sR_add_0 C hr hlk hnm
  · exact fun _ _ _ _ _ h => h.elim
theorem d_E_point_0 : decode b_E_point 0 = .ok (.aload_n 0, 1) := by decide +kernel
theorem d_E_point_1 : decode b_E_point 1 = .ok (.aload_n 1, 1) := by decide +kernel
theorem d_E_point_2 : decode b_E_point 2 = .ok (.putfield 9, 3) := by decide +kernel
theorem d_E_point_5 : decode b_E_point 5 = .ok (.aload_n 0, 1) := by decide +kernel
theorem d_E_point_6 : decode b_E_point 6 = .ok (.iload_n 2, 1) := by decide +kernel
theorem d_E_point_7 : decode b_E_point 7 = .ok (.putfield 15, 3) := by decide +kernel
theorem d_E_point_10 : decode b_E_point 10 = .ok (.aload_n 0, 1) := by decide +kernel
theorem d_E_point_11 : decode b_E_point 11 = .ok (.iload_n 3, 1) := by decide +kernel
theorem d_E_point_12 : decode b_E_point 12 = .ok (.putfield 19, 3) := by decide +kernel
theorem d_E_point_15 : decode b_E_point 15 = .ok (.return_, 1) := by decide +kernel
-- BlockVault$Entry.point(LBlockVault$Copy;II)V: labels [0], loops []
abbrev rm_E_point : Room := { frames := 0, cells := 0, slots := 0, locals := 0 }
def cE_point_0 (X : Nat → xm_PT) (Rh : Option Value → xm_M → Prop) : xm_PT := (xo_aload 0 (xo_aload 1 (xo_put 4 0 (.object "BlockVault$Copy") (xo_aload 0 (xo_iload 2 (xo_put 4 1 .int (xo_aload 0 (xo_iload 3 (xo_put 4 2 .int (xo_vret Rh))))))))))
def fE_point : xm_F := fun X Rh lb => if lb = 0 then cE_point_0 X Rh else fun _ _ _ _ _ => False
def cp_E_point : xm_CP := fun as m Rh => (lg_sl as).length ≤ 4 ∧ xm_cp fE_point 0 0 as m Rh
theorem eE_point_0 {X : Nat → xm_PT} {Rh : Option Value → xm_M → Prop} (hX : ∀ lb, xm_le (fE_point X Rh lb) (X lb)) {ls : xm_L} {st : List Value} {m : xm_M} {bc bs : Nat} (h : cE_point_0 X Rh ls st m bc bs) : X 0 ls st m bc bs := hX 0 ls st m bc bs h
set_option maxRecDepth 20000 in
set_option maxHeartbeats 4000000 in
theorem sE_point_0 {p : Program} {l : Launch} {e : Env} {s : State} {mm : MethodId} {args : Array Value} {below : List Frame} {meth : Method} {c : Code} {D : va_G} {A : Nat → Prop} {Rh : Option Value → xm_M → Prop} (C : xm_C p s mm args c b_E_point 4 "BlockVault$Entry" w_E_point D classes ats A) (hr : meth.sig.returnType = none) (hlk : meth.locks = false) (hnm : meth.name = "point") : xm_le (cE_point_0 (xm_A p l e rm_E_point s mm args below meth c 4 D classes A (MQ below (xm_Q D classes Rh A) args s 0 0 A)) Rh) ((xm_A p l e rm_E_point s mm args below meth c 4 D classes A (MQ below (xm_Q D classes Rh A) args s 0 0 A)) 0) :=
  (xs_aload_n C d_E_point_0 rfl (xs_aload_n C d_E_point_1 rfl (xs_put C (k := 0) d_E_point_2 h_E t_E t_E_ok n_E (ci := 4) rfl (by decide) (List.mem_cons_of_mem _ tw_68) rfl rfl (by decide +kernel) (xs_aload_n C d_E_point_5 rfl (xs_iload_n C d_E_point_6 rfl (xs_put C (k := 1) d_E_point_7 h_E t_E t_E_ok n_E (ci := 4) rfl (by decide) (List.mem_cons_of_mem _ tw_70) rfl rfl (by decide +kernel) (xs_aload_n C d_E_point_10 rfl (xs_iload_n C d_E_point_11 rfl (xs_put C (k := 2) d_E_point_12 h_E t_E t_E_ok n_E (ci := 4) rfl (by decide) (List.mem_cons_of_mem _ tw_72) rfl rfl (by decide +kernel) (xs_vret C d_E_point_15 hr hlk rfl rfl))))))))))
theorem met_E_point (l : Launch) (D : va_G) : xm_Met l D classes ats y_E_point w_E_point rm_E_point 0 0 cp_E_point := by
  refine xm_met 0 (by decide) rfl rfl rfl (fun p e s mm args below meth c A Rh C hr hlk hnm lb => ?_)
  unfold fE_point
  split
  · rename_i h; subst h; exact sE_point_0 C hr hlk hnm
  · exact fun _ _ _ _ _ h => h.elim
theorem d_V_isBlock_0 : decode b_V_isBlock 0 = .ok (.iload_n 0, 1) := by decide +kernel
theorem d_V_isBlock_1 : decode b_V_isBlock 1 = .ok (.ifCond .lt 13, 3) := by decide +kernel
theorem d_V_isBlock_4 : decode b_V_isBlock 4 = .ok (.iload_n 0, 1) := by decide +kernel
theorem d_V_isBlock_5 : decode b_V_isBlock 5 = .ok (.bipush 8, 2) := by decide +kernel
theorem d_V_isBlock_7 : decode b_V_isBlock 7 = .ok (.if_icmp .ge 7, 3) := by decide +kernel
theorem d_V_isBlock_10 : decode b_V_isBlock 10 = .ok (.iconst 1, 1) := by decide +kernel
theorem d_V_isBlock_11 : decode b_V_isBlock 11 = .ok (.goto 4, 3) := by decide +kernel
theorem d_V_isBlock_14 : decode b_V_isBlock 14 = .ok (.iconst 0, 1) := by decide +kernel
theorem d_V_isBlock_15 : decode b_V_isBlock 15 = .ok (.ireturn, 1) := by decide +kernel
-- BlockVault.isBlock(I)Z: labels [0], loops []
abbrev rm_V_isBlock : Room := { frames := 0, cells := 0, slots := 0, locals := 0 }
def cV_isBlock_0 (X : Nat → xm_PT) (Rh : Option Value → xm_M → Prop) : xm_PT := (xo_iload 0 (xo_if (fun x => x < 0) (xo_push (.int 0) (xo_zret Rh)) (xo_iload 0 (xo_push (.int (nI 8)) (xo_icmp (fun x y => y ≤ x) (xo_push (.int 0) (xo_zret Rh)) (xo_push (.int 1) (xo_zret Rh)))))))
def fV_isBlock : xm_F := fun X Rh lb => if lb = 0 then cV_isBlock_0 X Rh else fun _ _ _ _ _ => False
def cp_V_isBlock : xm_CP := fun as m Rh => (lg_sl as).length ≤ 1 ∧ xm_cp fV_isBlock 0 0 as m Rh
theorem eV_isBlock_0 {X : Nat → xm_PT} {Rh : Option Value → xm_M → Prop} (hX : ∀ lb, xm_le (fV_isBlock X Rh lb) (X lb)) {ls : xm_L} {st : List Value} {m : xm_M} {bc bs : Nat} (h : cV_isBlock_0 X Rh ls st m bc bs) : X 0 ls st m bc bs := hX 0 ls st m bc bs h
set_option maxRecDepth 20000 in
set_option maxHeartbeats 4000000 in
theorem sV_isBlock_0 {p : Program} {l : Launch} {e : Env} {s : State} {mm : MethodId} {args : Array Value} {below : List Frame} {meth : Method} {c : Code} {D : va_G} {A : Nat → Prop} {Rh : Option Value → xm_M → Prop} (C : xm_C p s mm args c b_V_isBlock 1 "BlockVault" w_V_isBlock D classes ats A) (hr : meth.sig.returnType = (some .boolean)) (hlk : meth.locks = false) (hnm : meth.name = "isBlock") : xm_le (cV_isBlock_0 (xm_A p l e rm_V_isBlock s mm args below meth c 1 D classes A (MQ below (xm_Q D classes Rh A) args s 0 0 A)) Rh) ((xm_A p l e rm_V_isBlock s mm args below meth c 1 D classes A (MQ below (xm_Q D classes Rh A) args s 0 0 A)) 0) :=
  (xs_iload_n C d_V_isBlock_0 rfl (xs_if_lt C d_V_isBlock_1 (by decide) (xs_iconst C d_V_isBlock_14 (by decide) (xs_zret C d_V_isBlock_15 hr hlk rfl rfl)) (xs_iload_n C d_V_isBlock_4 rfl (xs_bipush C d_V_isBlock_5 (by decide) (xs_icmp_ge C d_V_isBlock_7 (by decide) (xs_iconst C d_V_isBlock_14 (by decide) (xs_zret C d_V_isBlock_15 hr hlk rfl rfl)) (xs_iconst C d_V_isBlock_10 (by decide) (xs_goto C d_V_isBlock_11 (by decide) (xs_zret C d_V_isBlock_15 hr hlk rfl rfl))))))))
theorem met_V_isBlock (l : Launch) (D : va_G) : xm_Met l D classes ats y_V_isBlock w_V_isBlock rm_V_isBlock 0 0 cp_V_isBlock := by
  refine xm_met 0 (by decide) rfl rfl rfl (fun p e s mm args below meth c A Rh C hr hlk hnm lb => ?_)
  unfold fV_isBlock
  split
  · rename_i h; subst h; exact sV_isBlock_0 C hr hlk hnm
  · exact fun _ _ _ _ _ h => h.elim
theorem d_V_hasLiveCopy_0 : decode b_V_hasLiveCopy 0 = .ok (.iconst 0, 1) := by decide +kernel
theorem d_V_hasLiveCopy_1 : decode b_V_hasLiveCopy 1 = .ok (.istore_n 2, 1) := by decide +kernel
theorem d_V_hasLiveCopy_2 : decode b_V_hasLiveCopy 2 = .ok (.iload_n 2, 1) := by decide +kernel
theorem d_V_hasLiveCopy_3 : decode b_V_hasLiveCopy 3 = .ok (.bipush 16, 2) := by decide +kernel
theorem d_V_hasLiveCopy_5 : decode b_V_hasLiveCopy 5 = .ok (.if_icmp .ge 24, 3) := by decide +kernel
theorem d_V_hasLiveCopy_8 : decode b_V_hasLiveCopy 8 = .ok (.aload_n 0, 1) := by decide +kernel
theorem d_V_hasLiveCopy_9 : decode b_V_hasLiveCopy 9 = .ok (.getfield 17, 3) := by decide +kernel
theorem d_V_hasLiveCopy_12 : decode b_V_hasLiveCopy 12 = .ok (.iload_n 2, 1) := by decide +kernel
theorem d_V_hasLiveCopy_13 : decode b_V_hasLiveCopy 13 = .ok (.aaload, 1) := by decide +kernel
theorem d_V_hasLiveCopy_14 : decode b_V_hasLiveCopy 14 = .ok (.getfield 157, 3) := by decide +kernel
theorem d_V_hasLiveCopy_17 : decode b_V_hasLiveCopy 17 = .ok (.iload_n 1, 1) := by decide +kernel
theorem d_V_hasLiveCopy_18 : decode b_V_hasLiveCopy 18 = .ok (.if_icmp .ne 5, 3) := by decide +kernel
theorem d_V_hasLiveCopy_21 : decode b_V_hasLiveCopy 21 = .ok (.iconst 1, 1) := by decide +kernel
theorem d_V_hasLiveCopy_22 : decode b_V_hasLiveCopy 22 = .ok (.ireturn, 1) := by decide +kernel
theorem d_V_hasLiveCopy_23 : decode b_V_hasLiveCopy 23 = .ok (.iinc 2 1, 3) := by decide +kernel
theorem d_V_hasLiveCopy_26 : decode b_V_hasLiveCopy 26 = .ok (.goto (-24), 3) := by decide +kernel
theorem d_V_hasLiveCopy_29 : decode b_V_hasLiveCopy 29 = .ok (.iconst 0, 1) := by decide +kernel
theorem d_V_hasLiveCopy_30 : decode b_V_hasLiveCopy 30 = .ok (.ireturn, 1) := by decide +kernel
-- BlockVault.hasLiveCopy(I)Z: labels [0, 2], loops [2]
abbrev rm_V_hasLiveCopy : Room := { frames := 0, cells := 0, slots := 0, locals := 0 }
def cV_hasLiveCopy_2 (X : Nat → xm_PT) (Rh : Option Value → xm_M → Prop) : xm_PT := (xo_iload 2 (xo_push (.int (nI 16)) (xo_icmp (fun x y => y ≤ x) (xo_push (.int 0) (xo_zret Rh)) (xo_aload 0 (xo_get 0 1 (xo_iload 2 (xo_aald ats (xo_get 4 1 (xo_iload 1 (xo_icmp (fun x y => x = y) (xo_push (.int 1) (xo_zret Rh)) (xo_iinc 2 1 (xo_jmp [0, 1, 2] (X 2)))))))))))))
def cV_hasLiveCopy_0 (X : Nat → xm_PT) (Rh : Option Value → xm_M → Prop) : xm_PT := (xo_push (.int 0) (xo_istore 2 (xo_jmp [0, 1, 2] (X 2))))
def fV_hasLiveCopy : xm_F := fun X Rh lb => if lb = 0 then cV_hasLiveCopy_0 X Rh else (if lb = 2 then cV_hasLiveCopy_2 X Rh else fun _ _ _ _ _ => False)
def cp_V_hasLiveCopy : xm_CP := fun as m Rh => (lg_sl as).length ≤ 3 ∧ xm_cp fV_hasLiveCopy 0 0 as m Rh
theorem eV_hasLiveCopy_0 {X : Nat → xm_PT} {Rh : Option Value → xm_M → Prop} (hX : ∀ lb, xm_le (fV_hasLiveCopy X Rh lb) (X lb)) {ls : xm_L} {st : List Value} {m : xm_M} {bc bs : Nat} (h : cV_hasLiveCopy_0 X Rh ls st m bc bs) : X 0 ls st m bc bs := hX 0 ls st m bc bs h
theorem eV_hasLiveCopy_2 {X : Nat → xm_PT} {Rh : Option Value → xm_M → Prop} (hX : ∀ lb, xm_le (fV_hasLiveCopy X Rh lb) (X lb)) {ls : xm_L} {st : List Value} {m : xm_M} {bc bs : Nat} (h : cV_hasLiveCopy_2 X Rh ls st m bc bs) : X 2 ls st m bc bs := hX 2 ls st m bc bs h
set_option maxRecDepth 20000 in
set_option maxHeartbeats 4000000 in
theorem sV_hasLiveCopy_2 {p : Program} {l : Launch} {e : Env} {s : State} {mm : MethodId} {args : Array Value} {below : List Frame} {meth : Method} {c : Code} {D : va_G} {A : Nat → Prop} {Rh : Option Value → xm_M → Prop} (C : xm_C p s mm args c b_V_hasLiveCopy 3 "BlockVault" w_V_hasLiveCopy D classes ats A) (hr : meth.sig.returnType = (some .boolean)) (hlk : meth.locks = false) (hnm : meth.name = "hasLiveCopy") : xm_le (cV_hasLiveCopy_2 (xm_A p l e rm_V_hasLiveCopy s mm args below meth c 3 D classes A (MQ below (xm_Q D classes Rh A) args s 0 0 A)) Rh) ((xm_A p l e rm_V_hasLiveCopy s mm args below meth c 3 D classes A (MQ below (xm_Q D classes Rh A) args s 0 0 A)) 2) :=
  (xs_iload_n C d_V_hasLiveCopy_2 rfl (xs_bipush C d_V_hasLiveCopy_3 (by decide) (xs_icmp_ge C d_V_hasLiveCopy_5 (by decide) (xs_iconst C d_V_hasLiveCopy_29 (by decide) (xs_zret C d_V_hasLiveCopy_30 hr hlk rfl rfl)) (xs_aload_n C d_V_hasLiveCopy_8 rfl (xs_get C (k := 1) d_V_hasLiveCopy_9 h_V (ci := 0) rfl (by decide) (List.mem_cons_of_mem _ tw_82) rfl (xs_iload_n C d_V_hasLiveCopy_12 rfl (xs_aald C d_V_hasLiveCopy_13 (xs_get C (k := 1) d_V_hasLiveCopy_14 h_E (ci := 4) rfl (by decide) (List.mem_cons_of_mem _ tw_71) rfl (xs_iload_n C d_V_hasLiveCopy_17 rfl (xs_icmp_ne C d_V_hasLiveCopy_18 (by decide) (xs_iconst C d_V_hasLiveCopy_21 (by decide) (xs_zret C d_V_hasLiveCopy_22 hr hlk rfl rfl)) (xs_iinc C d_V_hasLiveCopy_23 (by decide) (by decide) (xs_goto C d_V_hasLiveCopy_26 (by decide) (xs_jmp (fun _ _ _ _ _ h => h))))))))))))))
set_option maxRecDepth 20000 in
set_option maxHeartbeats 4000000 in
theorem sV_hasLiveCopy_0 {p : Program} {l : Launch} {e : Env} {s : State} {mm : MethodId} {args : Array Value} {below : List Frame} {meth : Method} {c : Code} {D : va_G} {A : Nat → Prop} {Rh : Option Value → xm_M → Prop} (C : xm_C p s mm args c b_V_hasLiveCopy 3 "BlockVault" w_V_hasLiveCopy D classes ats A) (hr : meth.sig.returnType = (some .boolean)) (hlk : meth.locks = false) (hnm : meth.name = "hasLiveCopy") : xm_le (cV_hasLiveCopy_0 (xm_A p l e rm_V_hasLiveCopy s mm args below meth c 3 D classes A (MQ below (xm_Q D classes Rh A) args s 0 0 A)) Rh) ((xm_A p l e rm_V_hasLiveCopy s mm args below meth c 3 D classes A (MQ below (xm_Q D classes Rh A) args s 0 0 A)) 0) :=
  (xs_iconst C d_V_hasLiveCopy_0 (by decide) (xs_istore_n C d_V_hasLiveCopy_1 rfl (by decide) (xs_jmp (fun _ _ _ _ _ h => h))))
theorem met_V_hasLiveCopy (l : Launch) (D : va_G) : xm_Met l D classes ats y_V_hasLiveCopy w_V_hasLiveCopy rm_V_hasLiveCopy 0 0 cp_V_hasLiveCopy := by
  refine xm_met 0 (by decide) rfl rfl rfl (fun p e s mm args below meth c A Rh C hr hlk hnm lb => ?_)
  unfold fV_hasLiveCopy
  split
  · rename_i h; subst h; exact sV_hasLiveCopy_0 C hr hlk hnm
  split
  · rename_i h; subst h; exact sV_hasLiveCopy_2 C hr hlk hnm
  · exact fun _ _ _ _ _ h => h.elim
theorem d_R_clear_0 : decode b_R_clear 0 = .ok (.aload_n 0, 1) := by decide +kernel
theorem d_R_clear_1 : decode b_R_clear 1 = .ok (.iconst 0, 1) := by decide +kernel
theorem d_R_clear_2 : decode b_R_clear 2 = .ok (.putfield 17, 3) := by decide +kernel
theorem d_R_clear_5 : decode b_R_clear 5 = .ok (.return_, 1) := by decide +kernel
-- BlockVault$Row.clear()V: labels [0], loops []
abbrev rm_R_clear : Room := { frames := 0, cells := 0, slots := 0, locals := 0 }
def cR_clear_0 (X : Nat → xm_PT) (Rh : Option Value → xm_M → Prop) : xm_PT := (xo_aload 0 (xo_push (.int 0) (xo_put 2 1 .int (xo_vret Rh))))
def fR_clear : xm_F := fun X Rh lb => if lb = 0 then cR_clear_0 X Rh else fun _ _ _ _ _ => False
def cp_R_clear : xm_CP := fun as m Rh => (lg_sl as).length ≤ 1 ∧ xm_cp fR_clear 0 0 as m Rh
theorem eR_clear_0 {X : Nat → xm_PT} {Rh : Option Value → xm_M → Prop} (hX : ∀ lb, xm_le (fR_clear X Rh lb) (X lb)) {ls : xm_L} {st : List Value} {m : xm_M} {bc bs : Nat} (h : cR_clear_0 X Rh ls st m bc bs) : X 0 ls st m bc bs := hX 0 ls st m bc bs h
set_option maxRecDepth 20000 in
set_option maxHeartbeats 4000000 in
theorem sR_clear_0 {p : Program} {l : Launch} {e : Env} {s : State} {mm : MethodId} {args : Array Value} {below : List Frame} {meth : Method} {c : Code} {D : va_G} {A : Nat → Prop} {Rh : Option Value → xm_M → Prop} (C : xm_C p s mm args c b_R_clear 1 "BlockVault$Row" w_R_clear D classes ats A) (hr : meth.sig.returnType = none) (hlk : meth.locks = false) (hnm : meth.name = "clear") : xm_le (cR_clear_0 (xm_A p l e rm_R_clear s mm args below meth c 1 D classes A (MQ below (xm_Q D classes Rh A) args s 0 0 A)) Rh) ((xm_A p l e rm_R_clear s mm args below meth c 1 D classes A (MQ below (xm_Q D classes Rh A) args s 0 0 A)) 0) :=
  (xs_aload_n C d_R_clear_0 rfl (xs_iconst C d_R_clear_1 (by decide) (xs_put C (k := 1) d_R_clear_2 h_R t_R t_R_ok n_R (ci := 2) rfl (by decide) (List.mem_cons_of_mem _ tw_35) rfl rfl (by decide +kernel) (xs_vret C d_R_clear_5 hr hlk rfl rfl))))
theorem met_R_clear (l : Launch) (D : va_G) : xm_Met l D classes ats y_R_clear w_R_clear rm_R_clear 0 0 cp_R_clear := by
  refine xm_met 0 (by decide) rfl rfl rfl (fun p e s mm args below meth c A Rh C hr hlk hnm lb => ?_)
  unfold fR_clear
  split
  · rename_i h; subst h; exact sR_clear_0 C hr hlk hnm
  · exact fun _ _ _ _ _ h => h.elim
