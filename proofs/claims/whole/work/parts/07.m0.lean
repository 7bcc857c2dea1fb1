theorem d_M_init_0 : decode b_M_init 0 = .ok (.aload_n 0, 1) := by decide +kernel
theorem d_M_init_1 : decode b_M_init 1 = .ok (.invokespecial 1, 3) := by decide +kernel
theorem d_M_init_4 : decode b_M_init 4 = .ok (.aload_n 0, 1) := by decide +kernel
theorem d_M_init_5 : decode b_M_init 5 = .ok (.sipush 193, 3) := by decide +kernel
theorem d_M_init_8 : decode b_M_init 8 = .ok (.newarray .boolean, 2) := by decide +kernel
theorem d_M_init_10 : decode b_M_init 10 = .ok (.putfield 7, 3) := by decide +kernel
theorem d_M_init_13 : decode b_M_init 13 = .ok (.aload_n 0, 1) := by decide +kernel
theorem d_M_init_14 : decode b_M_init 14 = .ok (.sipush 193, 3) := by decide +kernel
theorem d_M_init_17 : decode b_M_init 17 = .ok (.newarray .int, 2) := by decide +kernel
theorem d_M_init_19 : decode b_M_init 19 = .ok (.putfield 13, 3) := by decide +kernel
theorem d_M_init_22 : decode b_M_init 22 = .ok (.aload_n 0, 1) := by decide +kernel
theorem d_M_init_23 : decode b_M_init 23 = .ok (.sipush 193, 3) := by decide +kernel
theorem d_M_init_26 : decode b_M_init 26 = .ok (.newarray .int, 2) := by decide +kernel
theorem d_M_init_28 : decode b_M_init 28 = .ok (.putfield 17, 3) := by decide +kernel
theorem d_M_init_31 : decode b_M_init 31 = .ok (.aload_n 0, 1) := by decide +kernel
theorem d_M_init_32 : decode b_M_init 32 = .ok (.sipush 193, 3) := by decide +kernel
theorem d_M_init_35 : decode b_M_init 35 = .ok (.newarray .int, 2) := by decide +kernel
theorem d_M_init_37 : decode b_M_init 37 = .ok (.putfield 20, 3) := by decide +kernel
theorem d_M_init_40 : decode b_M_init 40 = .ok (.aload_n 0, 1) := by decide +kernel
theorem d_M_init_41 : decode b_M_init 41 = .ok (.sipush 193, 3) := by decide +kernel
theorem d_M_init_44 : decode b_M_init 44 = .ok (.newarray .int, 2) := by decide +kernel
theorem d_M_init_46 : decode b_M_init 46 = .ok (.putfield 23, 3) := by decide +kernel
theorem d_M_init_49 : decode b_M_init 49 = .ok (.aload_n 0, 1) := by decide +kernel
theorem d_M_init_50 : decode b_M_init 50 = .ok (.sipush 193, 3) := by decide +kernel
theorem d_M_init_53 : decode b_M_init 53 = .ok (.newarray .int, 2) := by decide +kernel
theorem d_M_init_55 : decode b_M_init 55 = .ok (.putfield 26, 3) := by decide +kernel
theorem d_M_init_58 : decode b_M_init 58 = .ok (.aload_n 0, 1) := by decide +kernel
theorem d_M_init_59 : decode b_M_init 59 = .ok (.sipush 193, 3) := by decide +kernel
theorem d_M_init_62 : decode b_M_init 62 = .ok (.newarray .int, 2) := by decide +kernel
theorem d_M_init_64 : decode b_M_init 64 = .ok (.putfield 29, 3) := by decide +kernel
theorem d_M_init_67 : decode b_M_init 67 = .ok (.aload_n 0, 1) := by decide +kernel
theorem d_M_init_68 : decode b_M_init 68 = .ok (.bipush 16, 2) := by decide +kernel
theorem d_M_init_70 : decode b_M_init 70 = .ok (.newarray .int, 2) := by decide +kernel
theorem d_M_init_72 : decode b_M_init 72 = .ok (.putfield 32, 3) := by decide +kernel
theorem d_M_init_75 : decode b_M_init 75 = .ok (.aload_n 0, 1) := by decide +kernel
theorem d_M_init_76 : decode b_M_init 76 = .ok (.bipush 8, 2) := by decide +kernel
theorem d_M_init_78 : decode b_M_init 78 = .ok (.newarray .int, 2) := by decide +kernel
theorem d_M_init_80 : decode b_M_init 80 = .ok (.putfield 35, 3) := by decide +kernel
theorem d_M_init_83 : decode b_M_init 83 = .ok (.aload_n 0, 1) := by decide +kernel
theorem d_M_init_84 : decode b_M_init 84 = .ok (.bipush 8, 2) := by decide +kernel
theorem d_M_init_86 : decode b_M_init 86 = .ok (.newarray .int, 2) := by decide +kernel
theorem d_M_init_88 : decode b_M_init 88 = .ok (.putfield 38, 3) := by decide +kernel
theorem d_M_init_91 : decode b_M_init 91 = .ok (.aload_n 0, 1) := by decide +kernel
theorem d_M_init_92 : decode b_M_init 92 = .ok (.bipush 8, 2) := by decide +kernel
theorem d_M_init_94 : decode b_M_init 94 = .ok (.newarray .int, 2) := by decide +kernel
theorem d_M_init_96 : decode b_M_init 96 = .ok (.putfield 41, 3) := by decide +kernel
theorem d_M_init_99 : decode b_M_init 99 = .ok (.aload_n 0, 1) := by decide +kernel
theorem d_M_init_100 : decode b_M_init 100 = .ok (.bipush 16, 2) := by decide +kernel
theorem d_M_init_102 : decode b_M_init 102 = .ok (.newarray .int, 2) := by decide +kernel
theorem d_M_init_104 : decode b_M_init 104 = .ok (.putfield 44, 3) := by decide +kernel
theorem d_M_init_107 : decode b_M_init 107 = .ok (.aload_n 0, 1) := by decide +kernel
theorem d_M_init_108 : decode b_M_init 108 = .ok (.iconst 1, 1) := by decide +kernel
theorem d_M_init_109 : decode b_M_init 109 = .ok (.putfield 47, 3) := by decide +kernel
theorem d_M_init_112 : decode b_M_init 112 = .ok (.iconst 0, 1) := by decide +kernel
theorem d_M_init_113 : decode b_M_init 113 = .ok (.istore_n 1, 1) := by decide +kernel
theorem d_M_init_114 : decode b_M_init 114 = .ok (.iload_n 1, 1) := by decide +kernel
theorem d_M_init_115 : decode b_M_init 115 = .ok (.bipush 16, 2) := by decide +kernel
theorem d_M_init_117 : decode b_M_init 117 = .ok (.if_icmp .ge 16, 3) := by decide +kernel
theorem d_M_init_120 : decode b_M_init 120 = .ok (.aload_n 0, 1) := by decide +kernel
theorem d_M_init_121 : decode b_M_init 121 = .ok (.getfield 44, 3) := by decide +kernel
theorem d_M_init_124 : decode b_M_init 124 = .ok (.iload_n 1, 1) := by decide +kernel
theorem d_M_init_125 : decode b_M_init 125 = .ok (.iconst (-1), 1) := by decide +kernel
theorem d_M_init_126 : decode b_M_init 126 = .ok (.iastore, 1) := by decide +kernel
theorem d_M_init_127 : decode b_M_init 127 = .ok (.iinc 1 1, 3) := by decide +kernel
theorem d_M_init_130 : decode b_M_init 130 = .ok (.goto (-16), 3) := by decide +kernel
theorem d_M_init_133 : decode b_M_init 133 = .ok (.return_, 1) := by decide +kernel
-- BlockVaultModel.<init>()V: labels [0, 114], loops [114]
abbrev rm_M_init : Room := { frames := 1, cells := 12, slots := 1407, locals := 20 }
def cM_init_114 (X : Nat → xm_PT) (Rh : Option Value → xm_M → Prop) : xm_PT := (xo_iload 1 (xo_push (.int (nI 16)) (xo_icmp (fun x y => y ≤ x) (xo_vret Rh) (xo_aload 0 (xo_get 5 11 (xo_iload 1 (xo_push (.int (-1)) (xo_iast ats (xo_iinc 1 1 (xo_jmp [0, 1] (X 114)))))))))))
def cM_init_0 (X : Nat → xm_PT) (Rh : Option Value → xm_M → Prop) : xm_PT := (xo_aload 0 (xo_drop (xo_aload 0 (xo_push (.int (nI 193)) (xo_newi 4 (xo_put 5 0 (.array .boolean) (xo_aload 0 (xo_push (.int (nI 193)) (xo_newi 3 (xo_put 5 1 (.array .int) (xo_aload 0 (xo_push (.int (nI 193)) (xo_newi 3 (xo_put 5 2 (.array .int) (xo_aload 0 (xo_push (.int (nI 193)) (xo_newi 3 (xo_put 5 3 (.array .int) (xo_aload 0 (xo_push (.int (nI 193)) (xo_newi 3 (xo_put 5 4 (.array .int) (xo_aload 0 (xo_push (.int (nI 193)) (xo_newi 3 (xo_put 5 5 (.array .int) (xo_aload 0 (xo_push (.int (nI 193)) (xo_newi 3 (xo_put 5 6 (.array .int) (xo_aload 0 (xo_push (.int (nI 16)) (xo_newi 3 (xo_put 5 7 (.array .int) (xo_aload 0 (xo_push (.int (nI 8)) (xo_newi 3 (xo_put 5 8 (.array .int) (xo_aload 0 (xo_push (.int (nI 8)) (xo_newi 3 (xo_put 5 9 (.array .int) (xo_aload 0 (xo_push (.int (nI 8)) (xo_newi 3 (xo_put 5 10 (.array .int) (xo_aload 0 (xo_push (.int (nI 16)) (xo_newi 3 (xo_put 5 11 (.array .int) (xo_aload 0 (xo_push (.int 1) (xo_put 5 13 .int (xo_push (.int 0) (xo_istore 1 (xo_jmp [0, 1] (X 114)))))))))))))))))))))))))))))))))))))))))))))))))))))))))
def fM_init : xm_F := fun X Rh lb => if lb = 0 then cM_init_0 X Rh else (if lb = 114 then cM_init_114 X Rh else fun _ _ _ _ _ => False)
def cp_M_init : xm_CP := fun as m Rh => (lg_sl as).length ≤ 2 ∧ xm_cp fM_init 12 1407 as m Rh
theorem eM_init_0 {X : Nat → xm_PT} {Rh : Option Value → xm_M → Prop} (hX : ∀ lb, xm_le (fM_init X Rh lb) (X lb)) {ls : xm_L} {st : List Value} {m : xm_M} {bc bs : Nat} (h : cM_init_0 X Rh ls st m bc bs) : X 0 ls st m bc bs := hX 0 ls st m bc bs h
theorem eM_init_114 {X : Nat → xm_PT} {Rh : Option Value → xm_M → Prop} (hX : ∀ lb, xm_le (fM_init X Rh lb) (X lb)) {ls : xm_L} {st : List Value} {m : xm_M} {bc bs : Nat} (h : cM_init_114 X Rh ls st m bc bs) : X 114 ls st m bc bs := hX 114 ls st m bc bs h
set_option maxRecDepth 20000 in
set_option maxHeartbeats 4000000 in
theorem sM_init_114 {p : Program} {l : Launch} {e : Env} {s : State} {mm : MethodId} {args : Array Value} {below : List Frame} {meth : Method} {c : Code} {D : va_G} {A : Nat → Prop} {Rh : Option Value → xm_M → Prop} (C : xm_C p s mm args c b_M_init 2 "BlockVaultModel" w_M_init D classes ats A) (hr : meth.sig.returnType = none) (hlk : meth.locks = false) (hnm : meth.name = "<init>") : xm_le (cM_init_114 (xm_A p l e rm_M_init s mm args below meth c 2 D classes A (MQ below (xm_Q D classes Rh A) args s 12 1407 A)) Rh) ((xm_A p l e rm_M_init s mm args below meth c 2 D classes A (MQ below (xm_Q D classes Rh A) args s 12 1407 A)) 114) :=
  (xs_iload_n C d_M_init_114 rfl (xs_bipush C d_M_init_115 (by decide) (xs_icmp_ge C d_M_init_117 (by decide) (xs_vret C d_M_init_133 hr hlk rfl rfl) (xs_aload_n C d_M_init_120 rfl (xs_get C (k := 11) d_M_init_121 h_M (ci := 5) rfl (by decide) (List.mem_cons_of_mem _ tw_432) rfl (xs_iload_n C d_M_init_124 rfl (xs_iconst C d_M_init_125 (by decide) (xs_iast C d_M_init_126 (xs_iinc C d_M_init_127 (by decide) (by decide) (xs_goto C d_M_init_130 (by decide) (xs_jmp (fun _ _ _ _ _ h => h))))))))))))
set_option maxRecDepth 20000 in
set_option maxHeartbeats 4000000 in
theorem sM_init_0 {p : Program} {l : Launch} {e : Env} {s : State} {mm : MethodId} {args : Array Value} {below : List Frame} {meth : Method} {c : Code} {D : va_G} {A : Nat → Prop} {Rh : Option Value → xm_M → Prop} (C : xm_C p s mm args c b_M_init 2 "BlockVaultModel" w_M_init D classes ats A) (hr : meth.sig.returnType = none) (hlk : meth.locks = false) (hnm : meth.name = "<init>") : xm_le (cM_init_0 (xm_A p l e rm_M_init s mm args below meth c 2 D classes A (MQ below (xm_Q D classes Rh A) args s 12 1407 A)) Rh) ((xm_A p l e rm_M_init s mm args below meth c 2 D classes A (MQ below (xm_Q D classes Rh A) args s 12 1407 A)) 0) :=
  (xs_aload_n C d_M_init_0 rfl (xs_obj C d_M_init_1 (List.mem_cons_of_mem _ tw_420) (List.mem_cons_of_mem _ tw_15) (List.mem_cons_of_mem _ tw_16) (by decide) (by decide) (xs_aload_n C d_M_init_4 rfl (xs_sipush C d_M_init_5 (by decide) (xs_newz C (t := 4) d_M_init_8 rfl (List.mem_cons_of_mem _ tw_476) (xs_putF C (k := 0) d_M_init_10 h_M t_M t_M_ok n_M (ci := 5) rfl (by decide) (List.mem_cons_of_mem _ tw_421) rfl rfl hnm rfl (by decide +kernel) (xs_aload_n C d_M_init_13 rfl (xs_sipush C d_M_init_14 (by decide) (xs_newi C (t := 3) d_M_init_17 rfl (List.mem_cons_of_mem _ tw_477) (xs_putF C (k := 1) d_M_init_19 h_M t_M t_M_ok n_M (ci := 5) rfl (by decide) (List.mem_cons_of_mem _ tw_422) rfl rfl hnm rfl (by decide +kernel) (xs_aload_n C d_M_init_22 rfl (xs_sipush C d_M_init_23 (by decide) (xs_newi C (t := 3) d_M_init_26 rfl (List.mem_cons_of_mem _ tw_477) (xs_putF C (k := 2) d_M_init_28 h_M t_M t_M_ok n_M (ci := 5) rfl (by decide) (List.mem_cons_of_mem _ tw_423) rfl rfl hnm rfl (by decide +kernel) (xs_aload_n C d_M_init_31 rfl (xs_sipush C d_M_init_32 (by decide) (xs_newi C (t := 3) d_M_init_35 rfl (List.mem_cons_of_mem _ tw_477) (xs_putF C (k := 3) d_M_init_37 h_M t_M t_M_ok n_M (ci := 5) rfl (by decide) (List.mem_cons_of_mem _ tw_424) rfl rfl hnm rfl (by decide +kernel) (xs_aload_n C d_M_init_40 rfl (xs_sipush C d_M_init_41 (by decide) (xs_newi C (t := 3) d_M_init_44 rfl (List.mem_cons_of_mem _ tw_477) (xs_putF C (k := 4) d_M_init_46 h_M t_M t_M_ok n_M (ci := 5) rfl (by decide) (List.mem_cons_of_mem _ tw_425) rfl rfl hnm rfl (by decide +kernel) (xs_aload_n C d_M_init_49 rfl (xs_sipush C d_M_init_50 (by decide) (xs_newi C (t := 3) d_M_init_53 rfl (List.mem_cons_of_mem _ tw_477) (xs_putF C (k := 5) d_M_init_55 h_M t_M t_M_ok n_M (ci := 5) rfl (by decide) (List.mem_cons_of_mem _ tw_426) rfl rfl hnm rfl (by decide +kernel) (xs_aload_n C d_M_init_58 rfl (xs_sipush C d_M_init_59 (by decide) (xs_newi C (t := 3) d_M_init_62 rfl (List.mem_cons_of_mem _ tw_477) (xs_putF C (k := 6) d_M_init_64 h_M t_M t_M_ok n_M (ci := 5) rfl (by decide) (List.mem_cons_of_mem _ tw_427) rfl rfl hnm rfl (by decide +kernel) (xs_aload_n C d_M_init_67 rfl (xs_bipush C d_M_init_68 (by decide) (xs_newi C (t := 3) d_M_init_70 rfl (List.mem_cons_of_mem _ tw_477) (xs_putF C (k := 7) d_M_init_72 h_M t_M t_M_ok n_M (ci := 5) rfl (by decide) (List.mem_cons_of_mem _ tw_428) rfl rfl hnm rfl (by decide +kernel) (xs_aload_n C d_M_init_75 rfl (xs_bipush C d_M_init_76 (by decide) (xs_newi C (t := 3) d_M_init_78 rfl (List.mem_cons_of_mem _ tw_477) (xs_putF C (k := 8) d_M_init_80 h_M t_M t_M_ok n_M (ci := 5) rfl (by decide) (List.mem_cons_of_mem _ tw_429) rfl rfl hnm rfl (by decide +kernel) (xs_aload_n C d_M_init_83 rfl (xs_bipush C d_M_init_84 (by decide) (xs_newi C (t := 3) d_M_init_86 rfl (List.mem_cons_of_mem _ tw_477) (xs_putF C (k := 9) d_M_init_88 h_M t_M t_M_ok n_M (ci := 5) rfl (by decide) (List.mem_cons_of_mem _ tw_430) rfl rfl hnm rfl (by decide +kernel) (xs_aload_n C d_M_init_91 rfl (xs_bipush C d_M_init_92 (by decide) (xs_newi C (t := 3) d_M_init_94 rfl (List.mem_cons_of_mem _ tw_477) (xs_putF C (k := 10) d_M_init_96 h_M t_M t_M_ok n_M (ci := 5) rfl (by decide) (List.mem_cons_of_mem _ tw_431) rfl rfl hnm rfl (by decide +kernel) (xs_aload_n C d_M_init_99 rfl (xs_bipush C d_M_init_100 (by decide) (xs_newi C (t := 3) d_M_init_102 rfl (List.mem_cons_of_mem _ tw_477) (xs_putF C (k := 11) d_M_init_104 h_M t_M t_M_ok n_M (ci := 5) rfl (by decide) (List.mem_cons_of_mem _ tw_432) rfl rfl hnm rfl (by decide +kernel) (xs_aload_n C d_M_init_107 rfl (xs_iconst C d_M_init_108 (by decide) (xs_put C (k := 13) d_M_init_109 h_M t_M t_M_ok n_M (ci := 5) rfl (by decide) (List.mem_cons_of_mem _ tw_434) rfl rfl (by decide +kernel) (xs_iconst C d_M_init_112 (by decide) (xs_istore_n C d_M_init_113 rfl (by decide) (xs_jmp (fun _ _ _ _ _ h => h)))))))))))))))))))))))))))))))))))))))))))))))))))))))))
theorem met_M_init (l : Launch) (D : va_G) : xm_Met l D classes ats y_M_init w_M_init rm_M_init 12 1407 cp_M_init := by
  refine xm_met 0 (by decide) rfl rfl rfl (fun p e s mm args below meth c A Rh C hr hlk hnm lb => ?_)
  unfold fM_init
  split
  · rename_i h; subst h; exact sM_init_0 C hr hlk hnm
  split
  · rename_i h; subst h; exact sM_init_114 C hr hlk hnm
  · exact fun _ _ _ _ _ h => h.elim
theorem d_M_in_0 : decode b_M_in 0 = .ok (.iload_n 0, 1) := by decide +kernel
theorem d_M_in_1 : decode b_M_in 1 = .ok (.iload_n 1, 1) := by decide +kernel
theorem d_M_in_2 : decode b_M_in 2 = .ok (.if_icmp .lt 12, 3) := by decide +kernel
theorem d_M_in_5 : decode b_M_in 5 = .ok (.iload_n 0, 1) := by decide +kernel
theorem d_M_in_6 : decode b_M_in 6 = .ok (.iload_n 2, 1) := by decide +kernel
theorem d_M_in_7 : decode b_M_in 7 = .ok (.if_icmp .gt 7, 3) := by decide +kernel
theorem d_M_in_10 : decode b_M_in 10 = .ok (.iconst 1, 1) := by decide +kernel
theorem d_M_in_11 : decode b_M_in 11 = .ok (.goto 4, 3) := by decide +kernel
theorem d_M_in_14 : decode b_M_in 14 = .ok (.iconst 0, 1) := by decide +kernel
theorem d_M_in_15 : decode b_M_in 15 = .ok (.ireturn, 1) := by decide +kernel
-- BlockVaultModel.in(III)Z: labels [0], loops []
abbrev rm_M_in : Room := { frames := 0, cells := 0, slots := 0, locals := 0 }
def cM_in_0 (X : Nat → xm_PT) (Rh : Option Value → xm_M → Prop) : xm_PT := (xo_iload 0 (xo_iload 1 (xo_icmp (fun x y => x < y) (xo_push (.int 0) (xo_zret Rh)) (xo_iload 0 (xo_iload 2 (xo_icmp (fun x y => y < x) (xo_push (.int 0) (xo_zret Rh)) (xo_push (.int 1) (xo_zret Rh))))))))
def fM_in : xm_F := fun X Rh lb => if lb = 0 then cM_in_0 X Rh else fun _ _ _ _ _ => False
def cp_M_in : xm_CP := fun as m Rh => (lg_sl as).length ≤ 3 ∧ xm_cp fM_in 0 0 as m Rh
theorem eM_in_0 {X : Nat → xm_PT} {Rh : Option Value → xm_M → Prop} (hX : ∀ lb, xm_le (fM_in X Rh lb) (X lb)) {ls : xm_L} {st : List Value} {m : xm_M} {bc bs : Nat} (h : cM_in_0 X Rh ls st m bc bs) : X 0 ls st m bc bs := hX 0 ls st m bc bs h
set_option maxRecDepth 20000 in
set_option maxHeartbeats 4000000 in
theorem sM_in_0 {p : Program} {l : Launch} {e : Env} {s : State} {mm : MethodId} {args : Array Value} {below : List Frame} {meth : Method} {c : Code} {D : va_G} {A : Nat → Prop} {Rh : Option Value → xm_M → Prop} (C : xm_C p s mm args c b_M_in 3 "BlockVaultModel" w_M_in D classes ats A) (hr : meth.sig.returnType = (some .boolean)) (hlk : meth.locks = false) (hnm : meth.name = "in") : xm_le (cM_in_0 (xm_A p l e rm_M_in s mm args below meth c 3 D classes A (MQ below (xm_Q D classes Rh A) args s 0 0 A)) Rh) ((xm_A p l e rm_M_in s mm args below meth c 3 D classes A (MQ below (xm_Q D classes Rh A) args s 0 0 A)) 0) :=
  (xs_iload_n C d_M_in_0 rfl (xs_iload_n C d_M_in_1 rfl (xs_icmp_lt C d_M_in_2 (by decide) (xs_iconst C d_M_in_14 (by decide) (xs_zret C d_M_in_15 hr hlk rfl rfl)) (xs_iload_n C d_M_in_5 rfl (xs_iload_n C d_M_in_6 rfl (xs_icmp_gt C d_M_in_7 (by decide) (xs_iconst C d_M_in_14 (by decide) (xs_zret C d_M_in_15 hr hlk rfl rfl)) (xs_iconst C d_M_in_10 (by decide) (xs_goto C d_M_in_11 (by decide) (xs_zret C d_M_in_15 hr hlk rfl rfl)))))))))
theorem met_M_in (l : Launch) (D : va_G) : xm_Met l D classes ats y_M_in w_M_in rm_M_in 0 0 cp_M_in := by
  refine xm_met 0 (by decide) rfl rfl rfl (fun p e s mm args below meth c A Rh C hr hlk hnm lb => ?_)
  unfold fM_in
  split
  · rename_i h; subst h; exact sM_in_0 C hr hlk hnm
  · exact fun _ _ _ _ _ h => h.elim
theorem d_M_expired_0 : decode b_M_expired 0 = .ok (.aload_n 0, 1) := by decide +kernel
theorem d_M_expired_1 : decode b_M_expired 1 = .ok (.getfield 7, 3) := by decide +kernel
theorem d_M_expired_4 : decode b_M_expired 4 = .ok (.iload_n 1, 1) := by decide +kernel
theorem d_M_expired_5 : decode b_M_expired 5 = .ok (.baload, 1) := by decide +kernel
theorem d_M_expired_6 : decode b_M_expired 6 = .ok (.ifCond .ne 29, 3) := by decide +kernel
theorem d_M_expired_9 : decode b_M_expired 9 = .ok (.aload_n 0, 1) := by decide +kernel
theorem d_M_expired_10 : decode b_M_expired 10 = .ok (.getfield 26, 3) := by decide +kernel
theorem d_M_expired_13 : decode b_M_expired 13 = .ok (.iload_n 1, 1) := by decide +kernel
theorem d_M_expired_14 : decode b_M_expired 14 = .ok (.iaload, 1) := by decide +kernel
theorem d_M_expired_15 : decode b_M_expired 15 = .ok (.ifCond .eq 20, 3) := by decide +kernel
theorem d_M_expired_18 : decode b_M_expired 18 = .ok (.aload_n 0, 1) := by decide +kernel
theorem d_M_expired_19 : decode b_M_expired 19 = .ok (.getfield 26, 3) := by decide +kernel
theorem d_M_expired_22 : decode b_M_expired 22 = .ok (.iload_n 1, 1) := by decide +kernel
theorem d_M_expired_23 : decode b_M_expired 23 = .ok (.iaload, 1) := by decide +kernel
theorem d_M_expired_24 : decode b_M_expired 24 = .ok (.aload_n 0, 1) := by decide +kernel
theorem d_M_expired_25 : decode b_M_expired 25 = .ok (.getfield 51, 3) := by decide +kernel
theorem d_M_expired_28 : decode b_M_expired 28 = .ok (.if_icmp .gt 7, 3) := by decide +kernel
theorem d_M_expired_31 : decode b_M_expired 31 = .ok (.iconst 1, 1) := by decide +kernel
theorem d_M_expired_32 : decode b_M_expired 32 = .ok (.goto 4, 3) := by decide +kernel
theorem d_M_expired_35 : decode b_M_expired 35 = .ok (.iconst 0, 1) := by decide +kernel
theorem d_M_expired_36 : decode b_M_expired 36 = .ok (.ireturn, 1) := by decide +kernel
-- BlockVaultModel.expired(I)Z: labels [0], loops []
abbrev rm_M_expired : Room := { frames := 0, cells := 0, slots := 0, locals := 0 }
def cM_expired_0 (X : Nat → xm_PT) (Rh : Option Value → xm_M → Prop) : xm_PT := (xo_aload 0 (xo_get 5 0 (xo_iload 1 (xo_zald ats (xo_if (fun x => x = 0) (xo_aload 0 (xo_get 5 5 (xo_iload 1 (xo_iald ats (xo_if (fun x => x = 0) (xo_push (.int 0) (xo_zret Rh)) (xo_aload 0 (xo_get 5 5 (xo_iload 1 (xo_iald ats (xo_aload 0 (xo_get 5 12 (xo_icmp (fun x y => y < x) (xo_push (.int 0) (xo_zret Rh)) (xo_push (.int 1) (xo_zret Rh)))))))))))))) (xo_push (.int 0) (xo_zret Rh)))))))
def fM_expired : xm_F := fun X Rh lb => if lb = 0 then cM_expired_0 X Rh else fun _ _ _ _ _ => False
def cp_M_expired : xm_CP := fun as m Rh => (lg_sl as).length ≤ 2 ∧ xm_cp fM_expired 0 0 as m Rh
theorem eM_expired_0 {X : Nat → xm_PT} {Rh : Option Value → xm_M → Prop} (hX : ∀ lb, xm_le (fM_expired X Rh lb) (X lb)) {ls : xm_L} {st : List Value} {m : xm_M} {bc bs : Nat} (h : cM_expired_0 X Rh ls st m bc bs) : X 0 ls st m bc bs := hX 0 ls st m bc bs h
set_option maxRecDepth 20000 in
set_option maxHeartbeats 4000000 in
theorem sM_expired_0 {p : Program} {l : Launch} {e : Env} {s : State} {mm : MethodId} {args : Array Value} {below : List Frame} {meth : Method} {c : Code} {D : va_G} {A : Nat → Prop} {Rh : Option Value → xm_M → Prop} (C : xm_C p s mm args c b_M_expired 2 "BlockVaultModel" w_M_expired D classes ats A) (hr : meth.sig.returnType = (some .boolean)) (hlk : meth.locks = false) (hnm : meth.name = "expired") : xm_le (cM_expired_0 (xm_A p l e rm_M_expired s mm args below meth c 2 D classes A (MQ below (xm_Q D classes Rh A) args s 0 0 A)) Rh) ((xm_A p l e rm_M_expired s mm args below meth c 2 D classes A (MQ below (xm_Q D classes Rh A) args s 0 0 A)) 0) :=
  (xs_aload_n C d_M_expired_0 rfl (xs_get C (k := 0) d_M_expired_1 h_M (ci := 5) rfl (by decide) (List.mem_cons_of_mem _ tw_421) rfl (xs_iload_n C d_M_expired_4 rfl (xs_zald C d_M_expired_5 (xs_if_ne C d_M_expired_6 (by decide) (xs_aload_n C d_M_expired_9 rfl (xs_get C (k := 5) d_M_expired_10 h_M (ci := 5) rfl (by decide) (List.mem_cons_of_mem _ tw_426) rfl (xs_iload_n C d_M_expired_13 rfl (xs_iald C d_M_expired_14 (xs_if_eq C d_M_expired_15 (by decide) (xs_iconst C d_M_expired_35 (by decide) (xs_zret C d_M_expired_36 hr hlk rfl rfl)) (xs_aload_n C d_M_expired_18 rfl (xs_get C (k := 5) d_M_expired_19 h_M (ci := 5) rfl (by decide) (List.mem_cons_of_mem _ tw_426) rfl (xs_iload_n C d_M_expired_22 rfl (xs_iald C d_M_expired_23 (xs_aload_n C d_M_expired_24 rfl (xs_get C (k := 12) d_M_expired_25 h_M (ci := 5) rfl (by decide) (List.mem_cons_of_mem _ tw_433) rfl (xs_icmp_gt C d_M_expired_28 (by decide) (xs_iconst C d_M_expired_35 (by decide) (xs_zret C d_M_expired_36 hr hlk rfl rfl)) (xs_iconst C d_M_expired_31 (by decide) (xs_goto C d_M_expired_32 (by decide) (xs_zret C d_M_expired_36 hr hlk rfl rfl))))))))))))))) (xs_iconst C d_M_expired_35 (by decide) (xs_zret C d_M_expired_36 hr hlk rfl rfl)))))))
theorem met_M_expired (l : Launch) (D : va_G) : xm_Met l D classes ats y_M_expired w_M_expired rm_M_expired 0 0 cp_M_expired := by
  refine xm_met 0 (by decide) rfl rfl rfl (fun p e s mm args below meth c A Rh C hr hlk hnm lb => ?_)
  unfold fM_expired
  split
  · rename_i h; subst h; exact sM_expired_0 C hr hlk hnm
  · exact fun _ _ _ _ _ h => h.elim
theorem d_M_isThere_0 : decode b_M_isThere 0 = .ok (.aload_n 0, 1) := by decide +kernel
theorem d_M_isThere_1 : decode b_M_isThere 1 = .ok (.getfield 44, 3) := by decide +kernel
theorem d_M_isThere_4 : decode b_M_isThere 4 = .ok (.iload_n 1, 1) := by decide +kernel
theorem d_M_isThere_5 : decode b_M_isThere 5 = .ok (.iaload, 1) := by decide +kernel
theorem d_M_isThere_6 : decode b_M_isThere 6 = .ok (.ifCond .lt 34, 3) := by decide +kernel
theorem d_M_isThere_9 : decode b_M_isThere 9 = .ok (.aload_n 0, 1) := by decide +kernel
theorem d_M_isThere_10 : decode b_M_isThere 10 = .ok (.getfield 7, 3) := by decide +kernel
theorem d_M_isThere_13 : decode b_M_isThere 13 = .ok (.aload_n 0, 1) := by decide +kernel
theorem d_M_isThere_14 : decode b_M_isThere 14 = .ok (.getfield 44, 3) := by decide +kernel
theorem d_M_isThere_17 : decode b_M_isThere 17 = .ok (.iload_n 1, 1) := by decide +kernel
theorem d_M_isThere_18 : decode b_M_isThere 18 = .ok (.iaload, 1) := by decide +kernel
theorem d_M_isThere_19 : decode b_M_isThere 19 = .ok (.baload, 1) := by decide +kernel
theorem d_M_isThere_20 : decode b_M_isThere 20 = .ok (.ifCond .ne 20, 3) := by decide +kernel
theorem d_M_isThere_23 : decode b_M_isThere 23 = .ok (.aload_n 0, 1) := by decide +kernel
theorem d_M_isThere_24 : decode b_M_isThere 24 = .ok (.aload_n 0, 1) := by decide +kernel
theorem d_M_isThere_25 : decode b_M_isThere 25 = .ok (.getfield 44, 3) := by decide +kernel
theorem d_M_isThere_28 : decode b_M_isThere 28 = .ok (.iload_n 1, 1) := by decide +kernel
theorem d_M_isThere_29 : decode b_M_isThere 29 = .ok (.iaload, 1) := by decide +kernel
theorem d_M_isThere_30 : decode b_M_isThere 30 = .ok (.invokevirtual 54, 3) := by decide +kernel
theorem d_M_isThere_33 : decode b_M_isThere 33 = .ok (.ifCond .ne 7, 3) := by decide +kernel
theorem d_M_isThere_36 : decode b_M_isThere 36 = .ok (.iconst 1, 1) := by decide +kernel
theorem d_M_isThere_37 : decode b_M_isThere 37 = .ok (.goto 4, 3) := by decide +kernel
theorem d_M_isThere_40 : decode b_M_isThere 40 = .ok (.iconst 0, 1) := by decide +kernel
theorem d_M_isThere_41 : decode b_M_isThere 41 = .ok (.ireturn, 1) := by decide +kernel
-- BlockVaultModel.isThere(I)Z: labels [0], loops []
abbrev rm_M_isThere : Room := { frames := 1, cells := 0, slots := 0, locals := 21 }
def cM_isThere_0 (X : Nat → xm_PT) (Rh : Option Value → xm_M → Prop) : xm_PT := (xo_aload 0 (xo_get 5 11 (xo_iload 1 (xo_iald ats (xo_if (fun x => x < 0) (xo_push (.int 0) (xo_zret Rh)) (xo_aload 0 (xo_get 5 0 (xo_aload 0 (xo_get 5 11 (xo_iload 1 (xo_iald ats (xo_zald ats (xo_if (fun x => x = 0) (xo_aload 0 (xo_aload 0 (xo_get 5 11 (xo_iload 1 (xo_iald ats (xo_callV 5 1 0 0 cp_M_expired (xo_if (fun x => x = 0) (xo_push (.int 1) (xo_zret Rh)) (xo_push (.int 0) (xo_zret Rh))))))))) (xo_push (.int 0) (xo_zret Rh)))))))))))))))
def fM_isThere : xm_F := fun X Rh lb => if lb = 0 then cM_isThere_0 X Rh else fun _ _ _ _ _ => False
def cp_M_isThere : xm_CP := fun as m Rh => (lg_sl as).length ≤ 2 ∧ xm_cp fM_isThere 0 0 as m Rh
theorem eM_isThere_0 {X : Nat → xm_PT} {Rh : Option Value → xm_M → Prop} (hX : ∀ lb, xm_le (fM_isThere X Rh lb) (X lb)) {ls : xm_L} {st : List Value} {m : xm_M} {bc bs : Nat} (h : cM_isThere_0 X Rh ls st m bc bs) : X 0 ls st m bc bs := hX 0 ls st m bc bs h
set_option maxRecDepth 20000 in
set_option maxHeartbeats 4000000 in
theorem sM_isThere_0 {p : Program} {l : Launch} {e : Env} {s : State} {mm : MethodId} {args : Array Value} {below : List Frame} {meth : Method} {c : Code} {D : va_G} {A : Nat → Prop} {Rh : Option Value → xm_M → Prop} (C : xm_C p s mm args c b_M_isThere 2 "BlockVaultModel" w_M_isThere D classes ats A) (hr : meth.sig.returnType = (some .boolean)) (hlk : meth.locks = false) (hnm : meth.name = "isThere") : xm_le (cM_isThere_0 (xm_A p l e rm_M_isThere s mm args below meth c 2 D classes A (MQ below (xm_Q D classes Rh A) args s 0 0 A)) Rh) ((xm_A p l e rm_M_isThere s mm args below meth c 2 D classes A (MQ below (xm_Q D classes Rh A) args s 0 0 A)) 0) :=
  (xs_aload_n C d_M_isThere_0 rfl (xs_get C (k := 11) d_M_isThere_1 h_M (ci := 5) rfl (by decide) (List.mem_cons_of_mem _ tw_432) rfl (xs_iload_n C d_M_isThere_4 rfl (xs_iald C d_M_isThere_5 (xs_if_lt C d_M_isThere_6 (by decide) (xs_iconst C d_M_isThere_40 (by decide) (xs_zret C d_M_isThere_41 hr hlk rfl rfl)) (xs_aload_n C d_M_isThere_9 rfl (xs_get C (k := 0) d_M_isThere_10 h_M (ci := 5) rfl (by decide) (List.mem_cons_of_mem _ tw_421) rfl (xs_aload_n C d_M_isThere_13 rfl (xs_get C (k := 11) d_M_isThere_14 h_M (ci := 5) rfl (by decide) (List.mem_cons_of_mem _ tw_432) rfl (xs_iload_n C d_M_isThere_17 rfl (xs_iald C d_M_isThere_18 (xs_zald C d_M_isThere_19 (xs_if_ne C d_M_isThere_20 (by decide) (xs_aload_n C d_M_isThere_23 rfl (xs_aload_n C d_M_isThere_24 rfl (xs_get C (k := 11) d_M_isThere_25 h_M (ci := 5) rfl (by decide) (List.mem_cons_of_mem _ tw_432) rfl (xs_iload_n C d_M_isThere_28 rfl (xs_iald C d_M_isThere_29 (xs_callV C (CN := "BlockVaultModel") (T := F_M) (N := 18) d_M_isThere_30 (met_M_expired l D) ⟨callB_of (ws := w_M_expired) (rm := rm_M_expired) 1 C.1.2.2.2.2 (gG_m tw_492) rfl rfl rfl (C.1.2.2.2.2 _ (List.mem_cons_of_mem _ tw_5)) (C.1.2.2.2.2 _ (List.mem_cons_of_mem _ tw_489)) ⟨by decide, by decide, by decide +kernel⟩ ⟨Nat.le_of_ble_eq_true rfl, Nat.le_of_ble_eq_true rfl⟩, (C.1.2.2.2.2 _ (List.mem_cons_of_mem _ tw_491)), (C.1.2.2.2.2 _ (List.mem_cons_of_mem _ ts_34))⟩ (ci := 5) rfl (xs_if_ne C d_M_isThere_33 (by decide) (xs_iconst C d_M_isThere_36 (by decide) (xs_goto C d_M_isThere_37 (by decide) (xs_zret C d_M_isThere_41 hr hlk rfl rfl))) (xs_iconst C d_M_isThere_40 (by decide) (xs_zret C d_M_isThere_41 hr hlk rfl rfl))))))))) (xs_iconst C d_M_isThere_40 (by decide) (xs_zret C d_M_isThere_41 hr hlk rfl rfl)))))))))))))))
theorem met_M_isThere (l : Launch) (D : va_G) : xm_Met l D classes ats y_M_isThere w_M_isThere rm_M_isThere 0 0 cp_M_isThere := by
  refine xm_met 0 (by decide) rfl rfl rfl (fun p e s mm args below meth c A Rh C hr hlk hnm lb => ?_)
  unfold fM_isThere
  split
  · rename_i h; subst h; exact sM_isThere_0 C hr hlk hnm
  · exact fun _ _ _ _ _ h => h.elim
theorem d_M_first_0 : decode b_M_first 0 = .ok (.iconst (-1), 1) := by decide +kernel
theorem d_M_first_1 : decode b_M_first 1 = .ok (.istore_n 2, 1) := by decide +kernel
theorem d_M_first_2 : decode b_M_first 2 = .ok (.bipush 7, 2) := by decide +kernel
theorem d_M_first_4 : decode b_M_first 4 = .ok (.istore_n 3, 1) := by decide +kernel
theorem d_M_first_5 : decode b_M_first 5 = .ok (.iload_n 3, 1) := by decide +kernel
theorem d_M_first_6 : decode b_M_first 6 = .ok (.ifCond .lt 45, 3) := by decide +kernel
theorem d_M_first_9 : decode b_M_first 9 = .ok (.aload_n 0, 1) := by decide +kernel
theorem d_M_first_10 : decode b_M_first 10 = .ok (.getfield 35, 3) := by decide +kernel
theorem d_M_first_13 : decode b_M_first 13 = .ok (.iload_n 3, 1) := by decide +kernel
theorem d_M_first_14 : decode b_M_first 14 = .ok (.iaload, 1) := by decide +kernel
theorem d_M_first_15 : decode b_M_first 15 = .ok (.iload_n 1, 1) := by decide +kernel
theorem d_M_first_16 : decode b_M_first 16 = .ok (.if_icmp .ne 29, 3) := by decide +kernel
theorem d_M_first_19 : decode b_M_first 19 = .ok (.iload_n 2, 1) := by decide +kernel
theorem d_M_first_20 : decode b_M_first 20 = .ok (.ifCond .lt 23, 3) := by decide +kernel
theorem d_M_first_23 : decode b_M_first 23 = .ok (.iload_n 1, 1) := by decide +kernel
theorem d_M_first_24 : decode b_M_first 24 = .ok (.iconst 2, 1) := by decide +kernel
theorem d_M_first_25 : decode b_M_first 25 = .ok (.if_icmp .ne 18, 3) := by decide +kernel
theorem d_M_first_28 : decode b_M_first 28 = .ok (.aload_n 0, 1) := by decide +kernel
theorem d_M_first_29 : decode b_M_first 29 = .ok (.getfield 38, 3) := by decide +kernel
theorem d_M_first_32 : decode b_M_first 32 = .ok (.iload_n 3, 1) := by decide +kernel
theorem d_M_first_33 : decode b_M_first 33 = .ok (.iaload, 1) := by decide +kernel
theorem d_M_first_34 : decode b_M_first 34 = .ok (.aload_n 0, 1) := by decide +kernel
theorem d_M_first_35 : decode b_M_first 35 = .ok (.getfield 38, 3) := by decide +kernel
theorem d_M_first_38 : decode b_M_first 38 = .ok (.iload_n 2, 1) := by decide +kernel
theorem d_M_first_39 : decode b_M_first 39 = .ok (.iaload, 1) := by decide +kernel
theorem d_M_first_40 : decode b_M_first 40 = .ok (.if_icmp .ge 5, 3) := by decide +kernel
theorem d_M_first_43 : decode b_M_first 43 = .ok (.iload_n 3, 1) := by decide +kernel
theorem d_M_first_44 : decode b_M_first 44 = .ok (.istore_n 2, 1) := by decide +kernel
theorem d_M_first_45 : decode b_M_first 45 = .ok (.iinc 3 (-1), 3) := by decide +kernel
theorem d_M_first_48 : decode b_M_first 48 = .ok (.goto (-43), 3) := by decide +kernel
theorem d_M_first_51 : decode b_M_first 51 = .ok (.iload_n 2, 1) := by decide +kernel
theorem d_M_first_52 : decode b_M_first 52 = .ok (.ireturn, 1) := by decide +kernel
-- BlockVaultModel.first(I)I: labels [0, 5], loops [5]
abbrev rm_M_first : Room := { frames := 0, cells := 0, slots := 0, locals := 0 }
def cM_first_5 (X : Nat → xm_PT) (Rh : Option Value → xm_M → Prop) : xm_PT := (xo_iload 3 (xo_if (fun x => x < 0) (xo_iload 2 (xo_iret Rh)) (xo_aload 0 (xo_get 5 8 (xo_iload 3 (xo_iald ats (xo_iload 1 (xo_icmp (fun x y => x = y) (xo_iload 2 (xo_if (fun x => x < 0) (xo_iload 3 (xo_istore 2 (xo_iinc 3 (-1) (xo_jmp [0, 1, 2, 3] (X 5))))) (xo_iload 1 (xo_push (.int (nI 2)) (xo_icmp (fun x y => x = y) (xo_aload 0 (xo_get 5 9 (xo_iload 3 (xo_iald ats (xo_aload 0 (xo_get 5 9 (xo_iload 2 (xo_iald ats (xo_icmp (fun x y => y ≤ x) (xo_iinc 3 (-1) (xo_jmp [0, 1, 2, 3] (X 5))) (xo_iload 3 (xo_istore 2 (xo_iinc 3 (-1) (xo_jmp [0, 1, 2, 3] (X 5)))))))))))))) (xo_iload 3 (xo_istore 2 (xo_iinc 3 (-1) (xo_jmp [0, 1, 2, 3] (X 5)))))))))) (xo_iinc 3 (-1) (xo_jmp [0, 1, 2, 3] (X 5)))))))))))
def cM_first_0 (X : Nat → xm_PT) (Rh : Option Value → xm_M → Prop) : xm_PT := (xo_push (.int (-1)) (xo_istore 2 (xo_push (.int (nI 7)) (xo_istore 3 (xo_jmp [0, 1, 2, 3] (X 5))))))
def fM_first : xm_F := fun X Rh lb => if lb = 0 then cM_first_0 X Rh else (if lb = 5 then cM_first_5 X Rh else fun _ _ _ _ _ => False)
def cp_M_first : xm_CP := fun as m Rh => (lg_sl as).length ≤ 4 ∧ xm_cp fM_first 0 0 as m Rh
theorem eM_first_0 {X : Nat → xm_PT} {Rh : Option Value → xm_M → Prop} (hX : ∀ lb, xm_le (fM_first X Rh lb) (X lb)) {ls : xm_L} {st : List Value} {m : xm_M} {bc bs : Nat} (h : cM_first_0 X Rh ls st m bc bs) : X 0 ls st m bc bs := hX 0 ls st m bc bs h
theorem eM_first_5 {X : Nat → xm_PT} {Rh : Option Value → xm_M → Prop} (hX : ∀ lb, xm_le (fM_first X Rh lb) (X lb)) {ls : xm_L} {st : List Value} {m : xm_M} {bc bs : Nat} (h : cM_first_5 X Rh ls st m bc bs) : X 5 ls st m bc bs := hX 5 ls st m bc bs h
set_option maxRecDepth 20000 in
set_option maxHeartbeats 4000000 in
theorem sM_first_5 {p : Program} {l : Launch} {e : Env} {s : State} {mm : MethodId} {args : Array Value} {below : List Frame} {meth : Method} {c : Code} {D : va_G} {A : Nat → Prop} {Rh : Option Value → xm_M → Prop} (C : xm_C p s mm args c b_M_first 4 "BlockVaultModel" w_M_first D classes ats A) (hr : meth.sig.returnType = (some .int)) (hlk : meth.locks = false) (hnm : meth.name = "first") : xm_le (cM_first_5 (xm_A p l e rm_M_first s mm args below meth c 4 D classes A (MQ below (xm_Q D classes Rh A) args s 0 0 A)) Rh) ((xm_A p l e rm_M_first s mm args below meth c 4 D classes A (MQ below (xm_Q D classes Rh A) args s 0 0 A)) 5) :=
  (xs_iload_n C d_M_first_5 rfl (xs_if_lt C d_M_first_6 (by decide) (xs_iload_n C d_M_first_51 rfl (xs_iret C d_M_first_52 hr hlk rfl rfl)) (xs_aload_n C d_M_first_9 rfl (xs_get C (k := 8) d_M_first_10 h_M (ci := 5) rfl (by decide) (List.mem_cons_of_mem _ tw_429) rfl (xs_iload_n C d_M_first_13 rfl (xs_iald C d_M_first_14 (xs_iload_n C d_M_first_15 rfl (xs_icmp_ne C d_M_first_16 (by decide) (xs_iload_n C d_M_first_19 rfl (xs_if_lt C d_M_first_20 (by decide) (xs_iload_n C d_M_first_43 rfl (xs_istore_n C d_M_first_44 rfl (by decide) (xs_iinc C d_M_first_45 (by decide) (by decide) (xs_goto C d_M_first_48 (by decide) (xs_jmp (fun _ _ _ _ _ h => h)))))) (xs_iload_n C d_M_first_23 rfl (xs_iconst C d_M_first_24 (by decide) (xs_icmp_ne C d_M_first_25 (by decide) (xs_aload_n C d_M_first_28 rfl (xs_get C (k := 9) d_M_first_29 h_M (ci := 5) rfl (by decide) (List.mem_cons_of_mem _ tw_430) rfl (xs_iload_n C d_M_first_32 rfl (xs_iald C d_M_first_33 (xs_aload_n C d_M_first_34 rfl (xs_get C (k := 9) d_M_first_35 h_M (ci := 5) rfl (by decide) (List.mem_cons_of_mem _ tw_430) rfl (xs_iload_n C d_M_first_38 rfl (xs_iald C d_M_first_39 (xs_icmp_ge C d_M_first_40 (by decide) (xs_iinc C d_M_first_45 (by decide) (by decide) (xs_goto C d_M_first_48 (by decide) (xs_jmp (fun _ _ _ _ _ h => h)))) (xs_iload_n C d_M_first_43 rfl (xs_istore_n C d_M_first_44 rfl (by decide) (xs_iinc C d_M_first_45 (by decide) (by decide) (xs_goto C d_M_first_48 (by decide) (xs_jmp (fun _ _ _ _ _ h => h))))))))))))))) (xs_iload_n C d_M_first_43 rfl (xs_istore_n C d_M_first_44 rfl (by decide) (xs_iinc C d_M_first_45 (by decide) (by decide) (xs_goto C d_M_first_48 (by decide) (xs_jmp (fun _ _ _ _ _ h => h))))))))))) (xs_iinc C d_M_first_45 (by decide) (by decide) (xs_goto C d_M_first_48 (by decide) (xs_jmp (fun _ _ _ _ _ h => h))))))))))))
set_option maxRecDepth 20000 in
set_option maxHeartbeats 4000000 in
theorem sM_first_0 {p : Program} {l : Launch} {e : Env} {s : State} {mm : MethodId} {args : Array Value} {below : List Frame} {meth : Method} {c : Code} {D : va_G} {A : Nat → Prop} {Rh : Option Value → xm_M → Prop} (C : xm_C p s mm args c b_M_first 4 "BlockVaultModel" w_M_first D classes ats A) (hr : meth.sig.returnType = (some .int)) (hlk : meth.locks = false) (hnm : meth.name = "first") : xm_le (cM_first_0 (xm_A p l e rm_M_first s mm args below meth c 4 D classes A (MQ below (xm_Q D classes Rh A) args s 0 0 A)) Rh) ((xm_A p l e rm_M_first s mm args below meth c 4 D classes A (MQ below (xm_Q D classes Rh A) args s 0 0 A)) 0) :=
  (xs_iconst C d_M_first_0 (by decide) (xs_istore_n C d_M_first_1 rfl (by decide) (xs_bipush C d_M_first_2 (by decide) (xs_istore_n C d_M_first_4 rfl (by decide) (xs_jmp (fun _ _ _ _ _ h => h))))))
theorem met_M_first (l : Launch) (D : va_G) : xm_Met l D classes ats y_M_first w_M_first rm_M_first 0 0 cp_M_first := by
  refine xm_met 0 (by decide) rfl rfl rfl (fun p e s mm args below meth c A Rh C hr hlk hnm lb => ?_)
  unfold fM_first
  split
  · rename_i h; subst h; exact sM_first_0 C hr hlk hnm
  split
  · rename_i h; subst h; exact sM_first_5 C hr hlk hnm
  · exact fun _ _ _ _ _ h => h.elim
theorem d_M_room_0 : decode b_M_room 0 = .ok (.bipush 12, 2) := by decide +kernel
theorem d_M_room_2 : decode b_M_room 2 = .ok (.istore_n 2, 1) := by decide +kernel
theorem d_M_room_3 : decode b_M_room 3 = .ok (.bipush 12, 2) := by decide +kernel
theorem d_M_room_5 : decode b_M_room 5 = .ok (.iload_n 1, 1) := by decide +kernel
theorem d_M_room_6 : decode b_M_room 6 = .ok (.imul, 1) := by decide +kernel
theorem d_M_room_7 : decode b_M_room 7 = .ok (.istore_n 3, 1) := by decide +kernel
theorem d_M_room_8 : decode b_M_room 8 = .ok (.iload_n 3, 1) := by decide +kernel
theorem d_M_room_9 : decode b_M_room 9 = .ok (.bipush 12, 2) := by decide +kernel
theorem d_M_room_11 : decode b_M_room 11 = .ok (.iload_n 1, 1) := by decide +kernel
theorem d_M_room_12 : decode b_M_room 12 = .ok (.imul, 1) := by decide +kernel
theorem d_M_room_13 : decode b_M_room 13 = .ok (.aload_n 0, 1) := by decide +kernel
theorem d_M_room_14 : decode b_M_room 14 = .ok (.getfield 32, 3) := by decide +kernel
theorem d_M_room_17 : decode b_M_room 17 = .ok (.iload_n 1, 1) := by decide +kernel
theorem d_M_room_18 : decode b_M_room 18 = .ok (.iaload, 1) := by decide +kernel
theorem d_M_room_19 : decode b_M_room 19 = .ok (.iadd, 1) := by decide +kernel
theorem d_M_room_20 : decode b_M_room 20 = .ok (.if_icmp .ge 18, 3) := by decide +kernel
theorem d_M_room_23 : decode b_M_room 23 = .ok (.iload_n 2, 1) := by decide +kernel
theorem d_M_room_24 : decode b_M_room 24 = .ok (.aload_n 0, 1) := by decide +kernel
theorem d_M_room_25 : decode b_M_room 25 = .ok (.getfield 20, 3) := by decide +kernel
theorem d_M_room_28 : decode b_M_room 28 = .ok (.iload_n 3, 1) := by decide +kernel
theorem d_M_room_29 : decode b_M_room 29 = .ok (.iaload, 1) := by decide +kernel
theorem d_M_room_30 : decode b_M_room 30 = .ok (.isub, 1) := by decide +kernel
theorem d_M_room_31 : decode b_M_room 31 = .ok (.istore_n 2, 1) := by decide +kernel
theorem d_M_room_32 : decode b_M_room 32 = .ok (.iinc 3 1, 3) := by decide +kernel
theorem d_M_room_35 : decode b_M_room 35 = .ok (.goto (-27), 3) := by decide +kernel
theorem d_M_room_38 : decode b_M_room 38 = .ok (.iload_n 2, 1) := by decide +kernel
theorem d_M_room_39 : decode b_M_room 39 = .ok (.ireturn, 1) := by decide +kernel
-- BlockVaultModel.room(I)I: labels [0, 8], loops [8]
abbrev rm_M_room : Room := { frames := 0, cells := 0, slots := 0, locals := 0 }
def cM_room_8 (X : Nat → xm_PT) (Rh : Option Value → xm_M → Prop) : xm_PT := (xo_iload 3 (xo_push (.int (nI 12)) (xo_iload 1 (xo_ibin (fun x y => x * y) (xo_aload 0 (xo_get 5 7 (xo_iload 1 (xo_iald ats (xo_ibin (fun x y => x + y) (xo_icmp (fun x y => y ≤ x) (xo_iload 2 (xo_iret Rh)) (xo_iload 2 (xo_aload 0 (xo_get 5 3 (xo_iload 3 (xo_iald ats (xo_ibin (fun x y => x - y) (xo_istore 2 (xo_iinc 3 1 (xo_jmp [0, 1, 2, 3] (X 8))))))))))))))))))))
def cM_room_0 (X : Nat → xm_PT) (Rh : Option Value → xm_M → Prop) : xm_PT := (xo_push (.int (nI 12)) (xo_istore 2 (xo_push (.int (nI 12)) (xo_iload 1 (xo_ibin (fun x y => x * y) (xo_istore 3 (xo_jmp [0, 1, 2, 3] (X 8))))))))
def fM_room : xm_F := fun X Rh lb => if lb = 0 then cM_room_0 X Rh else (if lb = 8 then cM_room_8 X Rh else fun _ _ _ _ _ => False)
def cp_M_room : xm_CP := fun as m Rh => (lg_sl as).length ≤ 4 ∧ xm_cp fM_room 0 0 as m Rh
theorem eM_room_0 {X : Nat → xm_PT} {Rh : Option Value → xm_M → Prop} (hX : ∀ lb, xm_le (fM_room X Rh lb) (X lb)) {ls : xm_L} {st : List Value} {m : xm_M} {bc bs : Nat} (h : cM_room_0 X Rh ls st m bc bs) : X 0 ls st m bc bs := hX 0 ls st m bc bs h
theorem eM_room_8 {X : Nat → xm_PT} {Rh : Option Value → xm_M → Prop} (hX : ∀ lb, xm_le (fM_room X Rh lb) (X lb)) {ls : xm_L} {st : List Value} {m : xm_M} {bc bs : Nat} (h : cM_room_8 X Rh ls st m bc bs) : X 8 ls st m bc bs := hX 8 ls st m bc bs h
set_option maxRecDepth 20000 in
set_option maxHeartbeats 4000000 in
theorem sM_room_8 {p : Program} {l : Launch} {e : Env} {s : State} {mm : MethodId} {args : Array Value} {below : List Frame} {meth : Method} {c : Code} {D : va_G} {A : Nat → Prop} {Rh : Option Value → xm_M → Prop} (C : xm_C p s mm args c b_M_room 4 "BlockVaultModel" w_M_room D classes ats A) (hr : meth.sig.returnType = (some .int)) (hlk : meth.locks = false) (hnm : meth.name = "room") : xm_le (cM_room_8 (xm_A p l e rm_M_room s mm args below meth c 4 D classes A (MQ below (xm_Q D classes Rh A) args s 0 0 A)) Rh) ((xm_A p l e rm_M_room s mm args below meth c 4 D classes A (MQ below (xm_Q D classes Rh A) args s 0 0 A)) 8) :=
  (xs_iload_n C d_M_room_8 rfl (xs_bipush C d_M_room_9 (by decide) (xs_iload_n C d_M_room_11 rfl (xs_imul C d_M_room_12 (xs_aload_n C d_M_room_13 rfl (xs_get C (k := 7) d_M_room_14 h_M (ci := 5) rfl (by decide) (List.mem_cons_of_mem _ tw_428) rfl (xs_iload_n C d_M_room_17 rfl (xs_iald C d_M_room_18 (xs_iadd C d_M_room_19 (xs_icmp_ge C d_M_room_20 (by decide) (xs_iload_n C d_M_room_38 rfl (xs_iret C d_M_room_39 hr hlk rfl rfl)) (xs_iload_n C d_M_room_23 rfl (xs_aload_n C d_M_room_24 rfl (xs_get C (k := 3) d_M_room_25 h_M (ci := 5) rfl (by decide) (List.mem_cons_of_mem _ tw_424) rfl (xs_iload_n C d_M_room_28 rfl (xs_iald C d_M_room_29 (xs_isub C d_M_room_30 (xs_istore_n C d_M_room_31 rfl (by decide) (xs_iinc C d_M_room_32 (by decide) (by decide) (xs_goto C d_M_room_35 (by decide) (xs_jmp (fun _ _ _ _ _ h => h)))))))))))))))))))))
set_option maxRecDepth 20000 in
set_option maxHeartbeats 4000000 in
theorem sM_room_0 {p : Program} {l : Launch} {e : Env} {s : State} {mm : MethodId} {args : Array Value} {below : List Frame} {meth : Method} {c : Code} {D : va_G} {A : Nat → Prop} {Rh : Option Value → xm_M → Prop} (C : xm_C p s mm args c b_M_room 4 "BlockVaultModel" w_M_room D classes ats A) (hr : meth.sig.returnType = (some .int)) (hlk : meth.locks = false) (hnm : meth.name = "room") : xm_le (cM_room_0 (xm_A p l e rm_M_room s mm args below meth c 4 D classes A (MQ below (xm_Q D classes Rh A) args s 0 0 A)) Rh) ((xm_A p l e rm_M_room s mm args below meth c 4 D classes A (MQ below (xm_Q D classes Rh A) args s 0 0 A)) 0) :=
  (xs_bipush C d_M_room_0 (by decide) (xs_istore_n C d_M_room_2 rfl (by decide) (xs_bipush C d_M_room_3 (by decide) (xs_iload_n C d_M_room_5 rfl (xs_imul C d_M_room_6 (xs_istore_n C d_M_room_7 rfl (by decide) (xs_jmp (fun _ _ _ _ _ h => h))))))))
theorem met_M_room (l : Launch) (D : va_G) : xm_Met l D classes ats y_M_room w_M_room rm_M_room 0 0 cp_M_room := by
  refine xm_met 0 (by decide) rfl rfl rfl (fun p e s mm args below meth c A Rh C hr hlk hnm lb => ?_)
  unfold fM_room
  split
  · rename_i h; subst h; exact sM_room_0 C hr hlk hnm
  split
  · rename_i h; subst h; exact sM_room_8 C hr hlk hnm
  · exact fun _ _ _ _ _ h => h.elim
theorem d_M_sealed_0 : decode b_M_sealed 0 = .ok (.iconst 0, 1) := by decide +kernel
theorem d_M_sealed_1 : decode b_M_sealed 1 = .ok (.istore_n 1, 1) := by decide +kernel
theorem d_M_sealed_2 : decode b_M_sealed 2 = .ok (.iconst 0, 1) := by decide +kernel
theorem d_M_sealed_3 : decode b_M_sealed 3 = .ok (.istore_n 2, 1) := by decide +kernel
theorem d_M_sealed_4 : decode b_M_sealed 4 = .ok (.iload_n 2, 1) := by decide +kernel
theorem d_M_sealed_5 : decode b_M_sealed 5 = .ok (.bipush 8, 2) := by decide +kernel
theorem d_M_sealed_7 : decode b_M_sealed 7 = .ok (.if_icmp .ge 22, 3) := by decide +kernel
theorem d_M_sealed_10 : decode b_M_sealed 10 = .ok (.aload_n 0, 1) := by decide +kernel
theorem d_M_sealed_11 : decode b_M_sealed 11 = .ok (.getfield 35, 3) := by decide +kernel
theorem d_M_sealed_14 : decode b_M_sealed 14 = .ok (.iload_n 2, 1) := by decide +kernel
theorem d_M_sealed_15 : decode b_M_sealed 15 = .ok (.iaload, 1) := by decide +kernel
theorem d_M_sealed_16 : decode b_M_sealed 16 = .ok (.iconst 2, 1) := by decide +kernel
theorem d_M_sealed_17 : decode b_M_sealed 17 = .ok (.if_icmp .ne 6, 3) := by decide +kernel
theorem d_M_sealed_20 : decode b_M_sealed 20 = .ok (.iinc 1 1, 3) := by decide +kernel
theorem d_M_sealed_23 : decode b_M_sealed 23 = .ok (.iinc 2 1, 3) := by decide +kernel
theorem d_M_sealed_26 : decode b_M_sealed 26 = .ok (.goto (-22), 3) := by decide +kernel
theorem d_M_sealed_29 : decode b_M_sealed 29 = .ok (.iload_n 1, 1) := by decide +kernel
theorem d_M_sealed_30 : decode b_M_sealed 30 = .ok (.ireturn, 1) := by decide +kernel
-- BlockVaultModel.sealed()I: labels [0, 4], loops [4]
abbrev rm_M_sealed : Room := { frames := 0, cells := 0, slots := 0, locals := 0 }
def cM_sealed_4 (X : Nat → xm_PT) (Rh : Option Value → xm_M → Prop) : xm_PT := (xo_iload 2 (xo_push (.int (nI 8)) (xo_icmp (fun x y => y ≤ x) (xo_iload 1 (xo_iret Rh)) (xo_aload 0 (xo_get 5 8 (xo_iload 2 (xo_iald ats (xo_push (.int (nI 2)) (xo_icmp (fun x y => x = y) (xo_iinc 1 1 (xo_iinc 2 1 (xo_jmp [0, 1, 2] (X 4)))) (xo_iinc 2 1 (xo_jmp [0, 1, 2] (X 4))))))))))))
def cM_sealed_0 (X : Nat → xm_PT) (Rh : Option Value → xm_M → Prop) : xm_PT := (xo_push (.int 0) (xo_istore 1 (xo_push (.int 0) (xo_istore 2 (xo_jmp [0, 1, 2] (X 4))))))
def fM_sealed : xm_F := fun X Rh lb => if lb = 0 then cM_sealed_0 X Rh else (if lb = 4 then cM_sealed_4 X Rh else fun _ _ _ _ _ => False)
def cp_M_sealed : xm_CP := fun as m Rh => (lg_sl as).length ≤ 3 ∧ xm_cp fM_sealed 0 0 as m Rh
theorem eM_sealed_0 {X : Nat → xm_PT} {Rh : Option Value → xm_M → Prop} (hX : ∀ lb, xm_le (fM_sealed X Rh lb) (X lb)) {ls : xm_L} {st : List Value} {m : xm_M} {bc bs : Nat} (h : cM_sealed_0 X Rh ls st m bc bs) : X 0 ls st m bc bs := hX 0 ls st m bc bs h
theorem eM_sealed_4 {X : Nat → xm_PT} {Rh : Option Value → xm_M → Prop} (hX : ∀ lb, xm_le (fM_sealed X Rh lb) (X lb)) {ls : xm_L} {st : List Value} {m : xm_M} {bc bs : Nat} (h : cM_sealed_4 X Rh ls st m bc bs) : X 4 ls st m bc bs := hX 4 ls st m bc bs h
set_option maxRecDepth 20000 in
set_option maxHeartbeats 4000000 in
theorem sM_sealed_4 {p : Program} {l : Launch} {e : Env} {s : State} {mm : MethodId} {args : Array Value} {below : List Frame} {meth : Method} {c : Code} {D : va_G} {A : Nat → Prop} {Rh : Option Value → xm_M → Prop} (C : xm_C p s mm args c b_M_sealed 3 "BlockVaultModel" w_M_sealed D classes ats A) (hr : meth.sig.returnType = (some .int)) (hlk : meth.locks = false) (hnm : meth.name = "sealed") : xm_le (cM_sealed_4 (xm_A p l e rm_M_sealed s mm args below meth c 3 D classes A (MQ below (xm_Q D classes Rh A) args s 0 0 A)) Rh) ((xm_A p l e rm_M_sealed s mm args below meth c 3 D classes A (MQ below (xm_Q D classes Rh A) args s 0 0 A)) 4) :=
  (xs_iload_n C d_M_sealed_4 rfl (xs_bipush C d_M_sealed_5 (by decide) (xs_icmp_ge C d_M_sealed_7 (by decide) (xs_iload_n C d_M_sealed_29 rfl (xs_iret C d_M_sealed_30 hr hlk rfl rfl)) (xs_aload_n C d_M_sealed_10 rfl (xs_get C (k := 8) d_M_sealed_11 h_M (ci := 5) rfl (by decide) (List.mem_cons_of_mem _ tw_429) rfl (xs_iload_n C d_M_sealed_14 rfl (xs_iald C d_M_sealed_15 (xs_iconst C d_M_sealed_16 (by decide) (xs_icmp_ne C d_M_sealed_17 (by decide) (xs_iinc C d_M_sealed_20 (by decide) (by decide) (xs_iinc C d_M_sealed_23 (by decide) (by decide) (xs_goto C d_M_sealed_26 (by decide) (xs_jmp (fun _ _ _ _ _ h => h))))) (xs_iinc C d_M_sealed_23 (by decide) (by decide) (xs_goto C d_M_sealed_26 (by decide) (xs_jmp (fun _ _ _ _ _ h => h)))))))))))))
set_option maxRecDepth 20000 in
set_option maxHeartbeats 4000000 in
theorem sM_sealed_0 {p : Program} {l : Launch} {e : Env} {s : State} {mm : MethodId} {args : Array Value} {below : List Frame} {meth : Method} {c : Code} {D : va_G} {A : Nat → Prop} {Rh : Option Value → xm_M → Prop} (C : xm_C p s mm args c b_M_sealed 3 "BlockVaultModel" w_M_sealed D classes ats A) (hr : meth.sig.returnType = (some .int)) (hlk : meth.locks = false) (hnm : meth.name = "sealed") : xm_le (cM_sealed_0 (xm_A p l e rm_M_sealed s mm args below meth c 3 D classes A (MQ below (xm_Q D classes Rh A) args s 0 0 A)) Rh) ((xm_A p l e rm_M_sealed s mm args below meth c 3 D classes A (MQ below (xm_Q D classes Rh A) args s 0 0 A)) 0) :=
  (xs_iconst C d_M_sealed_0 (by decide) (xs_istore_n C d_M_sealed_1 rfl (by decide) (xs_iconst C d_M_sealed_2 (by decide) (xs_istore_n C d_M_sealed_3 rfl (by decide) (xs_jmp (fun _ _ _ _ _ h => h))))))
theorem met_M_sealed (l : Launch) (D : va_G) : xm_Met l D classes ats y_M_sealed w_M_sealed rm_M_sealed 0 0 cp_M_sealed := by
  refine xm_met 0 (by decide) rfl rfl rfl (fun p e s mm args below meth c A Rh C hr hlk hnm lb => ?_)
  unfold fM_sealed
  split
  · rename_i h; subst h; exact sM_sealed_0 C hr hlk hnm
  split
  · rename_i h; subst h; exact sM_sealed_4 C hr hlk hnm
  · exact fun _ _ _ _ _ h => h.elim
theorem d_M_close_0 : decode b_M_close 0 = .ok (.aload_n 0, 1) := by decide +kernel
theorem d_M_close_1 : decode b_M_close 1 = .ok (.getfield 35, 3) := by decide +kernel
theorem d_M_close_4 : decode b_M_close 4 = .ok (.iload_n 1, 1) := by decide +kernel
theorem d_M_close_5 : decode b_M_close 5 = .ok (.iconst 2, 1) := by decide +kernel
theorem d_M_close_6 : decode b_M_close 6 = .ok (.iastore, 1) := by decide +kernel
theorem d_M_close_7 : decode b_M_close 7 = .ok (.aload_n 0, 1) := by decide +kernel
theorem d_M_close_8 : decode b_M_close 8 = .ok (.dup, 1) := by decide +kernel
theorem d_M_close_9 : decode b_M_close 9 = .ok (.getfield 62, 3) := by decide +kernel
theorem d_M_close_12 : decode b_M_close 12 = .ok (.iconst 1, 1) := by decide +kernel
theorem d_M_close_13 : decode b_M_close 13 = .ok (.iadd, 1) := by decide +kernel
theorem d_M_close_14 : decode b_M_close 14 = .ok (.putfield 62, 3) := by decide +kernel
theorem d_M_close_17 : decode b_M_close 17 = .ok (.aload_n 0, 1) := by decide +kernel
theorem d_M_close_18 : decode b_M_close 18 = .ok (.getfield 38, 3) := by decide +kernel
theorem d_M_close_21 : decode b_M_close 21 = .ok (.iload_n 1, 1) := by decide +kernel
theorem d_M_close_22 : decode b_M_close 22 = .ok (.aload_n 0, 1) := by decide +kernel
theorem d_M_close_23 : decode b_M_close 23 = .ok (.getfield 62, 3) := by decide +kernel
theorem d_M_close_26 : decode b_M_close 26 = .ok (.iastore, 1) := by decide +kernel
theorem d_M_close_27 : decode b_M_close 27 = .ok (.return_, 1) := by decide +kernel
-- BlockVaultModel.close(I)V: labels [0], loops []
abbrev rm_M_close : Room := { frames := 0, cells := 0, slots := 0, locals := 0 }
def cM_close_0 (X : Nat → xm_PT) (Rh : Option Value → xm_M → Prop) : xm_PT := (xo_aload 0 (xo_get 5 8 (xo_iload 1 (xo_push (.int (nI 2)) (xo_iast ats (xo_aload 0 (xo_dup (xo_get 5 14 (xo_push (.int 1) (xo_ibin (fun x y => x + y) (xo_put 5 14 .int (xo_aload 0 (xo_get 5 9 (xo_iload 1 (xo_aload 0 (xo_get 5 14 (xo_iast ats (xo_vret Rh))))))))))))))))))
def fM_close : xm_F := fun X Rh lb => if lb = 0 then cM_close_0 X Rh else fun _ _ _ _ _ => False
def cp_M_close : xm_CP := fun as m Rh => (lg_sl as).length ≤ 2 ∧ xm_cp fM_close 0 0 as m Rh
theorem eM_close_0 {X : Nat → xm_PT} {Rh : Option Value → xm_M → Prop} (hX : ∀ lb, xm_le (fM_close X Rh lb) (X lb)) {ls : xm_L} {st : List Value} {m : xm_M} {bc bs : Nat} (h : cM_close_0 X Rh ls st m bc bs) : X 0 ls st m bc bs := hX 0 ls st m bc bs h
set_option maxRecDepth 20000 in
set_option maxHeartbeats 4000000 in
theorem sM_close_0 {p : Program} {l : Launch} {e : Env} {s : State} {mm : MethodId} {args : Array Value} {below : List Frame} {meth : Method} {c : Code} {D : va_G} {A : Nat → Prop} {Rh : Option Value → xm_M → Prop} (C : xm_C p s mm args c b_M_close 2 "BlockVaultModel" w_M_close D classes ats A) (hr : meth.sig.returnType = none) (hlk : meth.locks = false) (hnm : meth.name = "close") : xm_le (cM_close_0 (xm_A p l e rm_M_close s mm args below meth c 2 D classes A (MQ below (xm_Q D classes Rh A) args s 0 0 A)) Rh) ((xm_A p l e rm_M_close s mm args below meth c 2 D classes A (MQ below (xm_Q D classes Rh A) args s 0 0 A)) 0) :=
  (xs_aload_n C d_M_close_0 rfl (xs_get C (k := 8) d_M_close_1 h_M (ci := 5) rfl (by decide) (List.mem_cons_of_mem _ tw_429) rfl (xs_iload_n C d_M_close_4 rfl (xs_iconst C d_M_close_5 (by decide) (xs_iast C d_M_close_6 (xs_aload_n C d_M_close_7 rfl (xs_dup C d_M_close_8 (xs_get C (k := 14) d_M_close_9 h_M (ci := 5) rfl (by decide) (List.mem_cons_of_mem _ tw_435) rfl (xs_iconst C d_M_close_12 (by decide) (xs_iadd C d_M_close_13 (xs_put C (k := 14) d_M_close_14 h_M t_M t_M_ok n_M (ci := 5) rfl (by decide) (List.mem_cons_of_mem _ tw_435) rfl rfl (by decide +kernel) (xs_aload_n C d_M_close_17 rfl (xs_get C (k := 9) d_M_close_18 h_M (ci := 5) rfl (by decide) (List.mem_cons_of_mem _ tw_430) rfl (xs_iload_n C d_M_close_21 rfl (xs_aload_n C d_M_close_22 rfl (xs_get C (k := 14) d_M_close_23 h_M (ci := 5) rfl (by decide) (List.mem_cons_of_mem _ tw_435) rfl (xs_iast C d_M_close_26 (xs_vret C d_M_close_27 hr hlk rfl rfl))))))))))))))))))
theorem met_M_close (l : Launch) (D : va_G) : xm_Met l D classes ats y_M_close w_M_close rm_M_close 0 0 cp_M_close := by
  refine xm_met 0 (by decide) rfl rfl rfl (fun p e s mm args below meth c A Rh C hr hlk hnm lb => ?_)
  unfold fM_close
  split
  · rename_i h; subst h; exact sM_close_0 C hr hlk hnm
  · exact fun _ _ _ _ _ h => h.elim
theorem d_M_copy_0 : decode b_M_copy 0 = .ok (.aload_n 0, 1) := by decide +kernel
theorem d_M_copy_1 : decode b_M_copy 1 = .ok (.getfield 7, 3) := by decide +kernel
theorem d_M_copy_4 : decode b_M_copy 4 = .ok (.iload_n 2, 1) := by decide +kernel
theorem d_M_copy_5 : decode b_M_copy 5 = .ok (.aload_n 0, 1) := by decide +kernel
theorem d_M_copy_6 : decode b_M_copy 6 = .ok (.getfield 7, 3) := by decide +kernel
theorem d_M_copy_9 : decode b_M_copy 9 = .ok (.iload_n 1, 1) := by decide +kernel
theorem d_M_copy_10 : decode b_M_copy 10 = .ok (.baload, 1) := by decide +kernel
theorem d_M_copy_11 : decode b_M_copy 11 = .ok (.bastore, 1) := by decide +kernel
theorem d_M_copy_12 : decode b_M_copy 12 = .ok (.aload_n 0, 1) := by decide +kernel
theorem d_M_copy_13 : decode b_M_copy 13 = .ok (.getfield 13, 3) := by decide +kernel
theorem d_M_copy_16 : decode b_M_copy 16 = .ok (.iload_n 2, 1) := by decide +kernel
theorem d_M_copy_17 : decode b_M_copy 17 = .ok (.aload_n 0, 1) := by decide +kernel
theorem d_M_copy_18 : decode b_M_copy 18 = .ok (.getfield 13, 3) := by decide +kernel
theorem d_M_copy_21 : decode b_M_copy 21 = .ok (.iload_n 1, 1) := by decide +kernel
theorem d_M_copy_22 : decode b_M_copy 22 = .ok (.iaload, 1) := by decide +kernel
theorem d_M_copy_23 : decode b_M_copy 23 = .ok (.iastore, 1) := by decide +kernel
theorem d_M_copy_24 : decode b_M_copy 24 = .ok (.aload_n 0, 1) := by decide +kernel
theorem d_M_copy_25 : decode b_M_copy 25 = .ok (.getfield 17, 3) := by decide +kernel
theorem d_M_copy_28 : decode b_M_copy 28 = .ok (.iload_n 2, 1) := by decide +kernel
theorem d_M_copy_29 : decode b_M_copy 29 = .ok (.aload_n 0, 1) := by decide +kernel
theorem d_M_copy_30 : decode b_M_copy 30 = .ok (.getfield 17, 3) := by decide +kernel
theorem d_M_copy_33 : decode b_M_copy 33 = .ok (.iload_n 1, 1) := by decide +kernel
theorem d_M_copy_34 : decode b_M_copy 34 = .ok (.iaload, 1) := by decide +kernel
theorem d_M_copy_35 : decode b_M_copy 35 = .ok (.iastore, 1) := by decide +kernel
theorem d_M_copy_36 : decode b_M_copy 36 = .ok (.aload_n 0, 1) := by decide +kernel
theorem d_M_copy_37 : decode b_M_copy 37 = .ok (.getfield 20, 3) := by decide +kernel
theorem d_M_copy_40 : decode b_M_copy 40 = .ok (.iload_n 2, 1) := by decide +kernel
theorem d_M_copy_41 : decode b_M_copy 41 = .ok (.aload_n 0, 1) := by decide +kernel
theorem d_M_copy_42 : decode b_M_copy 42 = .ok (.getfield 20, 3) := by decide +kernel
theorem d_M_copy_45 : decode b_M_copy 45 = .ok (.iload_n 1, 1) := by decide +kernel
theorem d_M_copy_46 : decode b_M_copy 46 = .ok (.iaload, 1) := by decide +kernel
theorem d_M_copy_47 : decode b_M_copy 47 = .ok (.iastore, 1) := by decide +kernel
theorem d_M_copy_48 : decode b_M_copy 48 = .ok (.aload_n 0, 1) := by decide +kernel
theorem d_M_copy_49 : decode b_M_copy 49 = .ok (.getfield 23, 3) := by decide +kernel
theorem d_M_copy_52 : decode b_M_copy 52 = .ok (.iload_n 2, 1) := by decide +kernel
theorem d_M_copy_53 : decode b_M_copy 53 = .ok (.aload_n 0, 1) := by decide +kernel
theorem d_M_copy_54 : decode b_M_copy 54 = .ok (.getfield 23, 3) := by decide +kernel
theorem d_M_copy_57 : decode b_M_copy 57 = .ok (.iload_n 1, 1) := by decide +kernel
theorem d_M_copy_58 : decode b_M_copy 58 = .ok (.iaload, 1) := by decide +kernel
theorem d_M_copy_59 : decode b_M_copy 59 = .ok (.iastore, 1) := by decide +kernel
theorem d_M_copy_60 : decode b_M_copy 60 = .ok (.aload_n 0, 1) := by decide +kernel
theorem d_M_copy_61 : decode b_M_copy 61 = .ok (.getfield 26, 3) := by decide +kernel
theorem d_M_copy_64 : decode b_M_copy 64 = .ok (.iload_n 2, 1) := by decide +kernel
theorem d_M_copy_65 : decode b_M_copy 65 = .ok (.aload_n 0, 1) := by decide +kernel
theorem d_M_copy_66 : decode b_M_copy 66 = .ok (.getfield 26, 3) := by decide +kernel
theorem d_M_copy_69 : decode b_M_copy 69 = .ok (.iload_n 1, 1) := by decide +kernel
theorem d_M_copy_70 : decode b_M_copy 70 = .ok (.iaload, 1) := by decide +kernel
theorem d_M_copy_71 : decode b_M_copy 71 = .ok (.iastore, 1) := by decide +kernel
theorem d_M_copy_72 : decode b_M_copy 72 = .ok (.aload_n 0, 1) := by decide +kernel
theorem d_M_copy_73 : decode b_M_copy 73 = .ok (.getfield 29, 3) := by decide +kernel
theorem d_M_copy_76 : decode b_M_copy 76 = .ok (.iload_n 2, 1) := by decide +kernel
theorem d_M_copy_77 : decode b_M_copy 77 = .ok (.aload_n 0, 1) := by decide +kernel
theorem d_M_copy_78 : decode b_M_copy 78 = .ok (.getfield 29, 3) := by decide +kernel
theorem d_M_copy_81 : decode b_M_copy 81 = .ok (.iload_n 1, 1) := by decide +kernel
theorem d_M_copy_82 : decode b_M_copy 82 = .ok (.iaload, 1) := by decide +kernel
theorem d_M_copy_83 : decode b_M_copy 83 = .ok (.iastore, 1) := by decide +kernel
theorem d_M_copy_84 : decode b_M_copy 84 = .ok (.return_, 1) := by decide +kernel
-- BlockVaultModel.copy(II)V: labels [0], loops []
abbrev rm_M_copy : Room := { frames := 0, cells := 0, slots := 0, locals := 0 }
def cM_copy_0 (X : Nat → xm_PT) (Rh : Option Value → xm_M → Prop) : xm_PT := (xo_aload 0 (xo_get 5 0 (xo_iload 2 (xo_aload 0 (xo_get 5 0 (xo_iload 1 (xo_zald ats (xo_zast ats (xo_aload 0 (xo_get 5 1 (xo_iload 2 (xo_aload 0 (xo_get 5 1 (xo_iload 1 (xo_iald ats (xo_iast ats (xo_aload 0 (xo_get 5 2 (xo_iload 2 (xo_aload 0 (xo_get 5 2 (xo_iload 1 (xo_iald ats (xo_iast ats (xo_aload 0 (xo_get 5 3 (xo_iload 2 (xo_aload 0 (xo_get 5 3 (xo_iload 1 (xo_iald ats (xo_iast ats (xo_aload 0 (xo_get 5 4 (xo_iload 2 (xo_aload 0 (xo_get 5 4 (xo_iload 1 (xo_iald ats (xo_iast ats (xo_aload 0 (xo_get 5 5 (xo_iload 2 (xo_aload 0 (xo_get 5 5 (xo_iload 1 (xo_iald ats (xo_iast ats (xo_aload 0 (xo_get 5 6 (xo_iload 2 (xo_aload 0 (xo_get 5 6 (xo_iload 1 (xo_iald ats (xo_iast ats (xo_vret Rh)))))))))))))))))))))))))))))))))))))))))))))))))))))))))
def fM_copy : xm_F := fun X Rh lb => if lb = 0 then cM_copy_0 X Rh else fun _ _ _ _ _ => False
def cp_M_copy : xm_CP := fun as m Rh => (lg_sl as).length ≤ 3 ∧ xm_cp fM_copy 0 0 as m Rh
theorem eM_copy_0 {X : Nat → xm_PT} {Rh : Option Value → xm_M → Prop} (hX : ∀ lb, xm_le (fM_copy X Rh lb) (X lb)) {ls : xm_L} {st : List Value} {m : xm_M} {bc bs : Nat} (h : cM_copy_0 X Rh ls st m bc bs) : X 0 ls st m bc bs := hX 0 ls st m bc bs h
set_option maxRecDepth 20000 in
set_option maxHeartbeats 4000000 in
theorem sM_copy_0 {p : Program} {l : Launch} {e : Env} {s : State} {mm : MethodId} {args : Array Value} {below : List Frame} {meth : Method} {c : Code} {D : va_G} {A : Nat → Prop} {Rh : Option Value → xm_M → Prop} (C : xm_C p s mm args c b_M_copy 3 "BlockVaultModel" w_M_copy D classes ats A) (hr : meth.sig.returnType = none) (hlk : meth.locks = false) (hnm : meth.name = "copy") : xm_le (cM_copy_0 (xm_A p l e rm_M_copy s mm args below meth c 3 D classes A (MQ below (xm_Q D classes Rh A) args s 0 0 A)) Rh) ((xm_A p l e rm_M_copy s mm args below meth c 3 D classes A (MQ below (xm_Q D classes Rh A) args s 0 0 A)) 0) :=
  (xs_aload_n C d_M_copy_0 rfl (xs_get C (k := 0) d_M_copy_1 h_M (ci := 5) rfl (by decide) (List.mem_cons_of_mem _ tw_421) rfl (xs_iload_n C d_M_copy_4 rfl (xs_aload_n C d_M_copy_5 rfl (xs_get C (k := 0) d_M_copy_6 h_M (ci := 5) rfl (by decide) (List.mem_cons_of_mem _ tw_421) rfl (xs_iload_n C d_M_copy_9 rfl (xs_zald C d_M_copy_10 (xs_zast C d_M_copy_11 (xs_aload_n C d_M_copy_12 rfl (xs_get C (k := 1) d_M_copy_13 h_M (ci := 5) rfl (by decide) (List.mem_cons_of_mem _ tw_422) rfl (xs_iload_n C d_M_copy_16 rfl (xs_aload_n C d_M_copy_17 rfl (xs_get C (k := 1) d_M_copy_18 h_M (ci := 5) rfl (by decide) (List.mem_cons_of_mem _ tw_422) rfl (xs_iload_n C d_M_copy_21 rfl (xs_iald C d_M_copy_22 (xs_iast C d_M_copy_23 (xs_aload_n C d_M_copy_24 rfl (xs_get C (k := 2) d_M_copy_25 h_M (ci := 5) rfl (by decide) (List.mem_cons_of_mem _ tw_423) rfl (xs_iload_n C d_M_copy_28 rfl (xs_aload_n C d_M_copy_29 rfl (xs_get C (k := 2) d_M_copy_30 h_M (ci := 5) rfl (by decide) (List.mem_cons_of_mem _ tw_423) rfl (xs_iload_n C d_M_copy_33 rfl (xs_iald C d_M_copy_34 (xs_iast C d_M_copy_35 (xs_aload_n C d_M_copy_36 rfl (xs_get C (k := 3) d_M_copy_37 h_M (ci := 5) rfl (by decide) (List.mem_cons_of_mem _ tw_424) rfl (xs_iload_n C d_M_copy_40 rfl (xs_aload_n C d_M_copy_41 rfl (xs_get C (k := 3) d_M_copy_42 h_M (ci := 5) rfl (by decide) (List.mem_cons_of_mem _ tw_424) rfl (xs_iload_n C d_M_copy_45 rfl (xs_iald C d_M_copy_46 (xs_iast C d_M_copy_47 (xs_aload_n C d_M_copy_48 rfl (xs_get C (k := 4) d_M_copy_49 h_M (ci := 5) rfl (by decide) (List.mem_cons_of_mem _ tw_425) rfl (xs_iload_n C d_M_copy_52 rfl (xs_aload_n C d_M_copy_53 rfl (xs_get C (k := 4) d_M_copy_54 h_M (ci := 5) rfl (by decide) (List.mem_cons_of_mem _ tw_425) rfl (xs_iload_n C d_M_copy_57 rfl (xs_iald C d_M_copy_58 (xs_iast C d_M_copy_59 (xs_aload_n C d_M_copy_60 rfl (xs_get C (k := 5) d_M_copy_61 h_M (ci := 5) rfl (by decide) (List.mem_cons_of_mem _ tw_426) rfl (xs_iload_n C d_M_copy_64 rfl (xs_aload_n C d_M_copy_65 rfl (xs_get C (k := 5) d_M_copy_66 h_M (ci := 5) rfl (by decide) (List.mem_cons_of_mem _ tw_426) rfl (xs_iload_n C d_M_copy_69 rfl (xs_iald C d_M_copy_70 (xs_iast C d_M_copy_71 (xs_aload_n C d_M_copy_72 rfl (xs_get C (k := 6) d_M_copy_73 h_M (ci := 5) rfl (by decide) (List.mem_cons_of_mem _ tw_427) rfl (xs_iload_n C d_M_copy_76 rfl (xs_aload_n C d_M_copy_77 rfl (xs_get C (k := 6) d_M_copy_78 h_M (ci := 5) rfl (by decide) (List.mem_cons_of_mem _ tw_427) rfl (xs_iload_n C d_M_copy_81 rfl (xs_iald C d_M_copy_82 (xs_iast C d_M_copy_83 (xs_vret C d_M_copy_84 hr hlk rfl rfl)))))))))))))))))))))))))))))))))))))))))))))))))))))))))
theorem met_M_copy (l : Launch) (D : va_G) : xm_Met l D classes ats y_M_copy w_M_copy rm_M_copy 0 0 cp_M_copy := by
  refine xm_met 0 (by decide) rfl rfl rfl (fun p e s mm args below meth c A Rh C hr hlk hnm lb => ?_)
  unfold fM_copy
  split
  · rename_i h; subst h; exact sM_copy_0 C hr hlk hnm
  · exact fun _ _ _ _ _ h => h.elim
theorem d_M_used_0 : decode b_M_used 0 = .ok (.iconst 0, 1) := by decide +kernel
theorem d_M_used_1 : decode b_M_used 1 = .ok (.istore_n 2, 1) := by decide +kernel
theorem d_M_used_2 : decode b_M_used 2 = .ok (.bipush 12, 2) := by decide +kernel
theorem d_M_used_4 : decode b_M_used 4 = .ok (.iload_n 1, 1) := by decide +kernel
theorem d_M_used_5 : decode b_M_used 5 = .ok (.imul, 1) := by decide +kernel
theorem d_M_used_6 : decode b_M_used 6 = .ok (.istore_n 3, 1) := by decide +kernel
theorem d_M_used_7 : decode b_M_used 7 = .ok (.iload_n 3, 1) := by decide +kernel
theorem d_M_used_8 : decode b_M_used 8 = .ok (.bipush 12, 2) := by decide +kernel
theorem d_M_used_10 : decode b_M_used 10 = .ok (.iload_n 1, 1) := by decide +kernel
theorem d_M_used_11 : decode b_M_used 11 = .ok (.imul, 1) := by decide +kernel
theorem d_M_used_12 : decode b_M_used 12 = .ok (.aload_n 0, 1) := by decide +kernel
theorem d_M_used_13 : decode b_M_used 13 = .ok (.getfield 32, 3) := by decide +kernel
theorem d_M_used_16 : decode b_M_used 16 = .ok (.iload_n 1, 1) := by decide +kernel
theorem d_M_used_17 : decode b_M_used 17 = .ok (.iaload, 1) := by decide +kernel
theorem d_M_used_18 : decode b_M_used 18 = .ok (.iadd, 1) := by decide +kernel
theorem d_M_used_19 : decode b_M_used 19 = .ok (.if_icmp .ge 33, 3) := by decide +kernel
theorem d_M_used_22 : decode b_M_used 22 = .ok (.aload_n 0, 1) := by decide +kernel
theorem d_M_used_23 : decode b_M_used 23 = .ok (.getfield 44, 3) := by decide +kernel
theorem d_M_used_26 : decode b_M_used 26 = .ok (.aload_n 0, 1) := by decide +kernel
theorem d_M_used_27 : decode b_M_used 27 = .ok (.getfield 13, 3) := by decide +kernel
theorem d_M_used_30 : decode b_M_used 30 = .ok (.iload_n 3, 1) := by decide +kernel
theorem d_M_used_31 : decode b_M_used 31 = .ok (.iaload, 1) := by decide +kernel
theorem d_M_used_32 : decode b_M_used 32 = .ok (.iaload, 1) := by decide +kernel
theorem d_M_used_33 : decode b_M_used 33 = .ok (.iload_n 3, 1) := by decide +kernel
theorem d_M_used_34 : decode b_M_used 34 = .ok (.if_icmp .ne 12, 3) := by decide +kernel
theorem d_M_used_37 : decode b_M_used 37 = .ok (.iload_n 2, 1) := by decide +kernel
theorem d_M_used_38 : decode b_M_used 38 = .ok (.aload_n 0, 1) := by decide +kernel
theorem d_M_used_39 : decode b_M_used 39 = .ok (.getfield 20, 3) := by decide +kernel
theorem d_M_used_42 : decode b_M_used 42 = .ok (.iload_n 3, 1) := by decide +kernel
theorem d_M_used_43 : decode b_M_used 43 = .ok (.iaload, 1) := by decide +kernel
theorem d_M_used_44 : decode b_M_used 44 = .ok (.iadd, 1) := by decide +kernel
theorem d_M_used_45 : decode b_M_used 45 = .ok (.istore_n 2, 1) := by decide +kernel
theorem d_M_used_46 : decode b_M_used 46 = .ok (.iinc 3 1, 3) := by decide +kernel
theorem d_M_used_49 : decode b_M_used 49 = .ok (.goto (-42), 3) := by decide +kernel
theorem d_M_used_52 : decode b_M_used 52 = .ok (.iload_n 2, 1) := by decide +kernel
theorem d_M_used_53 : decode b_M_used 53 = .ok (.ireturn, 1) := by decide +kernel
-- BlockVaultModel.used(I)I: labels [0, 7], loops [7]
abbrev rm_M_used : Room := { frames := 0, cells := 0, slots := 0, locals := 0 }
def cM_used_7 (X : Nat → xm_PT) (Rh : Option Value → xm_M → Prop) : xm_PT := (xo_iload 3 (xo_push (.int (nI 12)) (xo_iload 1 (xo_ibin (fun x y => x * y) (xo_aload 0 (xo_get 5 7 (xo_iload 1 (xo_iald ats (xo_ibin (fun x y => x + y) (xo_icmp (fun x y => y ≤ x) (xo_iload 2 (xo_iret Rh)) (xo_aload 0 (xo_get 5 11 (xo_aload 0 (xo_get 5 1 (xo_iload 3 (xo_iald ats (xo_iald ats (xo_iload 3 (xo_icmp (fun x y => x = y) (xo_iload 2 (xo_aload 0 (xo_get 5 3 (xo_iload 3 (xo_iald ats (xo_ibin (fun x y => x + y) (xo_istore 2 (xo_iinc 3 1 (xo_jmp [0, 1, 2, 3] (X 7)))))))))) (xo_iinc 3 1 (xo_jmp [0, 1, 2, 3] (X 7))))))))))))))))))))))
def cM_used_0 (X : Nat → xm_PT) (Rh : Option Value → xm_M → Prop) : xm_PT := (xo_push (.int 0) (xo_istore 2 (xo_push (.int (nI 12)) (xo_iload 1 (xo_ibin (fun x y => x * y) (xo_istore 3 (xo_jmp [0, 1, 2, 3] (X 7))))))))
def fM_used : xm_F := fun X Rh lb => if lb = 0 then cM_used_0 X Rh else (if lb = 7 then cM_used_7 X Rh else fun _ _ _ _ _ => False)
def cp_M_used : xm_CP := fun as m Rh => (lg_sl as).length ≤ 4 ∧ xm_cp fM_used 0 0 as m Rh
theorem eM_used_0 {X : Nat → xm_PT} {Rh : Option Value → xm_M → Prop} (hX : ∀ lb, xm_le (fM_used X Rh lb) (X lb)) {ls : xm_L} {st : List Value} {m : xm_M} {bc bs : Nat} (h : cM_used_0 X Rh ls st m bc bs) : X 0 ls st m bc bs := hX 0 ls st m bc bs h
theorem eM_used_7 {X : Nat → xm_PT} {Rh : Option Value → xm_M → Prop} (hX : ∀ lb, xm_le (fM_used X Rh lb) (X lb)) {ls : xm_L} {st : List Value} {m : xm_M} {bc bs : Nat} (h : cM_used_7 X Rh ls st m bc bs) : X 7 ls st m bc bs := hX 7 ls st m bc bs h
set_option maxRecDepth 20000 in
set_option maxHeartbeats 4000000 in
theorem sM_used_7 {p : Program} {l : Launch} {e : Env} {s : State} {mm : MethodId} {args : Array Value} {below : List Frame} {meth : Method} {c : Code} {D : va_G} {A : Nat → Prop} {Rh : Option Value → xm_M → Prop} (C : xm_C p s mm args c b_M_used 4 "BlockVaultModel" w_M_used D classes ats A) (hr : meth.sig.returnType = (some .int)) (hlk : meth.locks = false) (hnm : meth.name = "used") : xm_le (cM_used_7 (xm_A p l e rm_M_used s mm args below meth c 4 D classes A (MQ below (xm_Q D classes Rh A) args s 0 0 A)) Rh) ((xm_A p l e rm_M_used s mm args below meth c 4 D classes A (MQ below (xm_Q D classes Rh A) args s 0 0 A)) 7) :=
  (xs_iload_n C d_M_used_7 rfl (xs_bipush C d_M_used_8 (by decide) (xs_iload_n C d_M_used_10 rfl (xs_imul C d_M_used_11 (xs_aload_n C d_M_used_12 rfl (xs_get C (k := 7) d_M_used_13 h_M (ci := 5) rfl (by decide) (List.mem_cons_of_mem _ tw_428) rfl (xs_iload_n C d_M_used_16 rfl (xs_iald C d_M_used_17 (xs_iadd C d_M_used_18 (xs_icmp_ge C d_M_used_19 (by decide) (xs_iload_n C d_M_used_52 rfl (xs_iret C d_M_used_53 hr hlk rfl rfl)) (xs_aload_n C d_M_used_22 rfl (xs_get C (k := 11) d_M_used_23 h_M (ci := 5) rfl (by decide) (List.mem_cons_of_mem _ tw_432) rfl (xs_aload_n C d_M_used_26 rfl (xs_get C (k := 1) d_M_used_27 h_M (ci := 5) rfl (by decide) (List.mem_cons_of_mem _ tw_422) rfl (xs_iload_n C d_M_used_30 rfl (xs_iald C d_M_used_31 (xs_iald C d_M_used_32 (xs_iload_n C d_M_used_33 rfl (xs_icmp_ne C d_M_used_34 (by decide) (xs_iload_n C d_M_used_37 rfl (xs_aload_n C d_M_used_38 rfl (xs_get C (k := 3) d_M_used_39 h_M (ci := 5) rfl (by decide) (List.mem_cons_of_mem _ tw_424) rfl (xs_iload_n C d_M_used_42 rfl (xs_iald C d_M_used_43 (xs_iadd C d_M_used_44 (xs_istore_n C d_M_used_45 rfl (by decide) (xs_iinc C d_M_used_46 (by decide) (by decide) (xs_goto C d_M_used_49 (by decide) (xs_jmp (fun _ _ _ _ _ h => h))))))))))) (xs_iinc C d_M_used_46 (by decide) (by decide) (xs_goto C d_M_used_49 (by decide) (xs_jmp (fun _ _ _ _ _ h => h)))))))))))))))))))))))
set_option maxRecDepth 20000 in
set_option maxHeartbeats 4000000 in
theorem sM_used_0 {p : Program} {l : Launch} {e : Env} {s : State} {mm : MethodId} {args : Array Value} {below : List Frame} {meth : Method} {c : Code} {D : va_G} {A : Nat → Prop} {Rh : Option Value → xm_M → Prop} (C : xm_C p s mm args c b_M_used 4 "BlockVaultModel" w_M_used D classes ats A) (hr : meth.sig.returnType = (some .int)) (hlk : meth.locks = false) (hnm : meth.name = "used") : xm_le (cM_used_0 (xm_A p l e rm_M_used s mm args below meth c 4 D classes A (MQ below (xm_Q D classes Rh A) args s 0 0 A)) Rh) ((xm_A p l e rm_M_used s mm args below meth c 4 D classes A (MQ below (xm_Q D classes Rh A) args s 0 0 A)) 0) :=
  (xs_iconst C d_M_used_0 (by decide) (xs_istore_n C d_M_used_1 rfl (by decide) (xs_bipush C d_M_used_2 (by decide) (xs_iload_n C d_M_used_4 rfl (xs_imul C d_M_used_5 (xs_istore_n C d_M_used_6 rfl (by decide) (xs_jmp (fun _ _ _ _ _ h => h))))))))
theorem met_M_used (l : Launch) (D : va_G) : xm_Met l D classes ats y_M_used w_M_used rm_M_used 0 0 cp_M_used := by
  refine xm_met 0 (by decide) rfl rfl rfl (fun p e s mm args below meth c A Rh C hr hlk hnm lb => ?_)
  unfold fM_used
  split
  · rename_i h; subst h; exact sM_used_0 C hr hlk hnm
  split
  · rename_i h; subst h; exact sM_used_7 C hr hlk hnm
  · exact fun _ _ _ _ _ h => h.elim
theorem d_M_settle_0 : decode b_M_settle 0 = .ok (.iconst 0, 1) := by decide +kernel
theorem d_M_settle_1 : decode b_M_settle 1 = .ok (.istore_n 1, 1) := by decide +kernel
theorem d_M_settle_2 : decode b_M_settle 2 = .ok (.iconst 0, 1) := by decide +kernel
theorem d_M_settle_3 : decode b_M_settle 3 = .ok (.istore_n 2, 1) := by decide +kernel
theorem d_M_settle_4 : decode b_M_settle 4 = .ok (.iload_n 2, 1) := by decide +kernel
theorem d_M_settle_5 : decode b_M_settle 5 = .ok (.bipush 8, 2) := by decide +kernel
theorem d_M_settle_7 : decode b_M_settle 7 = .ok (.if_icmp .ge 35, 3) := by decide +kernel
theorem d_M_settle_10 : decode b_M_settle 10 = .ok (.aload_n 0, 1) := by decide +kernel
theorem d_M_settle_11 : decode b_M_settle 11 = .ok (.getfield 35, 3) := by decide +kernel
theorem d_M_settle_14 : decode b_M_settle 14 = .ok (.iload_n 2, 1) := by decide +kernel
theorem d_M_settle_15 : decode b_M_settle 15 = .ok (.iaload, 1) := by decide +kernel
theorem d_M_settle_16 : decode b_M_settle 16 = .ok (.iconst 1, 1) := by decide +kernel
theorem d_M_settle_17 : decode b_M_settle 17 = .ok (.if_icmp .eq 13, 3) := by decide +kernel
theorem d_M_settle_20 : decode b_M_settle 20 = .ok (.aload_n 0, 1) := by decide +kernel
theorem d_M_settle_21 : decode b_M_settle 21 = .ok (.getfield 35, 3) := by decide +kernel
theorem d_M_settle_24 : decode b_M_settle 24 = .ok (.iload_n 2, 1) := by decide +kernel
theorem d_M_settle_25 : decode b_M_settle 25 = .ok (.iaload, 1) := by decide +kernel
theorem d_M_settle_26 : decode b_M_settle 26 = .ok (.iconst 2, 1) := by decide +kernel
theorem d_M_settle_27 : decode b_M_settle 27 = .ok (.if_icmp .ne 9, 3) := by decide +kernel
theorem d_M_settle_30 : decode b_M_settle 30 = .ok (.iload_n 1, 1) := by decide +kernel
theorem d_M_settle_31 : decode b_M_settle 31 = .ok (.iconst 1, 1) := by decide +kernel
theorem d_M_settle_32 : decode b_M_settle 32 = .ok (.iload_n 2, 1) := by decide +kernel
theorem d_M_settle_33 : decode b_M_settle 33 = .ok (.ishl, 1) := by decide +kernel
theorem d_M_settle_34 : decode b_M_settle 34 = .ok (.ior, 1) := by decide +kernel
theorem d_M_settle_35 : decode b_M_settle 35 = .ok (.istore_n 1, 1) := by decide +kernel
theorem d_M_settle_36 : decode b_M_settle 36 = .ok (.iinc 2 1, 3) := by decide +kernel
theorem d_M_settle_39 : decode b_M_settle 39 = .ok (.goto (-35), 3) := by decide +kernel
theorem d_M_settle_42 : decode b_M_settle 42 = .ok (.iconst 0, 1) := by decide +kernel
theorem d_M_settle_43 : decode b_M_settle 43 = .ok (.istore_n 2, 1) := by decide +kernel
theorem d_M_settle_44 : decode b_M_settle 44 = .ok (.iload_n 2, 1) := by decide +kernel
theorem d_M_settle_45 : decode b_M_settle 45 = .ok (.bipush 8, 2) := by decide +kernel
theorem d_M_settle_47 : decode b_M_settle 47 = .ok (.if_icmp .ge 74, 3) := by decide +kernel
theorem d_M_settle_50 : decode b_M_settle 50 = .ok (.aload_n 0, 1) := by decide +kernel
theorem d_M_settle_51 : decode b_M_settle 51 = .ok (.getfield 35, 3) := by decide +kernel
theorem d_M_settle_54 : decode b_M_settle 54 = .ok (.iload_n 2, 1) := by decide +kernel
theorem d_M_settle_55 : decode b_M_settle 55 = .ok (.iaload, 1) := by decide +kernel
theorem d_M_settle_56 : decode b_M_settle 56 = .ok (.iconst 3, 1) := by decide +kernel
theorem d_M_settle_57 : decode b_M_settle 57 = .ok (.if_icmp .ne 32, 3) := by decide +kernel
theorem d_M_settle_60 : decode b_M_settle 60 = .ok (.aload_n 0, 1) := by decide +kernel
theorem d_M_settle_61 : decode b_M_settle 61 = .ok (.iload_n 2, 1) := by decide +kernel
theorem d_M_settle_62 : decode b_M_settle 62 = .ok (.invokevirtual 58, 3) := by decide +kernel
theorem d_M_settle_65 : decode b_M_settle 65 = .ok (.ifCond .ne 24, 3) := by decide +kernel
theorem d_M_settle_68 : decode b_M_settle 68 = .ok (.aload_n 0, 1) := by decide +kernel
theorem d_M_settle_69 : decode b_M_settle 69 = .ok (.getfield 35, 3) := by decide +kernel
theorem d_M_settle_72 : decode b_M_settle 72 = .ok (.iload_n 2, 1) := by decide +kernel
theorem d_M_settle_73 : decode b_M_settle 73 = .ok (.iconst 4, 1) := by decide +kernel
theorem d_M_settle_74 : decode b_M_settle 74 = .ok (.iastore, 1) := by decide +kernel
theorem d_M_settle_75 : decode b_M_settle 75 = .ok (.aload_n 0, 1) := by decide +kernel
theorem d_M_settle_76 : decode b_M_settle 76 = .ok (.getfield 32, 3) := by decide +kernel
theorem d_M_settle_79 : decode b_M_settle 79 = .ok (.iload_n 2, 1) := by decide +kernel
theorem d_M_settle_80 : decode b_M_settle 80 = .ok (.iconst 0, 1) := by decide +kernel
theorem d_M_settle_81 : decode b_M_settle 81 = .ok (.iastore, 1) := by decide +kernel
theorem d_M_settle_82 : decode b_M_settle 82 = .ok (.aload_n 0, 1) := by decide +kernel
theorem d_M_settle_83 : decode b_M_settle 83 = .ok (.getfield 41, 3) := by decide +kernel
theorem d_M_settle_86 : decode b_M_settle 86 = .ok (.iload_n 2, 1) := by decide +kernel
theorem d_M_settle_87 : decode b_M_settle 87 = .ok (.iload_n 1, 1) := by decide +kernel
theorem d_M_settle_88 : decode b_M_settle 88 = .ok (.iastore, 1) := by decide +kernel
theorem d_M_settle_89 : decode b_M_settle 89 = .ok (.aload_n 0, 1) := by decide +kernel
theorem d_M_settle_90 : decode b_M_settle 90 = .ok (.getfield 35, 3) := by decide +kernel
theorem d_M_settle_93 : decode b_M_settle 93 = .ok (.iload_n 2, 1) := by decide +kernel
theorem d_M_settle_94 : decode b_M_settle 94 = .ok (.iaload, 1) := by decide +kernel
theorem d_M_settle_95 : decode b_M_settle 95 = .ok (.iconst 4, 1) := by decide +kernel
theorem d_M_settle_96 : decode b_M_settle 96 = .ok (.if_icmp .ne 19, 3) := by decide +kernel
theorem d_M_settle_99 : decode b_M_settle 99 = .ok (.aload_n 0, 1) := by decide +kernel
theorem d_M_settle_100 : decode b_M_settle 100 = .ok (.getfield 41, 3) := by decide +kernel
theorem d_M_settle_103 : decode b_M_settle 103 = .ok (.iload_n 2, 1) := by decide +kernel
theorem d_M_settle_104 : decode b_M_settle 104 = .ok (.iaload, 1) := by decide +kernel
theorem d_M_settle_105 : decode b_M_settle 105 = .ok (.ifCond .ne 10, 3) := by decide +kernel
theorem d_M_settle_108 : decode b_M_settle 108 = .ok (.aload_n 0, 1) := by decide +kernel
theorem d_M_settle_109 : decode b_M_settle 109 = .ok (.getfield 35, 3) := by decide +kernel
theorem d_M_settle_112 : decode b_M_settle 112 = .ok (.iload_n 2, 1) := by decide +kernel
theorem d_M_settle_113 : decode b_M_settle 113 = .ok (.iconst 0, 1) := by decide +kernel
theorem d_M_settle_114 : decode b_M_settle 114 = .ok (.iastore, 1) := by decide +kernel
theorem d_M_settle_115 : decode b_M_settle 115 = .ok (.iinc 2 1, 3) := by decide +kernel
theorem d_M_settle_118 : decode b_M_settle 118 = .ok (.goto (-74), 3) := by decide +kernel
theorem d_M_settle_121 : decode b_M_settle 121 = .ok (.return_, 1) := by decide +kernel
-- BlockVaultModel.settle()V: labels [0, 4, 30, 44, 89], loops [4, 44]
abbrev rm_M_settle : Room := { frames := 1, cells := 0, slots := 0, locals := 23 }
def cM_settle_89 (X : Nat → xm_PT) (Rh : Option Value → xm_M → Prop) : xm_PT := (xo_aload 0 (xo_get 5 8 (xo_iload 2 (xo_iald ats (xo_push (.int (nI 4)) (xo_icmp (fun x y => x = y) (xo_aload 0 (xo_get 5 10 (xo_iload 2 (xo_iald ats (xo_if (fun x => x = 0) (xo_aload 0 (xo_get 5 8 (xo_iload 2 (xo_push (.int 0) (xo_iast ats (xo_iinc 2 1 (xo_jmp [0, 1, 2] (X 44)))))))) (xo_iinc 2 1 (xo_jmp [0, 1, 2] (X 44)))))))) (xo_iinc 2 1 (xo_jmp [0, 1, 2] (X 44)))))))))
def cM_settle_44 (X : Nat → xm_PT) (Rh : Option Value → xm_M → Prop) : xm_PT := (xo_iload 2 (xo_push (.int (nI 8)) (xo_icmp (fun x y => y ≤ x) (xo_vret Rh) (xo_aload 0 (xo_get 5 8 (xo_iload 2 (xo_iald ats (xo_push (.int (nI 3)) (xo_icmp (fun x y => x = y) (xo_aload 0 (xo_iload 2 (xo_callV 5 1 0 0 cp_M_used (xo_if (fun x => x = 0) (xo_aload 0 (xo_get 5 8 (xo_iload 2 (xo_push (.int (nI 4)) (xo_iast ats (xo_aload 0 (xo_get 5 7 (xo_iload 2 (xo_push (.int 0) (xo_iast ats (xo_aload 0 (xo_get 5 10 (xo_iload 2 (xo_iload 1 (xo_iast ats (xo_jmp [0, 1, 2] (cM_settle_89 X Rh))))))))))))))))) (xo_jmp [0, 1, 2] (cM_settle_89 X Rh)))))) (xo_jmp [0, 1, 2] (cM_settle_89 X Rh)))))))))))
def cM_settle_30 (X : Nat → xm_PT) (Rh : Option Value → xm_M → Prop) : xm_PT := (xo_iload 1 (xo_push (.int 1) (xo_iload 2 (xo_ibin (fun x y => x <<< (y &&& 31)) (xo_ibin (fun x y => x ||| y) (xo_istore 1 (xo_iinc 2 1 (xo_jmp [0, 1, 2] (X 4)))))))))
def cM_settle_4 (X : Nat → xm_PT) (Rh : Option Value → xm_M → Prop) : xm_PT := (xo_iload 2 (xo_push (.int (nI 8)) (xo_icmp (fun x y => y ≤ x) (xo_push (.int 0) (xo_istore 2 (xo_jmp [0, 1, 2] (X 44)))) (xo_aload 0 (xo_get 5 8 (xo_iload 2 (xo_iald ats (xo_push (.int 1) (xo_icmp (fun x y => x = y) (xo_jmp [0, 1, 2] (cM_settle_30 X Rh)) (xo_aload 0 (xo_get 5 8 (xo_iload 2 (xo_iald ats (xo_push (.int (nI 2)) (xo_icmp (fun x y => x = y) (xo_jmp [0, 1, 2] (cM_settle_30 X Rh)) (xo_iinc 2 1 (xo_jmp [0, 1, 2] (X 4))))))))))))))))))
def cM_settle_0 (X : Nat → xm_PT) (Rh : Option Value → xm_M → Prop) : xm_PT := (xo_push (.int 0) (xo_istore 1 (xo_push (.int 0) (xo_istore 2 (xo_jmp [0, 1, 2] (X 4))))))
def fM_settle : xm_F := fun X Rh lb => if lb = 0 then cM_settle_0 X Rh else (if lb = 4 then cM_settle_4 X Rh else (if lb = 44 then cM_settle_44 X Rh else fun _ _ _ _ _ => False))
def cp_M_settle : xm_CP := fun as m Rh => (lg_sl as).length ≤ 3 ∧ xm_cp fM_settle 0 0 as m Rh
theorem eM_settle_0 {X : Nat → xm_PT} {Rh : Option Value → xm_M → Prop} (hX : ∀ lb, xm_le (fM_settle X Rh lb) (X lb)) {ls : xm_L} {st : List Value} {m : xm_M} {bc bs : Nat} (h : cM_settle_0 X Rh ls st m bc bs) : X 0 ls st m bc bs := hX 0 ls st m bc bs h
theorem eM_settle_4 {X : Nat → xm_PT} {Rh : Option Value → xm_M → Prop} (hX : ∀ lb, xm_le (fM_settle X Rh lb) (X lb)) {ls : xm_L} {st : List Value} {m : xm_M} {bc bs : Nat} (h : cM_settle_4 X Rh ls st m bc bs) : X 4 ls st m bc bs := hX 4 ls st m bc bs h
theorem eM_settle_44 {X : Nat → xm_PT} {Rh : Option Value → xm_M → Prop} (hX : ∀ lb, xm_le (fM_settle X Rh lb) (X lb)) {ls : xm_L} {st : List Value} {m : xm_M} {bc bs : Nat} (h : cM_settle_44 X Rh ls st m bc bs) : X 44 ls st m bc bs := hX 44 ls st m bc bs h
set_option maxRecDepth 20000 in
set_option maxHeartbeats 4000000 in
theorem sM_settle_89 {p : Program} {l : Launch} {e : Env} {s : State} {mm : MethodId} {args : Array Value} {below : List Frame} {meth : Method} {c : Code} {D : va_G} {A : Nat → Prop} {Rh : Option Value → xm_M → Prop} (C : xm_C p s mm args c b_M_settle 3 "BlockVaultModel" w_M_settle D classes ats A) (hr : meth.sig.returnType = none) (hlk : meth.locks = false) (hnm : meth.name = "settle") : xm_le (cM_settle_89 (xm_A p l e rm_M_settle s mm args below meth c 3 D classes A (MQ below (xm_Q D classes Rh A) args s 0 0 A)) Rh) ((xm_A p l e rm_M_settle s mm args below meth c 3 D classes A (MQ below (xm_Q D classes Rh A) args s 0 0 A)) 89) :=
  (xs_aload_n C d_M_settle_89 rfl (xs_get C (k := 8) d_M_settle_90 h_M (ci := 5) rfl (by decide) (List.mem_cons_of_mem _ tw_429) rfl (xs_iload_n C d_M_settle_93 rfl (xs_iald C d_M_settle_94 (xs_iconst C d_M_settle_95 (by decide) (xs_icmp_ne C d_M_settle_96 (by decide) (xs_aload_n C d_M_settle_99 rfl (xs_get C (k := 10) d_M_settle_100 h_M (ci := 5) rfl (by decide) (List.mem_cons_of_mem _ tw_431) rfl (xs_iload_n C d_M_settle_103 rfl (xs_iald C d_M_settle_104 (xs_if_ne C d_M_settle_105 (by decide) (xs_aload_n C d_M_settle_108 rfl (xs_get C (k := 8) d_M_settle_109 h_M (ci := 5) rfl (by decide) (List.mem_cons_of_mem _ tw_429) rfl (xs_iload_n C d_M_settle_112 rfl (xs_iconst C d_M_settle_113 (by decide) (xs_iast C d_M_settle_114 (xs_iinc C d_M_settle_115 (by decide) (by decide) (xs_goto C d_M_settle_118 (by decide) (xs_jmp (fun _ _ _ _ _ h => h))))))))) (xs_iinc C d_M_settle_115 (by decide) (by decide) (xs_goto C d_M_settle_118 (by decide) (xs_jmp (fun _ _ _ _ _ h => h))))))))) (xs_iinc C d_M_settle_115 (by decide) (by decide) (xs_goto C d_M_settle_118 (by decide) (xs_jmp (fun _ _ _ _ _ h => h))))))))))
set_option maxRecDepth 20000 in
set_option maxHeartbeats 4000000 in
theorem sM_settle_44 {p : Program} {l : Launch} {e : Env} {s : State} {mm : MethodId} {args : Array Value} {below : List Frame} {meth : Method} {c : Code} {D : va_G} {A : Nat → Prop} {Rh : Option Value → xm_M → Prop} (C : xm_C p s mm args c b_M_settle 3 "BlockVaultModel" w_M_settle D classes ats A) (hr : meth.sig.returnType = none) (hlk : meth.locks = false) (hnm : meth.name = "settle") : xm_le (cM_settle_44 (xm_A p l e rm_M_settle s mm args below meth c 3 D classes A (MQ below (xm_Q D classes Rh A) args s 0 0 A)) Rh) ((xm_A p l e rm_M_settle s mm args below meth c 3 D classes A (MQ below (xm_Q D classes Rh A) args s 0 0 A)) 44) :=
  (xs_iload_n C d_M_settle_44 rfl (xs_bipush C d_M_settle_45 (by decide) (xs_icmp_ge C d_M_settle_47 (by decide) (xs_vret C d_M_settle_121 hr hlk rfl rfl) (xs_aload_n C d_M_settle_50 rfl (xs_get C (k := 8) d_M_settle_51 h_M (ci := 5) rfl (by decide) (List.mem_cons_of_mem _ tw_429) rfl (xs_iload_n C d_M_settle_54 rfl (xs_iald C d_M_settle_55 (xs_iconst C d_M_settle_56 (by decide) (xs_icmp_ne C d_M_settle_57 (by decide) (xs_aload_n C d_M_settle_60 rfl (xs_iload_n C d_M_settle_61 rfl (xs_callV C (CN := "BlockVaultModel") (T := F_M) (N := 18) d_M_settle_62 (met_M_used l D) ⟨callB_of (ws := w_M_used) (rm := rm_M_used) 1 C.1.2.2.2.2 (gG_m tw_532) rfl rfl rfl (C.1.2.2.2.2 _ (List.mem_cons_of_mem _ tw_5)) (C.1.2.2.2.2 _ (List.mem_cons_of_mem _ tw_529)) ⟨by decide, by decide, by decide +kernel⟩ ⟨Nat.le_of_ble_eq_true rfl, Nat.le_of_ble_eq_true rfl⟩, (C.1.2.2.2.2 _ (List.mem_cons_of_mem _ tw_531)), (C.1.2.2.2.2 _ (List.mem_cons_of_mem _ ts_44))⟩ (ci := 5) rfl (xs_if_ne C d_M_settle_65 (by decide) (xs_aload_n C d_M_settle_68 rfl (xs_get C (k := 8) d_M_settle_69 h_M (ci := 5) rfl (by decide) (List.mem_cons_of_mem _ tw_429) rfl (xs_iload_n C d_M_settle_72 rfl (xs_iconst C d_M_settle_73 (by decide) (xs_iast C d_M_settle_74 (xs_aload_n C d_M_settle_75 rfl (xs_get C (k := 7) d_M_settle_76 h_M (ci := 5) rfl (by decide) (List.mem_cons_of_mem _ tw_428) rfl (xs_iload_n C d_M_settle_79 rfl (xs_iconst C d_M_settle_80 (by decide) (xs_iast C d_M_settle_81 (xs_aload_n C d_M_settle_82 rfl (xs_get C (k := 10) d_M_settle_83 h_M (ci := 5) rfl (by decide) (List.mem_cons_of_mem _ tw_431) rfl (xs_iload_n C d_M_settle_86 rfl (xs_iload_n C d_M_settle_87 rfl (xs_iast C d_M_settle_88 (xs_jmp (sM_settle_89 C hr hlk hnm))))))))))))))))) (xs_jmp (sM_settle_89 C hr hlk hnm)))))) (xs_jmp (sM_settle_89 C hr hlk hnm)))))))))))
set_option maxRecDepth 20000 in
set_option maxHeartbeats 4000000 in
theorem sM_settle_30 {p : Program} {l : Launch} {e : Env} {s : State} {mm : MethodId} {args : Array Value} {below : List Frame} {meth : Method} {c : Code} {D : va_G} {A : Nat → Prop} {Rh : Option Value → xm_M → Prop} (C : xm_C p s mm args c b_M_settle 3 "BlockVaultModel" w_M_settle D classes ats A) (hr : meth.sig.returnType = none) (hlk : meth.locks = false) (hnm : meth.name = "settle") : xm_le (cM_settle_30 (xm_A p l e rm_M_settle s mm args below meth c 3 D classes A (MQ below (xm_Q D classes Rh A) args s 0 0 A)) Rh) ((xm_A p l e rm_M_settle s mm args below meth c 3 D classes A (MQ below (xm_Q D classes Rh A) args s 0 0 A)) 30) :=
  (xs_iload_n C d_M_settle_30 rfl (xs_iconst C d_M_settle_31 (by decide) (xs_iload_n C d_M_settle_32 rfl (xs_ishl C d_M_settle_33 (xs_ior C d_M_settle_34 (xs_istore_n C d_M_settle_35 rfl (by decide) (xs_iinc C d_M_settle_36 (by decide) (by decide) (xs_goto C d_M_settle_39 (by decide) (xs_jmp (fun _ _ _ _ _ h => h))))))))))
set_option maxRecDepth 20000 in
set_option maxHeartbeats 4000000 in
theorem sM_settle_4 {p : Program} {l : Launch} {e : Env} {s : State} {mm : MethodId} {args : Array Value} {below : List Frame} {meth : Method} {c : Code} {D : va_G} {A : Nat → Prop} {Rh : Option Value → xm_M → Prop} (C : xm_C p s mm args c b_M_settle 3 "BlockVaultModel" w_M_settle D classes ats A) (hr : meth.sig.returnType = none) (hlk : meth.locks = false) (hnm : meth.name = "settle") : xm_le (cM_settle_4 (xm_A p l e rm_M_settle s mm args below meth c 3 D classes A (MQ below (xm_Q D classes Rh A) args s 0 0 A)) Rh) ((xm_A p l e rm_M_settle s mm args below meth c 3 D classes A (MQ below (xm_Q D classes Rh A) args s 0 0 A)) 4) :=
  (xs_iload_n C d_M_settle_4 rfl (xs_bipush C d_M_settle_5 (by decide) (xs_icmp_ge C d_M_settle_7 (by decide) (xs_iconst C d_M_settle_42 (by decide) (xs_istore_n C d_M_settle_43 rfl (by decide) (xs_jmp (fun _ _ _ _ _ h => h)))) (xs_aload_n C d_M_settle_10 rfl (xs_get C (k := 8) d_M_settle_11 h_M (ci := 5) rfl (by decide) (List.mem_cons_of_mem _ tw_429) rfl (xs_iload_n C d_M_settle_14 rfl (xs_iald C d_M_settle_15 (xs_iconst C d_M_settle_16 (by decide) (xs_icmp_eq C d_M_settle_17 (by decide) (xs_jmp (sM_settle_30 C hr hlk hnm)) (xs_aload_n C d_M_settle_20 rfl (xs_get C (k := 8) d_M_settle_21 h_M (ci := 5) rfl (by decide) (List.mem_cons_of_mem _ tw_429) rfl (xs_iload_n C d_M_settle_24 rfl (xs_iald C d_M_settle_25 (xs_iconst C d_M_settle_26 (by decide) (xs_icmp_ne C d_M_settle_27 (by decide) (xs_jmp (sM_settle_30 C hr hlk hnm)) (xs_iinc C d_M_settle_36 (by decide) (by decide) (xs_goto C d_M_settle_39 (by decide) (xs_jmp (fun _ _ _ _ _ h => h)))))))))))))))))))
set_option maxRecDepth 20000 in
set_option maxHeartbeats 4000000 in
theorem sM_settle_0 {p : Program} {l : Launch} {e : Env} {s : State} {mm : MethodId} {args : Array Value} {below : List Frame} {meth : Method} {c : Code} {D : va_G} {A : Nat → Prop} {Rh : Option Value → xm_M → Prop} (C : xm_C p s mm args c b_M_settle 3 "BlockVaultModel" w_M_settle D classes ats A) (hr : meth.sig.returnType = none) (hlk : meth.locks = false) (hnm : meth.name = "settle") : xm_le (cM_settle_0 (xm_A p l e rm_M_settle s mm args below meth c 3 D classes A (MQ below (xm_Q D classes Rh A) args s 0 0 A)) Rh) ((xm_A p l e rm_M_settle s mm args below meth c 3 D classes A (MQ below (xm_Q D classes Rh A) args s 0 0 A)) 0) :=
  (xs_iconst C d_M_settle_0 (by decide) (xs_istore_n C d_M_settle_1 rfl (by decide) (xs_iconst C d_M_settle_2 (by decide) (xs_istore_n C d_M_settle_3 rfl (by decide) (xs_jmp (fun _ _ _ _ _ h => h))))))
theorem met_M_settle (l : Launch) (D : va_G) : xm_Met l D classes ats y_M_settle w_M_settle rm_M_settle 0 0 cp_M_settle := by
  refine xm_met 0 (by decide) rfl rfl rfl (fun p e s mm args below meth c A Rh C hr hlk hnm lb => ?_)
  unfold fM_settle
  split
  · rename_i h; subst h; exact sM_settle_0 C hr hlk hnm
  split
  · rename_i h; subst h; exact sM_settle_4 C hr hlk hnm
  split
  · rename_i h; subst h; exact sM_settle_44 C hr hlk hnm
  · exact fun _ _ _ _ _ h => h.elim
