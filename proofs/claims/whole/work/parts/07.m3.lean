theorem d_M_crash_0 : decode b_M_crash 0 = .ok (.aload_n 0, 1) := by decide +kernel
theorem d_M_crash_1 : decode b_M_crash 1 = .ok (.iconst 2, 1) := by decide +kernel
theorem d_M_crash_2 : decode b_M_crash 2 = .ok (.invokevirtual 65, 3) := by decide +kernel
theorem d_M_crash_5 : decode b_M_crash 5 = .ok (.istore_n 2, 1) := by decide +kernel
theorem d_M_crash_6 : decode b_M_crash 6 = .ok (.iload_n 1, 1) := by decide +kernel
theorem d_M_crash_7 : decode b_M_crash 7 = .ok (.iconst (-1), 1) := by decide +kernel
theorem d_M_crash_8 : decode b_M_crash 8 = .ok (.if_icmp .eq 23, 3) := by decide +kernel
theorem d_M_crash_11 : decode b_M_crash 11 = .ok (.iload_n 2, 1) := by decide +kernel
theorem d_M_crash_12 : decode b_M_crash 12 = .ok (.ifCond .lt 17, 3) := by decide +kernel
theorem d_M_crash_15 : decode b_M_crash 15 = .ok (.iload_n 1, 1) := by decide +kernel
theorem d_M_crash_16 : decode b_M_crash 16 = .ok (.iconst 0, 1) := by decide +kernel
theorem d_M_crash_17 : decode b_M_crash 17 = .ok (.aload_n 0, 1) := by decide +kernel
theorem d_M_crash_18 : decode b_M_crash 18 = .ok (.getfield 32, 3) := by decide +kernel
theorem d_M_crash_21 : decode b_M_crash 21 = .ok (.iload_n 2, 1) := by decide +kernel
theorem d_M_crash_22 : decode b_M_crash 22 = .ok (.iaload, 1) := by decide +kernel
theorem d_M_crash_23 : decode b_M_crash 23 = .ok (.invokestatic 92, 3) := by decide +kernel
theorem d_M_crash_26 : decode b_M_crash 26 = .ok (.ifCond .ne 5, 3) := by decide +kernel
theorem d_M_crash_29 : decode b_M_crash 29 = .ok (.iconst (-1), 1) := by decide +kernel
theorem d_M_crash_30 : decode b_M_crash 30 = .ok (.ireturn, 1) := by decide +kernel
theorem d_M_crash_31 : decode b_M_crash 31 = .ok (.aload_n 0, 1) := by decide +kernel
theorem d_M_crash_32 : decode b_M_crash 32 = .ok (.getfield 96, 3) := by decide +kernel
theorem d_M_crash_35 : decode b_M_crash 35 = .ok (.ifCond .eq 6, 3) := by decide +kernel
theorem d_M_crash_38 : decode b_M_crash 38 = .ok (.bipush (-2), 2) := by decide +kernel
theorem d_M_crash_40 : decode b_M_crash 40 = .ok (.ireturn, 1) := by decide +kernel
theorem d_M_crash_41 : decode b_M_crash 41 = .ok (.iload_n 1, 1) := by decide +kernel
theorem d_M_crash_42 : decode b_M_crash 42 = .ok (.ifCond .lt 9, 3) := by decide +kernel
theorem d_M_crash_45 : decode b_M_crash 45 = .ok (.aload_n 0, 1) := by decide +kernel
theorem d_M_crash_46 : decode b_M_crash 46 = .ok (.iload_n 2, 1) := by decide +kernel
theorem d_M_crash_47 : decode b_M_crash 47 = .ok (.iload_n 1, 1) := by decide +kernel
theorem d_M_crash_48 : decode b_M_crash 48 = .ok (.invokevirtual 115, 3) := by decide +kernel
theorem d_M_crash_51 : decode b_M_crash 51 = .ok (.iconst 0, 1) := by decide +kernel
theorem d_M_crash_52 : decode b_M_crash 52 = .ok (.istore_n 3, 1) := by decide +kernel
theorem d_M_crash_53 : decode b_M_crash 53 = .ok (.iload_n 3, 1) := by decide +kernel
theorem d_M_crash_54 : decode b_M_crash 54 = .ok (.bipush 8, 2) := by decide +kernel
theorem d_M_crash_56 : decode b_M_crash 56 = .ok (.if_icmp .ge 30, 3) := by decide +kernel
theorem d_M_crash_59 : decode b_M_crash 59 = .ok (.aload_n 0, 1) := by decide +kernel
theorem d_M_crash_60 : decode b_M_crash 60 = .ok (.getfield 35, 3) := by decide +kernel
theorem d_M_crash_63 : decode b_M_crash 63 = .ok (.iload_n 3, 1) := by decide +kernel
theorem d_M_crash_64 : decode b_M_crash 64 = .ok (.iconst 0, 1) := by decide +kernel
theorem d_M_crash_65 : decode b_M_crash 65 = .ok (.iastore, 1) := by decide +kernel
theorem d_M_crash_66 : decode b_M_crash 66 = .ok (.aload_n 0, 1) := by decide +kernel
theorem d_M_crash_67 : decode b_M_crash 67 = .ok (.getfield 32, 3) := by decide +kernel
theorem d_M_crash_70 : decode b_M_crash 70 = .ok (.iload_n 3, 1) := by decide +kernel
theorem d_M_crash_71 : decode b_M_crash 71 = .ok (.iconst 0, 1) := by decide +kernel
theorem d_M_crash_72 : decode b_M_crash 72 = .ok (.iastore, 1) := by decide +kernel
theorem d_M_crash_73 : decode b_M_crash 73 = .ok (.aload_n 0, 1) := by decide +kernel
theorem d_M_crash_74 : decode b_M_crash 74 = .ok (.getfield 41, 3) := by decide +kernel
theorem d_M_crash_77 : decode b_M_crash 77 = .ok (.iload_n 3, 1) := by decide +kernel
theorem d_M_crash_78 : decode b_M_crash 78 = .ok (.iconst 0, 1) := by decide +kernel
theorem d_M_crash_79 : decode b_M_crash 79 = .ok (.iastore, 1) := by decide +kernel
theorem d_M_crash_80 : decode b_M_crash 80 = .ok (.iinc 3 1, 3) := by decide +kernel
theorem d_M_crash_83 : decode b_M_crash 83 = .ok (.goto (-30), 3) := by decide +kernel
theorem d_M_crash_86 : decode b_M_crash 86 = .ok (.iconst 0, 1) := by decide +kernel
theorem d_M_crash_87 : decode b_M_crash 87 = .ok (.istore_n 3, 1) := by decide +kernel
theorem d_M_crash_88 : decode b_M_crash 88 = .ok (.iload_n 3, 1) := by decide +kernel
theorem d_M_crash_89 : decode b_M_crash 89 = .ok (.bipush 16, 2) := by decide +kernel
theorem d_M_crash_91 : decode b_M_crash 91 = .ok (.if_icmp .ge 16, 3) := by decide +kernel
theorem d_M_crash_94 : decode b_M_crash 94 = .ok (.aload_n 0, 1) := by decide +kernel
theorem d_M_crash_95 : decode b_M_crash 95 = .ok (.getfield 44, 3) := by decide +kernel
theorem d_M_crash_98 : decode b_M_crash 98 = .ok (.iload_n 3, 1) := by decide +kernel
theorem d_M_crash_99 : decode b_M_crash 99 = .ok (.iconst (-1), 1) := by decide +kernel
theorem d_M_crash_100 : decode b_M_crash 100 = .ok (.iastore, 1) := by decide +kernel
theorem d_M_crash_101 : decode b_M_crash 101 = .ok (.iinc 3 1, 3) := by decide +kernel
theorem d_M_crash_104 : decode b_M_crash 104 = .ok (.goto (-16), 3) := by decide +kernel
theorem d_M_crash_107 : decode b_M_crash 107 = .ok (.aload_n 0, 1) := by decide +kernel
theorem d_M_crash_108 : decode b_M_crash 108 = .ok (.iconst 1, 1) := by decide +kernel
theorem d_M_crash_109 : decode b_M_crash 109 = .ok (.putfield 96, 3) := by decide +kernel
theorem d_M_crash_112 : decode b_M_crash 112 = .ok (.iconst 1, 1) := by decide +kernel
theorem d_M_crash_113 : decode b_M_crash 113 = .ok (.ireturn, 1) := by decide +kernel
-- BlockVaultModel.crash(I)I: labels [0, 31, 53, 88], loops [53, 88]
abbrev rm_M_crash : Room := { frames := 2, cells := 0, slots := 0, locals := 45 }
def cM_crash_88 (X : Nat → xm_PT) (Rh : Option Value → xm_M → Prop) : xm_PT := (xo_iload 3 (xo_push (.int (nI 16)) (xo_icmp (fun x y => y ≤ x) (xo_aload 0 (xo_push (.int 1) (xo_put 5 17 .boolean (xo_push (.int 1) (xo_iret Rh))))) (xo_aload 0 (xo_get 5 11 (xo_iload 3 (xo_push (.int (-1)) (xo_iast ats (xo_iinc 3 1 (xo_jmp [0, 3] (X 88)))))))))))
def cM_crash_53 (X : Nat → xm_PT) (Rh : Option Value → xm_M → Prop) : xm_PT := (xo_iload 3 (xo_push (.int (nI 8)) (xo_icmp (fun x y => y ≤ x) (xo_push (.int 0) (xo_istore 3 (xo_jmp [0, 3] (X 88)))) (xo_aload 0 (xo_get 5 8 (xo_iload 3 (xo_push (.int 0) (xo_iast ats (xo_aload 0 (xo_get 5 7 (xo_iload 3 (xo_push (.int 0) (xo_iast ats (xo_aload 0 (xo_get 5 10 (xo_iload 3 (xo_push (.int 0) (xo_iast ats (xo_iinc 3 1 (xo_jmp [0, 3] (X 53)))))))))))))))))))))
def cM_crash_31 (X : Nat → xm_PT) (Rh : Option Value → xm_M → Prop) : xm_PT := (xo_aload 0 (xo_get 5 17 (xo_if (fun x => x = 0) (xo_iload 1 (xo_if (fun x => x < 0) (xo_push (.int 0) (xo_istore 3 (xo_jmp [0, 3] (X 53)))) (xo_aload 0 (xo_iload 2 (xo_iload 1 (xo_callV 5 2 0 0 cp_M_store (xo_push (.int 0) (xo_istore 3 (xo_jmp [0, 3] (X 53)))))))))) (xo_push (.int (-2)) (xo_iret Rh)))))
def cM_crash_0 (X : Nat → xm_PT) (Rh : Option Value → xm_M → Prop) : xm_PT := (xo_aload 0 (xo_push (.int (nI 2)) (xo_callV 5 1 0 0 cp_M_first (xo_istore 2 (xo_iload 1 (xo_push (.int (-1)) (xo_icmp (fun x y => x = y) (xo_jmp [0, 1, 2] (cM_crash_31 X Rh)) (xo_iload 2 (xo_if (fun x => x < 0) (xo_push (.int (-1)) (xo_iret Rh)) (xo_iload 1 (xo_push (.int 0) (xo_aload 0 (xo_get 5 7 (xo_iload 2 (xo_iald ats (xo_callS 3 0 0 cp_M_in (xo_if (fun x => x = 0) (xo_push (.int (-1)) (xo_iret Rh)) (xo_jmp [0, 1, 2] (cM_crash_31 X Rh)))))))))))))))))))
def fM_crash : xm_F := fun X Rh lb => if lb = 0 then cM_crash_0 X Rh else (if lb = 53 then cM_crash_53 X Rh else (if lb = 88 then cM_crash_88 X Rh else fun _ _ _ _ _ => False))
def cp_M_crash : xm_CP := fun as m Rh => (lg_sl as).length ≤ 4 ∧ xm_cp fM_crash 0 0 as m Rh
theorem eM_crash_0 {X : Nat → xm_PT} {Rh : Option Value → xm_M → Prop} (hX : ∀ lb, xm_le (fM_crash X Rh lb) (X lb)) {ls : xm_L} {st : List Value} {m : xm_M} {bc bs : Nat} (h : cM_crash_0 X Rh ls st m bc bs) : X 0 ls st m bc bs := hX 0 ls st m bc bs h
theorem eM_crash_53 {X : Nat → xm_PT} {Rh : Option Value → xm_M → Prop} (hX : ∀ lb, xm_le (fM_crash X Rh lb) (X lb)) {ls : xm_L} {st : List Value} {m : xm_M} {bc bs : Nat} (h : cM_crash_53 X Rh ls st m bc bs) : X 53 ls st m bc bs := hX 53 ls st m bc bs h
theorem eM_crash_88 {X : Nat → xm_PT} {Rh : Option Value → xm_M → Prop} (hX : ∀ lb, xm_le (fM_crash X Rh lb) (X lb)) {ls : xm_L} {st : List Value} {m : xm_M} {bc bs : Nat} (h : cM_crash_88 X Rh ls st m bc bs) : X 88 ls st m bc bs := hX 88 ls st m bc bs h
set_option maxRecDepth 20000 in
set_option maxHeartbeats 4000000 in
theorem sM_crash_88 {p : Program} {l : Launch} {e : Env} {s : State} {mm : MethodId} {args : Array Value} {below : List Frame} {meth : Method} {c : Code} {D : va_G} {A : Nat → Prop} {Rh : Option Value → xm_M → Prop} (C : xm_C p s mm args c b_M_crash 4 "BlockVaultModel" w_M_crash D classes ats A) (hr : meth.sig.returnType = (some .int)) (hlk : meth.locks = false) (hnm : meth.name = "crash") : xm_le (cM_crash_88 (xm_A p l e rm_M_crash s mm args below meth c 4 D classes A (MQ below (xm_Q D classes Rh A) args s 0 0 A)) Rh) ((xm_A p l e rm_M_crash s mm args below meth c 4 D classes A (MQ below (xm_Q D classes Rh A) args s 0 0 A)) 88) :=
  (xs_iload_n C d_M_crash_88 rfl (xs_bipush C d_M_crash_89 (by decide) (xs_icmp_ge C d_M_crash_91 (by decide) (xs_aload_n C d_M_crash_107 rfl (xs_iconst C d_M_crash_108 (by decide) (xs_put C (k := 17) d_M_crash_109 h_M t_M t_M_ok n_M (ci := 5) rfl (by decide) (List.mem_cons_of_mem _ tw_438) rfl rfl (by decide +kernel) (xs_iconst C d_M_crash_112 (by decide) (xs_iret C d_M_crash_113 hr hlk rfl rfl))))) (xs_aload_n C d_M_crash_94 rfl (xs_get C (k := 11) d_M_crash_95 h_M (ci := 5) rfl (by decide) (List.mem_cons_of_mem _ tw_432) rfl (xs_iload_n C d_M_crash_98 rfl (xs_iconst C d_M_crash_99 (by decide) (xs_iast C d_M_crash_100 (xs_iinc C d_M_crash_101 (by decide) (by decide) (xs_goto C d_M_crash_104 (by decide) (xs_jmp (fun _ _ _ _ _ h => h))))))))))))
set_option maxRecDepth 20000 in
set_option maxHeartbeats 4000000 in
theorem sM_crash_53 {p : Program} {l : Launch} {e : Env} {s : State} {mm : MethodId} {args : Array Value} {below : List Frame} {meth : Method} {c : Code} {D : va_G} {A : Nat → Prop} {Rh : Option Value → xm_M → Prop} (C : xm_C p s mm args c b_M_crash 4 "BlockVaultModel" w_M_crash D classes ats A) (hr : meth.sig.returnType = (some .int)) (hlk : meth.locks = false) (hnm : meth.name = "crash") : xm_le (cM_crash_53 (xm_A p l e rm_M_crash s mm args below meth c 4 D classes A (MQ below (xm_Q D classes Rh A) args s 0 0 A)) Rh) ((xm_A p l e rm_M_crash s mm args below meth c 4 D classes A (MQ below (xm_Q D classes Rh A) args s 0 0 A)) 53) :=
  (xs_iload_n C d_M_crash_53 rfl (xs_bipush C d_M_crash_54 (by decide) (xs_icmp_ge C d_M_crash_56 (by decide) (xs_iconst C d_M_crash_86 (by decide) (xs_istore_n C d_M_crash_87 rfl (by decide) (xs_jmp (fun _ _ _ _ _ h => h)))) (xs_aload_n C d_M_crash_59 rfl (xs_get C (k := 8) d_M_crash_60 h_M (ci := 5) rfl (by decide) (List.mem_cons_of_mem _ tw_429) rfl (xs_iload_n C d_M_crash_63 rfl (xs_iconst C d_M_crash_64 (by decide) (xs_iast C d_M_crash_65 (xs_aload_n C d_M_crash_66 rfl (xs_get C (k := 7) d_M_crash_67 h_M (ci := 5) rfl (by decide) (List.mem_cons_of_mem _ tw_428) rfl (xs_iload_n C d_M_crash_70 rfl (xs_iconst C d_M_crash_71 (by decide) (xs_iast C d_M_crash_72 (xs_aload_n C d_M_crash_73 rfl (xs_get C (k := 10) d_M_crash_74 h_M (ci := 5) rfl (by decide) (List.mem_cons_of_mem _ tw_431) rfl (xs_iload_n C d_M_crash_77 rfl (xs_iconst C d_M_crash_78 (by decide) (xs_iast C d_M_crash_79 (xs_iinc C d_M_crash_80 (by decide) (by decide) (xs_goto C d_M_crash_83 (by decide) (xs_jmp (fun _ _ _ _ _ h => h))))))))))))))))))))))
set_option maxRecDepth 20000 in
set_option maxHeartbeats 4000000 in
theorem sM_crash_31 {p : Program} {l : Launch} {e : Env} {s : State} {mm : MethodId} {args : Array Value} {below : List Frame} {meth : Method} {c : Code} {D : va_G} {A : Nat → Prop} {Rh : Option Value → xm_M → Prop} (C : xm_C p s mm args c b_M_crash 4 "BlockVaultModel" w_M_crash D classes ats A) (hr : meth.sig.returnType = (some .int)) (hlk : meth.locks = false) (hnm : meth.name = "crash") : xm_le (cM_crash_31 (xm_A p l e rm_M_crash s mm args below meth c 4 D classes A (MQ below (xm_Q D classes Rh A) args s 0 0 A)) Rh) ((xm_A p l e rm_M_crash s mm args below meth c 4 D classes A (MQ below (xm_Q D classes Rh A) args s 0 0 A)) 31) :=
  (xs_aload_n C d_M_crash_31 rfl (xs_get C (k := 17) d_M_crash_32 h_M (ci := 5) rfl (by decide) (List.mem_cons_of_mem _ tw_438) rfl (xs_if_eq C d_M_crash_35 (by decide) (xs_iload_n C d_M_crash_41 rfl (xs_if_lt C d_M_crash_42 (by decide) (xs_iconst C d_M_crash_51 (by decide) (xs_istore_n C d_M_crash_52 rfl (by decide) (xs_jmp (fun _ _ _ _ _ h => h)))) (xs_aload_n C d_M_crash_45 rfl (xs_iload_n C d_M_crash_46 rfl (xs_iload_n C d_M_crash_47 rfl (xs_callV C (CN := "BlockVaultModel") (T := F_M) (N := 18) d_M_crash_48 (met_M_store l D) ⟨callB_of (ws := w_M_store) (rm := rm_M_store) 2 C.1.2.2.2.2 (gG_m tw_577) rfl rfl rfl (C.1.2.2.2.2 _ (List.mem_cons_of_mem _ tw_5)) (C.1.2.2.2.2 _ (List.mem_cons_of_mem _ tw_574)) ⟨by decide, by decide, by decide +kernel⟩ ⟨Nat.le_of_ble_eq_true rfl, Nat.le_of_ble_eq_true rfl⟩, (C.1.2.2.2.2 _ (List.mem_cons_of_mem _ tw_576)), (C.1.2.2.2.2 _ (List.mem_cons_of_mem _ ts_47))⟩ (ci := 5) rfl (xs_iconst C d_M_crash_51 (by decide) (xs_istore_n C d_M_crash_52 rfl (by decide) (xs_jmp (fun _ _ _ _ _ h => h)))))))))) (xs_bipush C d_M_crash_38 (by decide) (xs_iret C d_M_crash_40 hr hlk rfl rfl)))))
set_option maxRecDepth 20000 in
set_option maxHeartbeats 4000000 in
theorem sM_crash_0 {p : Program} {l : Launch} {e : Env} {s : State} {mm : MethodId} {args : Array Value} {below : List Frame} {meth : Method} {c : Code} {D : va_G} {A : Nat → Prop} {Rh : Option Value → xm_M → Prop} (C : xm_C p s mm args c b_M_crash 4 "BlockVaultModel" w_M_crash D classes ats A) (hr : meth.sig.returnType = (some .int)) (hlk : meth.locks = false) (hnm : meth.name = "crash") : xm_le (cM_crash_0 (xm_A p l e rm_M_crash s mm args below meth c 4 D classes A (MQ below (xm_Q D classes Rh A) args s 0 0 A)) Rh) ((xm_A p l e rm_M_crash s mm args below meth c 4 D classes A (MQ below (xm_Q D classes Rh A) args s 0 0 A)) 0) :=
  (xs_aload_n C d_M_crash_0 rfl (xs_iconst C d_M_crash_1 (by decide) (xs_callV C (CN := "BlockVaultModel") (T := F_M) (N := 18) d_M_crash_2 (met_M_first l D) ⟨callB_of (ws := w_M_first) (rm := rm_M_first) 1 C.1.2.2.2.2 (gG_m tw_508) rfl rfl rfl (C.1.2.2.2.2 _ (List.mem_cons_of_mem _ tw_5)) (C.1.2.2.2.2 _ (List.mem_cons_of_mem _ tw_505)) ⟨by decide, by decide, by decide +kernel⟩ ⟨Nat.le_of_ble_eq_true rfl, Nat.le_of_ble_eq_true rfl⟩, (C.1.2.2.2.2 _ (List.mem_cons_of_mem _ tw_507)), (C.1.2.2.2.2 _ (List.mem_cons_of_mem _ ts_38))⟩ (ci := 5) rfl (xs_istore_n C d_M_crash_5 rfl (by decide) (xs_iload_n C d_M_crash_6 rfl (xs_iconst C d_M_crash_7 (by decide) (xs_icmp_eq C d_M_crash_8 (by decide) (xs_jmp (sM_crash_31 C hr hlk hnm)) (xs_iload_n C d_M_crash_11 rfl (xs_if_lt C d_M_crash_12 (by decide) (xs_iconst C d_M_crash_29 (by decide) (xs_iret C d_M_crash_30 hr hlk rfl rfl)) (xs_iload_n C d_M_crash_15 rfl (xs_iconst C d_M_crash_16 (by decide) (xs_aload_n C d_M_crash_17 rfl (xs_get C (k := 7) d_M_crash_18 h_M (ci := 5) rfl (by decide) (List.mem_cons_of_mem _ tw_428) rfl (xs_iload_n C d_M_crash_21 rfl (xs_iald C d_M_crash_22 (xs_callS C d_M_crash_23 (met_M_in l D) ⟨callB_of (ws := w_M_in) (rm := rm_M_in) 3 C.1.2.2.2.2 (gG_m tw_484) rfl rfl rfl (C.1.2.2.2.2 _ (List.mem_cons_of_mem _ tw_5)) (C.1.2.2.2.2 _ (List.mem_cons_of_mem _ tw_482)) ⟨by decide, by decide, by decide +kernel⟩ ⟨Nat.le_of_ble_eq_true rfl, Nat.le_of_ble_eq_true rfl⟩, C.1.2.2.2.2 _ (List.mem_cons_of_mem _ tw_483)⟩ (xs_if_ne C d_M_crash_26 (by decide) (xs_iconst C d_M_crash_29 (by decide) (xs_iret C d_M_crash_30 hr hlk rfl rfl)) (xs_jmp (sM_crash_31 C hr hlk hnm)))))))))))))))))))
theorem met_M_crash (l : Launch) (D : va_G) : xm_Met l D classes ats y_M_crash w_M_crash rm_M_crash 0 0 cp_M_crash := by
  refine xm_met 0 (by decide) rfl rfl rfl (fun p e s mm args below meth c A Rh C hr hlk hnm lb => ?_)
  unfold fM_crash
  split
  · rename_i h; subst h; exact sM_crash_0 C hr hlk hnm
  split
  · rename_i h; subst h; exact sM_crash_53 C hr hlk hnm
  split
  · rename_i h; subst h; exact sM_crash_88 C hr hlk hnm
  · exact fun _ _ _ _ _ h => h.elim
theorem d_M_count_0 : decode b_M_count 0 = .ok (.iconst 0, 1) := by decide +kernel
theorem d_M_count_1 : decode b_M_count 1 = .ok (.istore_n 2, 1) := by decide +kernel
theorem d_M_count_2 : decode b_M_count 2 = .ok (.iconst 0, 1) := by decide +kernel
theorem d_M_count_3 : decode b_M_count 3 = .ok (.istore_n 3, 1) := by decide +kernel
theorem d_M_count_4 : decode b_M_count 4 = .ok (.iconst 0, 1) := by decide +kernel
theorem d_M_count_5 : decode b_M_count 5 = .ok (.istore 4, 2) := by decide +kernel
theorem d_M_count_7 : decode b_M_count 7 = .ok (.iconst 0, 1) := by decide +kernel
theorem d_M_count_8 : decode b_M_count 8 = .ok (.istore 5, 2) := by decide +kernel
theorem d_M_count_10 : decode b_M_count 10 = .ok (.iload 5, 2) := by decide +kernel
theorem d_M_count_12 : decode b_M_count 12 = .ok (.bipush 16, 2) := by decide +kernel
theorem d_M_count_14 : decode b_M_count 14 = .ok (.if_icmp .ge 62, 3) := by decide +kernel
theorem d_M_count_17 : decode b_M_count 17 = .ok (.aload_n 0, 1) := by decide +kernel
theorem d_M_count_18 : decode b_M_count 18 = .ok (.iload 5, 2) := by decide +kernel
theorem d_M_count_20 : decode b_M_count 20 = .ok (.invokevirtual 100, 3) := by decide +kernel
theorem d_M_count_23 : decode b_M_count 23 = .ok (.ifCond .eq 6, 3) := by decide +kernel
theorem d_M_count_26 : decode b_M_count 26 = .ok (.iinc 2 1, 3) := by decide +kernel
theorem d_M_count_29 : decode b_M_count 29 = .ok (.aload_n 0, 1) := by decide +kernel
theorem d_M_count_30 : decode b_M_count 30 = .ok (.getfield 44, 3) := by decide +kernel
theorem d_M_count_33 : decode b_M_count 33 = .ok (.iload 5, 2) := by decide +kernel
theorem d_M_count_35 : decode b_M_count 35 = .ok (.iaload, 1) := by decide +kernel
theorem d_M_count_36 : decode b_M_count 36 = .ok (.ifCond .lt 6, 3) := by decide +kernel
theorem d_M_count_39 : decode b_M_count 39 = .ok (.iinc 3 1, 3) := by decide +kernel
theorem d_M_count_42 : decode b_M_count 42 = .ok (.aload_n 0, 1) := by decide +kernel
theorem d_M_count_43 : decode b_M_count 43 = .ok (.getfield 44, 3) := by decide +kernel
theorem d_M_count_46 : decode b_M_count 46 = .ok (.iload 5, 2) := by decide +kernel
theorem d_M_count_48 : decode b_M_count 48 = .ok (.iaload, 1) := by decide +kernel
theorem d_M_count_49 : decode b_M_count 49 = .ok (.ifCond .lt 21, 3) := by decide +kernel
theorem d_M_count_52 : decode b_M_count 52 = .ok (.aload_n 0, 1) := by decide +kernel
theorem d_M_count_53 : decode b_M_count 53 = .ok (.getfield 7, 3) := by decide +kernel
theorem d_M_count_56 : decode b_M_count 56 = .ok (.aload_n 0, 1) := by decide +kernel
theorem d_M_count_57 : decode b_M_count 57 = .ok (.getfield 44, 3) := by decide +kernel
theorem d_M_count_60 : decode b_M_count 60 = .ok (.iload 5, 2) := by decide +kernel
theorem d_M_count_62 : decode b_M_count 62 = .ok (.iaload, 1) := by decide +kernel
theorem d_M_count_63 : decode b_M_count 63 = .ok (.baload, 1) := by decide +kernel
theorem d_M_count_64 : decode b_M_count 64 = .ok (.ifCond .eq 6, 3) := by decide +kernel
theorem d_M_count_67 : decode b_M_count 67 = .ok (.iinc 4 1, 3) := by decide +kernel
theorem d_M_count_70 : decode b_M_count 70 = .ok (.iinc 5 1, 3) := by decide +kernel
theorem d_M_count_73 : decode b_M_count 73 = .ok (.goto (-63), 3) := by decide +kernel
theorem d_M_count_76 : decode b_M_count 76 = .ok (.iload_n 1, 1) := by decide +kernel
theorem d_M_count_77 : decode b_M_count 77 = .ok (.tableswitch 98 0 7 #[47, 49, 51, 54, 59, 75, 80, 85], 47) := by decide +kernel
theorem d_M_count_124 : decode b_M_count 124 = .ok (.iload_n 2, 1) := by decide +kernel
theorem d_M_count_125 : decode b_M_count 125 = .ok (.ireturn, 1) := by decide +kernel
theorem d_M_count_126 : decode b_M_count 126 = .ok (.iload_n 3, 1) := by decide +kernel
theorem d_M_count_127 : decode b_M_count 127 = .ok (.ireturn, 1) := by decide +kernel
theorem d_M_count_128 : decode b_M_count 128 = .ok (.iload 4, 2) := by decide +kernel
theorem d_M_count_130 : decode b_M_count 130 = .ok (.ireturn, 1) := by decide +kernel
theorem d_M_count_131 : decode b_M_count 131 = .ok (.aload_n 0, 1) := by decide +kernel
theorem d_M_count_132 : decode b_M_count 132 = .ok (.getfield 51, 3) := by decide +kernel
theorem d_M_count_135 : decode b_M_count 135 = .ok (.ireturn, 1) := by decide +kernel
theorem d_M_count_136 : decode b_M_count 136 = .ok (.aload_n 0, 1) := by decide +kernel
theorem d_M_count_137 : decode b_M_count 137 = .ok (.getfield 96, 3) := by decide +kernel
theorem d_M_count_140 : decode b_M_count 140 = .ok (.ifCond .eq 7, 3) := by decide +kernel
theorem d_M_count_143 : decode b_M_count 143 = .ok (.iconst 0, 1) := by decide +kernel
theorem d_M_count_144 : decode b_M_count 144 = .ok (.goto 7, 3) := by decide +kernel
theorem d_M_count_147 : decode b_M_count 147 = .ok (.aload_n 0, 1) := by decide +kernel
theorem d_M_count_148 : decode b_M_count 148 = .ok (.getfield 47, 3) := by decide +kernel
theorem d_M_count_151 : decode b_M_count 151 = .ok (.ireturn, 1) := by decide +kernel
theorem d_M_count_152 : decode b_M_count 152 = .ok (.aload_n 0, 1) := by decide +kernel
theorem d_M_count_153 : decode b_M_count 153 = .ok (.getfield 118, 3) := by decide +kernel
theorem d_M_count_156 : decode b_M_count 156 = .ok (.ireturn, 1) := by decide +kernel
theorem d_M_count_157 : decode b_M_count 157 = .ok (.aload_n 0, 1) := by decide +kernel
theorem d_M_count_158 : decode b_M_count 158 = .ok (.getfield 121, 3) := by decide +kernel
theorem d_M_count_161 : decode b_M_count 161 = .ok (.ireturn, 1) := by decide +kernel
theorem d_M_count_162 : decode b_M_count 162 = .ok (.aload_n 0, 1) := by decide +kernel
theorem d_M_count_163 : decode b_M_count 163 = .ok (.getfield 96, 3) := by decide +kernel
theorem d_M_count_166 : decode b_M_count 166 = .ok (.ifCond .eq 7, 3) := by decide +kernel
theorem d_M_count_169 : decode b_M_count 169 = .ok (.iconst 1, 1) := by decide +kernel
theorem d_M_count_170 : decode b_M_count 170 = .ok (.goto 4, 3) := by decide +kernel
theorem d_M_count_173 : decode b_M_count 173 = .ok (.iconst 0, 1) := by decide +kernel
theorem d_M_count_174 : decode b_M_count 174 = .ok (.ireturn, 1) := by decide +kernel
theorem d_M_count_175 : decode b_M_count 175 = .ok (.iconst (-1), 1) := by decide +kernel
theorem d_M_count_176 : decode b_M_count 176 = .ok (.ireturn, 1) := by decide +kernel
-- BlockVaultModel.count(I)I: labels [0, 10, 29, 42], loops [10]
abbrev rm_M_count : Room := { frames := 2, cells := 0, slots := 0, locals := 42 }
def cM_count_42 (X : Nat → xm_PT) (Rh : Option Value → xm_M → Prop) : xm_PT := (xo_aload 0 (xo_get 5 11 (xo_iload 5 (xo_iald ats (xo_if (fun x => x < 0) (xo_iinc 5 1 (xo_jmp [0, 1, 2, 3, 4, 5] (X 10))) (xo_aload 0 (xo_get 5 0 (xo_aload 0 (xo_get 5 11 (xo_iload 5 (xo_iald ats (xo_zald ats (xo_if (fun x => x = 0) (xo_iinc 5 1 (xo_jmp [0, 1, 2, 3, 4, 5] (X 10))) (xo_iinc 4 1 (xo_iinc 5 1 (xo_jmp [0, 1, 2, 3, 4, 5] (X 10)))))))))))))))))
def cM_count_29 (X : Nat → xm_PT) (Rh : Option Value → xm_M → Prop) : xm_PT := (xo_aload 0 (xo_get 5 11 (xo_iload 5 (xo_iald ats (xo_if (fun x => x < 0) (xo_jmp [0, 1, 2, 3, 4, 5] (cM_count_42 X Rh)) (xo_iinc 3 1 (xo_jmp [0, 1, 2, 3, 4, 5] (cM_count_42 X Rh))))))))
def cM_count_10 (X : Nat → xm_PT) (Rh : Option Value → xm_M → Prop) : xm_PT := (xo_iload 5 (xo_push (.int (nI 16)) (xo_icmp (fun x y => y ≤ x) (xo_iload 1 (xo_tsw 0 [(xo_iload 2 (xo_iret Rh)), (xo_iload 3 (xo_iret Rh)), (xo_iload 4 (xo_iret Rh)), (xo_aload 0 (xo_get 5 12 (xo_iret Rh))), (xo_aload 0 (xo_get 5 17 (xo_if (fun x => x = 0) (xo_aload 0 (xo_get 5 13 (xo_iret Rh))) (xo_push (.int 0) (xo_iret Rh))))), (xo_aload 0 (xo_get 5 15 (xo_iret Rh))), (xo_aload 0 (xo_get 5 16 (xo_iret Rh))), (xo_aload 0 (xo_get 5 17 (xo_if (fun x => x = 0) (xo_push (.int 0) (xo_iret Rh)) (xo_push (.int 1) (xo_iret Rh)))))] (xo_push (.int (-1)) (xo_iret Rh)))) (xo_aload 0 (xo_iload 5 (xo_callV 5 1 0 0 cp_M_isThere (xo_if (fun x => x = 0) (xo_jmp [0, 1, 2, 3, 4, 5] (cM_count_29 X Rh)) (xo_iinc 2 1 (xo_jmp [0, 1, 2, 3, 4, 5] (cM_count_29 X Rh))))))))))
def cM_count_0 (X : Nat → xm_PT) (Rh : Option Value → xm_M → Prop) : xm_PT := (xo_push (.int 0) (xo_istore 2 (xo_push (.int 0) (xo_istore 3 (xo_push (.int 0) (xo_istore 4 (xo_push (.int 0) (xo_istore 5 (xo_jmp [0, 1, 2, 3, 4, 5] (X 10))))))))))
def fM_count : xm_F := fun X Rh lb => if lb = 0 then cM_count_0 X Rh else (if lb = 10 then cM_count_10 X Rh else fun _ _ _ _ _ => False)
def cp_M_count : xm_CP := fun as m Rh => (lg_sl as).length ≤ 6 ∧ xm_cp fM_count 0 0 as m Rh
theorem eM_count_0 {X : Nat → xm_PT} {Rh : Option Value → xm_M → Prop} (hX : ∀ lb, xm_le (fM_count X Rh lb) (X lb)) {ls : xm_L} {st : List Value} {m : xm_M} {bc bs : Nat} (h : cM_count_0 X Rh ls st m bc bs) : X 0 ls st m bc bs := hX 0 ls st m bc bs h
theorem eM_count_10 {X : Nat → xm_PT} {Rh : Option Value → xm_M → Prop} (hX : ∀ lb, xm_le (fM_count X Rh lb) (X lb)) {ls : xm_L} {st : List Value} {m : xm_M} {bc bs : Nat} (h : cM_count_10 X Rh ls st m bc bs) : X 10 ls st m bc bs := hX 10 ls st m bc bs h
set_option maxRecDepth 20000 in
set_option maxHeartbeats 4000000 in
theorem sM_count_42 {p : Program} {l : Launch} {e : Env} {s : State} {mm : MethodId} {args : Array Value} {below : List Frame} {meth : Method} {c : Code} {D : va_G} {A : Nat → Prop} {Rh : Option Value → xm_M → Prop} (C : xm_C p s mm args c b_M_count 6 "BlockVaultModel" w_M_count D classes ats A) (hr : meth.sig.returnType = (some .int)) (hlk : meth.locks = false) (hnm : meth.name = "count") : xm_le (cM_count_42 (xm_A p l e rm_M_count s mm args below meth c 6 D classes A (MQ below (xm_Q D classes Rh A) args s 0 0 A)) Rh) ((xm_A p l e rm_M_count s mm args below meth c 6 D classes A (MQ below (xm_Q D classes Rh A) args s 0 0 A)) 42) :=
  (xs_aload_n C d_M_count_42 rfl (xs_get C (k := 11) d_M_count_43 h_M (ci := 5) rfl (by decide) (List.mem_cons_of_mem _ tw_432) rfl (xs_iload C d_M_count_46 (xs_iald C d_M_count_48 (xs_if_lt C d_M_count_49 (by decide) (xs_iinc C d_M_count_70 (by decide) (by decide) (xs_goto C d_M_count_73 (by decide) (xs_jmp (fun _ _ _ _ _ h => h)))) (xs_aload_n C d_M_count_52 rfl (xs_get C (k := 0) d_M_count_53 h_M (ci := 5) rfl (by decide) (List.mem_cons_of_mem _ tw_421) rfl (xs_aload_n C d_M_count_56 rfl (xs_get C (k := 11) d_M_count_57 h_M (ci := 5) rfl (by decide) (List.mem_cons_of_mem _ tw_432) rfl (xs_iload C d_M_count_60 (xs_iald C d_M_count_62 (xs_zald C d_M_count_63 (xs_if_eq C d_M_count_64 (by decide) (xs_iinc C d_M_count_70 (by decide) (by decide) (xs_goto C d_M_count_73 (by decide) (xs_jmp (fun _ _ _ _ _ h => h)))) (xs_iinc C d_M_count_67 (by decide) (by decide) (xs_iinc C d_M_count_70 (by decide) (by decide) (xs_goto C d_M_count_73 (by decide) (xs_jmp (fun _ _ _ _ _ h => h))))))))))))))))))
set_option maxRecDepth 20000 in
set_option maxHeartbeats 4000000 in
theorem sM_count_29 {p : Program} {l : Launch} {e : Env} {s : State} {mm : MethodId} {args : Array Value} {below : List Frame} {meth : Method} {c : Code} {D : va_G} {A : Nat → Prop} {Rh : Option Value → xm_M → Prop} (C : xm_C p s mm args c b_M_count 6 "BlockVaultModel" w_M_count D classes ats A) (hr : meth.sig.returnType = (some .int)) (hlk : meth.locks = false) (hnm : meth.name = "count") : xm_le (cM_count_29 (xm_A p l e rm_M_count s mm args below meth c 6 D classes A (MQ below (xm_Q D classes Rh A) args s 0 0 A)) Rh) ((xm_A p l e rm_M_count s mm args below meth c 6 D classes A (MQ below (xm_Q D classes Rh A) args s 0 0 A)) 29) :=
  (xs_aload_n C d_M_count_29 rfl (xs_get C (k := 11) d_M_count_30 h_M (ci := 5) rfl (by decide) (List.mem_cons_of_mem _ tw_432) rfl (xs_iload C d_M_count_33 (xs_iald C d_M_count_35 (xs_if_lt C d_M_count_36 (by decide) (xs_jmp (sM_count_42 C hr hlk hnm)) (xs_iinc C d_M_count_39 (by decide) (by decide) (xs_jmp (sM_count_42 C hr hlk hnm))))))))
set_option maxRecDepth 20000 in
set_option maxHeartbeats 4000000 in
theorem sM_count_10 {p : Program} {l : Launch} {e : Env} {s : State} {mm : MethodId} {args : Array Value} {below : List Frame} {meth : Method} {c : Code} {D : va_G} {A : Nat → Prop} {Rh : Option Value → xm_M → Prop} (C : xm_C p s mm args c b_M_count 6 "BlockVaultModel" w_M_count D classes ats A) (hr : meth.sig.returnType = (some .int)) (hlk : meth.locks = false) (hnm : meth.name = "count") : xm_le (cM_count_10 (xm_A p l e rm_M_count s mm args below meth c 6 D classes A (MQ below (xm_Q D classes Rh A) args s 0 0 A)) Rh) ((xm_A p l e rm_M_count s mm args below meth c 6 D classes A (MQ below (xm_Q D classes Rh A) args s 0 0 A)) 10) :=
  (xs_iload C d_M_count_10 (xs_bipush C d_M_count_12 (by decide) (xs_icmp_ge C d_M_count_14 (by decide) (xs_iload_n C d_M_count_76 rfl (xs_tsw C d_M_count_77 rfl ⟨⟨124, by decide, (xs_iload_n C d_M_count_124 rfl (xs_iret C d_M_count_125 hr hlk rfl rfl))⟩, ⟨⟨126, by decide, (xs_iload_n C d_M_count_126 rfl (xs_iret C d_M_count_127 hr hlk rfl rfl))⟩, ⟨⟨128, by decide, (xs_iload C d_M_count_128 (xs_iret C d_M_count_130 hr hlk rfl rfl))⟩, ⟨⟨131, by decide, (xs_aload_n C d_M_count_131 rfl (xs_get C (k := 12) d_M_count_132 h_M (ci := 5) rfl (by decide) (List.mem_cons_of_mem _ tw_433) rfl (xs_iret C d_M_count_135 hr hlk rfl rfl)))⟩, ⟨⟨136, by decide, (xs_aload_n C d_M_count_136 rfl (xs_get C (k := 17) d_M_count_137 h_M (ci := 5) rfl (by decide) (List.mem_cons_of_mem _ tw_438) rfl (xs_if_eq C d_M_count_140 (by decide) (xs_aload_n C d_M_count_147 rfl (xs_get C (k := 13) d_M_count_148 h_M (ci := 5) rfl (by decide) (List.mem_cons_of_mem _ tw_434) rfl (xs_iret C d_M_count_151 hr hlk rfl rfl))) (xs_iconst C d_M_count_143 (by decide) (xs_goto C d_M_count_144 (by decide) (xs_iret C d_M_count_151 hr hlk rfl rfl))))))⟩, ⟨⟨152, by decide, (xs_aload_n C d_M_count_152 rfl (xs_get C (k := 15) d_M_count_153 h_M (ci := 5) rfl (by decide) (List.mem_cons_of_mem _ tw_436) rfl (xs_iret C d_M_count_156 hr hlk rfl rfl)))⟩, ⟨⟨157, by decide, (xs_aload_n C d_M_count_157 rfl (xs_get C (k := 16) d_M_count_158 h_M (ci := 5) rfl (by decide) (List.mem_cons_of_mem _ tw_437) rfl (xs_iret C d_M_count_161 hr hlk rfl rfl)))⟩, ⟨⟨162, by decide, (xs_aload_n C d_M_count_162 rfl (xs_get C (k := 17) d_M_count_163 h_M (ci := 5) rfl (by decide) (List.mem_cons_of_mem _ tw_438) rfl (xs_if_eq C d_M_count_166 (by decide) (xs_iconst C d_M_count_173 (by decide) (xs_iret C d_M_count_174 hr hlk rfl rfl)) (xs_iconst C d_M_count_169 (by decide) (xs_goto C d_M_count_170 (by decide) (xs_iret C d_M_count_174 hr hlk rfl rfl))))))⟩, trivial⟩⟩⟩⟩⟩⟩⟩⟩ (tgd := 175) (by decide) (xs_iconst C d_M_count_175 (by decide) (xs_iret C d_M_count_176 hr hlk rfl rfl)))) (xs_aload_n C d_M_count_17 rfl (xs_iload C d_M_count_18 (xs_callV C (CN := "BlockVaultModel") (T := F_M) (N := 18) d_M_count_20 (met_M_isThere l D) ⟨callB_of (ws := w_M_isThere) (rm := rm_M_isThere) 1 C.1.2.2.2.2 (gG_m tw_488) rfl rfl rfl (C.1.2.2.2.2 _ (List.mem_cons_of_mem _ tw_5)) (C.1.2.2.2.2 _ (List.mem_cons_of_mem _ tw_485)) ⟨by decide, by decide, by decide +kernel⟩ ⟨Nat.le_of_ble_eq_true rfl, Nat.le_of_ble_eq_true rfl⟩, (C.1.2.2.2.2 _ (List.mem_cons_of_mem _ tw_487)), (C.1.2.2.2.2 _ (List.mem_cons_of_mem _ ts_33))⟩ (ci := 5) rfl (xs_if_eq C d_M_count_23 (by decide) (xs_jmp (sM_count_29 C hr hlk hnm)) (xs_iinc C d_M_count_26 (by decide) (by decide) (xs_jmp (sM_count_29 C hr hlk hnm))))))))))
set_option maxRecDepth 20000 in
set_option maxHeartbeats 4000000 in
theorem sM_count_0 {p : Program} {l : Launch} {e : Env} {s : State} {mm : MethodId} {args : Array Value} {below : List Frame} {meth : Method} {c : Code} {D : va_G} {A : Nat → Prop} {Rh : Option Value → xm_M → Prop} (C : xm_C p s mm args c b_M_count 6 "BlockVaultModel" w_M_count D classes ats A) (hr : meth.sig.returnType = (some .int)) (hlk : meth.locks = false) (hnm : meth.name = "count") : xm_le (cM_count_0 (xm_A p l e rm_M_count s mm args below meth c 6 D classes A (MQ below (xm_Q D classes Rh A) args s 0 0 A)) Rh) ((xm_A p l e rm_M_count s mm args below meth c 6 D classes A (MQ below (xm_Q D classes Rh A) args s 0 0 A)) 0) :=
  (xs_iconst C d_M_count_0 (by decide) (xs_istore_n C d_M_count_1 rfl (by decide) (xs_iconst C d_M_count_2 (by decide) (xs_istore_n C d_M_count_3 rfl (by decide) (xs_iconst C d_M_count_4 (by decide) (xs_istore C d_M_count_5 (by decide) (xs_iconst C d_M_count_7 (by decide) (xs_istore C d_M_count_8 (by decide) (xs_jmp (fun _ _ _ _ _ h => h))))))))))
theorem met_M_count (l : Launch) (D : va_G) : xm_Met l D classes ats y_M_count w_M_count rm_M_count 0 0 cp_M_count := by
  refine xm_met 0 (by decide) rfl rfl rfl (fun p e s mm args below meth c A Rh C hr hlk hnm lb => ?_)
  unfold fM_count
  split
  · rename_i h; subst h; exact sM_count_0 C hr hlk hnm
  split
  · rename_i h; subst h; exact sM_count_10 C hr hlk hnm
  · exact fun _ _ _ _ _ h => h.elim
theorem d_M_start_0 : decode b_M_start 0 = .ok (.aload_n 0, 1) := by decide +kernel
theorem d_M_start_1 : decode b_M_start 1 = .ok (.getfield 96, 3) := by decide +kernel
theorem d_M_start_4 : decode b_M_start 4 = .ok (.ifCond .ne 6, 3) := by decide +kernel
theorem d_M_start_7 : decode b_M_start 7 = .ok (.bipush (-2), 2) := by decide +kernel
theorem d_M_start_9 : decode b_M_start 9 = .ok (.ireturn, 1) := by decide +kernel
theorem d_M_start_10 : decode b_M_start 10 = .ok (.aload_n 0, 1) := by decide +kernel
theorem d_M_start_11 : decode b_M_start 11 = .ok (.iconst 0, 1) := by decide +kernel
theorem d_M_start_12 : decode b_M_start 12 = .ok (.putfield 96, 3) := by decide +kernel
theorem d_M_start_15 : decode b_M_start 15 = .ok (.aload_n 0, 1) := by decide +kernel
theorem d_M_start_16 : decode b_M_start 16 = .ok (.iconst 1, 1) := by decide +kernel
theorem d_M_start_17 : decode b_M_start 17 = .ok (.putfield 47, 3) := by decide +kernel
theorem d_M_start_20 : decode b_M_start 20 = .ok (.iconst 0, 1) := by decide +kernel
theorem d_M_start_21 : decode b_M_start 21 = .ok (.istore_n 1, 1) := by decide +kernel
theorem d_M_start_22 : decode b_M_start 22 = .ok (.iload_n 1, 1) := by decide +kernel
theorem d_M_start_23 : decode b_M_start 23 = .ok (.bipush 8, 2) := by decide +kernel
theorem d_M_start_25 : decode b_M_start 25 = .ok (.if_icmp .ge 64, 3) := by decide +kernel
theorem d_M_start_28 : decode b_M_start 28 = .ok (.iconst 0, 1) := by decide +kernel
theorem d_M_start_29 : decode b_M_start 29 = .ok (.istore_n 2, 1) := by decide +kernel
theorem d_M_start_30 : decode b_M_start 30 = .ok (.iload_n 2, 1) := by decide +kernel
theorem d_M_start_31 : decode b_M_start 31 = .ok (.aload_n 0, 1) := by decide +kernel
theorem d_M_start_32 : decode b_M_start 32 = .ok (.getfield 32, 3) := by decide +kernel
theorem d_M_start_35 : decode b_M_start 35 = .ok (.bipush 8, 2) := by decide +kernel
theorem d_M_start_37 : decode b_M_start 37 = .ok (.iload_n 1, 1) := by decide +kernel
theorem d_M_start_38 : decode b_M_start 38 = .ok (.iadd, 1) := by decide +kernel
theorem d_M_start_39 : decode b_M_start 39 = .ok (.iaload, 1) := by decide +kernel
theorem d_M_start_40 : decode b_M_start 40 = .ok (.if_icmp .ge 28, 3) := by decide +kernel
theorem d_M_start_43 : decode b_M_start 43 = .ok (.aload_n 0, 1) := by decide +kernel
theorem d_M_start_44 : decode b_M_start 44 = .ok (.bipush 96, 2) := by decide +kernel
theorem d_M_start_46 : decode b_M_start 46 = .ok (.bipush 12, 2) := by decide +kernel
theorem d_M_start_48 : decode b_M_start 48 = .ok (.iload_n 1, 1) := by decide +kernel
theorem d_M_start_49 : decode b_M_start 49 = .ok (.imul, 1) := by decide +kernel
theorem d_M_start_50 : decode b_M_start 50 = .ok (.iadd, 1) := by decide +kernel
theorem d_M_start_51 : decode b_M_start 51 = .ok (.iload_n 2, 1) := by decide +kernel
theorem d_M_start_52 : decode b_M_start 52 = .ok (.iadd, 1) := by decide +kernel
theorem d_M_start_53 : decode b_M_start 53 = .ok (.bipush 12, 2) := by decide +kernel
theorem d_M_start_55 : decode b_M_start 55 = .ok (.iload_n 1, 1) := by decide +kernel
theorem d_M_start_56 : decode b_M_start 56 = .ok (.imul, 1) := by decide +kernel
theorem d_M_start_57 : decode b_M_start 57 = .ok (.iload_n 2, 1) := by decide +kernel
theorem d_M_start_58 : decode b_M_start 58 = .ok (.iadd, 1) := by decide +kernel
theorem d_M_start_59 : decode b_M_start 59 = .ok (.invokevirtual 79, 3) := by decide +kernel
theorem d_M_start_62 : decode b_M_start 62 = .ok (.iinc 2 1, 3) := by decide +kernel
theorem d_M_start_65 : decode b_M_start 65 = .ok (.goto (-35), 3) := by decide +kernel
theorem d_M_start_68 : decode b_M_start 68 = .ok (.aload_n 0, 1) := by decide +kernel
theorem d_M_start_69 : decode b_M_start 69 = .ok (.getfield 32, 3) := by decide +kernel
theorem d_M_start_72 : decode b_M_start 72 = .ok (.iload_n 1, 1) := by decide +kernel
theorem d_M_start_73 : decode b_M_start 73 = .ok (.aload_n 0, 1) := by decide +kernel
theorem d_M_start_74 : decode b_M_start 74 = .ok (.getfield 32, 3) := by decide +kernel
theorem d_M_start_77 : decode b_M_start 77 = .ok (.bipush 8, 2) := by decide +kernel
theorem d_M_start_79 : decode b_M_start 79 = .ok (.iload_n 1, 1) := by decide +kernel
theorem d_M_start_80 : decode b_M_start 80 = .ok (.iadd, 1) := by decide +kernel
theorem d_M_start_81 : decode b_M_start 81 = .ok (.iaload, 1) := by decide +kernel
theorem d_M_start_82 : decode b_M_start 82 = .ok (.iastore, 1) := by decide +kernel
theorem d_M_start_83 : decode b_M_start 83 = .ok (.iinc 1 1, 3) := by decide +kernel
theorem d_M_start_86 : decode b_M_start 86 = .ok (.goto (-64), 3) := by decide +kernel
theorem d_M_start_89 : decode b_M_start 89 = .ok (.iconst 0, 1) := by decide +kernel
theorem d_M_start_90 : decode b_M_start 90 = .ok (.istore_n 1, 1) := by decide +kernel
theorem d_M_start_91 : decode b_M_start 91 = .ok (.iload_n 1, 1) := by decide +kernel
theorem d_M_start_92 : decode b_M_start 92 = .ok (.bipush 96, 2) := by decide +kernel
theorem d_M_start_94 : decode b_M_start 94 = .ok (.if_icmp .ge 96, 3) := by decide +kernel
theorem d_M_start_97 : decode b_M_start 97 = .ok (.iload_n 1, 1) := by decide +kernel
theorem d_M_start_98 : decode b_M_start 98 = .ok (.bipush 12, 2) := by decide +kernel
theorem d_M_start_100 : decode b_M_start 100 = .ok (.irem, 1) := by decide +kernel
theorem d_M_start_101 : decode b_M_start 101 = .ok (.aload_n 0, 1) := by decide +kernel
theorem d_M_start_102 : decode b_M_start 102 = .ok (.getfield 32, 3) := by decide +kernel
theorem d_M_start_105 : decode b_M_start 105 = .ok (.iload_n 1, 1) := by decide +kernel
theorem d_M_start_106 : decode b_M_start 106 = .ok (.bipush 12, 2) := by decide +kernel
theorem d_M_start_108 : decode b_M_start 108 = .ok (.idiv, 1) := by decide +kernel
theorem d_M_start_109 : decode b_M_start 109 = .ok (.iaload, 1) := by decide +kernel
theorem d_M_start_110 : decode b_M_start 110 = .ok (.if_icmp .lt 6, 3) := by decide +kernel
theorem d_M_start_113 : decode b_M_start 113 = .ok (.goto 71, 3) := by decide +kernel
theorem d_M_start_116 : decode b_M_start 116 = .ok (.aload_n 0, 1) := by decide +kernel
theorem d_M_start_117 : decode b_M_start 117 = .ok (.getfield 29, 3) := by decide +kernel
theorem d_M_start_120 : decode b_M_start 120 = .ok (.iload_n 1, 1) := by decide +kernel
theorem d_M_start_121 : decode b_M_start 121 = .ok (.iaload, 1) := by decide +kernel
theorem d_M_start_122 : decode b_M_start 122 = .ok (.aload_n 0, 1) := by decide +kernel
theorem d_M_start_123 : decode b_M_start 123 = .ok (.getfield 47, 3) := by decide +kernel
theorem d_M_start_126 : decode b_M_start 126 = .ok (.if_icmp .lt 15, 3) := by decide +kernel
theorem d_M_start_129 : decode b_M_start 129 = .ok (.aload_n 0, 1) := by decide +kernel
theorem d_M_start_130 : decode b_M_start 130 = .ok (.aload_n 0, 1) := by decide +kernel
theorem d_M_start_131 : decode b_M_start 131 = .ok (.getfield 29, 3) := by decide +kernel
theorem d_M_start_134 : decode b_M_start 134 = .ok (.iload_n 1, 1) := by decide +kernel
theorem d_M_start_135 : decode b_M_start 135 = .ok (.iaload, 1) := by decide +kernel
theorem d_M_start_136 : decode b_M_start 136 = .ok (.iconst 1, 1) := by decide +kernel
theorem d_M_start_137 : decode b_M_start 137 = .ok (.iadd, 1) := by decide +kernel
theorem d_M_start_138 : decode b_M_start 138 = .ok (.putfield 47, 3) := by decide +kernel
theorem d_M_start_141 : decode b_M_start 141 = .ok (.aload_n 0, 1) := by decide +kernel
theorem d_M_start_142 : decode b_M_start 142 = .ok (.getfield 13, 3) := by decide +kernel
theorem d_M_start_145 : decode b_M_start 145 = .ok (.iload_n 1, 1) := by decide +kernel
theorem d_M_start_146 : decode b_M_start 146 = .ok (.iaload, 1) := by decide +kernel
theorem d_M_start_147 : decode b_M_start 147 = .ok (.istore_n 2, 1) := by decide +kernel
theorem d_M_start_148 : decode b_M_start 148 = .ok (.aload_n 0, 1) := by decide +kernel
theorem d_M_start_149 : decode b_M_start 149 = .ok (.getfield 44, 3) := by decide +kernel
theorem d_M_start_152 : decode b_M_start 152 = .ok (.iload_n 2, 1) := by decide +kernel
theorem d_M_start_153 : decode b_M_start 153 = .ok (.iaload, 1) := by decide +kernel
theorem d_M_start_154 : decode b_M_start 154 = .ok (.ifCond .lt 23, 3) := by decide +kernel
theorem d_M_start_157 : decode b_M_start 157 = .ok (.aload_n 0, 1) := by decide +kernel
theorem d_M_start_158 : decode b_M_start 158 = .ok (.getfield 29, 3) := by decide +kernel
theorem d_M_start_161 : decode b_M_start 161 = .ok (.aload_n 0, 1) := by decide +kernel
theorem d_M_start_162 : decode b_M_start 162 = .ok (.getfield 44, 3) := by decide +kernel
theorem d_M_start_165 : decode b_M_start 165 = .ok (.iload_n 2, 1) := by decide +kernel
theorem d_M_start_166 : decode b_M_start 166 = .ok (.iaload, 1) := by decide +kernel
theorem d_M_start_167 : decode b_M_start 167 = .ok (.iaload, 1) := by decide +kernel
theorem d_M_start_168 : decode b_M_start 168 = .ok (.aload_n 0, 1) := by decide +kernel
theorem d_M_start_169 : decode b_M_start 169 = .ok (.getfield 29, 3) := by decide +kernel
theorem d_M_start_172 : decode b_M_start 172 = .ok (.iload_n 1, 1) := by decide +kernel
theorem d_M_start_173 : decode b_M_start 173 = .ok (.iaload, 1) := by decide +kernel
theorem d_M_start_174 : decode b_M_start 174 = .ok (.if_icmp .ge 10, 3) := by decide +kernel
theorem d_M_start_177 : decode b_M_start 177 = .ok (.aload_n 0, 1) := by decide +kernel
theorem d_M_start_178 : decode b_M_start 178 = .ok (.getfield 44, 3) := by decide +kernel
theorem d_M_start_181 : decode b_M_start 181 = .ok (.iload_n 2, 1) := by decide +kernel
theorem d_M_start_182 : decode b_M_start 182 = .ok (.iload_n 1, 1) := by decide +kernel
theorem d_M_start_183 : decode b_M_start 183 = .ok (.iastore, 1) := by decide +kernel
theorem d_M_start_184 : decode b_M_start 184 = .ok (.iinc 1 1, 3) := by decide +kernel
theorem d_M_start_187 : decode b_M_start 187 = .ok (.goto (-96), 3) := by decide +kernel
theorem d_M_start_190 : decode b_M_start 190 = .ok (.iconst 0, 1) := by decide +kernel
theorem d_M_start_191 : decode b_M_start 191 = .ok (.istore_n 1, 1) := by decide +kernel
theorem d_M_start_192 : decode b_M_start 192 = .ok (.iload_n 1, 1) := by decide +kernel
theorem d_M_start_193 : decode b_M_start 193 = .ok (.bipush 16, 2) := by decide +kernel
theorem d_M_start_195 : decode b_M_start 195 = .ok (.if_icmp .ge 38, 3) := by decide +kernel
theorem d_M_start_198 : decode b_M_start 198 = .ok (.aload_n 0, 1) := by decide +kernel
theorem d_M_start_199 : decode b_M_start 199 = .ok (.getfield 44, 3) := by decide +kernel
theorem d_M_start_202 : decode b_M_start 202 = .ok (.iload_n 1, 1) := by decide +kernel
theorem d_M_start_203 : decode b_M_start 203 = .ok (.iaload, 1) := by decide +kernel
theorem d_M_start_204 : decode b_M_start 204 = .ok (.ifCond .lt 23, 3) := by decide +kernel
theorem d_M_start_207 : decode b_M_start 207 = .ok (.aload_n 0, 1) := by decide +kernel
theorem d_M_start_208 : decode b_M_start 208 = .ok (.aload_n 0, 1) := by decide +kernel
theorem d_M_start_209 : decode b_M_start 209 = .ok (.getfield 44, 3) := by decide +kernel
theorem d_M_start_212 : decode b_M_start 212 = .ok (.iload_n 1, 1) := by decide +kernel
theorem d_M_start_213 : decode b_M_start 213 = .ok (.iaload, 1) := by decide +kernel
theorem d_M_start_214 : decode b_M_start 214 = .ok (.invokevirtual 54, 3) := by decide +kernel
theorem d_M_start_217 : decode b_M_start 217 = .ok (.ifCond .eq 10, 3) := by decide +kernel
theorem d_M_start_220 : decode b_M_start 220 = .ok (.aload_n 0, 1) := by decide +kernel
theorem d_M_start_221 : decode b_M_start 221 = .ok (.getfield 44, 3) := by decide +kernel
theorem d_M_start_224 : decode b_M_start 224 = .ok (.iload_n 1, 1) := by decide +kernel
theorem d_M_start_225 : decode b_M_start 225 = .ok (.iconst (-1), 1) := by decide +kernel
theorem d_M_start_226 : decode b_M_start 226 = .ok (.iastore, 1) := by decide +kernel
theorem d_M_start_227 : decode b_M_start 227 = .ok (.iinc 1 1, 3) := by decide +kernel
theorem d_M_start_230 : decode b_M_start 230 = .ok (.goto (-38), 3) := by decide +kernel
theorem d_M_start_233 : decode b_M_start 233 = .ok (.iconst 0, 1) := by decide +kernel
theorem d_M_start_234 : decode b_M_start 234 = .ok (.istore_n 1, 1) := by decide +kernel
theorem d_M_start_235 : decode b_M_start 235 = .ok (.iload_n 1, 1) := by decide +kernel
theorem d_M_start_236 : decode b_M_start 236 = .ok (.bipush 8, 2) := by decide +kernel
theorem d_M_start_238 : decode b_M_start 238 = .ok (.if_icmp .ge 34, 3) := by decide +kernel
theorem d_M_start_241 : decode b_M_start 241 = .ok (.aload_n 0, 1) := by decide +kernel
theorem d_M_start_242 : decode b_M_start 242 = .ok (.iload_n 1, 1) := by decide +kernel
theorem d_M_start_243 : decode b_M_start 243 = .ok (.invokevirtual 58, 3) := by decide +kernel
theorem d_M_start_246 : decode b_M_start 246 = .ok (.ifCond .le 13, 3) := by decide +kernel
theorem d_M_start_249 : decode b_M_start 249 = .ok (.aload_n 0, 1) := by decide +kernel
theorem d_M_start_250 : decode b_M_start 250 = .ok (.getfield 35, 3) := by decide +kernel
theorem d_M_start_253 : decode b_M_start 253 = .ok (.iload_n 1, 1) := by decide +kernel
theorem d_M_start_254 : decode b_M_start 254 = .ok (.iconst 3, 1) := by decide +kernel
theorem d_M_start_255 : decode b_M_start 255 = .ok (.iastore, 1) := by decide +kernel
theorem d_M_start_256 : decode b_M_start 256 = .ok (.goto 10, 3) := by decide +kernel
theorem d_M_start_259 : decode b_M_start 259 = .ok (.aload_n 0, 1) := by decide +kernel
theorem d_M_start_260 : decode b_M_start 260 = .ok (.getfield 32, 3) := by decide +kernel
theorem d_M_start_263 : decode b_M_start 263 = .ok (.iload_n 1, 1) := by decide +kernel
theorem d_M_start_264 : decode b_M_start 264 = .ok (.iconst 0, 1) := by decide +kernel
theorem d_M_start_265 : decode b_M_start 265 = .ok (.iastore, 1) := by decide +kernel
theorem d_M_start_266 : decode b_M_start 266 = .ok (.iinc 1 1, 3) := by decide +kernel
theorem d_M_start_269 : decode b_M_start 269 = .ok (.goto (-34), 3) := by decide +kernel
theorem d_M_start_272 : decode b_M_start 272 = .ok (.aload_n 0, 1) := by decide +kernel
theorem d_M_start_273 : decode b_M_start 273 = .ok (.iconst 0, 1) := by decide +kernel
theorem d_M_start_274 : decode b_M_start 274 = .ok (.invokevirtual 124, 3) := by decide +kernel
theorem d_M_start_277 : decode b_M_start 277 = .ok (.ireturn, 1) := by decide +kernel
-- BlockVaultModel.start()I: labels [0, 22, 30, 91, 141, 192, 235], loops [22, 30, 91, 192, 235]
abbrev rm_M_start : Room := { frames := 3, cells := 0, slots := 0, locals := 67 }
def cM_start_235 (X : Nat → xm_PT) (Rh : Option Value → xm_M → Prop) : xm_PT := (xo_iload 1 (xo_push (.int (nI 8)) (xo_icmp (fun x y => y ≤ x) (xo_aload 0 (xo_push (.int 0) (xo_callV 5 1 0 0 cp_M_count (xo_iret Rh)))) (xo_aload 0 (xo_iload 1 (xo_callV 5 1 0 0 cp_M_used (xo_if (fun x => x ≤ 0) (xo_aload 0 (xo_get 5 7 (xo_iload 1 (xo_push (.int 0) (xo_iast ats (xo_iinc 1 1 (xo_jmp [0, 1] (X 235)))))))) (xo_aload 0 (xo_get 5 8 (xo_iload 1 (xo_push (.int (nI 3)) (xo_iast ats (xo_iinc 1 1 (xo_jmp [0, 1] (X 235)))))))))))))))
def cM_start_192 (X : Nat → xm_PT) (Rh : Option Value → xm_M → Prop) : xm_PT := (xo_iload 1 (xo_push (.int (nI 16)) (xo_icmp (fun x y => y ≤ x) (xo_push (.int 0) (xo_istore 1 (xo_jmp [0, 1] (X 235)))) (xo_aload 0 (xo_get 5 11 (xo_iload 1 (xo_iald ats (xo_if (fun x => x < 0) (xo_iinc 1 1 (xo_jmp [0, 1] (X 192))) (xo_aload 0 (xo_aload 0 (xo_get 5 11 (xo_iload 1 (xo_iald ats (xo_callV 5 1 0 0 cp_M_expired (xo_if (fun x => x = 0) (xo_iinc 1 1 (xo_jmp [0, 1] (X 192))) (xo_aload 0 (xo_get 5 11 (xo_iload 1 (xo_push (.int (-1)) (xo_iast ats (xo_iinc 1 1 (xo_jmp [0, 1] (X 192)))))))))))))))))))))))
def cM_start_141 (X : Nat → xm_PT) (Rh : Option Value → xm_M → Prop) : xm_PT := (xo_aload 0 (xo_get 5 1 (xo_iload 1 (xo_iald ats (xo_istore 2 (xo_aload 0 (xo_get 5 11 (xo_iload 2 (xo_iald ats (xo_if (fun x => x < 0) (xo_aload 0 (xo_get 5 11 (xo_iload 2 (xo_iload 1 (xo_iast ats (xo_iinc 1 1 (xo_jmp [0, 1] (X 91)))))))) (xo_aload 0 (xo_get 5 6 (xo_aload 0 (xo_get 5 11 (xo_iload 2 (xo_iald ats (xo_iald ats (xo_aload 0 (xo_get 5 6 (xo_iload 1 (xo_iald ats (xo_icmp (fun x y => y ≤ x) (xo_iinc 1 1 (xo_jmp [0, 1] (X 91))) (xo_aload 0 (xo_get 5 11 (xo_iload 2 (xo_iload 1 (xo_iast ats (xo_iinc 1 1 (xo_jmp [0, 1] (X 91))))))))))))))))))))))))))))))
def cM_start_91 (X : Nat → xm_PT) (Rh : Option Value → xm_M → Prop) : xm_PT := (xo_iload 1 (xo_push (.int (nI 96)) (xo_icmp (fun x y => y ≤ x) (xo_push (.int 0) (xo_istore 1 (xo_jmp [0, 1] (X 192)))) (xo_iload 1 (xo_push (.int (nI 12)) (xo_irem (xo_aload 0 (xo_get 5 7 (xo_iload 1 (xo_push (.int (nI 12)) (xo_idiv (xo_iald ats (xo_icmp (fun x y => x < y) (xo_aload 0 (xo_get 5 6 (xo_iload 1 (xo_iald ats (xo_aload 0 (xo_get 5 13 (xo_icmp (fun x y => x < y) (xo_jmp [0, 1] (cM_start_141 X Rh)) (xo_aload 0 (xo_aload 0 (xo_get 5 6 (xo_iload 1 (xo_iald ats (xo_push (.int 1) (xo_ibin (fun x y => x + y) (xo_put 5 13 .int (xo_jmp [0, 1] (cM_start_141 X Rh))))))))))))))))) (xo_iinc 1 1 (xo_jmp [0, 1] (X 91))))))))))))))))
def cM_start_30 (X : Nat → xm_PT) (Rh : Option Value → xm_M → Prop) : xm_PT := (xo_iload 2 (xo_aload 0 (xo_get 5 7 (xo_push (.int (nI 8)) (xo_iload 1 (xo_ibin (fun x y => x + y) (xo_iald ats (xo_icmp (fun x y => y ≤ x) (xo_aload 0 (xo_get 5 7 (xo_iload 1 (xo_aload 0 (xo_get 5 7 (xo_push (.int (nI 8)) (xo_iload 1 (xo_ibin (fun x y => x + y) (xo_iald ats (xo_iast ats (xo_iinc 1 1 (xo_jmp [0, 1] (X 22))))))))))))) (xo_aload 0 (xo_push (.int (nI 96)) (xo_push (.int (nI 12)) (xo_iload 1 (xo_ibin (fun x y => x * y) (xo_ibin (fun x y => x + y) (xo_iload 2 (xo_ibin (fun x y => x + y) (xo_push (.int (nI 12)) (xo_iload 1 (xo_ibin (fun x y => x * y) (xo_iload 2 (xo_ibin (fun x y => x + y) (xo_callV 5 2 0 0 cp_M_copy (xo_iinc 2 1 (xo_jmp [0, 1, 2] (X 30)))))))))))))))))))))))))
def cM_start_22 (X : Nat → xm_PT) (Rh : Option Value → xm_M → Prop) : xm_PT := (xo_iload 1 (xo_push (.int (nI 8)) (xo_icmp (fun x y => y ≤ x) (xo_push (.int 0) (xo_istore 1 (xo_jmp [0, 1] (X 91)))) (xo_push (.int 0) (xo_istore 2 (xo_jmp [0, 1, 2] (X 30)))))))
def cM_start_0 (X : Nat → xm_PT) (Rh : Option Value → xm_M → Prop) : xm_PT := (xo_aload 0 (xo_get 5 17 (xo_if (fun x => x = 0) (xo_push (.int (-2)) (xo_iret Rh)) (xo_aload 0 (xo_push (.int 0) (xo_put 5 17 .boolean (xo_aload 0 (xo_push (.int 1) (xo_put 5 13 .int (xo_push (.int 0) (xo_istore 1 (xo_jmp [0, 1] (X 22)))))))))))))
def fM_start : xm_F := fun X Rh lb => if lb = 0 then cM_start_0 X Rh else (if lb = 22 then cM_start_22 X Rh else (if lb = 30 then cM_start_30 X Rh else (if lb = 91 then cM_start_91 X Rh else (if lb = 192 then cM_start_192 X Rh else (if lb = 235 then cM_start_235 X Rh else fun _ _ _ _ _ => False)))))
def cp_M_start : xm_CP := fun as m Rh => (lg_sl as).length ≤ 3 ∧ xm_cp fM_start 0 0 as m Rh
theorem eM_start_0 {X : Nat → xm_PT} {Rh : Option Value → xm_M → Prop} (hX : ∀ lb, xm_le (fM_start X Rh lb) (X lb)) {ls : xm_L} {st : List Value} {m : xm_M} {bc bs : Nat} (h : cM_start_0 X Rh ls st m bc bs) : X 0 ls st m bc bs := hX 0 ls st m bc bs h
theorem eM_start_22 {X : Nat → xm_PT} {Rh : Option Value → xm_M → Prop} (hX : ∀ lb, xm_le (fM_start X Rh lb) (X lb)) {ls : xm_L} {st : List Value} {m : xm_M} {bc bs : Nat} (h : cM_start_22 X Rh ls st m bc bs) : X 22 ls st m bc bs := hX 22 ls st m bc bs h
theorem eM_start_30 {X : Nat → xm_PT} {Rh : Option Value → xm_M → Prop} (hX : ∀ lb, xm_le (fM_start X Rh lb) (X lb)) {ls : xm_L} {st : List Value} {m : xm_M} {bc bs : Nat} (h : cM_start_30 X Rh ls st m bc bs) : X 30 ls st m bc bs := hX 30 ls st m bc bs h
theorem eM_start_91 {X : Nat → xm_PT} {Rh : Option Value → xm_M → Prop} (hX : ∀ lb, xm_le (fM_start X Rh lb) (X lb)) {ls : xm_L} {st : List Value} {m : xm_M} {bc bs : Nat} (h : cM_start_91 X Rh ls st m bc bs) : X 91 ls st m bc bs := hX 91 ls st m bc bs h
theorem eM_start_192 {X : Nat → xm_PT} {Rh : Option Value → xm_M → Prop} (hX : ∀ lb, xm_le (fM_start X Rh lb) (X lb)) {ls : xm_L} {st : List Value} {m : xm_M} {bc bs : Nat} (h : cM_start_192 X Rh ls st m bc bs) : X 192 ls st m bc bs := hX 192 ls st m bc bs h
theorem eM_start_235 {X : Nat → xm_PT} {Rh : Option Value → xm_M → Prop} (hX : ∀ lb, xm_le (fM_start X Rh lb) (X lb)) {ls : xm_L} {st : List Value} {m : xm_M} {bc bs : Nat} (h : cM_start_235 X Rh ls st m bc bs) : X 235 ls st m bc bs := hX 235 ls st m bc bs h
set_option maxRecDepth 20000 in
set_option maxHeartbeats 4000000 in
theorem sM_start_235 {p : Program} {l : Launch} {e : Env} {s : State} {mm : MethodId} {args : Array Value} {below : List Frame} {meth : Method} {c : Code} {D : va_G} {A : Nat → Prop} {Rh : Option Value → xm_M → Prop} (C : xm_C p s mm args c b_M_start 3 "BlockVaultModel" w_M_start D classes ats A) (hr : meth.sig.returnType = (some .int)) (hlk : meth.locks = false) (hnm : meth.name = "start") : xm_le (cM_start_235 (xm_A p l e rm_M_start s mm args below meth c 3 D classes A (MQ below (xm_Q D classes Rh A) args s 0 0 A)) Rh) ((xm_A p l e rm_M_start s mm args below meth c 3 D classes A (MQ below (xm_Q D classes Rh A) args s 0 0 A)) 235) :=
  (xs_iload_n C d_M_start_235 rfl (xs_bipush C d_M_start_236 (by decide) (xs_icmp_ge C d_M_start_238 (by decide) (xs_aload_n C d_M_start_272 rfl (xs_iconst C d_M_start_273 (by decide) (xs_callV C (CN := "BlockVaultModel") (T := F_M) (N := 18) d_M_start_274 (met_M_count l D) ⟨callB_of (ws := w_M_count) (rm := rm_M_count) 1 C.1.2.2.2.2 (gG_m tw_593) rfl rfl rfl (C.1.2.2.2.2 _ (List.mem_cons_of_mem _ tw_5)) (C.1.2.2.2.2 _ (List.mem_cons_of_mem _ tw_590)) ⟨by decide, by decide, by decide +kernel⟩ ⟨Nat.le_of_ble_eq_true rfl, Nat.le_of_ble_eq_true rfl⟩, (C.1.2.2.2.2 _ (List.mem_cons_of_mem _ tw_591)), (C.1.2.2.2.2 _ (List.mem_cons_of_mem _ tw_592))⟩ (ci := 5) rfl (xs_iret C d_M_start_277 hr hlk rfl rfl)))) (xs_aload_n C d_M_start_241 rfl (xs_iload_n C d_M_start_242 rfl (xs_callV C (CN := "BlockVaultModel") (T := F_M) (N := 18) d_M_start_243 (met_M_used l D) ⟨callB_of (ws := w_M_used) (rm := rm_M_used) 1 C.1.2.2.2.2 (gG_m tw_532) rfl rfl rfl (C.1.2.2.2.2 _ (List.mem_cons_of_mem _ tw_5)) (C.1.2.2.2.2 _ (List.mem_cons_of_mem _ tw_529)) ⟨by decide, by decide, by decide +kernel⟩ ⟨Nat.le_of_ble_eq_true rfl, Nat.le_of_ble_eq_true rfl⟩, (C.1.2.2.2.2 _ (List.mem_cons_of_mem _ tw_531)), (C.1.2.2.2.2 _ (List.mem_cons_of_mem _ ts_44))⟩ (ci := 5) rfl (xs_if_le C d_M_start_246 (by decide) (xs_aload_n C d_M_start_259 rfl (xs_get C (k := 7) d_M_start_260 h_M (ci := 5) rfl (by decide) (List.mem_cons_of_mem _ tw_428) rfl (xs_iload_n C d_M_start_263 rfl (xs_iconst C d_M_start_264 (by decide) (xs_iast C d_M_start_265 (xs_iinc C d_M_start_266 (by decide) (by decide) (xs_goto C d_M_start_269 (by decide) (xs_jmp (fun _ _ _ _ _ h => h))))))))) (xs_aload_n C d_M_start_249 rfl (xs_get C (k := 8) d_M_start_250 h_M (ci := 5) rfl (by decide) (List.mem_cons_of_mem _ tw_429) rfl (xs_iload_n C d_M_start_253 rfl (xs_iconst C d_M_start_254 (by decide) (xs_iast C d_M_start_255 (xs_goto C d_M_start_256 (by decide) (xs_iinc C d_M_start_266 (by decide) (by decide) (xs_goto C d_M_start_269 (by decide) (xs_jmp (fun _ _ _ _ _ h => h)))))))))))))))))
set_option maxRecDepth 20000 in
set_option maxHeartbeats 4000000 in
theorem sM_start_192 {p : Program} {l : Launch} {e : Env} {s : State} {mm : MethodId} {args : Array Value} {below : List Frame} {meth : Method} {c : Code} {D : va_G} {A : Nat → Prop} {Rh : Option Value → xm_M → Prop} (C : xm_C p s mm args c b_M_start 3 "BlockVaultModel" w_M_start D classes ats A) (hr : meth.sig.returnType = (some .int)) (hlk : meth.locks = false) (hnm : meth.name = "start") : xm_le (cM_start_192 (xm_A p l e rm_M_start s mm args below meth c 3 D classes A (MQ below (xm_Q D classes Rh A) args s 0 0 A)) Rh) ((xm_A p l e rm_M_start s mm args below meth c 3 D classes A (MQ below (xm_Q D classes Rh A) args s 0 0 A)) 192) :=
  (xs_iload_n C d_M_start_192 rfl (xs_bipush C d_M_start_193 (by decide) (xs_icmp_ge C d_M_start_195 (by decide) (xs_iconst C d_M_start_233 (by decide) (xs_istore_n C d_M_start_234 rfl (by decide) (xs_jmp (fun _ _ _ _ _ h => h)))) (xs_aload_n C d_M_start_198 rfl (xs_get C (k := 11) d_M_start_199 h_M (ci := 5) rfl (by decide) (List.mem_cons_of_mem _ tw_432) rfl (xs_iload_n C d_M_start_202 rfl (xs_iald C d_M_start_203 (xs_if_lt C d_M_start_204 (by decide) (xs_iinc C d_M_start_227 (by decide) (by decide) (xs_goto C d_M_start_230 (by decide) (xs_jmp (fun _ _ _ _ _ h => h)))) (xs_aload_n C d_M_start_207 rfl (xs_aload_n C d_M_start_208 rfl (xs_get C (k := 11) d_M_start_209 h_M (ci := 5) rfl (by decide) (List.mem_cons_of_mem _ tw_432) rfl (xs_iload_n C d_M_start_212 rfl (xs_iald C d_M_start_213 (xs_callV C (CN := "BlockVaultModel") (T := F_M) (N := 18) d_M_start_214 (met_M_expired l D) ⟨callB_of (ws := w_M_expired) (rm := rm_M_expired) 1 C.1.2.2.2.2 (gG_m tw_492) rfl rfl rfl (C.1.2.2.2.2 _ (List.mem_cons_of_mem _ tw_5)) (C.1.2.2.2.2 _ (List.mem_cons_of_mem _ tw_489)) ⟨by decide, by decide, by decide +kernel⟩ ⟨Nat.le_of_ble_eq_true rfl, Nat.le_of_ble_eq_true rfl⟩, (C.1.2.2.2.2 _ (List.mem_cons_of_mem _ tw_491)), (C.1.2.2.2.2 _ (List.mem_cons_of_mem _ ts_34))⟩ (ci := 5) rfl (xs_if_eq C d_M_start_217 (by decide) (xs_iinc C d_M_start_227 (by decide) (by decide) (xs_goto C d_M_start_230 (by decide) (xs_jmp (fun _ _ _ _ _ h => h)))) (xs_aload_n C d_M_start_220 rfl (xs_get C (k := 11) d_M_start_221 h_M (ci := 5) rfl (by decide) (List.mem_cons_of_mem _ tw_432) rfl (xs_iload_n C d_M_start_224 rfl (xs_iconst C d_M_start_225 (by decide) (xs_iast C d_M_start_226 (xs_iinc C d_M_start_227 (by decide) (by decide) (xs_goto C d_M_start_230 (by decide) (xs_jmp (fun _ _ _ _ _ h => h))))))))))))))))))))))))
set_option maxRecDepth 20000 in
set_option maxHeartbeats 4000000 in
theorem sM_start_141 {p : Program} {l : Launch} {e : Env} {s : State} {mm : MethodId} {args : Array Value} {below : List Frame} {meth : Method} {c : Code} {D : va_G} {A : Nat → Prop} {Rh : Option Value → xm_M → Prop} (C : xm_C p s mm args c b_M_start 3 "BlockVaultModel" w_M_start D classes ats A) (hr : meth.sig.returnType = (some .int)) (hlk : meth.locks = false) (hnm : meth.name = "start") : xm_le (cM_start_141 (xm_A p l e rm_M_start s mm args below meth c 3 D classes A (MQ below (xm_Q D classes Rh A) args s 0 0 A)) Rh) ((xm_A p l e rm_M_start s mm args below meth c 3 D classes A (MQ below (xm_Q D classes Rh A) args s 0 0 A)) 141) :=
  (xs_aload_n C d_M_start_141 rfl (xs_get C (k := 1) d_M_start_142 h_M (ci := 5) rfl (by decide) (List.mem_cons_of_mem _ tw_422) rfl (xs_iload_n C d_M_start_145 rfl (xs_iald C d_M_start_146 (xs_istore_n C d_M_start_147 rfl (by decide) (xs_aload_n C d_M_start_148 rfl (xs_get C (k := 11) d_M_start_149 h_M (ci := 5) rfl (by decide) (List.mem_cons_of_mem _ tw_432) rfl (xs_iload_n C d_M_start_152 rfl (xs_iald C d_M_start_153 (xs_if_lt C d_M_start_154 (by decide) (xs_aload_n C d_M_start_177 rfl (xs_get C (k := 11) d_M_start_178 h_M (ci := 5) rfl (by decide) (List.mem_cons_of_mem _ tw_432) rfl (xs_iload_n C d_M_start_181 rfl (xs_iload_n C d_M_start_182 rfl (xs_iast C d_M_start_183 (xs_iinc C d_M_start_184 (by decide) (by decide) (xs_goto C d_M_start_187 (by decide) (xs_jmp (fun _ _ _ _ _ h => h))))))))) (xs_aload_n C d_M_start_157 rfl (xs_get C (k := 6) d_M_start_158 h_M (ci := 5) rfl (by decide) (List.mem_cons_of_mem _ tw_427) rfl (xs_aload_n C d_M_start_161 rfl (xs_get C (k := 11) d_M_start_162 h_M (ci := 5) rfl (by decide) (List.mem_cons_of_mem _ tw_432) rfl (xs_iload_n C d_M_start_165 rfl (xs_iald C d_M_start_166 (xs_iald C d_M_start_167 (xs_aload_n C d_M_start_168 rfl (xs_get C (k := 6) d_M_start_169 h_M (ci := 5) rfl (by decide) (List.mem_cons_of_mem _ tw_427) rfl (xs_iload_n C d_M_start_172 rfl (xs_iald C d_M_start_173 (xs_icmp_ge C d_M_start_174 (by decide) (xs_iinc C d_M_start_184 (by decide) (by decide) (xs_goto C d_M_start_187 (by decide) (xs_jmp (fun _ _ _ _ _ h => h)))) (xs_aload_n C d_M_start_177 rfl (xs_get C (k := 11) d_M_start_178 h_M (ci := 5) rfl (by decide) (List.mem_cons_of_mem _ tw_432) rfl (xs_iload_n C d_M_start_181 rfl (xs_iload_n C d_M_start_182 rfl (xs_iast C d_M_start_183 (xs_iinc C d_M_start_184 (by decide) (by decide) (xs_goto C d_M_start_187 (by decide) (xs_jmp (fun _ _ _ _ _ h => h)))))))))))))))))))))))))))))))
set_option maxRecDepth 20000 in
set_option maxHeartbeats 4000000 in
theorem sM_start_91 {p : Program} {l : Launch} {e : Env} {s : State} {mm : MethodId} {args : Array Value} {below : List Frame} {meth : Method} {c : Code} {D : va_G} {A : Nat → Prop} {Rh : Option Value → xm_M → Prop} (C : xm_C p s mm args c b_M_start 3 "BlockVaultModel" w_M_start D classes ats A) (hr : meth.sig.returnType = (some .int)) (hlk : meth.locks = false) (hnm : meth.name = "start") : xm_le (cM_start_91 (xm_A p l e rm_M_start s mm args below meth c 3 D classes A (MQ below (xm_Q D classes Rh A) args s 0 0 A)) Rh) ((xm_A p l e rm_M_start s mm args below meth c 3 D classes A (MQ below (xm_Q D classes Rh A) args s 0 0 A)) 91) :=
  (xs_iload_n C d_M_start_91 rfl (xs_bipush C d_M_start_92 (by decide) (xs_icmp_ge C d_M_start_94 (by decide) (xs_iconst C d_M_start_190 (by decide) (xs_istore_n C d_M_start_191 rfl (by decide) (xs_jmp (fun _ _ _ _ _ h => h)))) (xs_iload_n C d_M_start_97 rfl (xs_bipush C d_M_start_98 (by decide) (xs_irem C d_M_start_100 (xs_aload_n C d_M_start_101 rfl (xs_get C (k := 7) d_M_start_102 h_M (ci := 5) rfl (by decide) (List.mem_cons_of_mem _ tw_428) rfl (xs_iload_n C d_M_start_105 rfl (xs_bipush C d_M_start_106 (by decide) (xs_idiv C d_M_start_108 (xs_iald C d_M_start_109 (xs_icmp_lt C d_M_start_110 (by decide) (xs_aload_n C d_M_start_116 rfl (xs_get C (k := 6) d_M_start_117 h_M (ci := 5) rfl (by decide) (List.mem_cons_of_mem _ tw_427) rfl (xs_iload_n C d_M_start_120 rfl (xs_iald C d_M_start_121 (xs_aload_n C d_M_start_122 rfl (xs_get C (k := 13) d_M_start_123 h_M (ci := 5) rfl (by decide) (List.mem_cons_of_mem _ tw_434) rfl (xs_icmp_lt C d_M_start_126 (by decide) (xs_jmp (sM_start_141 C hr hlk hnm)) (xs_aload_n C d_M_start_129 rfl (xs_aload_n C d_M_start_130 rfl (xs_get C (k := 6) d_M_start_131 h_M (ci := 5) rfl (by decide) (List.mem_cons_of_mem _ tw_427) rfl (xs_iload_n C d_M_start_134 rfl (xs_iald C d_M_start_135 (xs_iconst C d_M_start_136 (by decide) (xs_iadd C d_M_start_137 (xs_put C (k := 13) d_M_start_138 h_M t_M t_M_ok n_M (ci := 5) rfl (by decide) (List.mem_cons_of_mem _ tw_434) rfl rfl (by decide +kernel) (xs_jmp (sM_start_141 C hr hlk hnm))))))))))))))))) (xs_goto C d_M_start_113 (by decide) (xs_iinc C d_M_start_184 (by decide) (by decide) (xs_goto C d_M_start_187 (by decide) (xs_jmp (fun _ _ _ _ _ h => h))))))))))))))))))
set_option maxRecDepth 20000 in
set_option maxHeartbeats 4000000 in
theorem sM_start_30 {p : Program} {l : Launch} {e : Env} {s : State} {mm : MethodId} {args : Array Value} {below : List Frame} {meth : Method} {c : Code} {D : va_G} {A : Nat → Prop} {Rh : Option Value → xm_M → Prop} (C : xm_C p s mm args c b_M_start 3 "BlockVaultModel" w_M_start D classes ats A) (hr : meth.sig.returnType = (some .int)) (hlk : meth.locks = false) (hnm : meth.name = "start") : xm_le (cM_start_30 (xm_A p l e rm_M_start s mm args below meth c 3 D classes A (MQ below (xm_Q D classes Rh A) args s 0 0 A)) Rh) ((xm_A p l e rm_M_start s mm args below meth c 3 D classes A (MQ below (xm_Q D classes Rh A) args s 0 0 A)) 30) :=
  (xs_iload_n C d_M_start_30 rfl (xs_aload_n C d_M_start_31 rfl (xs_get C (k := 7) d_M_start_32 h_M (ci := 5) rfl (by decide) (List.mem_cons_of_mem _ tw_428) rfl (xs_bipush C d_M_start_35 (by decide) (xs_iload_n C d_M_start_37 rfl (xs_iadd C d_M_start_38 (xs_iald C d_M_start_39 (xs_icmp_ge C d_M_start_40 (by decide) (xs_aload_n C d_M_start_68 rfl (xs_get C (k := 7) d_M_start_69 h_M (ci := 5) rfl (by decide) (List.mem_cons_of_mem _ tw_428) rfl (xs_iload_n C d_M_start_72 rfl (xs_aload_n C d_M_start_73 rfl (xs_get C (k := 7) d_M_start_74 h_M (ci := 5) rfl (by decide) (List.mem_cons_of_mem _ tw_428) rfl (xs_bipush C d_M_start_77 (by decide) (xs_iload_n C d_M_start_79 rfl (xs_iadd C d_M_start_80 (xs_iald C d_M_start_81 (xs_iast C d_M_start_82 (xs_iinc C d_M_start_83 (by decide) (by decide) (xs_goto C d_M_start_86 (by decide) (xs_jmp (fun _ _ _ _ _ h => h)))))))))))))) (xs_aload_n C d_M_start_43 rfl (xs_bipush C d_M_start_44 (by decide) (xs_bipush C d_M_start_46 (by decide) (xs_iload_n C d_M_start_48 rfl (xs_imul C d_M_start_49 (xs_iadd C d_M_start_50 (xs_iload_n C d_M_start_51 rfl (xs_iadd C d_M_start_52 (xs_bipush C d_M_start_53 (by decide) (xs_iload_n C d_M_start_55 rfl (xs_imul C d_M_start_56 (xs_iload_n C d_M_start_57 rfl (xs_iadd C d_M_start_58 (xs_callV C (CN := "BlockVaultModel") (T := F_M) (N := 18) d_M_start_59 (met_M_copy l D) ⟨callB_of (ws := w_M_copy) (rm := rm_M_copy) 2 C.1.2.2.2.2 (gG_m tw_524) rfl rfl rfl (C.1.2.2.2.2 _ (List.mem_cons_of_mem _ tw_5)) (C.1.2.2.2.2 _ (List.mem_cons_of_mem _ tw_521)) ⟨by decide, by decide, by decide +kernel⟩ ⟨Nat.le_of_ble_eq_true rfl, Nat.le_of_ble_eq_true rfl⟩, (C.1.2.2.2.2 _ (List.mem_cons_of_mem _ tw_523)), (C.1.2.2.2.2 _ (List.mem_cons_of_mem _ ts_42))⟩ (ci := 5) rfl (xs_iinc C d_M_start_62 (by decide) (by decide) (xs_goto C d_M_start_65 (by decide) (xs_jmp (fun _ _ _ _ _ h => h))))))))))))))))))))))))))
set_option maxRecDepth 20000 in
set_option maxHeartbeats 4000000 in
theorem sM_start_22 {p : Program} {l : Launch} {e : Env} {s : State} {mm : MethodId} {args : Array Value} {below : List Frame} {meth : Method} {c : Code} {D : va_G} {A : Nat → Prop} {Rh : Option Value → xm_M → Prop} (C : xm_C p s mm args c b_M_start 3 "BlockVaultModel" w_M_start D classes ats A) (hr : meth.sig.returnType = (some .int)) (hlk : meth.locks = false) (hnm : meth.name = "start") : xm_le (cM_start_22 (xm_A p l e rm_M_start s mm args below meth c 3 D classes A (MQ below (xm_Q D classes Rh A) args s 0 0 A)) Rh) ((xm_A p l e rm_M_start s mm args below meth c 3 D classes A (MQ below (xm_Q D classes Rh A) args s 0 0 A)) 22) :=
  (xs_iload_n C d_M_start_22 rfl (xs_bipush C d_M_start_23 (by decide) (xs_icmp_ge C d_M_start_25 (by decide) (xs_iconst C d_M_start_89 (by decide) (xs_istore_n C d_M_start_90 rfl (by decide) (xs_jmp (fun _ _ _ _ _ h => h)))) (xs_iconst C d_M_start_28 (by decide) (xs_istore_n C d_M_start_29 rfl (by decide) (xs_jmp (fun _ _ _ _ _ h => h)))))))
set_option maxRecDepth 20000 in
set_option maxHeartbeats 4000000 in
theorem sM_start_0 {p : Program} {l : Launch} {e : Env} {s : State} {mm : MethodId} {args : Array Value} {below : List Frame} {meth : Method} {c : Code} {D : va_G} {A : Nat → Prop} {Rh : Option Value → xm_M → Prop} (C : xm_C p s mm args c b_M_start 3 "BlockVaultModel" w_M_start D classes ats A) (hr : meth.sig.returnType = (some .int)) (hlk : meth.locks = false) (hnm : meth.name = "start") : xm_le (cM_start_0 (xm_A p l e rm_M_start s mm args below meth c 3 D classes A (MQ below (xm_Q D classes Rh A) args s 0 0 A)) Rh) ((xm_A p l e rm_M_start s mm args below meth c 3 D classes A (MQ below (xm_Q D classes Rh A) args s 0 0 A)) 0) :=
  (xs_aload_n C d_M_start_0 rfl (xs_get C (k := 17) d_M_start_1 h_M (ci := 5) rfl (by decide) (List.mem_cons_of_mem _ tw_438) rfl (xs_if_ne C d_M_start_4 (by decide) (xs_bipush C d_M_start_7 (by decide) (xs_iret C d_M_start_9 hr hlk rfl rfl)) (xs_aload_n C d_M_start_10 rfl (xs_iconst C d_M_start_11 (by decide) (xs_put C (k := 17) d_M_start_12 h_M t_M t_M_ok n_M (ci := 5) rfl (by decide) (List.mem_cons_of_mem _ tw_438) rfl rfl (by decide +kernel) (xs_aload_n C d_M_start_15 rfl (xs_iconst C d_M_start_16 (by decide) (xs_put C (k := 13) d_M_start_17 h_M t_M t_M_ok n_M (ci := 5) rfl (by decide) (List.mem_cons_of_mem _ tw_434) rfl rfl (by decide +kernel) (xs_iconst C d_M_start_20 (by decide) (xs_istore_n C d_M_start_21 rfl (by decide) (xs_jmp (fun _ _ _ _ _ h => h)))))))))))))
theorem met_M_start (l : Launch) (D : va_G) : xm_Met l D classes ats y_M_start w_M_start rm_M_start 0 0 cp_M_start := by
  refine xm_met 0 (by decide) rfl rfl rfl (fun p e s mm args below meth c A Rh C hr hlk hnm lb => ?_)
  unfold fM_start
  split
  · rename_i h; subst h; exact sM_start_0 C hr hlk hnm
  split
  · rename_i h; subst h; exact sM_start_22 C hr hlk hnm
  split
  · rename_i h; subst h; exact sM_start_30 C hr hlk hnm
  split
  · rename_i h; subst h; exact sM_start_91 C hr hlk hnm
  split
  · rename_i h; subst h; exact sM_start_192 C hr hlk hnm
  split
  · rename_i h; subst h; exact sM_start_235 C hr hlk hnm
  · exact fun _ _ _ _ _ h => h.elim
theorem d_M_entry_0 : decode b_M_entry 0 = .ok (.iload_n 1, 1) := by decide +kernel
theorem d_M_entry_1 : decode b_M_entry 1 = .ok (.iconst 0, 1) := by decide +kernel
theorem d_M_entry_2 : decode b_M_entry 2 = .ok (.bipush 15, 2) := by decide +kernel
theorem d_M_entry_4 : decode b_M_entry 4 = .ok (.invokestatic 92, 3) := by decide +kernel
theorem d_M_entry_7 : decode b_M_entry 7 = .ok (.ifCond .eq 13, 3) := by decide +kernel
theorem d_M_entry_10 : decode b_M_entry 10 = .ok (.iload_n 2, 1) := by decide +kernel
theorem d_M_entry_11 : decode b_M_entry 11 = .ok (.iconst 0, 1) := by decide +kernel
theorem d_M_entry_12 : decode b_M_entry 12 = .ok (.bipush 6, 2) := by decide +kernel
theorem d_M_entry_14 : decode b_M_entry 14 = .ok (.invokestatic 92, 3) := by decide +kernel
theorem d_M_entry_17 : decode b_M_entry 17 = .ok (.ifCond .ne 5, 3) := by decide +kernel
theorem d_M_entry_20 : decode b_M_entry 20 = .ok (.iconst (-1), 1) := by decide +kernel
theorem d_M_entry_21 : decode b_M_entry 21 = .ok (.ireturn, 1) := by decide +kernel
theorem d_M_entry_22 : decode b_M_entry 22 = .ok (.aload_n 0, 1) := by decide +kernel
theorem d_M_entry_23 : decode b_M_entry 23 = .ok (.getfield 96, 3) := by decide +kernel
theorem d_M_entry_26 : decode b_M_entry 26 = .ok (.ifCond .eq 6, 3) := by decide +kernel
theorem d_M_entry_29 : decode b_M_entry 29 = .ok (.bipush (-2), 2) := by decide +kernel
theorem d_M_entry_31 : decode b_M_entry 31 = .ok (.ireturn, 1) := by decide +kernel
theorem d_M_entry_32 : decode b_M_entry 32 = .ok (.aload_n 0, 1) := by decide +kernel
theorem d_M_entry_33 : decode b_M_entry 33 = .ok (.getfield 44, 3) := by decide +kernel
theorem d_M_entry_36 : decode b_M_entry 36 = .ok (.iload_n 1, 1) := by decide +kernel
theorem d_M_entry_37 : decode b_M_entry 37 = .ok (.iaload, 1) := by decide +kernel
theorem d_M_entry_38 : decode b_M_entry 38 = .ok (.istore_n 3, 1) := by decide +kernel
theorem d_M_entry_39 : decode b_M_entry 39 = .ok (.iload_n 3, 1) := by decide +kernel
theorem d_M_entry_40 : decode b_M_entry 40 = .ok (.ifCond .ge 6, 3) := by decide +kernel
theorem d_M_entry_43 : decode b_M_entry 43 = .ok (.bipush (-4), 2) := by decide +kernel
theorem d_M_entry_45 : decode b_M_entry 45 = .ok (.ireturn, 1) := by decide +kernel
theorem d_M_entry_46 : decode b_M_entry 46 = .ok (.iload_n 2, 1) := by decide +kernel
theorem d_M_entry_47 : decode b_M_entry 47 = .ok (.tableswitch 85 0 5 #[37, 52, 59, 66, 73, 80], 37) := by decide +kernel
theorem d_M_entry_84 : decode b_M_entry 84 = .ok (.aload_n 0, 1) := by decide +kernel
theorem d_M_entry_85 : decode b_M_entry 85 = .ok (.getfield 7, 3) := by decide +kernel
theorem d_M_entry_88 : decode b_M_entry 88 = .ok (.iload_n 3, 1) := by decide +kernel
theorem d_M_entry_89 : decode b_M_entry 89 = .ok (.baload, 1) := by decide +kernel
theorem d_M_entry_90 : decode b_M_entry 90 = .ok (.ifCond .eq 7, 3) := by decide +kernel
theorem d_M_entry_93 : decode b_M_entry 93 = .ok (.iconst 2, 1) := by decide +kernel
theorem d_M_entry_94 : decode b_M_entry 94 = .ok (.goto 4, 3) := by decide +kernel
theorem d_M_entry_97 : decode b_M_entry 97 = .ok (.iconst 1, 1) := by decide +kernel
theorem d_M_entry_98 : decode b_M_entry 98 = .ok (.ireturn, 1) := by decide +kernel
theorem d_M_entry_99 : decode b_M_entry 99 = .ok (.aload_n 0, 1) := by decide +kernel
theorem d_M_entry_100 : decode b_M_entry 100 = .ok (.getfield 23, 3) := by decide +kernel
theorem d_M_entry_103 : decode b_M_entry 103 = .ok (.iload_n 3, 1) := by decide +kernel
theorem d_M_entry_104 : decode b_M_entry 104 = .ok (.iaload, 1) := by decide +kernel
theorem d_M_entry_105 : decode b_M_entry 105 = .ok (.ireturn, 1) := by decide +kernel
theorem d_M_entry_106 : decode b_M_entry 106 = .ok (.aload_n 0, 1) := by decide +kernel
theorem d_M_entry_107 : decode b_M_entry 107 = .ok (.getfield 26, 3) := by decide +kernel
theorem d_M_entry_110 : decode b_M_entry 110 = .ok (.iload_n 3, 1) := by decide +kernel
theorem d_M_entry_111 : decode b_M_entry 111 = .ok (.iaload, 1) := by decide +kernel
theorem d_M_entry_112 : decode b_M_entry 112 = .ok (.ireturn, 1) := by decide +kernel
theorem d_M_entry_113 : decode b_M_entry 113 = .ok (.aload_n 0, 1) := by decide +kernel
theorem d_M_entry_114 : decode b_M_entry 114 = .ok (.getfield 29, 3) := by decide +kernel
theorem d_M_entry_117 : decode b_M_entry 117 = .ok (.iload_n 3, 1) := by decide +kernel
theorem d_M_entry_118 : decode b_M_entry 118 = .ok (.iaload, 1) := by decide +kernel
theorem d_M_entry_119 : decode b_M_entry 119 = .ok (.ireturn, 1) := by decide +kernel
theorem d_M_entry_120 : decode b_M_entry 120 = .ok (.aload_n 0, 1) := by decide +kernel
theorem d_M_entry_121 : decode b_M_entry 121 = .ok (.getfield 20, 3) := by decide +kernel
theorem d_M_entry_124 : decode b_M_entry 124 = .ok (.iload_n 3, 1) := by decide +kernel
theorem d_M_entry_125 : decode b_M_entry 125 = .ok (.iaload, 1) := by decide +kernel
theorem d_M_entry_126 : decode b_M_entry 126 = .ok (.ireturn, 1) := by decide +kernel
theorem d_M_entry_127 : decode b_M_entry 127 = .ok (.iload_n 3, 1) := by decide +kernel
theorem d_M_entry_128 : decode b_M_entry 128 = .ok (.bipush 12, 2) := by decide +kernel
theorem d_M_entry_130 : decode b_M_entry 130 = .ok (.idiv, 1) := by decide +kernel
theorem d_M_entry_131 : decode b_M_entry 131 = .ok (.ireturn, 1) := by decide +kernel
theorem d_M_entry_132 : decode b_M_entry 132 = .ok (.iload_n 3, 1) := by decide +kernel
theorem d_M_entry_133 : decode b_M_entry 133 = .ok (.bipush 12, 2) := by decide +kernel
theorem d_M_entry_135 : decode b_M_entry 135 = .ok (.irem, 1) := by decide +kernel
theorem d_M_entry_136 : decode b_M_entry 136 = .ok (.ireturn, 1) := by decide +kernel
-- BlockVaultModel.entry(II)I: labels [0], loops []
abbrev rm_M_entry : Room := { frames := 1, cells := 0, slots := 0, locals := 22 }
def cM_entry_0 (X : Nat → xm_PT) (Rh : Option Value → xm_M → Prop) : xm_PT := (xo_iload 1 (xo_push (.int 0) (xo_push (.int (nI 15)) (xo_callS 3 0 0 cp_M_in (xo_if (fun x => x = 0) (xo_push (.int (-1)) (xo_iret Rh)) (xo_iload 2 (xo_push (.int 0) (xo_push (.int (nI 6)) (xo_callS 3 0 0 cp_M_in (xo_if (fun x => x = 0) (xo_push (.int (-1)) (xo_iret Rh)) (xo_aload 0 (xo_get 5 17 (xo_if (fun x => x = 0) (xo_aload 0 (xo_get 5 11 (xo_iload 1 (xo_iald ats (xo_istore 3 (xo_iload 3 (xo_if (fun x => 0 ≤ x) (xo_iload 2 (xo_tsw 0 [(xo_aload 0 (xo_get 5 0 (xo_iload 3 (xo_zald ats (xo_if (fun x => x = 0) (xo_push (.int 1) (xo_iret Rh)) (xo_push (.int (nI 2)) (xo_iret Rh))))))), (xo_aload 0 (xo_get 5 4 (xo_iload 3 (xo_iald ats (xo_iret Rh))))), (xo_aload 0 (xo_get 5 5 (xo_iload 3 (xo_iald ats (xo_iret Rh))))), (xo_aload 0 (xo_get 5 6 (xo_iload 3 (xo_iald ats (xo_iret Rh))))), (xo_aload 0 (xo_get 5 3 (xo_iload 3 (xo_iald ats (xo_iret Rh))))), (xo_iload 3 (xo_push (.int (nI 12)) (xo_idiv (xo_iret Rh))))] (xo_iload 3 (xo_push (.int (nI 12)) (xo_irem (xo_iret Rh)))))) (xo_push (.int (-4)) (xo_iret Rh))))))))) (xo_push (.int (-2)) (xo_iret Rh)))))))))))))))
def fM_entry : xm_F := fun X Rh lb => if lb = 0 then cM_entry_0 X Rh else fun _ _ _ _ _ => False
def cp_M_entry : xm_CP := fun as m Rh => (lg_sl as).length ≤ 4 ∧ xm_cp fM_entry 0 0 as m Rh
theorem eM_entry_0 {X : Nat → xm_PT} {Rh : Option Value → xm_M → Prop} (hX : ∀ lb, xm_le (fM_entry X Rh lb) (X lb)) {ls : xm_L} {st : List Value} {m : xm_M} {bc bs : Nat} (h : cM_entry_0 X Rh ls st m bc bs) : X 0 ls st m bc bs := hX 0 ls st m bc bs h
set_option maxRecDepth 20000 in
set_option maxHeartbeats 4000000 in
theorem sM_entry_0 {p : Program} {l : Launch} {e : Env} {s : State} {mm : MethodId} {args : Array Value} {below : List Frame} {meth : Method} {c : Code} {D : va_G} {A : Nat → Prop} {Rh : Option Value → xm_M → Prop} (C : xm_C p s mm args c b_M_entry 4 "BlockVaultModel" w_M_entry D classes ats A) (hr : meth.sig.returnType = (some .int)) (hlk : meth.locks = false) (hnm : meth.name = "entry") : xm_le (cM_entry_0 (xm_A p l e rm_M_entry s mm args below meth c 4 D classes A (MQ below (xm_Q D classes Rh A) args s 0 0 A)) Rh) ((xm_A p l e rm_M_entry s mm args below meth c 4 D classes A (MQ below (xm_Q D classes Rh A) args s 0 0 A)) 0) :=
  (xs_iload_n C d_M_entry_0 rfl (xs_iconst C d_M_entry_1 (by decide) (xs_bipush C d_M_entry_2 (by decide) (xs_callS C d_M_entry_4 (met_M_in l D) ⟨callB_of (ws := w_M_in) (rm := rm_M_in) 3 C.1.2.2.2.2 (gG_m tw_484) rfl rfl rfl (C.1.2.2.2.2 _ (List.mem_cons_of_mem _ tw_5)) (C.1.2.2.2.2 _ (List.mem_cons_of_mem _ tw_482)) ⟨by decide, by decide, by decide +kernel⟩ ⟨Nat.le_of_ble_eq_true rfl, Nat.le_of_ble_eq_true rfl⟩, C.1.2.2.2.2 _ (List.mem_cons_of_mem _ tw_483)⟩ (xs_if_eq C d_M_entry_7 (by decide) (xs_iconst C d_M_entry_20 (by decide) (xs_iret C d_M_entry_21 hr hlk rfl rfl)) (xs_iload_n C d_M_entry_10 rfl (xs_iconst C d_M_entry_11 (by decide) (xs_bipush C d_M_entry_12 (by decide) (xs_callS C d_M_entry_14 (met_M_in l D) ⟨callB_of (ws := w_M_in) (rm := rm_M_in) 3 C.1.2.2.2.2 (gG_m tw_484) rfl rfl rfl (C.1.2.2.2.2 _ (List.mem_cons_of_mem _ tw_5)) (C.1.2.2.2.2 _ (List.mem_cons_of_mem _ tw_482)) ⟨by decide, by decide, by decide +kernel⟩ ⟨Nat.le_of_ble_eq_true rfl, Nat.le_of_ble_eq_true rfl⟩, C.1.2.2.2.2 _ (List.mem_cons_of_mem _ tw_483)⟩ (xs_if_ne C d_M_entry_17 (by decide) (xs_iconst C d_M_entry_20 (by decide) (xs_iret C d_M_entry_21 hr hlk rfl rfl)) (xs_aload_n C d_M_entry_22 rfl (xs_get C (k := 17) d_M_entry_23 h_M (ci := 5) rfl (by decide) (List.mem_cons_of_mem _ tw_438) rfl (xs_if_eq C d_M_entry_26 (by decide) (xs_aload_n C d_M_entry_32 rfl (xs_get C (k := 11) d_M_entry_33 h_M (ci := 5) rfl (by decide) (List.mem_cons_of_mem _ tw_432) rfl (xs_iload_n C d_M_entry_36 rfl (xs_iald C d_M_entry_37 (xs_istore_n C d_M_entry_38 rfl (by decide) (xs_iload_n C d_M_entry_39 rfl (xs_if_ge C d_M_entry_40 (by decide) (xs_iload_n C d_M_entry_46 rfl (xs_tsw C d_M_entry_47 rfl ⟨⟨84, by decide, (xs_aload_n C d_M_entry_84 rfl (xs_get C (k := 0) d_M_entry_85 h_M (ci := 5) rfl (by decide) (List.mem_cons_of_mem _ tw_421) rfl (xs_iload_n C d_M_entry_88 rfl (xs_zald C d_M_entry_89 (xs_if_eq C d_M_entry_90 (by decide) (xs_iconst C d_M_entry_97 (by decide) (xs_iret C d_M_entry_98 hr hlk rfl rfl)) (xs_iconst C d_M_entry_93 (by decide) (xs_goto C d_M_entry_94 (by decide) (xs_iret C d_M_entry_98 hr hlk rfl rfl))))))))⟩, ⟨⟨99, by decide, (xs_aload_n C d_M_entry_99 rfl (xs_get C (k := 4) d_M_entry_100 h_M (ci := 5) rfl (by decide) (List.mem_cons_of_mem _ tw_425) rfl (xs_iload_n C d_M_entry_103 rfl (xs_iald C d_M_entry_104 (xs_iret C d_M_entry_105 hr hlk rfl rfl)))))⟩, ⟨⟨106, by decide, (xs_aload_n C d_M_entry_106 rfl (xs_get C (k := 5) d_M_entry_107 h_M (ci := 5) rfl (by decide) (List.mem_cons_of_mem _ tw_426) rfl (xs_iload_n C d_M_entry_110 rfl (xs_iald C d_M_entry_111 (xs_iret C d_M_entry_112 hr hlk rfl rfl)))))⟩, ⟨⟨113, by decide, (xs_aload_n C d_M_entry_113 rfl (xs_get C (k := 6) d_M_entry_114 h_M (ci := 5) rfl (by decide) (List.mem_cons_of_mem _ tw_427) rfl (xs_iload_n C d_M_entry_117 rfl (xs_iald C d_M_entry_118 (xs_iret C d_M_entry_119 hr hlk rfl rfl)))))⟩, ⟨⟨120, by decide, (xs_aload_n C d_M_entry_120 rfl (xs_get C (k := 3) d_M_entry_121 h_M (ci := 5) rfl (by decide) (List.mem_cons_of_mem _ tw_424) rfl (xs_iload_n C d_M_entry_124 rfl (xs_iald C d_M_entry_125 (xs_iret C d_M_entry_126 hr hlk rfl rfl)))))⟩, ⟨⟨127, by decide, (xs_iload_n C d_M_entry_127 rfl (xs_bipush C d_M_entry_128 (by decide) (xs_idiv C d_M_entry_130 (xs_iret C d_M_entry_131 hr hlk rfl rfl))))⟩, trivial⟩⟩⟩⟩⟩⟩ (tgd := 132) (by decide) (xs_iload_n C d_M_entry_132 rfl (xs_bipush C d_M_entry_133 (by decide) (xs_irem C d_M_entry_135 (xs_iret C d_M_entry_136 hr hlk rfl rfl)))))) (xs_bipush C d_M_entry_43 (by decide) (xs_iret C d_M_entry_45 hr hlk rfl rfl))))))))) (xs_bipush C d_M_entry_29 (by decide) (xs_iret C d_M_entry_31 hr hlk rfl rfl)))))))))))))))
theorem met_M_entry (l : Launch) (D : va_G) : xm_Met l D classes ats y_M_entry w_M_entry rm_M_entry 0 0 cp_M_entry := by
  refine xm_met 0 (by decide) rfl rfl rfl (fun p e s mm args below meth c A Rh C hr hlk hnm lb => ?_)
  unfold fM_entry
  split
  · rename_i h; subst h; exact sM_entry_0 C hr hlk hnm
  · exact fun _ _ _ _ _ h => h.elim
theorem d_M_next_0 : decode b_M_next 0 = .ok (.aload_n 0, 1) := by decide +kernel
theorem d_M_next_1 : decode b_M_next 1 = .ok (.getfield 96, 3) := by decide +kernel
theorem d_M_next_4 : decode b_M_next 4 = .ok (.ifCond .eq 6, 3) := by decide +kernel
theorem d_M_next_7 : decode b_M_next 7 = .ok (.bipush (-2), 2) := by decide +kernel
theorem d_M_next_9 : decode b_M_next 9 = .ok (.ireturn, 1) := by decide +kernel
theorem d_M_next_10 : decode b_M_next 10 = .ok (.iconst 0, 1) := by decide +kernel
theorem d_M_next_11 : decode b_M_next 11 = .ok (.istore_n 2, 1) := by decide +kernel
theorem d_M_next_12 : decode b_M_next 12 = .ok (.iload_n 2, 1) := by decide +kernel
theorem d_M_next_13 : decode b_M_next 13 = .ok (.bipush 16, 2) := by decide +kernel
theorem d_M_next_15 : decode b_M_next 15 = .ok (.if_icmp .ge 25, 3) := by decide +kernel
theorem d_M_next_18 : decode b_M_next 18 = .ok (.iload_n 2, 1) := by decide +kernel
theorem d_M_next_19 : decode b_M_next 19 = .ok (.iload_n 1, 1) := by decide +kernel
theorem d_M_next_20 : decode b_M_next 20 = .ok (.if_icmp .le 14, 3) := by decide +kernel
theorem d_M_next_23 : decode b_M_next 23 = .ok (.aload_n 0, 1) := by decide +kernel
theorem d_M_next_24 : decode b_M_next 24 = .ok (.getfield 44, 3) := by decide +kernel
theorem d_M_next_27 : decode b_M_next 27 = .ok (.iload_n 2, 1) := by decide +kernel
theorem d_M_next_28 : decode b_M_next 28 = .ok (.iaload, 1) := by decide +kernel
theorem d_M_next_29 : decode b_M_next 29 = .ok (.ifCond .lt 5, 3) := by decide +kernel
theorem d_M_next_32 : decode b_M_next 32 = .ok (.iload_n 2, 1) := by decide +kernel
theorem d_M_next_33 : decode b_M_next 33 = .ok (.ireturn, 1) := by decide +kernel
theorem d_M_next_34 : decode b_M_next 34 = .ok (.iinc 2 1, 3) := by decide +kernel
theorem d_M_next_37 : decode b_M_next 37 = .ok (.goto (-25), 3) := by decide +kernel
theorem d_M_next_40 : decode b_M_next 40 = .ok (.bipush (-4), 2) := by decide +kernel
theorem d_M_next_42 : decode b_M_next 42 = .ok (.ireturn, 1) := by decide +kernel
-- BlockVaultModel.next(I)I: labels [0, 12], loops [12]
abbrev rm_M_next : Room := { frames := 0, cells := 0, slots := 0, locals := 0 }
def cM_next_12 (X : Nat → xm_PT) (Rh : Option Value → xm_M → Prop) : xm_PT := (xo_iload 2 (xo_push (.int (nI 16)) (xo_icmp (fun x y => y ≤ x) (xo_push (.int (-4)) (xo_iret Rh)) (xo_iload 2 (xo_iload 1 (xo_icmp (fun x y => x ≤ y) (xo_iinc 2 1 (xo_jmp [0, 1, 2] (X 12))) (xo_aload 0 (xo_get 5 11 (xo_iload 2 (xo_iald ats (xo_if (fun x => x < 0) (xo_iinc 2 1 (xo_jmp [0, 1, 2] (X 12))) (xo_iload 2 (xo_iret Rh)))))))))))))
def cM_next_0 (X : Nat → xm_PT) (Rh : Option Value → xm_M → Prop) : xm_PT := (xo_aload 0 (xo_get 5 17 (xo_if (fun x => x = 0) (xo_push (.int 0) (xo_istore 2 (xo_jmp [0, 1, 2] (X 12)))) (xo_push (.int (-2)) (xo_iret Rh)))))
def fM_next : xm_F := fun X Rh lb => if lb = 0 then cM_next_0 X Rh else (if lb = 12 then cM_next_12 X Rh else fun _ _ _ _ _ => False)
def cp_M_next : xm_CP := fun as m Rh => (lg_sl as).length ≤ 3 ∧ xm_cp fM_next 0 0 as m Rh
theorem eM_next_0 {X : Nat → xm_PT} {Rh : Option Value → xm_M → Prop} (hX : ∀ lb, xm_le (fM_next X Rh lb) (X lb)) {ls : xm_L} {st : List Value} {m : xm_M} {bc bs : Nat} (h : cM_next_0 X Rh ls st m bc bs) : X 0 ls st m bc bs := hX 0 ls st m bc bs h
theorem eM_next_12 {X : Nat → xm_PT} {Rh : Option Value → xm_M → Prop} (hX : ∀ lb, xm_le (fM_next X Rh lb) (X lb)) {ls : xm_L} {st : List Value} {m : xm_M} {bc bs : Nat} (h : cM_next_12 X Rh ls st m bc bs) : X 12 ls st m bc bs := hX 12 ls st m bc bs h
set_option maxRecDepth 20000 in
set_option maxHeartbeats 4000000 in
theorem sM_next_12 {p : Program} {l : Launch} {e : Env} {s : State} {mm : MethodId} {args : Array Value} {below : List Frame} {meth : Method} {c : Code} {D : va_G} {A : Nat → Prop} {Rh : Option Value → xm_M → Prop} (C : xm_C p s mm args c b_M_next 3 "BlockVaultModel" w_M_next D classes ats A) (hr : meth.sig.returnType = (some .int)) (hlk : meth.locks = false) (hnm : meth.name = "next") : xm_le (cM_next_12 (xm_A p l e rm_M_next s mm args below meth c 3 D classes A (MQ below (xm_Q D classes Rh A) args s 0 0 A)) Rh) ((xm_A p l e rm_M_next s mm args below meth c 3 D classes A (MQ below (xm_Q D classes Rh A) args s 0 0 A)) 12) :=
  (xs_iload_n C d_M_next_12 rfl (xs_bipush C d_M_next_13 (by decide) (xs_icmp_ge C d_M_next_15 (by decide) (xs_bipush C d_M_next_40 (by decide) (xs_iret C d_M_next_42 hr hlk rfl rfl)) (xs_iload_n C d_M_next_18 rfl (xs_iload_n C d_M_next_19 rfl (xs_icmp_le C d_M_next_20 (by decide) (xs_iinc C d_M_next_34 (by decide) (by decide) (xs_goto C d_M_next_37 (by decide) (xs_jmp (fun _ _ _ _ _ h => h)))) (xs_aload_n C d_M_next_23 rfl (xs_get C (k := 11) d_M_next_24 h_M (ci := 5) rfl (by decide) (List.mem_cons_of_mem _ tw_432) rfl (xs_iload_n C d_M_next_27 rfl (xs_iald C d_M_next_28 (xs_if_lt C d_M_next_29 (by decide) (xs_iinc C d_M_next_34 (by decide) (by decide) (xs_goto C d_M_next_37 (by decide) (xs_jmp (fun _ _ _ _ _ h => h)))) (xs_iload_n C d_M_next_32 rfl (xs_iret C d_M_next_33 hr hlk rfl rfl)))))))))))))
set_option maxRecDepth 20000 in
set_option maxHeartbeats 4000000 in
theorem sM_next_0 {p : Program} {l : Launch} {e : Env} {s : State} {mm : MethodId} {args : Array Value} {below : List Frame} {meth : Method} {c : Code} {D : va_G} {A : Nat → Prop} {Rh : Option Value → xm_M → Prop} (C : xm_C p s mm args c b_M_next 3 "BlockVaultModel" w_M_next D classes ats A) (hr : meth.sig.returnType = (some .int)) (hlk : meth.locks = false) (hnm : meth.name = "next") : xm_le (cM_next_0 (xm_A p l e rm_M_next s mm args below meth c 3 D classes A (MQ below (xm_Q D classes Rh A) args s 0 0 A)) Rh) ((xm_A p l e rm_M_next s mm args below meth c 3 D classes A (MQ below (xm_Q D classes Rh A) args s 0 0 A)) 0) :=
  (xs_aload_n C d_M_next_0 rfl (xs_get C (k := 17) d_M_next_1 h_M (ci := 5) rfl (by decide) (List.mem_cons_of_mem _ tw_438) rfl (xs_if_eq C d_M_next_4 (by decide) (xs_iconst C d_M_next_10 (by decide) (xs_istore_n C d_M_next_11 rfl (by decide) (xs_jmp (fun _ _ _ _ _ h => h)))) (xs_bipush C d_M_next_7 (by decide) (xs_iret C d_M_next_9 hr hlk rfl rfl)))))
theorem met_M_next (l : Launch) (D : va_G) : xm_Met l D classes ats y_M_next w_M_next rm_M_next 0 0 cp_M_next := by
  refine xm_met 0 (by decide) rfl rfl rfl (fun p e s mm args below meth c A Rh C hr hlk hnm lb => ?_)
  unfold fM_next
  split
  · rename_i h; subst h; exact sM_next_0 C hr hlk hnm
  split
  · rename_i h; subst h; exact sM_next_12 C hr hlk hnm
  · exact fun _ _ _ _ _ h => h.elim
theorem d_M_rank_0 : decode b_M_rank 0 = .ok (.aload_n 0, 1) := by decide +kernel
theorem d_M_rank_1 : decode b_M_rank 1 = .ok (.getfield 96, 3) := by decide +kernel
theorem d_M_rank_4 : decode b_M_rank 4 = .ok (.ifCond .eq 6, 3) := by decide +kernel
theorem d_M_rank_7 : decode b_M_rank 7 = .ok (.bipush (-2), 2) := by decide +kernel
theorem d_M_rank_9 : decode b_M_rank 9 = .ok (.ireturn, 1) := by decide +kernel
theorem d_M_rank_10 : decode b_M_rank 10 = .ok (.iconst 0, 1) := by decide +kernel
theorem d_M_rank_11 : decode b_M_rank 11 = .ok (.istore_n 2, 1) := by decide +kernel
theorem d_M_rank_12 : decode b_M_rank 12 = .ok (.iconst 0, 1) := by decide +kernel
theorem d_M_rank_13 : decode b_M_rank 13 = .ok (.istore_n 3, 1) := by decide +kernel
theorem d_M_rank_14 : decode b_M_rank 14 = .ok (.iload_n 3, 1) := by decide +kernel
theorem d_M_rank_15 : decode b_M_rank 15 = .ok (.bipush 16, 2) := by decide +kernel
theorem d_M_rank_17 : decode b_M_rank 17 = .ok (.if_icmp .ge 26, 3) := by decide +kernel
theorem d_M_rank_20 : decode b_M_rank 20 = .ok (.iload_n 3, 1) := by decide +kernel
theorem d_M_rank_21 : decode b_M_rank 21 = .ok (.iload_n 1, 1) := by decide +kernel
theorem d_M_rank_22 : decode b_M_rank 22 = .ok (.if_icmp .ge 15, 3) := by decide +kernel
theorem d_M_rank_25 : decode b_M_rank 25 = .ok (.aload_n 0, 1) := by decide +kernel
theorem d_M_rank_26 : decode b_M_rank 26 = .ok (.getfield 44, 3) := by decide +kernel
theorem d_M_rank_29 : decode b_M_rank 29 = .ok (.iload_n 3, 1) := by decide +kernel
theorem d_M_rank_30 : decode b_M_rank 30 = .ok (.iaload, 1) := by decide +kernel
theorem d_M_rank_31 : decode b_M_rank 31 = .ok (.ifCond .lt 6, 3) := by decide +kernel
theorem d_M_rank_34 : decode b_M_rank 34 = .ok (.iinc 2 1, 3) := by decide +kernel
theorem d_M_rank_37 : decode b_M_rank 37 = .ok (.iinc 3 1, 3) := by decide +kernel
theorem d_M_rank_40 : decode b_M_rank 40 = .ok (.goto (-26), 3) := by decide +kernel
theorem d_M_rank_43 : decode b_M_rank 43 = .ok (.iload_n 2, 1) := by decide +kernel
theorem d_M_rank_44 : decode b_M_rank 44 = .ok (.ireturn, 1) := by decide +kernel
-- BlockVaultModel.rank(I)I: labels [0, 14], loops [14]
abbrev rm_M_rank : Room := { frames := 0, cells := 0, slots := 0, locals := 0 }
def cM_rank_14 (X : Nat → xm_PT) (Rh : Option Value → xm_M → Prop) : xm_PT := (xo_iload 3 (xo_push (.int (nI 16)) (xo_icmp (fun x y => y ≤ x) (xo_iload 2 (xo_iret Rh)) (xo_iload 3 (xo_iload 1 (xo_icmp (fun x y => y ≤ x) (xo_iinc 3 1 (xo_jmp [0, 1, 2, 3] (X 14))) (xo_aload 0 (xo_get 5 11 (xo_iload 3 (xo_iald ats (xo_if (fun x => x < 0) (xo_iinc 3 1 (xo_jmp [0, 1, 2, 3] (X 14))) (xo_iinc 2 1 (xo_iinc 3 1 (xo_jmp [0, 1, 2, 3] (X 14)))))))))))))))
def cM_rank_0 (X : Nat → xm_PT) (Rh : Option Value → xm_M → Prop) : xm_PT := (xo_aload 0 (xo_get 5 17 (xo_if (fun x => x = 0) (xo_push (.int 0) (xo_istore 2 (xo_push (.int 0) (xo_istore 3 (xo_jmp [0, 1, 2, 3] (X 14)))))) (xo_push (.int (-2)) (xo_iret Rh)))))
def fM_rank : xm_F := fun X Rh lb => if lb = 0 then cM_rank_0 X Rh else (if lb = 14 then cM_rank_14 X Rh else fun _ _ _ _ _ => False)
def cp_M_rank : xm_CP := fun as m Rh => (lg_sl as).length ≤ 4 ∧ xm_cp fM_rank 0 0 as m Rh
theorem eM_rank_0 {X : Nat → xm_PT} {Rh : Option Value → xm_M → Prop} (hX : ∀ lb, xm_le (fM_rank X Rh lb) (X lb)) {ls : xm_L} {st : List Value} {m : xm_M} {bc bs : Nat} (h : cM_rank_0 X Rh ls st m bc bs) : X 0 ls st m bc bs := hX 0 ls st m bc bs h
theorem eM_rank_14 {X : Nat → xm_PT} {Rh : Option Value → xm_M → Prop} (hX : ∀ lb, xm_le (fM_rank X Rh lb) (X lb)) {ls : xm_L} {st : List Value} {m : xm_M} {bc bs : Nat} (h : cM_rank_14 X Rh ls st m bc bs) : X 14 ls st m bc bs := hX 14 ls st m bc bs h
set_option maxRecDepth 20000 in
set_option maxHeartbeats 4000000 in
theorem sM_rank_14 {p : Program} {l : Launch} {e : Env} {s : State} {mm : MethodId} {args : Array Value} {below : List Frame} {meth : Method} {c : Code} {D : va_G} {A : Nat → Prop} {Rh : Option Value → xm_M → Prop} (C : xm_C p s mm args c b_M_rank 4 "BlockVaultModel" w_M_rank D classes ats A) (hr : meth.sig.returnType = (some .int)) (hlk : meth.locks = false) (hnm : meth.name = "rank") : xm_le (cM_rank_14 (xm_A p l e rm_M_rank s mm args below meth c 4 D classes A (MQ below (xm_Q D classes Rh A) args s 0 0 A)) Rh) ((xm_A p l e rm_M_rank s mm args below meth c 4 D classes A (MQ below (xm_Q D classes Rh A) args s 0 0 A)) 14) :=
  (xs_iload_n C d_M_rank_14 rfl (xs_bipush C d_M_rank_15 (by decide) (xs_icmp_ge C d_M_rank_17 (by decide) (xs_iload_n C d_M_rank_43 rfl (xs_iret C d_M_rank_44 hr hlk rfl rfl)) (xs_iload_n C d_M_rank_20 rfl (xs_iload_n C d_M_rank_21 rfl (xs_icmp_ge C d_M_rank_22 (by decide) (xs_iinc C d_M_rank_37 (by decide) (by decide) (xs_goto C d_M_rank_40 (by decide) (xs_jmp (fun _ _ _ _ _ h => h)))) (xs_aload_n C d_M_rank_25 rfl (xs_get C (k := 11) d_M_rank_26 h_M (ci := 5) rfl (by decide) (List.mem_cons_of_mem _ tw_432) rfl (xs_iload_n C d_M_rank_29 rfl (xs_iald C d_M_rank_30 (xs_if_lt C d_M_rank_31 (by decide) (xs_iinc C d_M_rank_37 (by decide) (by decide) (xs_goto C d_M_rank_40 (by decide) (xs_jmp (fun _ _ _ _ _ h => h)))) (xs_iinc C d_M_rank_34 (by decide) (by decide) (xs_iinc C d_M_rank_37 (by decide) (by decide) (xs_goto C d_M_rank_40 (by decide) (xs_jmp (fun _ _ _ _ _ h => h))))))))))))))))
set_option maxRecDepth 20000 in
set_option maxHeartbeats 4000000 in
theorem sM_rank_0 {p : Program} {l : Launch} {e : Env} {s : State} {mm : MethodId} {args : Array Value} {below : List Frame} {meth : Method} {c : Code} {D : va_G} {A : Nat → Prop} {Rh : Option Value → xm_M → Prop} (C : xm_C p s mm args c b_M_rank 4 "BlockVaultModel" w_M_rank D classes ats A) (hr : meth.sig.returnType = (some .int)) (hlk : meth.locks = false) (hnm : meth.name = "rank") : xm_le (cM_rank_0 (xm_A p l e rm_M_rank s mm args below meth c 4 D classes A (MQ below (xm_Q D classes Rh A) args s 0 0 A)) Rh) ((xm_A p l e rm_M_rank s mm args below meth c 4 D classes A (MQ below (xm_Q D classes Rh A) args s 0 0 A)) 0) :=
  (xs_aload_n C d_M_rank_0 rfl (xs_get C (k := 17) d_M_rank_1 h_M (ci := 5) rfl (by decide) (List.mem_cons_of_mem _ tw_438) rfl (xs_if_eq C d_M_rank_4 (by decide) (xs_iconst C d_M_rank_10 (by decide) (xs_istore_n C d_M_rank_11 rfl (by decide) (xs_iconst C d_M_rank_12 (by decide) (xs_istore_n C d_M_rank_13 rfl (by decide) (xs_jmp (fun _ _ _ _ _ h => h)))))) (xs_bipush C d_M_rank_7 (by decide) (xs_iret C d_M_rank_9 hr hlk rfl rfl)))))
theorem met_M_rank (l : Launch) (D : va_G) : xm_Met l D classes ats y_M_rank w_M_rank rm_M_rank 0 0 cp_M_rank := by
  refine xm_met 0 (by decide) rfl rfl rfl (fun p e s mm args below meth c A Rh C hr hlk hnm lb => ?_)
  unfold fM_rank
  split
  · rename_i h; subst h; exact sM_rank_0 C hr hlk hnm
  split
  · rename_i h; subst h; exact sM_rank_14 C hr hlk hnm
  · exact fun _ _ _ _ _ h => h.elim
