theorem d_M_append_0 : decode b_M_append 0 = .ok (.aload_n 0, 1) := by decide +kernel
theorem d_M_append_1 : decode b_M_append 1 = .ok (.iconst 1, 1) := by decide +kernel
theorem d_M_append_2 : decode b_M_append 2 = .ok (.invokevirtual 65, 3) := by decide +kernel
theorem d_M_append_5 : decode b_M_append 5 = .ok (.istore_n 1, 1) := by decide +kernel
theorem d_M_append_6 : decode b_M_append 6 = .ok (.iload_n 1, 1) := by decide +kernel
theorem d_M_append_7 : decode b_M_append 7 = .ok (.ifCond .lt 19, 3) := by decide +kernel
theorem d_M_append_10 : decode b_M_append 10 = .ok (.aload_n 0, 1) := by decide +kernel
theorem d_M_append_11 : decode b_M_append 11 = .ok (.getfield 20, 3) := by decide +kernel
theorem d_M_append_14 : decode b_M_append 14 = .ok (.sipush 192, 3) := by decide +kernel
theorem d_M_append_17 : decode b_M_append 17 = .ok (.iaload, 1) := by decide +kernel
theorem d_M_append_18 : decode b_M_append 18 = .ok (.aload_n 0, 1) := by decide +kernel
theorem d_M_append_19 : decode b_M_append 19 = .ok (.iload_n 1, 1) := by decide +kernel
theorem d_M_append_20 : decode b_M_append 20 = .ok (.invokevirtual 68, 3) := by decide +kernel
theorem d_M_append_23 : decode b_M_append 23 = .ok (.if_icmp .le 56, 3) := by decide +kernel
theorem d_M_append_26 : decode b_M_append 26 = .ok (.aload_n 0, 1) := by decide +kernel
theorem d_M_append_27 : decode b_M_append 27 = .ok (.iconst 0, 1) := by decide +kernel
theorem d_M_append_28 : decode b_M_append 28 = .ok (.invokevirtual 65, 3) := by decide +kernel
theorem d_M_append_31 : decode b_M_append 31 = .ok (.istore_n 2, 1) := by decide +kernel
theorem d_M_append_32 : decode b_M_append 32 = .ok (.iload_n 1, 1) := by decide +kernel
theorem d_M_append_33 : decode b_M_append 33 = .ok (.ifCond .lt 14, 3) := by decide +kernel
theorem d_M_append_36 : decode b_M_append 36 = .ok (.aload_n 0, 1) := by decide +kernel
theorem d_M_append_37 : decode b_M_append 37 = .ok (.invokevirtual 71, 3) := by decide +kernel
theorem d_M_append_40 : decode b_M_append 40 = .ok (.iconst 3, 1) := by decide +kernel
theorem d_M_append_41 : decode b_M_append 41 = .ok (.if_icmp .ne 6, 3) := by decide +kernel
theorem d_M_append_44 : decode b_M_append 44 = .ok (.bipush (-5), 2) := by decide +kernel
theorem d_M_append_46 : decode b_M_append 46 = .ok (.ireturn, 1) := by decide +kernel
theorem d_M_append_47 : decode b_M_append 47 = .ok (.iload_n 2, 1) := by decide +kernel
theorem d_M_append_48 : decode b_M_append 48 = .ok (.ifCond .ge 6, 3) := by decide +kernel
theorem d_M_append_51 : decode b_M_append 51 = .ok (.bipush (-6), 2) := by decide +kernel
theorem d_M_append_53 : decode b_M_append 53 = .ok (.ireturn, 1) := by decide +kernel
theorem d_M_append_54 : decode b_M_append 54 = .ok (.iload_n 1, 1) := by decide +kernel
theorem d_M_append_55 : decode b_M_append 55 = .ok (.ifCond .lt 8, 3) := by decide +kernel
theorem d_M_append_58 : decode b_M_append 58 = .ok (.aload_n 0, 1) := by decide +kernel
theorem d_M_append_59 : decode b_M_append 59 = .ok (.iload_n 1, 1) := by decide +kernel
theorem d_M_append_60 : decode b_M_append 60 = .ok (.invokevirtual 75, 3) := by decide +kernel
theorem d_M_append_63 : decode b_M_append 63 = .ok (.iload_n 2, 1) := by decide +kernel
theorem d_M_append_64 : decode b_M_append 64 = .ok (.istore_n 1, 1) := by decide +kernel
theorem d_M_append_65 : decode b_M_append 65 = .ok (.aload_n 0, 1) := by decide +kernel
theorem d_M_append_66 : decode b_M_append 66 = .ok (.getfield 35, 3) := by decide +kernel
theorem d_M_append_69 : decode b_M_append 69 = .ok (.iload_n 1, 1) := by decide +kernel
theorem d_M_append_70 : decode b_M_append 70 = .ok (.iconst 1, 1) := by decide +kernel
theorem d_M_append_71 : decode b_M_append 71 = .ok (.iastore, 1) := by decide +kernel
theorem d_M_append_72 : decode b_M_append 72 = .ok (.aload_n 0, 1) := by decide +kernel
theorem d_M_append_73 : decode b_M_append 73 = .ok (.getfield 32, 3) := by decide +kernel
theorem d_M_append_76 : decode b_M_append 76 = .ok (.iload_n 1, 1) := by decide +kernel
theorem d_M_append_77 : decode b_M_append 77 = .ok (.iconst 0, 1) := by decide +kernel
theorem d_M_append_78 : decode b_M_append 78 = .ok (.iastore, 1) := by decide +kernel
theorem d_M_append_79 : decode b_M_append 79 = .ok (.bipush 12, 2) := by decide +kernel
theorem d_M_append_81 : decode b_M_append 81 = .ok (.iload_n 1, 1) := by decide +kernel
theorem d_M_append_82 : decode b_M_append 82 = .ok (.imul, 1) := by decide +kernel
theorem d_M_append_83 : decode b_M_append 83 = .ok (.aload_n 0, 1) := by decide +kernel
theorem d_M_append_84 : decode b_M_append 84 = .ok (.getfield 32, 3) := by decide +kernel
theorem d_M_append_87 : decode b_M_append 87 = .ok (.iload_n 1, 1) := by decide +kernel
theorem d_M_append_88 : decode b_M_append 88 = .ok (.iaload, 1) := by decide +kernel
theorem d_M_append_89 : decode b_M_append 89 = .ok (.iadd, 1) := by decide +kernel
theorem d_M_append_90 : decode b_M_append 90 = .ok (.istore_n 2, 1) := by decide +kernel
theorem d_M_append_91 : decode b_M_append 91 = .ok (.aload_n 0, 1) := by decide +kernel
theorem d_M_append_92 : decode b_M_append 92 = .ok (.sipush 192, 3) := by decide +kernel
theorem d_M_append_95 : decode b_M_append 95 = .ok (.iload_n 2, 1) := by decide +kernel
theorem d_M_append_96 : decode b_M_append 96 = .ok (.invokevirtual 79, 3) := by decide +kernel
theorem d_M_append_99 : decode b_M_append 99 = .ok (.aload_n 0, 1) := by decide +kernel
theorem d_M_append_100 : decode b_M_append 100 = .ok (.getfield 32, 3) := by decide +kernel
theorem d_M_append_103 : decode b_M_append 103 = .ok (.iload_n 1, 1) := by decide +kernel
theorem d_M_append_104 : decode b_M_append 104 = .ok (.dup2, 1) := by decide +kernel
theorem d_M_append_105 : decode b_M_append 105 = .ok (.iaload, 1) := by decide +kernel
theorem d_M_append_106 : decode b_M_append 106 = .ok (.iconst 1, 1) := by decide +kernel
theorem d_M_append_107 : decode b_M_append 107 = .ok (.iadd, 1) := by decide +kernel
theorem d_M_append_108 : decode b_M_append 108 = .ok (.iastore, 1) := by decide +kernel
theorem d_M_append_109 : decode b_M_append 109 = .ok (.aload_n 0, 1) := by decide +kernel
theorem d_M_append_110 : decode b_M_append 110 = .ok (.getfield 44, 3) := by decide +kernel
theorem d_M_append_113 : decode b_M_append 113 = .ok (.aload_n 0, 1) := by decide +kernel
theorem d_M_append_114 : decode b_M_append 114 = .ok (.getfield 13, 3) := by decide +kernel
theorem d_M_append_117 : decode b_M_append 117 = .ok (.iload_n 2, 1) := by decide +kernel
theorem d_M_append_118 : decode b_M_append 118 = .ok (.iaload, 1) := by decide +kernel
theorem d_M_append_119 : decode b_M_append 119 = .ok (.iload_n 2, 1) := by decide +kernel
theorem d_M_append_120 : decode b_M_append 120 = .ok (.iastore, 1) := by decide +kernel
theorem d_M_append_121 : decode b_M_append 121 = .ok (.aload_n 0, 1) := by decide +kernel
theorem d_M_append_122 : decode b_M_append 122 = .ok (.invokevirtual 83, 3) := by decide +kernel
theorem d_M_append_125 : decode b_M_append 125 = .ok (.iconst 0, 1) := by decide +kernel
theorem d_M_append_126 : decode b_M_append 126 = .ok (.ireturn, 1) := by decide +kernel
-- BlockVaultModel.append()I: labels [0, 26, 47, 63, 79], loops []
abbrev rm_M_append : Room := { frames := 2, cells := 0, slots := 0, locals := 45 }
def cM_append_79 (X : Nat → xm_PT) (Rh : Option Value → xm_M → Prop) : xm_PT := (xo_push (.int (nI 12)) (xo_iload 1 (xo_ibin (fun x y => x * y) (xo_aload 0 (xo_get 5 7 (xo_iload 1 (xo_iald ats (xo_ibin (fun x y => x + y) (xo_istore 2 (xo_aload 0 (xo_push (.int (nI 192)) (xo_iload 2 (xo_callV 5 2 0 0 cp_M_copy (xo_aload 0 (xo_get 5 7 (xo_iload 1 (xo_dup2 (xo_iald ats (xo_push (.int 1) (xo_ibin (fun x y => x + y) (xo_iast ats (xo_aload 0 (xo_get 5 11 (xo_aload 0 (xo_get 5 1 (xo_iload 2 (xo_iald ats (xo_iload 2 (xo_iast ats (xo_aload 0 (xo_callV 5 0 0 0 cp_M_settle (xo_push (.int 0) (xo_iret Rh)))))))))))))))))))))))))))))))))
def cM_append_63 (X : Nat → xm_PT) (Rh : Option Value → xm_M → Prop) : xm_PT := (xo_iload 2 (xo_istore 1 (xo_aload 0 (xo_get 5 8 (xo_iload 1 (xo_push (.int 1) (xo_iast ats (xo_aload 0 (xo_get 5 7 (xo_iload 1 (xo_push (.int 0) (xo_iast ats (xo_jmp [0, 1] (cM_append_79 X Rh))))))))))))))
def cM_append_47 (X : Nat → xm_PT) (Rh : Option Value → xm_M → Prop) : xm_PT := (xo_iload 2 (xo_if (fun x => 0 ≤ x) (xo_iload 1 (xo_if (fun x => x < 0) (xo_jmp [0, 2] (cM_append_63 X Rh)) (xo_aload 0 (xo_iload 1 (xo_callV 5 1 0 0 cp_M_close (xo_jmp [0, 2] (cM_append_63 X Rh))))))) (xo_push (.int (-6)) (xo_iret Rh))))
def cM_append_26 (X : Nat → xm_PT) (Rh : Option Value → xm_M → Prop) : xm_PT := (xo_aload 0 (xo_push (.int 0) (xo_callV 5 1 0 0 cp_M_first (xo_istore 2 (xo_iload 1 (xo_if (fun x => x < 0) (xo_jmp [0, 1, 2] (cM_append_47 X Rh)) (xo_aload 0 (xo_callV 5 0 0 0 cp_M_sealed (xo_push (.int (nI 3)) (xo_icmp (fun x y => x = y) (xo_push (.int (-5)) (xo_iret Rh)) (xo_jmp [0, 1, 2] (cM_append_47 X Rh))))))))))))
def cM_append_0 (X : Nat → xm_PT) (Rh : Option Value → xm_M → Prop) : xm_PT := (xo_aload 0 (xo_push (.int 1) (xo_callV 5 1 0 0 cp_M_first (xo_istore 1 (xo_iload 1 (xo_if (fun x => x < 0) (xo_jmp [0, 1] (cM_append_26 X Rh)) (xo_aload 0 (xo_get 5 3 (xo_push (.int (nI 192)) (xo_iald ats (xo_aload 0 (xo_iload 1 (xo_callV 5 1 0 0 cp_M_room (xo_icmp (fun x y => x ≤ y) (xo_jmp [0, 1] (cM_append_79 X Rh)) (xo_jmp [0, 1] (cM_append_26 X Rh))))))))))))))))
def fM_append : xm_F := fun X Rh lb => if lb = 0 then cM_append_0 X Rh else fun _ _ _ _ _ => False
def cp_M_append : xm_CP := fun as m Rh => (lg_sl as).length ≤ 3 ∧ xm_cp fM_append 0 0 as m Rh
theorem eM_append_0 {X : Nat → xm_PT} {Rh : Option Value → xm_M → Prop} (hX : ∀ lb, xm_le (fM_append X Rh lb) (X lb)) {ls : xm_L} {st : List Value} {m : xm_M} {bc bs : Nat} (h : cM_append_0 X Rh ls st m bc bs) : X 0 ls st m bc bs := hX 0 ls st m bc bs h
set_option maxRecDepth 20000 in
set_option maxHeartbeats 4000000 in
theorem sM_append_79 {p : Program} {l : Launch} {e : Env} {s : State} {mm : MethodId} {args : Array Value} {below : List Frame} {meth : Method} {c : Code} {D : va_G} {A : Nat → Prop} {Rh : Option Value → xm_M → Prop} (C : xm_C p s mm args c b_M_append 3 "BlockVaultModel" w_M_append D classes ats A) (hr : meth.sig.returnType = (some .int)) (hlk : meth.locks = false) (hnm : meth.name = "append") : xm_le (cM_append_79 (xm_A p l e rm_M_append s mm args below meth c 3 D classes A (MQ below (xm_Q D classes Rh A) args s 0 0 A)) Rh) ((xm_A p l e rm_M_append s mm args below meth c 3 D classes A (MQ below (xm_Q D classes Rh A) args s 0 0 A)) 79) :=
  (xs_bipush C d_M_append_79 (by decide) (xs_iload_n C d_M_append_81 rfl (xs_imul C d_M_append_82 (xs_aload_n C d_M_append_83 rfl (xs_get C (k := 7) d_M_append_84 h_M (ci := 5) rfl (by decide) (List.mem_cons_of_mem _ tw_428) rfl (xs_iload_n C d_M_append_87 rfl (xs_iald C d_M_append_88 (xs_iadd C d_M_append_89 (xs_istore_n C d_M_append_90 rfl (by decide) (xs_aload_n C d_M_append_91 rfl (xs_sipush C d_M_append_92 (by decide) (xs_iload_n C d_M_append_95 rfl (xs_callV C (CN := "BlockVaultModel") (T := F_M) (N := 18) d_M_append_96 (met_M_copy l D) ⟨callB_of (ws := w_M_copy) (rm := rm_M_copy) 2 C.1.2.2.2.2 (gG_m tw_524) rfl rfl rfl (C.1.2.2.2.2 _ (List.mem_cons_of_mem _ tw_5)) (C.1.2.2.2.2 _ (List.mem_cons_of_mem _ tw_521)) ⟨by decide, by decide, by decide +kernel⟩ ⟨Nat.le_of_ble_eq_true rfl, Nat.le_of_ble_eq_true rfl⟩, (C.1.2.2.2.2 _ (List.mem_cons_of_mem _ tw_523)), (C.1.2.2.2.2 _ (List.mem_cons_of_mem _ ts_42))⟩ (ci := 5) rfl (xs_aload_n C d_M_append_99 rfl (xs_get C (k := 7) d_M_append_100 h_M (ci := 5) rfl (by decide) (List.mem_cons_of_mem _ tw_428) rfl (xs_iload_n C d_M_append_103 rfl (xs_dup2 C d_M_append_104 (xs_iald C d_M_append_105 (xs_iconst C d_M_append_106 (by decide) (xs_iadd C d_M_append_107 (xs_iast C d_M_append_108 (xs_aload_n C d_M_append_109 rfl (xs_get C (k := 11) d_M_append_110 h_M (ci := 5) rfl (by decide) (List.mem_cons_of_mem _ tw_432) rfl (xs_aload_n C d_M_append_113 rfl (xs_get C (k := 1) d_M_append_114 h_M (ci := 5) rfl (by decide) (List.mem_cons_of_mem _ tw_422) rfl (xs_iload_n C d_M_append_117 rfl (xs_iald C d_M_append_118 (xs_iload_n C d_M_append_119 rfl (xs_iast C d_M_append_120 (xs_aload_n C d_M_append_121 rfl (xs_callV C (CN := "BlockVaultModel") (T := F_M) (N := 18) d_M_append_122 (met_M_settle l D) ⟨callB_of (ws := w_M_settle) (rm := rm_M_settle) 0 C.1.2.2.2.2 (gG_m tw_528) rfl rfl rfl (C.1.2.2.2.2 _ (List.mem_cons_of_mem _ tw_5)) (C.1.2.2.2.2 _ (List.mem_cons_of_mem _ tw_525)) ⟨by decide, by decide, by decide +kernel⟩ ⟨Nat.le_of_ble_eq_true rfl, Nat.le_of_ble_eq_true rfl⟩, (C.1.2.2.2.2 _ (List.mem_cons_of_mem _ tw_527)), (C.1.2.2.2.2 _ (List.mem_cons_of_mem _ ts_43))⟩ (ci := 5) rfl (xs_iconst C d_M_append_125 (by decide) (xs_iret C d_M_append_126 hr hlk rfl rfl)))))))))))))))))))))))))))))))))
set_option maxRecDepth 20000 in
set_option maxHeartbeats 4000000 in
theorem sM_append_63 {p : Program} {l : Launch} {e : Env} {s : State} {mm : MethodId} {args : Array Value} {below : List Frame} {meth : Method} {c : Code} {D : va_G} {A : Nat → Prop} {Rh : Option Value → xm_M → Prop} (C : xm_C p s mm args c b_M_append 3 "BlockVaultModel" w_M_append D classes ats A) (hr : meth.sig.returnType = (some .int)) (hlk : meth.locks = false) (hnm : meth.name = "append") : xm_le (cM_append_63 (xm_A p l e rm_M_append s mm args below meth c 3 D classes A (MQ below (xm_Q D classes Rh A) args s 0 0 A)) Rh) ((xm_A p l e rm_M_append s mm args below meth c 3 D classes A (MQ below (xm_Q D classes Rh A) args s 0 0 A)) 63) :=
  (xs_iload_n C d_M_append_63 rfl (xs_istore_n C d_M_append_64 rfl (by decide) (xs_aload_n C d_M_append_65 rfl (xs_get C (k := 8) d_M_append_66 h_M (ci := 5) rfl (by decide) (List.mem_cons_of_mem _ tw_429) rfl (xs_iload_n C d_M_append_69 rfl (xs_iconst C d_M_append_70 (by decide) (xs_iast C d_M_append_71 (xs_aload_n C d_M_append_72 rfl (xs_get C (k := 7) d_M_append_73 h_M (ci := 5) rfl (by decide) (List.mem_cons_of_mem _ tw_428) rfl (xs_iload_n C d_M_append_76 rfl (xs_iconst C d_M_append_77 (by decide) (xs_iast C d_M_append_78 (xs_jmp (sM_append_79 C hr hlk hnm))))))))))))))
set_option maxRecDepth 20000 in
set_option maxHeartbeats 4000000 in
theorem sM_append_47 {p : Program} {l : Launch} {e : Env} {s : State} {mm : MethodId} {args : Array Value} {below : List Frame} {meth : Method} {c : Code} {D : va_G} {A : Nat → Prop} {Rh : Option Value → xm_M → Prop} (C : xm_C p s mm args c b_M_append 3 "BlockVaultModel" w_M_append D classes ats A) (hr : meth.sig.returnType = (some .int)) (hlk : meth.locks = false) (hnm : meth.name = "append") : xm_le (cM_append_47 (xm_A p l e rm_M_append s mm args below meth c 3 D classes A (MQ below (xm_Q D classes Rh A) args s 0 0 A)) Rh) ((xm_A p l e rm_M_append s mm args below meth c 3 D classes A (MQ below (xm_Q D classes Rh A) args s 0 0 A)) 47) :=
  (xs_iload_n C d_M_append_47 rfl (xs_if_ge C d_M_append_48 (by decide) (xs_iload_n C d_M_append_54 rfl (xs_if_lt C d_M_append_55 (by decide) (xs_jmp (sM_append_63 C hr hlk hnm)) (xs_aload_n C d_M_append_58 rfl (xs_iload_n C d_M_append_59 rfl (xs_callV C (CN := "BlockVaultModel") (T := F_M) (N := 18) d_M_append_60 (met_M_close l D) ⟨callB_of (ws := w_M_close) (rm := rm_M_close) 1 C.1.2.2.2.2 (gG_m tw_520) rfl rfl rfl (C.1.2.2.2.2 _ (List.mem_cons_of_mem _ tw_5)) (C.1.2.2.2.2 _ (List.mem_cons_of_mem _ tw_517)) ⟨by decide, by decide, by decide +kernel⟩ ⟨Nat.le_of_ble_eq_true rfl, Nat.le_of_ble_eq_true rfl⟩, (C.1.2.2.2.2 _ (List.mem_cons_of_mem _ tw_519)), (C.1.2.2.2.2 _ (List.mem_cons_of_mem _ ts_41))⟩ (ci := 5) rfl (xs_jmp (sM_append_63 C hr hlk hnm))))))) (xs_bipush C d_M_append_51 (by decide) (xs_iret C d_M_append_53 hr hlk rfl rfl))))
set_option maxRecDepth 20000 in
set_option maxHeartbeats 4000000 in
theorem sM_append_26 {p : Program} {l : Launch} {e : Env} {s : State} {mm : MethodId} {args : Array Value} {below : List Frame} {meth : Method} {c : Code} {D : va_G} {A : Nat → Prop} {Rh : Option Value → xm_M → Prop} (C : xm_C p s mm args c b_M_append 3 "BlockVaultModel" w_M_append D classes ats A) (hr : meth.sig.returnType = (some .int)) (hlk : meth.locks = false) (hnm : meth.name = "append") : xm_le (cM_append_26 (xm_A p l e rm_M_append s mm args below meth c 3 D classes A (MQ below (xm_Q D classes Rh A) args s 0 0 A)) Rh) ((xm_A p l e rm_M_append s mm args below meth c 3 D classes A (MQ below (xm_Q D classes Rh A) args s 0 0 A)) 26) :=
  (xs_aload_n C d_M_append_26 rfl (xs_iconst C d_M_append_27 (by decide) (xs_callV C (CN := "BlockVaultModel") (T := F_M) (N := 18) d_M_append_28 (met_M_first l D) ⟨callB_of (ws := w_M_first) (rm := rm_M_first) 1 C.1.2.2.2.2 (gG_m tw_508) rfl rfl rfl (C.1.2.2.2.2 _ (List.mem_cons_of_mem _ tw_5)) (C.1.2.2.2.2 _ (List.mem_cons_of_mem _ tw_505)) ⟨by decide, by decide, by decide +kernel⟩ ⟨Nat.le_of_ble_eq_true rfl, Nat.le_of_ble_eq_true rfl⟩, (C.1.2.2.2.2 _ (List.mem_cons_of_mem _ tw_507)), (C.1.2.2.2.2 _ (List.mem_cons_of_mem _ ts_38))⟩ (ci := 5) rfl (xs_istore_n C d_M_append_31 rfl (by decide) (xs_iload_n C d_M_append_32 rfl (xs_if_lt C d_M_append_33 (by decide) (xs_jmp (sM_append_47 C hr hlk hnm)) (xs_aload_n C d_M_append_36 rfl (xs_callV C (CN := "BlockVaultModel") (T := F_M) (N := 18) d_M_append_37 (met_M_sealed l D) ⟨callB_of (ws := w_M_sealed) (rm := rm_M_sealed) 0 C.1.2.2.2.2 (gG_m tw_516) rfl rfl rfl (C.1.2.2.2.2 _ (List.mem_cons_of_mem _ tw_5)) (C.1.2.2.2.2 _ (List.mem_cons_of_mem _ tw_513)) ⟨by decide, by decide, by decide +kernel⟩ ⟨Nat.le_of_ble_eq_true rfl, Nat.le_of_ble_eq_true rfl⟩, (C.1.2.2.2.2 _ (List.mem_cons_of_mem _ tw_515)), (C.1.2.2.2.2 _ (List.mem_cons_of_mem _ ts_40))⟩ (ci := 5) rfl (xs_iconst C d_M_append_40 (by decide) (xs_icmp_ne C d_M_append_41 (by decide) (xs_bipush C d_M_append_44 (by decide) (xs_iret C d_M_append_46 hr hlk rfl rfl)) (xs_jmp (sM_append_47 C hr hlk hnm))))))))))))
set_option maxRecDepth 20000 in
set_option maxHeartbeats 4000000 in
theorem sM_append_0 {p : Program} {l : Launch} {e : Env} {s : State} {mm : MethodId} {args : Array Value} {below : List Frame} {meth : Method} {c : Code} {D : va_G} {A : Nat → Prop} {Rh : Option Value → xm_M → Prop} (C : xm_C p s mm args c b_M_append 3 "BlockVaultModel" w_M_append D classes ats A) (hr : meth.sig.returnType = (some .int)) (hlk : meth.locks = false) (hnm : meth.name = "append") : xm_le (cM_append_0 (xm_A p l e rm_M_append s mm args below meth c 3 D classes A (MQ below (xm_Q D classes Rh A) args s 0 0 A)) Rh) ((xm_A p l e rm_M_append s mm args below meth c 3 D classes A (MQ below (xm_Q D classes Rh A) args s 0 0 A)) 0) :=
  (xs_aload_n C d_M_append_0 rfl (xs_iconst C d_M_append_1 (by decide) (xs_callV C (CN := "BlockVaultModel") (T := F_M) (N := 18) d_M_append_2 (met_M_first l D) ⟨callB_of (ws := w_M_first) (rm := rm_M_first) 1 C.1.2.2.2.2 (gG_m tw_508) rfl rfl rfl (C.1.2.2.2.2 _ (List.mem_cons_of_mem _ tw_5)) (C.1.2.2.2.2 _ (List.mem_cons_of_mem _ tw_505)) ⟨by decide, by decide, by decide +kernel⟩ ⟨Nat.le_of_ble_eq_true rfl, Nat.le_of_ble_eq_true rfl⟩, (C.1.2.2.2.2 _ (List.mem_cons_of_mem _ tw_507)), (C.1.2.2.2.2 _ (List.mem_cons_of_mem _ ts_38))⟩ (ci := 5) rfl (xs_istore_n C d_M_append_5 rfl (by decide) (xs_iload_n C d_M_append_6 rfl (xs_if_lt C d_M_append_7 (by decide) (xs_jmp (sM_append_26 C hr hlk hnm)) (xs_aload_n C d_M_append_10 rfl (xs_get C (k := 3) d_M_append_11 h_M (ci := 5) rfl (by decide) (List.mem_cons_of_mem _ tw_424) rfl (xs_sipush C d_M_append_14 (by decide) (xs_iald C d_M_append_17 (xs_aload_n C d_M_append_18 rfl (xs_iload_n C d_M_append_19 rfl (xs_callV C (CN := "BlockVaultModel") (T := F_M) (N := 18) d_M_append_20 (met_M_room l D) ⟨callB_of (ws := w_M_room) (rm := rm_M_room) 1 C.1.2.2.2.2 (gG_m tw_512) rfl rfl rfl (C.1.2.2.2.2 _ (List.mem_cons_of_mem _ tw_5)) (C.1.2.2.2.2 _ (List.mem_cons_of_mem _ tw_509)) ⟨by decide, by decide, by decide +kernel⟩ ⟨Nat.le_of_ble_eq_true rfl, Nat.le_of_ble_eq_true rfl⟩, (C.1.2.2.2.2 _ (List.mem_cons_of_mem _ tw_511)), (C.1.2.2.2.2 _ (List.mem_cons_of_mem _ ts_39))⟩ (ci := 5) rfl (xs_icmp_le C d_M_append_23 (by decide) (xs_jmp (sM_append_79 C hr hlk hnm)) (xs_jmp (sM_append_26 C hr hlk hnm))))))))))))))))
theorem met_M_append (l : Launch) (D : va_G) : xm_Met l D classes ats y_M_append w_M_append rm_M_append 0 0 cp_M_append := by
  refine xm_met 0 (by decide) rfl rfl rfl (fun p e s mm args below meth c A Rh C hr hlk hnm lb => ?_)
  unfold fM_append
  split
  · rename_i h; subst h; exact sM_append_0 C hr hlk hnm
  · exact fun _ _ _ _ _ h => h.elim
theorem d_M_write_0 : decode b_M_write 0 = .ok (.aload_n 0, 1) := by decide +kernel
theorem d_M_write_1 : decode b_M_write 1 = .ok (.getfield 29, 3) := by decide +kernel
theorem d_M_write_4 : decode b_M_write 4 = .ok (.sipush 192, 3) := by decide +kernel
theorem d_M_write_7 : decode b_M_write 7 = .ok (.aload_n 0, 1) := by decide +kernel
theorem d_M_write_8 : decode b_M_write 8 = .ok (.getfield 47, 3) := by decide +kernel
theorem d_M_write_11 : decode b_M_write 11 = .ok (.iastore, 1) := by decide +kernel
theorem d_M_write_12 : decode b_M_write 12 = .ok (.aload_n 0, 1) := by decide +kernel
theorem d_M_write_13 : decode b_M_write 13 = .ok (.invokevirtual 86, 3) := by decide +kernel
theorem d_M_write_16 : decode b_M_write 16 = .ok (.istore_n 1, 1) := by decide +kernel
theorem d_M_write_17 : decode b_M_write 17 = .ok (.iload_n 1, 1) := by decide +kernel
theorem d_M_write_18 : decode b_M_write 18 = .ok (.ifCond .ne 13, 3) := by decide +kernel
theorem d_M_write_21 : decode b_M_write 21 = .ok (.aload_n 0, 1) := by decide +kernel
theorem d_M_write_22 : decode b_M_write 22 = .ok (.dup, 1) := by decide +kernel
theorem d_M_write_23 : decode b_M_write 23 = .ok (.getfield 47, 3) := by decide +kernel
theorem d_M_write_26 : decode b_M_write 26 = .ok (.iconst 1, 1) := by decide +kernel
theorem d_M_write_27 : decode b_M_write 27 = .ok (.iadd, 1) := by decide +kernel
theorem d_M_write_28 : decode b_M_write 28 = .ok (.putfield 47, 3) := by decide +kernel
theorem d_M_write_31 : decode b_M_write 31 = .ok (.iload_n 1, 1) := by decide +kernel
theorem d_M_write_32 : decode b_M_write 32 = .ok (.ireturn, 1) := by decide +kernel
-- BlockVaultModel.write()I: labels [0], loops []
abbrev rm_M_write : Room := { frames := 3, cells := 0, slots := 0, locals := 67 }
def cM_write_0 (X : Nat → xm_PT) (Rh : Option Value → xm_M → Prop) : xm_PT := (xo_aload 0 (xo_get 5 6 (xo_push (.int (nI 192)) (xo_aload 0 (xo_get 5 13 (xo_iast ats (xo_aload 0 (xo_callV 5 0 0 0 cp_M_append (xo_istore 1 (xo_iload 1 (xo_if (fun x => x = 0) (xo_aload 0 (xo_dup (xo_get 5 13 (xo_push (.int 1) (xo_ibin (fun x y => x + y) (xo_put 5 13 .int (xo_iload 1 (xo_iret Rh)))))))) (xo_iload 1 (xo_iret Rh)))))))))))))
def fM_write : xm_F := fun X Rh lb => if lb = 0 then cM_write_0 X Rh else fun _ _ _ _ _ => False
def cp_M_write : xm_CP := fun as m Rh => (lg_sl as).length ≤ 2 ∧ xm_cp fM_write 0 0 as m Rh
theorem eM_write_0 {X : Nat → xm_PT} {Rh : Option Value → xm_M → Prop} (hX : ∀ lb, xm_le (fM_write X Rh lb) (X lb)) {ls : xm_L} {st : List Value} {m : xm_M} {bc bs : Nat} (h : cM_write_0 X Rh ls st m bc bs) : X 0 ls st m bc bs := hX 0 ls st m bc bs h
set_option maxRecDepth 20000 in
set_option maxHeartbeats 4000000 in
theorem sM_write_0 {p : Program} {l : Launch} {e : Env} {s : State} {mm : MethodId} {args : Array Value} {below : List Frame} {meth : Method} {c : Code} {D : va_G} {A : Nat → Prop} {Rh : Option Value → xm_M → Prop} (C : xm_C p s mm args c b_M_write 2 "BlockVaultModel" w_M_write D classes ats A) (hr : meth.sig.returnType = (some .int)) (hlk : meth.locks = false) (hnm : meth.name = "write") : xm_le (cM_write_0 (xm_A p l e rm_M_write s mm args below meth c 2 D classes A (MQ below (xm_Q D classes Rh A) args s 0 0 A)) Rh) ((xm_A p l e rm_M_write s mm args below meth c 2 D classes A (MQ below (xm_Q D classes Rh A) args s 0 0 A)) 0) :=
  (xs_aload_n C d_M_write_0 rfl (xs_get C (k := 6) d_M_write_1 h_M (ci := 5) rfl (by decide) (List.mem_cons_of_mem _ tw_427) rfl (xs_sipush C d_M_write_4 (by decide) (xs_aload_n C d_M_write_7 rfl (xs_get C (k := 13) d_M_write_8 h_M (ci := 5) rfl (by decide) (List.mem_cons_of_mem _ tw_434) rfl (xs_iast C d_M_write_11 (xs_aload_n C d_M_write_12 rfl (xs_callV C (CN := "BlockVaultModel") (T := F_M) (N := 18) d_M_write_13 (met_M_append l D) ⟨callB_of (ws := w_M_append) (rm := rm_M_append) 0 C.1.2.2.2.2 (gG_m tw_504) rfl rfl rfl (C.1.2.2.2.2 _ (List.mem_cons_of_mem _ tw_5)) (C.1.2.2.2.2 _ (List.mem_cons_of_mem _ tw_501)) ⟨by decide, by decide, by decide +kernel⟩ ⟨Nat.le_of_ble_eq_true rfl, Nat.le_of_ble_eq_true rfl⟩, (C.1.2.2.2.2 _ (List.mem_cons_of_mem _ tw_503)), (C.1.2.2.2.2 _ (List.mem_cons_of_mem _ ts_37))⟩ (ci := 5) rfl (xs_istore_n C d_M_write_16 rfl (by decide) (xs_iload_n C d_M_write_17 rfl (xs_if_ne C d_M_write_18 (by decide) (xs_aload_n C d_M_write_21 rfl (xs_dup C d_M_write_22 (xs_get C (k := 13) d_M_write_23 h_M (ci := 5) rfl (by decide) (List.mem_cons_of_mem _ tw_434) rfl (xs_iconst C d_M_write_26 (by decide) (xs_iadd C d_M_write_27 (xs_put C (k := 13) d_M_write_28 h_M t_M t_M_ok n_M (ci := 5) rfl (by decide) (List.mem_cons_of_mem _ tw_434) rfl rfl (by decide +kernel) (xs_iload_n C d_M_write_31 rfl (xs_iret C d_M_write_32 hr hlk rfl rfl)))))))) (xs_iload_n C d_M_write_31 rfl (xs_iret C d_M_write_32 hr hlk rfl rfl)))))))))))))
theorem met_M_write (l : Launch) (D : va_G) : xm_Met l D classes ats y_M_write w_M_write rm_M_write 0 0 cp_M_write := by
  refine xm_met 0 (by decide) rfl rfl rfl (fun p e s mm args below meth c A Rh C hr hlk hnm lb => ?_)
  unfold fM_write
  split
  · rename_i h; subst h; exact sM_write_0 C hr hlk hnm
  · exact fun _ _ _ _ _ h => h.elim
theorem d_M_writeRecord_0 : decode b_M_writeRecord 0 = .ok (.aload_n 0, 1) := by decide +kernel
theorem d_M_writeRecord_1 : decode b_M_writeRecord 1 = .ok (.getfield 7, 3) := by decide +kernel
theorem d_M_writeRecord_4 : decode b_M_writeRecord 4 = .ok (.sipush 192, 3) := by decide +kernel
theorem d_M_writeRecord_7 : decode b_M_writeRecord 7 = .ok (.iconst 0, 1) := by decide +kernel
theorem d_M_writeRecord_8 : decode b_M_writeRecord 8 = .ok (.bastore, 1) := by decide +kernel
theorem d_M_writeRecord_9 : decode b_M_writeRecord 9 = .ok (.aload_n 0, 1) := by decide +kernel
theorem d_M_writeRecord_10 : decode b_M_writeRecord 10 = .ok (.getfield 13, 3) := by decide +kernel
theorem d_M_writeRecord_13 : decode b_M_writeRecord 13 = .ok (.sipush 192, 3) := by decide +kernel
theorem d_M_writeRecord_16 : decode b_M_writeRecord 16 = .ok (.iload_n 1, 1) := by decide +kernel
theorem d_M_writeRecord_17 : decode b_M_writeRecord 17 = .ok (.iastore, 1) := by decide +kernel
theorem d_M_writeRecord_18 : decode b_M_writeRecord 18 = .ok (.aload_n 0, 1) := by decide +kernel
theorem d_M_writeRecord_19 : decode b_M_writeRecord 19 = .ok (.getfield 17, 3) := by decide +kernel
theorem d_M_writeRecord_22 : decode b_M_writeRecord 22 = .ok (.sipush 192, 3) := by decide +kernel
theorem d_M_writeRecord_25 : decode b_M_writeRecord 25 = .ok (.iload_n 2, 1) := by decide +kernel
theorem d_M_writeRecord_26 : decode b_M_writeRecord 26 = .ok (.iastore, 1) := by decide +kernel
theorem d_M_writeRecord_27 : decode b_M_writeRecord 27 = .ok (.aload_n 0, 1) := by decide +kernel
theorem d_M_writeRecord_28 : decode b_M_writeRecord 28 = .ok (.getfield 20, 3) := by decide +kernel
theorem d_M_writeRecord_31 : decode b_M_writeRecord 31 = .ok (.sipush 192, 3) := by decide +kernel
theorem d_M_writeRecord_34 : decode b_M_writeRecord 34 = .ok (.iload_n 3, 1) := by decide +kernel
theorem d_M_writeRecord_35 : decode b_M_writeRecord 35 = .ok (.iastore, 1) := by decide +kernel
theorem d_M_writeRecord_36 : decode b_M_writeRecord 36 = .ok (.aload_n 0, 1) := by decide +kernel
theorem d_M_writeRecord_37 : decode b_M_writeRecord 37 = .ok (.getfield 23, 3) := by decide +kernel
theorem d_M_writeRecord_40 : decode b_M_writeRecord 40 = .ok (.sipush 192, 3) := by decide +kernel
theorem d_M_writeRecord_43 : decode b_M_writeRecord 43 = .ok (.iload 4, 2) := by decide +kernel
theorem d_M_writeRecord_45 : decode b_M_writeRecord 45 = .ok (.iastore, 1) := by decide +kernel
theorem d_M_writeRecord_46 : decode b_M_writeRecord 46 = .ok (.aload_n 0, 1) := by decide +kernel
theorem d_M_writeRecord_47 : decode b_M_writeRecord 47 = .ok (.getfield 26, 3) := by decide +kernel
theorem d_M_writeRecord_50 : decode b_M_writeRecord 50 = .ok (.sipush 192, 3) := by decide +kernel
theorem d_M_writeRecord_53 : decode b_M_writeRecord 53 = .ok (.iload 5, 2) := by decide +kernel
theorem d_M_writeRecord_55 : decode b_M_writeRecord 55 = .ok (.ifCond .ne 7, 3) := by decide +kernel
theorem d_M_writeRecord_58 : decode b_M_writeRecord 58 = .ok (.iconst 0, 1) := by decide +kernel
theorem d_M_writeRecord_59 : decode b_M_writeRecord 59 = .ok (.goto 10, 3) := by decide +kernel
theorem d_M_writeRecord_62 : decode b_M_writeRecord 62 = .ok (.aload_n 0, 1) := by decide +kernel
theorem d_M_writeRecord_63 : decode b_M_writeRecord 63 = .ok (.getfield 51, 3) := by decide +kernel
theorem d_M_writeRecord_66 : decode b_M_writeRecord 66 = .ok (.iload 5, 2) := by decide +kernel
theorem d_M_writeRecord_68 : decode b_M_writeRecord 68 = .ok (.iadd, 1) := by decide +kernel
theorem d_M_writeRecord_69 : decode b_M_writeRecord 69 = .ok (.iastore, 1) := by decide +kernel
theorem d_M_writeRecord_70 : decode b_M_writeRecord 70 = .ok (.aload_n 0, 1) := by decide +kernel
theorem d_M_writeRecord_71 : decode b_M_writeRecord 71 = .ok (.invokevirtual 89, 3) := by decide +kernel
theorem d_M_writeRecord_74 : decode b_M_writeRecord 74 = .ok (.istore 6, 2) := by decide +kernel
theorem d_M_writeRecord_76 : decode b_M_writeRecord 76 = .ok (.iload 6, 2) := by decide +kernel
theorem d_M_writeRecord_78 : decode b_M_writeRecord 78 = .ok (.ifCond .ge 8, 3) := by decide +kernel
theorem d_M_writeRecord_81 : decode b_M_writeRecord 81 = .ok (.iload 6, 2) := by decide +kernel
theorem d_M_writeRecord_83 : decode b_M_writeRecord 83 = .ok (.goto 5, 3) := by decide +kernel
theorem d_M_writeRecord_86 : decode b_M_writeRecord 86 = .ok (.iload 4, 2) := by decide +kernel
theorem d_M_writeRecord_88 : decode b_M_writeRecord 88 = .ok (.ireturn, 1) := by decide +kernel
-- BlockVaultModel.writeRecord(IIIII)I: labels [0, 69], loops []
abbrev rm_M_writeRecord : Room := { frames := 4, cells := 0, slots := 0, locals := 88 }
def cM_writeRecord_69 (X : Nat → xm_PT) (Rh : Option Value → xm_M → Prop) : xm_PT := (xo_iast ats (xo_aload 0 (xo_callV 5 0 0 0 cp_M_write (xo_istore 6 (xo_iload 6 (xo_if (fun x => 0 ≤ x) (xo_iload 4 (xo_iret Rh)) (xo_iload 6 (xo_iret Rh))))))))
def cM_writeRecord_0 (X : Nat → xm_PT) (Rh : Option Value → xm_M → Prop) : xm_PT := (xo_aload 0 (xo_get 5 0 (xo_push (.int (nI 192)) (xo_push (.int 0) (xo_zast ats (xo_aload 0 (xo_get 5 1 (xo_push (.int (nI 192)) (xo_iload 1 (xo_iast ats (xo_aload 0 (xo_get 5 2 (xo_push (.int (nI 192)) (xo_iload 2 (xo_iast ats (xo_aload 0 (xo_get 5 3 (xo_push (.int (nI 192)) (xo_iload 3 (xo_iast ats (xo_aload 0 (xo_get 5 4 (xo_push (.int (nI 192)) (xo_iload 4 (xo_iast ats (xo_aload 0 (xo_get 5 5 (xo_push (.int (nI 192)) (xo_iload 5 (xo_if (fun x => x = 0) (xo_push (.int 0) (xo_jmp [0, 4] (cM_writeRecord_69 X Rh))) (xo_aload 0 (xo_get 5 12 (xo_iload 5 (xo_ibin (fun x y => x + y) (xo_jmp [0, 4] (cM_writeRecord_69 X Rh))))))))))))))))))))))))))))))))))))
def fM_writeRecord : xm_F := fun X Rh lb => if lb = 0 then cM_writeRecord_0 X Rh else fun _ _ _ _ _ => False
def cp_M_writeRecord : xm_CP := fun as m Rh => (lg_sl as).length ≤ 7 ∧ xm_cp fM_writeRecord 0 0 as m Rh
theorem eM_writeRecord_0 {X : Nat → xm_PT} {Rh : Option Value → xm_M → Prop} (hX : ∀ lb, xm_le (fM_writeRecord X Rh lb) (X lb)) {ls : xm_L} {st : List Value} {m : xm_M} {bc bs : Nat} (h : cM_writeRecord_0 X Rh ls st m bc bs) : X 0 ls st m bc bs := hX 0 ls st m bc bs h
set_option maxRecDepth 20000 in
set_option maxHeartbeats 4000000 in
theorem sM_writeRecord_69 {p : Program} {l : Launch} {e : Env} {s : State} {mm : MethodId} {args : Array Value} {below : List Frame} {meth : Method} {c : Code} {D : va_G} {A : Nat → Prop} {Rh : Option Value → xm_M → Prop} (C : xm_C p s mm args c b_M_writeRecord 7 "BlockVaultModel" w_M_writeRecord D classes ats A) (hr : meth.sig.returnType = (some .int)) (hlk : meth.locks = false) (hnm : meth.name = "writeRecord") : xm_le (cM_writeRecord_69 (xm_A p l e rm_M_writeRecord s mm args below meth c 7 D classes A (MQ below (xm_Q D classes Rh A) args s 0 0 A)) Rh) ((xm_A p l e rm_M_writeRecord s mm args below meth c 7 D classes A (MQ below (xm_Q D classes Rh A) args s 0 0 A)) 69) :=
  (xs_iast C d_M_writeRecord_69 (xs_aload_n C d_M_writeRecord_70 rfl (xs_callV C (CN := "BlockVaultModel") (T := F_M) (N := 18) d_M_writeRecord_71 (met_M_write l D) ⟨callB_of (ws := w_M_write) (rm := rm_M_write) 0 C.1.2.2.2.2 (gG_m tw_500) rfl rfl rfl (C.1.2.2.2.2 _ (List.mem_cons_of_mem _ tw_5)) (C.1.2.2.2.2 _ (List.mem_cons_of_mem _ tw_497)) ⟨by decide, by decide, by decide +kernel⟩ ⟨Nat.le_of_ble_eq_true rfl, Nat.le_of_ble_eq_true rfl⟩, (C.1.2.2.2.2 _ (List.mem_cons_of_mem _ tw_499)), (C.1.2.2.2.2 _ (List.mem_cons_of_mem _ ts_36))⟩ (ci := 5) rfl (xs_istore C d_M_writeRecord_74 (by decide) (xs_iload C d_M_writeRecord_76 (xs_if_ge C d_M_writeRecord_78 (by decide) (xs_iload C d_M_writeRecord_86 (xs_iret C d_M_writeRecord_88 hr hlk rfl rfl)) (xs_iload C d_M_writeRecord_81 (xs_goto C d_M_writeRecord_83 (by decide) (xs_iret C d_M_writeRecord_88 hr hlk rfl rfl)))))))))
set_option maxRecDepth 20000 in
set_option maxHeartbeats 4000000 in
theorem sM_writeRecord_0 {p : Program} {l : Launch} {e : Env} {s : State} {mm : MethodId} {args : Array Value} {below : List Frame} {meth : Method} {c : Code} {D : va_G} {A : Nat → Prop} {Rh : Option Value → xm_M → Prop} (C : xm_C p s mm args c b_M_writeRecord 7 "BlockVaultModel" w_M_writeRecord D classes ats A) (hr : meth.sig.returnType = (some .int)) (hlk : meth.locks = false) (hnm : meth.name = "writeRecord") : xm_le (cM_writeRecord_0 (xm_A p l e rm_M_writeRecord s mm args below meth c 7 D classes A (MQ below (xm_Q D classes Rh A) args s 0 0 A)) Rh) ((xm_A p l e rm_M_writeRecord s mm args below meth c 7 D classes A (MQ below (xm_Q D classes Rh A) args s 0 0 A)) 0) :=
  (xs_aload_n C d_M_writeRecord_0 rfl (xs_get C (k := 0) d_M_writeRecord_1 h_M (ci := 5) rfl (by decide) (List.mem_cons_of_mem _ tw_421) rfl (xs_sipush C d_M_writeRecord_4 (by decide) (xs_iconst C d_M_writeRecord_7 (by decide) (xs_zast C d_M_writeRecord_8 (xs_aload_n C d_M_writeRecord_9 rfl (xs_get C (k := 1) d_M_writeRecord_10 h_M (ci := 5) rfl (by decide) (List.mem_cons_of_mem _ tw_422) rfl (xs_sipush C d_M_writeRecord_13 (by decide) (xs_iload_n C d_M_writeRecord_16 rfl (xs_iast C d_M_writeRecord_17 (xs_aload_n C d_M_writeRecord_18 rfl (xs_get C (k := 2) d_M_writeRecord_19 h_M (ci := 5) rfl (by decide) (List.mem_cons_of_mem _ tw_423) rfl (xs_sipush C d_M_writeRecord_22 (by decide) (xs_iload_n C d_M_writeRecord_25 rfl (xs_iast C d_M_writeRecord_26 (xs_aload_n C d_M_writeRecord_27 rfl (xs_get C (k := 3) d_M_writeRecord_28 h_M (ci := 5) rfl (by decide) (List.mem_cons_of_mem _ tw_424) rfl (xs_sipush C d_M_writeRecord_31 (by decide) (xs_iload_n C d_M_writeRecord_34 rfl (xs_iast C d_M_writeRecord_35 (xs_aload_n C d_M_writeRecord_36 rfl (xs_get C (k := 4) d_M_writeRecord_37 h_M (ci := 5) rfl (by decide) (List.mem_cons_of_mem _ tw_425) rfl (xs_sipush C d_M_writeRecord_40 (by decide) (xs_iload C d_M_writeRecord_43 (xs_iast C d_M_writeRecord_45 (xs_aload_n C d_M_writeRecord_46 rfl (xs_get C (k := 5) d_M_writeRecord_47 h_M (ci := 5) rfl (by decide) (List.mem_cons_of_mem _ tw_426) rfl (xs_sipush C d_M_writeRecord_50 (by decide) (xs_iload C d_M_writeRecord_53 (xs_if_ne C d_M_writeRecord_55 (by decide) (xs_iconst C d_M_writeRecord_58 (by decide) (xs_goto C d_M_writeRecord_59 (by decide) (xs_jmp (sM_writeRecord_69 C hr hlk hnm)))) (xs_aload_n C d_M_writeRecord_62 rfl (xs_get C (k := 12) d_M_writeRecord_63 h_M (ci := 5) rfl (by decide) (List.mem_cons_of_mem _ tw_433) rfl (xs_iload C d_M_writeRecord_66 (xs_iadd C d_M_writeRecord_68 (xs_jmp (sM_writeRecord_69 C hr hlk hnm))))))))))))))))))))))))))))))))))))
theorem met_M_writeRecord (l : Launch) (D : va_G) : xm_Met l D classes ats y_M_writeRecord w_M_writeRecord rm_M_writeRecord 0 0 cp_M_writeRecord := by
  refine xm_met 0 (by decide) rfl rfl rfl (fun p e s mm args below meth c A Rh C hr hlk hnm lb => ?_)
  unfold fM_writeRecord
  split
  · rename_i h; subst h; exact sM_writeRecord_0 C hr hlk hnm
  · exact fun _ _ _ _ _ h => h.elim
theorem d_M_put_0 : decode b_M_put 0 = .ok (.iload_n 1, 1) := by decide +kernel
theorem d_M_put_1 : decode b_M_put 1 = .ok (.iconst 0, 1) := by decide +kernel
theorem d_M_put_2 : decode b_M_put 2 = .ok (.bipush 15, 2) := by decide +kernel
theorem d_M_put_4 : decode b_M_put 4 = .ok (.invokestatic 92, 3) := by decide +kernel
theorem d_M_put_7 : decode b_M_put 7 = .ok (.ifCond .eq 32, 3) := by decide +kernel
theorem d_M_put_10 : decode b_M_put 10 = .ok (.iload_n 3, 1) := by decide +kernel
theorem d_M_put_11 : decode b_M_put 11 = .ok (.iconst 1, 1) := by decide +kernel
theorem d_M_put_12 : decode b_M_put 12 = .ok (.bipush 6, 2) := by decide +kernel
theorem d_M_put_14 : decode b_M_put 14 = .ok (.invokestatic 92, 3) := by decide +kernel
theorem d_M_put_17 : decode b_M_put 17 = .ok (.ifCond .eq 22, 3) := by decide +kernel
theorem d_M_put_20 : decode b_M_put 20 = .ok (.iload 4, 2) := by decide +kernel
theorem d_M_put_22 : decode b_M_put 22 = .ok (.iconst 0, 1) := by decide +kernel
theorem d_M_put_23 : decode b_M_put 23 = .ok (.sipush 1000, 3) := by decide +kernel
theorem d_M_put_26 : decode b_M_put 26 = .ok (.invokestatic 92, 3) := by decide +kernel
theorem d_M_put_29 : decode b_M_put 29 = .ok (.ifCond .eq 10, 3) := by decide +kernel
theorem d_M_put_32 : decode b_M_put 32 = .ok (.iload 5, 2) := by decide +kernel
theorem d_M_put_34 : decode b_M_put 34 = .ok (.bipush (-3), 2) := by decide +kernel
theorem d_M_put_36 : decode b_M_put 36 = .ok (.if_icmp .ge 5, 3) := by decide +kernel
theorem d_M_put_39 : decode b_M_put 39 = .ok (.iconst (-1), 1) := by decide +kernel
theorem d_M_put_40 : decode b_M_put 40 = .ok (.ireturn, 1) := by decide +kernel
theorem d_M_put_41 : decode b_M_put 41 = .ok (.aload_n 0, 1) := by decide +kernel
theorem d_M_put_42 : decode b_M_put 42 = .ok (.getfield 96, 3) := by decide +kernel
theorem d_M_put_45 : decode b_M_put 45 = .ok (.ifCond .eq 6, 3) := by decide +kernel
theorem d_M_put_48 : decode b_M_put 48 = .ok (.bipush (-2), 2) := by decide +kernel
theorem d_M_put_50 : decode b_M_put 50 = .ok (.ireturn, 1) := by decide +kernel
theorem d_M_put_51 : decode b_M_put 51 = .ok (.aload_n 0, 1) := by decide +kernel
theorem d_M_put_52 : decode b_M_put 52 = .ok (.iload_n 1, 1) := by decide +kernel
theorem d_M_put_53 : decode b_M_put 53 = .ok (.invokevirtual 100, 3) := by decide +kernel
theorem d_M_put_56 : decode b_M_put 56 = .ok (.istore 6, 2) := by decide +kernel
theorem d_M_put_58 : decode b_M_put 58 = .ok (.iload 6, 2) := by decide +kernel
theorem d_M_put_60 : decode b_M_put 60 = .ok (.ifCond .eq 17, 3) := by decide +kernel
theorem d_M_put_63 : decode b_M_put 63 = .ok (.aload_n 0, 1) := by decide +kernel
theorem d_M_put_64 : decode b_M_put 64 = .ok (.getfield 23, 3) := by decide +kernel
theorem d_M_put_67 : decode b_M_put 67 = .ok (.aload_n 0, 1) := by decide +kernel
theorem d_M_put_68 : decode b_M_put 68 = .ok (.getfield 44, 3) := by decide +kernel
theorem d_M_put_71 : decode b_M_put 71 = .ok (.iload_n 1, 1) := by decide +kernel
theorem d_M_put_72 : decode b_M_put 72 = .ok (.iaload, 1) := by decide +kernel
theorem d_M_put_73 : decode b_M_put 73 = .ok (.iaload, 1) := by decide +kernel
theorem d_M_put_74 : decode b_M_put 74 = .ok (.goto 4, 3) := by decide +kernel
theorem d_M_put_77 : decode b_M_put 77 = .ok (.iconst 0, 1) := by decide +kernel
theorem d_M_put_78 : decode b_M_put 78 = .ok (.istore 7, 2) := by decide +kernel
theorem d_M_put_80 : decode b_M_put 80 = .ok (.iload 5, 2) := by decide +kernel
theorem d_M_put_82 : decode b_M_put 82 = .ok (.bipush (-2), 2) := by decide +kernel
theorem d_M_put_84 : decode b_M_put 84 = .ok (.if_icmp .ne 8, 3) := by decide +kernel
theorem d_M_put_87 : decode b_M_put 87 = .ok (.iload 6, 2) := by decide +kernel
theorem d_M_put_89 : decode b_M_put 89 = .ok (.ifCond .ne 32, 3) := by decide +kernel
theorem d_M_put_92 : decode b_M_put 92 = .ok (.iload 5, 2) := by decide +kernel
theorem d_M_put_94 : decode b_M_put 94 = .ok (.bipush (-3), 2) := by decide +kernel
theorem d_M_put_96 : decode b_M_put 96 = .ok (.if_icmp .ne 8, 3) := by decide +kernel
theorem d_M_put_99 : decode b_M_put 99 = .ok (.iload 6, 2) := by decide +kernel
theorem d_M_put_101 : decode b_M_put 101 = .ok (.ifCond .eq 20, 3) := by decide +kernel
theorem d_M_put_104 : decode b_M_put 104 = .ok (.iload 5, 2) := by decide +kernel
theorem d_M_put_106 : decode b_M_put 106 = .ok (.ifCond .lt 18, 3) := by decide +kernel
theorem d_M_put_109 : decode b_M_put 109 = .ok (.iload 6, 2) := by decide +kernel
theorem d_M_put_111 : decode b_M_put 111 = .ok (.ifCond .eq 10, 3) := by decide +kernel
theorem d_M_put_114 : decode b_M_put 114 = .ok (.iload 7, 2) := by decide +kernel
theorem d_M_put_116 : decode b_M_put 116 = .ok (.iload 5, 2) := by decide +kernel
theorem d_M_put_118 : decode b_M_put 118 = .ok (.if_icmp .eq 6, 3) := by decide +kernel
theorem d_M_put_121 : decode b_M_put 121 = .ok (.bipush (-3), 2) := by decide +kernel
theorem d_M_put_123 : decode b_M_put 123 = .ok (.ireturn, 1) := by decide +kernel
theorem d_M_put_124 : decode b_M_put 124 = .ok (.aload_n 0, 1) := by decide +kernel
theorem d_M_put_125 : decode b_M_put 125 = .ok (.iload_n 1, 1) := by decide +kernel
theorem d_M_put_126 : decode b_M_put 126 = .ok (.iload_n 2, 1) := by decide +kernel
theorem d_M_put_127 : decode b_M_put 127 = .ok (.iload_n 3, 1) := by decide +kernel
theorem d_M_put_128 : decode b_M_put 128 = .ok (.iload 7, 2) := by decide +kernel
theorem d_M_put_130 : decode b_M_put 130 = .ok (.iconst 1, 1) := by decide +kernel
theorem d_M_put_131 : decode b_M_put 131 = .ok (.iadd, 1) := by decide +kernel
theorem d_M_put_132 : decode b_M_put 132 = .ok (.iload 4, 2) := by decide +kernel
theorem d_M_put_134 : decode b_M_put 134 = .ok (.invokevirtual 103, 3) := by decide +kernel
theorem d_M_put_137 : decode b_M_put 137 = .ok (.ireturn, 1) := by decide +kernel
-- BlockVaultModel.put(IIIII)I: labels [0, 78, 92, 104, 124], loops []
abbrev rm_M_put : Room := { frames := 5, cells := 0, slots := 0, locals := 114 }
def cM_put_124 (X : Nat → xm_PT) (Rh : Option Value → xm_M → Prop) : xm_PT := (xo_aload 0 (xo_iload 1 (xo_iload 2 (xo_iload 3 (xo_iload 7 (xo_push (.int 1) (xo_ibin (fun x y => x + y) (xo_iload 4 (xo_callV 5 5 0 0 cp_M_writeRecord (xo_iret Rh))))))))))
def cM_put_104 (X : Nat → xm_PT) (Rh : Option Value → xm_M → Prop) : xm_PT := (xo_iload 5 (xo_if (fun x => x < 0) (xo_jmp [0, 1, 2, 3, 4, 7] (cM_put_124 X Rh)) (xo_iload 6 (xo_if (fun x => x = 0) (xo_push (.int (-3)) (xo_iret Rh)) (xo_iload 7 (xo_iload 5 (xo_icmp (fun x y => x = y) (xo_jmp [0, 1, 2, 3, 4, 7] (cM_put_124 X Rh)) (xo_push (.int (-3)) (xo_iret Rh)))))))))
def cM_put_92 (X : Nat → xm_PT) (Rh : Option Value → xm_M → Prop) : xm_PT := (xo_iload 5 (xo_push (.int (-3)) (xo_icmp (fun x y => x = y) (xo_iload 6 (xo_if (fun x => x = 0) (xo_push (.int (-3)) (xo_iret Rh)) (xo_jmp [0, 1, 2, 3, 4, 5, 6, 7] (cM_put_104 X Rh)))) (xo_jmp [0, 1, 2, 3, 4, 5, 6, 7] (cM_put_104 X Rh)))))
def cM_put_78 (X : Nat → xm_PT) (Rh : Option Value → xm_M → Prop) : xm_PT := (xo_istore 7 (xo_iload 5 (xo_push (.int (-2)) (xo_icmp (fun x y => x = y) (xo_iload 6 (xo_if (fun x => x = 0) (xo_jmp [0, 1, 2, 3, 4, 5, 6, 7] (cM_put_92 X Rh)) (xo_push (.int (-3)) (xo_iret Rh)))) (xo_jmp [0, 1, 2, 3, 4, 5, 6, 7] (cM_put_92 X Rh))))))
def cM_put_0 (X : Nat → xm_PT) (Rh : Option Value → xm_M → Prop) : xm_PT := (xo_iload 1 (xo_push (.int 0) (xo_push (.int (nI 15)) (xo_callS 3 0 0 cp_M_in (xo_if (fun x => x = 0) (xo_push (.int (-1)) (xo_iret Rh)) (xo_iload 3 (xo_push (.int 1) (xo_push (.int (nI 6)) (xo_callS 3 0 0 cp_M_in (xo_if (fun x => x = 0) (xo_push (.int (-1)) (xo_iret Rh)) (xo_iload 4 (xo_push (.int 0) (xo_push (.int (nI 1000)) (xo_callS 3 0 0 cp_M_in (xo_if (fun x => x = 0) (xo_push (.int (-1)) (xo_iret Rh)) (xo_iload 5 (xo_push (.int (-3)) (xo_icmp (fun x y => y ≤ x) (xo_aload 0 (xo_get 5 17 (xo_if (fun x => x = 0) (xo_aload 0 (xo_iload 1 (xo_callV 5 1 0 0 cp_M_isThere (xo_istore 6 (xo_iload 6 (xo_if (fun x => x = 0) (xo_push (.int 0) (xo_jmp [0, 1, 2, 3, 4, 5, 6] (cM_put_78 X Rh))) (xo_aload 0 (xo_get 5 4 (xo_aload 0 (xo_get 5 11 (xo_iload 1 (xo_iald ats (xo_iald ats (xo_jmp [0, 1, 2, 3, 4, 5, 6] (cM_put_78 X Rh))))))))))))))) (xo_push (.int (-2)) (xo_iret Rh))))) (xo_push (.int (-1)) (xo_iret Rh))))))))))))))))))))
def fM_put : xm_F := fun X Rh lb => if lb = 0 then cM_put_0 X Rh else fun _ _ _ _ _ => False
def cp_M_put : xm_CP := fun as m Rh => (lg_sl as).length ≤ 8 ∧ xm_cp fM_put 0 0 as m Rh
theorem eM_put_0 {X : Nat → xm_PT} {Rh : Option Value → xm_M → Prop} (hX : ∀ lb, xm_le (fM_put X Rh lb) (X lb)) {ls : xm_L} {st : List Value} {m : xm_M} {bc bs : Nat} (h : cM_put_0 X Rh ls st m bc bs) : X 0 ls st m bc bs := hX 0 ls st m bc bs h
set_option maxRecDepth 20000 in
set_option maxHeartbeats 4000000 in
theorem sM_put_124 {p : Program} {l : Launch} {e : Env} {s : State} {mm : MethodId} {args : Array Value} {below : List Frame} {meth : Method} {c : Code} {D : va_G} {A : Nat → Prop} {Rh : Option Value → xm_M → Prop} (C : xm_C p s mm args c b_M_put 8 "BlockVaultModel" w_M_put D classes ats A) (hr : meth.sig.returnType = (some .int)) (hlk : meth.locks = false) (hnm : meth.name = "put") : xm_le (cM_put_124 (xm_A p l e rm_M_put s mm args below meth c 8 D classes A (MQ below (xm_Q D classes Rh A) args s 0 0 A)) Rh) ((xm_A p l e rm_M_put s mm args below meth c 8 D classes A (MQ below (xm_Q D classes Rh A) args s 0 0 A)) 124) :=
  (xs_aload_n C d_M_put_124 rfl (xs_iload_n C d_M_put_125 rfl (xs_iload_n C d_M_put_126 rfl (xs_iload_n C d_M_put_127 rfl (xs_iload C d_M_put_128 (xs_iconst C d_M_put_130 (by decide) (xs_iadd C d_M_put_131 (xs_iload C d_M_put_132 (xs_callV C (CN := "BlockVaultModel") (T := F_M) (N := 18) d_M_put_134 (met_M_writeRecord l D) ⟨callB_of (ws := w_M_writeRecord) (rm := rm_M_writeRecord) 5 C.1.2.2.2.2 (gG_m tw_496) rfl rfl rfl (C.1.2.2.2.2 _ (List.mem_cons_of_mem _ tw_5)) (C.1.2.2.2.2 _ (List.mem_cons_of_mem _ tw_493)) ⟨by decide, by decide, by decide +kernel⟩ ⟨Nat.le_of_ble_eq_true rfl, Nat.le_of_ble_eq_true rfl⟩, (C.1.2.2.2.2 _ (List.mem_cons_of_mem _ tw_495)), (C.1.2.2.2.2 _ (List.mem_cons_of_mem _ ts_35))⟩ (ci := 5) rfl (xs_iret C d_M_put_137 hr hlk rfl rfl))))))))))
set_option maxRecDepth 20000 in
set_option maxHeartbeats 4000000 in
theorem sM_put_104 {p : Program} {l : Launch} {e : Env} {s : State} {mm : MethodId} {args : Array Value} {below : List Frame} {meth : Method} {c : Code} {D : va_G} {A : Nat → Prop} {Rh : Option Value → xm_M → Prop} (C : xm_C p s mm args c b_M_put 8 "BlockVaultModel" w_M_put D classes ats A) (hr : meth.sig.returnType = (some .int)) (hlk : meth.locks = false) (hnm : meth.name = "put") : xm_le (cM_put_104 (xm_A p l e rm_M_put s mm args below meth c 8 D classes A (MQ below (xm_Q D classes Rh A) args s 0 0 A)) Rh) ((xm_A p l e rm_M_put s mm args below meth c 8 D classes A (MQ below (xm_Q D classes Rh A) args s 0 0 A)) 104) :=
  (xs_iload C d_M_put_104 (xs_if_lt C d_M_put_106 (by decide) (xs_jmp (sM_put_124 C hr hlk hnm)) (xs_iload C d_M_put_109 (xs_if_eq C d_M_put_111 (by decide) (xs_bipush C d_M_put_121 (by decide) (xs_iret C d_M_put_123 hr hlk rfl rfl)) (xs_iload C d_M_put_114 (xs_iload C d_M_put_116 (xs_icmp_eq C d_M_put_118 (by decide) (xs_jmp (sM_put_124 C hr hlk hnm)) (xs_bipush C d_M_put_121 (by decide) (xs_iret C d_M_put_123 hr hlk rfl rfl)))))))))
set_option maxRecDepth 20000 in
set_option maxHeartbeats 4000000 in
theorem sM_put_92 {p : Program} {l : Launch} {e : Env} {s : State} {mm : MethodId} {args : Array Value} {below : List Frame} {meth : Method} {c : Code} {D : va_G} {A : Nat → Prop} {Rh : Option Value → xm_M → Prop} (C : xm_C p s mm args c b_M_put 8 "BlockVaultModel" w_M_put D classes ats A) (hr : meth.sig.returnType = (some .int)) (hlk : meth.locks = false) (hnm : meth.name = "put") : xm_le (cM_put_92 (xm_A p l e rm_M_put s mm args below meth c 8 D classes A (MQ below (xm_Q D classes Rh A) args s 0 0 A)) Rh) ((xm_A p l e rm_M_put s mm args below meth c 8 D classes A (MQ below (xm_Q D classes Rh A) args s 0 0 A)) 92) :=
  (xs_iload C d_M_put_92 (xs_bipush C d_M_put_94 (by decide) (xs_icmp_ne C d_M_put_96 (by decide) (xs_iload C d_M_put_99 (xs_if_eq C d_M_put_101 (by decide) (xs_bipush C d_M_put_121 (by decide) (xs_iret C d_M_put_123 hr hlk rfl rfl)) (xs_jmp (sM_put_104 C hr hlk hnm)))) (xs_jmp (sM_put_104 C hr hlk hnm)))))
set_option maxRecDepth 20000 in
set_option maxHeartbeats 4000000 in
theorem sM_put_78 {p : Program} {l : Launch} {e : Env} {s : State} {mm : MethodId} {args : Array Value} {below : List Frame} {meth : Method} {c : Code} {D : va_G} {A : Nat → Prop} {Rh : Option Value → xm_M → Prop} (C : xm_C p s mm args c b_M_put 8 "BlockVaultModel" w_M_put D classes ats A) (hr : meth.sig.returnType = (some .int)) (hlk : meth.locks = false) (hnm : meth.name = "put") : xm_le (cM_put_78 (xm_A p l e rm_M_put s mm args below meth c 8 D classes A (MQ below (xm_Q D classes Rh A) args s 0 0 A)) Rh) ((xm_A p l e rm_M_put s mm args below meth c 8 D classes A (MQ below (xm_Q D classes Rh A) args s 0 0 A)) 78) :=
  (xs_istore C d_M_put_78 (by decide) (xs_iload C d_M_put_80 (xs_bipush C d_M_put_82 (by decide) (xs_icmp_ne C d_M_put_84 (by decide) (xs_iload C d_M_put_87 (xs_if_ne C d_M_put_89 (by decide) (xs_jmp (sM_put_92 C hr hlk hnm)) (xs_bipush C d_M_put_121 (by decide) (xs_iret C d_M_put_123 hr hlk rfl rfl)))) (xs_jmp (sM_put_92 C hr hlk hnm))))))
set_option maxRecDepth 20000 in
set_option maxHeartbeats 4000000 in
theorem sM_put_0 {p : Program} {l : Launch} {e : Env} {s : State} {mm : MethodId} {args : Array Value} {below : List Frame} {meth : Method} {c : Code} {D : va_G} {A : Nat → Prop} {Rh : Option Value → xm_M → Prop} (C : xm_C p s mm args c b_M_put 8 "BlockVaultModel" w_M_put D classes ats A) (hr : meth.sig.returnType = (some .int)) (hlk : meth.locks = false) (hnm : meth.name = "put") : xm_le (cM_put_0 (xm_A p l e rm_M_put s mm args below meth c 8 D classes A (MQ below (xm_Q D classes Rh A) args s 0 0 A)) Rh) ((xm_A p l e rm_M_put s mm args below meth c 8 D classes A (MQ below (xm_Q D classes Rh A) args s 0 0 A)) 0) :=
  (xs_iload_n C d_M_put_0 rfl (xs_iconst C d_M_put_1 (by decide) (xs_bipush C d_M_put_2 (by decide) (xs_callS C d_M_put_4 (met_M_in l D) ⟨callB_of (ws := w_M_in) (rm := rm_M_in) 3 C.1.2.2.2.2 (gG_m tw_484) rfl rfl rfl (C.1.2.2.2.2 _ (List.mem_cons_of_mem _ tw_5)) (C.1.2.2.2.2 _ (List.mem_cons_of_mem _ tw_482)) ⟨by decide, by decide, by decide +kernel⟩ ⟨Nat.le_of_ble_eq_true rfl, Nat.le_of_ble_eq_true rfl⟩, C.1.2.2.2.2 _ (List.mem_cons_of_mem _ tw_483)⟩ (xs_if_eq C d_M_put_7 (by decide) (xs_iconst C d_M_put_39 (by decide) (xs_iret C d_M_put_40 hr hlk rfl rfl)) (xs_iload_n C d_M_put_10 rfl (xs_iconst C d_M_put_11 (by decide) (xs_bipush C d_M_put_12 (by decide) (xs_callS C d_M_put_14 (met_M_in l D) ⟨callB_of (ws := w_M_in) (rm := rm_M_in) 3 C.1.2.2.2.2 (gG_m tw_484) rfl rfl rfl (C.1.2.2.2.2 _ (List.mem_cons_of_mem _ tw_5)) (C.1.2.2.2.2 _ (List.mem_cons_of_mem _ tw_482)) ⟨by decide, by decide, by decide +kernel⟩ ⟨Nat.le_of_ble_eq_true rfl, Nat.le_of_ble_eq_true rfl⟩, C.1.2.2.2.2 _ (List.mem_cons_of_mem _ tw_483)⟩ (xs_if_eq C d_M_put_17 (by decide) (xs_iconst C d_M_put_39 (by decide) (xs_iret C d_M_put_40 hr hlk rfl rfl)) (xs_iload C d_M_put_20 (xs_iconst C d_M_put_22 (by decide) (xs_sipush C d_M_put_23 (by decide) (xs_callS C d_M_put_26 (met_M_in l D) ⟨callB_of (ws := w_M_in) (rm := rm_M_in) 3 C.1.2.2.2.2 (gG_m tw_484) rfl rfl rfl (C.1.2.2.2.2 _ (List.mem_cons_of_mem _ tw_5)) (C.1.2.2.2.2 _ (List.mem_cons_of_mem _ tw_482)) ⟨by decide, by decide, by decide +kernel⟩ ⟨Nat.le_of_ble_eq_true rfl, Nat.le_of_ble_eq_true rfl⟩, C.1.2.2.2.2 _ (List.mem_cons_of_mem _ tw_483)⟩ (xs_if_eq C d_M_put_29 (by decide) (xs_iconst C d_M_put_39 (by decide) (xs_iret C d_M_put_40 hr hlk rfl rfl)) (xs_iload C d_M_put_32 (xs_bipush C d_M_put_34 (by decide) (xs_icmp_ge C d_M_put_36 (by decide) (xs_aload_n C d_M_put_41 rfl (xs_get C (k := 17) d_M_put_42 h_M (ci := 5) rfl (by decide) (List.mem_cons_of_mem _ tw_438) rfl (xs_if_eq C d_M_put_45 (by decide) (xs_aload_n C d_M_put_51 rfl (xs_iload_n C d_M_put_52 rfl (xs_callV C (CN := "BlockVaultModel") (T := F_M) (N := 18) d_M_put_53 (met_M_isThere l D) ⟨callB_of (ws := w_M_isThere) (rm := rm_M_isThere) 1 C.1.2.2.2.2 (gG_m tw_488) rfl rfl rfl (C.1.2.2.2.2 _ (List.mem_cons_of_mem _ tw_5)) (C.1.2.2.2.2 _ (List.mem_cons_of_mem _ tw_485)) ⟨by decide, by decide, by decide +kernel⟩ ⟨Nat.le_of_ble_eq_true rfl, Nat.le_of_ble_eq_true rfl⟩, (C.1.2.2.2.2 _ (List.mem_cons_of_mem _ tw_487)), (C.1.2.2.2.2 _ (List.mem_cons_of_mem _ ts_33))⟩ (ci := 5) rfl (xs_istore C d_M_put_56 (by decide) (xs_iload C d_M_put_58 (xs_if_eq C d_M_put_60 (by decide) (xs_iconst C d_M_put_77 (by decide) (xs_jmp (sM_put_78 C hr hlk hnm))) (xs_aload_n C d_M_put_63 rfl (xs_get C (k := 4) d_M_put_64 h_M (ci := 5) rfl (by decide) (List.mem_cons_of_mem _ tw_425) rfl (xs_aload_n C d_M_put_67 rfl (xs_get C (k := 11) d_M_put_68 h_M (ci := 5) rfl (by decide) (List.mem_cons_of_mem _ tw_432) rfl (xs_iload_n C d_M_put_71 rfl (xs_iald C d_M_put_72 (xs_iald C d_M_put_73 (xs_goto C d_M_put_74 (by decide) (xs_jmp (sM_put_78 C hr hlk hnm)))))))))))))))) (xs_bipush C d_M_put_48 (by decide) (xs_iret C d_M_put_50 hr hlk rfl rfl))))) (xs_iconst C d_M_put_39 (by decide) (xs_iret C d_M_put_40 hr hlk rfl rfl))))))))))))))))))))
theorem met_M_put (l : Launch) (D : va_G) : xm_Met l D classes ats y_M_put w_M_put rm_M_put 0 0 cp_M_put := by
  refine xm_met 0 (by decide) rfl rfl rfl (fun p e s mm args below meth c A Rh C hr hlk hnm lb => ?_)
  unfold fM_put
  split
  · rename_i h; subst h; exact sM_put_0 C hr hlk hnm
  · exact fun _ _ _ _ _ h => h.elim
theorem d_M_get_0 : decode b_M_get 0 = .ok (.iload_n 1, 1) := by decide +kernel
theorem d_M_get_1 : decode b_M_get 1 = .ok (.iconst 0, 1) := by decide +kernel
theorem d_M_get_2 : decode b_M_get 2 = .ok (.bipush 15, 2) := by decide +kernel
theorem d_M_get_4 : decode b_M_get 4 = .ok (.invokestatic 92, 3) := by decide +kernel
theorem d_M_get_7 : decode b_M_get 7 = .ok (.ifCond .eq 33, 3) := by decide +kernel
theorem d_M_get_10 : decode b_M_get 10 = .ok (.aload_n 0, 1) := by decide +kernel
theorem d_M_get_11 : decode b_M_get 11 = .ok (.getfield 96, 3) := by decide +kernel
theorem d_M_get_14 : decode b_M_get 14 = .ok (.ifCond .ne 26, 3) := by decide +kernel
theorem d_M_get_17 : decode b_M_get 17 = .ok (.aload_n 0, 1) := by decide +kernel
theorem d_M_get_18 : decode b_M_get 18 = .ok (.iload_n 1, 1) := by decide +kernel
theorem d_M_get_19 : decode b_M_get 19 = .ok (.invokevirtual 100, 3) := by decide +kernel
theorem d_M_get_22 : decode b_M_get 22 = .ok (.ifCond .eq 18, 3) := by decide +kernel
theorem d_M_get_25 : decode b_M_get 25 = .ok (.aload_n 0, 1) := by decide +kernel
theorem d_M_get_26 : decode b_M_get 26 = .ok (.getfield 17, 3) := by decide +kernel
theorem d_M_get_29 : decode b_M_get 29 = .ok (.aload_n 0, 1) := by decide +kernel
theorem d_M_get_30 : decode b_M_get 30 = .ok (.getfield 44, 3) := by decide +kernel
theorem d_M_get_33 : decode b_M_get 33 = .ok (.iload_n 1, 1) := by decide +kernel
theorem d_M_get_34 : decode b_M_get 34 = .ok (.iaload, 1) := by decide +kernel
theorem d_M_get_35 : decode b_M_get 35 = .ok (.iaload, 1) := by decide +kernel
theorem d_M_get_36 : decode b_M_get 36 = .ok (.i2l, 1) := by decide +kernel
theorem d_M_get_37 : decode b_M_get 37 = .ok (.goto 6, 3) := by decide +kernel
theorem d_M_get_40 : decode b_M_get 40 = .ok (.ldc2_w 107, 3) := by decide +kernel
theorem d_M_get_43 : decode b_M_get 43 = .ok (.lreturn, 1) := by decide +kernel
-- BlockVaultModel.get(I)J: labels [0], loops []
abbrev rm_M_get : Room := { frames := 2, cells := 0, slots := 0, locals := 42 }
def cM_get_0 (X : Nat → xm_PT) (Rh : Option Value → xm_M → Prop) : xm_PT := (xo_iload 1 (xo_push (.int 0) (xo_push (.int (nI 15)) (xo_callS 3 0 0 cp_M_in (xo_if (fun x => x = 0) (xo_push (.long (1099511627776)) (xo_lret Rh)) (xo_aload 0 (xo_get 5 17 (xo_if (fun x => x = 0) (xo_aload 0 (xo_iload 1 (xo_callV 5 1 0 0 cp_M_isThere (xo_if (fun x => x = 0) (xo_push (.long (1099511627776)) (xo_lret Rh)) (xo_aload 0 (xo_get 5 2 (xo_aload 0 (xo_get 5 11 (xo_iload 1 (xo_iald ats (xo_iald ats (xo_i2l (xo_lret Rh))))))))))))) (xo_push (.long (1099511627776)) (xo_lret Rh))))))))))
def fM_get : xm_F := fun X Rh lb => if lb = 0 then cM_get_0 X Rh else fun _ _ _ _ _ => False
def cp_M_get : xm_CP := fun as m Rh => (lg_sl as).length ≤ 2 ∧ xm_cp fM_get 0 0 as m Rh
theorem eM_get_0 {X : Nat → xm_PT} {Rh : Option Value → xm_M → Prop} (hX : ∀ lb, xm_le (fM_get X Rh lb) (X lb)) {ls : xm_L} {st : List Value} {m : xm_M} {bc bs : Nat} (h : cM_get_0 X Rh ls st m bc bs) : X 0 ls st m bc bs := hX 0 ls st m bc bs h
set_option maxRecDepth 20000 in
set_option maxHeartbeats 4000000 in
theorem sM_get_0 {p : Program} {l : Launch} {e : Env} {s : State} {mm : MethodId} {args : Array Value} {below : List Frame} {meth : Method} {c : Code} {D : va_G} {A : Nat → Prop} {Rh : Option Value → xm_M → Prop} (C : xm_C p s mm args c b_M_get 2 "BlockVaultModel" w_M_get D classes ats A) (hr : meth.sig.returnType = (some .long)) (hlk : meth.locks = false) (hnm : meth.name = "get") : xm_le (cM_get_0 (xm_A p l e rm_M_get s mm args below meth c 2 D classes A (MQ below (xm_Q D classes Rh A) args s 0 0 A)) Rh) ((xm_A p l e rm_M_get s mm args below meth c 2 D classes A (MQ below (xm_Q D classes Rh A) args s 0 0 A)) 0) :=
  (xs_iload_n C d_M_get_0 rfl (xs_iconst C d_M_get_1 (by decide) (xs_bipush C d_M_get_2 (by decide) (xs_callS C d_M_get_4 (met_M_in l D) ⟨callB_of (ws := w_M_in) (rm := rm_M_in) 3 C.1.2.2.2.2 (gG_m tw_484) rfl rfl rfl (C.1.2.2.2.2 _ (List.mem_cons_of_mem _ tw_5)) (C.1.2.2.2.2 _ (List.mem_cons_of_mem _ tw_482)) ⟨by decide, by decide, by decide +kernel⟩ ⟨Nat.le_of_ble_eq_true rfl, Nat.le_of_ble_eq_true rfl⟩, C.1.2.2.2.2 _ (List.mem_cons_of_mem _ tw_483)⟩ (xs_if_eq C d_M_get_7 (by decide) (xs_ldc2 C d_M_get_40 (List.mem_cons_of_mem _ tw_537) (xs_lret C d_M_get_43 hr hlk rfl rfl)) (xs_aload_n C d_M_get_10 rfl (xs_get C (k := 17) d_M_get_11 h_M (ci := 5) rfl (by decide) (List.mem_cons_of_mem _ tw_438) rfl (xs_if_ne C d_M_get_14 (by decide) (xs_aload_n C d_M_get_17 rfl (xs_iload_n C d_M_get_18 rfl (xs_callV C (CN := "BlockVaultModel") (T := F_M) (N := 18) d_M_get_19 (met_M_isThere l D) ⟨callB_of (ws := w_M_isThere) (rm := rm_M_isThere) 1 C.1.2.2.2.2 (gG_m tw_488) rfl rfl rfl (C.1.2.2.2.2 _ (List.mem_cons_of_mem _ tw_5)) (C.1.2.2.2.2 _ (List.mem_cons_of_mem _ tw_485)) ⟨by decide, by decide, by decide +kernel⟩ ⟨Nat.le_of_ble_eq_true rfl, Nat.le_of_ble_eq_true rfl⟩, (C.1.2.2.2.2 _ (List.mem_cons_of_mem _ tw_487)), (C.1.2.2.2.2 _ (List.mem_cons_of_mem _ ts_33))⟩ (ci := 5) rfl (xs_if_eq C d_M_get_22 (by decide) (xs_ldc2 C d_M_get_40 (List.mem_cons_of_mem _ tw_537) (xs_lret C d_M_get_43 hr hlk rfl rfl)) (xs_aload_n C d_M_get_25 rfl (xs_get C (k := 2) d_M_get_26 h_M (ci := 5) rfl (by decide) (List.mem_cons_of_mem _ tw_423) rfl (xs_aload_n C d_M_get_29 rfl (xs_get C (k := 11) d_M_get_30 h_M (ci := 5) rfl (by decide) (List.mem_cons_of_mem _ tw_432) rfl (xs_iload_n C d_M_get_33 rfl (xs_iald C d_M_get_34 (xs_iald C d_M_get_35 (xs_i2l C d_M_get_36 (xs_goto C d_M_get_37 (by decide) (xs_lret C d_M_get_43 hr hlk rfl rfl)))))))))))))) (xs_ldc2 C d_M_get_40 (List.mem_cons_of_mem _ tw_537) (xs_lret C d_M_get_43 hr hlk rfl rfl))))))))))
theorem met_M_get (l : Launch) (D : va_G) : xm_Met l D classes ats y_M_get w_M_get rm_M_get 0 0 cp_M_get := by
  refine xm_met 0 (by decide) rfl rfl rfl (fun p e s mm args below meth c A Rh C hr hlk hnm lb => ?_)
  unfold fM_get
  split
  · rename_i h; subst h; exact sM_get_0 C hr hlk hnm
  · exact fun _ _ _ _ _ h => h.elim
theorem d_M_touch_0 : decode b_M_touch 0 = .ok (.iload_n 1, 1) := by decide +kernel
theorem d_M_touch_1 : decode b_M_touch 1 = .ok (.iconst 0, 1) := by decide +kernel
theorem d_M_touch_2 : decode b_M_touch 2 = .ok (.bipush 15, 2) := by decide +kernel
theorem d_M_touch_4 : decode b_M_touch 4 = .ok (.invokestatic 92, 3) := by decide +kernel
theorem d_M_touch_7 : decode b_M_touch 7 = .ok (.ifCond .eq 14, 3) := by decide +kernel
theorem d_M_touch_10 : decode b_M_touch 10 = .ok (.iload_n 2, 1) := by decide +kernel
theorem d_M_touch_11 : decode b_M_touch 11 = .ok (.iconst 0, 1) := by decide +kernel
theorem d_M_touch_12 : decode b_M_touch 12 = .ok (.sipush 1000, 3) := by decide +kernel
theorem d_M_touch_15 : decode b_M_touch 15 = .ok (.invokestatic 92, 3) := by decide +kernel
theorem d_M_touch_18 : decode b_M_touch 18 = .ok (.ifCond .ne 5, 3) := by decide +kernel
theorem d_M_touch_21 : decode b_M_touch 21 = .ok (.iconst (-1), 1) := by decide +kernel
theorem d_M_touch_22 : decode b_M_touch 22 = .ok (.ireturn, 1) := by decide +kernel
theorem d_M_touch_23 : decode b_M_touch 23 = .ok (.aload_n 0, 1) := by decide +kernel
theorem d_M_touch_24 : decode b_M_touch 24 = .ok (.getfield 96, 3) := by decide +kernel
theorem d_M_touch_27 : decode b_M_touch 27 = .ok (.ifCond .eq 6, 3) := by decide +kernel
theorem d_M_touch_30 : decode b_M_touch 30 = .ok (.bipush (-2), 2) := by decide +kernel
theorem d_M_touch_32 : decode b_M_touch 32 = .ok (.ireturn, 1) := by decide +kernel
theorem d_M_touch_33 : decode b_M_touch 33 = .ok (.aload_n 0, 1) := by decide +kernel
theorem d_M_touch_34 : decode b_M_touch 34 = .ok (.iload_n 1, 1) := by decide +kernel
theorem d_M_touch_35 : decode b_M_touch 35 = .ok (.invokevirtual 100, 3) := by decide +kernel
theorem d_M_touch_38 : decode b_M_touch 38 = .ok (.ifCond .ne 6, 3) := by decide +kernel
theorem d_M_touch_41 : decode b_M_touch 41 = .ok (.bipush (-4), 2) := by decide +kernel
theorem d_M_touch_43 : decode b_M_touch 43 = .ok (.ireturn, 1) := by decide +kernel
theorem d_M_touch_44 : decode b_M_touch 44 = .ok (.aload_n 0, 1) := by decide +kernel
theorem d_M_touch_45 : decode b_M_touch 45 = .ok (.getfield 44, 3) := by decide +kernel
theorem d_M_touch_48 : decode b_M_touch 48 = .ok (.iload_n 1, 1) := by decide +kernel
theorem d_M_touch_49 : decode b_M_touch 49 = .ok (.iaload, 1) := by decide +kernel
theorem d_M_touch_50 : decode b_M_touch 50 = .ok (.istore_n 3, 1) := by decide +kernel
theorem d_M_touch_51 : decode b_M_touch 51 = .ok (.aload_n 0, 1) := by decide +kernel
theorem d_M_touch_52 : decode b_M_touch 52 = .ok (.iload_n 1, 1) := by decide +kernel
theorem d_M_touch_53 : decode b_M_touch 53 = .ok (.aload_n 0, 1) := by decide +kernel
theorem d_M_touch_54 : decode b_M_touch 54 = .ok (.getfield 17, 3) := by decide +kernel
theorem d_M_touch_57 : decode b_M_touch 57 = .ok (.iload_n 3, 1) := by decide +kernel
theorem d_M_touch_58 : decode b_M_touch 58 = .ok (.iaload, 1) := by decide +kernel
theorem d_M_touch_59 : decode b_M_touch 59 = .ok (.aload_n 0, 1) := by decide +kernel
theorem d_M_touch_60 : decode b_M_touch 60 = .ok (.getfield 20, 3) := by decide +kernel
theorem d_M_touch_63 : decode b_M_touch 63 = .ok (.iload_n 3, 1) := by decide +kernel
theorem d_M_touch_64 : decode b_M_touch 64 = .ok (.iaload, 1) := by decide +kernel
theorem d_M_touch_65 : decode b_M_touch 65 = .ok (.aload_n 0, 1) := by decide +kernel
theorem d_M_touch_66 : decode b_M_touch 66 = .ok (.getfield 23, 3) := by decide +kernel
theorem d_M_touch_69 : decode b_M_touch 69 = .ok (.iload_n 3, 1) := by decide +kernel
theorem d_M_touch_70 : decode b_M_touch 70 = .ok (.iaload, 1) := by decide +kernel
theorem d_M_touch_71 : decode b_M_touch 71 = .ok (.iconst 1, 1) := by decide +kernel
theorem d_M_touch_72 : decode b_M_touch 72 = .ok (.iadd, 1) := by decide +kernel
theorem d_M_touch_73 : decode b_M_touch 73 = .ok (.iload_n 2, 1) := by decide +kernel
theorem d_M_touch_74 : decode b_M_touch 74 = .ok (.invokevirtual 103, 3) := by decide +kernel
theorem d_M_touch_77 : decode b_M_touch 77 = .ok (.ireturn, 1) := by decide +kernel
-- BlockVaultModel.touch(II)I: labels [0], loops []
abbrev rm_M_touch : Room := { frames := 5, cells := 0, slots := 0, locals := 114 }
def cM_touch_0 (X : Nat → xm_PT) (Rh : Option Value → xm_M → Prop) : xm_PT := (xo_iload 1 (xo_push (.int 0) (xo_push (.int (nI 15)) (xo_callS 3 0 0 cp_M_in (xo_if (fun x => x = 0) (xo_push (.int (-1)) (xo_iret Rh)) (xo_iload 2 (xo_push (.int 0) (xo_push (.int (nI 1000)) (xo_callS 3 0 0 cp_M_in (xo_if (fun x => x = 0) (xo_push (.int (-1)) (xo_iret Rh)) (xo_aload 0 (xo_get 5 17 (xo_if (fun x => x = 0) (xo_aload 0 (xo_iload 1 (xo_callV 5 1 0 0 cp_M_isThere (xo_if (fun x => x = 0) (xo_push (.int (-4)) (xo_iret Rh)) (xo_aload 0 (xo_get 5 11 (xo_iload 1 (xo_iald ats (xo_istore 3 (xo_aload 0 (xo_iload 1 (xo_aload 0 (xo_get 5 2 (xo_iload 3 (xo_iald ats (xo_aload 0 (xo_get 5 3 (xo_iload 3 (xo_iald ats (xo_aload 0 (xo_get 5 4 (xo_iload 3 (xo_iald ats (xo_push (.int 1) (xo_ibin (fun x y => x + y) (xo_iload 2 (xo_callV 5 5 0 0 cp_M_writeRecord (xo_iret Rh)))))))))))))))))))))))))))) (xo_push (.int (-2)) (xo_iret Rh)))))))))))))))
def fM_touch : xm_F := fun X Rh lb => if lb = 0 then cM_touch_0 X Rh else fun _ _ _ _ _ => False
def cp_M_touch : xm_CP := fun as m Rh => (lg_sl as).length ≤ 4 ∧ xm_cp fM_touch 0 0 as m Rh
theorem eM_touch_0 {X : Nat → xm_PT} {Rh : Option Value → xm_M → Prop} (hX : ∀ lb, xm_le (fM_touch X Rh lb) (X lb)) {ls : xm_L} {st : List Value} {m : xm_M} {bc bs : Nat} (h : cM_touch_0 X Rh ls st m bc bs) : X 0 ls st m bc bs := hX 0 ls st m bc bs h
set_option maxRecDepth 20000 in
set_option maxHeartbeats 4000000 in
theorem sM_touch_0 {p : Program} {l : Launch} {e : Env} {s : State} {mm : MethodId} {args : Array Value} {below : List Frame} {meth : Method} {c : Code} {D : va_G} {A : Nat → Prop} {Rh : Option Value → xm_M → Prop} (C : xm_C p s mm args c b_M_touch 4 "BlockVaultModel" w_M_touch D classes ats A) (hr : meth.sig.returnType = (some .int)) (hlk : meth.locks = false) (hnm : meth.name = "touch") : xm_le (cM_touch_0 (xm_A p l e rm_M_touch s mm args below meth c 4 D classes A (MQ below (xm_Q D classes Rh A) args s 0 0 A)) Rh) ((xm_A p l e rm_M_touch s mm args below meth c 4 D classes A (MQ below (xm_Q D classes Rh A) args s 0 0 A)) 0) :=
  (xs_iload_n C d_M_touch_0 rfl (xs_iconst C d_M_touch_1 (by decide) (xs_bipush C d_M_touch_2 (by decide) (xs_callS C d_M_touch_4 (met_M_in l D) ⟨callB_of (ws := w_M_in) (rm := rm_M_in) 3 C.1.2.2.2.2 (gG_m tw_484) rfl rfl rfl (C.1.2.2.2.2 _ (List.mem_cons_of_mem _ tw_5)) (C.1.2.2.2.2 _ (List.mem_cons_of_mem _ tw_482)) ⟨by decide, by decide, by decide +kernel⟩ ⟨Nat.le_of_ble_eq_true rfl, Nat.le_of_ble_eq_true rfl⟩, C.1.2.2.2.2 _ (List.mem_cons_of_mem _ tw_483)⟩ (xs_if_eq C d_M_touch_7 (by decide) (xs_iconst C d_M_touch_21 (by decide) (xs_iret C d_M_touch_22 hr hlk rfl rfl)) (xs_iload_n C d_M_touch_10 rfl (xs_iconst C d_M_touch_11 (by decide) (xs_sipush C d_M_touch_12 (by decide) (xs_callS C d_M_touch_15 (met_M_in l D) ⟨callB_of (ws := w_M_in) (rm := rm_M_in) 3 C.1.2.2.2.2 (gG_m tw_484) rfl rfl rfl (C.1.2.2.2.2 _ (List.mem_cons_of_mem _ tw_5)) (C.1.2.2.2.2 _ (List.mem_cons_of_mem _ tw_482)) ⟨by decide, by decide, by decide +kernel⟩ ⟨Nat.le_of_ble_eq_true rfl, Nat.le_of_ble_eq_true rfl⟩, C.1.2.2.2.2 _ (List.mem_cons_of_mem _ tw_483)⟩ (xs_if_ne C d_M_touch_18 (by decide) (xs_iconst C d_M_touch_21 (by decide) (xs_iret C d_M_touch_22 hr hlk rfl rfl)) (xs_aload_n C d_M_touch_23 rfl (xs_get C (k := 17) d_M_touch_24 h_M (ci := 5) rfl (by decide) (List.mem_cons_of_mem _ tw_438) rfl (xs_if_eq C d_M_touch_27 (by decide) (xs_aload_n C d_M_touch_33 rfl (xs_iload_n C d_M_touch_34 rfl (xs_callV C (CN := "BlockVaultModel") (T := F_M) (N := 18) d_M_touch_35 (met_M_isThere l D) ⟨callB_of (ws := w_M_isThere) (rm := rm_M_isThere) 1 C.1.2.2.2.2 (gG_m tw_488) rfl rfl rfl (C.1.2.2.2.2 _ (List.mem_cons_of_mem _ tw_5)) (C.1.2.2.2.2 _ (List.mem_cons_of_mem _ tw_485)) ⟨by decide, by decide, by decide +kernel⟩ ⟨Nat.le_of_ble_eq_true rfl, Nat.le_of_ble_eq_true rfl⟩, (C.1.2.2.2.2 _ (List.mem_cons_of_mem _ tw_487)), (C.1.2.2.2.2 _ (List.mem_cons_of_mem _ ts_33))⟩ (ci := 5) rfl (xs_if_ne C d_M_touch_38 (by decide) (xs_bipush C d_M_touch_41 (by decide) (xs_iret C d_M_touch_43 hr hlk rfl rfl)) (xs_aload_n C d_M_touch_44 rfl (xs_get C (k := 11) d_M_touch_45 h_M (ci := 5) rfl (by decide) (List.mem_cons_of_mem _ tw_432) rfl (xs_iload_n C d_M_touch_48 rfl (xs_iald C d_M_touch_49 (xs_istore_n C d_M_touch_50 rfl (by decide) (xs_aload_n C d_M_touch_51 rfl (xs_iload_n C d_M_touch_52 rfl (xs_aload_n C d_M_touch_53 rfl (xs_get C (k := 2) d_M_touch_54 h_M (ci := 5) rfl (by decide) (List.mem_cons_of_mem _ tw_423) rfl (xs_iload_n C d_M_touch_57 rfl (xs_iald C d_M_touch_58 (xs_aload_n C d_M_touch_59 rfl (xs_get C (k := 3) d_M_touch_60 h_M (ci := 5) rfl (by decide) (List.mem_cons_of_mem _ tw_424) rfl (xs_iload_n C d_M_touch_63 rfl (xs_iald C d_M_touch_64 (xs_aload_n C d_M_touch_65 rfl (xs_get C (k := 4) d_M_touch_66 h_M (ci := 5) rfl (by decide) (List.mem_cons_of_mem _ tw_425) rfl (xs_iload_n C d_M_touch_69 rfl (xs_iald C d_M_touch_70 (xs_iconst C d_M_touch_71 (by decide) (xs_iadd C d_M_touch_72 (xs_iload_n C d_M_touch_73 rfl (xs_callV C (CN := "BlockVaultModel") (T := F_M) (N := 18) d_M_touch_74 (met_M_writeRecord l D) ⟨callB_of (ws := w_M_writeRecord) (rm := rm_M_writeRecord) 5 C.1.2.2.2.2 (gG_m tw_496) rfl rfl rfl (C.1.2.2.2.2 _ (List.mem_cons_of_mem _ tw_5)) (C.1.2.2.2.2 _ (List.mem_cons_of_mem _ tw_493)) ⟨by decide, by decide, by decide +kernel⟩ ⟨Nat.le_of_ble_eq_true rfl, Nat.le_of_ble_eq_true rfl⟩, (C.1.2.2.2.2 _ (List.mem_cons_of_mem _ tw_495)), (C.1.2.2.2.2 _ (List.mem_cons_of_mem _ ts_35))⟩ (ci := 5) rfl (xs_iret C d_M_touch_77 hr hlk rfl rfl)))))))))))))))))))))))))))) (xs_bipush C d_M_touch_30 (by decide) (xs_iret C d_M_touch_32 hr hlk rfl rfl)))))))))))))))
theorem met_M_touch (l : Launch) (D : va_G) : xm_Met l D classes ats y_M_touch w_M_touch rm_M_touch 0 0 cp_M_touch := by
  refine xm_met 0 (by decide) rfl rfl rfl (fun p e s mm args below meth c A Rh C hr hlk hnm lb => ?_)
  unfold fM_touch
  split
  · rename_i h; subst h; exact sM_touch_0 C hr hlk hnm
  · exact fun _ _ _ _ _ h => h.elim
theorem d_M_writeTombstone_0 : decode b_M_writeTombstone 0 = .ok (.aload_n 0, 1) := by decide +kernel
theorem d_M_writeTombstone_1 : decode b_M_writeTombstone 1 = .ok (.getfield 7, 3) := by decide +kernel
theorem d_M_writeTombstone_4 : decode b_M_writeTombstone 4 = .ok (.sipush 192, 3) := by decide +kernel
theorem d_M_writeTombstone_7 : decode b_M_writeTombstone 7 = .ok (.iconst 1, 1) := by decide +kernel
theorem d_M_writeTombstone_8 : decode b_M_writeTombstone 8 = .ok (.bastore, 1) := by decide +kernel
theorem d_M_writeTombstone_9 : decode b_M_writeTombstone 9 = .ok (.aload_n 0, 1) := by decide +kernel
theorem d_M_writeTombstone_10 : decode b_M_writeTombstone 10 = .ok (.getfield 13, 3) := by decide +kernel
theorem d_M_writeTombstone_13 : decode b_M_writeTombstone 13 = .ok (.sipush 192, 3) := by decide +kernel
theorem d_M_writeTombstone_16 : decode b_M_writeTombstone 16 = .ok (.iload_n 1, 1) := by decide +kernel
theorem d_M_writeTombstone_17 : decode b_M_writeTombstone 17 = .ok (.iastore, 1) := by decide +kernel
theorem d_M_writeTombstone_18 : decode b_M_writeTombstone 18 = .ok (.aload_n 0, 1) := by decide +kernel
theorem d_M_writeTombstone_19 : decode b_M_writeTombstone 19 = .ok (.getfield 17, 3) := by decide +kernel
theorem d_M_writeTombstone_22 : decode b_M_writeTombstone 22 = .ok (.sipush 192, 3) := by decide +kernel
theorem d_M_writeTombstone_25 : decode b_M_writeTombstone 25 = .ok (.iconst 0, 1) := by decide +kernel
theorem d_M_writeTombstone_26 : decode b_M_writeTombstone 26 = .ok (.iastore, 1) := by decide +kernel
theorem d_M_writeTombstone_27 : decode b_M_writeTombstone 27 = .ok (.aload_n 0, 1) := by decide +kernel
theorem d_M_writeTombstone_28 : decode b_M_writeTombstone 28 = .ok (.getfield 20, 3) := by decide +kernel
theorem d_M_writeTombstone_31 : decode b_M_writeTombstone 31 = .ok (.sipush 192, 3) := by decide +kernel
theorem d_M_writeTombstone_34 : decode b_M_writeTombstone 34 = .ok (.iconst 1, 1) := by decide +kernel
theorem d_M_writeTombstone_35 : decode b_M_writeTombstone 35 = .ok (.iastore, 1) := by decide +kernel
theorem d_M_writeTombstone_36 : decode b_M_writeTombstone 36 = .ok (.aload_n 0, 1) := by decide +kernel
theorem d_M_writeTombstone_37 : decode b_M_writeTombstone 37 = .ok (.getfield 23, 3) := by decide +kernel
theorem d_M_writeTombstone_40 : decode b_M_writeTombstone 40 = .ok (.sipush 192, 3) := by decide +kernel
theorem d_M_writeTombstone_43 : decode b_M_writeTombstone 43 = .ok (.iconst 0, 1) := by decide +kernel
theorem d_M_writeTombstone_44 : decode b_M_writeTombstone 44 = .ok (.iastore, 1) := by decide +kernel
theorem d_M_writeTombstone_45 : decode b_M_writeTombstone 45 = .ok (.aload_n 0, 1) := by decide +kernel
theorem d_M_writeTombstone_46 : decode b_M_writeTombstone 46 = .ok (.getfield 26, 3) := by decide +kernel
theorem d_M_writeTombstone_49 : decode b_M_writeTombstone 49 = .ok (.sipush 192, 3) := by decide +kernel
theorem d_M_writeTombstone_52 : decode b_M_writeTombstone 52 = .ok (.iconst 0, 1) := by decide +kernel
theorem d_M_writeTombstone_53 : decode b_M_writeTombstone 53 = .ok (.iastore, 1) := by decide +kernel
theorem d_M_writeTombstone_54 : decode b_M_writeTombstone 54 = .ok (.aload_n 0, 1) := by decide +kernel
theorem d_M_writeTombstone_55 : decode b_M_writeTombstone 55 = .ok (.invokevirtual 89, 3) := by decide +kernel
theorem d_M_writeTombstone_58 : decode b_M_writeTombstone 58 = .ok (.istore_n 2, 1) := by decide +kernel
theorem d_M_writeTombstone_59 : decode b_M_writeTombstone 59 = .ok (.iload_n 2, 1) := by decide +kernel
theorem d_M_writeTombstone_60 : decode b_M_writeTombstone 60 = .ok (.ifCond .ge 7, 3) := by decide +kernel
theorem d_M_writeTombstone_63 : decode b_M_writeTombstone 63 = .ok (.iload_n 2, 1) := by decide +kernel
theorem d_M_writeTombstone_64 : decode b_M_writeTombstone 64 = .ok (.goto 4, 3) := by decide +kernel
theorem d_M_writeTombstone_67 : decode b_M_writeTombstone 67 = .ok (.iconst 1, 1) := by decide +kernel
theorem d_M_writeTombstone_68 : decode b_M_writeTombstone 68 = .ok (.ireturn, 1) := by decide +kernel
-- BlockVaultModel.writeTombstone(I)I: labels [0], loops []
abbrev rm_M_writeTombstone : Room := { frames := 4, cells := 0, slots := 0, locals := 88 }
def cM_writeTombstone_0 (X : Nat → xm_PT) (Rh : Option Value → xm_M → Prop) : xm_PT := (xo_aload 0 (xo_get 5 0 (xo_push (.int (nI 192)) (xo_push (.int 1) (xo_zast ats (xo_aload 0 (xo_get 5 1 (xo_push (.int (nI 192)) (xo_iload 1 (xo_iast ats (xo_aload 0 (xo_get 5 2 (xo_push (.int (nI 192)) (xo_push (.int 0) (xo_iast ats (xo_aload 0 (xo_get 5 3 (xo_push (.int (nI 192)) (xo_push (.int 1) (xo_iast ats (xo_aload 0 (xo_get 5 4 (xo_push (.int (nI 192)) (xo_push (.int 0) (xo_iast ats (xo_aload 0 (xo_get 5 5 (xo_push (.int (nI 192)) (xo_push (.int 0) (xo_iast ats (xo_aload 0 (xo_callV 5 0 0 0 cp_M_write (xo_istore 2 (xo_iload 2 (xo_if (fun x => 0 ≤ x) (xo_push (.int 1) (xo_iret Rh)) (xo_iload 2 (xo_iret Rh)))))))))))))))))))))))))))))))))))))
def fM_writeTombstone : xm_F := fun X Rh lb => if lb = 0 then cM_writeTombstone_0 X Rh else fun _ _ _ _ _ => False
def cp_M_writeTombstone : xm_CP := fun as m Rh => (lg_sl as).length ≤ 3 ∧ xm_cp fM_writeTombstone 0 0 as m Rh
theorem eM_writeTombstone_0 {X : Nat → xm_PT} {Rh : Option Value → xm_M → Prop} (hX : ∀ lb, xm_le (fM_writeTombstone X Rh lb) (X lb)) {ls : xm_L} {st : List Value} {m : xm_M} {bc bs : Nat} (h : cM_writeTombstone_0 X Rh ls st m bc bs) : X 0 ls st m bc bs := hX 0 ls st m bc bs h
set_option maxRecDepth 20000 in
set_option maxHeartbeats 4000000 in
theorem sM_writeTombstone_0 {p : Program} {l : Launch} {e : Env} {s : State} {mm : MethodId} {args : Array Value} {below : List Frame} {meth : Method} {c : Code} {D : va_G} {A : Nat → Prop} {Rh : Option Value → xm_M → Prop} (C : xm_C p s mm args c b_M_writeTombstone 3 "BlockVaultModel" w_M_writeTombstone D classes ats A) (hr : meth.sig.returnType = (some .int)) (hlk : meth.locks = false) (hnm : meth.name = "writeTombstone") : xm_le (cM_writeTombstone_0 (xm_A p l e rm_M_writeTombstone s mm args below meth c 3 D classes A (MQ below (xm_Q D classes Rh A) args s 0 0 A)) Rh) ((xm_A p l e rm_M_writeTombstone s mm args below meth c 3 D classes A (MQ below (xm_Q D classes Rh A) args s 0 0 A)) 0) :=
  (xs_aload_n C d_M_writeTombstone_0 rfl (xs_get C (k := 0) d_M_writeTombstone_1 h_M (ci := 5) rfl (by decide) (List.mem_cons_of_mem _ tw_421) rfl (xs_sipush C d_M_writeTombstone_4 (by decide) (xs_iconst C d_M_writeTombstone_7 (by decide) (xs_zast C d_M_writeTombstone_8 (xs_aload_n C d_M_writeTombstone_9 rfl (xs_get C (k := 1) d_M_writeTombstone_10 h_M (ci := 5) rfl (by decide) (List.mem_cons_of_mem _ tw_422) rfl (xs_sipush C d_M_writeTombstone_13 (by decide) (xs_iload_n C d_M_writeTombstone_16 rfl (xs_iast C d_M_writeTombstone_17 (xs_aload_n C d_M_writeTombstone_18 rfl (xs_get C (k := 2) d_M_writeTombstone_19 h_M (ci := 5) rfl (by decide) (List.mem_cons_of_mem _ tw_423) rfl (xs_sipush C d_M_writeTombstone_22 (by decide) (xs_iconst C d_M_writeTombstone_25 (by decide) (xs_iast C d_M_writeTombstone_26 (xs_aload_n C d_M_writeTombstone_27 rfl (xs_get C (k := 3) d_M_writeTombstone_28 h_M (ci := 5) rfl (by decide) (List.mem_cons_of_mem _ tw_424) rfl (xs_sipush C d_M_writeTombstone_31 (by decide) (xs_iconst C d_M_writeTombstone_34 (by decide) (xs_iast C d_M_writeTombstone_35 (xs_aload_n C d_M_writeTombstone_36 rfl (xs_get C (k := 4) d_M_writeTombstone_37 h_M (ci := 5) rfl (by decide) (List.mem_cons_of_mem _ tw_425) rfl (xs_sipush C d_M_writeTombstone_40 (by decide) (xs_iconst C d_M_writeTombstone_43 (by decide) (xs_iast C d_M_writeTombstone_44 (xs_aload_n C d_M_writeTombstone_45 rfl (xs_get C (k := 5) d_M_writeTombstone_46 h_M (ci := 5) rfl (by decide) (List.mem_cons_of_mem _ tw_426) rfl (xs_sipush C d_M_writeTombstone_49 (by decide) (xs_iconst C d_M_writeTombstone_52 (by decide) (xs_iast C d_M_writeTombstone_53 (xs_aload_n C d_M_writeTombstone_54 rfl (xs_callV C (CN := "BlockVaultModel") (T := F_M) (N := 18) d_M_writeTombstone_55 (met_M_write l D) ⟨callB_of (ws := w_M_write) (rm := rm_M_write) 0 C.1.2.2.2.2 (gG_m tw_500) rfl rfl rfl (C.1.2.2.2.2 _ (List.mem_cons_of_mem _ tw_5)) (C.1.2.2.2.2 _ (List.mem_cons_of_mem _ tw_497)) ⟨by decide, by decide, by decide +kernel⟩ ⟨Nat.le_of_ble_eq_true rfl, Nat.le_of_ble_eq_true rfl⟩, (C.1.2.2.2.2 _ (List.mem_cons_of_mem _ tw_499)), (C.1.2.2.2.2 _ (List.mem_cons_of_mem _ ts_36))⟩ (ci := 5) rfl (xs_istore_n C d_M_writeTombstone_58 rfl (by decide) (xs_iload_n C d_M_writeTombstone_59 rfl (xs_if_ge C d_M_writeTombstone_60 (by decide) (xs_iconst C d_M_writeTombstone_67 (by decide) (xs_iret C d_M_writeTombstone_68 hr hlk rfl rfl)) (xs_iload_n C d_M_writeTombstone_63 rfl (xs_goto C d_M_writeTombstone_64 (by decide) (xs_iret C d_M_writeTombstone_68 hr hlk rfl rfl))))))))))))))))))))))))))))))))))))))
theorem met_M_writeTombstone (l : Launch) (D : va_G) : xm_Met l D classes ats y_M_writeTombstone w_M_writeTombstone rm_M_writeTombstone 0 0 cp_M_writeTombstone := by
  refine xm_met 0 (by decide) rfl rfl rfl (fun p e s mm args below meth c A Rh C hr hlk hnm lb => ?_)
  unfold fM_writeTombstone
  split
  · rename_i h; subst h; exact sM_writeTombstone_0 C hr hlk hnm
  · exact fun _ _ _ _ _ h => h.elim
theorem d_M_remove_0 : decode b_M_remove 0 = .ok (.iload_n 1, 1) := by decide +kernel
theorem d_M_remove_1 : decode b_M_remove 1 = .ok (.iconst 0, 1) := by decide +kernel
theorem d_M_remove_2 : decode b_M_remove 2 = .ok (.bipush 15, 2) := by decide +kernel
theorem d_M_remove_4 : decode b_M_remove 4 = .ok (.invokestatic 92, 3) := by decide +kernel
theorem d_M_remove_7 : decode b_M_remove 7 = .ok (.ifCond .ne 5, 3) := by decide +kernel
theorem d_M_remove_10 : decode b_M_remove 10 = .ok (.iconst (-1), 1) := by decide +kernel
theorem d_M_remove_11 : decode b_M_remove 11 = .ok (.ireturn, 1) := by decide +kernel
theorem d_M_remove_12 : decode b_M_remove 12 = .ok (.aload_n 0, 1) := by decide +kernel
theorem d_M_remove_13 : decode b_M_remove 13 = .ok (.getfield 96, 3) := by decide +kernel
theorem d_M_remove_16 : decode b_M_remove 16 = .ok (.ifCond .eq 6, 3) := by decide +kernel
theorem d_M_remove_19 : decode b_M_remove 19 = .ok (.bipush (-2), 2) := by decide +kernel
theorem d_M_remove_21 : decode b_M_remove 21 = .ok (.ireturn, 1) := by decide +kernel
theorem d_M_remove_22 : decode b_M_remove 22 = .ok (.aload_n 0, 1) := by decide +kernel
theorem d_M_remove_23 : decode b_M_remove 23 = .ok (.iload_n 1, 1) := by decide +kernel
theorem d_M_remove_24 : decode b_M_remove 24 = .ok (.invokevirtual 100, 3) := by decide +kernel
theorem d_M_remove_27 : decode b_M_remove 27 = .ok (.ifCond .ne 6, 3) := by decide +kernel
theorem d_M_remove_30 : decode b_M_remove 30 = .ok (.bipush (-4), 2) := by decide +kernel
theorem d_M_remove_32 : decode b_M_remove 32 = .ok (.ireturn, 1) := by decide +kernel
theorem d_M_remove_33 : decode b_M_remove 33 = .ok (.iload_n 2, 1) := by decide +kernel
theorem d_M_remove_34 : decode b_M_remove 34 = .ok (.ifCond .eq 9, 3) := by decide +kernel
theorem d_M_remove_37 : decode b_M_remove 37 = .ok (.aload_n 0, 1) := by decide +kernel
theorem d_M_remove_38 : decode b_M_remove 38 = .ok (.iload_n 1, 1) := by decide +kernel
theorem d_M_remove_39 : decode b_M_remove 39 = .ok (.invokevirtual 109, 3) := by decide +kernel
theorem d_M_remove_42 : decode b_M_remove 42 = .ok (.ireturn, 1) := by decide +kernel
theorem d_M_remove_43 : decode b_M_remove 43 = .ok (.aload_n 0, 1) := by decide +kernel
theorem d_M_remove_44 : decode b_M_remove 44 = .ok (.getfield 44, 3) := by decide +kernel
theorem d_M_remove_47 : decode b_M_remove 47 = .ok (.iload_n 1, 1) := by decide +kernel
theorem d_M_remove_48 : decode b_M_remove 48 = .ok (.iconst (-1), 1) := by decide +kernel
theorem d_M_remove_49 : decode b_M_remove 49 = .ok (.iastore, 1) := by decide +kernel
theorem d_M_remove_50 : decode b_M_remove 50 = .ok (.aload_n 0, 1) := by decide +kernel
theorem d_M_remove_51 : decode b_M_remove 51 = .ok (.invokevirtual 83, 3) := by decide +kernel
theorem d_M_remove_54 : decode b_M_remove 54 = .ok (.iconst 1, 1) := by decide +kernel
theorem d_M_remove_55 : decode b_M_remove 55 = .ok (.ireturn, 1) := by decide +kernel
-- BlockVaultModel.remove(IZ)I: labels [0], loops []
abbrev rm_M_remove : Room := { frames := 5, cells := 0, slots := 0, locals := 110 }
def cM_remove_0 (X : Nat → xm_PT) (Rh : Option Value → xm_M → Prop) : xm_PT := (xo_iload 1 (xo_push (.int 0) (xo_push (.int (nI 15)) (xo_callS 3 0 0 cp_M_in (xo_if (fun x => x = 0) (xo_push (.int (-1)) (xo_iret Rh)) (xo_aload 0 (xo_get 5 17 (xo_if (fun x => x = 0) (xo_aload 0 (xo_iload 1 (xo_callV 5 1 0 0 cp_M_isThere (xo_if (fun x => x = 0) (xo_push (.int (-4)) (xo_iret Rh)) (xo_iload 2 (xo_if (fun x => x = 0) (xo_aload 0 (xo_get 5 11 (xo_iload 1 (xo_push (.int (-1)) (xo_iast ats (xo_aload 0 (xo_callV 5 0 0 0 cp_M_settle (xo_push (.int 1) (xo_iret Rh))))))))) (xo_aload 0 (xo_iload 1 (xo_callV 5 1 0 0 cp_M_writeTombstone (xo_iret Rh)))))))))) (xo_push (.int (-2)) (xo_iret Rh))))))))))
def fM_remove : xm_F := fun X Rh lb => if lb = 0 then cM_remove_0 X Rh else fun _ _ _ _ _ => False
def cp_M_remove : xm_CP := fun as m Rh => (lg_sl as).length ≤ 3 ∧ xm_cp fM_remove 0 0 as m Rh
theorem eM_remove_0 {X : Nat → xm_PT} {Rh : Option Value → xm_M → Prop} (hX : ∀ lb, xm_le (fM_remove X Rh lb) (X lb)) {ls : xm_L} {st : List Value} {m : xm_M} {bc bs : Nat} (h : cM_remove_0 X Rh ls st m bc bs) : X 0 ls st m bc bs := hX 0 ls st m bc bs h
set_option maxRecDepth 20000 in
set_option maxHeartbeats 4000000 in
theorem sM_remove_0 {p : Program} {l : Launch} {e : Env} {s : State} {mm : MethodId} {args : Array Value} {below : List Frame} {meth : Method} {c : Code} {D : va_G} {A : Nat → Prop} {Rh : Option Value → xm_M → Prop} (C : xm_C p s mm args c b_M_remove 3 "BlockVaultModel" w_M_remove D classes ats A) (hr : meth.sig.returnType = (some .int)) (hlk : meth.locks = false) (hnm : meth.name = "remove") : xm_le (cM_remove_0 (xm_A p l e rm_M_remove s mm args below meth c 3 D classes A (MQ below (xm_Q D classes Rh A) args s 0 0 A)) Rh) ((xm_A p l e rm_M_remove s mm args below meth c 3 D classes A (MQ below (xm_Q D classes Rh A) args s 0 0 A)) 0) :=
  (xs_iload_n C d_M_remove_0 rfl (xs_iconst C d_M_remove_1 (by decide) (xs_bipush C d_M_remove_2 (by decide) (xs_callS C d_M_remove_4 (met_M_in l D) ⟨callB_of (ws := w_M_in) (rm := rm_M_in) 3 C.1.2.2.2.2 (gG_m tw_484) rfl rfl rfl (C.1.2.2.2.2 _ (List.mem_cons_of_mem _ tw_5)) (C.1.2.2.2.2 _ (List.mem_cons_of_mem _ tw_482)) ⟨by decide, by decide, by decide +kernel⟩ ⟨Nat.le_of_ble_eq_true rfl, Nat.le_of_ble_eq_true rfl⟩, C.1.2.2.2.2 _ (List.mem_cons_of_mem _ tw_483)⟩ (xs_if_ne C d_M_remove_7 (by decide) (xs_iconst C d_M_remove_10 (by decide) (xs_iret C d_M_remove_11 hr hlk rfl rfl)) (xs_aload_n C d_M_remove_12 rfl (xs_get C (k := 17) d_M_remove_13 h_M (ci := 5) rfl (by decide) (List.mem_cons_of_mem _ tw_438) rfl (xs_if_eq C d_M_remove_16 (by decide) (xs_aload_n C d_M_remove_22 rfl (xs_iload_n C d_M_remove_23 rfl (xs_callV C (CN := "BlockVaultModel") (T := F_M) (N := 18) d_M_remove_24 (met_M_isThere l D) ⟨callB_of (ws := w_M_isThere) (rm := rm_M_isThere) 1 C.1.2.2.2.2 (gG_m tw_488) rfl rfl rfl (C.1.2.2.2.2 _ (List.mem_cons_of_mem _ tw_5)) (C.1.2.2.2.2 _ (List.mem_cons_of_mem _ tw_485)) ⟨by decide, by decide, by decide +kernel⟩ ⟨Nat.le_of_ble_eq_true rfl, Nat.le_of_ble_eq_true rfl⟩, (C.1.2.2.2.2 _ (List.mem_cons_of_mem _ tw_487)), (C.1.2.2.2.2 _ (List.mem_cons_of_mem _ ts_33))⟩ (ci := 5) rfl (xs_if_ne C d_M_remove_27 (by decide) (xs_bipush C d_M_remove_30 (by decide) (xs_iret C d_M_remove_32 hr hlk rfl rfl)) (xs_iload_n C d_M_remove_33 rfl (xs_if_eq C d_M_remove_34 (by decide) (xs_aload_n C d_M_remove_43 rfl (xs_get C (k := 11) d_M_remove_44 h_M (ci := 5) rfl (by decide) (List.mem_cons_of_mem _ tw_432) rfl (xs_iload_n C d_M_remove_47 rfl (xs_iconst C d_M_remove_48 (by decide) (xs_iast C d_M_remove_49 (xs_aload_n C d_M_remove_50 rfl (xs_callV C (CN := "BlockVaultModel") (T := F_M) (N := 18) d_M_remove_51 (met_M_settle l D) ⟨callB_of (ws := w_M_settle) (rm := rm_M_settle) 0 C.1.2.2.2.2 (gG_m tw_528) rfl rfl rfl (C.1.2.2.2.2 _ (List.mem_cons_of_mem _ tw_5)) (C.1.2.2.2.2 _ (List.mem_cons_of_mem _ tw_525)) ⟨by decide, by decide, by decide +kernel⟩ ⟨Nat.le_of_ble_eq_true rfl, Nat.le_of_ble_eq_true rfl⟩, (C.1.2.2.2.2 _ (List.mem_cons_of_mem _ tw_527)), (C.1.2.2.2.2 _ (List.mem_cons_of_mem _ ts_43))⟩ (ci := 5) rfl (xs_iconst C d_M_remove_54 (by decide) (xs_iret C d_M_remove_55 hr hlk rfl rfl))))))))) (xs_aload_n C d_M_remove_37 rfl (xs_iload_n C d_M_remove_38 rfl (xs_callV C (CN := "BlockVaultModel") (T := F_M) (N := 18) d_M_remove_39 (met_M_writeTombstone l D) ⟨callB_of (ws := w_M_writeTombstone) (rm := rm_M_writeTombstone) 1 C.1.2.2.2.2 (gG_m tw_549) rfl rfl rfl (C.1.2.2.2.2 _ (List.mem_cons_of_mem _ tw_5)) (C.1.2.2.2.2 _ (List.mem_cons_of_mem _ tw_546)) ⟨by decide, by decide, by decide +kernel⟩ ⟨Nat.le_of_ble_eq_true rfl, Nat.le_of_ble_eq_true rfl⟩, (C.1.2.2.2.2 _ (List.mem_cons_of_mem _ tw_548)), (C.1.2.2.2.2 _ (List.mem_cons_of_mem _ ts_45))⟩ (ci := 5) rfl (xs_iret C d_M_remove_42 hr hlk rfl rfl)))))))))) (xs_bipush C d_M_remove_19 (by decide) (xs_iret C d_M_remove_21 hr hlk rfl rfl))))))))))
theorem met_M_remove (l : Launch) (D : va_G) : xm_Met l D classes ats y_M_remove w_M_remove rm_M_remove 0 0 cp_M_remove := by
  refine xm_met 0 (by decide) rfl rfl rfl (fun p e s mm args below meth c A Rh C hr hlk hnm lb => ?_)
  unfold fM_remove
  split
  · rename_i h; subst h; exact sM_remove_0 C hr hlk hnm
  · exact fun _ _ _ _ _ h => h.elim
