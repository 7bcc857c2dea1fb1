theorem d_M_evict_0 : decode b_M_evict 0 = .ok (.iload_n 1, 1) := by decide +kernel
theorem d_M_evict_1 : decode b_M_evict 1 = .ok (.iconst 1, 1) := by decide +kernel
theorem d_M_evict_2 : decode b_M_evict 2 = .ok (.bipush 16, 2) := by decide +kernel
theorem d_M_evict_4 : decode b_M_evict 4 = .ok (.invokestatic 92, 3) := by decide +kernel
theorem d_M_evict_7 : decode b_M_evict 7 = .ok (.ifCond .ne 5, 3) := by decide +kernel
theorem d_M_evict_10 : decode b_M_evict 10 = .ok (.iconst (-1), 1) := by decide +kernel
theorem d_M_evict_11 : decode b_M_evict 11 = .ok (.ireturn, 1) := by decide +kernel
theorem d_M_evict_12 : decode b_M_evict 12 = .ok (.aload_n 0, 1) := by decide +kernel
theorem d_M_evict_13 : decode b_M_evict 13 = .ok (.getfield 96, 3) := by decide +kernel
theorem d_M_evict_16 : decode b_M_evict 16 = .ok (.ifCond .eq 6, 3) := by decide +kernel
theorem d_M_evict_19 : decode b_M_evict 19 = .ok (.bipush (-2), 2) := by decide +kernel
theorem d_M_evict_21 : decode b_M_evict 21 = .ok (.ireturn, 1) := by decide +kernel
theorem d_M_evict_22 : decode b_M_evict 22 = .ok (.iconst 0, 1) := by decide +kernel
theorem d_M_evict_23 : decode b_M_evict 23 = .ok (.istore_n 2, 1) := by decide +kernel
theorem d_M_evict_24 : decode b_M_evict 24 = .ok (.iload_n 2, 1) := by decide +kernel
theorem d_M_evict_25 : decode b_M_evict 25 = .ok (.iload_n 1, 1) := by decide +kernel
theorem d_M_evict_26 : decode b_M_evict 26 = .ok (.if_icmp .ge 98, 3) := by decide +kernel
theorem d_M_evict_29 : decode b_M_evict 29 = .ok (.iconst (-1), 1) := by decide +kernel
theorem d_M_evict_30 : decode b_M_evict 30 = .ok (.istore_n 3, 1) := by decide +kernel
theorem d_M_evict_31 : decode b_M_evict 31 = .ok (.iconst 0, 1) := by decide +kernel
theorem d_M_evict_32 : decode b_M_evict 32 = .ok (.istore 4, 2) := by decide +kernel
theorem d_M_evict_34 : decode b_M_evict 34 = .ok (.iload 4, 2) := by decide +kernel
theorem d_M_evict_36 : decode b_M_evict 36 = .ok (.bipush 16, 2) := by decide +kernel
theorem d_M_evict_38 : decode b_M_evict 38 = .ok (.if_icmp .ge 66, 3) := by decide +kernel
theorem d_M_evict_41 : decode b_M_evict 41 = .ok (.aload_n 0, 1) := by decide +kernel
theorem d_M_evict_42 : decode b_M_evict 42 = .ok (.iload 4, 2) := by decide +kernel
theorem d_M_evict_44 : decode b_M_evict 44 = .ok (.invokevirtual 100, 3) := by decide +kernel
theorem d_M_evict_47 : decode b_M_evict 47 = .ok (.ifCond .eq 51, 3) := by decide +kernel
theorem d_M_evict_50 : decode b_M_evict 50 = .ok (.aload_n 0, 1) := by decide +kernel
theorem d_M_evict_51 : decode b_M_evict 51 = .ok (.getfield 26, 3) := by decide +kernel
theorem d_M_evict_54 : decode b_M_evict 54 = .ok (.aload_n 0, 1) := by decide +kernel
theorem d_M_evict_55 : decode b_M_evict 55 = .ok (.getfield 44, 3) := by decide +kernel
theorem d_M_evict_58 : decode b_M_evict 58 = .ok (.iload 4, 2) := by decide +kernel
theorem d_M_evict_60 : decode b_M_evict 60 = .ok (.iaload, 1) := by decide +kernel
theorem d_M_evict_61 : decode b_M_evict 61 = .ok (.iaload, 1) := by decide +kernel
theorem d_M_evict_62 : decode b_M_evict 62 = .ok (.ifCond .le 36, 3) := by decide +kernel
theorem d_M_evict_65 : decode b_M_evict 65 = .ok (.iload_n 3, 1) := by decide +kernel
theorem d_M_evict_66 : decode b_M_evict 66 = .ok (.ifCond .lt 29, 3) := by decide +kernel
theorem d_M_evict_69 : decode b_M_evict 69 = .ok (.aload_n 0, 1) := by decide +kernel
theorem d_M_evict_70 : decode b_M_evict 70 = .ok (.getfield 26, 3) := by decide +kernel
theorem d_M_evict_73 : decode b_M_evict 73 = .ok (.aload_n 0, 1) := by decide +kernel
theorem d_M_evict_74 : decode b_M_evict 74 = .ok (.getfield 44, 3) := by decide +kernel
theorem d_M_evict_77 : decode b_M_evict 77 = .ok (.iload 4, 2) := by decide +kernel
theorem d_M_evict_79 : decode b_M_evict 79 = .ok (.iaload, 1) := by decide +kernel
theorem d_M_evict_80 : decode b_M_evict 80 = .ok (.iaload, 1) := by decide +kernel
theorem d_M_evict_81 : decode b_M_evict 81 = .ok (.aload_n 0, 1) := by decide +kernel
theorem d_M_evict_82 : decode b_M_evict 82 = .ok (.getfield 26, 3) := by decide +kernel
theorem d_M_evict_85 : decode b_M_evict 85 = .ok (.aload_n 0, 1) := by decide +kernel
theorem d_M_evict_86 : decode b_M_evict 86 = .ok (.getfield 44, 3) := by decide +kernel
theorem d_M_evict_89 : decode b_M_evict 89 = .ok (.iload_n 3, 1) := by decide +kernel
theorem d_M_evict_90 : decode b_M_evict 90 = .ok (.iaload, 1) := by decide +kernel
theorem d_M_evict_91 : decode b_M_evict 91 = .ok (.iaload, 1) := by decide +kernel
theorem d_M_evict_92 : decode b_M_evict 92 = .ok (.if_icmp .ge 6, 3) := by decide +kernel
theorem d_M_evict_95 : decode b_M_evict 95 = .ok (.iload 4, 2) := by decide +kernel
theorem d_M_evict_97 : decode b_M_evict 97 = .ok (.istore_n 3, 1) := by decide +kernel
theorem d_M_evict_98 : decode b_M_evict 98 = .ok (.iinc 4 1, 3) := by decide +kernel
theorem d_M_evict_101 : decode b_M_evict 101 = .ok (.goto (-67), 3) := by decide +kernel
theorem d_M_evict_104 : decode b_M_evict 104 = .ok (.iload_n 3, 1) := by decide +kernel
theorem d_M_evict_105 : decode b_M_evict 105 = .ok (.ifCond .lt 11, 3) := by decide +kernel
theorem d_M_evict_108 : decode b_M_evict 108 = .ok (.aload_n 0, 1) := by decide +kernel
theorem d_M_evict_109 : decode b_M_evict 109 = .ok (.iload_n 3, 1) := by decide +kernel
theorem d_M_evict_110 : decode b_M_evict 110 = .ok (.invokevirtual 109, 3) := by decide +kernel
theorem d_M_evict_113 : decode b_M_evict 113 = .ok (.ifCond .ge 5, 3) := by decide +kernel
theorem d_M_evict_116 : decode b_M_evict 116 = .ok (.iload_n 2, 1) := by decide +kernel
theorem d_M_evict_117 : decode b_M_evict 117 = .ok (.ireturn, 1) := by decide +kernel
theorem d_M_evict_118 : decode b_M_evict 118 = .ok (.iinc 2 1, 3) := by decide +kernel
theorem d_M_evict_121 : decode b_M_evict 121 = .ok (.goto (-97), 3) := by decide +kernel
theorem d_M_evict_124 : decode b_M_evict 124 = .ok (.iload_n 1, 1) := by decide +kernel
theorem d_M_evict_125 : decode b_M_evict 125 = .ok (.ireturn, 1) := by decide +kernel
-- BlockVaultModel.evict(I)I: labels [0, 24, 34], loops [24, 34]
abbrev rm_M_evict : Room := { frames := 5, cells := 0, slots := 0, locals := 110 }
def cM_evict_34 (X : Nat → xm_PT) (Rh : Option Value → xm_M → Prop) : xm_PT := (xo_iload 4 (xo_push (.int (nI 16)) (xo_icmp (fun x y => y ≤ x) (xo_iload 3 (xo_if (fun x => x < 0) (xo_iload 2 (xo_iret Rh)) (xo_aload 0 (xo_iload 3 (xo_callV 5 1 0 0 cp_M_writeTombstone (xo_if (fun x => 0 ≤ x) (xo_iinc 2 1 (xo_jmp [0, 1, 2] (X 24))) (xo_iload 2 (xo_iret Rh)))))))) (xo_aload 0 (xo_iload 4 (xo_callV 5 1 0 0 cp_M_isThere (xo_if (fun x => x = 0) (xo_iinc 4 1 (xo_jmp [0, 1, 2, 3, 4] (X 34))) (xo_aload 0 (xo_get 5 5 (xo_aload 0 (xo_get 5 11 (xo_iload 4 (xo_iald ats (xo_iald ats (xo_if (fun x => x ≤ 0) (xo_iinc 4 1 (xo_jmp [0, 1, 2, 3, 4] (X 34))) (xo_iload 3 (xo_if (fun x => x < 0) (xo_iload 4 (xo_istore 3 (xo_iinc 4 1 (xo_jmp [0, 1, 2, 3, 4] (X 34))))) (xo_aload 0 (xo_get 5 5 (xo_aload 0 (xo_get 5 11 (xo_iload 4 (xo_iald ats (xo_iald ats (xo_aload 0 (xo_get 5 5 (xo_aload 0 (xo_get 5 11 (xo_iload 3 (xo_iald ats (xo_iald ats (xo_icmp (fun x y => y ≤ x) (xo_iinc 4 1 (xo_jmp [0, 1, 2, 3, 4] (X 34))) (xo_iload 4 (xo_istore 3 (xo_iinc 4 1 (xo_jmp [0, 1, 2, 3, 4] (X 34)))))))))))))))))))))))))))))))))))))
def cM_evict_24 (X : Nat → xm_PT) (Rh : Option Value → xm_M → Prop) : xm_PT := (xo_iload 2 (xo_iload 1 (xo_icmp (fun x y => y ≤ x) (xo_iload 1 (xo_iret Rh)) (xo_push (.int (-1)) (xo_istore 3 (xo_push (.int 0) (xo_istore 4 (xo_jmp [0, 1, 2, 3, 4] (X 34)))))))))
def cM_evict_0 (X : Nat → xm_PT) (Rh : Option Value → xm_M → Prop) : xm_PT := (xo_iload 1 (xo_push (.int 1) (xo_push (.int (nI 16)) (xo_callS 3 0 0 cp_M_in (xo_if (fun x => x = 0) (xo_push (.int (-1)) (xo_iret Rh)) (xo_aload 0 (xo_get 5 17 (xo_if (fun x => x = 0) (xo_push (.int 0) (xo_istore 2 (xo_jmp [0, 1, 2] (X 24)))) (xo_push (.int (-2)) (xo_iret Rh))))))))))
def fM_evict : xm_F := fun X Rh lb => if lb = 0 then cM_evict_0 X Rh else (if lb = 24 then cM_evict_24 X Rh else (if lb = 34 then cM_evict_34 X Rh else fun _ _ _ _ _ => False))
def cp_M_evict : xm_CP := fun as m Rh => (lg_sl as).length ≤ 5 ∧ xm_cp fM_evict 0 0 as m Rh
theorem eM_evict_0 {X : Nat → xm_PT} {Rh : Option Value → xm_M → Prop} (hX : ∀ lb, xm_le (fM_evict X Rh lb) (X lb)) {ls : xm_L} {st : List Value} {m : xm_M} {bc bs : Nat} (h : cM_evict_0 X Rh ls st m bc bs) : X 0 ls st m bc bs := hX 0 ls st m bc bs h
theorem eM_evict_24 {X : Nat → xm_PT} {Rh : Option Value → xm_M → Prop} (hX : ∀ lb, xm_le (fM_evict X Rh lb) (X lb)) {ls : xm_L} {st : List Value} {m : xm_M} {bc bs : Nat} (h : cM_evict_24 X Rh ls st m bc bs) : X 24 ls st m bc bs := hX 24 ls st m bc bs h
theorem eM_evict_34 {X : Nat → xm_PT} {Rh : Option Value → xm_M → Prop} (hX : ∀ lb, xm_le (fM_evict X Rh lb) (X lb)) {ls : xm_L} {st : List Value} {m : xm_M} {bc bs : Nat} (h : cM_evict_34 X Rh ls st m bc bs) : X 34 ls st m bc bs := hX 34 ls st m bc bs h
set_option maxRecDepth 20000 in
set_option maxHeartbeats 4000000 in
theorem sM_evict_34 {p : Program} {l : Launch} {e : Env} {s : State} {mm : MethodId} {args : Array Value} {below : List Frame} {meth : Method} {c : Code} {D : va_G} {A : Nat → Prop} {Rh : Option Value → xm_M → Prop} (C : xm_C p s mm args c b_M_evict 5 "BlockVaultModel" w_M_evict D classes ats A) (hr : meth.sig.returnType = (some .int)) (hlk : meth.locks = false) (hnm : meth.name = "evict") : xm_le (cM_evict_34 (xm_A p l e rm_M_evict s mm args below meth c 5 D classes A (MQ below (xm_Q D classes Rh A) args s 0 0 A)) Rh) ((xm_A p l e rm_M_evict s mm args below meth c 5 D classes A (MQ below (xm_Q D classes Rh A) args s 0 0 A)) 34) :=
  (xs_iload C d_M_evict_34 (xs_bipush C d_M_evict_36 (by decide) (xs_icmp_ge C d_M_evict_38 (by decide) (xs_iload_n C d_M_evict_104 rfl (xs_if_lt C d_M_evict_105 (by decide) (xs_iload_n C d_M_evict_116 rfl (xs_iret C d_M_evict_117 hr hlk rfl rfl)) (xs_aload_n C d_M_evict_108 rfl (xs_iload_n C d_M_evict_109 rfl (xs_callV C (CN := "BlockVaultModel") (T := F_M) (N := 18) d_M_evict_110 (met_M_writeTombstone l D) ⟨callB_of (ws := w_M_writeTombstone) (rm := rm_M_writeTombstone) 1 C.1.2.2.2.2 (gG_m tw_549) rfl rfl rfl (C.1.2.2.2.2 _ (List.mem_cons_of_mem _ tw_5)) (C.1.2.2.2.2 _ (List.mem_cons_of_mem _ tw_546)) ⟨by decide, by decide, by decide +kernel⟩ ⟨Nat.le_of_ble_eq_true rfl, Nat.le_of_ble_eq_true rfl⟩, (C.1.2.2.2.2 _ (List.mem_cons_of_mem _ tw_548)), (C.1.2.2.2.2 _ (List.mem_cons_of_mem _ ts_45))⟩ (ci := 5) rfl (xs_if_ge C d_M_evict_113 (by decide) (xs_iinc C d_M_evict_118 (by decide) (by decide) (xs_goto C d_M_evict_121 (by decide) (xs_jmp (fun _ _ _ _ _ h => h)))) (xs_iload_n C d_M_evict_116 rfl (xs_iret C d_M_evict_117 hr hlk rfl rfl)))))))) (xs_aload_n C d_M_evict_41 rfl (xs_iload C d_M_evict_42 (xs_callV C (CN := "BlockVaultModel") (T := F_M) (N := 18) d_M_evict_44 (met_M_isThere l D) ⟨callB_of (ws := w_M_isThere) (rm := rm_M_isThere) 1 C.1.2.2.2.2 (gG_m tw_488) rfl rfl rfl (C.1.2.2.2.2 _ (List.mem_cons_of_mem _ tw_5)) (C.1.2.2.2.2 _ (List.mem_cons_of_mem _ tw_485)) ⟨by decide, by decide, by decide +kernel⟩ ⟨Nat.le_of_ble_eq_true rfl, Nat.le_of_ble_eq_true rfl⟩, (C.1.2.2.2.2 _ (List.mem_cons_of_mem _ tw_487)), (C.1.2.2.2.2 _ (List.mem_cons_of_mem _ ts_33))⟩ (ci := 5) rfl (xs_if_eq C d_M_evict_47 (by decide) (xs_iinc C d_M_evict_98 (by decide) (by decide) (xs_goto C d_M_evict_101 (by decide) (xs_jmp (fun _ _ _ _ _ h => h)))) (xs_aload_n C d_M_evict_50 rfl (xs_get C (k := 5) d_M_evict_51 h_M (ci := 5) rfl (by decide) (List.mem_cons_of_mem _ tw_426) rfl (xs_aload_n C d_M_evict_54 rfl (xs_get C (k := 11) d_M_evict_55 h_M (ci := 5) rfl (by decide) (List.mem_cons_of_mem _ tw_432) rfl (xs_iload C d_M_evict_58 (xs_iald C d_M_evict_60 (xs_iald C d_M_evict_61 (xs_if_le C d_M_evict_62 (by decide) (xs_iinc C d_M_evict_98 (by decide) (by decide) (xs_goto C d_M_evict_101 (by decide) (xs_jmp (fun _ _ _ _ _ h => h)))) (xs_iload_n C d_M_evict_65 rfl (xs_if_lt C d_M_evict_66 (by decide) (xs_iload C d_M_evict_95 (xs_istore_n C d_M_evict_97 rfl (by decide) (xs_iinc C d_M_evict_98 (by decide) (by decide) (xs_goto C d_M_evict_101 (by decide) (xs_jmp (fun _ _ _ _ _ h => h)))))) (xs_aload_n C d_M_evict_69 rfl (xs_get C (k := 5) d_M_evict_70 h_M (ci := 5) rfl (by decide) (List.mem_cons_of_mem _ tw_426) rfl (xs_aload_n C d_M_evict_73 rfl (xs_get C (k := 11) d_M_evict_74 h_M (ci := 5) rfl (by decide) (List.mem_cons_of_mem _ tw_432) rfl (xs_iload C d_M_evict_77 (xs_iald C d_M_evict_79 (xs_iald C d_M_evict_80 (xs_aload_n C d_M_evict_81 rfl (xs_get C (k := 5) d_M_evict_82 h_M (ci := 5) rfl (by decide) (List.mem_cons_of_mem _ tw_426) rfl (xs_aload_n C d_M_evict_85 rfl (xs_get C (k := 11) d_M_evict_86 h_M (ci := 5) rfl (by decide) (List.mem_cons_of_mem _ tw_432) rfl (xs_iload_n C d_M_evict_89 rfl (xs_iald C d_M_evict_90 (xs_iald C d_M_evict_91 (xs_icmp_ge C d_M_evict_92 (by decide) (xs_iinc C d_M_evict_98 (by decide) (by decide) (xs_goto C d_M_evict_101 (by decide) (xs_jmp (fun _ _ _ _ _ h => h)))) (xs_iload C d_M_evict_95 (xs_istore_n C d_M_evict_97 rfl (by decide) (xs_iinc C d_M_evict_98 (by decide) (by decide) (xs_goto C d_M_evict_101 (by decide) (xs_jmp (fun _ _ _ _ _ h => h))))))))))))))))))))))))))))))))))))))
set_option maxRecDepth 20000 in
set_option maxHeartbeats 4000000 in
theorem sM_evict_24 {p : Program} {l : Launch} {e : Env} {s : State} {mm : MethodId} {args : Array Value} {below : List Frame} {meth : Method} {c : Code} {D : va_G} {A : Nat → Prop} {Rh : Option Value → xm_M → Prop} (C : xm_C p s mm args c b_M_evict 5 "BlockVaultModel" w_M_evict D classes ats A) (hr : meth.sig.returnType = (some .int)) (hlk : meth.locks = false) (hnm : meth.name = "evict") : xm_le (cM_evict_24 (xm_A p l e rm_M_evict s mm args below meth c 5 D classes A (MQ below (xm_Q D classes Rh A) args s 0 0 A)) Rh) ((xm_A p l e rm_M_evict s mm args below meth c 5 D classes A (MQ below (xm_Q D classes Rh A) args s 0 0 A)) 24) :=
  (xs_iload_n C d_M_evict_24 rfl (xs_iload_n C d_M_evict_25 rfl (xs_icmp_ge C d_M_evict_26 (by decide) (xs_iload_n C d_M_evict_124 rfl (xs_iret C d_M_evict_125 hr hlk rfl rfl)) (xs_iconst C d_M_evict_29 (by decide) (xs_istore_n C d_M_evict_30 rfl (by decide) (xs_iconst C d_M_evict_31 (by decide) (xs_istore C d_M_evict_32 (by decide) (xs_jmp (fun _ _ _ _ _ h => h)))))))))
set_option maxRecDepth 20000 in
set_option maxHeartbeats 4000000 in
theorem sM_evict_0 {p : Program} {l : Launch} {e : Env} {s : State} {mm : MethodId} {args : Array Value} {below : List Frame} {meth : Method} {c : Code} {D : va_G} {A : Nat → Prop} {Rh : Option Value → xm_M → Prop} (C : xm_C p s mm args c b_M_evict 5 "BlockVaultModel" w_M_evict D classes ats A) (hr : meth.sig.returnType = (some .int)) (hlk : meth.locks = false) (hnm : meth.name = "evict") : xm_le (cM_evict_0 (xm_A p l e rm_M_evict s mm args below meth c 5 D classes A (MQ below (xm_Q D classes Rh A) args s 0 0 A)) Rh) ((xm_A p l e rm_M_evict s mm args below meth c 5 D classes A (MQ below (xm_Q D classes Rh A) args s 0 0 A)) 0) :=
  (xs_iload_n C d_M_evict_0 rfl (xs_iconst C d_M_evict_1 (by decide) (xs_bipush C d_M_evict_2 (by decide) (xs_callS C d_M_evict_4 (met_M_in l D) ⟨callB_of (ws := w_M_in) (rm := rm_M_in) 3 C.1.2.2.2.2 (gG_m tw_484) rfl rfl rfl (C.1.2.2.2.2 _ (List.mem_cons_of_mem _ tw_5)) (C.1.2.2.2.2 _ (List.mem_cons_of_mem _ tw_482)) ⟨by decide, by decide, by decide +kernel⟩ ⟨Nat.le_of_ble_eq_true rfl, Nat.le_of_ble_eq_true rfl⟩, C.1.2.2.2.2 _ (List.mem_cons_of_mem _ tw_483)⟩ (xs_if_ne C d_M_evict_7 (by decide) (xs_iconst C d_M_evict_10 (by decide) (xs_iret C d_M_evict_11 hr hlk rfl rfl)) (xs_aload_n C d_M_evict_12 rfl (xs_get C (k := 17) d_M_evict_13 h_M (ci := 5) rfl (by decide) (List.mem_cons_of_mem _ tw_438) rfl (xs_if_eq C d_M_evict_16 (by decide) (xs_iconst C d_M_evict_22 (by decide) (xs_istore_n C d_M_evict_23 rfl (by decide) (xs_jmp (fun _ _ _ _ _ h => h)))) (xs_bipush C d_M_evict_19 (by decide) (xs_iret C d_M_evict_21 hr hlk rfl rfl))))))))))
theorem met_M_evict (l : Launch) (D : va_G) : xm_Met l D classes ats y_M_evict w_M_evict rm_M_evict 0 0 cp_M_evict := by
  refine xm_met 0 (by decide) rfl rfl rfl (fun p e s mm args below meth c A Rh C hr hlk hnm lb => ?_)
  unfold fM_evict
  split
  · rename_i h; subst h; exact sM_evict_0 C hr hlk hnm
  split
  · rename_i h; subst h; exact sM_evict_24 C hr hlk hnm
  split
  · rename_i h; subst h; exact sM_evict_34 C hr hlk hnm
  · exact fun _ _ _ _ _ h => h.elim
theorem d_M_tick_0 : decode b_M_tick 0 = .ok (.iload_n 1, 1) := by decide +kernel
theorem d_M_tick_1 : decode b_M_tick 1 = .ok (.iconst 0, 1) := by decide +kernel
theorem d_M_tick_2 : decode b_M_tick 2 = .ok (.sipush 1000, 3) := by decide +kernel
theorem d_M_tick_5 : decode b_M_tick 5 = .ok (.invokestatic 92, 3) := by decide +kernel
theorem d_M_tick_8 : decode b_M_tick 8 = .ok (.ifCond .ne 5, 3) := by decide +kernel
theorem d_M_tick_11 : decode b_M_tick 11 = .ok (.iconst (-1), 1) := by decide +kernel
theorem d_M_tick_12 : decode b_M_tick 12 = .ok (.ireturn, 1) := by decide +kernel
theorem d_M_tick_13 : decode b_M_tick 13 = .ok (.aload_n 0, 1) := by decide +kernel
theorem d_M_tick_14 : decode b_M_tick 14 = .ok (.dup, 1) := by decide +kernel
theorem d_M_tick_15 : decode b_M_tick 15 = .ok (.getfield 51, 3) := by decide +kernel
theorem d_M_tick_18 : decode b_M_tick 18 = .ok (.iload_n 1, 1) := by decide +kernel
theorem d_M_tick_19 : decode b_M_tick 19 = .ok (.iadd, 1) := by decide +kernel
theorem d_M_tick_20 : decode b_M_tick 20 = .ok (.putfield 51, 3) := by decide +kernel
theorem d_M_tick_23 : decode b_M_tick 23 = .ok (.aload_n 0, 1) := by decide +kernel
theorem d_M_tick_24 : decode b_M_tick 24 = .ok (.getfield 51, 3) := by decide +kernel
theorem d_M_tick_27 : decode b_M_tick 27 = .ok (.ireturn, 1) := by decide +kernel
-- BlockVaultModel.tick(I)I: labels [0], loops []
abbrev rm_M_tick : Room := { frames := 1, cells := 0, slots := 0, locals := 22 }
def cM_tick_0 (X : Nat → xm_PT) (Rh : Option Value → xm_M → Prop) : xm_PT := (xo_iload 1 (xo_push (.int 0) (xo_push (.int (nI 1000)) (xo_callS 3 0 0 cp_M_in (xo_if (fun x => x = 0) (xo_push (.int (-1)) (xo_iret Rh)) (xo_aload 0 (xo_dup (xo_get 5 12 (xo_iload 1 (xo_ibin (fun x y => x + y) (xo_put 5 12 .int (xo_aload 0 (xo_get 5 12 (xo_iret Rh))))))))))))))
def fM_tick : xm_F := fun X Rh lb => if lb = 0 then cM_tick_0 X Rh else fun _ _ _ _ _ => False
def cp_M_tick : xm_CP := fun as m Rh => (lg_sl as).length ≤ 2 ∧ xm_cp fM_tick 0 0 as m Rh
theorem eM_tick_0 {X : Nat → xm_PT} {Rh : Option Value → xm_M → Prop} (hX : ∀ lb, xm_le (fM_tick X Rh lb) (X lb)) {ls : xm_L} {st : List Value} {m : xm_M} {bc bs : Nat} (h : cM_tick_0 X Rh ls st m bc bs) : X 0 ls st m bc bs := hX 0 ls st m bc bs h
set_option maxRecDepth 20000 in
set_option maxHeartbeats 4000000 in
theorem sM_tick_0 {p : Program} {l : Launch} {e : Env} {s : State} {mm : MethodId} {args : Array Value} {below : List Frame} {meth : Method} {c : Code} {D : va_G} {A : Nat → Prop} {Rh : Option Value → xm_M → Prop} (C : xm_C p s mm args c b_M_tick 2 "BlockVaultModel" w_M_tick D classes ats A) (hr : meth.sig.returnType = (some .int)) (hlk : meth.locks = false) (hnm : meth.name = "tick") : xm_le (cM_tick_0 (xm_A p l e rm_M_tick s mm args below meth c 2 D classes A (MQ below (xm_Q D classes Rh A) args s 0 0 A)) Rh) ((xm_A p l e rm_M_tick s mm args below meth c 2 D classes A (MQ below (xm_Q D classes Rh A) args s 0 0 A)) 0) :=
  (xs_iload_n C d_M_tick_0 rfl (xs_iconst C d_M_tick_1 (by decide) (xs_sipush C d_M_tick_2 (by decide) (xs_callS C d_M_tick_5 (met_M_in l D) ⟨callB_of (ws := w_M_in) (rm := rm_M_in) 3 C.1.2.2.2.2 (gG_m tw_484) rfl rfl rfl (C.1.2.2.2.2 _ (List.mem_cons_of_mem _ tw_5)) (C.1.2.2.2.2 _ (List.mem_cons_of_mem _ tw_482)) ⟨by decide, by decide, by decide +kernel⟩ ⟨Nat.le_of_ble_eq_true rfl, Nat.le_of_ble_eq_true rfl⟩, C.1.2.2.2.2 _ (List.mem_cons_of_mem _ tw_483)⟩ (xs_if_ne C d_M_tick_8 (by decide) (xs_iconst C d_M_tick_11 (by decide) (xs_iret C d_M_tick_12 hr hlk rfl rfl)) (xs_aload_n C d_M_tick_13 rfl (xs_dup C d_M_tick_14 (xs_get C (k := 12) d_M_tick_15 h_M (ci := 5) rfl (by decide) (List.mem_cons_of_mem _ tw_433) rfl (xs_iload_n C d_M_tick_18 rfl (xs_iadd C d_M_tick_19 (xs_put C (k := 12) d_M_tick_20 h_M t_M t_M_ok n_M (ci := 5) rfl (by decide) (List.mem_cons_of_mem _ tw_433) rfl rfl (by decide +kernel) (xs_aload_n C d_M_tick_23 rfl (xs_get C (k := 12) d_M_tick_24 h_M (ci := 5) rfl (by decide) (List.mem_cons_of_mem _ tw_433) rfl (xs_iret C d_M_tick_27 hr hlk rfl rfl))))))))))))))
theorem met_M_tick (l : Launch) (D : va_G) : xm_Met l D classes ats y_M_tick w_M_tick rm_M_tick 0 0 cp_M_tick := by
  refine xm_met 0 (by decide) rfl rfl rfl (fun p e s mm args below meth c A Rh C hr hlk hnm lb => ?_)
  unfold fM_tick
  split
  · rename_i h; subst h; exact sM_tick_0 C hr hlk hnm
  · exact fun _ _ _ _ _ h => h.elim
theorem d_M_hasOther_0 : decode b_M_hasOther 0 = .ok (.iconst 0, 1) := by decide +kernel
theorem d_M_hasOther_1 : decode b_M_hasOther 1 = .ok (.istore_n 2, 1) := by decide +kernel
theorem d_M_hasOther_2 : decode b_M_hasOther 2 = .ok (.iload_n 2, 1) := by decide +kernel
theorem d_M_hasOther_3 : decode b_M_hasOther 3 = .ok (.sipush 192, 3) := by decide +kernel
theorem d_M_hasOther_6 : decode b_M_hasOther 6 = .ok (.if_icmp .ge 57, 3) := by decide +kernel
theorem d_M_hasOther_9 : decode b_M_hasOther 9 = .ok (.iload_n 2, 1) := by decide +kernel
theorem d_M_hasOther_10 : decode b_M_hasOther 10 = .ok (.bipush 12, 2) := by decide +kernel
theorem d_M_hasOther_12 : decode b_M_hasOther 12 = .ok (.irem, 1) := by decide +kernel
theorem d_M_hasOther_13 : decode b_M_hasOther 13 = .ok (.aload_n 0, 1) := by decide +kernel
theorem d_M_hasOther_14 : decode b_M_hasOther 14 = .ok (.getfield 32, 3) := by decide +kernel
theorem d_M_hasOther_17 : decode b_M_hasOther 17 = .ok (.iload_n 2, 1) := by decide +kernel
theorem d_M_hasOther_18 : decode b_M_hasOther 18 = .ok (.bipush 12, 2) := by decide +kernel
theorem d_M_hasOther_20 : decode b_M_hasOther 20 = .ok (.idiv, 1) := by decide +kernel
theorem d_M_hasOther_21 : decode b_M_hasOther 21 = .ok (.iaload, 1) := by decide +kernel
theorem d_M_hasOther_22 : decode b_M_hasOther 22 = .ok (.if_icmp .ge 35, 3) := by decide +kernel
theorem d_M_hasOther_25 : decode b_M_hasOther 25 = .ok (.aload_n 0, 1) := by decide +kernel
theorem d_M_hasOther_26 : decode b_M_hasOther 26 = .ok (.getfield 13, 3) := by decide +kernel
theorem d_M_hasOther_29 : decode b_M_hasOther 29 = .ok (.iload_n 2, 1) := by decide +kernel
theorem d_M_hasOther_30 : decode b_M_hasOther 30 = .ok (.iaload, 1) := by decide +kernel
theorem d_M_hasOther_31 : decode b_M_hasOther 31 = .ok (.aload_n 0, 1) := by decide +kernel
theorem d_M_hasOther_32 : decode b_M_hasOther 32 = .ok (.getfield 13, 3) := by decide +kernel
theorem d_M_hasOther_35 : decode b_M_hasOther 35 = .ok (.iload_n 1, 1) := by decide +kernel
theorem d_M_hasOther_36 : decode b_M_hasOther 36 = .ok (.iaload, 1) := by decide +kernel
theorem d_M_hasOther_37 : decode b_M_hasOther 37 = .ok (.if_icmp .ne 20, 3) := by decide +kernel
theorem d_M_hasOther_40 : decode b_M_hasOther 40 = .ok (.aload_n 0, 1) := by decide +kernel
theorem d_M_hasOther_41 : decode b_M_hasOther 41 = .ok (.getfield 29, 3) := by decide +kernel
theorem d_M_hasOther_44 : decode b_M_hasOther 44 = .ok (.iload_n 2, 1) := by decide +kernel
theorem d_M_hasOther_45 : decode b_M_hasOther 45 = .ok (.iaload, 1) := by decide +kernel
theorem d_M_hasOther_46 : decode b_M_hasOther 46 = .ok (.aload_n 0, 1) := by decide +kernel
theorem d_M_hasOther_47 : decode b_M_hasOther 47 = .ok (.getfield 29, 3) := by decide +kernel
theorem d_M_hasOther_50 : decode b_M_hasOther 50 = .ok (.iload_n 1, 1) := by decide +kernel
theorem d_M_hasOther_51 : decode b_M_hasOther 51 = .ok (.iaload, 1) := by decide +kernel
theorem d_M_hasOther_52 : decode b_M_hasOther 52 = .ok (.if_icmp .eq 5, 3) := by decide +kernel
theorem d_M_hasOther_55 : decode b_M_hasOther 55 = .ok (.iconst 1, 1) := by decide +kernel
theorem d_M_hasOther_56 : decode b_M_hasOther 56 = .ok (.ireturn, 1) := by decide +kernel
theorem d_M_hasOther_57 : decode b_M_hasOther 57 = .ok (.iinc 2 1, 3) := by decide +kernel
theorem d_M_hasOther_60 : decode b_M_hasOther 60 = .ok (.goto (-58), 3) := by decide +kernel
theorem d_M_hasOther_63 : decode b_M_hasOther 63 = .ok (.iconst 0, 1) := by decide +kernel
theorem d_M_hasOther_64 : decode b_M_hasOther 64 = .ok (.ireturn, 1) := by decide +kernel
-- BlockVaultModel.hasOther(I)Z: labels [0, 2], loops [2]
abbrev rm_M_hasOther : Room := { frames := 0, cells := 0, slots := 0, locals := 0 }
def cM_hasOther_2 (X : Nat → xm_PT) (Rh : Option Value → xm_M → Prop) : xm_PT := (xo_iload 2 (xo_push (.int (nI 192)) (xo_icmp (fun x y => y ≤ x) (xo_push (.int 0) (xo_zret Rh)) (xo_iload 2 (xo_push (.int (nI 12)) (xo_irem (xo_aload 0 (xo_get 5 7 (xo_iload 2 (xo_push (.int (nI 12)) (xo_idiv (xo_iald ats (xo_icmp (fun x y => y ≤ x) (xo_iinc 2 1 (xo_jmp [0, 1, 2] (X 2))) (xo_aload 0 (xo_get 5 1 (xo_iload 2 (xo_iald ats (xo_aload 0 (xo_get 5 1 (xo_iload 1 (xo_iald ats (xo_icmp (fun x y => x = y) (xo_aload 0 (xo_get 5 6 (xo_iload 2 (xo_iald ats (xo_aload 0 (xo_get 5 6 (xo_iload 1 (xo_iald ats (xo_icmp (fun x y => x = y) (xo_iinc 2 1 (xo_jmp [0, 1, 2] (X 2))) (xo_push (.int 1) (xo_zret Rh))))))))))) (xo_iinc 2 1 (xo_jmp [0, 1, 2] (X 2)))))))))))))))))))))))))
def cM_hasOther_0 (X : Nat → xm_PT) (Rh : Option Value → xm_M → Prop) : xm_PT := (xo_push (.int 0) (xo_istore 2 (xo_jmp [0, 1, 2] (X 2))))
def fM_hasOther : xm_F := fun X Rh lb => if lb = 0 then cM_hasOther_0 X Rh else (if lb = 2 then cM_hasOther_2 X Rh else fun _ _ _ _ _ => False)
def cp_M_hasOther : xm_CP := fun as m Rh => (lg_sl as).length ≤ 3 ∧ xm_cp fM_hasOther 0 0 as m Rh
theorem eM_hasOther_0 {X : Nat → xm_PT} {Rh : Option Value → xm_M → Prop} (hX : ∀ lb, xm_le (fM_hasOther X Rh lb) (X lb)) {ls : xm_L} {st : List Value} {m : xm_M} {bc bs : Nat} (h : cM_hasOther_0 X Rh ls st m bc bs) : X 0 ls st m bc bs := hX 0 ls st m bc bs h
theorem eM_hasOther_2 {X : Nat → xm_PT} {Rh : Option Value → xm_M → Prop} (hX : ∀ lb, xm_le (fM_hasOther X Rh lb) (X lb)) {ls : xm_L} {st : List Value} {m : xm_M} {bc bs : Nat} (h : cM_hasOther_2 X Rh ls st m bc bs) : X 2 ls st m bc bs := hX 2 ls st m bc bs h
set_option maxRecDepth 20000 in
set_option maxHeartbeats 4000000 in
theorem sM_hasOther_2 {p : Program} {l : Launch} {e : Env} {s : State} {mm : MethodId} {args : Array Value} {below : List Frame} {meth : Method} {c : Code} {D : va_G} {A : Nat → Prop} {Rh : Option Value → xm_M → Prop} (C : xm_C p s mm args c b_M_hasOther 3 "BlockVaultModel" w_M_hasOther D classes ats A) (hr : meth.sig.returnType = (some .boolean)) (hlk : meth.locks = false) (hnm : meth.name = "hasOther") : xm_le (cM_hasOther_2 (xm_A p l e rm_M_hasOther s mm args below meth c 3 D classes A (MQ below (xm_Q D classes Rh A) args s 0 0 A)) Rh) ((xm_A p l e rm_M_hasOther s mm args below meth c 3 D classes A (MQ below (xm_Q D classes Rh A) args s 0 0 A)) 2) :=
  (xs_iload_n C d_M_hasOther_2 rfl (xs_sipush C d_M_hasOther_3 (by decide) (xs_icmp_ge C d_M_hasOther_6 (by decide) (xs_iconst C d_M_hasOther_63 (by decide) (xs_zret C d_M_hasOther_64 hr hlk rfl rfl)) (xs_iload_n C d_M_hasOther_9 rfl (xs_bipush C d_M_hasOther_10 (by decide) (xs_irem C d_M_hasOther_12 (xs_aload_n C d_M_hasOther_13 rfl (xs_get C (k := 7) d_M_hasOther_14 h_M (ci := 5) rfl (by decide) (List.mem_cons_of_mem _ tw_428) rfl (xs_iload_n C d_M_hasOther_17 rfl (xs_bipush C d_M_hasOther_18 (by decide) (xs_idiv C d_M_hasOther_20 (xs_iald C d_M_hasOther_21 (xs_icmp_ge C d_M_hasOther_22 (by decide) (xs_iinc C d_M_hasOther_57 (by decide) (by decide) (xs_goto C d_M_hasOther_60 (by decide) (xs_jmp (fun _ _ _ _ _ h => h)))) (xs_aload_n C d_M_hasOther_25 rfl (xs_get C (k := 1) d_M_hasOther_26 h_M (ci := 5) rfl (by decide) (List.mem_cons_of_mem _ tw_422) rfl (xs_iload_n C d_M_hasOther_29 rfl (xs_iald C d_M_hasOther_30 (xs_aload_n C d_M_hasOther_31 rfl (xs_get C (k := 1) d_M_hasOther_32 h_M (ci := 5) rfl (by decide) (List.mem_cons_of_mem _ tw_422) rfl (xs_iload_n C d_M_hasOther_35 rfl (xs_iald C d_M_hasOther_36 (xs_icmp_ne C d_M_hasOther_37 (by decide) (xs_aload_n C d_M_hasOther_40 rfl (xs_get C (k := 6) d_M_hasOther_41 h_M (ci := 5) rfl (by decide) (List.mem_cons_of_mem _ tw_427) rfl (xs_iload_n C d_M_hasOther_44 rfl (xs_iald C d_M_hasOther_45 (xs_aload_n C d_M_hasOther_46 rfl (xs_get C (k := 6) d_M_hasOther_47 h_M (ci := 5) rfl (by decide) (List.mem_cons_of_mem _ tw_427) rfl (xs_iload_n C d_M_hasOther_50 rfl (xs_iald C d_M_hasOther_51 (xs_icmp_eq C d_M_hasOther_52 (by decide) (xs_iinc C d_M_hasOther_57 (by decide) (by decide) (xs_goto C d_M_hasOther_60 (by decide) (xs_jmp (fun _ _ _ _ _ h => h)))) (xs_iconst C d_M_hasOther_55 (by decide) (xs_zret C d_M_hasOther_56 hr hlk rfl rfl))))))))))) (xs_iinc C d_M_hasOther_57 (by decide) (by decide) (xs_goto C d_M_hasOther_60 (by decide) (xs_jmp (fun _ _ _ _ _ h => h))))))))))))))))))))))))))
set_option maxRecDepth 20000 in
set_option maxHeartbeats 4000000 in
theorem sM_hasOther_0 {p : Program} {l : Launch} {e : Env} {s : State} {mm : MethodId} {args : Array Value} {below : List Frame} {meth : Method} {c : Code} {D : va_G} {A : Nat → Prop} {Rh : Option Value → xm_M → Prop} (C : xm_C p s mm args c b_M_hasOther 3 "BlockVaultModel" w_M_hasOther D classes ats A) (hr : meth.sig.returnType = (some .boolean)) (hlk : meth.locks = false) (hnm : meth.name = "hasOther") : xm_le (cM_hasOther_0 (xm_A p l e rm_M_hasOther s mm args below meth c 3 D classes A (MQ below (xm_Q D classes Rh A) args s 0 0 A)) Rh) ((xm_A p l e rm_M_hasOther s mm args below meth c 3 D classes A (MQ below (xm_Q D classes Rh A) args s 0 0 A)) 0) :=
  (xs_iconst C d_M_hasOther_0 (by decide) (xs_istore_n C d_M_hasOther_1 rfl (by decide) (xs_jmp (fun _ _ _ _ _ h => h))))
theorem met_M_hasOther (l : Launch) (D : va_G) : xm_Met l D classes ats y_M_hasOther w_M_hasOther rm_M_hasOther 0 0 cp_M_hasOther := by
  refine xm_met 0 (by decide) rfl rfl rfl (fun p e s mm args below meth c A Rh C hr hlk hnm lb => ?_)
  unfold fM_hasOther
  split
  · rename_i h; subst h; exact sM_hasOther_0 C hr hlk hnm
  split
  · rename_i h; subst h; exact sM_hasOther_2 C hr hlk hnm
  · exact fun _ _ _ _ _ h => h.elim
theorem d_M_sweep_0 : decode b_M_sweep 0 = .ok (.aload_n 0, 1) := by decide +kernel
theorem d_M_sweep_1 : decode b_M_sweep 1 = .ok (.getfield 96, 3) := by decide +kernel
theorem d_M_sweep_4 : decode b_M_sweep 4 = .ok (.ifCond .eq 6, 3) := by decide +kernel
theorem d_M_sweep_7 : decode b_M_sweep 7 = .ok (.bipush (-2), 2) := by decide +kernel
theorem d_M_sweep_9 : decode b_M_sweep 9 = .ok (.ireturn, 1) := by decide +kernel
theorem d_M_sweep_10 : decode b_M_sweep 10 = .ok (.iconst 0, 1) := by decide +kernel
theorem d_M_sweep_11 : decode b_M_sweep 11 = .ok (.istore_n 1, 1) := by decide +kernel
theorem d_M_sweep_12 : decode b_M_sweep 12 = .ok (.iconst 0, 1) := by decide +kernel
theorem d_M_sweep_13 : decode b_M_sweep 13 = .ok (.istore_n 2, 1) := by decide +kernel
theorem d_M_sweep_14 : decode b_M_sweep 14 = .ok (.iload_n 2, 1) := by decide +kernel
theorem d_M_sweep_15 : decode b_M_sweep 15 = .ok (.bipush 16, 2) := by decide +kernel
theorem d_M_sweep_17 : decode b_M_sweep 17 = .ok (.if_icmp .ge 58, 3) := by decide +kernel
theorem d_M_sweep_20 : decode b_M_sweep 20 = .ok (.aload_n 0, 1) := by decide +kernel
theorem d_M_sweep_21 : decode b_M_sweep 21 = .ok (.getfield 44, 3) := by decide +kernel
theorem d_M_sweep_24 : decode b_M_sweep 24 = .ok (.iload_n 2, 1) := by decide +kernel
theorem d_M_sweep_25 : decode b_M_sweep 25 = .ok (.iaload, 1) := by decide +kernel
theorem d_M_sweep_26 : decode b_M_sweep 26 = .ok (.istore_n 3, 1) := by decide +kernel
theorem d_M_sweep_27 : decode b_M_sweep 27 = .ok (.iload_n 3, 1) := by decide +kernel
theorem d_M_sweep_28 : decode b_M_sweep 28 = .ok (.ifCond .lt 41, 3) := by decide +kernel
theorem d_M_sweep_31 : decode b_M_sweep 31 = .ok (.aload_n 0, 1) := by decide +kernel
theorem d_M_sweep_32 : decode b_M_sweep 32 = .ok (.iload_n 3, 1) := by decide +kernel
theorem d_M_sweep_33 : decode b_M_sweep 33 = .ok (.invokevirtual 54, 3) := by decide +kernel
theorem d_M_sweep_36 : decode b_M_sweep 36 = .ok (.ifCond .ne 23, 3) := by decide +kernel
theorem d_M_sweep_39 : decode b_M_sweep 39 = .ok (.aload_n 0, 1) := by decide +kernel
theorem d_M_sweep_40 : decode b_M_sweep 40 = .ok (.getfield 7, 3) := by decide +kernel
theorem d_M_sweep_43 : decode b_M_sweep 43 = .ok (.iload_n 3, 1) := by decide +kernel
theorem d_M_sweep_44 : decode b_M_sweep 44 = .ok (.baload, 1) := by decide +kernel
theorem d_M_sweep_45 : decode b_M_sweep 45 = .ok (.ifCond .eq 24, 3) := by decide +kernel
theorem d_M_sweep_48 : decode b_M_sweep 48 = .ok (.aload_n 0, 1) := by decide +kernel
theorem d_M_sweep_49 : decode b_M_sweep 49 = .ok (.iload_n 3, 1) := by decide +kernel
theorem d_M_sweep_50 : decode b_M_sweep 50 = .ok (.invokevirtual 112, 3) := by decide +kernel
theorem d_M_sweep_53 : decode b_M_sweep 53 = .ok (.ifCond .eq 6, 3) := by decide +kernel
theorem d_M_sweep_56 : decode b_M_sweep 56 = .ok (.goto 13, 3) := by decide +kernel
theorem d_M_sweep_59 : decode b_M_sweep 59 = .ok (.aload_n 0, 1) := by decide +kernel
theorem d_M_sweep_60 : decode b_M_sweep 60 = .ok (.getfield 44, 3) := by decide +kernel
theorem d_M_sweep_63 : decode b_M_sweep 63 = .ok (.iload_n 2, 1) := by decide +kernel
theorem d_M_sweep_64 : decode b_M_sweep 64 = .ok (.iconst (-1), 1) := by decide +kernel
theorem d_M_sweep_65 : decode b_M_sweep 65 = .ok (.iastore, 1) := by decide +kernel
theorem d_M_sweep_66 : decode b_M_sweep 66 = .ok (.iinc 1 1, 3) := by decide +kernel
theorem d_M_sweep_69 : decode b_M_sweep 69 = .ok (.iinc 2 1, 3) := by decide +kernel
theorem d_M_sweep_72 : decode b_M_sweep 72 = .ok (.goto (-58), 3) := by decide +kernel
theorem d_M_sweep_75 : decode b_M_sweep 75 = .ok (.aload_n 0, 1) := by decide +kernel
theorem d_M_sweep_76 : decode b_M_sweep 76 = .ok (.invokevirtual 83, 3) := by decide +kernel
theorem d_M_sweep_79 : decode b_M_sweep 79 = .ok (.iload_n 1, 1) := by decide +kernel
theorem d_M_sweep_80 : decode b_M_sweep 80 = .ok (.ireturn, 1) := by decide +kernel
-- BlockVaultModel.sweep()I: labels [0, 14, 59], loops [14]
abbrev rm_M_sweep : Room := { frames := 2, cells := 0, slots := 0, locals := 45 }
def cM_sweep_59 (X : Nat → xm_PT) (Rh : Option Value → xm_M → Prop) : xm_PT := (xo_aload 0 (xo_get 5 11 (xo_iload 2 (xo_push (.int (-1)) (xo_iast ats (xo_iinc 1 1 (xo_iinc 2 1 (xo_jmp [0, 1, 2] (X 14)))))))))
def cM_sweep_14 (X : Nat → xm_PT) (Rh : Option Value → xm_M → Prop) : xm_PT := (xo_iload 2 (xo_push (.int (nI 16)) (xo_icmp (fun x y => y ≤ x) (xo_aload 0 (xo_callV 5 0 0 0 cp_M_settle (xo_iload 1 (xo_iret Rh)))) (xo_aload 0 (xo_get 5 11 (xo_iload 2 (xo_iald ats (xo_istore 3 (xo_iload 3 (xo_if (fun x => x < 0) (xo_iinc 2 1 (xo_jmp [0, 1, 2] (X 14))) (xo_aload 0 (xo_iload 3 (xo_callV 5 1 0 0 cp_M_expired (xo_if (fun x => x = 0) (xo_aload 0 (xo_get 5 0 (xo_iload 3 (xo_zald ats (xo_if (fun x => x = 0) (xo_iinc 2 1 (xo_jmp [0, 1, 2] (X 14))) (xo_aload 0 (xo_iload 3 (xo_callV 5 1 0 0 cp_M_hasOther (xo_if (fun x => x = 0) (xo_jmp [0, 1, 2] (cM_sweep_59 X Rh)) (xo_iinc 2 1 (xo_jmp [0, 1, 2] (X 14)))))))))))) (xo_jmp [0, 1, 2] (cM_sweep_59 X Rh))))))))))))))))
def cM_sweep_0 (X : Nat → xm_PT) (Rh : Option Value → xm_M → Prop) : xm_PT := (xo_aload 0 (xo_get 5 17 (xo_if (fun x => x = 0) (xo_push (.int 0) (xo_istore 1 (xo_push (.int 0) (xo_istore 2 (xo_jmp [0, 1, 2] (X 14)))))) (xo_push (.int (-2)) (xo_iret Rh)))))
def fM_sweep : xm_F := fun X Rh lb => if lb = 0 then cM_sweep_0 X Rh else (if lb = 14 then cM_sweep_14 X Rh else fun _ _ _ _ _ => False)
def cp_M_sweep : xm_CP := fun as m Rh => (lg_sl as).length ≤ 4 ∧ xm_cp fM_sweep 0 0 as m Rh
theorem eM_sweep_0 {X : Nat → xm_PT} {Rh : Option Value → xm_M → Prop} (hX : ∀ lb, xm_le (fM_sweep X Rh lb) (X lb)) {ls : xm_L} {st : List Value} {m : xm_M} {bc bs : Nat} (h : cM_sweep_0 X Rh ls st m bc bs) : X 0 ls st m bc bs := hX 0 ls st m bc bs h
theorem eM_sweep_14 {X : Nat → xm_PT} {Rh : Option Value → xm_M → Prop} (hX : ∀ lb, xm_le (fM_sweep X Rh lb) (X lb)) {ls : xm_L} {st : List Value} {m : xm_M} {bc bs : Nat} (h : cM_sweep_14 X Rh ls st m bc bs) : X 14 ls st m bc bs := hX 14 ls st m bc bs h
set_option maxRecDepth 20000 in
set_option maxHeartbeats 4000000 in
theorem sM_sweep_59 {p : Program} {l : Launch} {e : Env} {s : State} {mm : MethodId} {args : Array Value} {below : List Frame} {meth : Method} {c : Code} {D : va_G} {A : Nat → Prop} {Rh : Option Value → xm_M → Prop} (C : xm_C p s mm args c b_M_sweep 4 "BlockVaultModel" w_M_sweep D classes ats A) (hr : meth.sig.returnType = (some .int)) (hlk : meth.locks = false) (hnm : meth.name = "sweep") : xm_le (cM_sweep_59 (xm_A p l e rm_M_sweep s mm args below meth c 4 D classes A (MQ below (xm_Q D classes Rh A) args s 0 0 A)) Rh) ((xm_A p l e rm_M_sweep s mm args below meth c 4 D classes A (MQ below (xm_Q D classes Rh A) args s 0 0 A)) 59) :=
  (xs_aload_n C d_M_sweep_59 rfl (xs_get C (k := 11) d_M_sweep_60 h_M (ci := 5) rfl (by decide) (List.mem_cons_of_mem _ tw_432) rfl (xs_iload_n C d_M_sweep_63 rfl (xs_iconst C d_M_sweep_64 (by decide) (xs_iast C d_M_sweep_65 (xs_iinc C d_M_sweep_66 (by decide) (by decide) (xs_iinc C d_M_sweep_69 (by decide) (by decide) (xs_goto C d_M_sweep_72 (by decide) (xs_jmp (fun _ _ _ _ _ h => h))))))))))
set_option maxRecDepth 20000 in
set_option maxHeartbeats 4000000 in
theorem sM_sweep_14 {p : Program} {l : Launch} {e : Env} {s : State} {mm : MethodId} {args : Array Value} {below : List Frame} {meth : Method} {c : Code} {D : va_G} {A : Nat → Prop} {Rh : Option Value → xm_M → Prop} (C : xm_C p s mm args c b_M_sweep 4 "BlockVaultModel" w_M_sweep D classes ats A) (hr : meth.sig.returnType = (some .int)) (hlk : meth.locks = false) (hnm : meth.name = "sweep") : xm_le (cM_sweep_14 (xm_A p l e rm_M_sweep s mm args below meth c 4 D classes A (MQ below (xm_Q D classes Rh A) args s 0 0 A)) Rh) ((xm_A p l e rm_M_sweep s mm args below meth c 4 D classes A (MQ below (xm_Q D classes Rh A) args s 0 0 A)) 14) :=
  (xs_iload_n C d_M_sweep_14 rfl (xs_bipush C d_M_sweep_15 (by decide) (xs_icmp_ge C d_M_sweep_17 (by decide) (xs_aload_n C d_M_sweep_75 rfl (xs_callV C (CN := "BlockVaultModel") (T := F_M) (N := 18) d_M_sweep_76 (met_M_settle l D) ⟨callB_of (ws := w_M_settle) (rm := rm_M_settle) 0 C.1.2.2.2.2 (gG_m tw_528) rfl rfl rfl (C.1.2.2.2.2 _ (List.mem_cons_of_mem _ tw_5)) (C.1.2.2.2.2 _ (List.mem_cons_of_mem _ tw_525)) ⟨by decide, by decide, by decide +kernel⟩ ⟨Nat.le_of_ble_eq_true rfl, Nat.le_of_ble_eq_true rfl⟩, (C.1.2.2.2.2 _ (List.mem_cons_of_mem _ tw_527)), (C.1.2.2.2.2 _ (List.mem_cons_of_mem _ ts_43))⟩ (ci := 5) rfl (xs_iload_n C d_M_sweep_79 rfl (xs_iret C d_M_sweep_80 hr hlk rfl rfl)))) (xs_aload_n C d_M_sweep_20 rfl (xs_get C (k := 11) d_M_sweep_21 h_M (ci := 5) rfl (by decide) (List.mem_cons_of_mem _ tw_432) rfl (xs_iload_n C d_M_sweep_24 rfl (xs_iald C d_M_sweep_25 (xs_istore_n C d_M_sweep_26 rfl (by decide) (xs_iload_n C d_M_sweep_27 rfl (xs_if_lt C d_M_sweep_28 (by decide) (xs_iinc C d_M_sweep_69 (by decide) (by decide) (xs_goto C d_M_sweep_72 (by decide) (xs_jmp (fun _ _ _ _ _ h => h)))) (xs_aload_n C d_M_sweep_31 rfl (xs_iload_n C d_M_sweep_32 rfl (xs_callV C (CN := "BlockVaultModel") (T := F_M) (N := 18) d_M_sweep_33 (met_M_expired l D) ⟨callB_of (ws := w_M_expired) (rm := rm_M_expired) 1 C.1.2.2.2.2 (gG_m tw_492) rfl rfl rfl (C.1.2.2.2.2 _ (List.mem_cons_of_mem _ tw_5)) (C.1.2.2.2.2 _ (List.mem_cons_of_mem _ tw_489)) ⟨by decide, by decide, by decide +kernel⟩ ⟨Nat.le_of_ble_eq_true rfl, Nat.le_of_ble_eq_true rfl⟩, (C.1.2.2.2.2 _ (List.mem_cons_of_mem _ tw_491)), (C.1.2.2.2.2 _ (List.mem_cons_of_mem _ ts_34))⟩ (ci := 5) rfl (xs_if_ne C d_M_sweep_36 (by decide) (xs_aload_n C d_M_sweep_39 rfl (xs_get C (k := 0) d_M_sweep_40 h_M (ci := 5) rfl (by decide) (List.mem_cons_of_mem _ tw_421) rfl (xs_iload_n C d_M_sweep_43 rfl (xs_zald C d_M_sweep_44 (xs_if_eq C d_M_sweep_45 (by decide) (xs_iinc C d_M_sweep_69 (by decide) (by decide) (xs_goto C d_M_sweep_72 (by decide) (xs_jmp (fun _ _ _ _ _ h => h)))) (xs_aload_n C d_M_sweep_48 rfl (xs_iload_n C d_M_sweep_49 rfl (xs_callV C (CN := "BlockVaultModel") (T := F_M) (N := 18) d_M_sweep_50 (met_M_hasOther l D) ⟨callB_of (ws := w_M_hasOther) (rm := rm_M_hasOther) 1 C.1.2.2.2.2 (gG_m tw_565) rfl rfl rfl (C.1.2.2.2.2 _ (List.mem_cons_of_mem _ tw_5)) (C.1.2.2.2.2 _ (List.mem_cons_of_mem _ tw_562)) ⟨by decide, by decide, by decide +kernel⟩ ⟨Nat.le_of_ble_eq_true rfl, Nat.le_of_ble_eq_true rfl⟩, (C.1.2.2.2.2 _ (List.mem_cons_of_mem _ tw_564)), (C.1.2.2.2.2 _ (List.mem_cons_of_mem _ ts_46))⟩ (ci := 5) rfl (xs_if_eq C d_M_sweep_53 (by decide) (xs_jmp (sM_sweep_59 C hr hlk hnm)) (xs_goto C d_M_sweep_56 (by decide) (xs_iinc C d_M_sweep_69 (by decide) (by decide) (xs_goto C d_M_sweep_72 (by decide) (xs_jmp (fun _ _ _ _ _ h => h)))))))))))))) (xs_jmp (sM_sweep_59 C hr hlk hnm))))))))))))))))
set_option maxRecDepth 20000 in
set_option maxHeartbeats 4000000 in
theorem sM_sweep_0 {p : Program} {l : Launch} {e : Env} {s : State} {mm : MethodId} {args : Array Value} {below : List Frame} {meth : Method} {c : Code} {D : va_G} {A : Nat → Prop} {Rh : Option Value → xm_M → Prop} (C : xm_C p s mm args c b_M_sweep 4 "BlockVaultModel" w_M_sweep D classes ats A) (hr : meth.sig.returnType = (some .int)) (hlk : meth.locks = false) (hnm : meth.name = "sweep") : xm_le (cM_sweep_0 (xm_A p l e rm_M_sweep s mm args below meth c 4 D classes A (MQ below (xm_Q D classes Rh A) args s 0 0 A)) Rh) ((xm_A p l e rm_M_sweep s mm args below meth c 4 D classes A (MQ below (xm_Q D classes Rh A) args s 0 0 A)) 0) :=
  (xs_aload_n C d_M_sweep_0 rfl (xs_get C (k := 17) d_M_sweep_1 h_M (ci := 5) rfl (by decide) (List.mem_cons_of_mem _ tw_438) rfl (xs_if_eq C d_M_sweep_4 (by decide) (xs_iconst C d_M_sweep_10 (by decide) (xs_istore_n C d_M_sweep_11 rfl (by decide) (xs_iconst C d_M_sweep_12 (by decide) (xs_istore_n C d_M_sweep_13 rfl (by decide) (xs_jmp (fun _ _ _ _ _ h => h)))))) (xs_bipush C d_M_sweep_7 (by decide) (xs_iret C d_M_sweep_9 hr hlk rfl rfl)))))
theorem met_M_sweep (l : Launch) (D : va_G) : xm_Met l D classes ats y_M_sweep w_M_sweep rm_M_sweep 0 0 cp_M_sweep := by
  refine xm_met 0 (by decide) rfl rfl rfl (fun p e s mm args below meth c A Rh C hr hlk hnm lb => ?_)
  unfold fM_sweep
  split
  · rename_i h; subst h; exact sM_sweep_0 C hr hlk hnm
  split
  · rename_i h; subst h; exact sM_sweep_14 C hr hlk hnm
  · exact fun _ _ _ _ _ h => h.elim
theorem d_M_seal_0 : decode b_M_seal 0 = .ok (.aload_n 0, 1) := by decide +kernel
theorem d_M_seal_1 : decode b_M_seal 1 = .ok (.getfield 96, 3) := by decide +kernel
theorem d_M_seal_4 : decode b_M_seal 4 = .ok (.ifCond .eq 6, 3) := by decide +kernel
theorem d_M_seal_7 : decode b_M_seal 7 = .ok (.bipush (-2), 2) := by decide +kernel
theorem d_M_seal_9 : decode b_M_seal 9 = .ok (.ireturn, 1) := by decide +kernel
theorem d_M_seal_10 : decode b_M_seal 10 = .ok (.aload_n 0, 1) := by decide +kernel
theorem d_M_seal_11 : decode b_M_seal 11 = .ok (.iconst 1, 1) := by decide +kernel
theorem d_M_seal_12 : decode b_M_seal 12 = .ok (.invokevirtual 65, 3) := by decide +kernel
theorem d_M_seal_15 : decode b_M_seal 15 = .ok (.istore_n 1, 1) := by decide +kernel
theorem d_M_seal_16 : decode b_M_seal 16 = .ok (.iload_n 1, 1) := by decide +kernel
theorem d_M_seal_17 : decode b_M_seal 17 = .ok (.ifCond .ge 5, 3) := by decide +kernel
theorem d_M_seal_20 : decode b_M_seal 20 = .ok (.iconst 0, 1) := by decide +kernel
theorem d_M_seal_21 : decode b_M_seal 21 = .ok (.ireturn, 1) := by decide +kernel
theorem d_M_seal_22 : decode b_M_seal 22 = .ok (.aload_n 0, 1) := by decide +kernel
theorem d_M_seal_23 : decode b_M_seal 23 = .ok (.invokevirtual 71, 3) := by decide +kernel
theorem d_M_seal_26 : decode b_M_seal 26 = .ok (.iconst 3, 1) := by decide +kernel
theorem d_M_seal_27 : decode b_M_seal 27 = .ok (.if_icmp .ne 6, 3) := by decide +kernel
theorem d_M_seal_30 : decode b_M_seal 30 = .ok (.bipush (-5), 2) := by decide +kernel
theorem d_M_seal_32 : decode b_M_seal 32 = .ok (.ireturn, 1) := by decide +kernel
theorem d_M_seal_33 : decode b_M_seal 33 = .ok (.aload_n 0, 1) := by decide +kernel
theorem d_M_seal_34 : decode b_M_seal 34 = .ok (.iload_n 1, 1) := by decide +kernel
theorem d_M_seal_35 : decode b_M_seal 35 = .ok (.invokevirtual 75, 3) := by decide +kernel
theorem d_M_seal_38 : decode b_M_seal 38 = .ok (.iconst 1, 1) := by decide +kernel
theorem d_M_seal_39 : decode b_M_seal 39 = .ok (.ireturn, 1) := by decide +kernel
-- BlockVaultModel.seal()I: labels [0], loops []
abbrev rm_M_seal : Room := { frames := 1, cells := 0, slots := 0, locals := 23 }
def cM_seal_0 (X : Nat → xm_PT) (Rh : Option Value → xm_M → Prop) : xm_PT := (xo_aload 0 (xo_get 5 17 (xo_if (fun x => x = 0) (xo_aload 0 (xo_push (.int 1) (xo_callV 5 1 0 0 cp_M_first (xo_istore 1 (xo_iload 1 (xo_if (fun x => 0 ≤ x) (xo_aload 0 (xo_callV 5 0 0 0 cp_M_sealed (xo_push (.int (nI 3)) (xo_icmp (fun x y => x = y) (xo_push (.int (-5)) (xo_iret Rh)) (xo_aload 0 (xo_iload 1 (xo_callV 5 1 0 0 cp_M_close (xo_push (.int 1) (xo_iret Rh))))))))) (xo_push (.int 0) (xo_iret Rh)))))))) (xo_push (.int (-2)) (xo_iret Rh)))))
def fM_seal : xm_F := fun X Rh lb => if lb = 0 then cM_seal_0 X Rh else fun _ _ _ _ _ => False
def cp_M_seal : xm_CP := fun as m Rh => (lg_sl as).length ≤ 2 ∧ xm_cp fM_seal 0 0 as m Rh
theorem eM_seal_0 {X : Nat → xm_PT} {Rh : Option Value → xm_M → Prop} (hX : ∀ lb, xm_le (fM_seal X Rh lb) (X lb)) {ls : xm_L} {st : List Value} {m : xm_M} {bc bs : Nat} (h : cM_seal_0 X Rh ls st m bc bs) : X 0 ls st m bc bs := hX 0 ls st m bc bs h
set_option maxRecDepth 20000 in
set_option maxHeartbeats 4000000 in
theorem sM_seal_0 {p : Program} {l : Launch} {e : Env} {s : State} {mm : MethodId} {args : Array Value} {below : List Frame} {meth : Method} {c : Code} {D : va_G} {A : Nat → Prop} {Rh : Option Value → xm_M → Prop} (C : xm_C p s mm args c b_M_seal 2 "BlockVaultModel" w_M_seal D classes ats A) (hr : meth.sig.returnType = (some .int)) (hlk : meth.locks = false) (hnm : meth.name = "seal") : xm_le (cM_seal_0 (xm_A p l e rm_M_seal s mm args below meth c 2 D classes A (MQ below (xm_Q D classes Rh A) args s 0 0 A)) Rh) ((xm_A p l e rm_M_seal s mm args below meth c 2 D classes A (MQ below (xm_Q D classes Rh A) args s 0 0 A)) 0) :=
  (xs_aload_n C d_M_seal_0 rfl (xs_get C (k := 17) d_M_seal_1 h_M (ci := 5) rfl (by decide) (List.mem_cons_of_mem _ tw_438) rfl (xs_if_eq C d_M_seal_4 (by decide) (xs_aload_n C d_M_seal_10 rfl (xs_iconst C d_M_seal_11 (by decide) (xs_callV C (CN := "BlockVaultModel") (T := F_M) (N := 18) d_M_seal_12 (met_M_first l D) ⟨callB_of (ws := w_M_first) (rm := rm_M_first) 1 C.1.2.2.2.2 (gG_m tw_508) rfl rfl rfl (C.1.2.2.2.2 _ (List.mem_cons_of_mem _ tw_5)) (C.1.2.2.2.2 _ (List.mem_cons_of_mem _ tw_505)) ⟨by decide, by decide, by decide +kernel⟩ ⟨Nat.le_of_ble_eq_true rfl, Nat.le_of_ble_eq_true rfl⟩, (C.1.2.2.2.2 _ (List.mem_cons_of_mem _ tw_507)), (C.1.2.2.2.2 _ (List.mem_cons_of_mem _ ts_38))⟩ (ci := 5) rfl (xs_istore_n C d_M_seal_15 rfl (by decide) (xs_iload_n C d_M_seal_16 rfl (xs_if_ge C d_M_seal_17 (by decide) (xs_aload_n C d_M_seal_22 rfl (xs_callV C (CN := "BlockVaultModel") (T := F_M) (N := 18) d_M_seal_23 (met_M_sealed l D) ⟨callB_of (ws := w_M_sealed) (rm := rm_M_sealed) 0 C.1.2.2.2.2 (gG_m tw_516) rfl rfl rfl (C.1.2.2.2.2 _ (List.mem_cons_of_mem _ tw_5)) (C.1.2.2.2.2 _ (List.mem_cons_of_mem _ tw_513)) ⟨by decide, by decide, by decide +kernel⟩ ⟨Nat.le_of_ble_eq_true rfl, Nat.le_of_ble_eq_true rfl⟩, (C.1.2.2.2.2 _ (List.mem_cons_of_mem _ tw_515)), (C.1.2.2.2.2 _ (List.mem_cons_of_mem _ ts_40))⟩ (ci := 5) rfl (xs_iconst C d_M_seal_26 (by decide) (xs_icmp_ne C d_M_seal_27 (by decide) (xs_bipush C d_M_seal_30 (by decide) (xs_iret C d_M_seal_32 hr hlk rfl rfl)) (xs_aload_n C d_M_seal_33 rfl (xs_iload_n C d_M_seal_34 rfl (xs_callV C (CN := "BlockVaultModel") (T := F_M) (N := 18) d_M_seal_35 (met_M_close l D) ⟨callB_of (ws := w_M_close) (rm := rm_M_close) 1 C.1.2.2.2.2 (gG_m tw_520) rfl rfl rfl (C.1.2.2.2.2 _ (List.mem_cons_of_mem _ tw_5)) (C.1.2.2.2.2 _ (List.mem_cons_of_mem _ tw_517)) ⟨by decide, by decide, by decide +kernel⟩ ⟨Nat.le_of_ble_eq_true rfl, Nat.le_of_ble_eq_true rfl⟩, (C.1.2.2.2.2 _ (List.mem_cons_of_mem _ tw_519)), (C.1.2.2.2.2 _ (List.mem_cons_of_mem _ ts_41))⟩ (ci := 5) rfl (xs_iconst C d_M_seal_38 (by decide) (xs_iret C d_M_seal_39 hr hlk rfl rfl))))))))) (xs_iconst C d_M_seal_20 (by decide) (xs_iret C d_M_seal_21 hr hlk rfl rfl)))))))) (xs_bipush C d_M_seal_7 (by decide) (xs_iret C d_M_seal_9 hr hlk rfl rfl)))))
theorem met_M_seal (l : Launch) (D : va_G) : xm_Met l D classes ats y_M_seal w_M_seal rm_M_seal 0 0 cp_M_seal := by
  refine xm_met 0 (by decide) rfl rfl rfl (fun p e s mm args below meth c A Rh C hr hlk hnm lb => ?_)
  unfold fM_seal
  split
  · rename_i h; subst h; exact sM_seal_0 C hr hlk hnm
  · exact fun _ _ _ _ _ h => h.elim
theorem d_M_store_0 : decode b_M_store 0 = .ok (.iconst 0, 1) := by decide +kernel
theorem d_M_store_1 : decode b_M_store 1 = .ok (.istore_n 3, 1) := by decide +kernel
theorem d_M_store_2 : decode b_M_store 2 = .ok (.iload_n 3, 1) := by decide +kernel
theorem d_M_store_3 : decode b_M_store 3 = .ok (.iload_n 2, 1) := by decide +kernel
theorem d_M_store_4 : decode b_M_store 4 = .ok (.if_icmp .ge 28, 3) := by decide +kernel
theorem d_M_store_7 : decode b_M_store 7 = .ok (.aload_n 0, 1) := by decide +kernel
theorem d_M_store_8 : decode b_M_store 8 = .ok (.bipush 12, 2) := by decide +kernel
theorem d_M_store_10 : decode b_M_store 10 = .ok (.iload_n 1, 1) := by decide +kernel
theorem d_M_store_11 : decode b_M_store 11 = .ok (.imul, 1) := by decide +kernel
theorem d_M_store_12 : decode b_M_store 12 = .ok (.iload_n 3, 1) := by decide +kernel
theorem d_M_store_13 : decode b_M_store 13 = .ok (.iadd, 1) := by decide +kernel
theorem d_M_store_14 : decode b_M_store 14 = .ok (.bipush 96, 2) := by decide +kernel
theorem d_M_store_16 : decode b_M_store 16 = .ok (.bipush 12, 2) := by decide +kernel
theorem d_M_store_18 : decode b_M_store 18 = .ok (.iload_n 1, 1) := by decide +kernel
theorem d_M_store_19 : decode b_M_store 19 = .ok (.imul, 1) := by decide +kernel
theorem d_M_store_20 : decode b_M_store 20 = .ok (.iadd, 1) := by decide +kernel
theorem d_M_store_21 : decode b_M_store 21 = .ok (.iload_n 3, 1) := by decide +kernel
theorem d_M_store_22 : decode b_M_store 22 = .ok (.iadd, 1) := by decide +kernel
theorem d_M_store_23 : decode b_M_store 23 = .ok (.invokevirtual 79, 3) := by decide +kernel
theorem d_M_store_26 : decode b_M_store 26 = .ok (.iinc 3 1, 3) := by decide +kernel
theorem d_M_store_29 : decode b_M_store 29 = .ok (.goto (-27), 3) := by decide +kernel
theorem d_M_store_32 : decode b_M_store 32 = .ok (.aload_n 0, 1) := by decide +kernel
theorem d_M_store_33 : decode b_M_store 33 = .ok (.getfield 32, 3) := by decide +kernel
theorem d_M_store_36 : decode b_M_store 36 = .ok (.bipush 8, 2) := by decide +kernel
theorem d_M_store_38 : decode b_M_store 38 = .ok (.iload_n 1, 1) := by decide +kernel
theorem d_M_store_39 : decode b_M_store 39 = .ok (.iadd, 1) := by decide +kernel
theorem d_M_store_40 : decode b_M_store 40 = .ok (.iload_n 2, 1) := by decide +kernel
theorem d_M_store_41 : decode b_M_store 41 = .ok (.iastore, 1) := by decide +kernel
theorem d_M_store_42 : decode b_M_store 42 = .ok (.return_, 1) := by decide +kernel
-- BlockVaultModel.store(II)V: labels [0, 2], loops [2]
abbrev rm_M_store : Room := { frames := 1, cells := 0, slots := 0, locals := 22 }
def cM_store_2 (X : Nat → xm_PT) (Rh : Option Value → xm_M → Prop) : xm_PT := (xo_iload 3 (xo_iload 2 (xo_icmp (fun x y => y ≤ x) (xo_aload 0 (xo_get 5 7 (xo_push (.int (nI 8)) (xo_iload 1 (xo_ibin (fun x y => x + y) (xo_iload 2 (xo_iast ats (xo_vret Rh)))))))) (xo_aload 0 (xo_push (.int (nI 12)) (xo_iload 1 (xo_ibin (fun x y => x * y) (xo_iload 3 (xo_ibin (fun x y => x + y) (xo_push (.int (nI 96)) (xo_push (.int (nI 12)) (xo_iload 1 (xo_ibin (fun x y => x * y) (xo_ibin (fun x y => x + y) (xo_iload 3 (xo_ibin (fun x y => x + y) (xo_callV 5 2 0 0 cp_M_copy (xo_iinc 3 1 (xo_jmp [0, 1, 2, 3] (X 2))))))))))))))))))))
def cM_store_0 (X : Nat → xm_PT) (Rh : Option Value → xm_M → Prop) : xm_PT := (xo_push (.int 0) (xo_istore 3 (xo_jmp [0, 1, 2, 3] (X 2))))
def fM_store : xm_F := fun X Rh lb => if lb = 0 then cM_store_0 X Rh else (if lb = 2 then cM_store_2 X Rh else fun _ _ _ _ _ => False)
def cp_M_store : xm_CP := fun as m Rh => (lg_sl as).length ≤ 4 ∧ xm_cp fM_store 0 0 as m Rh
theorem eM_store_0 {X : Nat → xm_PT} {Rh : Option Value → xm_M → Prop} (hX : ∀ lb, xm_le (fM_store X Rh lb) (X lb)) {ls : xm_L} {st : List Value} {m : xm_M} {bc bs : Nat} (h : cM_store_0 X Rh ls st m bc bs) : X 0 ls st m bc bs := hX 0 ls st m bc bs h
theorem eM_store_2 {X : Nat → xm_PT} {Rh : Option Value → xm_M → Prop} (hX : ∀ lb, xm_le (fM_store X Rh lb) (X lb)) {ls : xm_L} {st : List Value} {m : xm_M} {bc bs : Nat} (h : cM_store_2 X Rh ls st m bc bs) : X 2 ls st m bc bs := hX 2 ls st m bc bs h
set_option maxRecDepth 20000 in
set_option maxHeartbeats 4000000 in
theorem sM_store_2 {p : Program} {l : Launch} {e : Env} {s : State} {mm : MethodId} {args : Array Value} {below : List Frame} {meth : Method} {c : Code} {D : va_G} {A : Nat → Prop} {Rh : Option Value → xm_M → Prop} (C : xm_C p s mm args c b_M_store 4 "BlockVaultModel" w_M_store D classes ats A) (hr : meth.sig.returnType = none) (hlk : meth.locks = false) (hnm : meth.name = "store") : xm_le (cM_store_2 (xm_A p l e rm_M_store s mm args below meth c 4 D classes A (MQ below (xm_Q D classes Rh A) args s 0 0 A)) Rh) ((xm_A p l e rm_M_store s mm args below meth c 4 D classes A (MQ below (xm_Q D classes Rh A) args s 0 0 A)) 2) :=
  (xs_iload_n C d_M_store_2 rfl (xs_iload_n C d_M_store_3 rfl (xs_icmp_ge C d_M_store_4 (by decide) (xs_aload_n C d_M_store_32 rfl (xs_get C (k := 7) d_M_store_33 h_M (ci := 5) rfl (by decide) (List.mem_cons_of_mem _ tw_428) rfl (xs_bipush C d_M_store_36 (by decide) (xs_iload_n C d_M_store_38 rfl (xs_iadd C d_M_store_39 (xs_iload_n C d_M_store_40 rfl (xs_iast C d_M_store_41 (xs_vret C d_M_store_42 hr hlk rfl rfl)))))))) (xs_aload_n C d_M_store_7 rfl (xs_bipush C d_M_store_8 (by decide) (xs_iload_n C d_M_store_10 rfl (xs_imul C d_M_store_11 (xs_iload_n C d_M_store_12 rfl (xs_iadd C d_M_store_13 (xs_bipush C d_M_store_14 (by decide) (xs_bipush C d_M_store_16 (by decide) (xs_iload_n C d_M_store_18 rfl (xs_imul C d_M_store_19 (xs_iadd C d_M_store_20 (xs_iload_n C d_M_store_21 rfl (xs_iadd C d_M_store_22 (xs_callV C (CN := "BlockVaultModel") (T := F_M) (N := 18) d_M_store_23 (met_M_copy l D) ⟨callB_of (ws := w_M_copy) (rm := rm_M_copy) 2 C.1.2.2.2.2 (gG_m tw_524) rfl rfl rfl (C.1.2.2.2.2 _ (List.mem_cons_of_mem _ tw_5)) (C.1.2.2.2.2 _ (List.mem_cons_of_mem _ tw_521)) ⟨by decide, by decide, by decide +kernel⟩ ⟨Nat.le_of_ble_eq_true rfl, Nat.le_of_ble_eq_true rfl⟩, (C.1.2.2.2.2 _ (List.mem_cons_of_mem _ tw_523)), (C.1.2.2.2.2 _ (List.mem_cons_of_mem _ ts_42))⟩ (ci := 5) rfl (xs_iinc C d_M_store_26 (by decide) (by decide) (xs_goto C d_M_store_29 (by decide) (xs_jmp (fun _ _ _ _ _ h => h)))))))))))))))))))))
set_option maxRecDepth 20000 in
set_option maxHeartbeats 4000000 in
theorem sM_store_0 {p : Program} {l : Launch} {e : Env} {s : State} {mm : MethodId} {args : Array Value} {below : List Frame} {meth : Method} {c : Code} {D : va_G} {A : Nat → Prop} {Rh : Option Value → xm_M → Prop} (C : xm_C p s mm args c b_M_store 4 "BlockVaultModel" w_M_store D classes ats A) (hr : meth.sig.returnType = none) (hlk : meth.locks = false) (hnm : meth.name = "store") : xm_le (cM_store_0 (xm_A p l e rm_M_store s mm args below meth c 4 D classes A (MQ below (xm_Q D classes Rh A) args s 0 0 A)) Rh) ((xm_A p l e rm_M_store s mm args below meth c 4 D classes A (MQ below (xm_Q D classes Rh A) args s 0 0 A)) 0) :=
  (xs_iconst C d_M_store_0 (by decide) (xs_istore_n C d_M_store_1 rfl (by decide) (xs_jmp (fun _ _ _ _ _ h => h))))
theorem met_M_store (l : Launch) (D : va_G) : xm_Met l D classes ats y_M_store w_M_store rm_M_store 0 0 cp_M_store := by
  refine xm_met 0 (by decide) rfl rfl rfl (fun p e s mm args below meth c A Rh C hr hlk hnm lb => ?_)
  unfold fM_store
  split
  · rename_i h; subst h; exact sM_store_0 C hr hlk hnm
  split
  · rename_i h; subst h; exact sM_store_2 C hr hlk hnm
  · exact fun _ _ _ _ _ h => h.elim
theorem d_M_flush_0 : decode b_M_flush 0 = .ok (.iload_n 1, 1) := by decide +kernel
theorem d_M_flush_1 : decode b_M_flush 1 = .ok (.iconst 1, 1) := by decide +kernel
theorem d_M_flush_2 : decode b_M_flush 2 = .ok (.iconst 3, 1) := by decide +kernel
theorem d_M_flush_3 : decode b_M_flush 3 = .ok (.invokestatic 92, 3) := by decide +kernel
theorem d_M_flush_6 : decode b_M_flush 6 = .ok (.ifCond .ne 5, 3) := by decide +kernel
theorem d_M_flush_9 : decode b_M_flush 9 = .ok (.iconst (-1), 1) := by decide +kernel
theorem d_M_flush_10 : decode b_M_flush 10 = .ok (.ireturn, 1) := by decide +kernel
theorem d_M_flush_11 : decode b_M_flush 11 = .ok (.aload_n 0, 1) := by decide +kernel
theorem d_M_flush_12 : decode b_M_flush 12 = .ok (.getfield 96, 3) := by decide +kernel
theorem d_M_flush_15 : decode b_M_flush 15 = .ok (.ifCond .eq 6, 3) := by decide +kernel
theorem d_M_flush_18 : decode b_M_flush 18 = .ok (.bipush (-2), 2) := by decide +kernel
theorem d_M_flush_20 : decode b_M_flush 20 = .ok (.ireturn, 1) := by decide +kernel
theorem d_M_flush_21 : decode b_M_flush 21 = .ok (.iconst 0, 1) := by decide +kernel
theorem d_M_flush_22 : decode b_M_flush 22 = .ok (.istore_n 2, 1) := by decide +kernel
theorem d_M_flush_23 : decode b_M_flush 23 = .ok (.iload_n 2, 1) := by decide +kernel
theorem d_M_flush_24 : decode b_M_flush 24 = .ok (.iload_n 1, 1) := by decide +kernel
theorem d_M_flush_25 : decode b_M_flush 25 = .ok (.if_icmp .ge 76, 3) := by decide +kernel
theorem d_M_flush_28 : decode b_M_flush 28 = .ok (.aload_n 0, 1) := by decide +kernel
theorem d_M_flush_29 : decode b_M_flush 29 = .ok (.iconst 2, 1) := by decide +kernel
theorem d_M_flush_30 : decode b_M_flush 30 = .ok (.invokevirtual 65, 3) := by decide +kernel
theorem d_M_flush_33 : decode b_M_flush 33 = .ok (.ifCond .lt 68, 3) := by decide +kernel
theorem d_M_flush_36 : decode b_M_flush 36 = .ok (.aload_n 0, 1) := by decide +kernel
theorem d_M_flush_37 : decode b_M_flush 37 = .ok (.iconst 2, 1) := by decide +kernel
theorem d_M_flush_38 : decode b_M_flush 38 = .ok (.invokevirtual 65, 3) := by decide +kernel
theorem d_M_flush_41 : decode b_M_flush 41 = .ok (.istore_n 3, 1) := by decide +kernel
theorem d_M_flush_42 : decode b_M_flush 42 = .ok (.aload_n 0, 1) := by decide +kernel
theorem d_M_flush_43 : decode b_M_flush 43 = .ok (.iload_n 3, 1) := by decide +kernel
theorem d_M_flush_44 : decode b_M_flush 44 = .ok (.aload_n 0, 1) := by decide +kernel
theorem d_M_flush_45 : decode b_M_flush 45 = .ok (.getfield 32, 3) := by decide +kernel
theorem d_M_flush_48 : decode b_M_flush 48 = .ok (.iload_n 3, 1) := by decide +kernel
theorem d_M_flush_49 : decode b_M_flush 49 = .ok (.iaload, 1) := by decide +kernel
theorem d_M_flush_50 : decode b_M_flush 50 = .ok (.invokevirtual 115, 3) := by decide +kernel
theorem d_M_flush_53 : decode b_M_flush 53 = .ok (.aload_n 0, 1) := by decide +kernel
theorem d_M_flush_54 : decode b_M_flush 54 = .ok (.getfield 35, 3) := by decide +kernel
theorem d_M_flush_57 : decode b_M_flush 57 = .ok (.iload_n 3, 1) := by decide +kernel
theorem d_M_flush_58 : decode b_M_flush 58 = .ok (.iconst 3, 1) := by decide +kernel
theorem d_M_flush_59 : decode b_M_flush 59 = .ok (.iastore, 1) := by decide +kernel
theorem d_M_flush_60 : decode b_M_flush 60 = .ok (.iconst 0, 1) := by decide +kernel
theorem d_M_flush_61 : decode b_M_flush 61 = .ok (.istore 4, 2) := by decide +kernel
theorem d_M_flush_63 : decode b_M_flush 63 = .ok (.iload 4, 2) := by decide +kernel
theorem d_M_flush_65 : decode b_M_flush 65 = .ok (.bipush 8, 2) := by decide +kernel
theorem d_M_flush_67 : decode b_M_flush 67 = .ok (.if_icmp .ge 24, 3) := by decide +kernel
theorem d_M_flush_70 : decode b_M_flush 70 = .ok (.aload_n 0, 1) := by decide +kernel
theorem d_M_flush_71 : decode b_M_flush 71 = .ok (.getfield 41, 3) := by decide +kernel
theorem d_M_flush_74 : decode b_M_flush 74 = .ok (.iload 4, 2) := by decide +kernel
theorem d_M_flush_76 : decode b_M_flush 76 = .ok (.dup2, 1) := by decide +kernel
theorem d_M_flush_77 : decode b_M_flush 77 = .ok (.iaload, 1) := by decide +kernel
theorem d_M_flush_78 : decode b_M_flush 78 = .ok (.iconst 1, 1) := by decide +kernel
theorem d_M_flush_79 : decode b_M_flush 79 = .ok (.iload_n 3, 1) := by decide +kernel
theorem d_M_flush_80 : decode b_M_flush 80 = .ok (.ishl, 1) := by decide +kernel
theorem d_M_flush_81 : decode b_M_flush 81 = .ok (.iconst (-1), 1) := by decide +kernel
theorem d_M_flush_82 : decode b_M_flush 82 = .ok (.ixor, 1) := by decide +kernel
theorem d_M_flush_83 : decode b_M_flush 83 = .ok (.iand, 1) := by decide +kernel
theorem d_M_flush_84 : decode b_M_flush 84 = .ok (.iastore, 1) := by decide +kernel
theorem d_M_flush_85 : decode b_M_flush 85 = .ok (.iinc 4 1, 3) := by decide +kernel
theorem d_M_flush_88 : decode b_M_flush 88 = .ok (.goto (-25), 3) := by decide +kernel
theorem d_M_flush_91 : decode b_M_flush 91 = .ok (.aload_n 0, 1) := by decide +kernel
theorem d_M_flush_92 : decode b_M_flush 92 = .ok (.invokevirtual 83, 3) := by decide +kernel
theorem d_M_flush_95 : decode b_M_flush 95 = .ok (.iinc 2 1, 3) := by decide +kernel
theorem d_M_flush_98 : decode b_M_flush 98 = .ok (.goto (-75), 3) := by decide +kernel
theorem d_M_flush_101 : decode b_M_flush 101 = .ok (.aload_n 0, 1) := by decide +kernel
theorem d_M_flush_102 : decode b_M_flush 102 = .ok (.dup, 1) := by decide +kernel
theorem d_M_flush_103 : decode b_M_flush 103 = .ok (.getfield 118, 3) := by decide +kernel
theorem d_M_flush_106 : decode b_M_flush 106 = .ok (.iload_n 2, 1) := by decide +kernel
theorem d_M_flush_107 : decode b_M_flush 107 = .ok (.iadd, 1) := by decide +kernel
theorem d_M_flush_108 : decode b_M_flush 108 = .ok (.putfield 118, 3) := by decide +kernel
theorem d_M_flush_111 : decode b_M_flush 111 = .ok (.iload_n 2, 1) := by decide +kernel
theorem d_M_flush_112 : decode b_M_flush 112 = .ok (.ireturn, 1) := by decide +kernel
-- BlockVaultModel.flush(I)I: labels [0, 23, 63, 101], loops [23, 63]
abbrev rm_M_flush : Room := { frames := 2, cells := 0, slots := 0, locals := 45 }
def cM_flush_101 (X : Nat → xm_PT) (Rh : Option Value → xm_M → Prop) : xm_PT := (xo_aload 0 (xo_dup (xo_get 5 15 (xo_iload 2 (xo_ibin (fun x y => x + y) (xo_put 5 15 .int (xo_iload 2 (xo_iret Rh))))))))
def cM_flush_63 (X : Nat → xm_PT) (Rh : Option Value → xm_M → Prop) : xm_PT := (xo_iload 4 (xo_push (.int (nI 8)) (xo_icmp (fun x y => y ≤ x) (xo_aload 0 (xo_callV 5 0 0 0 cp_M_settle (xo_iinc 2 1 (xo_jmp [0, 1, 2] (X 23))))) (xo_aload 0 (xo_get 5 10 (xo_iload 4 (xo_dup2 (xo_iald ats (xo_push (.int 1) (xo_iload 3 (xo_ibin (fun x y => x <<< (y &&& 31)) (xo_push (.int (-1)) (xo_ibin (fun x y => x ^^^ y) (xo_ibin (fun x y => x &&& y) (xo_iast ats (xo_iinc 4 1 (xo_jmp [0, 1, 2, 3, 4] (X 63))))))))))))))))))
def cM_flush_23 (X : Nat → xm_PT) (Rh : Option Value → xm_M → Prop) : xm_PT := (xo_iload 2 (xo_iload 1 (xo_icmp (fun x y => y ≤ x) (xo_jmp [0, 2] (cM_flush_101 X Rh)) (xo_aload 0 (xo_push (.int (nI 2)) (xo_callV 5 1 0 0 cp_M_first (xo_if (fun x => x < 0) (xo_jmp [0, 2] (cM_flush_101 X Rh)) (xo_aload 0 (xo_push (.int (nI 2)) (xo_callV 5 1 0 0 cp_M_first (xo_istore 3 (xo_aload 0 (xo_iload 3 (xo_aload 0 (xo_get 5 7 (xo_iload 3 (xo_iald ats (xo_callV 5 2 0 0 cp_M_store (xo_aload 0 (xo_get 5 8 (xo_iload 3 (xo_push (.int (nI 3)) (xo_iast ats (xo_push (.int 0) (xo_istore 4 (xo_jmp [0, 1, 2, 3, 4] (X 63)))))))))))))))))))))))))))
def cM_flush_0 (X : Nat → xm_PT) (Rh : Option Value → xm_M → Prop) : xm_PT := (xo_iload 1 (xo_push (.int 1) (xo_push (.int (nI 3)) (xo_callS 3 0 0 cp_M_in (xo_if (fun x => x = 0) (xo_push (.int (-1)) (xo_iret Rh)) (xo_aload 0 (xo_get 5 17 (xo_if (fun x => x = 0) (xo_push (.int 0) (xo_istore 2 (xo_jmp [0, 1, 2] (X 23)))) (xo_push (.int (-2)) (xo_iret Rh))))))))))
def fM_flush : xm_F := fun X Rh lb => if lb = 0 then cM_flush_0 X Rh else (if lb = 23 then cM_flush_23 X Rh else (if lb = 63 then cM_flush_63 X Rh else fun _ _ _ _ _ => False))
def cp_M_flush : xm_CP := fun as m Rh => (lg_sl as).length ≤ 5 ∧ xm_cp fM_flush 0 0 as m Rh
theorem eM_flush_0 {X : Nat → xm_PT} {Rh : Option Value → xm_M → Prop} (hX : ∀ lb, xm_le (fM_flush X Rh lb) (X lb)) {ls : xm_L} {st : List Value} {m : xm_M} {bc bs : Nat} (h : cM_flush_0 X Rh ls st m bc bs) : X 0 ls st m bc bs := hX 0 ls st m bc bs h
theorem eM_flush_23 {X : Nat → xm_PT} {Rh : Option Value → xm_M → Prop} (hX : ∀ lb, xm_le (fM_flush X Rh lb) (X lb)) {ls : xm_L} {st : List Value} {m : xm_M} {bc bs : Nat} (h : cM_flush_23 X Rh ls st m bc bs) : X 23 ls st m bc bs := hX 23 ls st m bc bs h
theorem eM_flush_63 {X : Nat → xm_PT} {Rh : Option Value → xm_M → Prop} (hX : ∀ lb, xm_le (fM_flush X Rh lb) (X lb)) {ls : xm_L} {st : List Value} {m : xm_M} {bc bs : Nat} (h : cM_flush_63 X Rh ls st m bc bs) : X 63 ls st m bc bs := hX 63 ls st m bc bs h
set_option maxRecDepth 20000 in
set_option maxHeartbeats 4000000 in
theorem sM_flush_101 {p : Program} {l : Launch} {e : Env} {s : State} {mm : MethodId} {args : Array Value} {below : List Frame} {meth : Method} {c : Code} {D : va_G} {A : Nat → Prop} {Rh : Option Value → xm_M → Prop} (C : xm_C p s mm args c b_M_flush 5 "BlockVaultModel" w_M_flush D classes ats A) (hr : meth.sig.returnType = (some .int)) (hlk : meth.locks = false) (hnm : meth.name = "flush") : xm_le (cM_flush_101 (xm_A p l e rm_M_flush s mm args below meth c 5 D classes A (MQ below (xm_Q D classes Rh A) args s 0 0 A)) Rh) ((xm_A p l e rm_M_flush s mm args below meth c 5 D classes A (MQ below (xm_Q D classes Rh A) args s 0 0 A)) 101) :=
  (xs_aload_n C d_M_flush_101 rfl (xs_dup C d_M_flush_102 (xs_get C (k := 15) d_M_flush_103 h_M (ci := 5) rfl (by decide) (List.mem_cons_of_mem _ tw_436) rfl (xs_iload_n C d_M_flush_106 rfl (xs_iadd C d_M_flush_107 (xs_put C (k := 15) d_M_flush_108 h_M t_M t_M_ok n_M (ci := 5) rfl (by decide) (List.mem_cons_of_mem _ tw_436) rfl rfl (by decide +kernel) (xs_iload_n C d_M_flush_111 rfl (xs_iret C d_M_flush_112 hr hlk rfl rfl))))))))
set_option maxRecDepth 20000 in
set_option maxHeartbeats 4000000 in
theorem sM_flush_63 {p : Program} {l : Launch} {e : Env} {s : State} {mm : MethodId} {args : Array Value} {below : List Frame} {meth : Method} {c : Code} {D : va_G} {A : Nat → Prop} {Rh : Option Value → xm_M → Prop} (C : xm_C p s mm args c b_M_flush 5 "BlockVaultModel" w_M_flush D classes ats A) (hr : meth.sig.returnType = (some .int)) (hlk : meth.locks = false) (hnm : meth.name = "flush") : xm_le (cM_flush_63 (xm_A p l e rm_M_flush s mm args below meth c 5 D classes A (MQ below (xm_Q D classes Rh A) args s 0 0 A)) Rh) ((xm_A p l e rm_M_flush s mm args below meth c 5 D classes A (MQ below (xm_Q D classes Rh A) args s 0 0 A)) 63) :=
  (xs_iload C d_M_flush_63 (xs_bipush C d_M_flush_65 (by decide) (xs_icmp_ge C d_M_flush_67 (by decide) (xs_aload_n C d_M_flush_91 rfl (xs_callV C (CN := "BlockVaultModel") (T := F_M) (N := 18) d_M_flush_92 (met_M_settle l D) ⟨callB_of (ws := w_M_settle) (rm := rm_M_settle) 0 C.1.2.2.2.2 (gG_m tw_528) rfl rfl rfl (C.1.2.2.2.2 _ (List.mem_cons_of_mem _ tw_5)) (C.1.2.2.2.2 _ (List.mem_cons_of_mem _ tw_525)) ⟨by decide, by decide, by decide +kernel⟩ ⟨Nat.le_of_ble_eq_true rfl, Nat.le_of_ble_eq_true rfl⟩, (C.1.2.2.2.2 _ (List.mem_cons_of_mem _ tw_527)), (C.1.2.2.2.2 _ (List.mem_cons_of_mem _ ts_43))⟩ (ci := 5) rfl (xs_iinc C d_M_flush_95 (by decide) (by decide) (xs_goto C d_M_flush_98 (by decide) (xs_jmp (fun _ _ _ _ _ h => h)))))) (xs_aload_n C d_M_flush_70 rfl (xs_get C (k := 10) d_M_flush_71 h_M (ci := 5) rfl (by decide) (List.mem_cons_of_mem _ tw_431) rfl (xs_iload C d_M_flush_74 (xs_dup2 C d_M_flush_76 (xs_iald C d_M_flush_77 (xs_iconst C d_M_flush_78 (by decide) (xs_iload_n C d_M_flush_79 rfl (xs_ishl C d_M_flush_80 (xs_iconst C d_M_flush_81 (by decide) (xs_ixor C d_M_flush_82 (xs_iand C d_M_flush_83 (xs_iast C d_M_flush_84 (xs_iinc C d_M_flush_85 (by decide) (by decide) (xs_goto C d_M_flush_88 (by decide) (xs_jmp (fun _ _ _ _ _ h => h)))))))))))))))))))
set_option maxRecDepth 20000 in
set_option maxHeartbeats 4000000 in
theorem sM_flush_23 {p : Program} {l : Launch} {e : Env} {s : State} {mm : MethodId} {args : Array Value} {below : List Frame} {meth : Method} {c : Code} {D : va_G} {A : Nat → Prop} {Rh : Option Value → xm_M → Prop} (C : xm_C p s mm args c b_M_flush 5 "BlockVaultModel" w_M_flush D classes ats A) (hr : meth.sig.returnType = (some .int)) (hlk : meth.locks = false) (hnm : meth.name = "flush") : xm_le (cM_flush_23 (xm_A p l e rm_M_flush s mm args below meth c 5 D classes A (MQ below (xm_Q D classes Rh A) args s 0 0 A)) Rh) ((xm_A p l e rm_M_flush s mm args below meth c 5 D classes A (MQ below (xm_Q D classes Rh A) args s 0 0 A)) 23) :=
  (xs_iload_n C d_M_flush_23 rfl (xs_iload_n C d_M_flush_24 rfl (xs_icmp_ge C d_M_flush_25 (by decide) (xs_jmp (sM_flush_101 C hr hlk hnm)) (xs_aload_n C d_M_flush_28 rfl (xs_iconst C d_M_flush_29 (by decide) (xs_callV C (CN := "BlockVaultModel") (T := F_M) (N := 18) d_M_flush_30 (met_M_first l D) ⟨callB_of (ws := w_M_first) (rm := rm_M_first) 1 C.1.2.2.2.2 (gG_m tw_508) rfl rfl rfl (C.1.2.2.2.2 _ (List.mem_cons_of_mem _ tw_5)) (C.1.2.2.2.2 _ (List.mem_cons_of_mem _ tw_505)) ⟨by decide, by decide, by decide +kernel⟩ ⟨Nat.le_of_ble_eq_true rfl, Nat.le_of_ble_eq_true rfl⟩, (C.1.2.2.2.2 _ (List.mem_cons_of_mem _ tw_507)), (C.1.2.2.2.2 _ (List.mem_cons_of_mem _ ts_38))⟩ (ci := 5) rfl (xs_if_lt C d_M_flush_33 (by decide) (xs_jmp (sM_flush_101 C hr hlk hnm)) (xs_aload_n C d_M_flush_36 rfl (xs_iconst C d_M_flush_37 (by decide) (xs_callV C (CN := "BlockVaultModel") (T := F_M) (N := 18) d_M_flush_38 (met_M_first l D) ⟨callB_of (ws := w_M_first) (rm := rm_M_first) 1 C.1.2.2.2.2 (gG_m tw_508) rfl rfl rfl (C.1.2.2.2.2 _ (List.mem_cons_of_mem _ tw_5)) (C.1.2.2.2.2 _ (List.mem_cons_of_mem _ tw_505)) ⟨by decide, by decide, by decide +kernel⟩ ⟨Nat.le_of_ble_eq_true rfl, Nat.le_of_ble_eq_true rfl⟩, (C.1.2.2.2.2 _ (List.mem_cons_of_mem _ tw_507)), (C.1.2.2.2.2 _ (List.mem_cons_of_mem _ ts_38))⟩ (ci := 5) rfl (xs_istore_n C d_M_flush_41 rfl (by decide) (xs_aload_n C d_M_flush_42 rfl (xs_iload_n C d_M_flush_43 rfl (xs_aload_n C d_M_flush_44 rfl (xs_get C (k := 7) d_M_flush_45 h_M (ci := 5) rfl (by decide) (List.mem_cons_of_mem _ tw_428) rfl (xs_iload_n C d_M_flush_48 rfl (xs_iald C d_M_flush_49 (xs_callV C (CN := "BlockVaultModel") (T := F_M) (N := 18) d_M_flush_50 (met_M_store l D) ⟨callB_of (ws := w_M_store) (rm := rm_M_store) 2 C.1.2.2.2.2 (gG_m tw_577) rfl rfl rfl (C.1.2.2.2.2 _ (List.mem_cons_of_mem _ tw_5)) (C.1.2.2.2.2 _ (List.mem_cons_of_mem _ tw_574)) ⟨by decide, by decide, by decide +kernel⟩ ⟨Nat.le_of_ble_eq_true rfl, Nat.le_of_ble_eq_true rfl⟩, (C.1.2.2.2.2 _ (List.mem_cons_of_mem _ tw_576)), (C.1.2.2.2.2 _ (List.mem_cons_of_mem _ ts_47))⟩ (ci := 5) rfl (xs_aload_n C d_M_flush_53 rfl (xs_get C (k := 8) d_M_flush_54 h_M (ci := 5) rfl (by decide) (List.mem_cons_of_mem _ tw_429) rfl (xs_iload_n C d_M_flush_57 rfl (xs_iconst C d_M_flush_58 (by decide) (xs_iast C d_M_flush_59 (xs_iconst C d_M_flush_60 (by decide) (xs_istore C d_M_flush_61 (by decide) (xs_jmp (fun _ _ _ _ _ h => h)))))))))))))))))))))))))))
set_option maxRecDepth 20000 in
set_option maxHeartbeats 4000000 in
theorem sM_flush_0 {p : Program} {l : Launch} {e : Env} {s : State} {mm : MethodId} {args : Array Value} {below : List Frame} {meth : Method} {c : Code} {D : va_G} {A : Nat → Prop} {Rh : Option Value → xm_M → Prop} (C : xm_C p s mm args c b_M_flush 5 "BlockVaultModel" w_M_flush D classes ats A) (hr : meth.sig.returnType = (some .int)) (hlk : meth.locks = false) (hnm : meth.name = "flush") : xm_le (cM_flush_0 (xm_A p l e rm_M_flush s mm args below meth c 5 D classes A (MQ below (xm_Q D classes Rh A) args s 0 0 A)) Rh) ((xm_A p l e rm_M_flush s mm args below meth c 5 D classes A (MQ below (xm_Q D classes Rh A) args s 0 0 A)) 0) :=
  (xs_iload_n C d_M_flush_0 rfl (xs_iconst C d_M_flush_1 (by decide) (xs_iconst C d_M_flush_2 (by decide) (xs_callS C d_M_flush_3 (met_M_in l D) ⟨callB_of (ws := w_M_in) (rm := rm_M_in) 3 C.1.2.2.2.2 (gG_m tw_484) rfl rfl rfl (C.1.2.2.2.2 _ (List.mem_cons_of_mem _ tw_5)) (C.1.2.2.2.2 _ (List.mem_cons_of_mem _ tw_482)) ⟨by decide, by decide, by decide +kernel⟩ ⟨Nat.le_of_ble_eq_true rfl, Nat.le_of_ble_eq_true rfl⟩, C.1.2.2.2.2 _ (List.mem_cons_of_mem _ tw_483)⟩ (xs_if_ne C d_M_flush_6 (by decide) (xs_iconst C d_M_flush_9 (by decide) (xs_iret C d_M_flush_10 hr hlk rfl rfl)) (xs_aload_n C d_M_flush_11 rfl (xs_get C (k := 17) d_M_flush_12 h_M (ci := 5) rfl (by decide) (List.mem_cons_of_mem _ tw_438) rfl (xs_if_eq C d_M_flush_15 (by decide) (xs_iconst C d_M_flush_21 (by decide) (xs_istore_n C d_M_flush_22 rfl (by decide) (xs_jmp (fun _ _ _ _ _ h => h)))) (xs_bipush C d_M_flush_18 (by decide) (xs_iret C d_M_flush_20 hr hlk rfl rfl))))))))))
theorem met_M_flush (l : Launch) (D : va_G) : xm_Met l D classes ats y_M_flush w_M_flush rm_M_flush 0 0 cp_M_flush := by
  refine xm_met 0 (by decide) rfl rfl rfl (fun p e s mm args below meth c A Rh C hr hlk hnm lb => ?_)
  unfold fM_flush
  split
  · rename_i h; subst h; exact sM_flush_0 C hr hlk hnm
  split
  · rename_i h; subst h; exact sM_flush_23 C hr hlk hnm
  split
  · rename_i h; subst h; exact sM_flush_63 C hr hlk hnm
  · exact fun _ _ _ _ _ h => h.elim
theorem d_M_compact_0 : decode b_M_compact 0 = .ok (.iload_n 1, 1) := by decide +kernel
theorem d_M_compact_1 : decode b_M_compact 1 = .ok (.iconst 1, 1) := by decide +kernel
theorem d_M_compact_2 : decode b_M_compact 2 = .ok (.bipush 12, 2) := by decide +kernel
theorem d_M_compact_4 : decode b_M_compact 4 = .ok (.invokestatic 92, 3) := by decide +kernel
theorem d_M_compact_7 : decode b_M_compact 7 = .ok (.ifCond .ne 5, 3) := by decide +kernel
theorem d_M_compact_10 : decode b_M_compact 10 = .ok (.iconst (-1), 1) := by decide +kernel
theorem d_M_compact_11 : decode b_M_compact 11 = .ok (.ireturn, 1) := by decide +kernel
theorem d_M_compact_12 : decode b_M_compact 12 = .ok (.aload_n 0, 1) := by decide +kernel
theorem d_M_compact_13 : decode b_M_compact 13 = .ok (.getfield 96, 3) := by decide +kernel
theorem d_M_compact_16 : decode b_M_compact 16 = .ok (.ifCond .eq 6, 3) := by decide +kernel
theorem d_M_compact_19 : decode b_M_compact 19 = .ok (.bipush (-2), 2) := by decide +kernel
theorem d_M_compact_21 : decode b_M_compact 21 = .ok (.ireturn, 1) := by decide +kernel
theorem d_M_compact_22 : decode b_M_compact 22 = .ok (.iconst (-1), 1) := by decide +kernel
theorem d_M_compact_23 : decode b_M_compact 23 = .ok (.istore_n 2, 1) := by decide +kernel
theorem d_M_compact_24 : decode b_M_compact 24 = .ok (.iconst 0, 1) := by decide +kernel
theorem d_M_compact_25 : decode b_M_compact 25 = .ok (.istore_n 3, 1) := by decide +kernel
theorem d_M_compact_26 : decode b_M_compact 26 = .ok (.iload_n 3, 1) := by decide +kernel
theorem d_M_compact_27 : decode b_M_compact 27 = .ok (.bipush 8, 2) := by decide +kernel
theorem d_M_compact_29 : decode b_M_compact 29 = .ok (.if_icmp .ge 47, 3) := by decide +kernel
theorem d_M_compact_32 : decode b_M_compact 32 = .ok (.aload_n 0, 1) := by decide +kernel
theorem d_M_compact_33 : decode b_M_compact 33 = .ok (.getfield 35, 3) := by decide +kernel
theorem d_M_compact_36 : decode b_M_compact 36 = .ok (.iload_n 3, 1) := by decide +kernel
theorem d_M_compact_37 : decode b_M_compact 37 = .ok (.iaload, 1) := by decide +kernel
theorem d_M_compact_38 : decode b_M_compact 38 = .ok (.iconst 3, 1) := by decide +kernel
theorem d_M_compact_39 : decode b_M_compact 39 = .ok (.if_icmp .ne 31, 3) := by decide +kernel
theorem d_M_compact_42 : decode b_M_compact 42 = .ok (.aload_n 0, 1) := by decide +kernel
theorem d_M_compact_43 : decode b_M_compact 43 = .ok (.iload_n 3, 1) := by decide +kernel
theorem d_M_compact_44 : decode b_M_compact 44 = .ok (.invokevirtual 58, 3) := by decide +kernel
theorem d_M_compact_47 : decode b_M_compact 47 = .ok (.iload_n 1, 1) := by decide +kernel
theorem d_M_compact_48 : decode b_M_compact 48 = .ok (.if_icmp .ge 22, 3) := by decide +kernel
theorem d_M_compact_51 : decode b_M_compact 51 = .ok (.iload_n 2, 1) := by decide +kernel
theorem d_M_compact_52 : decode b_M_compact 52 = .ok (.ifCond .lt 16, 3) := by decide +kernel
theorem d_M_compact_55 : decode b_M_compact 55 = .ok (.aload_n 0, 1) := by decide +kernel
theorem d_M_compact_56 : decode b_M_compact 56 = .ok (.iload_n 3, 1) := by decide +kernel
theorem d_M_compact_57 : decode b_M_compact 57 = .ok (.invokevirtual 58, 3) := by decide +kernel
theorem d_M_compact_60 : decode b_M_compact 60 = .ok (.aload_n 0, 1) := by decide +kernel
theorem d_M_compact_61 : decode b_M_compact 61 = .ok (.iload_n 2, 1) := by decide +kernel
theorem d_M_compact_62 : decode b_M_compact 62 = .ok (.invokevirtual 58, 3) := by decide +kernel
theorem d_M_compact_65 : decode b_M_compact 65 = .ok (.if_icmp .ge 5, 3) := by decide +kernel
theorem d_M_compact_68 : decode b_M_compact 68 = .ok (.iload_n 3, 1) := by decide +kernel
theorem d_M_compact_69 : decode b_M_compact 69 = .ok (.istore_n 2, 1) := by decide +kernel
theorem d_M_compact_70 : decode b_M_compact 70 = .ok (.iinc 3 1, 3) := by decide +kernel
theorem d_M_compact_73 : decode b_M_compact 73 = .ok (.goto (-47), 3) := by decide +kernel
theorem d_M_compact_76 : decode b_M_compact 76 = .ok (.iload_n 2, 1) := by decide +kernel
theorem d_M_compact_77 : decode b_M_compact 77 = .ok (.ifCond .ge 6, 3) := by decide +kernel
theorem d_M_compact_80 : decode b_M_compact 80 = .ok (.bipush (-4), 2) := by decide +kernel
theorem d_M_compact_82 : decode b_M_compact 82 = .ok (.ireturn, 1) := by decide +kernel
theorem d_M_compact_83 : decode b_M_compact 83 = .ok (.iconst 0, 1) := by decide +kernel
theorem d_M_compact_84 : decode b_M_compact 84 = .ok (.istore_n 3, 1) := by decide +kernel
theorem d_M_compact_85 : decode b_M_compact 85 = .ok (.aload_n 0, 1) := by decide +kernel
theorem d_M_compact_86 : decode b_M_compact 86 = .ok (.getfield 32, 3) := by decide +kernel
theorem d_M_compact_89 : decode b_M_compact 89 = .ok (.iload_n 2, 1) := by decide +kernel
theorem d_M_compact_90 : decode b_M_compact 90 = .ok (.iaload, 1) := by decide +kernel
theorem d_M_compact_91 : decode b_M_compact 91 = .ok (.istore 4, 2) := by decide +kernel
theorem d_M_compact_93 : decode b_M_compact 93 = .ok (.bipush 12, 2) := by decide +kernel
theorem d_M_compact_95 : decode b_M_compact 95 = .ok (.iload_n 2, 1) := by decide +kernel
theorem d_M_compact_96 : decode b_M_compact 96 = .ok (.imul, 1) := by decide +kernel
theorem d_M_compact_97 : decode b_M_compact 97 = .ok (.istore 5, 2) := by decide +kernel
theorem d_M_compact_99 : decode b_M_compact 99 = .ok (.iload 5, 2) := by decide +kernel
theorem d_M_compact_101 : decode b_M_compact 101 = .ok (.bipush 12, 2) := by decide +kernel
theorem d_M_compact_103 : decode b_M_compact 103 = .ok (.iload_n 2, 1) := by decide +kernel
theorem d_M_compact_104 : decode b_M_compact 104 = .ok (.imul, 1) := by decide +kernel
theorem d_M_compact_105 : decode b_M_compact 105 = .ok (.iload 4, 2) := by decide +kernel
theorem d_M_compact_107 : decode b_M_compact 107 = .ok (.iadd, 1) := by decide +kernel
theorem d_M_compact_108 : decode b_M_compact 108 = .ok (.if_icmp .ge 65, 3) := by decide +kernel
theorem d_M_compact_111 : decode b_M_compact 111 = .ok (.aload_n 0, 1) := by decide +kernel
theorem d_M_compact_112 : decode b_M_compact 112 = .ok (.getfield 35, 3) := by decide +kernel
theorem d_M_compact_115 : decode b_M_compact 115 = .ok (.iload_n 2, 1) := by decide +kernel
theorem d_M_compact_116 : decode b_M_compact 116 = .ok (.iaload, 1) := by decide +kernel
theorem d_M_compact_117 : decode b_M_compact 117 = .ok (.iconst 3, 1) := by decide +kernel
theorem d_M_compact_118 : decode b_M_compact 118 = .ok (.if_icmp .ne 55, 3) := by decide +kernel
theorem d_M_compact_121 : decode b_M_compact 121 = .ok (.aload_n 0, 1) := by decide +kernel
theorem d_M_compact_122 : decode b_M_compact 122 = .ok (.getfield 44, 3) := by decide +kernel
theorem d_M_compact_125 : decode b_M_compact 125 = .ok (.aload_n 0, 1) := by decide +kernel
theorem d_M_compact_126 : decode b_M_compact 126 = .ok (.getfield 13, 3) := by decide +kernel
theorem d_M_compact_129 : decode b_M_compact 129 = .ok (.iload 5, 2) := by decide +kernel
theorem d_M_compact_131 : decode b_M_compact 131 = .ok (.iaload, 1) := by decide +kernel
theorem d_M_compact_132 : decode b_M_compact 132 = .ok (.iaload, 1) := by decide +kernel
theorem d_M_compact_133 : decode b_M_compact 133 = .ok (.iload 5, 2) := by decide +kernel
theorem d_M_compact_135 : decode b_M_compact 135 = .ok (.if_icmp .eq 6, 3) := by decide +kernel
theorem d_M_compact_138 : decode b_M_compact 138 = .ok (.goto 29, 3) := by decide +kernel
theorem d_M_compact_141 : decode b_M_compact 141 = .ok (.aload_n 0, 1) := by decide +kernel
theorem d_M_compact_142 : decode b_M_compact 142 = .ok (.iload 5, 2) := by decide +kernel
theorem d_M_compact_144 : decode b_M_compact 144 = .ok (.sipush 192, 3) := by decide +kernel
theorem d_M_compact_147 : decode b_M_compact 147 = .ok (.invokevirtual 79, 3) := by decide +kernel
theorem d_M_compact_150 : decode b_M_compact 150 = .ok (.aload_n 0, 1) := by decide +kernel
theorem d_M_compact_151 : decode b_M_compact 151 = .ok (.invokevirtual 86, 3) := by decide +kernel
theorem d_M_compact_154 : decode b_M_compact 154 = .ok (.istore 6, 2) := by decide +kernel
theorem d_M_compact_156 : decode b_M_compact 156 = .ok (.iload 6, 2) := by decide +kernel
theorem d_M_compact_158 : decode b_M_compact 158 = .ok (.ifCond .ge 6, 3) := by decide +kernel
theorem d_M_compact_161 : decode b_M_compact 161 = .ok (.goto 12, 3) := by decide +kernel
theorem d_M_compact_164 : decode b_M_compact 164 = .ok (.iinc 3 1, 3) := by decide +kernel
theorem d_M_compact_167 : decode b_M_compact 167 = .ok (.iinc 5 1, 3) := by decide +kernel
theorem d_M_compact_170 : decode b_M_compact 170 = .ok (.goto (-71), 3) := by decide +kernel
theorem d_M_compact_173 : decode b_M_compact 173 = .ok (.aload_n 0, 1) := by decide +kernel
theorem d_M_compact_174 : decode b_M_compact 174 = .ok (.dup, 1) := by decide +kernel
theorem d_M_compact_175 : decode b_M_compact 175 = .ok (.getfield 121, 3) := by decide +kernel
theorem d_M_compact_178 : decode b_M_compact 178 = .ok (.iload_n 3, 1) := by decide +kernel
theorem d_M_compact_179 : decode b_M_compact 179 = .ok (.iadd, 1) := by decide +kernel
theorem d_M_compact_180 : decode b_M_compact 180 = .ok (.putfield 121, 3) := by decide +kernel
theorem d_M_compact_183 : decode b_M_compact 183 = .ok (.iload_n 3, 1) := by decide +kernel
theorem d_M_compact_184 : decode b_M_compact 184 = .ok (.ireturn, 1) := by decide +kernel
-- BlockVaultModel.compact(I)I: labels [0, 26, 99, 173], loops [26, 99]
abbrev rm_M_compact : Room := { frames := 3, cells := 0, slots := 0, locals := 67 }
def cM_compact_173 (X : Nat → xm_PT) (Rh : Option Value → xm_M → Prop) : xm_PT := (xo_aload 0 (xo_dup (xo_get 5 16 (xo_iload 3 (xo_ibin (fun x y => x + y) (xo_put 5 16 .int (xo_iload 3 (xo_iret Rh))))))))
def cM_compact_99 (X : Nat → xm_PT) (Rh : Option Value → xm_M → Prop) : xm_PT := (xo_iload 5 (xo_push (.int (nI 12)) (xo_iload 2 (xo_ibin (fun x y => x * y) (xo_iload 4 (xo_ibin (fun x y => x + y) (xo_icmp (fun x y => y ≤ x) (xo_jmp [0, 3] (cM_compact_173 X Rh)) (xo_aload 0 (xo_get 5 8 (xo_iload 2 (xo_iald ats (xo_push (.int (nI 3)) (xo_icmp (fun x y => x = y) (xo_aload 0 (xo_get 5 11 (xo_aload 0 (xo_get 5 1 (xo_iload 5 (xo_iald ats (xo_iald ats (xo_iload 5 (xo_icmp (fun x y => x = y) (xo_aload 0 (xo_iload 5 (xo_push (.int (nI 192)) (xo_callV 5 2 0 0 cp_M_copy (xo_aload 0 (xo_callV 5 0 0 0 cp_M_append (xo_istore 6 (xo_iload 6 (xo_if (fun x => 0 ≤ x) (xo_iinc 3 1 (xo_iinc 5 1 (xo_jmp [0, 2, 3, 4, 5] (X 99)))) (xo_jmp [0, 3] (cM_compact_173 X Rh))))))))))) (xo_iinc 5 1 (xo_jmp [0, 2, 3, 4, 5] (X 99)))))))))))) (xo_jmp [0, 3] (cM_compact_173 X Rh)))))))))))))))
def cM_compact_26 (X : Nat → xm_PT) (Rh : Option Value → xm_M → Prop) : xm_PT := (xo_iload 3 (xo_push (.int (nI 8)) (xo_icmp (fun x y => y ≤ x) (xo_iload 2 (xo_if (fun x => 0 ≤ x) (xo_push (.int 0) (xo_istore 3 (xo_aload 0 (xo_get 5 7 (xo_iload 2 (xo_iald ats (xo_istore 4 (xo_push (.int (nI 12)) (xo_iload 2 (xo_ibin (fun x y => x * y) (xo_istore 5 (xo_jmp [0, 2, 3, 4, 5] (X 99))))))))))))) (xo_push (.int (-4)) (xo_iret Rh)))) (xo_aload 0 (xo_get 5 8 (xo_iload 3 (xo_iald ats (xo_push (.int (nI 3)) (xo_icmp (fun x y => x = y) (xo_aload 0 (xo_iload 3 (xo_callV 5 1 0 0 cp_M_used (xo_iload 1 (xo_icmp (fun x y => y ≤ x) (xo_iinc 3 1 (xo_jmp [0, 1, 2, 3] (X 26))) (xo_iload 2 (xo_if (fun x => x < 0) (xo_iload 3 (xo_istore 2 (xo_iinc 3 1 (xo_jmp [0, 1, 2, 3] (X 26))))) (xo_aload 0 (xo_iload 3 (xo_callV 5 1 0 0 cp_M_used (xo_aload 0 (xo_iload 2 (xo_callV 5 1 0 0 cp_M_used (xo_icmp (fun x y => y ≤ x) (xo_iinc 3 1 (xo_jmp [0, 1, 2, 3] (X 26))) (xo_iload 3 (xo_istore 2 (xo_iinc 3 1 (xo_jmp [0, 1, 2, 3] (X 26))))))))))))))))))) (xo_iinc 3 1 (xo_jmp [0, 1, 2, 3] (X 26))))))))))))
def cM_compact_0 (X : Nat → xm_PT) (Rh : Option Value → xm_M → Prop) : xm_PT := (xo_iload 1 (xo_push (.int 1) (xo_push (.int (nI 12)) (xo_callS 3 0 0 cp_M_in (xo_if (fun x => x = 0) (xo_push (.int (-1)) (xo_iret Rh)) (xo_aload 0 (xo_get 5 17 (xo_if (fun x => x = 0) (xo_push (.int (-1)) (xo_istore 2 (xo_push (.int 0) (xo_istore 3 (xo_jmp [0, 1, 2, 3] (X 26)))))) (xo_push (.int (-2)) (xo_iret Rh))))))))))
def fM_compact : xm_F := fun X Rh lb => if lb = 0 then cM_compact_0 X Rh else (if lb = 26 then cM_compact_26 X Rh else (if lb = 99 then cM_compact_99 X Rh else fun _ _ _ _ _ => False))
def cp_M_compact : xm_CP := fun as m Rh => (lg_sl as).length ≤ 7 ∧ xm_cp fM_compact 0 0 as m Rh
theorem eM_compact_0 {X : Nat → xm_PT} {Rh : Option Value → xm_M → Prop} (hX : ∀ lb, xm_le (fM_compact X Rh lb) (X lb)) {ls : xm_L} {st : List Value} {m : xm_M} {bc bs : Nat} (h : cM_compact_0 X Rh ls st m bc bs) : X 0 ls st m bc bs := hX 0 ls st m bc bs h
theorem eM_compact_26 {X : Nat → xm_PT} {Rh : Option Value → xm_M → Prop} (hX : ∀ lb, xm_le (fM_compact X Rh lb) (X lb)) {ls : xm_L} {st : List Value} {m : xm_M} {bc bs : Nat} (h : cM_compact_26 X Rh ls st m bc bs) : X 26 ls st m bc bs := hX 26 ls st m bc bs h
theorem eM_compact_99 {X : Nat → xm_PT} {Rh : Option Value → xm_M → Prop} (hX : ∀ lb, xm_le (fM_compact X Rh lb) (X lb)) {ls : xm_L} {st : List Value} {m : xm_M} {bc bs : Nat} (h : cM_compact_99 X Rh ls st m bc bs) : X 99 ls st m bc bs := hX 99 ls st m bc bs h
set_option maxRecDepth 20000 in
set_option maxHeartbeats 4000000 in
theorem sM_compact_173 {p : Program} {l : Launch} {e : Env} {s : State} {mm : MethodId} {args : Array Value} {below : List Frame} {meth : Method} {c : Code} {D : va_G} {A : Nat → Prop} {Rh : Option Value → xm_M → Prop} (C : xm_C p s mm args c b_M_compact 7 "BlockVaultModel" w_M_compact D classes ats A) (hr : meth.sig.returnType = (some .int)) (hlk : meth.locks = false) (hnm : meth.name = "compact") : xm_le (cM_compact_173 (xm_A p l e rm_M_compact s mm args below meth c 7 D classes A (MQ below (xm_Q D classes Rh A) args s 0 0 A)) Rh) ((xm_A p l e rm_M_compact s mm args below meth c 7 D classes A (MQ below (xm_Q D classes Rh A) args s 0 0 A)) 173) :=
  (xs_aload_n C d_M_compact_173 rfl (xs_dup C d_M_compact_174 (xs_get C (k := 16) d_M_compact_175 h_M (ci := 5) rfl (by decide) (List.mem_cons_of_mem _ tw_437) rfl (xs_iload_n C d_M_compact_178 rfl (xs_iadd C d_M_compact_179 (xs_put C (k := 16) d_M_compact_180 h_M t_M t_M_ok n_M (ci := 5) rfl (by decide) (List.mem_cons_of_mem _ tw_437) rfl rfl (by decide +kernel) (xs_iload_n C d_M_compact_183 rfl (xs_iret C d_M_compact_184 hr hlk rfl rfl))))))))
set_option maxRecDepth 20000 in
set_option maxHeartbeats 4000000 in
theorem sM_compact_99 {p : Program} {l : Launch} {e : Env} {s : State} {mm : MethodId} {args : Array Value} {below : List Frame} {meth : Method} {c : Code} {D : va_G} {A : Nat → Prop} {Rh : Option Value → xm_M → Prop} (C : xm_C p s mm args c b_M_compact 7 "BlockVaultModel" w_M_compact D classes ats A) (hr : meth.sig.returnType = (some .int)) (hlk : meth.locks = false) (hnm : meth.name = "compact") : xm_le (cM_compact_99 (xm_A p l e rm_M_compact s mm args below meth c 7 D classes A (MQ below (xm_Q D classes Rh A) args s 0 0 A)) Rh) ((xm_A p l e rm_M_compact s mm args below meth c 7 D classes A (MQ below (xm_Q D classes Rh A) args s 0 0 A)) 99) :=
  (xs_iload C d_M_compact_99 (xs_bipush C d_M_compact_101 (by decide) (xs_iload_n C d_M_compact_103 rfl (xs_imul C d_M_compact_104 (xs_iload C d_M_compact_105 (xs_iadd C d_M_compact_107 (xs_icmp_ge C d_M_compact_108 (by decide) (xs_jmp (sM_compact_173 C hr hlk hnm)) (xs_aload_n C d_M_compact_111 rfl (xs_get C (k := 8) d_M_compact_112 h_M (ci := 5) rfl (by decide) (List.mem_cons_of_mem _ tw_429) rfl (xs_iload_n C d_M_compact_115 rfl (xs_iald C d_M_compact_116 (xs_iconst C d_M_compact_117 (by decide) (xs_icmp_ne C d_M_compact_118 (by decide) (xs_aload_n C d_M_compact_121 rfl (xs_get C (k := 11) d_M_compact_122 h_M (ci := 5) rfl (by decide) (List.mem_cons_of_mem _ tw_432) rfl (xs_aload_n C d_M_compact_125 rfl (xs_get C (k := 1) d_M_compact_126 h_M (ci := 5) rfl (by decide) (List.mem_cons_of_mem _ tw_422) rfl (xs_iload C d_M_compact_129 (xs_iald C d_M_compact_131 (xs_iald C d_M_compact_132 (xs_iload C d_M_compact_133 (xs_icmp_eq C d_M_compact_135 (by decide) (xs_aload_n C d_M_compact_141 rfl (xs_iload C d_M_compact_142 (xs_sipush C d_M_compact_144 (by decide) (xs_callV C (CN := "BlockVaultModel") (T := F_M) (N := 18) d_M_compact_147 (met_M_copy l D) ⟨callB_of (ws := w_M_copy) (rm := rm_M_copy) 2 C.1.2.2.2.2 (gG_m tw_524) rfl rfl rfl (C.1.2.2.2.2 _ (List.mem_cons_of_mem _ tw_5)) (C.1.2.2.2.2 _ (List.mem_cons_of_mem _ tw_521)) ⟨by decide, by decide, by decide +kernel⟩ ⟨Nat.le_of_ble_eq_true rfl, Nat.le_of_ble_eq_true rfl⟩, (C.1.2.2.2.2 _ (List.mem_cons_of_mem _ tw_523)), (C.1.2.2.2.2 _ (List.mem_cons_of_mem _ ts_42))⟩ (ci := 5) rfl (xs_aload_n C d_M_compact_150 rfl (xs_callV C (CN := "BlockVaultModel") (T := F_M) (N := 18) d_M_compact_151 (met_M_append l D) ⟨callB_of (ws := w_M_append) (rm := rm_M_append) 0 C.1.2.2.2.2 (gG_m tw_504) rfl rfl rfl (C.1.2.2.2.2 _ (List.mem_cons_of_mem _ tw_5)) (C.1.2.2.2.2 _ (List.mem_cons_of_mem _ tw_501)) ⟨by decide, by decide, by decide +kernel⟩ ⟨Nat.le_of_ble_eq_true rfl, Nat.le_of_ble_eq_true rfl⟩, (C.1.2.2.2.2 _ (List.mem_cons_of_mem _ tw_503)), (C.1.2.2.2.2 _ (List.mem_cons_of_mem _ ts_37))⟩ (ci := 5) rfl (xs_istore C d_M_compact_154 (by decide) (xs_iload C d_M_compact_156 (xs_if_ge C d_M_compact_158 (by decide) (xs_iinc C d_M_compact_164 (by decide) (by decide) (xs_iinc C d_M_compact_167 (by decide) (by decide) (xs_goto C d_M_compact_170 (by decide) (xs_jmp (fun _ _ _ _ _ h => h))))) (xs_goto C d_M_compact_161 (by decide) (xs_jmp (sM_compact_173 C hr hlk hnm)))))))))))) (xs_goto C d_M_compact_138 (by decide) (xs_iinc C d_M_compact_167 (by decide) (by decide) (xs_goto C d_M_compact_170 (by decide) (xs_jmp (fun _ _ _ _ _ h => h)))))))))))))) (xs_jmp (sM_compact_173 C hr hlk hnm)))))))))))))))
set_option maxRecDepth 20000 in
set_option maxHeartbeats 4000000 in
theorem sM_compact_26 {p : Program} {l : Launch} {e : Env} {s : State} {mm : MethodId} {args : Array Value} {below : List Frame} {meth : Method} {c : Code} {D : va_G} {A : Nat → Prop} {Rh : Option Value → xm_M → Prop} (C : xm_C p s mm args c b_M_compact 7 "BlockVaultModel" w_M_compact D classes ats A) (hr : meth.sig.returnType = (some .int)) (hlk : meth.locks = false) (hnm : meth.name = "compact") : xm_le (cM_compact_26 (xm_A p l e rm_M_compact s mm args below meth c 7 D classes A (MQ below (xm_Q D classes Rh A) args s 0 0 A)) Rh) ((xm_A p l e rm_M_compact s mm args below meth c 7 D classes A (MQ below (xm_Q D classes Rh A) args s 0 0 A)) 26) :=
  (xs_iload_n C d_M_compact_26 rfl (xs_bipush C d_M_compact_27 (by decide) (xs_icmp_ge C d_M_compact_29 (by decide) (xs_iload_n C d_M_compact_76 rfl (xs_if_ge C d_M_compact_77 (by decide) (xs_iconst C d_M_compact_83 (by decide) (xs_istore_n C d_M_compact_84 rfl (by decide) (xs_aload_n C d_M_compact_85 rfl (xs_get C (k := 7) d_M_compact_86 h_M (ci := 5) rfl (by decide) (List.mem_cons_of_mem _ tw_428) rfl (xs_iload_n C d_M_compact_89 rfl (xs_iald C d_M_compact_90 (xs_istore C d_M_compact_91 (by decide) (xs_bipush C d_M_compact_93 (by decide) (xs_iload_n C d_M_compact_95 rfl (xs_imul C d_M_compact_96 (xs_istore C d_M_compact_97 (by decide) (xs_jmp (fun _ _ _ _ _ h => h))))))))))))) (xs_bipush C d_M_compact_80 (by decide) (xs_iret C d_M_compact_82 hr hlk rfl rfl)))) (xs_aload_n C d_M_compact_32 rfl (xs_get C (k := 8) d_M_compact_33 h_M (ci := 5) rfl (by decide) (List.mem_cons_of_mem _ tw_429) rfl (xs_iload_n C d_M_compact_36 rfl (xs_iald C d_M_compact_37 (xs_iconst C d_M_compact_38 (by decide) (xs_icmp_ne C d_M_compact_39 (by decide) (xs_aload_n C d_M_compact_42 rfl (xs_iload_n C d_M_compact_43 rfl (xs_callV C (CN := "BlockVaultModel") (T := F_M) (N := 18) d_M_compact_44 (met_M_used l D) ⟨callB_of (ws := w_M_used) (rm := rm_M_used) 1 C.1.2.2.2.2 (gG_m tw_532) rfl rfl rfl (C.1.2.2.2.2 _ (List.mem_cons_of_mem _ tw_5)) (C.1.2.2.2.2 _ (List.mem_cons_of_mem _ tw_529)) ⟨by decide, by decide, by decide +kernel⟩ ⟨Nat.le_of_ble_eq_true rfl, Nat.le_of_ble_eq_true rfl⟩, (C.1.2.2.2.2 _ (List.mem_cons_of_mem _ tw_531)), (C.1.2.2.2.2 _ (List.mem_cons_of_mem _ ts_44))⟩ (ci := 5) rfl (xs_iload_n C d_M_compact_47 rfl (xs_icmp_ge C d_M_compact_48 (by decide) (xs_iinc C d_M_compact_70 (by decide) (by decide) (xs_goto C d_M_compact_73 (by decide) (xs_jmp (fun _ _ _ _ _ h => h)))) (xs_iload_n C d_M_compact_51 rfl (xs_if_lt C d_M_compact_52 (by decide) (xs_iload_n C d_M_compact_68 rfl (xs_istore_n C d_M_compact_69 rfl (by decide) (xs_iinc C d_M_compact_70 (by decide) (by decide) (xs_goto C d_M_compact_73 (by decide) (xs_jmp (fun _ _ _ _ _ h => h)))))) (xs_aload_n C d_M_compact_55 rfl (xs_iload_n C d_M_compact_56 rfl (xs_callV C (CN := "BlockVaultModel") (T := F_M) (N := 18) d_M_compact_57 (met_M_used l D) ⟨callB_of (ws := w_M_used) (rm := rm_M_used) 1 C.1.2.2.2.2 (gG_m tw_532) rfl rfl rfl (C.1.2.2.2.2 _ (List.mem_cons_of_mem _ tw_5)) (C.1.2.2.2.2 _ (List.mem_cons_of_mem _ tw_529)) ⟨by decide, by decide, by decide +kernel⟩ ⟨Nat.le_of_ble_eq_true rfl, Nat.le_of_ble_eq_true rfl⟩, (C.1.2.2.2.2 _ (List.mem_cons_of_mem _ tw_531)), (C.1.2.2.2.2 _ (List.mem_cons_of_mem _ ts_44))⟩ (ci := 5) rfl (xs_aload_n C d_M_compact_60 rfl (xs_iload_n C d_M_compact_61 rfl (xs_callV C (CN := "BlockVaultModel") (T := F_M) (N := 18) d_M_compact_62 (met_M_used l D) ⟨callB_of (ws := w_M_used) (rm := rm_M_used) 1 C.1.2.2.2.2 (gG_m tw_532) rfl rfl rfl (C.1.2.2.2.2 _ (List.mem_cons_of_mem _ tw_5)) (C.1.2.2.2.2 _ (List.mem_cons_of_mem _ tw_529)) ⟨by decide, by decide, by decide +kernel⟩ ⟨Nat.le_of_ble_eq_true rfl, Nat.le_of_ble_eq_true rfl⟩, (C.1.2.2.2.2 _ (List.mem_cons_of_mem _ tw_531)), (C.1.2.2.2.2 _ (List.mem_cons_of_mem _ ts_44))⟩ (ci := 5) rfl (xs_icmp_ge C d_M_compact_65 (by decide) (xs_iinc C d_M_compact_70 (by decide) (by decide) (xs_goto C d_M_compact_73 (by decide) (xs_jmp (fun _ _ _ _ _ h => h)))) (xs_iload_n C d_M_compact_68 rfl (xs_istore_n C d_M_compact_69 rfl (by decide) (xs_iinc C d_M_compact_70 (by decide) (by decide) (xs_goto C d_M_compact_73 (by decide) (xs_jmp (fun _ _ _ _ _ h => h)))))))))))))))))))) (xs_iinc C d_M_compact_70 (by decide) (by decide) (xs_goto C d_M_compact_73 (by decide) (xs_jmp (fun _ _ _ _ _ h => h)))))))))))))
set_option maxRecDepth 20000 in
set_option maxHeartbeats 4000000 in
theorem sM_compact_0 {p : Program} {l : Launch} {e : Env} {s : State} {mm : MethodId} {args : Array Value} {below : List Frame} {meth : Method} {c : Code} {D : va_G} {A : Nat → Prop} {Rh : Option Value → xm_M → Prop} (C : xm_C p s mm args c b_M_compact 7 "BlockVaultModel" w_M_compact D classes ats A) (hr : meth.sig.returnType = (some .int)) (hlk : meth.locks = false) (hnm : meth.name = "compact") : xm_le (cM_compact_0 (xm_A p l e rm_M_compact s mm args below meth c 7 D classes A (MQ below (xm_Q D classes Rh A) args s 0 0 A)) Rh) ((xm_A p l e rm_M_compact s mm args below meth c 7 D classes A (MQ below (xm_Q D classes Rh A) args s 0 0 A)) 0) :=
  (xs_iload_n C d_M_compact_0 rfl (xs_iconst C d_M_compact_1 (by decide) (xs_bipush C d_M_compact_2 (by decide) (xs_callS C d_M_compact_4 (met_M_in l D) ⟨callB_of (ws := w_M_in) (rm := rm_M_in) 3 C.1.2.2.2.2 (gG_m tw_484) rfl rfl rfl (C.1.2.2.2.2 _ (List.mem_cons_of_mem _ tw_5)) (C.1.2.2.2.2 _ (List.mem_cons_of_mem _ tw_482)) ⟨by decide, by decide, by decide +kernel⟩ ⟨Nat.le_of_ble_eq_true rfl, Nat.le_of_ble_eq_true rfl⟩, C.1.2.2.2.2 _ (List.mem_cons_of_mem _ tw_483)⟩ (xs_if_ne C d_M_compact_7 (by decide) (xs_iconst C d_M_compact_10 (by decide) (xs_iret C d_M_compact_11 hr hlk rfl rfl)) (xs_aload_n C d_M_compact_12 rfl (xs_get C (k := 17) d_M_compact_13 h_M (ci := 5) rfl (by decide) (List.mem_cons_of_mem _ tw_438) rfl (xs_if_eq C d_M_compact_16 (by decide) (xs_iconst C d_M_compact_22 (by decide) (xs_istore_n C d_M_compact_23 rfl (by decide) (xs_iconst C d_M_compact_24 (by decide) (xs_istore_n C d_M_compact_25 rfl (by decide) (xs_jmp (fun _ _ _ _ _ h => h)))))) (xs_bipush C d_M_compact_19 (by decide) (xs_iret C d_M_compact_21 hr hlk rfl rfl))))))))))
theorem met_M_compact (l : Launch) (D : va_G) : xm_Met l D classes ats y_M_compact w_M_compact rm_M_compact 0 0 cp_M_compact := by
  refine xm_met 0 (by decide) rfl rfl rfl (fun p e s mm args below meth c A Rh C hr hlk hnm lb => ?_)
  unfold fM_compact
  split
  · rename_i h; subst h; exact sM_compact_0 C hr hlk hnm
  split
  · rename_i h; subst h; exact sM_compact_26 C hr hlk hnm
  split
  · rename_i h; subst h; exact sM_compact_99 C hr hlk hnm
  · exact fun _ _ _ _ _ h => h.elim
