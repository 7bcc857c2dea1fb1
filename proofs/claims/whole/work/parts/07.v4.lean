theorem d_V_rank_0 : decode b_V_rank 0 = .ok (.aload_n 0, 1) := by decide +kernel
theorem d_V_rank_1 : decode b_V_rank 1 = .ok (.getfield 37, 3) := by decide +kernel
theorem d_V_rank_4 : decode b_V_rank 4 = .ok (.ifCond .eq 6, 3) := by decide +kernel
theorem d_V_rank_7 : decode b_V_rank 7 = .ok (.bipush (-2), 2) := by decide +kernel
theorem d_V_rank_9 : decode b_V_rank 9 = .ok (.ireturn, 1) := by decide +kernel
theorem d_V_rank_10 : decode b_V_rank 10 = .ok (.iconst 0, 1) := by decide +kernel
theorem d_V_rank_11 : decode b_V_rank 11 = .ok (.istore_n 2, 1) := by decide +kernel
theorem d_V_rank_12 : decode b_V_rank 12 = .ok (.iconst 0, 1) := by decide +kernel
theorem d_V_rank_13 : decode b_V_rank 13 = .ok (.istore_n 3, 1) := by decide +kernel
theorem d_V_rank_14 : decode b_V_rank 14 = .ok (.iload_n 3, 1) := by decide +kernel
theorem d_V_rank_15 : decode b_V_rank 15 = .ok (.bipush 16, 2) := by decide +kernel
theorem d_V_rank_17 : decode b_V_rank 17 = .ok (.if_icmp .ge 29, 3) := by decide +kernel
theorem d_V_rank_20 : decode b_V_rank 20 = .ok (.iload_n 3, 1) := by decide +kernel
theorem d_V_rank_21 : decode b_V_rank 21 = .ok (.iload_n 1, 1) := by decide +kernel
theorem d_V_rank_22 : decode b_V_rank 22 = .ok (.if_icmp .ge 18, 3) := by decide +kernel
theorem d_V_rank_25 : decode b_V_rank 25 = .ok (.aload_n 0, 1) := by decide +kernel
theorem d_V_rank_26 : decode b_V_rank 26 = .ok (.getfield 17, 3) := by decide +kernel
theorem d_V_rank_29 : decode b_V_rank 29 = .ok (.iload_n 3, 1) := by decide +kernel
theorem d_V_rank_30 : decode b_V_rank 30 = .ok (.aaload, 1) := by decide +kernel
theorem d_V_rank_31 : decode b_V_rank 31 = .ok (.getfield 63, 3) := by decide +kernel
theorem d_V_rank_34 : decode b_V_rank 34 = .ok (.ifnull 6, 3) := by decide +kernel
theorem d_V_rank_37 : decode b_V_rank 37 = .ok (.iinc 2 1, 3) := by decide +kernel
theorem d_V_rank_40 : decode b_V_rank 40 = .ok (.iinc 3 1, 3) := by decide +kernel
theorem d_V_rank_43 : decode b_V_rank 43 = .ok (.goto (-29), 3) := by decide +kernel
theorem d_V_rank_46 : decode b_V_rank 46 = .ok (.iload_n 2, 1) := by decide +kernel
theorem d_V_rank_47 : decode b_V_rank 47 = .ok (.ireturn, 1) := by decide +kernel
-- BlockVault.rank(I)I: labels [0, 14], loops [14]
abbrev rm_V_rank : Room := { frames := 0, cells := 0, slots := 0, locals := 0 }
def cV_rank_14 (X : Nat → xm_PT) (Rh : Option Value → xm_M → Prop) : xm_PT := (xo_iload 3 (xo_push (.int (nI 16)) (xo_icmp (fun x y => y ≤ x) (xo_iload 2 (xo_iret Rh)) (xo_iload 3 (xo_iload 1 (xo_icmp (fun x y => y ≤ x) (xo_iinc 3 1 (xo_jmp [0, 1, 2, 3] (X 14))) (xo_aload 0 (xo_get 0 1 (xo_iload 3 (xo_aald ats (xo_get 4 0 (xo_null (xo_iinc 3 1 (xo_jmp [0, 1, 2, 3] (X 14))) (xo_iinc 2 1 (xo_iinc 3 1 (xo_jmp [0, 1, 2, 3] (X 14))))))))))))))))
def cV_rank_0 (X : Nat → xm_PT) (Rh : Option Value → xm_M → Prop) : xm_PT := (xo_aload 0 (xo_get 0 7 (xo_if (fun x => x = 0) (xo_push (.int 0) (xo_istore 2 (xo_push (.int 0) (xo_istore 3 (xo_jmp [0, 1, 2, 3] (X 14)))))) (xo_push (.int (-2)) (xo_iret Rh)))))
def fV_rank : xm_F := fun X Rh lb => if lb = 0 then cV_rank_0 X Rh else (if lb = 14 then cV_rank_14 X Rh else fun _ _ _ _ _ => False)
def cp_V_rank : xm_CP := fun as m Rh => (lg_sl as).length ≤ 4 ∧ xm_cp fV_rank 0 0 as m Rh
theorem eV_rank_0 {X : Nat → xm_PT} {Rh : Option Value → xm_M → Prop} (hX : ∀ lb, xm_le (fV_rank X Rh lb) (X lb)) {ls : xm_L} {st : List Value} {m : xm_M} {bc bs : Nat} (h : cV_rank_0 X Rh ls st m bc bs) : X 0 ls st m bc bs := hX 0 ls st m bc bs h
theorem eV_rank_14 {X : Nat → xm_PT} {Rh : Option Value → xm_M → Prop} (hX : ∀ lb, xm_le (fV_rank X Rh lb) (X lb)) {ls : xm_L} {st : List Value} {m : xm_M} {bc bs : Nat} (h : cV_rank_14 X Rh ls st m bc bs) : X 14 ls st m bc bs := hX 14 ls st m bc bs h
set_option maxRecDepth 20000 in
set_option maxHeartbeats 4000000 in
theorem sV_rank_14 {p : Program} {l : Launch} {e : Env} {s : State} {mm : MethodId} {args : Array Value} {below : List Frame} {meth : Method} {c : Code} {D : va_G} {A : Nat → Prop} {Rh : Option Value → xm_M → Prop} (C : xm_C p s mm args c b_V_rank 4 "BlockVault" w_V_rank D classes ats A) (hr : meth.sig.returnType = (some .int)) (hlk : meth.locks = false) (hnm : meth.name = "rank") : xm_le (cV_rank_14 (xm_A p l e rm_V_rank s mm args below meth c 4 D classes A (MQ below (xm_Q D classes Rh A) args s 0 0 A)) Rh) ((xm_A p l e rm_V_rank s mm args below meth c 4 D classes A (MQ below (xm_Q D classes Rh A) args s 0 0 A)) 14) :=
  (xs_iload_n C d_V_rank_14 rfl (xs_bipush C d_V_rank_15 (by decide) (xs_icmp_ge C d_V_rank_17 (by decide) (xs_iload_n C d_V_rank_46 rfl (xs_iret C d_V_rank_47 hr hlk rfl rfl)) (xs_iload_n C d_V_rank_20 rfl (xs_iload_n C d_V_rank_21 rfl (xs_icmp_ge C d_V_rank_22 (by decide) (xs_iinc C d_V_rank_40 (by decide) (by decide) (xs_goto C d_V_rank_43 (by decide) (xs_jmp (fun _ _ _ _ _ h => h)))) (xs_aload_n C d_V_rank_25 rfl (xs_get C (k := 1) d_V_rank_26 h_V (ci := 0) rfl (by decide) (List.mem_cons_of_mem _ tw_82) rfl (xs_iload_n C d_V_rank_29 rfl (xs_aald C d_V_rank_30 (xs_get C (k := 0) d_V_rank_31 h_E (ci := 4) rfl (by decide) (List.mem_cons_of_mem _ tw_69) rfl (xs_ifnull C d_V_rank_34 (by decide) (xs_iinc C d_V_rank_40 (by decide) (by decide) (xs_goto C d_V_rank_43 (by decide) (xs_jmp (fun _ _ _ _ _ h => h)))) (xs_iinc C d_V_rank_37 (by decide) (by decide) (xs_iinc C d_V_rank_40 (by decide) (by decide) (xs_goto C d_V_rank_43 (by decide) (xs_jmp (fun _ _ _ _ _ h => h)))))))))))))))))
set_option maxRecDepth 20000 in
set_option maxHeartbeats 4000000 in
theorem sV_rank_0 {p : Program} {l : Launch} {e : Env} {s : State} {mm : MethodId} {args : Array Value} {below : List Frame} {meth : Method} {c : Code} {D : va_G} {A : Nat → Prop} {Rh : Option Value → xm_M → Prop} (C : xm_C p s mm args c b_V_rank 4 "BlockVault" w_V_rank D classes ats A) (hr : meth.sig.returnType = (some .int)) (hlk : meth.locks = false) (hnm : meth.name = "rank") : xm_le (cV_rank_0 (xm_A p l e rm_V_rank s mm args below meth c 4 D classes A (MQ below (xm_Q D classes Rh A) args s 0 0 A)) Rh) ((xm_A p l e rm_V_rank s mm args below meth c 4 D classes A (MQ below (xm_Q D classes Rh A) args s 0 0 A)) 0) :=
  (xs_aload_n C d_V_rank_0 rfl (xs_get C (k := 7) d_V_rank_1 h_V (ci := 0) rfl (by decide) (List.mem_cons_of_mem _ tw_88) rfl (xs_if_eq C d_V_rank_4 (by decide) (xs_iconst C d_V_rank_10 (by decide) (xs_istore_n C d_V_rank_11 rfl (by decide) (xs_iconst C d_V_rank_12 (by decide) (xs_istore_n C d_V_rank_13 rfl (by decide) (xs_jmp (fun _ _ _ _ _ h => h)))))) (xs_bipush C d_V_rank_7 (by decide) (xs_iret C d_V_rank_9 hr hlk rfl rfl)))))
theorem met_V_rank (l : Launch) (D : va_G) : xm_Met l D classes ats y_V_rank w_V_rank rm_V_rank 0 0 cp_V_rank := by
  refine xm_met 0 (by decide) rfl rfl rfl (fun p e s mm args below meth c A Rh C hr hlk hnm lb => ?_)
  unfold fV_rank
  split
  · rename_i h; subst h; exact sV_rank_0 C hr hlk hnm
  split
  · rename_i h; subst h; exact sV_rank_14 C hr hlk hnm
  · exact fun _ _ _ _ _ h => h.elim
theorem d_I_bitCount_0 : decode b_I_bitCount 0 = .ok (.iload_n 0, 1) := by decide +kernel
theorem d_I_bitCount_1 : decode b_I_bitCount 1 = .ok (.iload_n 0, 1) := by decide +kernel
theorem d_I_bitCount_2 : decode b_I_bitCount 2 = .ok (.iconst 1, 1) := by decide +kernel
theorem d_I_bitCount_3 : decode b_I_bitCount 3 = .ok (.iushr, 1) := by decide +kernel
theorem d_I_bitCount_4 : decode b_I_bitCount 4 = .ok (.ldc_w 265, 3) := by decide +kernel
theorem d_I_bitCount_7 : decode b_I_bitCount 7 = .ok (.iand, 1) := by decide +kernel
theorem d_I_bitCount_8 : decode b_I_bitCount 8 = .ok (.isub, 1) := by decide +kernel
theorem d_I_bitCount_9 : decode b_I_bitCount 9 = .ok (.istore_n 0, 1) := by decide +kernel
theorem d_I_bitCount_10 : decode b_I_bitCount 10 = .ok (.iload_n 0, 1) := by decide +kernel
theorem d_I_bitCount_11 : decode b_I_bitCount 11 = .ok (.ldc_w 266, 3) := by decide +kernel
theorem d_I_bitCount_14 : decode b_I_bitCount 14 = .ok (.iand, 1) := by decide +kernel
theorem d_I_bitCount_15 : decode b_I_bitCount 15 = .ok (.iload_n 0, 1) := by decide +kernel
theorem d_I_bitCount_16 : decode b_I_bitCount 16 = .ok (.iconst 2, 1) := by decide +kernel
theorem d_I_bitCount_17 : decode b_I_bitCount 17 = .ok (.iushr, 1) := by decide +kernel
theorem d_I_bitCount_18 : decode b_I_bitCount 18 = .ok (.ldc_w 266, 3) := by decide +kernel
theorem d_I_bitCount_21 : decode b_I_bitCount 21 = .ok (.iand, 1) := by decide +kernel
theorem d_I_bitCount_22 : decode b_I_bitCount 22 = .ok (.iadd, 1) := by decide +kernel
theorem d_I_bitCount_23 : decode b_I_bitCount 23 = .ok (.istore_n 0, 1) := by decide +kernel
theorem d_I_bitCount_24 : decode b_I_bitCount 24 = .ok (.iload_n 0, 1) := by decide +kernel
theorem d_I_bitCount_25 : decode b_I_bitCount 25 = .ok (.iload_n 0, 1) := by decide +kernel
theorem d_I_bitCount_26 : decode b_I_bitCount 26 = .ok (.iconst 4, 1) := by decide +kernel
theorem d_I_bitCount_27 : decode b_I_bitCount 27 = .ok (.iushr, 1) := by decide +kernel
theorem d_I_bitCount_28 : decode b_I_bitCount 28 = .ok (.iadd, 1) := by decide +kernel
theorem d_I_bitCount_29 : decode b_I_bitCount 29 = .ok (.ldc_w 267, 3) := by decide +kernel
theorem d_I_bitCount_32 : decode b_I_bitCount 32 = .ok (.iand, 1) := by decide +kernel
theorem d_I_bitCount_33 : decode b_I_bitCount 33 = .ok (.istore_n 0, 1) := by decide +kernel
theorem d_I_bitCount_34 : decode b_I_bitCount 34 = .ok (.iload_n 0, 1) := by decide +kernel
theorem d_I_bitCount_35 : decode b_I_bitCount 35 = .ok (.iload_n 0, 1) := by decide +kernel
theorem d_I_bitCount_36 : decode b_I_bitCount 36 = .ok (.bipush 8, 2) := by decide +kernel
theorem d_I_bitCount_38 : decode b_I_bitCount 38 = .ok (.iushr, 1) := by decide +kernel
theorem d_I_bitCount_39 : decode b_I_bitCount 39 = .ok (.iadd, 1) := by decide +kernel
theorem d_I_bitCount_40 : decode b_I_bitCount 40 = .ok (.istore_n 0, 1) := by decide +kernel
theorem d_I_bitCount_41 : decode b_I_bitCount 41 = .ok (.iload_n 0, 1) := by decide +kernel
theorem d_I_bitCount_42 : decode b_I_bitCount 42 = .ok (.iload_n 0, 1) := by decide +kernel
theorem d_I_bitCount_43 : decode b_I_bitCount 43 = .ok (.bipush 16, 2) := by decide +kernel
theorem d_I_bitCount_45 : decode b_I_bitCount 45 = .ok (.iushr, 1) := by decide +kernel
theorem d_I_bitCount_46 : decode b_I_bitCount 46 = .ok (.iadd, 1) := by decide +kernel
theorem d_I_bitCount_47 : decode b_I_bitCount 47 = .ok (.istore_n 0, 1) := by decide +kernel
theorem d_I_bitCount_48 : decode b_I_bitCount 48 = .ok (.iload_n 0, 1) := by decide +kernel
theorem d_I_bitCount_49 : decode b_I_bitCount 49 = .ok (.bipush 63, 2) := by decide +kernel
theorem d_I_bitCount_51 : decode b_I_bitCount 51 = .ok (.iand, 1) := by decide +kernel
theorem d_I_bitCount_52 : decode b_I_bitCount 52 = .ok (.ireturn, 1) := by decide +kernel
-- java/lang/Integer.bitCount(I)I: labels [0], loops []
abbrev rm_I_bitCount : Room := { frames := 0, cells := 0, slots := 0, locals := 0 }
def cI_bitCount_0 (X : Nat → xm_PT) (Rh : Option Value → xm_M → Prop) : xm_PT := (xo_iload 0 (xo_iload 0 (xo_push (.int 1) (xo_ibin (fun x y => (x.toUInt32 >>> (y.toUInt32 &&& Int32.toUInt32 31)).toInt32) (xo_push (.int (1431655765)) (xo_ibin (fun x y => x &&& y) (xo_ibin (fun x y => x - y) (xo_istore 0 (xo_iload 0 (xo_push (.int (858993459)) (xo_ibin (fun x y => x &&& y) (xo_iload 0 (xo_push (.int (nI 2)) (xo_ibin (fun x y => (x.toUInt32 >>> (y.toUInt32 &&& Int32.toUInt32 31)).toInt32) (xo_push (.int (858993459)) (xo_ibin (fun x y => x &&& y) (xo_ibin (fun x y => x + y) (xo_istore 0 (xo_iload 0 (xo_iload 0 (xo_push (.int (nI 4)) (xo_ibin (fun x y => (x.toUInt32 >>> (y.toUInt32 &&& Int32.toUInt32 31)).toInt32) (xo_ibin (fun x y => x + y) (xo_push (.int (252645135)) (xo_ibin (fun x y => x &&& y) (xo_istore 0 (xo_iload 0 (xo_iload 0 (xo_push (.int (nI 8)) (xo_ibin (fun x y => (x.toUInt32 >>> (y.toUInt32 &&& Int32.toUInt32 31)).toInt32) (xo_ibin (fun x y => x + y) (xo_istore 0 (xo_iload 0 (xo_iload 0 (xo_push (.int (nI 16)) (xo_ibin (fun x y => (x.toUInt32 >>> (y.toUInt32 &&& Int32.toUInt32 31)).toInt32) (xo_ibin (fun x y => x + y) (xo_istore 0 (xo_iload 0 (xo_push (.int (nI 63)) (xo_ibin (fun x y => x &&& y) (xo_iret Rh))))))))))))))))))))))))))))))))))))))))))
def fI_bitCount : xm_F := fun X Rh lb => if lb = 0 then cI_bitCount_0 X Rh else fun _ _ _ _ _ => False
def cp_I_bitCount : xm_CP := fun as m Rh => (lg_sl as).length ≤ 1 ∧ xm_cp fI_bitCount 0 0 as m Rh
theorem eI_bitCount_0 {X : Nat → xm_PT} {Rh : Option Value → xm_M → Prop} (hX : ∀ lb, xm_le (fI_bitCount X Rh lb) (X lb)) {ls : xm_L} {st : List Value} {m : xm_M} {bc bs : Nat} (h : cI_bitCount_0 X Rh ls st m bc bs) : X 0 ls st m bc bs := hX 0 ls st m bc bs h
set_option maxRecDepth 20000 in
set_option maxHeartbeats 4000000 in
theorem sI_bitCount_0 {p : Program} {l : Launch} {e : Env} {s : State} {mm : MethodId} {args : Array Value} {below : List Frame} {meth : Method} {c : Code} {D : va_G} {A : Nat → Prop} {Rh : Option Value → xm_M → Prop} (C : xm_C p s mm args c b_I_bitCount 1 "java/lang/Integer" w_I_bitCount D classes ats A) (hr : meth.sig.returnType = (some .int)) (hlk : meth.locks = false) (hnm : meth.name = "bitCount") : xm_le (cI_bitCount_0 (xm_A p l e rm_I_bitCount s mm args below meth c 1 D classes A (MQ below (xm_Q D classes Rh A) args s 0 0 A)) Rh) ((xm_A p l e rm_I_bitCount s mm args below meth c 1 D classes A (MQ below (xm_Q D classes Rh A) args s 0 0 A)) 0) :=
  (xs_iload_n C d_I_bitCount_0 rfl (xs_iload_n C d_I_bitCount_1 rfl (xs_iconst C d_I_bitCount_2 (by decide) (xs_iushr C d_I_bitCount_3 (xs_ldcw C d_I_bitCount_4 (List.mem_cons_of_mem _ tw_396) (xs_iand C d_I_bitCount_7 (xs_isub C d_I_bitCount_8 (xs_istore_n C d_I_bitCount_9 rfl (by decide) (xs_iload_n C d_I_bitCount_10 rfl (xs_ldcw C d_I_bitCount_11 (List.mem_cons_of_mem _ tw_397) (xs_iand C d_I_bitCount_14 (xs_iload_n C d_I_bitCount_15 rfl (xs_iconst C d_I_bitCount_16 (by decide) (xs_iushr C d_I_bitCount_17 (xs_ldcw C d_I_bitCount_18 (List.mem_cons_of_mem _ tw_397) (xs_iand C d_I_bitCount_21 (xs_iadd C d_I_bitCount_22 (xs_istore_n C d_I_bitCount_23 rfl (by decide) (xs_iload_n C d_I_bitCount_24 rfl (xs_iload_n C d_I_bitCount_25 rfl (xs_iconst C d_I_bitCount_26 (by decide) (xs_iushr C d_I_bitCount_27 (xs_iadd C d_I_bitCount_28 (xs_ldcw C d_I_bitCount_29 (List.mem_cons_of_mem _ tw_398) (xs_iand C d_I_bitCount_32 (xs_istore_n C d_I_bitCount_33 rfl (by decide) (xs_iload_n C d_I_bitCount_34 rfl (xs_iload_n C d_I_bitCount_35 rfl (xs_bipush C d_I_bitCount_36 (by decide) (xs_iushr C d_I_bitCount_38 (xs_iadd C d_I_bitCount_39 (xs_istore_n C d_I_bitCount_40 rfl (by decide) (xs_iload_n C d_I_bitCount_41 rfl (xs_iload_n C d_I_bitCount_42 rfl (xs_bipush C d_I_bitCount_43 (by decide) (xs_iushr C d_I_bitCount_45 (xs_iadd C d_I_bitCount_46 (xs_istore_n C d_I_bitCount_47 rfl (by decide) (xs_iload_n C d_I_bitCount_48 rfl (xs_bipush C d_I_bitCount_49 (by decide) (xs_iand C d_I_bitCount_51 (xs_iret C d_I_bitCount_52 hr hlk rfl rfl))))))))))))))))))))))))))))))))))))))))))
theorem met_I_bitCount (l : Launch) (D : va_G) : xm_Met l D classes ats y_I_bitCount w_I_bitCount rm_I_bitCount 0 0 cp_I_bitCount := by
  refine xm_met 0 (by decide) rfl rfl rfl (fun p e s mm args below meth c A Rh C hr hlk hnm lb => ?_)
  unfold fI_bitCount
  split
  · rename_i h; subst h; exact sI_bitCount_0 C hr hlk hnm
  · exact fun _ _ _ _ _ h => h.elim
theorem d_V_block_0 : decode b_V_block 0 = .ok (.iload_n 1, 1) := by decide +kernel
theorem d_V_block_1 : decode b_V_block 1 = .ok (.invokestatic 163, 3) := by decide +kernel
theorem d_V_block_4 : decode b_V_block 4 = .ok (.ifCond .ne 5, 3) := by decide +kernel
theorem d_V_block_7 : decode b_V_block 7 = .ok (.iconst (-1), 1) := by decide +kernel
theorem d_V_block_8 : decode b_V_block 8 = .ok (.ireturn, 1) := by decide +kernel
theorem d_V_block_9 : decode b_V_block 9 = .ok (.iload_n 2, 1) := by decide +kernel
theorem d_V_block_10 : decode b_V_block 10 = .ok (.tableswitch 89 0 4 #[34, 44, 50, 63, 76], 34) := by decide +kernel
theorem d_V_block_44 : decode b_V_block 44 = .ok (.aload_n 0, 1) := by decide +kernel
theorem d_V_block_45 : decode b_V_block 45 = .ok (.getfield 11, 3) := by decide +kernel
theorem d_V_block_48 : decode b_V_block 48 = .ok (.iload_n 1, 1) := by decide +kernel
theorem d_V_block_49 : decode b_V_block 49 = .ok (.aaload, 1) := by decide +kernel
theorem d_V_block_50 : decode b_V_block 50 = .ok (.getfield 166, 3) := by decide +kernel
theorem d_V_block_53 : decode b_V_block 53 = .ok (.ireturn, 1) := by decide +kernel
theorem d_V_block_54 : decode b_V_block 54 = .ok (.aload_n 0, 1) := by decide +kernel
theorem d_V_block_55 : decode b_V_block 55 = .ok (.iload_n 1, 1) := by decide +kernel
theorem d_V_block_56 : decode b_V_block 56 = .ok (.invokevirtual 169, 3) := by decide +kernel
theorem d_V_block_59 : decode b_V_block 59 = .ok (.ireturn, 1) := by decide +kernel
theorem d_V_block_60 : decode b_V_block 60 = .ok (.aload_n 0, 1) := by decide +kernel
theorem d_V_block_61 : decode b_V_block 61 = .ok (.getfield 11, 3) := by decide +kernel
theorem d_V_block_64 : decode b_V_block 64 = .ok (.iload_n 1, 1) := by decide +kernel
theorem d_V_block_65 : decode b_V_block 65 = .ok (.aaload, 1) := by decide +kernel
theorem d_V_block_66 : decode b_V_block 66 = .ok (.getfield 111, 3) := by decide +kernel
theorem d_V_block_69 : decode b_V_block 69 = .ok (.invokevirtual 172, 3) := by decide +kernel
theorem d_V_block_72 : decode b_V_block 72 = .ok (.ireturn, 1) := by decide +kernel
theorem d_V_block_73 : decode b_V_block 73 = .ok (.aload_n 0, 1) := by decide +kernel
theorem d_V_block_74 : decode b_V_block 74 = .ok (.getfield 11, 3) := by decide +kernel
theorem d_V_block_77 : decode b_V_block 77 = .ok (.iload_n 1, 1) := by decide +kernel
theorem d_V_block_78 : decode b_V_block 78 = .ok (.aaload, 1) := by decide +kernel
theorem d_V_block_79 : decode b_V_block 79 = .ok (.getfield 120, 3) := by decide +kernel
theorem d_V_block_82 : decode b_V_block 82 = .ok (.getfield 115, 3) := by decide +kernel
theorem d_V_block_85 : decode b_V_block 85 = .ok (.ireturn, 1) := by decide +kernel
theorem d_V_block_86 : decode b_V_block 86 = .ok (.aload_n 0, 1) := by decide +kernel
theorem d_V_block_87 : decode b_V_block 87 = .ok (.getfield 11, 3) := by decide +kernel
theorem d_V_block_90 : decode b_V_block 90 = .ok (.iload_n 1, 1) := by decide +kernel
theorem d_V_block_91 : decode b_V_block 91 = .ok (.aaload, 1) := by decide +kernel
theorem d_V_block_92 : decode b_V_block 92 = .ok (.getfield 175, 3) := by decide +kernel
theorem d_V_block_95 : decode b_V_block 95 = .ok (.invokestatic 178, 3) := by decide +kernel
theorem d_V_block_98 : decode b_V_block 98 = .ok (.ireturn, 1) := by decide +kernel
theorem d_V_block_99 : decode b_V_block 99 = .ok (.iconst (-1), 1) := by decide +kernel
theorem d_V_block_100 : decode b_V_block 100 = .ok (.ireturn, 1) := by decide +kernel
-- BlockVault.block(II)I: labels [0], loops []
abbrev rm_V_block : Room := { frames := 1, cells := 0, slots := 0, locals := 24 }
def cV_block_0 (X : Nat → xm_PT) (Rh : Option Value → xm_M → Prop) : xm_PT := (xo_iload 1 (xo_callS 1 0 0 cp_V_isBlock (xo_if (fun x => x = 0) (xo_push (.int (-1)) (xo_iret Rh)) (xo_iload 2 (xo_tsw 0 [(xo_aload 0 (xo_get 0 0 (xo_iload 1 (xo_aald ats (xo_get 3 2 (xo_iret Rh)))))), (xo_aload 0 (xo_iload 1 (xo_callV 0 1 0 0 cp_V_used (xo_iret Rh)))), (xo_aload 0 (xo_get 0 0 (xo_iload 1 (xo_aald ats (xo_get 3 0 (xo_callV 2 0 0 0 cp_R_sizes (xo_iret Rh))))))), (xo_aload 0 (xo_get 0 0 (xo_iload 1 (xo_aald ats (xo_get 3 1 (xo_get 2 1 (xo_iret Rh))))))), (xo_aload 0 (xo_get 0 0 (xo_iload 1 (xo_aald ats (xo_get 3 4 (xo_callS 1 0 0 cp_I_bitCount (xo_iret Rh)))))))] (xo_push (.int (-1)) (xo_iret Rh)))))))
def fV_block : xm_F := fun X Rh lb => if lb = 0 then cV_block_0 X Rh else fun _ _ _ _ _ => False
def cp_V_block : xm_CP := fun as m Rh => (lg_sl as).length ≤ 3 ∧ xm_cp fV_block 0 0 as m Rh
theorem eV_block_0 {X : Nat → xm_PT} {Rh : Option Value → xm_M → Prop} (hX : ∀ lb, xm_le (fV_block X Rh lb) (X lb)) {ls : xm_L} {st : List Value} {m : xm_M} {bc bs : Nat} (h : cV_block_0 X Rh ls st m bc bs) : X 0 ls st m bc bs := hX 0 ls st m bc bs h
set_option maxRecDepth 20000 in
set_option maxHeartbeats 4000000 in
theorem sV_block_0 {p : Program} {l : Launch} {e : Env} {s : State} {mm : MethodId} {args : Array Value} {below : List Frame} {meth : Method} {c : Code} {D : va_G} {A : Nat → Prop} {Rh : Option Value → xm_M → Prop} (C : xm_C p s mm args c b_V_block 3 "BlockVault" w_V_block D classes ats A) (hr : meth.sig.returnType = (some .int)) (hlk : meth.locks = false) (hnm : meth.name = "block") : xm_le (cV_block_0 (xm_A p l e rm_V_block s mm args below meth c 3 D classes A (MQ below (xm_Q D classes Rh A) args s 0 0 A)) Rh) ((xm_A p l e rm_V_block s mm args below meth c 3 D classes A (MQ below (xm_Q D classes Rh A) args s 0 0 A)) 0) :=
  (xs_iload_n C d_V_block_0 rfl (xs_callS C d_V_block_1 (met_V_isBlock l D) ⟨callB_of (ws := w_V_isBlock) (rm := rm_V_isBlock) 1 C.1.2.2.2.2 (gG_m tw_212) rfl rfl rfl (C.1.2.2.2.2 _ (List.mem_cons_of_mem _ tw_1)) (C.1.2.2.2.2 _ (List.mem_cons_of_mem _ tw_210)) ⟨by decide, by decide, by decide +kernel⟩ ⟨Nat.le_of_ble_eq_true rfl, Nat.le_of_ble_eq_true rfl⟩, C.1.2.2.2.2 _ (List.mem_cons_of_mem _ tw_211)⟩ (xs_if_ne C d_V_block_4 (by decide) (xs_iconst C d_V_block_7 (by decide) (xs_iret C d_V_block_8 hr hlk rfl rfl)) (xs_iload_n C d_V_block_9 rfl (xs_tsw C d_V_block_10 rfl ⟨⟨44, by decide, (xs_aload_n C d_V_block_44 rfl (xs_get C (k := 0) d_V_block_45 h_V (ci := 0) rfl (by decide) (List.mem_cons_of_mem _ tw_81) rfl (xs_iload_n C d_V_block_48 rfl (xs_aald C d_V_block_49 (xs_get C (k := 2) d_V_block_50 h_B (ci := 3) rfl (by decide) (List.mem_cons_of_mem _ tw_47) rfl (xs_iret C d_V_block_53 hr hlk rfl rfl))))))⟩, ⟨⟨54, by decide, (xs_aload_n C d_V_block_54 rfl (xs_iload_n C d_V_block_55 rfl (xs_callV C (CN := "BlockVault") (T := F_V) (N := 8) d_V_block_56 (met_V_used l D) ⟨callB_of (ws := w_V_used) (rm := rm_V_used) 1 C.1.2.2.2.2 (gG_m tw_320) rfl rfl rfl (C.1.2.2.2.2 _ (List.mem_cons_of_mem _ tw_1)) (C.1.2.2.2.2 _ (List.mem_cons_of_mem _ tw_317)) ⟨by decide, by decide, by decide +kernel⟩ ⟨Nat.le_of_ble_eq_true rfl, Nat.le_of_ble_eq_true rfl⟩, (C.1.2.2.2.2 _ (List.mem_cons_of_mem _ tw_319)), (C.1.2.2.2.2 _ (List.mem_cons_of_mem _ ts_22))⟩ (ci := 0) rfl (xs_iret C d_V_block_59 hr hlk rfl rfl))))⟩, ⟨⟨60, by decide, (xs_aload_n C d_V_block_60 rfl (xs_get C (k := 0) d_V_block_61 h_V (ci := 0) rfl (by decide) (List.mem_cons_of_mem _ tw_81) rfl (xs_iload_n C d_V_block_64 rfl (xs_aald C d_V_block_65 (xs_get C (k := 0) d_V_block_66 h_B (ci := 3) rfl (by decide) (List.mem_cons_of_mem _ tw_43) rfl (xs_callV C (CN := "BlockVault$Row") (T := F_R) (N := 2) d_V_block_69 (met_R_sizes l D) ⟨callB_of (ws := w_R_sizes) (rm := rm_R_sizes) 0 C.1.2.2.2.2 (gG_m tw_189) rfl rfl rfl (C.1.2.2.2.2 _ (List.mem_cons_of_mem _ tw_3)) (C.1.2.2.2.2 _ (List.mem_cons_of_mem _ tw_186)) ⟨by decide, by decide, by decide +kernel⟩ ⟨Nat.le_of_ble_eq_true rfl, Nat.le_of_ble_eq_true rfl⟩, (C.1.2.2.2.2 _ (List.mem_cons_of_mem _ tw_187)), (C.1.2.2.2.2 _ (List.mem_cons_of_mem _ tw_188))⟩ (ci := 2) rfl (xs_iret C d_V_block_72 hr hlk rfl rfl)))))))⟩, ⟨⟨73, by decide, (xs_aload_n C d_V_block_73 rfl (xs_get C (k := 0) d_V_block_74 h_V (ci := 0) rfl (by decide) (List.mem_cons_of_mem _ tw_81) rfl (xs_iload_n C d_V_block_77 rfl (xs_aald C d_V_block_78 (xs_get C (k := 1) d_V_block_79 h_B (ci := 3) rfl (by decide) (List.mem_cons_of_mem _ tw_45) rfl (xs_get C (k := 1) d_V_block_82 h_R (ci := 2) rfl (by decide) (List.mem_cons_of_mem _ tw_36) rfl (xs_iret C d_V_block_85 hr hlk rfl rfl)))))))⟩, ⟨⟨86, by decide, (xs_aload_n C d_V_block_86 rfl (xs_get C (k := 0) d_V_block_87 h_V (ci := 0) rfl (by decide) (List.mem_cons_of_mem _ tw_81) rfl (xs_iload_n C d_V_block_90 rfl (xs_aald C d_V_block_91 (xs_get C (k := 4) d_V_block_92 h_B (ci := 3) rfl (by decide) (List.mem_cons_of_mem _ tw_51) rfl (xs_callS C d_V_block_95 (met_I_bitCount l D) ⟨callB_of (ws := w_I_bitCount) (rm := rm_I_bitCount) 1 C.1.2.2.2.2 (gG_m tw_395) rfl rfl rfl (C.1.2.2.2.2 _ (List.mem_cons_of_mem _ tw_8)) (C.1.2.2.2.2 _ (List.mem_cons_of_mem _ tw_393)) ⟨by decide, by decide, by decide +kernel⟩ ⟨Nat.le_of_ble_eq_true rfl, Nat.le_of_ble_eq_true rfl⟩, C.1.2.2.2.2 _ (List.mem_cons_of_mem _ tw_394)⟩ (xs_iret C d_V_block_98 hr hlk rfl rfl)))))))⟩, trivial⟩⟩⟩⟩⟩ (tgd := 99) (by decide) (xs_iconst C d_V_block_99 (by decide) (xs_iret C d_V_block_100 hr hlk rfl rfl)))))))
theorem met_V_block (l : Launch) (D : va_G) : xm_Met l D classes ats y_V_block w_V_block rm_V_block 0 0 cp_V_block := by
  refine xm_met 0 (by decide) rfl rfl rfl (fun p e s mm args below meth c A Rh C hr hlk hnm lb => ?_)
  unfold fV_block
  split
  · rename_i h; subst h; exact sV_block_0 C hr hlk hnm
  · exact fun _ _ _ _ _ h => h.elim
theorem d_V_image_0 : decode b_V_image 0 = .ok (.iload_n 1, 1) := by decide +kernel
theorem d_V_image_1 : decode b_V_image 1 = .ok (.invokestatic 163, 3) := by decide +kernel
theorem d_V_image_4 : decode b_V_image 4 = .ok (.ifCond .ne 5, 3) := by decide +kernel
theorem d_V_image_7 : decode b_V_image 7 = .ok (.iconst (-1), 1) := by decide +kernel
theorem d_V_image_8 : decode b_V_image 8 = .ok (.ireturn, 1) := by decide +kernel
theorem d_V_image_9 : decode b_V_image 9 = .ok (.aload_n 0, 1) := by decide +kernel
theorem d_V_image_10 : decode b_V_image 10 = .ok (.getfield 11, 3) := by decide +kernel
theorem d_V_image_13 : decode b_V_image 13 = .ok (.iload_n 1, 1) := by decide +kernel
theorem d_V_image_14 : decode b_V_image 14 = .ok (.aaload, 1) := by decide +kernel
theorem d_V_image_15 : decode b_V_image 15 = .ok (.getfield 120, 3) := by decide +kernel
theorem d_V_image_18 : decode b_V_image 18 = .ok (.iload_n 2, 1) := by decide +kernel
theorem d_V_image_19 : decode b_V_image 19 = .ok (.invokevirtual 183, 3) := by decide +kernel
theorem d_V_image_22 : decode b_V_image 22 = .ok (.astore_n 3, 1) := by decide +kernel
theorem d_V_image_23 : decode b_V_image 23 = .ok (.aload_n 3, 1) := by decide +kernel
theorem d_V_image_24 : decode b_V_image 24 = .ok (.ifnonnull 8, 3) := by decide +kernel
theorem d_V_image_27 : decode b_V_image 27 = .ok (.bipush (-4), 2) := by decide +kernel
theorem d_V_image_29 : decode b_V_image 29 = .ok (.goto 7, 3) := by decide +kernel
theorem d_V_image_32 : decode b_V_image 32 = .ok (.aload_n 3, 1) := by decide +kernel
theorem d_V_image_33 : decode b_V_image 33 = .ok (.getfield 154, 3) := by decide +kernel
theorem d_V_image_36 : decode b_V_image 36 = .ok (.ireturn, 1) := by decide +kernel
-- BlockVault.image(II)I: labels [0], loops []
abbrev rm_V_image : Room := { frames := 1, cells := 0, slots := 0, locals := 21 }
def cV_image_0 (X : Nat → xm_PT) (Rh : Option Value → xm_M → Prop) : xm_PT := (xo_iload 1 (xo_callS 1 0 0 cp_V_isBlock (xo_if (fun x => x = 0) (xo_push (.int (-1)) (xo_iret Rh)) (xo_aload 0 (xo_get 0 0 (xo_iload 1 (xo_aald ats (xo_get 3 1 (xo_iload 2 (xo_callV 2 1 0 0 cp_R_at (xo_astore 3 (xo_aload 3 (xo_null (xo_push (.int (-4)) (xo_iret Rh)) (xo_aload 3 (xo_get 1 5 (xo_iret Rh))))))))))))))))
def fV_image : xm_F := fun X Rh lb => if lb = 0 then cV_image_0 X Rh else fun _ _ _ _ _ => False
def cp_V_image : xm_CP := fun as m Rh => (lg_sl as).length ≤ 4 ∧ xm_cp fV_image 0 0 as m Rh
theorem eV_image_0 {X : Nat → xm_PT} {Rh : Option Value → xm_M → Prop} (hX : ∀ lb, xm_le (fV_image X Rh lb) (X lb)) {ls : xm_L} {st : List Value} {m : xm_M} {bc bs : Nat} (h : cV_image_0 X Rh ls st m bc bs) : X 0 ls st m bc bs := hX 0 ls st m bc bs h
set_option maxRecDepth 20000 in
set_option maxHeartbeats 4000000 in
theorem sV_image_0 {p : Program} {l : Launch} {e : Env} {s : State} {mm : MethodId} {args : Array Value} {below : List Frame} {meth : Method} {c : Code} {D : va_G} {A : Nat → Prop} {Rh : Option Value → xm_M → Prop} (C : xm_C p s mm args c b_V_image 4 "BlockVault" w_V_image D classes ats A) (hr : meth.sig.returnType = (some .int)) (hlk : meth.locks = false) (hnm : meth.name = "image") : xm_le (cV_image_0 (xm_A p l e rm_V_image s mm args below meth c 4 D classes A (MQ below (xm_Q D classes Rh A) args s 0 0 A)) Rh) ((xm_A p l e rm_V_image s mm args below meth c 4 D classes A (MQ below (xm_Q D classes Rh A) args s 0 0 A)) 0) :=
  (xs_iload_n C d_V_image_0 rfl (xs_callS C d_V_image_1 (met_V_isBlock l D) ⟨callB_of (ws := w_V_isBlock) (rm := rm_V_isBlock) 1 C.1.2.2.2.2 (gG_m tw_212) rfl rfl rfl (C.1.2.2.2.2 _ (List.mem_cons_of_mem _ tw_1)) (C.1.2.2.2.2 _ (List.mem_cons_of_mem _ tw_210)) ⟨by decide, by decide, by decide +kernel⟩ ⟨Nat.le_of_ble_eq_true rfl, Nat.le_of_ble_eq_true rfl⟩, C.1.2.2.2.2 _ (List.mem_cons_of_mem _ tw_211)⟩ (xs_if_ne C d_V_image_4 (by decide) (xs_iconst C d_V_image_7 (by decide) (xs_iret C d_V_image_8 hr hlk rfl rfl)) (xs_aload_n C d_V_image_9 rfl (xs_get C (k := 0) d_V_image_10 h_V (ci := 0) rfl (by decide) (List.mem_cons_of_mem _ tw_81) rfl (xs_iload_n C d_V_image_13 rfl (xs_aald C d_V_image_14 (xs_get C (k := 1) d_V_image_15 h_B (ci := 3) rfl (by decide) (List.mem_cons_of_mem _ tw_45) rfl (xs_iload_n C d_V_image_18 rfl (xs_callV C (CN := "BlockVault$Row") (T := F_R) (N := 2) d_V_image_19 (met_R_at l D) ⟨callB_of (ws := w_R_at) (rm := rm_R_at) 1 C.1.2.2.2.2 (gG_m tw_328) rfl rfl rfl (C.1.2.2.2.2 _ (List.mem_cons_of_mem _ tw_3)) (C.1.2.2.2.2 _ (List.mem_cons_of_mem _ tw_325)) ⟨by decide, by decide, by decide +kernel⟩ ⟨Nat.le_of_ble_eq_true rfl, Nat.le_of_ble_eq_true rfl⟩, (C.1.2.2.2.2 _ (List.mem_cons_of_mem _ tw_326)), (C.1.2.2.2.2 _ (List.mem_cons_of_mem _ tw_327))⟩ (ci := 2) rfl (xs_astore_n C d_V_image_22 rfl (by decide) (xs_aload_n C d_V_image_23 rfl (xs_ifnonnull C d_V_image_24 (by decide) (xs_bipush C d_V_image_27 (by decide) (xs_goto C d_V_image_29 (by decide) (xs_iret C d_V_image_36 hr hlk rfl rfl))) (xs_aload_n C d_V_image_32 rfl (xs_get C (k := 5) d_V_image_33 h_C (ci := 1) rfl (by decide) (List.mem_cons_of_mem _ tw_152) rfl (xs_iret C d_V_image_36 hr hlk rfl rfl))))))))))))))))
theorem met_V_image (l : Launch) (D : va_G) : xm_Met l D classes ats y_V_image w_V_image rm_V_image 0 0 cp_V_image := by
  refine xm_met 0 (by decide) rfl rfl rfl (fun p e s mm args below meth c A Rh C hr hlk hnm lb => ?_)
  unfold fV_image
  split
  · rename_i h; subst h; exact sV_image_0 C hr hlk hnm
  · exact fun _ _ _ _ _ h => h.elim
theorem d_V_countEntries_0 : decode b_V_countEntries 0 = .ok (.iconst 0, 1) := by decide +kernel
theorem d_V_countEntries_1 : decode b_V_countEntries 1 = .ok (.istore_n 1, 1) := by decide +kernel
theorem d_V_countEntries_2 : decode b_V_countEntries 2 = .ok (.iconst 0, 1) := by decide +kernel
theorem d_V_countEntries_3 : decode b_V_countEntries 3 = .ok (.istore_n 2, 1) := by decide +kernel
theorem d_V_countEntries_4 : decode b_V_countEntries 4 = .ok (.iload_n 2, 1) := by decide +kernel
theorem d_V_countEntries_5 : decode b_V_countEntries 5 = .ok (.bipush 16, 2) := by decide +kernel
theorem d_V_countEntries_7 : decode b_V_countEntries 7 = .ok (.if_icmp .ge 24, 3) := by decide +kernel
theorem d_V_countEntries_10 : decode b_V_countEntries 10 = .ok (.aload_n 0, 1) := by decide +kernel
theorem d_V_countEntries_11 : decode b_V_countEntries 11 = .ok (.getfield 17, 3) := by decide +kernel
theorem d_V_countEntries_14 : decode b_V_countEntries 14 = .ok (.iload_n 2, 1) := by decide +kernel
theorem d_V_countEntries_15 : decode b_V_countEntries 15 = .ok (.aaload, 1) := by decide +kernel
theorem d_V_countEntries_16 : decode b_V_countEntries 16 = .ok (.getfield 63, 3) := by decide +kernel
theorem d_V_countEntries_19 : decode b_V_countEntries 19 = .ok (.ifnull 6, 3) := by decide +kernel
theorem d_V_countEntries_22 : decode b_V_countEntries 22 = .ok (.iinc 1 1, 3) := by decide +kernel
theorem d_V_countEntries_25 : decode b_V_countEntries 25 = .ok (.iinc 2 1, 3) := by decide +kernel
theorem d_V_countEntries_28 : decode b_V_countEntries 28 = .ok (.goto (-24), 3) := by decide +kernel
theorem d_V_countEntries_31 : decode b_V_countEntries 31 = .ok (.iload_n 1, 1) := by decide +kernel
theorem d_V_countEntries_32 : decode b_V_countEntries 32 = .ok (.ireturn, 1) := by decide +kernel
-- BlockVault.countEntries()I: labels [0, 4], loops [4]
abbrev rm_V_countEntries : Room := { frames := 0, cells := 0, slots := 0, locals := 0 }
def cV_countEntries_4 (X : Nat → xm_PT) (Rh : Option Value → xm_M → Prop) : xm_PT := (xo_iload 2 (xo_push (.int (nI 16)) (xo_icmp (fun x y => y ≤ x) (xo_iload 1 (xo_iret Rh)) (xo_aload 0 (xo_get 0 1 (xo_iload 2 (xo_aald ats (xo_get 4 0 (xo_null (xo_iinc 2 1 (xo_jmp [0, 1, 2] (X 4))) (xo_iinc 1 1 (xo_iinc 2 1 (xo_jmp [0, 1, 2] (X 4)))))))))))))
def cV_countEntries_0 (X : Nat → xm_PT) (Rh : Option Value → xm_M → Prop) : xm_PT := (xo_push (.int 0) (xo_istore 1 (xo_push (.int 0) (xo_istore 2 (xo_jmp [0, 1, 2] (X 4))))))
def fV_countEntries : xm_F := fun X Rh lb => if lb = 0 then cV_countEntries_0 X Rh else (if lb = 4 then cV_countEntries_4 X Rh else fun _ _ _ _ _ => False)
def cp_V_countEntries : xm_CP := fun as m Rh => (lg_sl as).length ≤ 3 ∧ xm_cp fV_countEntries 0 0 as m Rh
theorem eV_countEntries_0 {X : Nat → xm_PT} {Rh : Option Value → xm_M → Prop} (hX : ∀ lb, xm_le (fV_countEntries X Rh lb) (X lb)) {ls : xm_L} {st : List Value} {m : xm_M} {bc bs : Nat} (h : cV_countEntries_0 X Rh ls st m bc bs) : X 0 ls st m bc bs := hX 0 ls st m bc bs h
theorem eV_countEntries_4 {X : Nat → xm_PT} {Rh : Option Value → xm_M → Prop} (hX : ∀ lb, xm_le (fV_countEntries X Rh lb) (X lb)) {ls : xm_L} {st : List Value} {m : xm_M} {bc bs : Nat} (h : cV_countEntries_4 X Rh ls st m bc bs) : X 4 ls st m bc bs := hX 4 ls st m bc bs h
set_option maxRecDepth 20000 in
set_option maxHeartbeats 4000000 in
theorem sV_countEntries_4 {p : Program} {l : Launch} {e : Env} {s : State} {mm : MethodId} {args : Array Value} {below : List Frame} {meth : Method} {c : Code} {D : va_G} {A : Nat → Prop} {Rh : Option Value → xm_M → Prop} (C : xm_C p s mm args c b_V_countEntries 3 "BlockVault" w_V_countEntries D classes ats A) (hr : meth.sig.returnType = (some .int)) (hlk : meth.locks = false) (hnm : meth.name = "countEntries") : xm_le (cV_countEntries_4 (xm_A p l e rm_V_countEntries s mm args below meth c 3 D classes A (MQ below (xm_Q D classes Rh A) args s 0 0 A)) Rh) ((xm_A p l e rm_V_countEntries s mm args below meth c 3 D classes A (MQ below (xm_Q D classes Rh A) args s 0 0 A)) 4) :=
  (xs_iload_n C d_V_countEntries_4 rfl (xs_bipush C d_V_countEntries_5 (by decide) (xs_icmp_ge C d_V_countEntries_7 (by decide) (xs_iload_n C d_V_countEntries_31 rfl (xs_iret C d_V_countEntries_32 hr hlk rfl rfl)) (xs_aload_n C d_V_countEntries_10 rfl (xs_get C (k := 1) d_V_countEntries_11 h_V (ci := 0) rfl (by decide) (List.mem_cons_of_mem _ tw_82) rfl (xs_iload_n C d_V_countEntries_14 rfl (xs_aald C d_V_countEntries_15 (xs_get C (k := 0) d_V_countEntries_16 h_E (ci := 4) rfl (by decide) (List.mem_cons_of_mem _ tw_69) rfl (xs_ifnull C d_V_countEntries_19 (by decide) (xs_iinc C d_V_countEntries_25 (by decide) (by decide) (xs_goto C d_V_countEntries_28 (by decide) (xs_jmp (fun _ _ _ _ _ h => h)))) (xs_iinc C d_V_countEntries_22 (by decide) (by decide) (xs_iinc C d_V_countEntries_25 (by decide) (by decide) (xs_goto C d_V_countEntries_28 (by decide) (xs_jmp (fun _ _ _ _ _ h => h))))))))))))))
set_option maxRecDepth 20000 in
set_option maxHeartbeats 4000000 in
theorem sV_countEntries_0 {p : Program} {l : Launch} {e : Env} {s : State} {mm : MethodId} {args : Array Value} {below : List Frame} {meth : Method} {c : Code} {D : va_G} {A : Nat → Prop} {Rh : Option Value → xm_M → Prop} (C : xm_C p s mm args c b_V_countEntries 3 "BlockVault" w_V_countEntries D classes ats A) (hr : meth.sig.returnType = (some .int)) (hlk : meth.locks = false) (hnm : meth.name = "countEntries") : xm_le (cV_countEntries_0 (xm_A p l e rm_V_countEntries s mm args below meth c 3 D classes A (MQ below (xm_Q D classes Rh A) args s 0 0 A)) Rh) ((xm_A p l e rm_V_countEntries s mm args below meth c 3 D classes A (MQ below (xm_Q D classes Rh A) args s 0 0 A)) 0) :=
  (xs_iconst C d_V_countEntries_0 (by decide) (xs_istore_n C d_V_countEntries_1 rfl (by decide) (xs_iconst C d_V_countEntries_2 (by decide) (xs_istore_n C d_V_countEntries_3 rfl (by decide) (xs_jmp (fun _ _ _ _ _ h => h))))))
theorem met_V_countEntries (l : Launch) (D : va_G) : xm_Met l D classes ats y_V_countEntries w_V_countEntries rm_V_countEntries 0 0 cp_V_countEntries := by
  refine xm_met 0 (by decide) rfl rfl rfl (fun p e s mm args below meth c A Rh C hr hlk hnm lb => ?_)
  unfold fV_countEntries
  split
  · rename_i h; subst h; exact sV_countEntries_0 C hr hlk hnm
  split
  · rename_i h; subst h; exact sV_countEntries_4 C hr hlk hnm
  · exact fun _ _ _ _ _ h => h.elim
theorem d_V_countTombstones_0 : decode b_V_countTombstones 0 = .ok (.iconst 0, 1) := by decide +kernel
theorem d_V_countTombstones_1 : decode b_V_countTombstones 1 = .ok (.istore_n 1, 1) := by decide +kernel
theorem d_V_countTombstones_2 : decode b_V_countTombstones 2 = .ok (.iconst 0, 1) := by decide +kernel
theorem d_V_countTombstones_3 : decode b_V_countTombstones 3 = .ok (.istore_n 2, 1) := by decide +kernel
theorem d_V_countTombstones_4 : decode b_V_countTombstones 4 = .ok (.iload_n 2, 1) := by decide +kernel
theorem d_V_countTombstones_5 : decode b_V_countTombstones 5 = .ok (.bipush 16, 2) := by decide +kernel
theorem d_V_countTombstones_7 : decode b_V_countTombstones 7 = .ok (.if_icmp .ge 39, 3) := by decide +kernel
theorem d_V_countTombstones_10 : decode b_V_countTombstones 10 = .ok (.aload_n 0, 1) := by decide +kernel
theorem d_V_countTombstones_11 : decode b_V_countTombstones 11 = .ok (.getfield 17, 3) := by decide +kernel
theorem d_V_countTombstones_14 : decode b_V_countTombstones 14 = .ok (.iload_n 2, 1) := by decide +kernel
theorem d_V_countTombstones_15 : decode b_V_countTombstones 15 = .ok (.aaload, 1) := by decide +kernel
theorem d_V_countTombstones_16 : decode b_V_countTombstones 16 = .ok (.getfield 63, 3) := by decide +kernel
theorem d_V_countTombstones_19 : decode b_V_countTombstones 19 = .ok (.ifnull 21, 3) := by decide +kernel
theorem d_V_countTombstones_22 : decode b_V_countTombstones 22 = .ok (.aload_n 0, 1) := by decide +kernel
theorem d_V_countTombstones_23 : decode b_V_countTombstones 23 = .ok (.getfield 17, 3) := by decide +kernel
theorem d_V_countTombstones_26 : decode b_V_countTombstones 26 = .ok (.iload_n 2, 1) := by decide +kernel
theorem d_V_countTombstones_27 : decode b_V_countTombstones 27 = .ok (.aaload, 1) := by decide +kernel
theorem d_V_countTombstones_28 : decode b_V_countTombstones 28 = .ok (.getfield 63, 3) := by decide +kernel
theorem d_V_countTombstones_31 : decode b_V_countTombstones 31 = .ok (.getfield 145, 3) := by decide +kernel
theorem d_V_countTombstones_34 : decode b_V_countTombstones 34 = .ok (.ifCond .eq 6, 3) := by decide +kernel
theorem d_V_countTombstones_37 : decode b_V_countTombstones 37 = .ok (.iinc 1 1, 3) := by decide +kernel
theorem d_V_countTombstones_40 : decode b_V_countTombstones 40 = .ok (.iinc 2 1, 3) := by decide +kernel
theorem d_V_countTombstones_43 : decode b_V_countTombstones 43 = .ok (.goto (-39), 3) := by decide +kernel
theorem d_V_countTombstones_46 : decode b_V_countTombstones 46 = .ok (.iload_n 1, 1) := by decide +kernel
theorem d_V_countTombstones_47 : decode b_V_countTombstones 47 = .ok (.ireturn, 1) := by decide +kernel
-- BlockVault.countTombstones()I: labels [0, 4], loops [4]
abbrev rm_V_countTombstones : Room := { frames := 0, cells := 0, slots := 0, locals := 0 }
def cV_countTombstones_4 (X : Nat → xm_PT) (Rh : Option Value → xm_M → Prop) : xm_PT := (xo_iload 2 (xo_push (.int (nI 16)) (xo_icmp (fun x y => y ≤ x) (xo_iload 1 (xo_iret Rh)) (xo_aload 0 (xo_get 0 1 (xo_iload 2 (xo_aald ats (xo_get 4 0 (xo_null (xo_iinc 2 1 (xo_jmp [0, 1, 2] (X 4))) (xo_aload 0 (xo_get 0 1 (xo_iload 2 (xo_aald ats (xo_get 4 0 (xo_get 1 6 (xo_if (fun x => x = 0) (xo_iinc 2 1 (xo_jmp [0, 1, 2] (X 4))) (xo_iinc 1 1 (xo_iinc 2 1 (xo_jmp [0, 1, 2] (X 4))))))))))))))))))))
def cV_countTombstones_0 (X : Nat → xm_PT) (Rh : Option Value → xm_M → Prop) : xm_PT := (xo_push (.int 0) (xo_istore 1 (xo_push (.int 0) (xo_istore 2 (xo_jmp [0, 1, 2] (X 4))))))
def fV_countTombstones : xm_F := fun X Rh lb => if lb = 0 then cV_countTombstones_0 X Rh else (if lb = 4 then cV_countTombstones_4 X Rh else fun _ _ _ _ _ => False)
def cp_V_countTombstones : xm_CP := fun as m Rh => (lg_sl as).length ≤ 3 ∧ xm_cp fV_countTombstones 0 0 as m Rh
theorem eV_countTombstones_0 {X : Nat → xm_PT} {Rh : Option Value → xm_M → Prop} (hX : ∀ lb, xm_le (fV_countTombstones X Rh lb) (X lb)) {ls : xm_L} {st : List Value} {m : xm_M} {bc bs : Nat} (h : cV_countTombstones_0 X Rh ls st m bc bs) : X 0 ls st m bc bs := hX 0 ls st m bc bs h
theorem eV_countTombstones_4 {X : Nat → xm_PT} {Rh : Option Value → xm_M → Prop} (hX : ∀ lb, xm_le (fV_countTombstones X Rh lb) (X lb)) {ls : xm_L} {st : List Value} {m : xm_M} {bc bs : Nat} (h : cV_countTombstones_4 X Rh ls st m bc bs) : X 4 ls st m bc bs := hX 4 ls st m bc bs h
set_option maxRecDepth 20000 in
set_option maxHeartbeats 4000000 in
theorem sV_countTombstones_4 {p : Program} {l : Launch} {e : Env} {s : State} {mm : MethodId} {args : Array Value} {below : List Frame} {meth : Method} {c : Code} {D : va_G} {A : Nat → Prop} {Rh : Option Value → xm_M → Prop} (C : xm_C p s mm args c b_V_countTombstones 3 "BlockVault" w_V_countTombstones D classes ats A) (hr : meth.sig.returnType = (some .int)) (hlk : meth.locks = false) (hnm : meth.name = "countTombstones") : xm_le (cV_countTombstones_4 (xm_A p l e rm_V_countTombstones s mm args below meth c 3 D classes A (MQ below (xm_Q D classes Rh A) args s 0 0 A)) Rh) ((xm_A p l e rm_V_countTombstones s mm args below meth c 3 D classes A (MQ below (xm_Q D classes Rh A) args s 0 0 A)) 4) :=
  (xs_iload_n C d_V_countTombstones_4 rfl (xs_bipush C d_V_countTombstones_5 (by decide) (xs_icmp_ge C d_V_countTombstones_7 (by decide) (xs_iload_n C d_V_countTombstones_46 rfl (xs_iret C d_V_countTombstones_47 hr hlk rfl rfl)) (xs_aload_n C d_V_countTombstones_10 rfl (xs_get C (k := 1) d_V_countTombstones_11 h_V (ci := 0) rfl (by decide) (List.mem_cons_of_mem _ tw_82) rfl (xs_iload_n C d_V_countTombstones_14 rfl (xs_aald C d_V_countTombstones_15 (xs_get C (k := 0) d_V_countTombstones_16 h_E (ci := 4) rfl (by decide) (List.mem_cons_of_mem _ tw_69) rfl (xs_ifnull C d_V_countTombstones_19 (by decide) (xs_iinc C d_V_countTombstones_40 (by decide) (by decide) (xs_goto C d_V_countTombstones_43 (by decide) (xs_jmp (fun _ _ _ _ _ h => h)))) (xs_aload_n C d_V_countTombstones_22 rfl (xs_get C (k := 1) d_V_countTombstones_23 h_V (ci := 0) rfl (by decide) (List.mem_cons_of_mem _ tw_82) rfl (xs_iload_n C d_V_countTombstones_26 rfl (xs_aald C d_V_countTombstones_27 (xs_get C (k := 0) d_V_countTombstones_28 h_E (ci := 4) rfl (by decide) (List.mem_cons_of_mem _ tw_69) rfl (xs_get C (k := 6) d_V_countTombstones_31 h_C (ci := 1) rfl (by decide) (List.mem_cons_of_mem _ tw_154) rfl (xs_if_eq C d_V_countTombstones_34 (by decide) (xs_iinc C d_V_countTombstones_40 (by decide) (by decide) (xs_goto C d_V_countTombstones_43 (by decide) (xs_jmp (fun _ _ _ _ _ h => h)))) (xs_iinc C d_V_countTombstones_37 (by decide) (by decide) (xs_iinc C d_V_countTombstones_40 (by decide) (by decide) (xs_goto C d_V_countTombstones_43 (by decide) (xs_jmp (fun _ _ _ _ _ h => h)))))))))))))))))))))
set_option maxRecDepth 20000 in
set_option maxHeartbeats 4000000 in
theorem sV_countTombstones_0 {p : Program} {l : Launch} {e : Env} {s : State} {mm : MethodId} {args : Array Value} {below : List Frame} {meth : Method} {c : Code} {D : va_G} {A : Nat → Prop} {Rh : Option Value → xm_M → Prop} (C : xm_C p s mm args c b_V_countTombstones 3 "BlockVault" w_V_countTombstones D classes ats A) (hr : meth.sig.returnType = (some .int)) (hlk : meth.locks = false) (hnm : meth.name = "countTombstones") : xm_le (cV_countTombstones_0 (xm_A p l e rm_V_countTombstones s mm args below meth c 3 D classes A (MQ below (xm_Q D classes Rh A) args s 0 0 A)) Rh) ((xm_A p l e rm_V_countTombstones s mm args below meth c 3 D classes A (MQ below (xm_Q D classes Rh A) args s 0 0 A)) 0) :=
  (xs_iconst C d_V_countTombstones_0 (by decide) (xs_istore_n C d_V_countTombstones_1 rfl (by decide) (xs_iconst C d_V_countTombstones_2 (by decide) (xs_istore_n C d_V_countTombstones_3 rfl (by decide) (xs_jmp (fun _ _ _ _ _ h => h))))))
theorem met_V_countTombstones (l : Launch) (D : va_G) : xm_Met l D classes ats y_V_countTombstones w_V_countTombstones rm_V_countTombstones 0 0 cp_V_countTombstones := by
  refine xm_met 0 (by decide) rfl rfl rfl (fun p e s mm args below meth c A Rh C hr hlk hnm lb => ?_)
  unfold fV_countTombstones
  split
  · rename_i h; subst h; exact sV_countTombstones_0 C hr hlk hnm
  split
  · rename_i h; subst h; exact sV_countTombstones_4 C hr hlk hnm
  · exact fun _ _ _ _ _ h => h.elim
theorem d_V_count_0 : decode b_V_count 0 = .ok (.iload_n 1, 1) := by decide +kernel
theorem d_V_count_1 : decode b_V_count 1 = .ok (.tableswitch 106 0 7 #[47, 52, 57, 62, 67, 83, 88, 93], 47) := by decide +kernel
theorem d_V_count_48 : decode b_V_count 48 = .ok (.aload_n 0, 1) := by decide +kernel
theorem d_V_count_49 : decode b_V_count 49 = .ok (.invokevirtual 142, 3) := by decide +kernel
theorem d_V_count_52 : decode b_V_count 52 = .ok (.ireturn, 1) := by decide +kernel
theorem d_V_count_53 : decode b_V_count 53 = .ok (.aload_n 0, 1) := by decide +kernel
theorem d_V_count_54 : decode b_V_count 54 = .ok (.invokevirtual 187, 3) := by decide +kernel
theorem d_V_count_57 : decode b_V_count 57 = .ok (.ireturn, 1) := by decide +kernel
theorem d_V_count_58 : decode b_V_count 58 = .ok (.aload_n 0, 1) := by decide +kernel
theorem d_V_count_59 : decode b_V_count 59 = .ok (.invokevirtual 190, 3) := by decide +kernel
theorem d_V_count_62 : decode b_V_count 62 = .ok (.ireturn, 1) := by decide +kernel
theorem d_V_count_63 : decode b_V_count 63 = .ok (.aload_n 0, 1) := by decide +kernel
theorem d_V_count_64 : decode b_V_count 64 = .ok (.getfield 21, 3) := by decide +kernel
theorem d_V_count_67 : decode b_V_count 67 = .ok (.ireturn, 1) := by decide +kernel
theorem d_V_count_68 : decode b_V_count 68 = .ok (.aload_n 0, 1) := by decide +kernel
theorem d_V_count_69 : decode b_V_count 69 = .ok (.getfield 37, 3) := by decide +kernel
theorem d_V_count_72 : decode b_V_count 72 = .ok (.ifCond .eq 7, 3) := by decide +kernel
theorem d_V_count_75 : decode b_V_count 75 = .ok (.iconst 0, 1) := by decide +kernel
theorem d_V_count_76 : decode b_V_count 76 = .ok (.goto 7, 3) := by decide +kernel
theorem d_V_count_79 : decode b_V_count 79 = .ok (.aload_n 0, 1) := by decide +kernel
theorem d_V_count_80 : decode b_V_count 80 = .ok (.getfield 25, 3) := by decide +kernel
theorem d_V_count_83 : decode b_V_count 83 = .ok (.ireturn, 1) := by decide +kernel
theorem d_V_count_84 : decode b_V_count 84 = .ok (.aload_n 0, 1) := by decide +kernel
theorem d_V_count_85 : decode b_V_count 85 = .ok (.getfield 31, 3) := by decide +kernel
theorem d_V_count_88 : decode b_V_count 88 = .ok (.ireturn, 1) := by decide +kernel
theorem d_V_count_89 : decode b_V_count 89 = .ok (.aload_n 0, 1) := by decide +kernel
theorem d_V_count_90 : decode b_V_count 90 = .ok (.getfield 34, 3) := by decide +kernel
theorem d_V_count_93 : decode b_V_count 93 = .ok (.ireturn, 1) := by decide +kernel
theorem d_V_count_94 : decode b_V_count 94 = .ok (.aload_n 0, 1) := by decide +kernel
theorem d_V_count_95 : decode b_V_count 95 = .ok (.getfield 37, 3) := by decide +kernel
theorem d_V_count_98 : decode b_V_count 98 = .ok (.ifCond .eq 7, 3) := by decide +kernel
theorem d_V_count_101 : decode b_V_count 101 = .ok (.iconst 1, 1) := by decide +kernel
theorem d_V_count_102 : decode b_V_count 102 = .ok (.goto 4, 3) := by decide +kernel
theorem d_V_count_105 : decode b_V_count 105 = .ok (.iconst 0, 1) := by decide +kernel
theorem d_V_count_106 : decode b_V_count 106 = .ok (.ireturn, 1) := by decide +kernel
theorem d_V_count_107 : decode b_V_count 107 = .ok (.iconst (-1), 1) := by decide +kernel
theorem d_V_count_108 : decode b_V_count 108 = .ok (.ireturn, 1) := by decide +kernel
-- BlockVault.count(I)I: labels [0], loops []
abbrev rm_V_count : Room := { frames := 3, cells := 0, slots := 0, locals := 65 }
def cV_count_0 (X : Nat → xm_PT) (Rh : Option Value → xm_M → Prop) : xm_PT := (xo_iload 1 (xo_tsw 0 [(xo_aload 0 (xo_callV 0 0 0 0 cp_V_countThere (xo_iret Rh))), (xo_aload 0 (xo_callV 0 0 0 0 cp_V_countEntries (xo_iret Rh))), (xo_aload 0 (xo_callV 0 0 0 0 cp_V_countTombstones (xo_iret Rh))), (xo_aload 0 (xo_get 0 2 (xo_iret Rh))), (xo_aload 0 (xo_get 0 7 (xo_if (fun x => x = 0) (xo_aload 0 (xo_get 0 3 (xo_iret Rh))) (xo_push (.int 0) (xo_iret Rh))))), (xo_aload 0 (xo_get 0 5 (xo_iret Rh))), (xo_aload 0 (xo_get 0 6 (xo_iret Rh))), (xo_aload 0 (xo_get 0 7 (xo_if (fun x => x = 0) (xo_push (.int 0) (xo_iret Rh)) (xo_push (.int 1) (xo_iret Rh)))))] (xo_push (.int (-1)) (xo_iret Rh))))
def fV_count : xm_F := fun X Rh lb => if lb = 0 then cV_count_0 X Rh else fun _ _ _ _ _ => False
def cp_V_count : xm_CP := fun as m Rh => (lg_sl as).length ≤ 2 ∧ xm_cp fV_count 0 0 as m Rh
theorem eV_count_0 {X : Nat → xm_PT} {Rh : Option Value → xm_M → Prop} (hX : ∀ lb, xm_le (fV_count X Rh lb) (X lb)) {ls : xm_L} {st : List Value} {m : xm_M} {bc bs : Nat} (h : cV_count_0 X Rh ls st m bc bs) : X 0 ls st m bc bs := hX 0 ls st m bc bs h
set_option maxRecDepth 20000 in
set_option maxHeartbeats 4000000 in
theorem sV_count_0 {p : Program} {l : Launch} {e : Env} {s : State} {mm : MethodId} {args : Array Value} {below : List Frame} {meth : Method} {c : Code} {D : va_G} {A : Nat → Prop} {Rh : Option Value → xm_M → Prop} (C : xm_C p s mm args c b_V_count 2 "BlockVault" w_V_count D classes ats A) (hr : meth.sig.returnType = (some .int)) (hlk : meth.locks = false) (hnm : meth.name = "count") : xm_le (cV_count_0 (xm_A p l e rm_V_count s mm args below meth c 2 D classes A (MQ below (xm_Q D classes Rh A) args s 0 0 A)) Rh) ((xm_A p l e rm_V_count s mm args below meth c 2 D classes A (MQ below (xm_Q D classes Rh A) args s 0 0 A)) 0) :=
  (xs_iload_n C d_V_count_0 rfl (xs_tsw C d_V_count_1 rfl ⟨⟨48, by decide, (xs_aload_n C d_V_count_48 rfl (xs_callV C (CN := "BlockVault") (T := F_V) (N := 8) d_V_count_49 (met_V_countThere l D) ⟨callB_of (ws := w_V_countThere) (rm := rm_V_countThere) 0 C.1.2.2.2.2 (gG_m tw_376) rfl rfl rfl (C.1.2.2.2.2 _ (List.mem_cons_of_mem _ tw_1)) (C.1.2.2.2.2 _ (List.mem_cons_of_mem _ tw_373)) ⟨by decide, by decide, by decide +kernel⟩ ⟨Nat.le_of_ble_eq_true rfl, Nat.le_of_ble_eq_true rfl⟩, (C.1.2.2.2.2 _ (List.mem_cons_of_mem _ tw_375)), (C.1.2.2.2.2 _ (List.mem_cons_of_mem _ ts_30))⟩ (ci := 0) rfl (xs_iret C d_V_count_52 hr hlk rfl rfl)))⟩, ⟨⟨53, by decide, (xs_aload_n C d_V_count_53 rfl (xs_callV C (CN := "BlockVault") (T := F_V) (N := 8) d_V_count_54 (met_V_countEntries l D) ⟨callB_of (ws := w_V_countEntries) (rm := rm_V_countEntries) 0 C.1.2.2.2.2 (gG_m tw_410) rfl rfl rfl (C.1.2.2.2.2 _ (List.mem_cons_of_mem _ tw_1)) (C.1.2.2.2.2 _ (List.mem_cons_of_mem _ tw_407)) ⟨by decide, by decide, by decide +kernel⟩ ⟨Nat.le_of_ble_eq_true rfl, Nat.le_of_ble_eq_true rfl⟩, (C.1.2.2.2.2 _ (List.mem_cons_of_mem _ tw_409)), (C.1.2.2.2.2 _ (List.mem_cons_of_mem _ ts_31))⟩ (ci := 0) rfl (xs_iret C d_V_count_57 hr hlk rfl rfl)))⟩, ⟨⟨58, by decide, (xs_aload_n C d_V_count_58 rfl (xs_callV C (CN := "BlockVault") (T := F_V) (N := 8) d_V_count_59 (met_V_countTombstones l D) ⟨callB_of (ws := w_V_countTombstones) (rm := rm_V_countTombstones) 0 C.1.2.2.2.2 (gG_m tw_414) rfl rfl rfl (C.1.2.2.2.2 _ (List.mem_cons_of_mem _ tw_1)) (C.1.2.2.2.2 _ (List.mem_cons_of_mem _ tw_411)) ⟨by decide, by decide, by decide +kernel⟩ ⟨Nat.le_of_ble_eq_true rfl, Nat.le_of_ble_eq_true rfl⟩, (C.1.2.2.2.2 _ (List.mem_cons_of_mem _ tw_413)), (C.1.2.2.2.2 _ (List.mem_cons_of_mem _ ts_32))⟩ (ci := 0) rfl (xs_iret C d_V_count_62 hr hlk rfl rfl)))⟩, ⟨⟨63, by decide, (xs_aload_n C d_V_count_63 rfl (xs_get C (k := 2) d_V_count_64 h_V (ci := 0) rfl (by decide) (List.mem_cons_of_mem _ tw_83) rfl (xs_iret C d_V_count_67 hr hlk rfl rfl)))⟩, ⟨⟨68, by decide, (xs_aload_n C d_V_count_68 rfl (xs_get C (k := 7) d_V_count_69 h_V (ci := 0) rfl (by decide) (List.mem_cons_of_mem _ tw_88) rfl (xs_if_eq C d_V_count_72 (by decide) (xs_aload_n C d_V_count_79 rfl (xs_get C (k := 3) d_V_count_80 h_V (ci := 0) rfl (by decide) (List.mem_cons_of_mem _ tw_84) rfl (xs_iret C d_V_count_83 hr hlk rfl rfl))) (xs_iconst C d_V_count_75 (by decide) (xs_goto C d_V_count_76 (by decide) (xs_iret C d_V_count_83 hr hlk rfl rfl))))))⟩, ⟨⟨84, by decide, (xs_aload_n C d_V_count_84 rfl (xs_get C (k := 5) d_V_count_85 h_V (ci := 0) rfl (by decide) (List.mem_cons_of_mem _ tw_86) rfl (xs_iret C d_V_count_88 hr hlk rfl rfl)))⟩, ⟨⟨89, by decide, (xs_aload_n C d_V_count_89 rfl (xs_get C (k := 6) d_V_count_90 h_V (ci := 0) rfl (by decide) (List.mem_cons_of_mem _ tw_87) rfl (xs_iret C d_V_count_93 hr hlk rfl rfl)))⟩, ⟨⟨94, by decide, (xs_aload_n C d_V_count_94 rfl (xs_get C (k := 7) d_V_count_95 h_V (ci := 0) rfl (by decide) (List.mem_cons_of_mem _ tw_88) rfl (xs_if_eq C d_V_count_98 (by decide) (xs_iconst C d_V_count_105 (by decide) (xs_iret C d_V_count_106 hr hlk rfl rfl)) (xs_iconst C d_V_count_101 (by decide) (xs_goto C d_V_count_102 (by decide) (xs_iret C d_V_count_106 hr hlk rfl rfl))))))⟩, trivial⟩⟩⟩⟩⟩⟩⟩⟩ (tgd := 107) (by decide) (xs_iconst C d_V_count_107 (by decide) (xs_iret C d_V_count_108 hr hlk rfl rfl))))
theorem met_V_count (l : Launch) (D : va_G) : xm_Met l D classes ats y_V_count w_V_count rm_V_count 0 0 cp_V_count := by
  refine xm_met 0 (by decide) rfl rfl rfl (fun p e s mm args below meth c A Rh C hr hlk hnm lb => ?_)
  unfold fV_count
  split
  · rename_i h; subst h; exact sV_count_0 C hr hlk hnm
  · exact fun _ _ _ _ _ h => h.elim
