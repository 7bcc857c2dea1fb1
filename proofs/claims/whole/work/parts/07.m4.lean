theorem d_M_block_0 : decode b_M_block 0 = .ok (.iload_n 1, 1) := by decide +kernel
theorem d_M_block_1 : decode b_M_block 1 = .ok (.iconst 0, 1) := by decide +kernel
theorem d_M_block_2 : decode b_M_block 2 = .ok (.bipush 7, 2) := by decide +kernel
theorem d_M_block_4 : decode b_M_block 4 = .ok (.invokestatic 92, 3) := by decide +kernel
theorem d_M_block_7 : decode b_M_block 7 = .ok (.ifCond .eq 12, 3) := by decide +kernel
theorem d_M_block_10 : decode b_M_block 10 = .ok (.iload_n 2, 1) := by decide +kernel
theorem d_M_block_11 : decode b_M_block 11 = .ok (.iconst 0, 1) := by decide +kernel
theorem d_M_block_12 : decode b_M_block 12 = .ok (.iconst 4, 1) := by decide +kernel
theorem d_M_block_13 : decode b_M_block 13 = .ok (.invokestatic 92, 3) := by decide +kernel
theorem d_M_block_16 : decode b_M_block 16 = .ok (.ifCond .ne 5, 3) := by decide +kernel
theorem d_M_block_19 : decode b_M_block 19 = .ok (.iconst (-1), 1) := by decide +kernel
theorem d_M_block_20 : decode b_M_block 20 = .ok (.ireturn, 1) := by decide +kernel
theorem d_M_block_21 : decode b_M_block 21 = .ok (.iconst 0, 1) := by decide +kernel
theorem d_M_block_22 : decode b_M_block 22 = .ok (.istore_n 3, 1) := by decide +kernel
theorem d_M_block_23 : decode b_M_block 23 = .ok (.iconst 0, 1) := by decide +kernel
theorem d_M_block_24 : decode b_M_block 24 = .ok (.istore 4, 2) := by decide +kernel
theorem d_M_block_26 : decode b_M_block 26 = .ok (.iload 4, 2) := by decide +kernel
theorem d_M_block_28 : decode b_M_block 28 = .ok (.bipush 8, 2) := by decide +kernel
theorem d_M_block_30 : decode b_M_block 30 = .ok (.if_icmp .ge 37, 3) := by decide +kernel
theorem d_M_block_33 : decode b_M_block 33 = .ok (.aload_n 0, 1) := by decide +kernel
theorem d_M_block_34 : decode b_M_block 34 = .ok (.getfield 35, 3) := by decide +kernel
theorem d_M_block_37 : decode b_M_block 37 = .ok (.iload_n 1, 1) := by decide +kernel
theorem d_M_block_38 : decode b_M_block 38 = .ok (.iaload, 1) := by decide +kernel
theorem d_M_block_39 : decode b_M_block 39 = .ok (.iconst 4, 1) := by decide +kernel
theorem d_M_block_40 : decode b_M_block 40 = .ok (.if_icmp .ne 21, 3) := by decide +kernel
theorem d_M_block_43 : decode b_M_block 43 = .ok (.aload_n 0, 1) := by decide +kernel
theorem d_M_block_44 : decode b_M_block 44 = .ok (.getfield 41, 3) := by decide +kernel
theorem d_M_block_47 : decode b_M_block 47 = .ok (.iload_n 1, 1) := by decide +kernel
theorem d_M_block_48 : decode b_M_block 48 = .ok (.iaload, 1) := by decide +kernel
theorem d_M_block_49 : decode b_M_block 49 = .ok (.iload 4, 2) := by decide +kernel
theorem d_M_block_51 : decode b_M_block 51 = .ok (.ishr, 1) := by decide +kernel
theorem d_M_block_52 : decode b_M_block 52 = .ok (.iconst 1, 1) := by decide +kernel
theorem d_M_block_53 : decode b_M_block 53 = .ok (.iand, 1) := by decide +kernel
theorem d_M_block_54 : decode b_M_block 54 = .ok (.iconst 1, 1) := by decide +kernel
theorem d_M_block_55 : decode b_M_block 55 = .ok (.if_icmp .ne 6, 3) := by decide +kernel
theorem d_M_block_58 : decode b_M_block 58 = .ok (.iinc 3 1, 3) := by decide +kernel
theorem d_M_block_61 : decode b_M_block 61 = .ok (.iinc 4 1, 3) := by decide +kernel
theorem d_M_block_64 : decode b_M_block 64 = .ok (.goto (-38), 3) := by decide +kernel
theorem d_M_block_67 : decode b_M_block 67 = .ok (.iload_n 2, 1) := by decide +kernel
theorem d_M_block_68 : decode b_M_block 68 = .ok (.tableswitch 64 0 3 #[32, 39, 45, 54], 32) := by decide +kernel
theorem d_M_block_100 : decode b_M_block 100 = .ok (.aload_n 0, 1) := by decide +kernel
theorem d_M_block_101 : decode b_M_block 101 = .ok (.getfield 35, 3) := by decide +kernel
theorem d_M_block_104 : decode b_M_block 104 = .ok (.iload_n 1, 1) := by decide +kernel
theorem d_M_block_105 : decode b_M_block 105 = .ok (.iaload, 1) := by decide +kernel
theorem d_M_block_106 : decode b_M_block 106 = .ok (.ireturn, 1) := by decide +kernel
theorem d_M_block_107 : decode b_M_block 107 = .ok (.aload_n 0, 1) := by decide +kernel
theorem d_M_block_108 : decode b_M_block 108 = .ok (.iload_n 1, 1) := by decide +kernel
theorem d_M_block_109 : decode b_M_block 109 = .ok (.invokevirtual 58, 3) := by decide +kernel
theorem d_M_block_112 : decode b_M_block 112 = .ok (.ireturn, 1) := by decide +kernel
theorem d_M_block_113 : decode b_M_block 113 = .ok (.bipush 12, 2) := by decide +kernel
theorem d_M_block_115 : decode b_M_block 115 = .ok (.aload_n 0, 1) := by decide +kernel
theorem d_M_block_116 : decode b_M_block 116 = .ok (.iload_n 1, 1) := by decide +kernel
theorem d_M_block_117 : decode b_M_block 117 = .ok (.invokevirtual 68, 3) := by decide +kernel
theorem d_M_block_120 : decode b_M_block 120 = .ok (.isub, 1) := by decide +kernel
theorem d_M_block_121 : decode b_M_block 121 = .ok (.ireturn, 1) := by decide +kernel
theorem d_M_block_122 : decode b_M_block 122 = .ok (.aload_n 0, 1) := by decide +kernel
theorem d_M_block_123 : decode b_M_block 123 = .ok (.getfield 32, 3) := by decide +kernel
theorem d_M_block_126 : decode b_M_block 126 = .ok (.bipush 8, 2) := by decide +kernel
theorem d_M_block_128 : decode b_M_block 128 = .ok (.iload_n 1, 1) := by decide +kernel
theorem d_M_block_129 : decode b_M_block 129 = .ok (.iadd, 1) := by decide +kernel
theorem d_M_block_130 : decode b_M_block 130 = .ok (.iaload, 1) := by decide +kernel
theorem d_M_block_131 : decode b_M_block 131 = .ok (.ireturn, 1) := by decide +kernel
theorem d_M_block_132 : decode b_M_block 132 = .ok (.iload_n 3, 1) := by decide +kernel
theorem d_M_block_133 : decode b_M_block 133 = .ok (.ireturn, 1) := by decide +kernel
-- BlockVaultModel.block(II)I: labels [0, 26], loops [26]
abbrev rm_M_block : Room := { frames := 1, cells := 0, slots := 0, locals := 23 }
def cM_block_26 (X : Nat → xm_PT) (Rh : Option Value → xm_M → Prop) : xm_PT := (xo_iload 4 (xo_push (.int (nI 8)) (xo_icmp (fun x y => y ≤ x) (xo_iload 2 (xo_tsw 0 [(xo_aload 0 (xo_get 5 8 (xo_iload 1 (xo_iald ats (xo_iret Rh))))), (xo_aload 0 (xo_iload 1 (xo_callV 5 1 0 0 cp_M_used (xo_iret Rh)))), (xo_push (.int (nI 12)) (xo_aload 0 (xo_iload 1 (xo_callV 5 1 0 0 cp_M_room (xo_ibin (fun x y => x - y) (xo_iret Rh)))))), (xo_aload 0 (xo_get 5 7 (xo_push (.int (nI 8)) (xo_iload 1 (xo_ibin (fun x y => x + y) (xo_iald ats (xo_iret Rh)))))))] (xo_iload 3 (xo_iret Rh)))) (xo_aload 0 (xo_get 5 8 (xo_iload 1 (xo_iald ats (xo_push (.int (nI 4)) (xo_icmp (fun x y => x = y) (xo_aload 0 (xo_get 5 10 (xo_iload 1 (xo_iald ats (xo_iload 4 (xo_ibin (fun x y => x >>> (y &&& 31)) (xo_push (.int 1) (xo_ibin (fun x y => x &&& y) (xo_push (.int 1) (xo_icmp (fun x y => x = y) (xo_iinc 3 1 (xo_iinc 4 1 (xo_jmp [0, 1, 2, 3, 4] (X 26)))) (xo_iinc 4 1 (xo_jmp [0, 1, 2, 3, 4] (X 26))))))))))))) (xo_iinc 4 1 (xo_jmp [0, 1, 2, 3, 4] (X 26))))))))))))
def cM_block_0 (X : Nat → xm_PT) (Rh : Option Value → xm_M → Prop) : xm_PT := (xo_iload 1 (xo_push (.int 0) (xo_push (.int (nI 7)) (xo_callS 3 0 0 cp_M_in (xo_if (fun x => x = 0) (xo_push (.int (-1)) (xo_iret Rh)) (xo_iload 2 (xo_push (.int 0) (xo_push (.int (nI 4)) (xo_callS 3 0 0 cp_M_in (xo_if (fun x => x = 0) (xo_push (.int (-1)) (xo_iret Rh)) (xo_push (.int 0) (xo_istore 3 (xo_push (.int 0) (xo_istore 4 (xo_jmp [0, 1, 2, 3, 4] (X 26))))))))))))))))
def fM_block : xm_F := fun X Rh lb => if lb = 0 then cM_block_0 X Rh else (if lb = 26 then cM_block_26 X Rh else fun _ _ _ _ _ => False)
def cp_M_block : xm_CP := fun as m Rh => (lg_sl as).length ≤ 5 ∧ xm_cp fM_block 0 0 as m Rh
theorem eM_block_0 {X : Nat → xm_PT} {Rh : Option Value → xm_M → Prop} (hX : ∀ lb, xm_le (fM_block X Rh lb) (X lb)) {ls : xm_L} {st : List Value} {m : xm_M} {bc bs : Nat} (h : cM_block_0 X Rh ls st m bc bs) : X 0 ls st m bc bs := hX 0 ls st m bc bs h
theorem eM_block_26 {X : Nat → xm_PT} {Rh : Option Value → xm_M → Prop} (hX : ∀ lb, xm_le (fM_block X Rh lb) (X lb)) {ls : xm_L} {st : List Value} {m : xm_M} {bc bs : Nat} (h : cM_block_26 X Rh ls st m bc bs) : X 26 ls st m bc bs := hX 26 ls st m bc bs h
set_option maxRecDepth 20000 in
set_option maxHeartbeats 4000000 in
theorem sM_block_26 {p : Program} {l : Launch} {e : Env} {s : State} {mm : MethodId} {args : Array Value} {below : List Frame} {meth : Method} {c : Code} {D : va_G} {A : Nat → Prop} {Rh : Option Value → xm_M → Prop} (C : xm_C p s mm args c b_M_block 5 "BlockVaultModel" w_M_block D classes ats A) (hr : meth.sig.returnType = (some .int)) (hlk : meth.locks = false) (hnm : meth.name = "block") : xm_le (cM_block_26 (xm_A p l e rm_M_block s mm args below meth c 5 D classes A (MQ below (xm_Q D classes Rh A) args s 0 0 A)) Rh) ((xm_A p l e rm_M_block s mm args below meth c 5 D classes A (MQ below (xm_Q D classes Rh A) args s 0 0 A)) 26) :=
  (xs_iload C d_M_block_26 (xs_bipush C d_M_block_28 (by decide) (xs_icmp_ge C d_M_block_30 (by decide) (xs_iload_n C d_M_block_67 rfl (xs_tsw C d_M_block_68 rfl ⟨⟨100, by decide, (xs_aload_n C d_M_block_100 rfl (xs_get C (k := 8) d_M_block_101 h_M (ci := 5) rfl (by decide) (List.mem_cons_of_mem _ tw_429) rfl (xs_iload_n C d_M_block_104 rfl (xs_iald C d_M_block_105 (xs_iret C d_M_block_106 hr hlk rfl rfl)))))⟩, ⟨⟨107, by decide, (xs_aload_n C d_M_block_107 rfl (xs_iload_n C d_M_block_108 rfl (xs_callV C (CN := "BlockVaultModel") (T := F_M) (N := 18) d_M_block_109 (met_M_used l D) ⟨callB_of (ws := w_M_used) (rm := rm_M_used) 1 C.1.2.2.2.2 (gG_m tw_532) rfl rfl rfl (C.1.2.2.2.2 _ (List.mem_cons_of_mem _ tw_5)) (C.1.2.2.2.2 _ (List.mem_cons_of_mem _ tw_529)) ⟨by decide, by decide, by decide +kernel⟩ ⟨Nat.le_of_ble_eq_true rfl, Nat.le_of_ble_eq_true rfl⟩, (C.1.2.2.2.2 _ (List.mem_cons_of_mem _ tw_531)), (C.1.2.2.2.2 _ (List.mem_cons_of_mem _ ts_44))⟩ (ci := 5) rfl (xs_iret C d_M_block_112 hr hlk rfl rfl))))⟩, ⟨⟨113, by decide, (xs_bipush C d_M_block_113 (by decide) (xs_aload_n C d_M_block_115 rfl (xs_iload_n C d_M_block_116 rfl (xs_callV C (CN := "BlockVaultModel") (T := F_M) (N := 18) d_M_block_117 (met_M_room l D) ⟨callB_of (ws := w_M_room) (rm := rm_M_room) 1 C.1.2.2.2.2 (gG_m tw_512) rfl rfl rfl (C.1.2.2.2.2 _ (List.mem_cons_of_mem _ tw_5)) (C.1.2.2.2.2 _ (List.mem_cons_of_mem _ tw_509)) ⟨by decide, by decide, by decide +kernel⟩ ⟨Nat.le_of_ble_eq_true rfl, Nat.le_of_ble_eq_true rfl⟩, (C.1.2.2.2.2 _ (List.mem_cons_of_mem _ tw_511)), (C.1.2.2.2.2 _ (List.mem_cons_of_mem _ ts_39))⟩ (ci := 5) rfl (xs_isub C d_M_block_120 (xs_iret C d_M_block_121 hr hlk rfl rfl))))))⟩, ⟨⟨122, by decide, (xs_aload_n C d_M_block_122 rfl (xs_get C (k := 7) d_M_block_123 h_M (ci := 5) rfl (by decide) (List.mem_cons_of_mem _ tw_428) rfl (xs_bipush C d_M_block_126 (by decide) (xs_iload_n C d_M_block_128 rfl (xs_iadd C d_M_block_129 (xs_iald C d_M_block_130 (xs_iret C d_M_block_131 hr hlk rfl rfl)))))))⟩, trivial⟩⟩⟩⟩ (tgd := 132) (by decide) (xs_iload_n C d_M_block_132 rfl (xs_iret C d_M_block_133 hr hlk rfl rfl)))) (xs_aload_n C d_M_block_33 rfl (xs_get C (k := 8) d_M_block_34 h_M (ci := 5) rfl (by decide) (List.mem_cons_of_mem _ tw_429) rfl (xs_iload_n C d_M_block_37 rfl (xs_iald C d_M_block_38 (xs_iconst C d_M_block_39 (by decide) (xs_icmp_ne C d_M_block_40 (by decide) (xs_aload_n C d_M_block_43 rfl (xs_get C (k := 10) d_M_block_44 h_M (ci := 5) rfl (by decide) (List.mem_cons_of_mem _ tw_431) rfl (xs_iload_n C d_M_block_47 rfl (xs_iald C d_M_block_48 (xs_iload C d_M_block_49 (xs_ishr C d_M_block_51 (xs_iconst C d_M_block_52 (by decide) (xs_iand C d_M_block_53 (xs_iconst C d_M_block_54 (by decide) (xs_icmp_ne C d_M_block_55 (by decide) (xs_iinc C d_M_block_58 (by decide) (by decide) (xs_iinc C d_M_block_61 (by decide) (by decide) (xs_goto C d_M_block_64 (by decide) (xs_jmp (fun _ _ _ _ _ h => h))))) (xs_iinc C d_M_block_61 (by decide) (by decide) (xs_goto C d_M_block_64 (by decide) (xs_jmp (fun _ _ _ _ _ h => h)))))))))))))) (xs_iinc C d_M_block_61 (by decide) (by decide) (xs_goto C d_M_block_64 (by decide) (xs_jmp (fun _ _ _ _ _ h => h)))))))))))))
set_option maxRecDepth 20000 in
set_option maxHeartbeats 4000000 in
theorem sM_block_0 {p : Program} {l : Launch} {e : Env} {s : State} {mm : MethodId} {args : Array Value} {below : List Frame} {meth : Method} {c : Code} {D : va_G} {A : Nat → Prop} {Rh : Option Value → xm_M → Prop} (C : xm_C p s mm args c b_M_block 5 "BlockVaultModel" w_M_block D classes ats A) (hr : meth.sig.returnType = (some .int)) (hlk : meth.locks = false) (hnm : meth.name = "block") : xm_le (cM_block_0 (xm_A p l e rm_M_block s mm args below meth c 5 D classes A (MQ below (xm_Q D classes Rh A) args s 0 0 A)) Rh) ((xm_A p l e rm_M_block s mm args below meth c 5 D classes A (MQ below (xm_Q D classes Rh A) args s 0 0 A)) 0) :=
  (xs_iload_n C d_M_block_0 rfl (xs_iconst C d_M_block_1 (by decide) (xs_bipush C d_M_block_2 (by decide) (xs_callS C d_M_block_4 (met_M_in l D) ⟨callB_of (ws := w_M_in) (rm := rm_M_in) 3 C.1.2.2.2.2 (gG_m tw_484) rfl rfl rfl (C.1.2.2.2.2 _ (List.mem_cons_of_mem _ tw_5)) (C.1.2.2.2.2 _ (List.mem_cons_of_mem _ tw_482)) ⟨by decide, by decide, by decide +kernel⟩ ⟨Nat.le_of_ble_eq_true rfl, Nat.le_of_ble_eq_true rfl⟩, C.1.2.2.2.2 _ (List.mem_cons_of_mem _ tw_483)⟩ (xs_if_eq C d_M_block_7 (by decide) (xs_iconst C d_M_block_19 (by decide) (xs_iret C d_M_block_20 hr hlk rfl rfl)) (xs_iload_n C d_M_block_10 rfl (xs_iconst C d_M_block_11 (by decide) (xs_iconst C d_M_block_12 (by decide) (xs_callS C d_M_block_13 (met_M_in l D) ⟨callB_of (ws := w_M_in) (rm := rm_M_in) 3 C.1.2.2.2.2 (gG_m tw_484) rfl rfl rfl (C.1.2.2.2.2 _ (List.mem_cons_of_mem _ tw_5)) (C.1.2.2.2.2 _ (List.mem_cons_of_mem _ tw_482)) ⟨by decide, by decide, by decide +kernel⟩ ⟨Nat.le_of_ble_eq_true rfl, Nat.le_of_ble_eq_true rfl⟩, C.1.2.2.2.2 _ (List.mem_cons_of_mem _ tw_483)⟩ (xs_if_ne C d_M_block_16 (by decide) (xs_iconst C d_M_block_19 (by decide) (xs_iret C d_M_block_20 hr hlk rfl rfl)) (xs_iconst C d_M_block_21 (by decide) (xs_istore_n C d_M_block_22 rfl (by decide) (xs_iconst C d_M_block_23 (by decide) (xs_istore C d_M_block_24 (by decide) (xs_jmp (fun _ _ _ _ _ h => h))))))))))))))))
theorem met_M_block (l : Launch) (D : va_G) : xm_Met l D classes ats y_M_block w_M_block rm_M_block 0 0 cp_M_block := by
  refine xm_met 0 (by decide) rfl rfl rfl (fun p e s mm args below meth c A Rh C hr hlk hnm lb => ?_)
  unfold fM_block
  split
  · rename_i h; subst h; exact sM_block_0 C hr hlk hnm
  split
  · rename_i h; subst h; exact sM_block_26 C hr hlk hnm
  · exact fun _ _ _ _ _ h => h.elim
theorem d_M_image_0 : decode b_M_image 0 = .ok (.iload_n 1, 1) := by decide +kernel
theorem d_M_image_1 : decode b_M_image 1 = .ok (.iconst 0, 1) := by decide +kernel
theorem d_M_image_2 : decode b_M_image 2 = .ok (.bipush 7, 2) := by decide +kernel
theorem d_M_image_4 : decode b_M_image 4 = .ok (.invokestatic 92, 3) := by decide +kernel
theorem d_M_image_7 : decode b_M_image 7 = .ok (.ifCond .ne 5, 3) := by decide +kernel
theorem d_M_image_10 : decode b_M_image 10 = .ok (.iconst (-1), 1) := by decide +kernel
theorem d_M_image_11 : decode b_M_image 11 = .ok (.ireturn, 1) := by decide +kernel
theorem d_M_image_12 : decode b_M_image 12 = .ok (.iload_n 2, 1) := by decide +kernel
theorem d_M_image_13 : decode b_M_image 13 = .ok (.iconst 0, 1) := by decide +kernel
theorem d_M_image_14 : decode b_M_image 14 = .ok (.aload_n 0, 1) := by decide +kernel
theorem d_M_image_15 : decode b_M_image 15 = .ok (.getfield 32, 3) := by decide +kernel
theorem d_M_image_18 : decode b_M_image 18 = .ok (.bipush 8, 2) := by decide +kernel
theorem d_M_image_20 : decode b_M_image 20 = .ok (.iload_n 1, 1) := by decide +kernel
theorem d_M_image_21 : decode b_M_image 21 = .ok (.iadd, 1) := by decide +kernel
theorem d_M_image_22 : decode b_M_image 22 = .ok (.iaload, 1) := by decide +kernel
theorem d_M_image_23 : decode b_M_image 23 = .ok (.iconst 1, 1) := by decide +kernel
theorem d_M_image_24 : decode b_M_image 24 = .ok (.isub, 1) := by decide +kernel
theorem d_M_image_25 : decode b_M_image 25 = .ok (.invokestatic 92, 3) := by decide +kernel
theorem d_M_image_28 : decode b_M_image 28 = .ok (.ifCond .eq 20, 3) := by decide +kernel
theorem d_M_image_31 : decode b_M_image 31 = .ok (.aload_n 0, 1) := by decide +kernel
theorem d_M_image_32 : decode b_M_image 32 = .ok (.getfield 29, 3) := by decide +kernel
theorem d_M_image_35 : decode b_M_image 35 = .ok (.bipush 96, 2) := by decide +kernel
theorem d_M_image_37 : decode b_M_image 37 = .ok (.bipush 12, 2) := by decide +kernel
theorem d_M_image_39 : decode b_M_image 39 = .ok (.iload_n 1, 1) := by decide +kernel
theorem d_M_image_40 : decode b_M_image 40 = .ok (.imul, 1) := by decide +kernel
theorem d_M_image_41 : decode b_M_image 41 = .ok (.iadd, 1) := by decide +kernel
theorem d_M_image_42 : decode b_M_image 42 = .ok (.iload_n 2, 1) := by decide +kernel
theorem d_M_image_43 : decode b_M_image 43 = .ok (.iadd, 1) := by decide +kernel
theorem d_M_image_44 : decode b_M_image 44 = .ok (.iaload, 1) := by decide +kernel
theorem d_M_image_45 : decode b_M_image 45 = .ok (.goto 5, 3) := by decide +kernel
theorem d_M_image_48 : decode b_M_image 48 = .ok (.bipush (-4), 2) := by decide +kernel
theorem d_M_image_50 : decode b_M_image 50 = .ok (.ireturn, 1) := by decide +kernel
-- BlockVaultModel.image(II)I: labels [0], loops []
abbrev rm_M_image : Room := { frames := 1, cells := 0, slots := 0, locals := 22 }
def cM_image_0 (X : Nat → xm_PT) (Rh : Option Value → xm_M → Prop) : xm_PT := (xo_iload 1 (xo_push (.int 0) (xo_push (.int (nI 7)) (xo_callS 3 0 0 cp_M_in (xo_if (fun x => x = 0) (xo_push (.int (-1)) (xo_iret Rh)) (xo_iload 2 (xo_push (.int 0) (xo_aload 0 (xo_get 5 7 (xo_push (.int (nI 8)) (xo_iload 1 (xo_ibin (fun x y => x + y) (xo_iald ats (xo_push (.int 1) (xo_ibin (fun x y => x - y) (xo_callS 3 0 0 cp_M_in (xo_if (fun x => x = 0) (xo_push (.int (-4)) (xo_iret Rh)) (xo_aload 0 (xo_get 5 6 (xo_push (.int (nI 96)) (xo_push (.int (nI 12)) (xo_iload 1 (xo_ibin (fun x y => x * y) (xo_ibin (fun x y => x + y) (xo_iload 2 (xo_ibin (fun x y => x + y) (xo_iald ats (xo_iret Rh))))))))))))))))))))))))))))
def fM_image : xm_F := fun X Rh lb => if lb = 0 then cM_image_0 X Rh else fun _ _ _ _ _ => False
def cp_M_image : xm_CP := fun as m Rh => (lg_sl as).length ≤ 3 ∧ xm_cp fM_image 0 0 as m Rh
theorem eM_image_0 {X : Nat → xm_PT} {Rh : Option Value → xm_M → Prop} (hX : ∀ lb, xm_le (fM_image X Rh lb) (X lb)) {ls : xm_L} {st : List Value} {m : xm_M} {bc bs : Nat} (h : cM_image_0 X Rh ls st m bc bs) : X 0 ls st m bc bs := hX 0 ls st m bc bs h
set_option maxRecDepth 20000 in
set_option maxHeartbeats 4000000 in
theorem sM_image_0 {p : Program} {l : Launch} {e : Env} {s : State} {mm : MethodId} {args : Array Value} {below : List Frame} {meth : Method} {c : Code} {D : va_G} {A : Nat → Prop} {Rh : Option Value → xm_M → Prop} (C : xm_C p s mm args c b_M_image 3 "BlockVaultModel" w_M_image D classes ats A) (hr : meth.sig.returnType = (some .int)) (hlk : meth.locks = false) (hnm : meth.name = "image") : xm_le (cM_image_0 (xm_A p l e rm_M_image s mm args below meth c 3 D classes A (MQ below (xm_Q D classes Rh A) args s 0 0 A)) Rh) ((xm_A p l e rm_M_image s mm args below meth c 3 D classes A (MQ below (xm_Q D classes Rh A) args s 0 0 A)) 0) :=
  (xs_iload_n C d_M_image_0 rfl (xs_iconst C d_M_image_1 (by decide) (xs_bipush C d_M_image_2 (by decide) (xs_callS C d_M_image_4 (met_M_in l D) ⟨callB_of (ws := w_M_in) (rm := rm_M_in) 3 C.1.2.2.2.2 (gG_m tw_484) rfl rfl rfl (C.1.2.2.2.2 _ (List.mem_cons_of_mem _ tw_5)) (C.1.2.2.2.2 _ (List.mem_cons_of_mem _ tw_482)) ⟨by decide, by decide, by decide +kernel⟩ ⟨Nat.le_of_ble_eq_true rfl, Nat.le_of_ble_eq_true rfl⟩, C.1.2.2.2.2 _ (List.mem_cons_of_mem _ tw_483)⟩ (xs_if_ne C d_M_image_7 (by decide) (xs_iconst C d_M_image_10 (by decide) (xs_iret C d_M_image_11 hr hlk rfl rfl)) (xs_iload_n C d_M_image_12 rfl (xs_iconst C d_M_image_13 (by decide) (xs_aload_n C d_M_image_14 rfl (xs_get C (k := 7) d_M_image_15 h_M (ci := 5) rfl (by decide) (List.mem_cons_of_mem _ tw_428) rfl (xs_bipush C d_M_image_18 (by decide) (xs_iload_n C d_M_image_20 rfl (xs_iadd C d_M_image_21 (xs_iald C d_M_image_22 (xs_iconst C d_M_image_23 (by decide) (xs_isub C d_M_image_24 (xs_callS C d_M_image_25 (met_M_in l D) ⟨callB_of (ws := w_M_in) (rm := rm_M_in) 3 C.1.2.2.2.2 (gG_m tw_484) rfl rfl rfl (C.1.2.2.2.2 _ (List.mem_cons_of_mem _ tw_5)) (C.1.2.2.2.2 _ (List.mem_cons_of_mem _ tw_482)) ⟨by decide, by decide, by decide +kernel⟩ ⟨Nat.le_of_ble_eq_true rfl, Nat.le_of_ble_eq_true rfl⟩, C.1.2.2.2.2 _ (List.mem_cons_of_mem _ tw_483)⟩ (xs_if_eq C d_M_image_28 (by decide) (xs_bipush C d_M_image_48 (by decide) (xs_iret C d_M_image_50 hr hlk rfl rfl)) (xs_aload_n C d_M_image_31 rfl (xs_get C (k := 6) d_M_image_32 h_M (ci := 5) rfl (by decide) (List.mem_cons_of_mem _ tw_427) rfl (xs_bipush C d_M_image_35 (by decide) (xs_bipush C d_M_image_37 (by decide) (xs_iload_n C d_M_image_39 rfl (xs_imul C d_M_image_40 (xs_iadd C d_M_image_41 (xs_iload_n C d_M_image_42 rfl (xs_iadd C d_M_image_43 (xs_iald C d_M_image_44 (xs_goto C d_M_image_45 (by decide) (xs_iret C d_M_image_50 hr hlk rfl rfl)))))))))))))))))))))))))))))
theorem met_M_image (l : Launch) (D : va_G) : xm_Met l D classes ats y_M_image w_M_image rm_M_image 0 0 cp_M_image := by
  refine xm_met 0 (by decide) rfl rfl rfl (fun p e s mm args below meth c A Rh C hr hlk hnm lb => ?_)
  unfold fM_image
  split
  · rename_i h; subst h; exact sM_image_0 C hr hlk hnm
  · exact fun _ _ _ _ _ h => h.elim
