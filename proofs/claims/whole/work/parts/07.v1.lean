theorem d_V_unwrittenBlocks_0 : decode b_V_unwrittenBlocks 0 = .ok (.iconst 0, 1) := by decide +kernel
theorem d_V_unwrittenBlocks_1 : decode b_V_unwrittenBlocks 1 = .ok (.istore_n 1, 1) := by decide +kernel
theorem d_V_unwrittenBlocks_2 : decode b_V_unwrittenBlocks 2 = .ok (.iconst 0, 1) := by decide +kernel
theorem d_V_unwrittenBlocks_3 : decode b_V_unwrittenBlocks 3 = .ok (.istore_n 2, 1) := by decide +kernel
theorem d_V_unwrittenBlocks_4 : decode b_V_unwrittenBlocks 4 = .ok (.iload_n 2, 1) := by decide +kernel
theorem d_V_unwrittenBlocks_5 : decode b_V_unwrittenBlocks 5 = .ok (.bipush 8, 2) := by decide +kernel
theorem d_V_unwrittenBlocks_7 : decode b_V_unwrittenBlocks 7 = .ok (.if_icmp .ge 41, 3) := by decide +kernel
theorem d_V_unwrittenBlocks_10 : decode b_V_unwrittenBlocks 10 = .ok (.aload_n 0, 1) := by decide +kernel
theorem d_V_unwrittenBlocks_11 : decode b_V_unwrittenBlocks 11 = .ok (.getfield 11, 3) := by decide +kernel
theorem d_V_unwrittenBlocks_14 : decode b_V_unwrittenBlocks 14 = .ok (.iload_n 2, 1) := by decide +kernel
theorem d_V_unwrittenBlocks_15 : decode b_V_unwrittenBlocks 15 = .ok (.aaload, 1) := by decide +kernel
theorem d_V_unwrittenBlocks_16 : decode b_V_unwrittenBlocks 16 = .ok (.getfield 166, 3) := by decide +kernel
theorem d_V_unwrittenBlocks_19 : decode b_V_unwrittenBlocks 19 = .ok (.iconst 1, 1) := by decide +kernel
theorem d_V_unwrittenBlocks_20 : decode b_V_unwrittenBlocks 20 = .ok (.if_icmp .eq 16, 3) := by decide +kernel
theorem d_V_unwrittenBlocks_23 : decode b_V_unwrittenBlocks 23 = .ok (.aload_n 0, 1) := by decide +kernel
theorem d_V_unwrittenBlocks_24 : decode b_V_unwrittenBlocks 24 = .ok (.getfield 11, 3) := by decide +kernel
theorem d_V_unwrittenBlocks_27 : decode b_V_unwrittenBlocks 27 = .ok (.iload_n 2, 1) := by decide +kernel
theorem d_V_unwrittenBlocks_28 : decode b_V_unwrittenBlocks 28 = .ok (.aaload, 1) := by decide +kernel
theorem d_V_unwrittenBlocks_29 : decode b_V_unwrittenBlocks 29 = .ok (.getfield 166, 3) := by decide +kernel
theorem d_V_unwrittenBlocks_32 : decode b_V_unwrittenBlocks 32 = .ok (.iconst 2, 1) := by decide +kernel
theorem d_V_unwrittenBlocks_33 : decode b_V_unwrittenBlocks 33 = .ok (.if_icmp .ne 9, 3) := by decide +kernel
theorem d_V_unwrittenBlocks_36 : decode b_V_unwrittenBlocks 36 = .ok (.iload_n 1, 1) := by decide +kernel
theorem d_V_unwrittenBlocks_37 : decode b_V_unwrittenBlocks 37 = .ok (.iconst 1, 1) := by decide +kernel
theorem d_V_unwrittenBlocks_38 : decode b_V_unwrittenBlocks 38 = .ok (.iload_n 2, 1) := by decide +kernel
theorem d_V_unwrittenBlocks_39 : decode b_V_unwrittenBlocks 39 = .ok (.ishl, 1) := by decide +kernel
theorem d_V_unwrittenBlocks_40 : decode b_V_unwrittenBlocks 40 = .ok (.ior, 1) := by decide +kernel
theorem d_V_unwrittenBlocks_41 : decode b_V_unwrittenBlocks 41 = .ok (.istore_n 1, 1) := by decide +kernel
theorem d_V_unwrittenBlocks_42 : decode b_V_unwrittenBlocks 42 = .ok (.iinc 2 1, 3) := by decide +kernel
theorem d_V_unwrittenBlocks_45 : decode b_V_unwrittenBlocks 45 = .ok (.goto (-41), 3) := by decide +kernel
theorem d_V_unwrittenBlocks_48 : decode b_V_unwrittenBlocks 48 = .ok (.iload_n 1, 1) := by decide +kernel
theorem d_V_unwrittenBlocks_49 : decode b_V_unwrittenBlocks 49 = .ok (.ireturn, 1) := by decide +kernel
-- BlockVault.unwrittenBlocks()I: labels [0, 4, 36], loops [4]
abbrev rm_V_unwrittenBlocks : Room := { frames := 0, cells := 0, slots := 0, locals := 0 }
def cV_unwrittenBlocks_36 (X : Nat → xm_PT) (Rh : Option Value → xm_M → Prop) : xm_PT := (xo_iload 1 (xo_push (.int 1) (xo_iload 2 (xo_ibin (fun x y => x <<< (y &&& 31)) (xo_ibin (fun x y => x ||| y) (xo_istore 1 (xo_iinc 2 1 (xo_jmp [0, 1, 2] (X 4)))))))))
def cV_unwrittenBlocks_4 (X : Nat → xm_PT) (Rh : Option Value → xm_M → Prop) : xm_PT := (xo_iload 2 (xo_push (.int (nI 8)) (xo_icmp (fun x y => y ≤ x) (xo_iload 1 (xo_iret Rh)) (xo_aload 0 (xo_get 0 0 (xo_iload 2 (xo_aald ats (xo_get 3 2 (xo_push (.int 1) (xo_icmp (fun x y => x = y) (xo_jmp [0, 1, 2] (cV_unwrittenBlocks_36 X Rh)) (xo_aload 0 (xo_get 0 0 (xo_iload 2 (xo_aald ats (xo_get 3 2 (xo_push (.int (nI 2)) (xo_icmp (fun x y => x = y) (xo_jmp [0, 1, 2] (cV_unwrittenBlocks_36 X Rh)) (xo_iinc 2 1 (xo_jmp [0, 1, 2] (X 4))))))))))))))))))))
def cV_unwrittenBlocks_0 (X : Nat → xm_PT) (Rh : Option Value → xm_M → Prop) : xm_PT := (xo_push (.int 0) (xo_istore 1 (xo_push (.int 0) (xo_istore 2 (xo_jmp [0, 1, 2] (X 4))))))
def fV_unwrittenBlocks : xm_F := fun X Rh lb => if lb = 0 then cV_unwrittenBlocks_0 X Rh else (if lb = 4 then cV_unwrittenBlocks_4 X Rh else fun _ _ _ _ _ => False)
def cp_V_unwrittenBlocks : xm_CP := fun as m Rh => (lg_sl as).length ≤ 3 ∧ xm_cp fV_unwrittenBlocks 0 0 as m Rh
theorem eV_unwrittenBlocks_0 {X : Nat → xm_PT} {Rh : Option Value → xm_M → Prop} (hX : ∀ lb, xm_le (fV_unwrittenBlocks X Rh lb) (X lb)) {ls : xm_L} {st : List Value} {m : xm_M} {bc bs : Nat} (h : cV_unwrittenBlocks_0 X Rh ls st m bc bs) : X 0 ls st m bc bs := hX 0 ls st m bc bs h
theorem eV_unwrittenBlocks_4 {X : Nat → xm_PT} {Rh : Option Value → xm_M → Prop} (hX : ∀ lb, xm_le (fV_unwrittenBlocks X Rh lb) (X lb)) {ls : xm_L} {st : List Value} {m : xm_M} {bc bs : Nat} (h : cV_unwrittenBlocks_4 X Rh ls st m bc bs) : X 4 ls st m bc bs := hX 4 ls st m bc bs h
set_option maxRecDepth 20000 in
set_option maxHeartbeats 4000000 in
theorem sV_unwrittenBlocks_36 {p : Program} {l : Launch} {e : Env} {s : State} {mm : MethodId} {args : Array Value} {below : List Frame} {meth : Method} {c : Code} {D : va_G} {A : Nat → Prop} {Rh : Option Value → xm_M → Prop} (C : xm_C p s mm args c b_V_unwrittenBlocks 3 "BlockVault" w_V_unwrittenBlocks D classes ats A) (hr : meth.sig.returnType = (some .int)) (hlk : meth.locks = false) (hnm : meth.name = "unwrittenBlocks") : xm_le (cV_unwrittenBlocks_36 (xm_A p l e rm_V_unwrittenBlocks s mm args below meth c 3 D classes A (MQ below (xm_Q D classes Rh A) args s 0 0 A)) Rh) ((xm_A p l e rm_V_unwrittenBlocks s mm args below meth c 3 D classes A (MQ below (xm_Q D classes Rh A) args s 0 0 A)) 36) :=
  (xs_iload_n C d_V_unwrittenBlocks_36 rfl (xs_iconst C d_V_unwrittenBlocks_37 (by decide) (xs_iload_n C d_V_unwrittenBlocks_38 rfl (xs_ishl C d_V_unwrittenBlocks_39 (xs_ior C d_V_unwrittenBlocks_40 (xs_istore_n C d_V_unwrittenBlocks_41 rfl (by decide) (xs_iinc C d_V_unwrittenBlocks_42 (by decide) (by decide) (xs_goto C d_V_unwrittenBlocks_45 (by decide) (xs_jmp (fun _ _ _ _ _ h => h))))))))))
set_option maxRecDepth 20000 in
set_option maxHeartbeats 4000000 in
theorem sV_unwrittenBlocks_4 {p : Program} {l : Launch} {e : Env} {s : State} {mm : MethodId} {args : Array Value} {below : List Frame} {meth : Method} {c : Code} {D : va_G} {A : Nat → Prop} {Rh : Option Value → xm_M → Prop} (C : xm_C p s mm args c b_V_unwrittenBlocks 3 "BlockVault" w_V_unwrittenBlocks D classes ats A) (hr : meth.sig.returnType = (some .int)) (hlk : meth.locks = false) (hnm : meth.name = "unwrittenBlocks") : xm_le (cV_unwrittenBlocks_4 (xm_A p l e rm_V_unwrittenBlocks s mm args below meth c 3 D classes A (MQ below (xm_Q D classes Rh A) args s 0 0 A)) Rh) ((xm_A p l e rm_V_unwrittenBlocks s mm args below meth c 3 D classes A (MQ below (xm_Q D classes Rh A) args s 0 0 A)) 4) :=
  (xs_iload_n C d_V_unwrittenBlocks_4 rfl (xs_bipush C d_V_unwrittenBlocks_5 (by decide) (xs_icmp_ge C d_V_unwrittenBlocks_7 (by decide) (xs_iload_n C d_V_unwrittenBlocks_48 rfl (xs_iret C d_V_unwrittenBlocks_49 hr hlk rfl rfl)) (xs_aload_n C d_V_unwrittenBlocks_10 rfl (xs_get C (k := 0) d_V_unwrittenBlocks_11 h_V (ci := 0) rfl (by decide) (List.mem_cons_of_mem _ tw_81) rfl (xs_iload_n C d_V_unwrittenBlocks_14 rfl (xs_aald C d_V_unwrittenBlocks_15 (xs_get C (k := 2) d_V_unwrittenBlocks_16 h_B (ci := 3) rfl (by decide) (List.mem_cons_of_mem _ tw_47) rfl (xs_iconst C d_V_unwrittenBlocks_19 (by decide) (xs_icmp_eq C d_V_unwrittenBlocks_20 (by decide) (xs_jmp (sV_unwrittenBlocks_36 C hr hlk hnm)) (xs_aload_n C d_V_unwrittenBlocks_23 rfl (xs_get C (k := 0) d_V_unwrittenBlocks_24 h_V (ci := 0) rfl (by decide) (List.mem_cons_of_mem _ tw_81) rfl (xs_iload_n C d_V_unwrittenBlocks_27 rfl (xs_aald C d_V_unwrittenBlocks_28 (xs_get C (k := 2) d_V_unwrittenBlocks_29 h_B (ci := 3) rfl (by decide) (List.mem_cons_of_mem _ tw_47) rfl (xs_iconst C d_V_unwrittenBlocks_32 (by decide) (xs_icmp_ne C d_V_unwrittenBlocks_33 (by decide) (xs_jmp (sV_unwrittenBlocks_36 C hr hlk hnm)) (xs_iinc C d_V_unwrittenBlocks_42 (by decide) (by decide) (xs_goto C d_V_unwrittenBlocks_45 (by decide) (xs_jmp (fun _ _ _ _ _ h => h)))))))))))))))))))))
set_option maxRecDepth 20000 in
set_option maxHeartbeats 4000000 in
theorem sV_unwrittenBlocks_0 {p : Program} {l : Launch} {e : Env} {s : State} {mm : MethodId} {args : Array Value} {below : List Frame} {meth : Method} {c : Code} {D : va_G} {A : Nat → Prop} {Rh : Option Value → xm_M → Prop} (C : xm_C p s mm args c b_V_unwrittenBlocks 3 "BlockVault" w_V_unwrittenBlocks D classes ats A) (hr : meth.sig.returnType = (some .int)) (hlk : meth.locks = false) (hnm : meth.name = "unwrittenBlocks") : xm_le (cV_unwrittenBlocks_0 (xm_A p l e rm_V_unwrittenBlocks s mm args below meth c 3 D classes A (MQ below (xm_Q D classes Rh A) args s 0 0 A)) Rh) ((xm_A p l e rm_V_unwrittenBlocks s mm args below meth c 3 D classes A (MQ below (xm_Q D classes Rh A) args s 0 0 A)) 0) :=
  (xs_iconst C d_V_unwrittenBlocks_0 (by decide) (xs_istore_n C d_V_unwrittenBlocks_1 rfl (by decide) (xs_iconst C d_V_unwrittenBlocks_2 (by decide) (xs_istore_n C d_V_unwrittenBlocks_3 rfl (by decide) (xs_jmp (fun _ _ _ _ _ h => h))))))
theorem met_V_unwrittenBlocks (l : Launch) (D : va_G) : xm_Met l D classes ats y_V_unwrittenBlocks w_V_unwrittenBlocks rm_V_unwrittenBlocks 0 0 cp_V_unwrittenBlocks := by
  refine xm_met 0 (by decide) rfl rfl rfl (fun p e s mm args below meth c A Rh C hr hlk hnm lb => ?_)
  unfold fV_unwrittenBlocks
  split
  · rename_i h; subst h; exact sV_unwrittenBlocks_0 C hr hlk hnm
  split
  · rename_i h; subst h; exact sV_unwrittenBlocks_4 C hr hlk hnm
  · exact fun _ _ _ _ _ h => h.elim
theorem d_V_freeIfWaitIsOver_0 : decode b_V_freeIfWaitIsOver 0 = .ok (.aload_n 0, 1) := by decide +kernel
theorem d_V_freeIfWaitIsOver_1 : decode b_V_freeIfWaitIsOver 1 = .ok (.getfield 11, 3) := by decide +kernel
theorem d_V_freeIfWaitIsOver_4 : decode b_V_freeIfWaitIsOver 4 = .ok (.iload_n 1, 1) := by decide +kernel
theorem d_V_freeIfWaitIsOver_5 : decode b_V_freeIfWaitIsOver 5 = .ok (.aaload, 1) := by decide +kernel
theorem d_V_freeIfWaitIsOver_6 : decode b_V_freeIfWaitIsOver 6 = .ok (.getfield 166, 3) := by decide +kernel
theorem d_V_freeIfWaitIsOver_9 : decode b_V_freeIfWaitIsOver 9 = .ok (.iconst 4, 1) := by decide +kernel
theorem d_V_freeIfWaitIsOver_10 : decode b_V_freeIfWaitIsOver 10 = .ok (.if_icmp .ne 25, 3) := by decide +kernel
theorem d_V_freeIfWaitIsOver_13 : decode b_V_freeIfWaitIsOver 13 = .ok (.aload_n 0, 1) := by decide +kernel
theorem d_V_freeIfWaitIsOver_14 : decode b_V_freeIfWaitIsOver 14 = .ok (.getfield 11, 3) := by decide +kernel
theorem d_V_freeIfWaitIsOver_17 : decode b_V_freeIfWaitIsOver 17 = .ok (.iload_n 1, 1) := by decide +kernel
theorem d_V_freeIfWaitIsOver_18 : decode b_V_freeIfWaitIsOver 18 = .ok (.aaload, 1) := by decide +kernel
theorem d_V_freeIfWaitIsOver_19 : decode b_V_freeIfWaitIsOver 19 = .ok (.getfield 175, 3) := by decide +kernel
theorem d_V_freeIfWaitIsOver_22 : decode b_V_freeIfWaitIsOver 22 = .ok (.ifCond .ne 13, 3) := by decide +kernel
theorem d_V_freeIfWaitIsOver_25 : decode b_V_freeIfWaitIsOver 25 = .ok (.aload_n 0, 1) := by decide +kernel
theorem d_V_freeIfWaitIsOver_26 : decode b_V_freeIfWaitIsOver 26 = .ok (.getfield 11, 3) := by decide +kernel
theorem d_V_freeIfWaitIsOver_29 : decode b_V_freeIfWaitIsOver 29 = .ok (.iload_n 1, 1) := by decide +kernel
theorem d_V_freeIfWaitIsOver_30 : decode b_V_freeIfWaitIsOver 30 = .ok (.aaload, 1) := by decide +kernel
theorem d_V_freeIfWaitIsOver_31 : decode b_V_freeIfWaitIsOver 31 = .ok (.iconst 0, 1) := by decide +kernel
theorem d_V_freeIfWaitIsOver_32 : decode b_V_freeIfWaitIsOver 32 = .ok (.putfield 166, 3) := by decide +kernel
theorem d_V_freeIfWaitIsOver_35 : decode b_V_freeIfWaitIsOver 35 = .ok (.return_, 1) := by decide +kernel
-- BlockVault.freeIfWaitIsOver(I)V: labels [0], loops []
abbrev rm_V_freeIfWaitIsOver : Room := { frames := 0, cells := 0, slots := 0, locals := 0 }
def cV_freeIfWaitIsOver_0 (X : Nat → xm_PT) (Rh : Option Value → xm_M → Prop) : xm_PT := (xo_aload 0 (xo_get 0 0 (xo_iload 1 (xo_aald ats (xo_get 3 2 (xo_push (.int (nI 4)) (xo_icmp (fun x y => x = y) (xo_aload 0 (xo_get 0 0 (xo_iload 1 (xo_aald ats (xo_get 3 4 (xo_if (fun x => x = 0) (xo_aload 0 (xo_get 0 0 (xo_iload 1 (xo_aald ats (xo_push (.int 0) (xo_put 3 2 .int (xo_vret Rh))))))) (xo_vret Rh))))))) (xo_vret Rh))))))))
def fV_freeIfWaitIsOver : xm_F := fun X Rh lb => if lb = 0 then cV_freeIfWaitIsOver_0 X Rh else fun _ _ _ _ _ => False
def cp_V_freeIfWaitIsOver : xm_CP := fun as m Rh => (lg_sl as).length ≤ 2 ∧ xm_cp fV_freeIfWaitIsOver 0 0 as m Rh
theorem eV_freeIfWaitIsOver_0 {X : Nat → xm_PT} {Rh : Option Value → xm_M → Prop} (hX : ∀ lb, xm_le (fV_freeIfWaitIsOver X Rh lb) (X lb)) {ls : xm_L} {st : List Value} {m : xm_M} {bc bs : Nat} (h : cV_freeIfWaitIsOver_0 X Rh ls st m bc bs) : X 0 ls st m bc bs := hX 0 ls st m bc bs h
set_option maxRecDepth 20000 in
set_option maxHeartbeats 4000000 in
theorem sV_freeIfWaitIsOver_0 {p : Program} {l : Launch} {e : Env} {s : State} {mm : MethodId} {args : Array Value} {below : List Frame} {meth : Method} {c : Code} {D : va_G} {A : Nat → Prop} {Rh : Option Value → xm_M → Prop} (C : xm_C p s mm args c b_V_freeIfWaitIsOver 2 "BlockVault" w_V_freeIfWaitIsOver D classes ats A) (hr : meth.sig.returnType = none) (hlk : meth.locks = false) (hnm : meth.name = "freeIfWaitIsOver") : xm_le (cV_freeIfWaitIsOver_0 (xm_A p l e rm_V_freeIfWaitIsOver s mm args below meth c 2 D classes A (MQ below (xm_Q D classes Rh A) args s 0 0 A)) Rh) ((xm_A p l e rm_V_freeIfWaitIsOver s mm args below meth c 2 D classes A (MQ below (xm_Q D classes Rh A) args s 0 0 A)) 0) :=
  (xs_aload_n C d_V_freeIfWaitIsOver_0 rfl (xs_get C (k := 0) d_V_freeIfWaitIsOver_1 h_V (ci := 0) rfl (by decide) (List.mem_cons_of_mem _ tw_81) rfl (xs_iload_n C d_V_freeIfWaitIsOver_4 rfl (xs_aald C d_V_freeIfWaitIsOver_5 (xs_get C (k := 2) d_V_freeIfWaitIsOver_6 h_B (ci := 3) rfl (by decide) (List.mem_cons_of_mem _ tw_47) rfl (xs_iconst C d_V_freeIfWaitIsOver_9 (by decide) (xs_icmp_ne C d_V_freeIfWaitIsOver_10 (by decide) (xs_aload_n C d_V_freeIfWaitIsOver_13 rfl (xs_get C (k := 0) d_V_freeIfWaitIsOver_14 h_V (ci := 0) rfl (by decide) (List.mem_cons_of_mem _ tw_81) rfl (xs_iload_n C d_V_freeIfWaitIsOver_17 rfl (xs_aald C d_V_freeIfWaitIsOver_18 (xs_get C (k := 4) d_V_freeIfWaitIsOver_19 h_B (ci := 3) rfl (by decide) (List.mem_cons_of_mem _ tw_51) rfl (xs_if_ne C d_V_freeIfWaitIsOver_22 (by decide) (xs_aload_n C d_V_freeIfWaitIsOver_25 rfl (xs_get C (k := 0) d_V_freeIfWaitIsOver_26 h_V (ci := 0) rfl (by decide) (List.mem_cons_of_mem _ tw_81) rfl (xs_iload_n C d_V_freeIfWaitIsOver_29 rfl (xs_aald C d_V_freeIfWaitIsOver_30 (xs_iconst C d_V_freeIfWaitIsOver_31 (by decide) (xs_put C (k := 2) d_V_freeIfWaitIsOver_32 h_B t_B t_B_ok n_B (ci := 3) rfl (by decide) (List.mem_cons_of_mem _ tw_47) rfl rfl (by decide +kernel) (xs_vret C d_V_freeIfWaitIsOver_35 hr hlk rfl rfl))))))) (xs_vret C d_V_freeIfWaitIsOver_35 hr hlk rfl rfl))))))) (xs_vret C d_V_freeIfWaitIsOver_35 hr hlk rfl rfl))))))))
theorem met_V_freeIfWaitIsOver (l : Launch) (D : va_G) : xm_Met l D classes ats y_V_freeIfWaitIsOver w_V_freeIfWaitIsOver rm_V_freeIfWaitIsOver 0 0 cp_V_freeIfWaitIsOver := by
  refine xm_met 0 (by decide) rfl rfl rfl (fun p e s mm args below meth c A Rh C hr hlk hnm lb => ?_)
  unfold fV_freeIfWaitIsOver
  split
  · rename_i h; subst h; exact sV_freeIfWaitIsOver_0 C hr hlk hnm
  · exact fun _ _ _ _ _ h => h.elim
theorem d_V_emptyIfDead_0 : decode b_V_emptyIfDead 0 = .ok (.iload_n 1, 1) := by decide +kernel
theorem d_V_emptyIfDead_1 : decode b_V_emptyIfDead 1 = .ok (.invokestatic 163, 3) := by decide +kernel
theorem d_V_emptyIfDead_4 : decode b_V_emptyIfDead 4 = .ok (.ifCond .eq 24, 3) := by decide +kernel
theorem d_V_emptyIfDead_7 : decode b_V_emptyIfDead 7 = .ok (.aload_n 0, 1) := by decide +kernel
theorem d_V_emptyIfDead_8 : decode b_V_emptyIfDead 8 = .ok (.getfield 11, 3) := by decide +kernel
theorem d_V_emptyIfDead_11 : decode b_V_emptyIfDead 11 = .ok (.iload_n 1, 1) := by decide +kernel
theorem d_V_emptyIfDead_12 : decode b_V_emptyIfDead 12 = .ok (.aaload, 1) := by decide +kernel
theorem d_V_emptyIfDead_13 : decode b_V_emptyIfDead 13 = .ok (.getfield 166, 3) := by decide +kernel
theorem d_V_emptyIfDead_16 : decode b_V_emptyIfDead 16 = .ok (.iconst 3, 1) := by decide +kernel
theorem d_V_emptyIfDead_17 : decode b_V_emptyIfDead 17 = .ok (.if_icmp .ne 11, 3) := by decide +kernel
theorem d_V_emptyIfDead_20 : decode b_V_emptyIfDead 20 = .ok (.aload_n 0, 1) := by decide +kernel
theorem d_V_emptyIfDead_21 : decode b_V_emptyIfDead 21 = .ok (.iload_n 1, 1) := by decide +kernel
theorem d_V_emptyIfDead_22 : decode b_V_emptyIfDead 22 = .ok (.invokevirtual 232, 3) := by decide +kernel
theorem d_V_emptyIfDead_25 : decode b_V_emptyIfDead 25 = .ok (.ifCond .eq 4, 3) := by decide +kernel
theorem d_V_emptyIfDead_28 : decode b_V_emptyIfDead 28 = .ok (.return_, 1) := by decide +kernel
theorem d_V_emptyIfDead_29 : decode b_V_emptyIfDead 29 = .ok (.aload_n 0, 1) := by decide +kernel
theorem d_V_emptyIfDead_30 : decode b_V_emptyIfDead 30 = .ok (.getfield 11, 3) := by decide +kernel
theorem d_V_emptyIfDead_33 : decode b_V_emptyIfDead 33 = .ok (.iload_n 1, 1) := by decide +kernel
theorem d_V_emptyIfDead_34 : decode b_V_emptyIfDead 34 = .ok (.aaload, 1) := by decide +kernel
theorem d_V_emptyIfDead_35 : decode b_V_emptyIfDead 35 = .ok (.getfield 111, 3) := by decide +kernel
theorem d_V_emptyIfDead_38 : decode b_V_emptyIfDead 38 = .ok (.invokevirtual 235, 3) := by decide +kernel
theorem d_V_emptyIfDead_41 : decode b_V_emptyIfDead 41 = .ok (.aload_n 0, 1) := by decide +kernel
theorem d_V_emptyIfDead_42 : decode b_V_emptyIfDead 42 = .ok (.getfield 11, 3) := by decide +kernel
theorem d_V_emptyIfDead_45 : decode b_V_emptyIfDead 45 = .ok (.iload_n 1, 1) := by decide +kernel
theorem d_V_emptyIfDead_46 : decode b_V_emptyIfDead 46 = .ok (.aaload, 1) := by decide +kernel
theorem d_V_emptyIfDead_47 : decode b_V_emptyIfDead 47 = .ok (.iconst 4, 1) := by decide +kernel
theorem d_V_emptyIfDead_48 : decode b_V_emptyIfDead 48 = .ok (.putfield 166, 3) := by decide +kernel
theorem d_V_emptyIfDead_51 : decode b_V_emptyIfDead 51 = .ok (.aload_n 0, 1) := by decide +kernel
theorem d_V_emptyIfDead_52 : decode b_V_emptyIfDead 52 = .ok (.getfield 11, 3) := by decide +kernel
theorem d_V_emptyIfDead_55 : decode b_V_emptyIfDead 55 = .ok (.iload_n 1, 1) := by decide +kernel
theorem d_V_emptyIfDead_56 : decode b_V_emptyIfDead 56 = .ok (.aaload, 1) := by decide +kernel
theorem d_V_emptyIfDead_57 : decode b_V_emptyIfDead 57 = .ok (.aload_n 0, 1) := by decide +kernel
theorem d_V_emptyIfDead_58 : decode b_V_emptyIfDead 58 = .ok (.invokevirtual 238, 3) := by decide +kernel
theorem d_V_emptyIfDead_61 : decode b_V_emptyIfDead 61 = .ok (.putfield 175, 3) := by decide +kernel
theorem d_V_emptyIfDead_64 : decode b_V_emptyIfDead 64 = .ok (.aload_n 0, 1) := by decide +kernel
theorem d_V_emptyIfDead_65 : decode b_V_emptyIfDead 65 = .ok (.iload_n 1, 1) := by decide +kernel
theorem d_V_emptyIfDead_66 : decode b_V_emptyIfDead 66 = .ok (.invokevirtual 229, 3) := by decide +kernel
theorem d_V_emptyIfDead_69 : decode b_V_emptyIfDead 69 = .ok (.return_, 1) := by decide +kernel
-- BlockVault.emptyIfDead(I)V: labels [0], loops []
abbrev rm_V_emptyIfDead : Room := { frames := 1, cells := 0, slots := 0, locals := 22 }
def cV_emptyIfDead_0 (X : Nat → xm_PT) (Rh : Option Value → xm_M → Prop) : xm_PT := (xo_iload 1 (xo_callS 1 0 0 cp_V_isBlock (xo_if (fun x => x = 0) (xo_vret Rh) (xo_aload 0 (xo_get 0 0 (xo_iload 1 (xo_aald ats (xo_get 3 2 (xo_push (.int (nI 3)) (xo_icmp (fun x y => x = y) (xo_aload 0 (xo_iload 1 (xo_callV 0 1 0 0 cp_V_hasLiveCopy (xo_if (fun x => x = 0) (xo_aload 0 (xo_get 0 0 (xo_iload 1 (xo_aald ats (xo_get 3 0 (xo_callV 2 0 0 0 cp_R_clear (xo_aload 0 (xo_get 0 0 (xo_iload 1 (xo_aald ats (xo_push (.int (nI 4)) (xo_put 3 2 .int (xo_aload 0 (xo_get 0 0 (xo_iload 1 (xo_aald ats (xo_aload 0 (xo_callV 0 0 0 0 cp_V_unwrittenBlocks (xo_put 3 4 .int (xo_aload 0 (xo_iload 1 (xo_callV 0 1 0 0 cp_V_freeIfWaitIsOver (xo_vret Rh))))))))))))))))))))))) (xo_vret Rh))))) (xo_vret Rh)))))))))))
def fV_emptyIfDead : xm_F := fun X Rh lb => if lb = 0 then cV_emptyIfDead_0 X Rh else fun _ _ _ _ _ => False
def cp_V_emptyIfDead : xm_CP := fun as m Rh => (lg_sl as).length ≤ 2 ∧ xm_cp fV_emptyIfDead 0 0 as m Rh
theorem eV_emptyIfDead_0 {X : Nat → xm_PT} {Rh : Option Value → xm_M → Prop} (hX : ∀ lb, xm_le (fV_emptyIfDead X Rh lb) (X lb)) {ls : xm_L} {st : List Value} {m : xm_M} {bc bs : Nat} (h : cV_emptyIfDead_0 X Rh ls st m bc bs) : X 0 ls st m bc bs := hX 0 ls st m bc bs h
set_option maxRecDepth 20000 in
set_option maxHeartbeats 4000000 in
theorem sV_emptyIfDead_0 {p : Program} {l : Launch} {e : Env} {s : State} {mm : MethodId} {args : Array Value} {below : List Frame} {meth : Method} {c : Code} {D : va_G} {A : Nat → Prop} {Rh : Option Value → xm_M → Prop} (C : xm_C p s mm args c b_V_emptyIfDead 2 "BlockVault" w_V_emptyIfDead D classes ats A) (hr : meth.sig.returnType = none) (hlk : meth.locks = false) (hnm : meth.name = "emptyIfDead") : xm_le (cV_emptyIfDead_0 (xm_A p l e rm_V_emptyIfDead s mm args below meth c 2 D classes A (MQ below (xm_Q D classes Rh A) args s 0 0 A)) Rh) ((xm_A p l e rm_V_emptyIfDead s mm args below meth c 2 D classes A (MQ below (xm_Q D classes Rh A) args s 0 0 A)) 0) :=
  (xs_iload_n C d_V_emptyIfDead_0 rfl (xs_callS C d_V_emptyIfDead_1 (met_V_isBlock l D) ⟨callB_of (ws := w_V_isBlock) (rm := rm_V_isBlock) 1 C.1.2.2.2.2 (gG_m tw_212) rfl rfl rfl (C.1.2.2.2.2 _ (List.mem_cons_of_mem _ tw_1)) (C.1.2.2.2.2 _ (List.mem_cons_of_mem _ tw_210)) ⟨by decide, by decide, by decide +kernel⟩ ⟨Nat.le_of_ble_eq_true rfl, Nat.le_of_ble_eq_true rfl⟩, C.1.2.2.2.2 _ (List.mem_cons_of_mem _ tw_211)⟩ (xs_if_eq C d_V_emptyIfDead_4 (by decide) (xs_vret C d_V_emptyIfDead_28 hr hlk rfl rfl) (xs_aload_n C d_V_emptyIfDead_7 rfl (xs_get C (k := 0) d_V_emptyIfDead_8 h_V (ci := 0) rfl (by decide) (List.mem_cons_of_mem _ tw_81) rfl (xs_iload_n C d_V_emptyIfDead_11 rfl (xs_aald C d_V_emptyIfDead_12 (xs_get C (k := 2) d_V_emptyIfDead_13 h_B (ci := 3) rfl (by decide) (List.mem_cons_of_mem _ tw_47) rfl (xs_iconst C d_V_emptyIfDead_16 (by decide) (xs_icmp_ne C d_V_emptyIfDead_17 (by decide) (xs_aload_n C d_V_emptyIfDead_20 rfl (xs_iload_n C d_V_emptyIfDead_21 rfl (xs_callV C (CN := "BlockVault") (T := F_V) (N := 8) d_V_emptyIfDead_22 (met_V_hasLiveCopy l D) ⟨callB_of (ws := w_V_hasLiveCopy) (rm := rm_V_hasLiveCopy) 1 C.1.2.2.2.2 (gG_m tw_216) rfl rfl rfl (C.1.2.2.2.2 _ (List.mem_cons_of_mem _ tw_1)) (C.1.2.2.2.2 _ (List.mem_cons_of_mem _ tw_213)) ⟨by decide, by decide, by decide +kernel⟩ ⟨Nat.le_of_ble_eq_true rfl, Nat.le_of_ble_eq_true rfl⟩, (C.1.2.2.2.2 _ (List.mem_cons_of_mem _ tw_215)), (C.1.2.2.2.2 _ (List.mem_cons_of_mem _ ts_10))⟩ (ci := 0) rfl (xs_if_eq C d_V_emptyIfDead_25 (by decide) (xs_aload_n C d_V_emptyIfDead_29 rfl (xs_get C (k := 0) d_V_emptyIfDead_30 h_V (ci := 0) rfl (by decide) (List.mem_cons_of_mem _ tw_81) rfl (xs_iload_n C d_V_emptyIfDead_33 rfl (xs_aald C d_V_emptyIfDead_34 (xs_get C (k := 0) d_V_emptyIfDead_35 h_B (ci := 3) rfl (by decide) (List.mem_cons_of_mem _ tw_43) rfl (xs_callV C (CN := "BlockVault$Row") (T := F_R) (N := 2) d_V_emptyIfDead_38 (met_R_clear l D) ⟨callB_of (ws := w_R_clear) (rm := rm_R_clear) 0 C.1.2.2.2.2 (gG_m tw_220) rfl rfl rfl (C.1.2.2.2.2 _ (List.mem_cons_of_mem _ tw_3)) (C.1.2.2.2.2 _ (List.mem_cons_of_mem _ tw_217)) ⟨by decide, by decide, by decide +kernel⟩ ⟨Nat.le_of_ble_eq_true rfl, Nat.le_of_ble_eq_true rfl⟩, (C.1.2.2.2.2 _ (List.mem_cons_of_mem _ tw_218)), (C.1.2.2.2.2 _ (List.mem_cons_of_mem _ tw_219))⟩ (ci := 2) rfl (xs_aload_n C d_V_emptyIfDead_41 rfl (xs_get C (k := 0) d_V_emptyIfDead_42 h_V (ci := 0) rfl (by decide) (List.mem_cons_of_mem _ tw_81) rfl (xs_iload_n C d_V_emptyIfDead_45 rfl (xs_aald C d_V_emptyIfDead_46 (xs_iconst C d_V_emptyIfDead_47 (by decide) (xs_put C (k := 2) d_V_emptyIfDead_48 h_B t_B t_B_ok n_B (ci := 3) rfl (by decide) (List.mem_cons_of_mem _ tw_47) rfl rfl (by decide +kernel) (xs_aload_n C d_V_emptyIfDead_51 rfl (xs_get C (k := 0) d_V_emptyIfDead_52 h_V (ci := 0) rfl (by decide) (List.mem_cons_of_mem _ tw_81) rfl (xs_iload_n C d_V_emptyIfDead_55 rfl (xs_aald C d_V_emptyIfDead_56 (xs_aload_n C d_V_emptyIfDead_57 rfl (xs_callV C (CN := "BlockVault") (T := F_V) (N := 8) d_V_emptyIfDead_58 (met_V_unwrittenBlocks l D) ⟨callB_of (ws := w_V_unwrittenBlocks) (rm := rm_V_unwrittenBlocks) 0 C.1.2.2.2.2 (gG_m tw_224) rfl rfl rfl (C.1.2.2.2.2 _ (List.mem_cons_of_mem _ tw_1)) (C.1.2.2.2.2 _ (List.mem_cons_of_mem _ tw_221)) ⟨by decide, by decide, by decide +kernel⟩ ⟨Nat.le_of_ble_eq_true rfl, Nat.le_of_ble_eq_true rfl⟩, (C.1.2.2.2.2 _ (List.mem_cons_of_mem _ tw_223)), (C.1.2.2.2.2 _ (List.mem_cons_of_mem _ ts_11))⟩ (ci := 0) rfl (xs_put C (k := 4) d_V_emptyIfDead_61 h_B t_B t_B_ok n_B (ci := 3) rfl (by decide) (List.mem_cons_of_mem _ tw_51) rfl rfl (by decide +kernel) (xs_aload_n C d_V_emptyIfDead_64 rfl (xs_iload_n C d_V_emptyIfDead_65 rfl (xs_callV C (CN := "BlockVault") (T := F_V) (N := 8) d_V_emptyIfDead_66 (met_V_freeIfWaitIsOver l D) ⟨callB_of (ws := w_V_freeIfWaitIsOver) (rm := rm_V_freeIfWaitIsOver) 1 C.1.2.2.2.2 (gG_m tw_228) rfl rfl rfl (C.1.2.2.2.2 _ (List.mem_cons_of_mem _ tw_1)) (C.1.2.2.2.2 _ (List.mem_cons_of_mem _ tw_225)) ⟨by decide, by decide, by decide +kernel⟩ ⟨Nat.le_of_ble_eq_true rfl, Nat.le_of_ble_eq_true rfl⟩, (C.1.2.2.2.2 _ (List.mem_cons_of_mem _ tw_227)), (C.1.2.2.2.2 _ (List.mem_cons_of_mem _ ts_12))⟩ (ci := 0) rfl (xs_vret C d_V_emptyIfDead_69 hr hlk rfl rfl))))))))))))))))))))))) (xs_vret C d_V_emptyIfDead_28 hr hlk rfl rfl))))) (xs_vret C d_V_emptyIfDead_28 hr hlk rfl rfl)))))))))))
theorem met_V_emptyIfDead (l : Launch) (D : va_G) : xm_Met l D classes ats y_V_emptyIfDead w_V_emptyIfDead rm_V_emptyIfDead 0 0 cp_V_emptyIfDead := by
  refine xm_met 0 (by decide) rfl rfl rfl (fun p e s mm args below meth c A Rh C hr hlk hnm lb => ?_)
  unfold fV_emptyIfDead
  split
  · rename_i h; subst h; exact sV_emptyIfDead_0 C hr hlk hnm
  · exact fun _ _ _ _ _ h => h.elim
theorem d_V_append_0 : decode b_V_append 0 = .ok (.aload_n 0, 1) := by decide +kernel
theorem d_V_append_1 : decode b_V_append 1 = .ok (.aload_n 1, 1) := by decide +kernel
theorem d_V_append_2 : decode b_V_append 2 = .ok (.getfield 72, 3) := by decide +kernel
theorem d_V_append_5 : decode b_V_append 5 = .ok (.invokevirtual 206, 3) := by decide +kernel
theorem d_V_append_8 : decode b_V_append 8 = .ok (.istore_n 2, 1) := by decide +kernel
theorem d_V_append_9 : decode b_V_append 9 = .ok (.iload_n 2, 1) := by decide +kernel
theorem d_V_append_10 : decode b_V_append 10 = .ok (.ifCond .ge 5, 3) := by decide +kernel
theorem d_V_append_13 : decode b_V_append 13 = .ok (.iload_n 2, 1) := by decide +kernel
theorem d_V_append_14 : decode b_V_append 14 = .ok (.ireturn, 1) := by decide +kernel
theorem d_V_append_15 : decode b_V_append 15 = .ok (.aload_n 0, 1) := by decide +kernel
theorem d_V_append_16 : decode b_V_append 16 = .ok (.getfield 11, 3) := by decide +kernel
theorem d_V_append_19 : decode b_V_append 19 = .ok (.iload_n 2, 1) := by decide +kernel
theorem d_V_append_20 : decode b_V_append 20 = .ok (.aaload, 1) := by decide +kernel
theorem d_V_append_21 : decode b_V_append 21 = .ok (.getfield 111, 3) := by decide +kernel
theorem d_V_append_24 : decode b_V_append 24 = .ok (.astore_n 3, 1) := by decide +kernel
theorem d_V_append_25 : decode b_V_append 25 = .ok (.aload_n 0, 1) := by decide +kernel
theorem d_V_append_26 : decode b_V_append 26 = .ok (.getfield 17, 3) := by decide +kernel
theorem d_V_append_29 : decode b_V_append 29 = .ok (.aload_n 1, 1) := by decide +kernel
theorem d_V_append_30 : decode b_V_append 30 = .ok (.getfield 209, 3) := by decide +kernel
theorem d_V_append_33 : decode b_V_append 33 = .ok (.aaload, 1) := by decide +kernel
theorem d_V_append_34 : decode b_V_append 34 = .ok (.astore 4, 2) := by decide +kernel
theorem d_V_append_36 : decode b_V_append 36 = .ok (.aload 4, 2) := by decide +kernel
theorem d_V_append_38 : decode b_V_append 38 = .ok (.getfield 157, 3) := by decide +kernel
theorem d_V_append_41 : decode b_V_append 41 = .ok (.istore 5, 2) := by decide +kernel
theorem d_V_append_43 : decode b_V_append 43 = .ok (.aload_n 3, 1) := by decide +kernel
theorem d_V_append_44 : decode b_V_append 44 = .ok (.aload_n 1, 1) := by decide +kernel
theorem d_V_append_45 : decode b_V_append 45 = .ok (.invokevirtual 212, 3) := by decide +kernel
theorem d_V_append_48 : decode b_V_append 48 = .ok (.aload 4, 2) := by decide +kernel
theorem d_V_append_50 : decode b_V_append 50 = .ok (.aload_n 1, 1) := by decide +kernel
theorem d_V_append_51 : decode b_V_append 51 = .ok (.iload_n 2, 1) := by decide +kernel
theorem d_V_append_52 : decode b_V_append 52 = .ok (.aload_n 3, 1) := by decide +kernel
theorem d_V_append_53 : decode b_V_append 53 = .ok (.getfield 115, 3) := by decide +kernel
theorem d_V_append_56 : decode b_V_append 56 = .ok (.iconst 1, 1) := by decide +kernel
theorem d_V_append_57 : decode b_V_append 57 = .ok (.isub, 1) := by decide +kernel
theorem d_V_append_58 : decode b_V_append 58 = .ok (.invokevirtual 216, 3) := by decide +kernel
theorem d_V_append_61 : decode b_V_append 61 = .ok (.aload_n 0, 1) := by decide +kernel
theorem d_V_append_62 : decode b_V_append 62 = .ok (.iload 5, 2) := by decide +kernel
theorem d_V_append_64 : decode b_V_append 64 = .ok (.invokevirtual 220, 3) := by decide +kernel
theorem d_V_append_67 : decode b_V_append 67 = .ok (.iload_n 2, 1) := by decide +kernel
theorem d_V_append_68 : decode b_V_append 68 = .ok (.ireturn, 1) := by decide +kernel
-- BlockVault.append(LBlockVault$Copy;)I: labels [0], loops []
abbrev rm_V_append : Room := { frames := 2, cells := 0, slots := 0, locals := 46 }
def cV_append_0 (X : Nat → xm_PT) (Rh : Option Value → xm_M → Prop) : xm_PT := (xo_aload 0 (xo_aload 1 (xo_get 1 2 (xo_callV 0 1 0 0 cp_V_currentWithRoom (xo_istore 2 (xo_iload 2 (xo_if (fun x => 0 ≤ x) (xo_aload 0 (xo_get 0 0 (xo_iload 2 (xo_aald ats (xo_get 3 0 (xo_astore 3 (xo_aload 0 (xo_get 0 1 (xo_aload 1 (xo_get 1 0 (xo_aald ats (xo_astore 4 (xo_aload 4 (xo_get 4 1 (xo_istore 5 (xo_aload 3 (xo_aload 1 (xo_callV 2 1 0 0 cp_R_add (xo_aload 4 (xo_aload 1 (xo_iload 2 (xo_aload 3 (xo_get 2 1 (xo_push (.int 1) (xo_ibin (fun x y => x - y) (xo_callV 4 3 0 0 cp_E_point (xo_aload 0 (xo_iload 5 (xo_callV 0 1 0 0 cp_V_emptyIfDead (xo_iload 2 (xo_iret Rh))))))))))))))))))))))))))))))) (xo_iload 2 (xo_iret Rh)))))))))
def fV_append : xm_F := fun X Rh lb => if lb = 0 then cV_append_0 X Rh else fun _ _ _ _ _ => False
def cp_V_append : xm_CP := fun as m Rh => (lg_sl as).length ≤ 6 ∧ xm_cp fV_append 0 0 as m Rh
theorem eV_append_0 {X : Nat → xm_PT} {Rh : Option Value → xm_M → Prop} (hX : ∀ lb, xm_le (fV_append X Rh lb) (X lb)) {ls : xm_L} {st : List Value} {m : xm_M} {bc bs : Nat} (h : cV_append_0 X Rh ls st m bc bs) : X 0 ls st m bc bs := hX 0 ls st m bc bs h
set_option maxRecDepth 20000 in
set_option maxHeartbeats 4000000 in
theorem sV_append_0 {p : Program} {l : Launch} {e : Env} {s : State} {mm : MethodId} {args : Array Value} {below : List Frame} {meth : Method} {c : Code} {D : va_G} {A : Nat → Prop} {Rh : Option Value → xm_M → Prop} (C : xm_C p s mm args c b_V_append 6 "BlockVault" w_V_append D classes ats A) (hr : meth.sig.returnType = (some .int)) (hlk : meth.locks = false) (hnm : meth.name = "append") : xm_le (cV_append_0 (xm_A p l e rm_V_append s mm args below meth c 6 D classes A (MQ below (xm_Q D classes Rh A) args s 0 0 A)) Rh) ((xm_A p l e rm_V_append s mm args below meth c 6 D classes A (MQ below (xm_Q D classes Rh A) args s 0 0 A)) 0) :=
  (xs_aload_n C d_V_append_0 rfl (xs_aload_n C d_V_append_1 rfl (xs_get C (k := 2) d_V_append_2 h_C (ci := 1) rfl (by decide) (List.mem_cons_of_mem _ tw_144) rfl (xs_callV C (CN := "BlockVault") (T := F_V) (N := 8) d_V_append_5 (met_V_currentWithRoom l D) ⟨callB_of (ws := w_V_currentWithRoom) (rm := rm_V_currentWithRoom) 1 C.1.2.2.2.2 (gG_m tw_181) rfl rfl rfl (C.1.2.2.2.2 _ (List.mem_cons_of_mem _ tw_1)) (C.1.2.2.2.2 _ (List.mem_cons_of_mem _ tw_178)) ⟨by decide, by decide, by decide +kernel⟩ ⟨Nat.le_of_ble_eq_true rfl, Nat.le_of_ble_eq_true rfl⟩, (C.1.2.2.2.2 _ (List.mem_cons_of_mem _ tw_180)), (C.1.2.2.2.2 _ (List.mem_cons_of_mem _ ts_5))⟩ (ci := 0) rfl (xs_istore_n C d_V_append_8 rfl (by decide) (xs_iload_n C d_V_append_9 rfl (xs_if_ge C d_V_append_10 (by decide) (xs_aload_n C d_V_append_15 rfl (xs_get C (k := 0) d_V_append_16 h_V (ci := 0) rfl (by decide) (List.mem_cons_of_mem _ tw_81) rfl (xs_iload_n C d_V_append_19 rfl (xs_aald C d_V_append_20 (xs_get C (k := 0) d_V_append_21 h_B (ci := 3) rfl (by decide) (List.mem_cons_of_mem _ tw_43) rfl (xs_astore_n C d_V_append_24 rfl (by decide) (xs_aload_n C d_V_append_25 rfl (xs_get C (k := 1) d_V_append_26 h_V (ci := 0) rfl (by decide) (List.mem_cons_of_mem _ tw_82) rfl (xs_aload_n C d_V_append_29 rfl (xs_get C (k := 0) d_V_append_30 h_C (ci := 1) rfl (by decide) (List.mem_cons_of_mem _ tw_140) rfl (xs_aald C d_V_append_33 (xs_astore C d_V_append_34 (by decide) (xs_aload C d_V_append_36 (xs_get C (k := 1) d_V_append_38 h_E (ci := 4) rfl (by decide) (List.mem_cons_of_mem _ tw_71) rfl (xs_istore C d_V_append_41 (by decide) (xs_aload_n C d_V_append_43 rfl (xs_aload_n C d_V_append_44 rfl (xs_callV C (CN := "BlockVault$Row") (T := F_R) (N := 2) d_V_append_45 (met_R_add l D) ⟨callB_of (ws := w_R_add) (rm := rm_R_add) 1 C.1.2.2.2.2 (gG_m tw_201) rfl rfl rfl (C.1.2.2.2.2 _ (List.mem_cons_of_mem _ tw_3)) (C.1.2.2.2.2 _ (List.mem_cons_of_mem _ tw_198)) ⟨by decide, by decide, by decide +kernel⟩ ⟨Nat.le_of_ble_eq_true rfl, Nat.le_of_ble_eq_true rfl⟩, (C.1.2.2.2.2 _ (List.mem_cons_of_mem _ tw_199)), (C.1.2.2.2.2 _ (List.mem_cons_of_mem _ tw_200))⟩ (ci := 2) rfl (xs_aload C d_V_append_48 (xs_aload_n C d_V_append_50 rfl (xs_iload_n C d_V_append_51 rfl (xs_aload_n C d_V_append_52 rfl (xs_get C (k := 1) d_V_append_53 h_R (ci := 2) rfl (by decide) (List.mem_cons_of_mem _ tw_36) rfl (xs_iconst C d_V_append_56 (by decide) (xs_isub C d_V_append_57 (xs_callV C (CN := "BlockVault$Entry") (T := F_E) (N := 3) d_V_append_58 (met_E_point l D) ⟨callB_of (ws := w_E_point) (rm := rm_E_point) 3 C.1.2.2.2.2 (gG_m tw_205) rfl rfl rfl (C.1.2.2.2.2 _ (List.mem_cons_of_mem _ tw_4)) (C.1.2.2.2.2 _ (List.mem_cons_of_mem _ tw_202)) ⟨by decide, by decide, by decide +kernel⟩ ⟨Nat.le_of_ble_eq_true rfl, Nat.le_of_ble_eq_true rfl⟩, (C.1.2.2.2.2 _ (List.mem_cons_of_mem _ tw_203)), (C.1.2.2.2.2 _ (List.mem_cons_of_mem _ tw_204))⟩ (ci := 4) rfl (xs_aload_n C d_V_append_61 rfl (xs_iload C d_V_append_62 (xs_callV C (CN := "BlockVault") (T := F_V) (N := 8) d_V_append_64 (met_V_emptyIfDead l D) ⟨callB_of (ws := w_V_emptyIfDead) (rm := rm_V_emptyIfDead) 1 C.1.2.2.2.2 (gG_m tw_209) rfl rfl rfl (C.1.2.2.2.2 _ (List.mem_cons_of_mem _ tw_1)) (C.1.2.2.2.2 _ (List.mem_cons_of_mem _ tw_206)) ⟨by decide, by decide, by decide +kernel⟩ ⟨Nat.le_of_ble_eq_true rfl, Nat.le_of_ble_eq_true rfl⟩, (C.1.2.2.2.2 _ (List.mem_cons_of_mem _ tw_208)), (C.1.2.2.2.2 _ (List.mem_cons_of_mem _ ts_9))⟩ (ci := 0) rfl (xs_iload_n C d_V_append_67 rfl (xs_iret C d_V_append_68 hr hlk rfl rfl))))))))))))))))))))))))))))))) (xs_iload_n C d_V_append_13 rfl (xs_iret C d_V_append_14 hr hlk rfl rfl)))))))))
theorem met_V_append (l : Launch) (D : va_G) : xm_Met l D classes ats y_V_append w_V_append rm_V_append 0 0 cp_V_append := by
  refine xm_met 0 (by decide) rfl rfl rfl (fun p e s mm args below meth c A Rh C hr hlk hnm lb => ?_)
  unfold fV_append
  split
  · rename_i h; subst h; exact sV_append_0 C hr hlk hnm
  · exact fun _ _ _ _ _ h => h.elim
theorem d_V_write_0 : decode b_V_write 0 = .ok (.aload_n 0, 1) := by decide +kernel
theorem d_V_write_1 : decode b_V_write 1 = .ok (.aload_n 1, 1) := by decide +kernel
theorem d_V_write_2 : decode b_V_write 2 = .ok (.invokevirtual 203, 3) := by decide +kernel
theorem d_V_write_5 : decode b_V_write 5 = .ok (.istore_n 2, 1) := by decide +kernel
theorem d_V_write_6 : decode b_V_write 6 = .ok (.iload_n 2, 1) := by decide +kernel
theorem d_V_write_7 : decode b_V_write 7 = .ok (.ifCond .lt 13, 3) := by decide +kernel
theorem d_V_write_10 : decode b_V_write 10 = .ok (.aload_n 0, 1) := by decide +kernel
theorem d_V_write_11 : decode b_V_write 11 = .ok (.dup, 1) := by decide +kernel
theorem d_V_write_12 : decode b_V_write 12 = .ok (.getfield 25, 3) := by decide +kernel
theorem d_V_write_15 : decode b_V_write 15 = .ok (.iconst 1, 1) := by decide +kernel
theorem d_V_write_16 : decode b_V_write 16 = .ok (.iadd, 1) := by decide +kernel
theorem d_V_write_17 : decode b_V_write 17 = .ok (.putfield 25, 3) := by decide +kernel
theorem d_V_write_20 : decode b_V_write 20 = .ok (.iload_n 2, 1) := by decide +kernel
theorem d_V_write_21 : decode b_V_write 21 = .ok (.ireturn, 1) := by decide +kernel
-- BlockVault.write(LBlockVault$Copy;)I: labels [0], loops []
abbrev rm_V_write : Room := { frames := 3, cells := 0, slots := 0, locals := 71 }
def cV_write_0 (X : Nat → xm_PT) (Rh : Option Value → xm_M → Prop) : xm_PT := (xo_aload 0 (xo_aload 1 (xo_callV 0 1 0 0 cp_V_append (xo_istore 2 (xo_iload 2 (xo_if (fun x => x < 0) (xo_iload 2 (xo_iret Rh)) (xo_aload 0 (xo_dup (xo_get 0 3 (xo_push (.int 1) (xo_ibin (fun x y => x + y) (xo_put 0 3 .int (xo_iload 2 (xo_iret Rh))))))))))))))
def fV_write : xm_F := fun X Rh lb => if lb = 0 then cV_write_0 X Rh else fun _ _ _ _ _ => False
def cp_V_write : xm_CP := fun as m Rh => (lg_sl as).length ≤ 3 ∧ xm_cp fV_write 0 0 as m Rh
theorem eV_write_0 {X : Nat → xm_PT} {Rh : Option Value → xm_M → Prop} (hX : ∀ lb, xm_le (fV_write X Rh lb) (X lb)) {ls : xm_L} {st : List Value} {m : xm_M} {bc bs : Nat} (h : cV_write_0 X Rh ls st m bc bs) : X 0 ls st m bc bs := hX 0 ls st m bc bs h
set_option maxRecDepth 20000 in
set_option maxHeartbeats 4000000 in
theorem sV_write_0 {p : Program} {l : Launch} {e : Env} {s : State} {mm : MethodId} {args : Array Value} {below : List Frame} {meth : Method} {c : Code} {D : va_G} {A : Nat → Prop} {Rh : Option Value → xm_M → Prop} (C : xm_C p s mm args c b_V_write 3 "BlockVault" w_V_write D classes ats A) (hr : meth.sig.returnType = (some .int)) (hlk : meth.locks = false) (hnm : meth.name = "write") : xm_le (cV_write_0 (xm_A p l e rm_V_write s mm args below meth c 3 D classes A (MQ below (xm_Q D classes Rh A) args s 0 0 A)) Rh) ((xm_A p l e rm_V_write s mm args below meth c 3 D classes A (MQ below (xm_Q D classes Rh A) args s 0 0 A)) 0) :=
  (xs_aload_n C d_V_write_0 rfl (xs_aload_n C d_V_write_1 rfl (xs_callV C (CN := "BlockVault") (T := F_V) (N := 8) d_V_write_2 (met_V_append l D) ⟨callB_of (ws := w_V_append) (rm := rm_V_append) 1 C.1.2.2.2.2 (gG_m tw_177) rfl rfl rfl (C.1.2.2.2.2 _ (List.mem_cons_of_mem _ tw_1)) (C.1.2.2.2.2 _ (List.mem_cons_of_mem _ tw_174)) ⟨by decide, by decide, by decide +kernel⟩ ⟨Nat.le_of_ble_eq_true rfl, Nat.le_of_ble_eq_true rfl⟩, (C.1.2.2.2.2 _ (List.mem_cons_of_mem _ tw_176)), (C.1.2.2.2.2 _ (List.mem_cons_of_mem _ ts_4))⟩ (ci := 0) rfl (xs_istore_n C d_V_write_5 rfl (by decide) (xs_iload_n C d_V_write_6 rfl (xs_if_lt C d_V_write_7 (by decide) (xs_iload_n C d_V_write_20 rfl (xs_iret C d_V_write_21 hr hlk rfl rfl)) (xs_aload_n C d_V_write_10 rfl (xs_dup C d_V_write_11 (xs_get C (k := 3) d_V_write_12 h_V (ci := 0) rfl (by decide) (List.mem_cons_of_mem _ tw_84) rfl (xs_iconst C d_V_write_15 (by decide) (xs_iadd C d_V_write_16 (xs_put C (k := 3) d_V_write_17 h_V t_V t_V_ok n_V (ci := 0) rfl (by decide) (List.mem_cons_of_mem _ tw_84) rfl rfl (by decide +kernel) (xs_iload_n C d_V_write_20 rfl (xs_iret C d_V_write_21 hr hlk rfl rfl))))))))))))))
theorem met_V_write (l : Launch) (D : va_G) : xm_Met l D classes ats y_V_write w_V_write rm_V_write 0 0 cp_V_write := by
  refine xm_met 0 (by decide) rfl rfl rfl (fun p e s mm args below meth c A Rh C hr hlk hnm lb => ?_)
  unfold fV_write
  split
  · rename_i h; subst h; exact sV_write_0 C hr hlk hnm
  · exact fun _ _ _ _ _ h => h.elim
theorem d_V_writeRecord_0 : decode b_V_writeRecord 0 = .ok (.aload_n 0, 1) := by decide +kernel
theorem d_V_writeRecord_1 : decode b_V_writeRecord 1 = .ok (.iload_n 1, 1) := by decide +kernel
theorem d_V_writeRecord_2 : decode b_V_writeRecord 2 = .ok (.invokevirtual 58, 3) := by decide +kernel
theorem d_V_writeRecord_5 : decode b_V_writeRecord 5 = .ok (.ifCond .eq 20, 3) := by decide +kernel
theorem d_V_writeRecord_8 : decode b_V_writeRecord 8 = .ok (.aload_n 0, 1) := by decide +kernel
theorem d_V_writeRecord_9 : decode b_V_writeRecord 9 = .ok (.getfield 17, 3) := by decide +kernel
theorem d_V_writeRecord_12 : decode b_V_writeRecord 12 = .ok (.iload_n 1, 1) := by decide +kernel
theorem d_V_writeRecord_13 : decode b_V_writeRecord 13 = .ok (.aaload, 1) := by decide +kernel
theorem d_V_writeRecord_14 : decode b_V_writeRecord 14 = .ok (.getfield 63, 3) := by decide +kernel
theorem d_V_writeRecord_17 : decode b_V_writeRecord 17 = .ok (.getfield 148, 3) := by decide +kernel
theorem d_V_writeRecord_20 : decode b_V_writeRecord 20 = .ok (.iconst 1, 1) := by decide +kernel
theorem d_V_writeRecord_21 : decode b_V_writeRecord 21 = .ok (.iadd, 1) := by decide +kernel
theorem d_V_writeRecord_22 : decode b_V_writeRecord 22 = .ok (.goto 4, 3) := by decide +kernel
theorem d_V_writeRecord_25 : decode b_V_writeRecord 25 = .ok (.iconst 1, 1) := by decide +kernel
theorem d_V_writeRecord_26 : decode b_V_writeRecord 26 = .ok (.istore 5, 2) := by decide +kernel
theorem d_V_writeRecord_28 : decode b_V_writeRecord 28 = .ok (.iload 4, 2) := by decide +kernel
theorem d_V_writeRecord_30 : decode b_V_writeRecord 30 = .ok (.ifCond .ne 7, 3) := by decide +kernel
theorem d_V_writeRecord_33 : decode b_V_writeRecord 33 = .ok (.iconst 0, 1) := by decide +kernel
theorem d_V_writeRecord_34 : decode b_V_writeRecord 34 = .ok (.goto 10, 3) := by decide +kernel
theorem d_V_writeRecord_37 : decode b_V_writeRecord 37 = .ok (.aload_n 0, 1) := by decide +kernel
theorem d_V_writeRecord_38 : decode b_V_writeRecord 38 = .ok (.getfield 21, 3) := by decide +kernel
theorem d_V_writeRecord_41 : decode b_V_writeRecord 41 = .ok (.iload 4, 2) := by decide +kernel
theorem d_V_writeRecord_43 : decode b_V_writeRecord 43 = .ok (.iadd, 1) := by decide +kernel
theorem d_V_writeRecord_44 : decode b_V_writeRecord 44 = .ok (.istore 6, 2) := by decide +kernel
theorem d_V_writeRecord_46 : decode b_V_writeRecord 46 = .ok (.aload_n 0, 1) := by decide +kernel
theorem d_V_writeRecord_47 : decode b_V_writeRecord 47 = .ok (.new 68, 3) := by decide +kernel
theorem d_V_writeRecord_50 : decode b_V_writeRecord 50 = .ok (.dup, 1) := by decide +kernel
theorem d_V_writeRecord_51 : decode b_V_writeRecord 51 = .ok (.iload_n 1, 1) := by decide +kernel
theorem d_V_writeRecord_52 : decode b_V_writeRecord 52 = .ok (.iload_n 2, 1) := by decide +kernel
theorem d_V_writeRecord_53 : decode b_V_writeRecord 53 = .ok (.iload_n 3, 1) := by decide +kernel
theorem d_V_writeRecord_54 : decode b_V_writeRecord 54 = .ok (.iload 5, 2) := by decide +kernel
theorem d_V_writeRecord_56 : decode b_V_writeRecord 56 = .ok (.iload 6, 2) := by decide +kernel
theorem d_V_writeRecord_58 : decode b_V_writeRecord 58 = .ok (.aload_n 0, 1) := by decide +kernel
theorem d_V_writeRecord_59 : decode b_V_writeRecord 59 = .ok (.getfield 25, 3) := by decide +kernel
theorem d_V_writeRecord_62 : decode b_V_writeRecord 62 = .ok (.iconst 0, 1) := by decide +kernel
theorem d_V_writeRecord_63 : decode b_V_writeRecord 63 = .ok (.invokespecial 196, 3) := by decide +kernel
theorem d_V_writeRecord_66 : decode b_V_writeRecord 66 = .ok (.invokevirtual 199, 3) := by decide +kernel
theorem d_V_writeRecord_69 : decode b_V_writeRecord 69 = .ok (.istore 7, 2) := by decide +kernel
theorem d_V_writeRecord_71 : decode b_V_writeRecord 71 = .ok (.iload 7, 2) := by decide +kernel
theorem d_V_writeRecord_73 : decode b_V_writeRecord 73 = .ok (.ifCond .ge 8, 3) := by decide +kernel
theorem d_V_writeRecord_76 : decode b_V_writeRecord 76 = .ok (.iload 7, 2) := by decide +kernel
theorem d_V_writeRecord_78 : decode b_V_writeRecord 78 = .ok (.goto 5, 3) := by decide +kernel
theorem d_V_writeRecord_81 : decode b_V_writeRecord 81 = .ok (.iload 5, 2) := by decide +kernel
theorem d_V_writeRecord_83 : decode b_V_writeRecord 83 = .ok (.ireturn, 1) := by decide +kernel
-- BlockVault.writeRecord(IIII)I: labels [0, 26, 44], loops []
abbrev rm_V_writeRecord : Room := { frames := 4, cells := 1, slots := 7, locals := 93 }
def cV_writeRecord_44 (X : Nat → xm_PT) (Rh : Option Value → xm_M → Prop) : xm_PT := (xo_istore 6 (xo_aload 0 (xo_new 1 7 [.int 0, .int 0, .int 0, .int 0, .int 0, .int 0, .int 0] (xo_dup (xo_iload 1 (xo_iload 2 (xo_iload 3 (xo_iload 5 (xo_iload 6 (xo_aload 0 (xo_get 0 3 (xo_push (.int 0) (xo_callI 7 0 0 cp_C_init (xo_callV 0 1 0 0 cp_V_write (xo_istore 7 (xo_iload 7 (xo_if (fun x => 0 ≤ x) (xo_iload 5 (xo_iret Rh)) (xo_iload 7 (xo_iret Rh)))))))))))))))))))
def cV_writeRecord_26 (X : Nat → xm_PT) (Rh : Option Value → xm_M → Prop) : xm_PT := (xo_istore 5 (xo_iload 4 (xo_if (fun x => x = 0) (xo_push (.int 0) (xo_jmp [0, 1, 2, 3, 5] (cV_writeRecord_44 X Rh))) (xo_aload 0 (xo_get 0 2 (xo_iload 4 (xo_ibin (fun x y => x + y) (xo_jmp [0, 1, 2, 3, 5] (cV_writeRecord_44 X Rh)))))))))
def cV_writeRecord_0 (X : Nat → xm_PT) (Rh : Option Value → xm_M → Prop) : xm_PT := (xo_aload 0 (xo_iload 1 (xo_callV 0 1 0 0 cp_V_isThere (xo_if (fun x => x = 0) (xo_push (.int 1) (xo_jmp [0, 1, 2, 3, 4] (cV_writeRecord_26 X Rh))) (xo_aload 0 (xo_get 0 1 (xo_iload 1 (xo_aald ats (xo_get 4 0 (xo_get 1 3 (xo_push (.int 1) (xo_ibin (fun x y => x + y) (xo_jmp [0, 1, 2, 3, 4] (cV_writeRecord_26 X Rh))))))))))))))
def fV_writeRecord : xm_F := fun X Rh lb => if lb = 0 then cV_writeRecord_0 X Rh else fun _ _ _ _ _ => False
def cp_V_writeRecord : xm_CP := fun as m Rh => (lg_sl as).length ≤ 8 ∧ xm_cp fV_writeRecord 1 7 as m Rh
theorem eV_writeRecord_0 {X : Nat → xm_PT} {Rh : Option Value → xm_M → Prop} (hX : ∀ lb, xm_le (fV_writeRecord X Rh lb) (X lb)) {ls : xm_L} {st : List Value} {m : xm_M} {bc bs : Nat} (h : cV_writeRecord_0 X Rh ls st m bc bs) : X 0 ls st m bc bs := hX 0 ls st m bc bs h
set_option maxRecDepth 20000 in
set_option maxHeartbeats 4000000 in
theorem sV_writeRecord_44 {p : Program} {l : Launch} {e : Env} {s : State} {mm : MethodId} {args : Array Value} {below : List Frame} {meth : Method} {c : Code} {D : va_G} {A : Nat → Prop} {Rh : Option Value → xm_M → Prop} (C : xm_C p s mm args c b_V_writeRecord 8 "BlockVault" w_V_writeRecord D classes ats A) (hr : meth.sig.returnType = (some .int)) (hlk : meth.locks = false) (hnm : meth.name = "writeRecord") : xm_le (cV_writeRecord_44 (xm_A p l e rm_V_writeRecord s mm args below meth c 8 D classes A (MQ below (xm_Q D classes Rh A) args s 1 7 A)) Rh) ((xm_A p l e rm_V_writeRecord s mm args below meth c 8 D classes A (MQ below (xm_Q D classes Rh A) args s 1 7 A)) 44) :=
  (xs_istore C d_V_writeRecord_44 (by decide) (xs_aload_n C d_V_writeRecord_46 rfl (xs_new C d_V_writeRecord_47 h_C t_C t_C_ok (ci := 1) rfl (List.mem_cons_of_mem _ tw_132) (List.mem_cons_of_mem _ tw_133) (List.mem_cons_of_mem _ tw_6) (by decide +kernel) (xs_dup C d_V_writeRecord_50 (xs_iload_n C d_V_writeRecord_51 rfl (xs_iload_n C d_V_writeRecord_52 rfl (xs_iload_n C d_V_writeRecord_53 rfl (xs_iload C d_V_writeRecord_54 (xs_iload C d_V_writeRecord_56 (xs_aload_n C d_V_writeRecord_58 rfl (xs_get C (k := 3) d_V_writeRecord_59 h_V (ci := 0) rfl (by decide) (List.mem_cons_of_mem _ tw_84) rfl (xs_iconst C d_V_writeRecord_62 (by decide) (xs_callI C d_V_writeRecord_63 (met_C_init l D) ⟨callB_of (ws := w_C_init) (rm := rm_C_init) 7 C.1.2.2.2.2 (gG_m tw_136) rfl rfl rfl (C.1.2.2.2.2 _ (List.mem_cons_of_mem _ tw_6)) (C.1.2.2.2.2 _ (List.mem_cons_of_mem _ tw_134)) ⟨by decide, by decide, by decide +kernel⟩ ⟨Nat.le_of_ble_eq_true rfl, Nat.le_of_ble_eq_true rfl⟩, rfl, (C.1.2.2.2.2 _ (List.mem_cons_of_mem _ tw_135))⟩ (xs_callV C (CN := "BlockVault") (T := F_V) (N := 8) d_V_writeRecord_66 (met_V_write l D) ⟨callB_of (ws := w_V_write) (rm := rm_V_write) 1 C.1.2.2.2.2 (gG_m tw_173) rfl rfl rfl (C.1.2.2.2.2 _ (List.mem_cons_of_mem _ tw_1)) (C.1.2.2.2.2 _ (List.mem_cons_of_mem _ tw_170)) ⟨by decide, by decide, by decide +kernel⟩ ⟨Nat.le_of_ble_eq_true rfl, Nat.le_of_ble_eq_true rfl⟩, (C.1.2.2.2.2 _ (List.mem_cons_of_mem _ tw_172)), (C.1.2.2.2.2 _ (List.mem_cons_of_mem _ ts_3))⟩ (ci := 0) rfl (xs_istore C d_V_writeRecord_69 (by decide) (xs_iload C d_V_writeRecord_71 (xs_if_ge C d_V_writeRecord_73 (by decide) (xs_iload C d_V_writeRecord_81 (xs_iret C d_V_writeRecord_83 hr hlk rfl rfl)) (xs_iload C d_V_writeRecord_76 (xs_goto C d_V_writeRecord_78 (by decide) (xs_iret C d_V_writeRecord_83 hr hlk rfl rfl))))))))))))))))))))
set_option maxRecDepth 20000 in
set_option maxHeartbeats 4000000 in
theorem sV_writeRecord_26 {p : Program} {l : Launch} {e : Env} {s : State} {mm : MethodId} {args : Array Value} {below : List Frame} {meth : Method} {c : Code} {D : va_G} {A : Nat → Prop} {Rh : Option Value → xm_M → Prop} (C : xm_C p s mm args c b_V_writeRecord 8 "BlockVault" w_V_writeRecord D classes ats A) (hr : meth.sig.returnType = (some .int)) (hlk : meth.locks = false) (hnm : meth.name = "writeRecord") : xm_le (cV_writeRecord_26 (xm_A p l e rm_V_writeRecord s mm args below meth c 8 D classes A (MQ below (xm_Q D classes Rh A) args s 1 7 A)) Rh) ((xm_A p l e rm_V_writeRecord s mm args below meth c 8 D classes A (MQ below (xm_Q D classes Rh A) args s 1 7 A)) 26) :=
  (xs_istore C d_V_writeRecord_26 (by decide) (xs_iload C d_V_writeRecord_28 (xs_if_ne C d_V_writeRecord_30 (by decide) (xs_iconst C d_V_writeRecord_33 (by decide) (xs_goto C d_V_writeRecord_34 (by decide) (xs_jmp (sV_writeRecord_44 C hr hlk hnm)))) (xs_aload_n C d_V_writeRecord_37 rfl (xs_get C (k := 2) d_V_writeRecord_38 h_V (ci := 0) rfl (by decide) (List.mem_cons_of_mem _ tw_83) rfl (xs_iload C d_V_writeRecord_41 (xs_iadd C d_V_writeRecord_43 (xs_jmp (sV_writeRecord_44 C hr hlk hnm)))))))))
set_option maxRecDepth 20000 in
set_option maxHeartbeats 4000000 in
theorem sV_writeRecord_0 {p : Program} {l : Launch} {e : Env} {s : State} {mm : MethodId} {args : Array Value} {below : List Frame} {meth : Method} {c : Code} {D : va_G} {A : Nat → Prop} {Rh : Option Value → xm_M → Prop} (C : xm_C p s mm args c b_V_writeRecord 8 "BlockVault" w_V_writeRecord D classes ats A) (hr : meth.sig.returnType = (some .int)) (hlk : meth.locks = false) (hnm : meth.name = "writeRecord") : xm_le (cV_writeRecord_0 (xm_A p l e rm_V_writeRecord s mm args below meth c 8 D classes A (MQ below (xm_Q D classes Rh A) args s 1 7 A)) Rh) ((xm_A p l e rm_V_writeRecord s mm args below meth c 8 D classes A (MQ below (xm_Q D classes Rh A) args s 1 7 A)) 0) :=
  (xs_aload_n C d_V_writeRecord_0 rfl (xs_iload_n C d_V_writeRecord_1 rfl (xs_callV C (CN := "BlockVault") (T := F_V) (N := 8) d_V_writeRecord_2 (met_V_isThere l D) ⟨callB_of (ws := w_V_isThere) (rm := rm_V_isThere) 1 C.1.2.2.2.2 (gG_m tw_123) rfl rfl rfl (C.1.2.2.2.2 _ (List.mem_cons_of_mem _ tw_1)) (C.1.2.2.2.2 _ (List.mem_cons_of_mem _ tw_120)) ⟨by decide, by decide, by decide +kernel⟩ ⟨Nat.le_of_ble_eq_true rfl, Nat.le_of_ble_eq_true rfl⟩, (C.1.2.2.2.2 _ (List.mem_cons_of_mem _ tw_122)), (C.1.2.2.2.2 _ (List.mem_cons_of_mem _ ts_1))⟩ (ci := 0) rfl (xs_if_eq C d_V_writeRecord_5 (by decide) (xs_iconst C d_V_writeRecord_25 (by decide) (xs_jmp (sV_writeRecord_26 C hr hlk hnm))) (xs_aload_n C d_V_writeRecord_8 rfl (xs_get C (k := 1) d_V_writeRecord_9 h_V (ci := 0) rfl (by decide) (List.mem_cons_of_mem _ tw_82) rfl (xs_iload_n C d_V_writeRecord_12 rfl (xs_aald C d_V_writeRecord_13 (xs_get C (k := 0) d_V_writeRecord_14 h_E (ci := 4) rfl (by decide) (List.mem_cons_of_mem _ tw_69) rfl (xs_get C (k := 3) d_V_writeRecord_17 h_C (ci := 1) rfl (by decide) (List.mem_cons_of_mem _ tw_147) rfl (xs_iconst C d_V_writeRecord_20 (by decide) (xs_iadd C d_V_writeRecord_21 (xs_goto C d_V_writeRecord_22 (by decide) (xs_jmp (sV_writeRecord_26 C hr hlk hnm)))))))))))))))
theorem met_V_writeRecord (l : Launch) (D : va_G) : xm_Met l D classes ats y_V_writeRecord w_V_writeRecord rm_V_writeRecord 1 7 cp_V_writeRecord := by
  refine xm_met 0 (by decide) rfl rfl rfl (fun p e s mm args below meth c A Rh C hr hlk hnm lb => ?_)
  unfold fV_writeRecord
  split
  · rename_i h; subst h; exact sV_writeRecord_0 C hr hlk hnm
  · exact fun _ _ _ _ _ h => h.elim
theorem d_V_put_0 : decode b_V_put 0 = .ok (.iload_n 1, 1) := by decide +kernel
theorem d_V_put_1 : decode b_V_put 1 = .ok (.invokestatic 43, 3) := by decide +kernel
theorem d_V_put_4 : decode b_V_put 4 = .ok (.ifCond .eq 29, 3) := by decide +kernel
theorem d_V_put_7 : decode b_V_put 7 = .ok (.iload_n 3, 1) := by decide +kernel
theorem d_V_put_8 : decode b_V_put 8 = .ok (.iconst 1, 1) := by decide +kernel
theorem d_V_put_9 : decode b_V_put 9 = .ok (.if_icmp .lt 24, 3) := by decide +kernel
theorem d_V_put_12 : decode b_V_put 12 = .ok (.iload_n 3, 1) := by decide +kernel
theorem d_V_put_13 : decode b_V_put 13 = .ok (.bipush 6, 2) := by decide +kernel
theorem d_V_put_15 : decode b_V_put 15 = .ok (.if_icmp .gt 18, 3) := by decide +kernel
theorem d_V_put_18 : decode b_V_put 18 = .ok (.iload 4, 2) := by decide +kernel
theorem d_V_put_20 : decode b_V_put 20 = .ok (.invokestatic 47, 3) := by decide +kernel
theorem d_V_put_23 : decode b_V_put 23 = .ok (.ifCond .eq 10, 3) := by decide +kernel
theorem d_V_put_26 : decode b_V_put 26 = .ok (.iload 5, 2) := by decide +kernel
theorem d_V_put_28 : decode b_V_put 28 = .ok (.bipush (-3), 2) := by decide +kernel
theorem d_V_put_30 : decode b_V_put 30 = .ok (.if_icmp .ge 5, 3) := by decide +kernel
theorem d_V_put_33 : decode b_V_put 33 = .ok (.iconst (-1), 1) := by decide +kernel
theorem d_V_put_34 : decode b_V_put 34 = .ok (.ireturn, 1) := by decide +kernel
theorem d_V_put_35 : decode b_V_put 35 = .ok (.aload_n 0, 1) := by decide +kernel
theorem d_V_put_36 : decode b_V_put 36 = .ok (.getfield 37, 3) := by decide +kernel
theorem d_V_put_39 : decode b_V_put 39 = .ok (.ifCond .eq 6, 3) := by decide +kernel
theorem d_V_put_42 : decode b_V_put 42 = .ok (.bipush (-2), 2) := by decide +kernel
theorem d_V_put_44 : decode b_V_put 44 = .ok (.ireturn, 1) := by decide +kernel
theorem d_V_put_45 : decode b_V_put 45 = .ok (.aload_n 0, 1) := by decide +kernel
theorem d_V_put_46 : decode b_V_put 46 = .ok (.iload_n 1, 1) := by decide +kernel
theorem d_V_put_47 : decode b_V_put 47 = .ok (.iload 5, 2) := by decide +kernel
theorem d_V_put_49 : decode b_V_put 49 = .ok (.invokevirtual 50, 3) := by decide +kernel
theorem d_V_put_52 : decode b_V_put 52 = .ok (.ifCond .ne 6, 3) := by decide +kernel
theorem d_V_put_55 : decode b_V_put 55 = .ok (.bipush (-3), 2) := by decide +kernel
theorem d_V_put_57 : decode b_V_put 57 = .ok (.ireturn, 1) := by decide +kernel
theorem d_V_put_58 : decode b_V_put 58 = .ok (.aload_n 0, 1) := by decide +kernel
theorem d_V_put_59 : decode b_V_put 59 = .ok (.iload_n 1, 1) := by decide +kernel
theorem d_V_put_60 : decode b_V_put 60 = .ok (.iload_n 2, 1) := by decide +kernel
theorem d_V_put_61 : decode b_V_put 61 = .ok (.iload_n 3, 1) := by decide +kernel
theorem d_V_put_62 : decode b_V_put 62 = .ok (.iload 4, 2) := by decide +kernel
theorem d_V_put_64 : decode b_V_put 64 = .ok (.invokevirtual 54, 3) := by decide +kernel
theorem d_V_put_67 : decode b_V_put 67 = .ok (.ireturn, 1) := by decide +kernel
-- BlockVault.put(IIIII)I: labels [0], loops []
abbrev rm_V_put : Room := { frames := 5, cells := 1, slots := 7, locals := 120 }
def cV_put_0 (X : Nat → xm_PT) (Rh : Option Value → xm_M → Prop) : xm_PT := (xo_iload 1 (xo_callS 1 0 0 cp_V_isKey (xo_if (fun x => x = 0) (xo_push (.int (-1)) (xo_iret Rh)) (xo_iload 3 (xo_push (.int 1) (xo_icmp (fun x y => x < y) (xo_push (.int (-1)) (xo_iret Rh)) (xo_iload 3 (xo_push (.int (nI 6)) (xo_icmp (fun x y => y < x) (xo_push (.int (-1)) (xo_iret Rh)) (xo_iload 4 (xo_callS 1 0 0 cp_V_isLife (xo_if (fun x => x = 0) (xo_push (.int (-1)) (xo_iret Rh)) (xo_iload 5 (xo_push (.int (-3)) (xo_icmp (fun x y => y ≤ x) (xo_aload 0 (xo_get 0 7 (xo_if (fun x => x = 0) (xo_aload 0 (xo_iload 1 (xo_iload 5 (xo_callV 0 2 0 0 cp_V_ruleHolds (xo_if (fun x => x = 0) (xo_push (.int (-3)) (xo_iret Rh)) (xo_aload 0 (xo_iload 1 (xo_iload 2 (xo_iload 3 (xo_iload 4 (xo_callV 0 4 1 7 cp_V_writeRecord (xo_iret Rh)))))))))))) (xo_push (.int (-2)) (xo_iret Rh))))) (xo_push (.int (-1)) (xo_iret Rh)))))))))))))))))
def fV_put : xm_F := fun X Rh lb => if lb = 0 then cV_put_0 X Rh else fun _ _ _ _ _ => False
def cp_V_put : xm_CP := fun as m Rh => (lg_sl as).length ≤ 6 ∧ xm_cp fV_put 1 7 as m Rh
theorem eV_put_0 {X : Nat → xm_PT} {Rh : Option Value → xm_M → Prop} (hX : ∀ lb, xm_le (fV_put X Rh lb) (X lb)) {ls : xm_L} {st : List Value} {m : xm_M} {bc bs : Nat} (h : cV_put_0 X Rh ls st m bc bs) : X 0 ls st m bc bs := hX 0 ls st m bc bs h
set_option maxRecDepth 20000 in
set_option maxHeartbeats 4000000 in
theorem sV_put_0 {p : Program} {l : Launch} {e : Env} {s : State} {mm : MethodId} {args : Array Value} {below : List Frame} {meth : Method} {c : Code} {D : va_G} {A : Nat → Prop} {Rh : Option Value → xm_M → Prop} (C : xm_C p s mm args c b_V_put 6 "BlockVault" w_V_put D classes ats A) (hr : meth.sig.returnType = (some .int)) (hlk : meth.locks = false) (hnm : meth.name = "put") : xm_le (cV_put_0 (xm_A p l e rm_V_put s mm args below meth c 6 D classes A (MQ below (xm_Q D classes Rh A) args s 1 7 A)) Rh) ((xm_A p l e rm_V_put s mm args below meth c 6 D classes A (MQ below (xm_Q D classes Rh A) args s 1 7 A)) 0) :=
  (xs_iload_n C d_V_put_0 rfl (xs_callS C d_V_put_1 (met_V_isKey l D) ⟨callB_of (ws := w_V_isKey) (rm := rm_V_isKey) 1 C.1.2.2.2.2 (gG_m tw_112) rfl rfl rfl (C.1.2.2.2.2 _ (List.mem_cons_of_mem _ tw_1)) (C.1.2.2.2.2 _ (List.mem_cons_of_mem _ tw_110)) ⟨by decide, by decide, by decide +kernel⟩ ⟨Nat.le_of_ble_eq_true rfl, Nat.le_of_ble_eq_true rfl⟩, C.1.2.2.2.2 _ (List.mem_cons_of_mem _ tw_111)⟩ (xs_if_eq C d_V_put_4 (by decide) (xs_iconst C d_V_put_33 (by decide) (xs_iret C d_V_put_34 hr hlk rfl rfl)) (xs_iload_n C d_V_put_7 rfl (xs_iconst C d_V_put_8 (by decide) (xs_icmp_lt C d_V_put_9 (by decide) (xs_iconst C d_V_put_33 (by decide) (xs_iret C d_V_put_34 hr hlk rfl rfl)) (xs_iload_n C d_V_put_12 rfl (xs_bipush C d_V_put_13 (by decide) (xs_icmp_gt C d_V_put_15 (by decide) (xs_iconst C d_V_put_33 (by decide) (xs_iret C d_V_put_34 hr hlk rfl rfl)) (xs_iload C d_V_put_18 (xs_callS C d_V_put_20 (met_V_isLife l D) ⟨callB_of (ws := w_V_isLife) (rm := rm_V_isLife) 1 C.1.2.2.2.2 (gG_m tw_115) rfl rfl rfl (C.1.2.2.2.2 _ (List.mem_cons_of_mem _ tw_1)) (C.1.2.2.2.2 _ (List.mem_cons_of_mem _ tw_113)) ⟨by decide, by decide, by decide +kernel⟩ ⟨Nat.le_of_ble_eq_true rfl, Nat.le_of_ble_eq_true rfl⟩, C.1.2.2.2.2 _ (List.mem_cons_of_mem _ tw_114)⟩ (xs_if_eq C d_V_put_23 (by decide) (xs_iconst C d_V_put_33 (by decide) (xs_iret C d_V_put_34 hr hlk rfl rfl)) (xs_iload C d_V_put_26 (xs_bipush C d_V_put_28 (by decide) (xs_icmp_ge C d_V_put_30 (by decide) (xs_aload_n C d_V_put_35 rfl (xs_get C (k := 7) d_V_put_36 h_V (ci := 0) rfl (by decide) (List.mem_cons_of_mem _ tw_88) rfl (xs_if_eq C d_V_put_39 (by decide) (xs_aload_n C d_V_put_45 rfl (xs_iload_n C d_V_put_46 rfl (xs_iload C d_V_put_47 (xs_callV C (CN := "BlockVault") (T := F_V) (N := 8) d_V_put_49 (met_V_ruleHolds l D) ⟨callB_of (ws := w_V_ruleHolds) (rm := rm_V_ruleHolds) 2 C.1.2.2.2.2 (gG_m tw_119) rfl rfl rfl (C.1.2.2.2.2 _ (List.mem_cons_of_mem _ tw_1)) (C.1.2.2.2.2 _ (List.mem_cons_of_mem _ tw_116)) ⟨by decide, by decide, by decide +kernel⟩ ⟨Nat.le_of_ble_eq_true rfl, Nat.le_of_ble_eq_true rfl⟩, (C.1.2.2.2.2 _ (List.mem_cons_of_mem _ tw_118)), (C.1.2.2.2.2 _ (List.mem_cons_of_mem _ ts_0))⟩ (ci := 0) rfl (xs_if_ne C d_V_put_52 (by decide) (xs_bipush C d_V_put_55 (by decide) (xs_iret C d_V_put_57 hr hlk rfl rfl)) (xs_aload_n C d_V_put_58 rfl (xs_iload_n C d_V_put_59 rfl (xs_iload_n C d_V_put_60 rfl (xs_iload_n C d_V_put_61 rfl (xs_iload C d_V_put_62 (xs_callV C (CN := "BlockVault") (T := F_V) (N := 8) d_V_put_64 (met_V_writeRecord l D) ⟨callB_of (ws := w_V_writeRecord) (rm := rm_V_writeRecord) 4 C.1.2.2.2.2 (gG_m tw_131) rfl rfl rfl (C.1.2.2.2.2 _ (List.mem_cons_of_mem _ tw_1)) (C.1.2.2.2.2 _ (List.mem_cons_of_mem _ tw_128)) ⟨by decide, by decide, by decide +kernel⟩ ⟨Nat.le_of_ble_eq_true rfl, Nat.le_of_ble_eq_true rfl⟩, (C.1.2.2.2.2 _ (List.mem_cons_of_mem _ tw_130)), (C.1.2.2.2.2 _ (List.mem_cons_of_mem _ ts_2))⟩ (ci := 0) rfl (xs_iret C d_V_put_67 hr hlk rfl rfl)))))))))))) (xs_bipush C d_V_put_42 (by decide) (xs_iret C d_V_put_44 hr hlk rfl rfl))))) (xs_iconst C d_V_put_33 (by decide) (xs_iret C d_V_put_34 hr hlk rfl rfl)))))))))))))))))
theorem met_V_put (l : Launch) (D : va_G) : xm_Met l D classes ats y_V_put w_V_put rm_V_put 1 7 cp_V_put := by
  refine xm_met 0 (by decide) rfl rfl rfl (fun p e s mm args below meth c A Rh C hr hlk hnm lb => ?_)
  unfold fV_put
  split
  · rename_i h; subst h; exact sV_put_0 C hr hlk hnm
  · exact fun _ _ _ _ _ h => h.elim
theorem d_V_get_0 : decode b_V_get 0 = .ok (.iload_n 1, 1) := by decide +kernel
theorem d_V_get_1 : decode b_V_get 1 = .ok (.invokestatic 43, 3) := by decide +kernel
theorem d_V_get_4 : decode b_V_get 4 = .ok (.ifCond .eq 11, 3) := by decide +kernel
theorem d_V_get_7 : decode b_V_get 7 = .ok (.aload_n 0, 1) := by decide +kernel
theorem d_V_get_8 : decode b_V_get 8 = .ok (.iload_n 1, 1) := by decide +kernel
theorem d_V_get_9 : decode b_V_get 9 = .ok (.invokevirtual 58, 3) := by decide +kernel
theorem d_V_get_12 : decode b_V_get 12 = .ok (.ifCond .ne 7, 3) := by decide +kernel
theorem d_V_get_15 : decode b_V_get 15 = .ok (.ldc2_w 61, 3) := by decide +kernel
theorem d_V_get_18 : decode b_V_get 18 = .ok (.lreturn, 1) := by decide +kernel
theorem d_V_get_19 : decode b_V_get 19 = .ok (.aload_n 0, 1) := by decide +kernel
theorem d_V_get_20 : decode b_V_get 20 = .ok (.getfield 17, 3) := by decide +kernel
theorem d_V_get_23 : decode b_V_get 23 = .ok (.iload_n 1, 1) := by decide +kernel
theorem d_V_get_24 : decode b_V_get 24 = .ok (.aaload, 1) := by decide +kernel
theorem d_V_get_25 : decode b_V_get 25 = .ok (.getfield 63, 3) := by decide +kernel
theorem d_V_get_28 : decode b_V_get 28 = .ok (.getfield 67, 3) := by decide +kernel
theorem d_V_get_31 : decode b_V_get 31 = .ok (.i2l, 1) := by decide +kernel
theorem d_V_get_32 : decode b_V_get 32 = .ok (.lreturn, 1) := by decide +kernel
-- BlockVault.get(I)J: labels [0], loops []
abbrev rm_V_get : Room := { frames := 2, cells := 0, slots := 0, locals := 43 }
def cV_get_0 (X : Nat → xm_PT) (Rh : Option Value → xm_M → Prop) : xm_PT := (xo_iload 1 (xo_callS 1 0 0 cp_V_isKey (xo_if (fun x => x = 0) (xo_push (.long (1099511627776)) (xo_lret Rh)) (xo_aload 0 (xo_iload 1 (xo_callV 0 1 0 0 cp_V_isThere (xo_if (fun x => x = 0) (xo_push (.long (1099511627776)) (xo_lret Rh)) (xo_aload 0 (xo_get 0 1 (xo_iload 1 (xo_aald ats (xo_get 4 0 (xo_get 1 1 (xo_i2l (xo_lret Rh)))))))))))))))
def fV_get : xm_F := fun X Rh lb => if lb = 0 then cV_get_0 X Rh else fun _ _ _ _ _ => False
def cp_V_get : xm_CP := fun as m Rh => (lg_sl as).length ≤ 2 ∧ xm_cp fV_get 0 0 as m Rh
theorem eV_get_0 {X : Nat → xm_PT} {Rh : Option Value → xm_M → Prop} (hX : ∀ lb, xm_le (fV_get X Rh lb) (X lb)) {ls : xm_L} {st : List Value} {m : xm_M} {bc bs : Nat} (h : cV_get_0 X Rh ls st m bc bs) : X 0 ls st m bc bs := hX 0 ls st m bc bs h
set_option maxRecDepth 20000 in
set_option maxHeartbeats 4000000 in
theorem sV_get_0 {p : Program} {l : Launch} {e : Env} {s : State} {mm : MethodId} {args : Array Value} {below : List Frame} {meth : Method} {c : Code} {D : va_G} {A : Nat → Prop} {Rh : Option Value → xm_M → Prop} (C : xm_C p s mm args c b_V_get 2 "BlockVault" w_V_get D classes ats A) (hr : meth.sig.returnType = (some .long)) (hlk : meth.locks = false) (hnm : meth.name = "get") : xm_le (cV_get_0 (xm_A p l e rm_V_get s mm args below meth c 2 D classes A (MQ below (xm_Q D classes Rh A) args s 0 0 A)) Rh) ((xm_A p l e rm_V_get s mm args below meth c 2 D classes A (MQ below (xm_Q D classes Rh A) args s 0 0 A)) 0) :=
  (xs_iload_n C d_V_get_0 rfl (xs_callS C d_V_get_1 (met_V_isKey l D) ⟨callB_of (ws := w_V_isKey) (rm := rm_V_isKey) 1 C.1.2.2.2.2 (gG_m tw_112) rfl rfl rfl (C.1.2.2.2.2 _ (List.mem_cons_of_mem _ tw_1)) (C.1.2.2.2.2 _ (List.mem_cons_of_mem _ tw_110)) ⟨by decide, by decide, by decide +kernel⟩ ⟨Nat.le_of_ble_eq_true rfl, Nat.le_of_ble_eq_true rfl⟩, C.1.2.2.2.2 _ (List.mem_cons_of_mem _ tw_111)⟩ (xs_if_eq C d_V_get_4 (by decide) (xs_ldc2 C d_V_get_15 (List.mem_cons_of_mem _ tw_233) (xs_lret C d_V_get_18 hr hlk rfl rfl)) (xs_aload_n C d_V_get_7 rfl (xs_iload_n C d_V_get_8 rfl (xs_callV C (CN := "BlockVault") (T := F_V) (N := 8) d_V_get_9 (met_V_isThere l D) ⟨callB_of (ws := w_V_isThere) (rm := rm_V_isThere) 1 C.1.2.2.2.2 (gG_m tw_123) rfl rfl rfl (C.1.2.2.2.2 _ (List.mem_cons_of_mem _ tw_1)) (C.1.2.2.2.2 _ (List.mem_cons_of_mem _ tw_120)) ⟨by decide, by decide, by decide +kernel⟩ ⟨Nat.le_of_ble_eq_true rfl, Nat.le_of_ble_eq_true rfl⟩, (C.1.2.2.2.2 _ (List.mem_cons_of_mem _ tw_122)), (C.1.2.2.2.2 _ (List.mem_cons_of_mem _ ts_1))⟩ (ci := 0) rfl (xs_if_ne C d_V_get_12 (by decide) (xs_ldc2 C d_V_get_15 (List.mem_cons_of_mem _ tw_233) (xs_lret C d_V_get_18 hr hlk rfl rfl)) (xs_aload_n C d_V_get_19 rfl (xs_get C (k := 1) d_V_get_20 h_V (ci := 0) rfl (by decide) (List.mem_cons_of_mem _ tw_82) rfl (xs_iload_n C d_V_get_23 rfl (xs_aald C d_V_get_24 (xs_get C (k := 0) d_V_get_25 h_E (ci := 4) rfl (by decide) (List.mem_cons_of_mem _ tw_69) rfl (xs_get C (k := 1) d_V_get_28 h_C (ci := 1) rfl (by decide) (List.mem_cons_of_mem _ tw_142) rfl (xs_i2l C d_V_get_31 (xs_lret C d_V_get_32 hr hlk rfl rfl)))))))))))))))
theorem met_V_get (l : Launch) (D : va_G) : xm_Met l D classes ats y_V_get w_V_get rm_V_get 0 0 cp_V_get := by
  refine xm_met 0 (by decide) rfl rfl rfl (fun p e s mm args below meth c A Rh C hr hlk hnm lb => ?_)
  unfold fV_get
  split
  · rename_i h; subst h; exact sV_get_0 C hr hlk hnm
  · exact fun _ _ _ _ _ h => h.elim
theorem d_V_touch_0 : decode b_V_touch 0 = .ok (.iload_n 1, 1) := by decide +kernel
theorem d_V_touch_1 : decode b_V_touch 1 = .ok (.invokestatic 43, 3) := by decide +kernel
theorem d_V_touch_4 : decode b_V_touch 4 = .ok (.ifCond .eq 10, 3) := by decide +kernel
theorem d_V_touch_7 : decode b_V_touch 7 = .ok (.iload_n 2, 1) := by decide +kernel
theorem d_V_touch_8 : decode b_V_touch 8 = .ok (.invokestatic 47, 3) := by decide +kernel
theorem d_V_touch_11 : decode b_V_touch 11 = .ok (.ifCond .ne 5, 3) := by decide +kernel
theorem d_V_touch_14 : decode b_V_touch 14 = .ok (.iconst (-1), 1) := by decide +kernel
theorem d_V_touch_15 : decode b_V_touch 15 = .ok (.ireturn, 1) := by decide +kernel
theorem d_V_touch_16 : decode b_V_touch 16 = .ok (.aload_n 0, 1) := by decide +kernel
theorem d_V_touch_17 : decode b_V_touch 17 = .ok (.getfield 37, 3) := by decide +kernel
theorem d_V_touch_20 : decode b_V_touch 20 = .ok (.ifCond .eq 6, 3) := by decide +kernel
theorem d_V_touch_23 : decode b_V_touch 23 = .ok (.bipush (-2), 2) := by decide +kernel
theorem d_V_touch_25 : decode b_V_touch 25 = .ok (.ireturn, 1) := by decide +kernel
theorem d_V_touch_26 : decode b_V_touch 26 = .ok (.aload_n 0, 1) := by decide +kernel
theorem d_V_touch_27 : decode b_V_touch 27 = .ok (.iload_n 1, 1) := by decide +kernel
theorem d_V_touch_28 : decode b_V_touch 28 = .ok (.invokevirtual 58, 3) := by decide +kernel
theorem d_V_touch_31 : decode b_V_touch 31 = .ok (.ifCond .ne 6, 3) := by decide +kernel
theorem d_V_touch_34 : decode b_V_touch 34 = .ok (.bipush (-4), 2) := by decide +kernel
theorem d_V_touch_36 : decode b_V_touch 36 = .ok (.ireturn, 1) := by decide +kernel
theorem d_V_touch_37 : decode b_V_touch 37 = .ok (.aload_n 0, 1) := by decide +kernel
theorem d_V_touch_38 : decode b_V_touch 38 = .ok (.getfield 17, 3) := by decide +kernel
theorem d_V_touch_41 : decode b_V_touch 41 = .ok (.iload_n 1, 1) := by decide +kernel
theorem d_V_touch_42 : decode b_V_touch 42 = .ok (.aaload, 1) := by decide +kernel
theorem d_V_touch_43 : decode b_V_touch 43 = .ok (.getfield 63, 3) := by decide +kernel
theorem d_V_touch_46 : decode b_V_touch 46 = .ok (.astore_n 3, 1) := by decide +kernel
theorem d_V_touch_47 : decode b_V_touch 47 = .ok (.aload_n 0, 1) := by decide +kernel
theorem d_V_touch_48 : decode b_V_touch 48 = .ok (.iload_n 1, 1) := by decide +kernel
theorem d_V_touch_49 : decode b_V_touch 49 = .ok (.aload_n 3, 1) := by decide +kernel
theorem d_V_touch_50 : decode b_V_touch 50 = .ok (.getfield 67, 3) := by decide +kernel
theorem d_V_touch_53 : decode b_V_touch 53 = .ok (.aload_n 3, 1) := by decide +kernel
theorem d_V_touch_54 : decode b_V_touch 54 = .ok (.getfield 72, 3) := by decide +kernel
theorem d_V_touch_57 : decode b_V_touch 57 = .ok (.iload_n 2, 1) := by decide +kernel
theorem d_V_touch_58 : decode b_V_touch 58 = .ok (.invokevirtual 54, 3) := by decide +kernel
theorem d_V_touch_61 : decode b_V_touch 61 = .ok (.ireturn, 1) := by decide +kernel
-- BlockVault.touch(II)I: labels [0], loops []
abbrev rm_V_touch : Room := { frames := 5, cells := 1, slots := 7, locals := 120 }
def cV_touch_0 (X : Nat → xm_PT) (Rh : Option Value → xm_M → Prop) : xm_PT := (xo_iload 1 (xo_callS 1 0 0 cp_V_isKey (xo_if (fun x => x = 0) (xo_push (.int (-1)) (xo_iret Rh)) (xo_iload 2 (xo_callS 1 0 0 cp_V_isLife (xo_if (fun x => x = 0) (xo_push (.int (-1)) (xo_iret Rh)) (xo_aload 0 (xo_get 0 7 (xo_if (fun x => x = 0) (xo_aload 0 (xo_iload 1 (xo_callV 0 1 0 0 cp_V_isThere (xo_if (fun x => x = 0) (xo_push (.int (-4)) (xo_iret Rh)) (xo_aload 0 (xo_get 0 1 (xo_iload 1 (xo_aald ats (xo_get 4 0 (xo_astore 3 (xo_aload 0 (xo_iload 1 (xo_aload 3 (xo_get 1 1 (xo_aload 3 (xo_get 1 2 (xo_iload 2 (xo_callV 0 4 1 7 cp_V_writeRecord (xo_iret Rh))))))))))))))))))) (xo_push (.int (-2)) (xo_iret Rh)))))))))))
def fV_touch : xm_F := fun X Rh lb => if lb = 0 then cV_touch_0 X Rh else fun _ _ _ _ _ => False
def cp_V_touch : xm_CP := fun as m Rh => (lg_sl as).length ≤ 4 ∧ xm_cp fV_touch 1 7 as m Rh
theorem eV_touch_0 {X : Nat → xm_PT} {Rh : Option Value → xm_M → Prop} (hX : ∀ lb, xm_le (fV_touch X Rh lb) (X lb)) {ls : xm_L} {st : List Value} {m : xm_M} {bc bs : Nat} (h : cV_touch_0 X Rh ls st m bc bs) : X 0 ls st m bc bs := hX 0 ls st m bc bs h
set_option maxRecDepth 20000 in
set_option maxHeartbeats 4000000 in
theorem sV_touch_0 {p : Program} {l : Launch} {e : Env} {s : State} {mm : MethodId} {args : Array Value} {below : List Frame} {meth : Method} {c : Code} {D : va_G} {A : Nat → Prop} {Rh : Option Value → xm_M → Prop} (C : xm_C p s mm args c b_V_touch 4 "BlockVault" w_V_touch D classes ats A) (hr : meth.sig.returnType = (some .int)) (hlk : meth.locks = false) (hnm : meth.name = "touch") : xm_le (cV_touch_0 (xm_A p l e rm_V_touch s mm args below meth c 4 D classes A (MQ below (xm_Q D classes Rh A) args s 1 7 A)) Rh) ((xm_A p l e rm_V_touch s mm args below meth c 4 D classes A (MQ below (xm_Q D classes Rh A) args s 1 7 A)) 0) :=
  (xs_iload_n C d_V_touch_0 rfl (xs_callS C d_V_touch_1 (met_V_isKey l D) ⟨callB_of (ws := w_V_isKey) (rm := rm_V_isKey) 1 C.1.2.2.2.2 (gG_m tw_112) rfl rfl rfl (C.1.2.2.2.2 _ (List.mem_cons_of_mem _ tw_1)) (C.1.2.2.2.2 _ (List.mem_cons_of_mem _ tw_110)) ⟨by decide, by decide, by decide +kernel⟩ ⟨Nat.le_of_ble_eq_true rfl, Nat.le_of_ble_eq_true rfl⟩, C.1.2.2.2.2 _ (List.mem_cons_of_mem _ tw_111)⟩ (xs_if_eq C d_V_touch_4 (by decide) (xs_iconst C d_V_touch_14 (by decide) (xs_iret C d_V_touch_15 hr hlk rfl rfl)) (xs_iload_n C d_V_touch_7 rfl (xs_callS C d_V_touch_8 (met_V_isLife l D) ⟨callB_of (ws := w_V_isLife) (rm := rm_V_isLife) 1 C.1.2.2.2.2 (gG_m tw_115) rfl rfl rfl (C.1.2.2.2.2 _ (List.mem_cons_of_mem _ tw_1)) (C.1.2.2.2.2 _ (List.mem_cons_of_mem _ tw_113)) ⟨by decide, by decide, by decide +kernel⟩ ⟨Nat.le_of_ble_eq_true rfl, Nat.le_of_ble_eq_true rfl⟩, C.1.2.2.2.2 _ (List.mem_cons_of_mem _ tw_114)⟩ (xs_if_ne C d_V_touch_11 (by decide) (xs_iconst C d_V_touch_14 (by decide) (xs_iret C d_V_touch_15 hr hlk rfl rfl)) (xs_aload_n C d_V_touch_16 rfl (xs_get C (k := 7) d_V_touch_17 h_V (ci := 0) rfl (by decide) (List.mem_cons_of_mem _ tw_88) rfl (xs_if_eq C d_V_touch_20 (by decide) (xs_aload_n C d_V_touch_26 rfl (xs_iload_n C d_V_touch_27 rfl (xs_callV C (CN := "BlockVault") (T := F_V) (N := 8) d_V_touch_28 (met_V_isThere l D) ⟨callB_of (ws := w_V_isThere) (rm := rm_V_isThere) 1 C.1.2.2.2.2 (gG_m tw_123) rfl rfl rfl (C.1.2.2.2.2 _ (List.mem_cons_of_mem _ tw_1)) (C.1.2.2.2.2 _ (List.mem_cons_of_mem _ tw_120)) ⟨by decide, by decide, by decide +kernel⟩ ⟨Nat.le_of_ble_eq_true rfl, Nat.le_of_ble_eq_true rfl⟩, (C.1.2.2.2.2 _ (List.mem_cons_of_mem _ tw_122)), (C.1.2.2.2.2 _ (List.mem_cons_of_mem _ ts_1))⟩ (ci := 0) rfl (xs_if_ne C d_V_touch_31 (by decide) (xs_bipush C d_V_touch_34 (by decide) (xs_iret C d_V_touch_36 hr hlk rfl rfl)) (xs_aload_n C d_V_touch_37 rfl (xs_get C (k := 1) d_V_touch_38 h_V (ci := 0) rfl (by decide) (List.mem_cons_of_mem _ tw_82) rfl (xs_iload_n C d_V_touch_41 rfl (xs_aald C d_V_touch_42 (xs_get C (k := 0) d_V_touch_43 h_E (ci := 4) rfl (by decide) (List.mem_cons_of_mem _ tw_69) rfl (xs_astore_n C d_V_touch_46 rfl (by decide) (xs_aload_n C d_V_touch_47 rfl (xs_iload_n C d_V_touch_48 rfl (xs_aload_n C d_V_touch_49 rfl (xs_get C (k := 1) d_V_touch_50 h_C (ci := 1) rfl (by decide) (List.mem_cons_of_mem _ tw_142) rfl (xs_aload_n C d_V_touch_53 rfl (xs_get C (k := 2) d_V_touch_54 h_C (ci := 1) rfl (by decide) (List.mem_cons_of_mem _ tw_144) rfl (xs_iload_n C d_V_touch_57 rfl (xs_callV C (CN := "BlockVault") (T := F_V) (N := 8) d_V_touch_58 (met_V_writeRecord l D) ⟨callB_of (ws := w_V_writeRecord) (rm := rm_V_writeRecord) 4 C.1.2.2.2.2 (gG_m tw_131) rfl rfl rfl (C.1.2.2.2.2 _ (List.mem_cons_of_mem _ tw_1)) (C.1.2.2.2.2 _ (List.mem_cons_of_mem _ tw_128)) ⟨by decide, by decide, by decide +kernel⟩ ⟨Nat.le_of_ble_eq_true rfl, Nat.le_of_ble_eq_true rfl⟩, (C.1.2.2.2.2 _ (List.mem_cons_of_mem _ tw_130)), (C.1.2.2.2.2 _ (List.mem_cons_of_mem _ ts_2))⟩ (ci := 0) rfl (xs_iret C d_V_touch_61 hr hlk rfl rfl))))))))))))))))))) (xs_bipush C d_V_touch_23 (by decide) (xs_iret C d_V_touch_25 hr hlk rfl rfl)))))))))))
theorem met_V_touch (l : Launch) (D : va_G) : xm_Met l D classes ats y_V_touch w_V_touch rm_V_touch 1 7 cp_V_touch := by
  refine xm_met 0 (by decide) rfl rfl rfl (fun p e s mm args below meth c A Rh C hr hlk hnm lb => ?_)
  unfold fV_touch
  split
  · rename_i h; subst h; exact sV_touch_0 C hr hlk hnm
  · exact fun _ _ _ _ _ h => h.elim
theorem d_E_forget_0 : decode b_E_forget 0 = .ok (.aload_n 0, 1) := by decide +kernel
theorem d_E_forget_1 : decode b_E_forget 1 = .ok (.aconst_null, 1) := by decide +kernel
theorem d_E_forget_2 : decode b_E_forget 2 = .ok (.iconst (-1), 1) := by decide +kernel
theorem d_E_forget_3 : decode b_E_forget 3 = .ok (.iconst 0, 1) := by decide +kernel
theorem d_E_forget_4 : decode b_E_forget 4 = .ok (.invokevirtual 22, 3) := by decide +kernel
theorem d_E_forget_7 : decode b_E_forget 7 = .ok (.return_, 1) := by decide +kernel
-- BlockVault$Entry.forget()V: labels [0], loops []
abbrev rm_E_forget : Room := { frames := 1, cells := 0, slots := 0, locals := 23 }
def cE_forget_0 (X : Nat → xm_PT) (Rh : Option Value → xm_M → Prop) : xm_PT := (xo_aload 0 (xo_push .null (xo_push (.int (-1)) (xo_push (.int 0) (xo_callV 4 3 0 0 cp_E_point (xo_vret Rh))))))
def fE_forget : xm_F := fun X Rh lb => if lb = 0 then cE_forget_0 X Rh else fun _ _ _ _ _ => False
def cp_E_forget : xm_CP := fun as m Rh => (lg_sl as).length ≤ 1 ∧ xm_cp fE_forget 0 0 as m Rh
theorem eE_forget_0 {X : Nat → xm_PT} {Rh : Option Value → xm_M → Prop} (hX : ∀ lb, xm_le (fE_forget X Rh lb) (X lb)) {ls : xm_L} {st : List Value} {m : xm_M} {bc bs : Nat} (h : cE_forget_0 X Rh ls st m bc bs) : X 0 ls st m bc bs := hX 0 ls st m bc bs h
set_option maxRecDepth 20000 in
set_option maxHeartbeats 4000000 in
theorem sE_forget_0 {p : Program} {l : Launch} {e : Env} {s : State} {mm : MethodId} {args : Array Value} {below : List Frame} {meth : Method} {c : Code} {D : va_G} {A : Nat → Prop} {Rh : Option Value → xm_M → Prop} (C : xm_C p s mm args c b_E_forget 1 "BlockVault$Entry" w_E_forget D classes ats A) (hr : meth.sig.returnType = none) (hlk : meth.locks = false) (hnm : meth.name = "forget") : xm_le (cE_forget_0 (xm_A p l e rm_E_forget s mm args below meth c 1 D classes A (MQ below (xm_Q D classes Rh A) args s 0 0 A)) Rh) ((xm_A p l e rm_E_forget s mm args below meth c 1 D classes A (MQ below (xm_Q D classes Rh A) args s 0 0 A)) 0) :=
  (xs_aload_n C d_E_forget_0 rfl (xs_null C d_E_forget_1 (xs_iconst C d_E_forget_2 (by decide) (xs_iconst C d_E_forget_3 (by decide) (xs_callV C (CN := "BlockVault$Entry") (T := F_E) (N := 3) d_E_forget_4 (met_E_point l D) ⟨callB_of (ws := w_E_point) (rm := rm_E_point) 3 C.1.2.2.2.2 (gG_m tw_205) rfl rfl rfl (C.1.2.2.2.2 _ (List.mem_cons_of_mem _ tw_4)) (C.1.2.2.2.2 _ (List.mem_cons_of_mem _ tw_250)) ⟨by decide, by decide, by decide +kernel⟩ ⟨Nat.le_of_ble_eq_true rfl, Nat.le_of_ble_eq_true rfl⟩, (C.1.2.2.2.2 _ (List.mem_cons_of_mem _ tw_203)), (C.1.2.2.2.2 _ (List.mem_cons_of_mem _ tw_204))⟩ (ci := 4) rfl (xs_vret C d_E_forget_7 hr hlk rfl rfl))))))
theorem met_E_forget (l : Launch) (D : va_G) : xm_Met l D classes ats y_E_forget w_E_forget rm_E_forget 0 0 cp_E_forget := by
  refine xm_met 0 (by decide) rfl rfl rfl (fun p e s mm args below meth c A Rh C hr hlk hnm lb => ?_)
  unfold fE_forget
  split
  · rename_i h; subst h; exact sE_forget_0 C hr hlk hnm
  · exact fun _ _ _ _ _ h => h.elim
theorem d_V_dropEntry_0 : decode b_V_dropEntry 0 = .ok (.aload_n 0, 1) := by decide +kernel
theorem d_V_dropEntry_1 : decode b_V_dropEntry 1 = .ok (.getfield 17, 3) := by decide +kernel
theorem d_V_dropEntry_4 : decode b_V_dropEntry 4 = .ok (.iload_n 1, 1) := by decide +kernel
theorem d_V_dropEntry_5 : decode b_V_dropEntry 5 = .ok (.aaload, 1) := by decide +kernel
theorem d_V_dropEntry_6 : decode b_V_dropEntry 6 = .ok (.getfield 157, 3) := by decide +kernel
theorem d_V_dropEntry_9 : decode b_V_dropEntry 9 = .ok (.istore_n 2, 1) := by decide +kernel
theorem d_V_dropEntry_10 : decode b_V_dropEntry 10 = .ok (.aload_n 0, 1) := by decide +kernel
theorem d_V_dropEntry_11 : decode b_V_dropEntry 11 = .ok (.getfield 17, 3) := by decide +kernel
theorem d_V_dropEntry_14 : decode b_V_dropEntry 14 = .ok (.iload_n 1, 1) := by decide +kernel
theorem d_V_dropEntry_15 : decode b_V_dropEntry 15 = .ok (.aaload, 1) := by decide +kernel
theorem d_V_dropEntry_16 : decode b_V_dropEntry 16 = .ok (.invokevirtual 241, 3) := by decide +kernel
theorem d_V_dropEntry_19 : decode b_V_dropEntry 19 = .ok (.aload_n 0, 1) := by decide +kernel
theorem d_V_dropEntry_20 : decode b_V_dropEntry 20 = .ok (.iload_n 2, 1) := by decide +kernel
theorem d_V_dropEntry_21 : decode b_V_dropEntry 21 = .ok (.invokevirtual 220, 3) := by decide +kernel
theorem d_V_dropEntry_24 : decode b_V_dropEntry 24 = .ok (.return_, 1) := by decide +kernel
-- BlockVault.dropEntry(I)V: labels [0], loops []
abbrev rm_V_dropEntry : Room := { frames := 2, cells := 0, slots := 0, locals := 43 }
def cV_dropEntry_0 (X : Nat → xm_PT) (Rh : Option Value → xm_M → Prop) : xm_PT := (xo_aload 0 (xo_get 0 1 (xo_iload 1 (xo_aald ats (xo_get 4 1 (xo_istore 2 (xo_aload 0 (xo_get 0 1 (xo_iload 1 (xo_aald ats (xo_callV 4 0 0 0 cp_E_forget (xo_aload 0 (xo_iload 2 (xo_callV 0 1 0 0 cp_V_emptyIfDead (xo_vret Rh)))))))))))))))
def fV_dropEntry : xm_F := fun X Rh lb => if lb = 0 then cV_dropEntry_0 X Rh else fun _ _ _ _ _ => False
def cp_V_dropEntry : xm_CP := fun as m Rh => (lg_sl as).length ≤ 3 ∧ xm_cp fV_dropEntry 0 0 as m Rh
theorem eV_dropEntry_0 {X : Nat → xm_PT} {Rh : Option Value → xm_M → Prop} (hX : ∀ lb, xm_le (fV_dropEntry X Rh lb) (X lb)) {ls : xm_L} {st : List Value} {m : xm_M} {bc bs : Nat} (h : cV_dropEntry_0 X Rh ls st m bc bs) : X 0 ls st m bc bs := hX 0 ls st m bc bs h
set_option maxRecDepth 20000 in
set_option maxHeartbeats 4000000 in
theorem sV_dropEntry_0 {p : Program} {l : Launch} {e : Env} {s : State} {mm : MethodId} {args : Array Value} {below : List Frame} {meth : Method} {c : Code} {D : va_G} {A : Nat → Prop} {Rh : Option Value → xm_M → Prop} (C : xm_C p s mm args c b_V_dropEntry 3 "BlockVault" w_V_dropEntry D classes ats A) (hr : meth.sig.returnType = none) (hlk : meth.locks = false) (hnm : meth.name = "dropEntry") : xm_le (cV_dropEntry_0 (xm_A p l e rm_V_dropEntry s mm args below meth c 3 D classes A (MQ below (xm_Q D classes Rh A) args s 0 0 A)) Rh) ((xm_A p l e rm_V_dropEntry s mm args below meth c 3 D classes A (MQ below (xm_Q D classes Rh A) args s 0 0 A)) 0) :=
  (xs_aload_n C d_V_dropEntry_0 rfl (xs_get C (k := 1) d_V_dropEntry_1 h_V (ci := 0) rfl (by decide) (List.mem_cons_of_mem _ tw_82) rfl (xs_iload_n C d_V_dropEntry_4 rfl (xs_aald C d_V_dropEntry_5 (xs_get C (k := 1) d_V_dropEntry_6 h_E (ci := 4) rfl (by decide) (List.mem_cons_of_mem _ tw_71) rfl (xs_istore_n C d_V_dropEntry_9 rfl (by decide) (xs_aload_n C d_V_dropEntry_10 rfl (xs_get C (k := 1) d_V_dropEntry_11 h_V (ci := 0) rfl (by decide) (List.mem_cons_of_mem _ tw_82) rfl (xs_iload_n C d_V_dropEntry_14 rfl (xs_aald C d_V_dropEntry_15 (xs_callV C (CN := "BlockVault$Entry") (T := F_E) (N := 3) d_V_dropEntry_16 (met_E_forget l D) ⟨callB_of (ws := w_E_forget) (rm := rm_E_forget) 0 C.1.2.2.2.2 (gG_m tw_249) rfl rfl rfl (C.1.2.2.2.2 _ (List.mem_cons_of_mem _ tw_4)) (C.1.2.2.2.2 _ (List.mem_cons_of_mem _ tw_246)) ⟨by decide, by decide, by decide +kernel⟩ ⟨Nat.le_of_ble_eq_true rfl, Nat.le_of_ble_eq_true rfl⟩, (C.1.2.2.2.2 _ (List.mem_cons_of_mem _ tw_247)), (C.1.2.2.2.2 _ (List.mem_cons_of_mem _ tw_248))⟩ (ci := 4) rfl (xs_aload_n C d_V_dropEntry_19 rfl (xs_iload_n C d_V_dropEntry_20 rfl (xs_callV C (CN := "BlockVault") (T := F_V) (N := 8) d_V_dropEntry_21 (met_V_emptyIfDead l D) ⟨callB_of (ws := w_V_emptyIfDead) (rm := rm_V_emptyIfDead) 1 C.1.2.2.2.2 (gG_m tw_209) rfl rfl rfl (C.1.2.2.2.2 _ (List.mem_cons_of_mem _ tw_1)) (C.1.2.2.2.2 _ (List.mem_cons_of_mem _ tw_206)) ⟨by decide, by decide, by decide +kernel⟩ ⟨Nat.le_of_ble_eq_true rfl, Nat.le_of_ble_eq_true rfl⟩, (C.1.2.2.2.2 _ (List.mem_cons_of_mem _ tw_208)), (C.1.2.2.2.2 _ (List.mem_cons_of_mem _ ts_9))⟩ (ci := 0) rfl (xs_vret C d_V_dropEntry_24 hr hlk rfl rfl)))))))))))))))
theorem met_V_dropEntry (l : Launch) (D : va_G) : xm_Met l D classes ats y_V_dropEntry w_V_dropEntry rm_V_dropEntry 0 0 cp_V_dropEntry := by
  refine xm_met 0 (by decide) rfl rfl rfl (fun p e s mm args below meth c A Rh C hr hlk hnm lb => ?_)
  unfold fV_dropEntry
  split
  · rename_i h; subst h; exact sV_dropEntry_0 C hr hlk hnm
  · exact fun _ _ _ _ _ h => h.elim
theorem d_V_writeTombstone_0 : decode b_V_writeTombstone 0 = .ok (.aload_n 0, 1) := by decide +kernel
theorem d_V_writeTombstone_1 : decode b_V_writeTombstone 1 = .ok (.new 68, 3) := by decide +kernel
theorem d_V_writeTombstone_4 : decode b_V_writeTombstone 4 = .ok (.dup, 1) := by decide +kernel
theorem d_V_writeTombstone_5 : decode b_V_writeTombstone 5 = .ok (.iload_n 1, 1) := by decide +kernel
theorem d_V_writeTombstone_6 : decode b_V_writeTombstone 6 = .ok (.iconst 0, 1) := by decide +kernel
theorem d_V_writeTombstone_7 : decode b_V_writeTombstone 7 = .ok (.iconst 1, 1) := by decide +kernel
theorem d_V_writeTombstone_8 : decode b_V_writeTombstone 8 = .ok (.iconst 0, 1) := by decide +kernel
theorem d_V_writeTombstone_9 : decode b_V_writeTombstone 9 = .ok (.iconst 0, 1) := by decide +kernel
theorem d_V_writeTombstone_10 : decode b_V_writeTombstone 10 = .ok (.aload_n 0, 1) := by decide +kernel
theorem d_V_writeTombstone_11 : decode b_V_writeTombstone 11 = .ok (.getfield 25, 3) := by decide +kernel
theorem d_V_writeTombstone_14 : decode b_V_writeTombstone 14 = .ok (.iconst 1, 1) := by decide +kernel
theorem d_V_writeTombstone_15 : decode b_V_writeTombstone 15 = .ok (.invokespecial 196, 3) := by decide +kernel
theorem d_V_writeTombstone_18 : decode b_V_writeTombstone 18 = .ok (.invokevirtual 199, 3) := by decide +kernel
theorem d_V_writeTombstone_21 : decode b_V_writeTombstone 21 = .ok (.ireturn, 1) := by decide +kernel
-- BlockVault.writeTombstone(I)I: labels [0], loops []
abbrev rm_V_writeTombstone : Room := { frames := 4, cells := 1, slots := 7, locals := 93 }
def cV_writeTombstone_0 (X : Nat → xm_PT) (Rh : Option Value → xm_M → Prop) : xm_PT := (xo_aload 0 (xo_new 1 7 [.int 0, .int 0, .int 0, .int 0, .int 0, .int 0, .int 0] (xo_dup (xo_iload 1 (xo_push (.int 0) (xo_push (.int 1) (xo_push (.int 0) (xo_push (.int 0) (xo_aload 0 (xo_get 0 3 (xo_push (.int 1) (xo_callI 7 0 0 cp_C_init (xo_callV 0 1 0 0 cp_V_write (xo_iret Rh))))))))))))))
def fV_writeTombstone : xm_F := fun X Rh lb => if lb = 0 then cV_writeTombstone_0 X Rh else fun _ _ _ _ _ => False
def cp_V_writeTombstone : xm_CP := fun as m Rh => (lg_sl as).length ≤ 2 ∧ xm_cp fV_writeTombstone 1 7 as m Rh
theorem eV_writeTombstone_0 {X : Nat → xm_PT} {Rh : Option Value → xm_M → Prop} (hX : ∀ lb, xm_le (fV_writeTombstone X Rh lb) (X lb)) {ls : xm_L} {st : List Value} {m : xm_M} {bc bs : Nat} (h : cV_writeTombstone_0 X Rh ls st m bc bs) : X 0 ls st m bc bs := hX 0 ls st m bc bs h
set_option maxRecDepth 20000 in
set_option maxHeartbeats 4000000 in
theorem sV_writeTombstone_0 {p : Program} {l : Launch} {e : Env} {s : State} {mm : MethodId} {args : Array Value} {below : List Frame} {meth : Method} {c : Code} {D : va_G} {A : Nat → Prop} {Rh : Option Value → xm_M → Prop} (C : xm_C p s mm args c b_V_writeTombstone 2 "BlockVault" w_V_writeTombstone D classes ats A) (hr : meth.sig.returnType = (some .int)) (hlk : meth.locks = false) (hnm : meth.name = "writeTombstone") : xm_le (cV_writeTombstone_0 (xm_A p l e rm_V_writeTombstone s mm args below meth c 2 D classes A (MQ below (xm_Q D classes Rh A) args s 1 7 A)) Rh) ((xm_A p l e rm_V_writeTombstone s mm args below meth c 2 D classes A (MQ below (xm_Q D classes Rh A) args s 1 7 A)) 0) :=
  (xs_aload_n C d_V_writeTombstone_0 rfl (xs_new C d_V_writeTombstone_1 h_C t_C t_C_ok (ci := 1) rfl (List.mem_cons_of_mem _ tw_132) (List.mem_cons_of_mem _ tw_133) (List.mem_cons_of_mem _ tw_6) (by decide +kernel) (xs_dup C d_V_writeTombstone_4 (xs_iload_n C d_V_writeTombstone_5 rfl (xs_iconst C d_V_writeTombstone_6 (by decide) (xs_iconst C d_V_writeTombstone_7 (by decide) (xs_iconst C d_V_writeTombstone_8 (by decide) (xs_iconst C d_V_writeTombstone_9 (by decide) (xs_aload_n C d_V_writeTombstone_10 rfl (xs_get C (k := 3) d_V_writeTombstone_11 h_V (ci := 0) rfl (by decide) (List.mem_cons_of_mem _ tw_84) rfl (xs_iconst C d_V_writeTombstone_14 (by decide) (xs_callI C d_V_writeTombstone_15 (met_C_init l D) ⟨callB_of (ws := w_C_init) (rm := rm_C_init) 7 C.1.2.2.2.2 (gG_m tw_136) rfl rfl rfl (C.1.2.2.2.2 _ (List.mem_cons_of_mem _ tw_6)) (C.1.2.2.2.2 _ (List.mem_cons_of_mem _ tw_134)) ⟨by decide, by decide, by decide +kernel⟩ ⟨Nat.le_of_ble_eq_true rfl, Nat.le_of_ble_eq_true rfl⟩, rfl, (C.1.2.2.2.2 _ (List.mem_cons_of_mem _ tw_135))⟩ (xs_callV C (CN := "BlockVault") (T := F_V) (N := 8) d_V_writeTombstone_18 (met_V_write l D) ⟨callB_of (ws := w_V_write) (rm := rm_V_write) 1 C.1.2.2.2.2 (gG_m tw_173) rfl rfl rfl (C.1.2.2.2.2 _ (List.mem_cons_of_mem _ tw_1)) (C.1.2.2.2.2 _ (List.mem_cons_of_mem _ tw_170)) ⟨by decide, by decide, by decide +kernel⟩ ⟨Nat.le_of_ble_eq_true rfl, Nat.le_of_ble_eq_true rfl⟩, (C.1.2.2.2.2 _ (List.mem_cons_of_mem _ tw_172)), (C.1.2.2.2.2 _ (List.mem_cons_of_mem _ ts_3))⟩ (ci := 0) rfl (xs_iret C d_V_writeTombstone_21 hr hlk rfl rfl))))))))))))))
theorem met_V_writeTombstone (l : Launch) (D : va_G) : xm_Met l D classes ats y_V_writeTombstone w_V_writeTombstone rm_V_writeTombstone 1 7 cp_V_writeTombstone := by
  refine xm_met 0 (by decide) rfl rfl rfl (fun p e s mm args below meth c A Rh C hr hlk hnm lb => ?_)
  unfold fV_writeTombstone
  split
  · rename_i h; subst h; exact sV_writeTombstone_0 C hr hlk hnm
  · exact fun _ _ _ _ _ h => h.elim
theorem d_V_remove_0 : decode b_V_remove 0 = .ok (.iload_n 1, 1) := by decide +kernel
theorem d_V_remove_1 : decode b_V_remove 1 = .ok (.invokestatic 43, 3) := by decide +kernel
theorem d_V_remove_4 : decode b_V_remove 4 = .ok (.ifCond .ne 5, 3) := by decide +kernel
theorem d_V_remove_7 : decode b_V_remove 7 = .ok (.iconst (-1), 1) := by decide +kernel
theorem d_V_remove_8 : decode b_V_remove 8 = .ok (.ireturn, 1) := by decide +kernel
theorem d_V_remove_9 : decode b_V_remove 9 = .ok (.aload_n 0, 1) := by decide +kernel
theorem d_V_remove_10 : decode b_V_remove 10 = .ok (.getfield 37, 3) := by decide +kernel
theorem d_V_remove_13 : decode b_V_remove 13 = .ok (.ifCond .eq 6, 3) := by decide +kernel
theorem d_V_remove_16 : decode b_V_remove 16 = .ok (.bipush (-2), 2) := by decide +kernel
theorem d_V_remove_18 : decode b_V_remove 18 = .ok (.ireturn, 1) := by decide +kernel
theorem d_V_remove_19 : decode b_V_remove 19 = .ok (.aload_n 0, 1) := by decide +kernel
theorem d_V_remove_20 : decode b_V_remove 20 = .ok (.iload_n 1, 1) := by decide +kernel
theorem d_V_remove_21 : decode b_V_remove 21 = .ok (.invokevirtual 58, 3) := by decide +kernel
theorem d_V_remove_24 : decode b_V_remove 24 = .ok (.ifCond .ne 6, 3) := by decide +kernel
theorem d_V_remove_27 : decode b_V_remove 27 = .ok (.bipush (-4), 2) := by decide +kernel
theorem d_V_remove_29 : decode b_V_remove 29 = .ok (.ireturn, 1) := by decide +kernel
theorem d_V_remove_30 : decode b_V_remove 30 = .ok (.iload_n 2, 1) := by decide +kernel
theorem d_V_remove_31 : decode b_V_remove 31 = .ok (.ifCond .ne 10, 3) := by decide +kernel
theorem d_V_remove_34 : decode b_V_remove 34 = .ok (.aload_n 0, 1) := by decide +kernel
theorem d_V_remove_35 : decode b_V_remove 35 = .ok (.iload_n 1, 1) := by decide +kernel
theorem d_V_remove_36 : decode b_V_remove 36 = .ok (.invokevirtual 75, 3) := by decide +kernel
theorem d_V_remove_39 : decode b_V_remove 39 = .ok (.iconst 1, 1) := by decide +kernel
theorem d_V_remove_40 : decode b_V_remove 40 = .ok (.ireturn, 1) := by decide +kernel
theorem d_V_remove_41 : decode b_V_remove 41 = .ok (.aload_n 0, 1) := by decide +kernel
theorem d_V_remove_42 : decode b_V_remove 42 = .ok (.iload_n 1, 1) := by decide +kernel
theorem d_V_remove_43 : decode b_V_remove 43 = .ok (.invokevirtual 79, 3) := by decide +kernel
theorem d_V_remove_46 : decode b_V_remove 46 = .ok (.istore_n 3, 1) := by decide +kernel
theorem d_V_remove_47 : decode b_V_remove 47 = .ok (.iload_n 3, 1) := by decide +kernel
theorem d_V_remove_48 : decode b_V_remove 48 = .ok (.ifCond .ge 7, 3) := by decide +kernel
theorem d_V_remove_51 : decode b_V_remove 51 = .ok (.iload_n 3, 1) := by decide +kernel
theorem d_V_remove_52 : decode b_V_remove 52 = .ok (.goto 4, 3) := by decide +kernel
theorem d_V_remove_55 : decode b_V_remove 55 = .ok (.iconst 1, 1) := by decide +kernel
theorem d_V_remove_56 : decode b_V_remove 56 = .ok (.ireturn, 1) := by decide +kernel
-- BlockVault.remove(IZ)I: labels [0], loops []
abbrev rm_V_remove : Room := { frames := 5, cells := 1, slots := 7, locals := 114 }
def cV_remove_0 (X : Nat → xm_PT) (Rh : Option Value → xm_M → Prop) : xm_PT := (xo_iload 1 (xo_callS 1 0 0 cp_V_isKey (xo_if (fun x => x = 0) (xo_push (.int (-1)) (xo_iret Rh)) (xo_aload 0 (xo_get 0 7 (xo_if (fun x => x = 0) (xo_aload 0 (xo_iload 1 (xo_callV 0 1 0 0 cp_V_isThere (xo_if (fun x => x = 0) (xo_push (.int (-4)) (xo_iret Rh)) (xo_iload 2 (xo_if (fun x => x = 0) (xo_aload 0 (xo_iload 1 (xo_callV 0 1 0 0 cp_V_dropEntry (xo_push (.int 1) (xo_iret Rh))))) (xo_aload 0 (xo_iload 1 (xo_callV 0 1 1 7 cp_V_writeTombstone (xo_istore 3 (xo_iload 3 (xo_if (fun x => 0 ≤ x) (xo_push (.int 1) (xo_iret Rh)) (xo_iload 3 (xo_iret Rh)))))))))))))) (xo_push (.int (-2)) (xo_iret Rh))))))))
def fV_remove : xm_F := fun X Rh lb => if lb = 0 then cV_remove_0 X Rh else fun _ _ _ _ _ => False
def cp_V_remove : xm_CP := fun as m Rh => (lg_sl as).length ≤ 4 ∧ xm_cp fV_remove 1 7 as m Rh
theorem eV_remove_0 {X : Nat → xm_PT} {Rh : Option Value → xm_M → Prop} (hX : ∀ lb, xm_le (fV_remove X Rh lb) (X lb)) {ls : xm_L} {st : List Value} {m : xm_M} {bc bs : Nat} (h : cV_remove_0 X Rh ls st m bc bs) : X 0 ls st m bc bs := hX 0 ls st m bc bs h
set_option maxRecDepth 20000 in
set_option maxHeartbeats 4000000 in
theorem sV_remove_0 {p : Program} {l : Launch} {e : Env} {s : State} {mm : MethodId} {args : Array Value} {below : List Frame} {meth : Method} {c : Code} {D : va_G} {A : Nat → Prop} {Rh : Option Value → xm_M → Prop} (C : xm_C p s mm args c b_V_remove 4 "BlockVault" w_V_remove D classes ats A) (hr : meth.sig.returnType = (some .int)) (hlk : meth.locks = false) (hnm : meth.name = "remove") : xm_le (cV_remove_0 (xm_A p l e rm_V_remove s mm args below meth c 4 D classes A (MQ below (xm_Q D classes Rh A) args s 1 7 A)) Rh) ((xm_A p l e rm_V_remove s mm args below meth c 4 D classes A (MQ below (xm_Q D classes Rh A) args s 1 7 A)) 0) :=
  (xs_iload_n C d_V_remove_0 rfl (xs_callS C d_V_remove_1 (met_V_isKey l D) ⟨callB_of (ws := w_V_isKey) (rm := rm_V_isKey) 1 C.1.2.2.2.2 (gG_m tw_112) rfl rfl rfl (C.1.2.2.2.2 _ (List.mem_cons_of_mem _ tw_1)) (C.1.2.2.2.2 _ (List.mem_cons_of_mem _ tw_110)) ⟨by decide, by decide, by decide +kernel⟩ ⟨Nat.le_of_ble_eq_true rfl, Nat.le_of_ble_eq_true rfl⟩, C.1.2.2.2.2 _ (List.mem_cons_of_mem _ tw_111)⟩ (xs_if_ne C d_V_remove_4 (by decide) (xs_iconst C d_V_remove_7 (by decide) (xs_iret C d_V_remove_8 hr hlk rfl rfl)) (xs_aload_n C d_V_remove_9 rfl (xs_get C (k := 7) d_V_remove_10 h_V (ci := 0) rfl (by decide) (List.mem_cons_of_mem _ tw_88) rfl (xs_if_eq C d_V_remove_13 (by decide) (xs_aload_n C d_V_remove_19 rfl (xs_iload_n C d_V_remove_20 rfl (xs_callV C (CN := "BlockVault") (T := F_V) (N := 8) d_V_remove_21 (met_V_isThere l D) ⟨callB_of (ws := w_V_isThere) (rm := rm_V_isThere) 1 C.1.2.2.2.2 (gG_m tw_123) rfl rfl rfl (C.1.2.2.2.2 _ (List.mem_cons_of_mem _ tw_1)) (C.1.2.2.2.2 _ (List.mem_cons_of_mem _ tw_120)) ⟨by decide, by decide, by decide +kernel⟩ ⟨Nat.le_of_ble_eq_true rfl, Nat.le_of_ble_eq_true rfl⟩, (C.1.2.2.2.2 _ (List.mem_cons_of_mem _ tw_122)), (C.1.2.2.2.2 _ (List.mem_cons_of_mem _ ts_1))⟩ (ci := 0) rfl (xs_if_ne C d_V_remove_24 (by decide) (xs_bipush C d_V_remove_27 (by decide) (xs_iret C d_V_remove_29 hr hlk rfl rfl)) (xs_iload_n C d_V_remove_30 rfl (xs_if_ne C d_V_remove_31 (by decide) (xs_aload_n C d_V_remove_34 rfl (xs_iload_n C d_V_remove_35 rfl (xs_callV C (CN := "BlockVault") (T := F_V) (N := 8) d_V_remove_36 (met_V_dropEntry l D) ⟨callB_of (ws := w_V_dropEntry) (rm := rm_V_dropEntry) 1 C.1.2.2.2.2 (gG_m tw_245) rfl rfl rfl (C.1.2.2.2.2 _ (List.mem_cons_of_mem _ tw_1)) (C.1.2.2.2.2 _ (List.mem_cons_of_mem _ tw_242)) ⟨by decide, by decide, by decide +kernel⟩ ⟨Nat.le_of_ble_eq_true rfl, Nat.le_of_ble_eq_true rfl⟩, (C.1.2.2.2.2 _ (List.mem_cons_of_mem _ tw_244)), (C.1.2.2.2.2 _ (List.mem_cons_of_mem _ ts_13))⟩ (ci := 0) rfl (xs_iconst C d_V_remove_39 (by decide) (xs_iret C d_V_remove_40 hr hlk rfl rfl))))) (xs_aload_n C d_V_remove_41 rfl (xs_iload_n C d_V_remove_42 rfl (xs_callV C (CN := "BlockVault") (T := F_V) (N := 8) d_V_remove_43 (met_V_writeTombstone l D) ⟨callB_of (ws := w_V_writeTombstone) (rm := rm_V_writeTombstone) 1 C.1.2.2.2.2 (gG_m tw_254) rfl rfl rfl (C.1.2.2.2.2 _ (List.mem_cons_of_mem _ tw_1)) (C.1.2.2.2.2 _ (List.mem_cons_of_mem _ tw_251)) ⟨by decide, by decide, by decide +kernel⟩ ⟨Nat.le_of_ble_eq_true rfl, Nat.le_of_ble_eq_true rfl⟩, (C.1.2.2.2.2 _ (List.mem_cons_of_mem _ tw_253)), (C.1.2.2.2.2 _ (List.mem_cons_of_mem _ ts_14))⟩ (ci := 0) rfl (xs_istore_n C d_V_remove_46 rfl (by decide) (xs_iload_n C d_V_remove_47 rfl (xs_if_ge C d_V_remove_48 (by decide) (xs_iconst C d_V_remove_55 (by decide) (xs_iret C d_V_remove_56 hr hlk rfl rfl)) (xs_iload_n C d_V_remove_51 rfl (xs_goto C d_V_remove_52 (by decide) (xs_iret C d_V_remove_56 hr hlk rfl rfl))))))))))))))) (xs_bipush C d_V_remove_16 (by decide) (xs_iret C d_V_remove_18 hr hlk rfl rfl))))))))
theorem met_V_remove (l : Launch) (D : va_G) : xm_Met l D classes ats y_V_remove w_V_remove rm_V_remove 1 7 cp_V_remove := by
  refine xm_met 0 (by decide) rfl rfl rfl (fun p e s mm args below meth c A Rh C hr hlk hnm lb => ?_)
  unfold fV_remove
  split
  · rename_i h; subst h; exact sV_remove_0 C hr hlk hnm
  · exact fun _ _ _ _ _ h => h.elim
theorem d_V_firstToExpire_0 : decode b_V_firstToExpire 0 = .ok (.iconst (-1), 1) := by decide +kernel
theorem d_V_firstToExpire_1 : decode b_V_firstToExpire 1 = .ok (.istore_n 1, 1) := by decide +kernel
theorem d_V_firstToExpire_2 : decode b_V_firstToExpire 2 = .ok (.iconst 0, 1) := by decide +kernel
theorem d_V_firstToExpire_3 : decode b_V_firstToExpire 3 = .ok (.istore_n 2, 1) := by decide +kernel
theorem d_V_firstToExpire_4 : decode b_V_firstToExpire 4 = .ok (.iload_n 2, 1) := by decide +kernel
theorem d_V_firstToExpire_5 : decode b_V_firstToExpire 5 = .ok (.bipush 16, 2) := by decide +kernel
theorem d_V_firstToExpire_7 : decode b_V_firstToExpire 7 = .ok (.if_icmp .ge 66, 3) := by decide +kernel
theorem d_V_firstToExpire_10 : decode b_V_firstToExpire 10 = .ok (.aload_n 0, 1) := by decide +kernel
theorem d_V_firstToExpire_11 : decode b_V_firstToExpire 11 = .ok (.iload_n 2, 1) := by decide +kernel
theorem d_V_firstToExpire_12 : decode b_V_firstToExpire 12 = .ok (.invokevirtual 58, 3) := by decide +kernel
theorem d_V_firstToExpire_15 : decode b_V_firstToExpire 15 = .ok (.ifCond .eq 52, 3) := by decide +kernel
theorem d_V_firstToExpire_18 : decode b_V_firstToExpire 18 = .ok (.aload_n 0, 1) := by decide +kernel
theorem d_V_firstToExpire_19 : decode b_V_firstToExpire 19 = .ok (.getfield 17, 3) := by decide +kernel
theorem d_V_firstToExpire_22 : decode b_V_firstToExpire 22 = .ok (.iload_n 2, 1) := by decide +kernel
theorem d_V_firstToExpire_23 : decode b_V_firstToExpire 23 = .ok (.aaload, 1) := by decide +kernel
theorem d_V_firstToExpire_24 : decode b_V_firstToExpire 24 = .ok (.getfield 63, 3) := by decide +kernel
theorem d_V_firstToExpire_27 : decode b_V_firstToExpire 27 = .ok (.getfield 151, 3) := by decide +kernel
theorem d_V_firstToExpire_30 : decode b_V_firstToExpire 30 = .ok (.ifCond .le 37, 3) := by decide +kernel
theorem d_V_firstToExpire_33 : decode b_V_firstToExpire 33 = .ok (.iload_n 1, 1) := by decide +kernel
theorem d_V_firstToExpire_34 : decode b_V_firstToExpire 34 = .ok (.iconst (-1), 1) := by decide +kernel
theorem d_V_firstToExpire_35 : decode b_V_firstToExpire 35 = .ok (.if_icmp .eq 30, 3) := by decide +kernel
theorem d_V_firstToExpire_38 : decode b_V_firstToExpire 38 = .ok (.aload_n 0, 1) := by decide +kernel
theorem d_V_firstToExpire_39 : decode b_V_firstToExpire 39 = .ok (.getfield 17, 3) := by decide +kernel
theorem d_V_firstToExpire_42 : decode b_V_firstToExpire 42 = .ok (.iload_n 2, 1) := by decide +kernel
theorem d_V_firstToExpire_43 : decode b_V_firstToExpire 43 = .ok (.aaload, 1) := by decide +kernel
theorem d_V_firstToExpire_44 : decode b_V_firstToExpire 44 = .ok (.getfield 63, 3) := by decide +kernel
theorem d_V_firstToExpire_47 : decode b_V_firstToExpire 47 = .ok (.getfield 151, 3) := by decide +kernel
theorem d_V_firstToExpire_50 : decode b_V_firstToExpire 50 = .ok (.aload_n 0, 1) := by decide +kernel
theorem d_V_firstToExpire_51 : decode b_V_firstToExpire 51 = .ok (.getfield 17, 3) := by decide +kernel
theorem d_V_firstToExpire_54 : decode b_V_firstToExpire 54 = .ok (.iload_n 1, 1) := by decide +kernel
theorem d_V_firstToExpire_55 : decode b_V_firstToExpire 55 = .ok (.aaload, 1) := by decide +kernel
theorem d_V_firstToExpire_56 : decode b_V_firstToExpire 56 = .ok (.getfield 63, 3) := by decide +kernel
theorem d_V_firstToExpire_59 : decode b_V_firstToExpire 59 = .ok (.getfield 151, 3) := by decide +kernel
theorem d_V_firstToExpire_62 : decode b_V_firstToExpire 62 = .ok (.if_icmp .ge 5, 3) := by decide +kernel
theorem d_V_firstToExpire_65 : decode b_V_firstToExpire 65 = .ok (.iload_n 2, 1) := by decide +kernel
theorem d_V_firstToExpire_66 : decode b_V_firstToExpire 66 = .ok (.istore_n 1, 1) := by decide +kernel
theorem d_V_firstToExpire_67 : decode b_V_firstToExpire 67 = .ok (.iinc 2 1, 3) := by decide +kernel
theorem d_V_firstToExpire_70 : decode b_V_firstToExpire 70 = .ok (.goto (-66), 3) := by decide +kernel
theorem d_V_firstToExpire_73 : decode b_V_firstToExpire 73 = .ok (.iload_n 1, 1) := by decide +kernel
theorem d_V_firstToExpire_74 : decode b_V_firstToExpire 74 = .ok (.ireturn, 1) := by decide +kernel
-- BlockVault.firstToExpire()I: labels [0, 4], loops [4]
abbrev rm_V_firstToExpire : Room := { frames := 2, cells := 0, slots := 0, locals := 43 }
def cV_firstToExpire_4 (X : Nat → xm_PT) (Rh : Option Value → xm_M → Prop) : xm_PT := (xo_iload 2 (xo_push (.int (nI 16)) (xo_icmp (fun x y => y ≤ x) (xo_iload 1 (xo_iret Rh)) (xo_aload 0 (xo_iload 2 (xo_callV 0 1 0 0 cp_V_isThere (xo_if (fun x => x = 0) (xo_iinc 2 1 (xo_jmp [0, 1, 2] (X 4))) (xo_aload 0 (xo_get 0 1 (xo_iload 2 (xo_aald ats (xo_get 4 0 (xo_get 1 4 (xo_if (fun x => x ≤ 0) (xo_iinc 2 1 (xo_jmp [0, 1, 2] (X 4))) (xo_iload 1 (xo_push (.int (-1)) (xo_icmp (fun x y => x = y) (xo_iload 2 (xo_istore 1 (xo_iinc 2 1 (xo_jmp [0, 1, 2] (X 4))))) (xo_aload 0 (xo_get 0 1 (xo_iload 2 (xo_aald ats (xo_get 4 0 (xo_get 1 4 (xo_aload 0 (xo_get 0 1 (xo_iload 1 (xo_aald ats (xo_get 4 0 (xo_get 1 4 (xo_icmp (fun x y => y ≤ x) (xo_iinc 2 1 (xo_jmp [0, 1, 2] (X 4))) (xo_iload 2 (xo_istore 1 (xo_iinc 2 1 (xo_jmp [0, 1, 2] (X 4)))))))))))))))))))))))))))))))))))
def cV_firstToExpire_0 (X : Nat → xm_PT) (Rh : Option Value → xm_M → Prop) : xm_PT := (xo_push (.int (-1)) (xo_istore 1 (xo_push (.int 0) (xo_istore 2 (xo_jmp [0, 1, 2] (X 4))))))
def fV_firstToExpire : xm_F := fun X Rh lb => if lb = 0 then cV_firstToExpire_0 X Rh else (if lb = 4 then cV_firstToExpire_4 X Rh else fun _ _ _ _ _ => False)
def cp_V_firstToExpire : xm_CP := fun as m Rh => (lg_sl as).length ≤ 3 ∧ xm_cp fV_firstToExpire 0 0 as m Rh
theorem eV_firstToExpire_0 {X : Nat → xm_PT} {Rh : Option Value → xm_M → Prop} (hX : ∀ lb, xm_le (fV_firstToExpire X Rh lb) (X lb)) {ls : xm_L} {st : List Value} {m : xm_M} {bc bs : Nat} (h : cV_firstToExpire_0 X Rh ls st m bc bs) : X 0 ls st m bc bs := hX 0 ls st m bc bs h
theorem eV_firstToExpire_4 {X : Nat → xm_PT} {Rh : Option Value → xm_M → Prop} (hX : ∀ lb, xm_le (fV_firstToExpire X Rh lb) (X lb)) {ls : xm_L} {st : List Value} {m : xm_M} {bc bs : Nat} (h : cV_firstToExpire_4 X Rh ls st m bc bs) : X 4 ls st m bc bs := hX 4 ls st m bc bs h
set_option maxRecDepth 20000 in
set_option maxHeartbeats 4000000 in
theorem sV_firstToExpire_4 {p : Program} {l : Launch} {e : Env} {s : State} {mm : MethodId} {args : Array Value} {below : List Frame} {meth : Method} {c : Code} {D : va_G} {A : Nat → Prop} {Rh : Option Value → xm_M → Prop} (C : xm_C p s mm args c b_V_firstToExpire 3 "BlockVault" w_V_firstToExpire D classes ats A) (hr : meth.sig.returnType = (some .int)) (hlk : meth.locks = false) (hnm : meth.name = "firstToExpire") : xm_le (cV_firstToExpire_4 (xm_A p l e rm_V_firstToExpire s mm args below meth c 3 D classes A (MQ below (xm_Q D classes Rh A) args s 0 0 A)) Rh) ((xm_A p l e rm_V_firstToExpire s mm args below meth c 3 D classes A (MQ below (xm_Q D classes Rh A) args s 0 0 A)) 4) :=
  (xs_iload_n C d_V_firstToExpire_4 rfl (xs_bipush C d_V_firstToExpire_5 (by decide) (xs_icmp_ge C d_V_firstToExpire_7 (by decide) (xs_iload_n C d_V_firstToExpire_73 rfl (xs_iret C d_V_firstToExpire_74 hr hlk rfl rfl)) (xs_aload_n C d_V_firstToExpire_10 rfl (xs_iload_n C d_V_firstToExpire_11 rfl (xs_callV C (CN := "BlockVault") (T := F_V) (N := 8) d_V_firstToExpire_12 (met_V_isThere l D) ⟨callB_of (ws := w_V_isThere) (rm := rm_V_isThere) 1 C.1.2.2.2.2 (gG_m tw_123) rfl rfl rfl (C.1.2.2.2.2 _ (List.mem_cons_of_mem _ tw_1)) (C.1.2.2.2.2 _ (List.mem_cons_of_mem _ tw_120)) ⟨by decide, by decide, by decide +kernel⟩ ⟨Nat.le_of_ble_eq_true rfl, Nat.le_of_ble_eq_true rfl⟩, (C.1.2.2.2.2 _ (List.mem_cons_of_mem _ tw_122)), (C.1.2.2.2.2 _ (List.mem_cons_of_mem _ ts_1))⟩ (ci := 0) rfl (xs_if_eq C d_V_firstToExpire_15 (by decide) (xs_iinc C d_V_firstToExpire_67 (by decide) (by decide) (xs_goto C d_V_firstToExpire_70 (by decide) (xs_jmp (fun _ _ _ _ _ h => h)))) (xs_aload_n C d_V_firstToExpire_18 rfl (xs_get C (k := 1) d_V_firstToExpire_19 h_V (ci := 0) rfl (by decide) (List.mem_cons_of_mem _ tw_82) rfl (xs_iload_n C d_V_firstToExpire_22 rfl (xs_aald C d_V_firstToExpire_23 (xs_get C (k := 0) d_V_firstToExpire_24 h_E (ci := 4) rfl (by decide) (List.mem_cons_of_mem _ tw_69) rfl (xs_get C (k := 4) d_V_firstToExpire_27 h_C (ci := 1) rfl (by decide) (List.mem_cons_of_mem _ tw_149) rfl (xs_if_le C d_V_firstToExpire_30 (by decide) (xs_iinc C d_V_firstToExpire_67 (by decide) (by decide) (xs_goto C d_V_firstToExpire_70 (by decide) (xs_jmp (fun _ _ _ _ _ h => h)))) (xs_iload_n C d_V_firstToExpire_33 rfl (xs_iconst C d_V_firstToExpire_34 (by decide) (xs_icmp_eq C d_V_firstToExpire_35 (by decide) (xs_iload_n C d_V_firstToExpire_65 rfl (xs_istore_n C d_V_firstToExpire_66 rfl (by decide) (xs_iinc C d_V_firstToExpire_67 (by decide) (by decide) (xs_goto C d_V_firstToExpire_70 (by decide) (xs_jmp (fun _ _ _ _ _ h => h)))))) (xs_aload_n C d_V_firstToExpire_38 rfl (xs_get C (k := 1) d_V_firstToExpire_39 h_V (ci := 0) rfl (by decide) (List.mem_cons_of_mem _ tw_82) rfl (xs_iload_n C d_V_firstToExpire_42 rfl (xs_aald C d_V_firstToExpire_43 (xs_get C (k := 0) d_V_firstToExpire_44 h_E (ci := 4) rfl (by decide) (List.mem_cons_of_mem _ tw_69) rfl (xs_get C (k := 4) d_V_firstToExpire_47 h_C (ci := 1) rfl (by decide) (List.mem_cons_of_mem _ tw_149) rfl (xs_aload_n C d_V_firstToExpire_50 rfl (xs_get C (k := 1) d_V_firstToExpire_51 h_V (ci := 0) rfl (by decide) (List.mem_cons_of_mem _ tw_82) rfl (xs_iload_n C d_V_firstToExpire_54 rfl (xs_aald C d_V_firstToExpire_55 (xs_get C (k := 0) d_V_firstToExpire_56 h_E (ci := 4) rfl (by decide) (List.mem_cons_of_mem _ tw_69) rfl (xs_get C (k := 4) d_V_firstToExpire_59 h_C (ci := 1) rfl (by decide) (List.mem_cons_of_mem _ tw_149) rfl (xs_icmp_ge C d_V_firstToExpire_62 (by decide) (xs_iinc C d_V_firstToExpire_67 (by decide) (by decide) (xs_goto C d_V_firstToExpire_70 (by decide) (xs_jmp (fun _ _ _ _ _ h => h)))) (xs_iload_n C d_V_firstToExpire_65 rfl (xs_istore_n C d_V_firstToExpire_66 rfl (by decide) (xs_iinc C d_V_firstToExpire_67 (by decide) (by decide) (xs_goto C d_V_firstToExpire_70 (by decide) (xs_jmp (fun _ _ _ _ _ h => h))))))))))))))))))))))))))))))))))))
set_option maxRecDepth 20000 in
set_option maxHeartbeats 4000000 in
theorem sV_firstToExpire_0 {p : Program} {l : Launch} {e : Env} {s : State} {mm : MethodId} {args : Array Value} {below : List Frame} {meth : Method} {c : Code} {D : va_G} {A : Nat → Prop} {Rh : Option Value → xm_M → Prop} (C : xm_C p s mm args c b_V_firstToExpire 3 "BlockVault" w_V_firstToExpire D classes ats A) (hr : meth.sig.returnType = (some .int)) (hlk : meth.locks = false) (hnm : meth.name = "firstToExpire") : xm_le (cV_firstToExpire_0 (xm_A p l e rm_V_firstToExpire s mm args below meth c 3 D classes A (MQ below (xm_Q D classes Rh A) args s 0 0 A)) Rh) ((xm_A p l e rm_V_firstToExpire s mm args below meth c 3 D classes A (MQ below (xm_Q D classes Rh A) args s 0 0 A)) 0) :=
  (xs_iconst C d_V_firstToExpire_0 (by decide) (xs_istore_n C d_V_firstToExpire_1 rfl (by decide) (xs_iconst C d_V_firstToExpire_2 (by decide) (xs_istore_n C d_V_firstToExpire_3 rfl (by decide) (xs_jmp (fun _ _ _ _ _ h => h))))))
theorem met_V_firstToExpire (l : Launch) (D : va_G) : xm_Met l D classes ats y_V_firstToExpire w_V_firstToExpire rm_V_firstToExpire 0 0 cp_V_firstToExpire := by
  refine xm_met 0 (by decide) rfl rfl rfl (fun p e s mm args below meth c A Rh C hr hlk hnm lb => ?_)
  unfold fV_firstToExpire
  split
  · rename_i h; subst h; exact sV_firstToExpire_0 C hr hlk hnm
  split
  · rename_i h; subst h; exact sV_firstToExpire_4 C hr hlk hnm
  · exact fun _ _ _ _ _ h => h.elim
theorem d_V_evict_0 : decode b_V_evict 0 = .ok (.iload_n 1, 1) := by decide +kernel
theorem d_V_evict_1 : decode b_V_evict 1 = .ok (.iconst 1, 1) := by decide +kernel
theorem d_V_evict_2 : decode b_V_evict 2 = .ok (.if_icmp .lt 9, 3) := by decide +kernel
theorem d_V_evict_5 : decode b_V_evict 5 = .ok (.iload_n 1, 1) := by decide +kernel
theorem d_V_evict_6 : decode b_V_evict 6 = .ok (.bipush 16, 2) := by decide +kernel
theorem d_V_evict_8 : decode b_V_evict 8 = .ok (.if_icmp .le 5, 3) := by decide +kernel
theorem d_V_evict_11 : decode b_V_evict 11 = .ok (.iconst (-1), 1) := by decide +kernel
theorem d_V_evict_12 : decode b_V_evict 12 = .ok (.ireturn, 1) := by decide +kernel
theorem d_V_evict_13 : decode b_V_evict 13 = .ok (.aload_n 0, 1) := by decide +kernel
theorem d_V_evict_14 : decode b_V_evict 14 = .ok (.getfield 37, 3) := by decide +kernel
theorem d_V_evict_17 : decode b_V_evict 17 = .ok (.ifCond .eq 6, 3) := by decide +kernel
theorem d_V_evict_20 : decode b_V_evict 20 = .ok (.bipush (-2), 2) := by decide +kernel
theorem d_V_evict_22 : decode b_V_evict 22 = .ok (.ireturn, 1) := by decide +kernel
theorem d_V_evict_23 : decode b_V_evict 23 = .ok (.iconst 0, 1) := by decide +kernel
theorem d_V_evict_24 : decode b_V_evict 24 = .ok (.istore_n 2, 1) := by decide +kernel
theorem d_V_evict_25 : decode b_V_evict 25 = .ok (.iload_n 2, 1) := by decide +kernel
theorem d_V_evict_26 : decode b_V_evict 26 = .ok (.iload_n 1, 1) := by decide +kernel
theorem d_V_evict_27 : decode b_V_evict 27 = .ok (.if_icmp .ge 30, 3) := by decide +kernel
theorem d_V_evict_30 : decode b_V_evict 30 = .ok (.aload_n 0, 1) := by decide +kernel
theorem d_V_evict_31 : decode b_V_evict 31 = .ok (.invokevirtual 83, 3) := by decide +kernel
theorem d_V_evict_34 : decode b_V_evict 34 = .ok (.istore_n 3, 1) := by decide +kernel
theorem d_V_evict_35 : decode b_V_evict 35 = .ok (.iload_n 3, 1) := by decide +kernel
theorem d_V_evict_36 : decode b_V_evict 36 = .ok (.iconst (-1), 1) := by decide +kernel
theorem d_V_evict_37 : decode b_V_evict 37 = .ok (.if_icmp .eq 20, 3) := by decide +kernel
theorem d_V_evict_40 : decode b_V_evict 40 = .ok (.aload_n 0, 1) := by decide +kernel
theorem d_V_evict_41 : decode b_V_evict 41 = .ok (.iload_n 3, 1) := by decide +kernel
theorem d_V_evict_42 : decode b_V_evict 42 = .ok (.invokevirtual 79, 3) := by decide +kernel
theorem d_V_evict_45 : decode b_V_evict 45 = .ok (.ifCond .ge 6, 3) := by decide +kernel
theorem d_V_evict_48 : decode b_V_evict 48 = .ok (.goto 9, 3) := by decide +kernel
theorem d_V_evict_51 : decode b_V_evict 51 = .ok (.iinc 2 1, 3) := by decide +kernel
theorem d_V_evict_54 : decode b_V_evict 54 = .ok (.goto (-29), 3) := by decide +kernel
theorem d_V_evict_57 : decode b_V_evict 57 = .ok (.iload_n 2, 1) := by decide +kernel
theorem d_V_evict_58 : decode b_V_evict 58 = .ok (.ireturn, 1) := by decide +kernel
-- BlockVault.evict(I)I: labels [0, 25], loops [25]
abbrev rm_V_evict : Room := { frames := 5, cells := 16, slots := 112, locals := 114 }
def cV_evict_25 (X : Nat → xm_PT) (Rh : Option Value → xm_M → Prop) : xm_PT := (xo_iload 2 (xo_iload 1 (xo_icmp (fun x y => y ≤ x) (xo_iload 2 (xo_iret Rh)) (xo_aload 0 (xo_callV 0 0 0 0 cp_V_firstToExpire (xo_istore 3 (xo_iload 3 (xo_push (.int (-1)) (xo_icmp (fun x y => x = y) (xo_iload 2 (xo_iret Rh)) (xo_aload 0 (xo_iload 3 (xo_callV 0 1 1 7 cp_V_writeTombstone (xo_if (fun x => 0 ≤ x) (xo_iinc 2 1 (xo_jmp [0, 1, 2] (X 25))) (xo_iload 2 (xo_iret Rh)))))))))))))))
def cV_evict_0 (X : Nat → xm_PT) (Rh : Option Value → xm_M → Prop) : xm_PT := (xo_iload 1 (xo_push (.int 1) (xo_icmp (fun x y => x < y) (xo_push (.int (-1)) (xo_iret Rh)) (xo_iload 1 (xo_push (.int (nI 16)) (xo_icmp (fun x y => x ≤ y) (xo_aload 0 (xo_get 0 7 (xo_if (fun x => x = 0) (xo_push (.int 0) (xo_istore 2 (xo_jmp [0, 1, 2] (X 25)))) (xo_push (.int (-2)) (xo_iret Rh))))) (xo_push (.int (-1)) (xo_iret Rh))))))))
def fV_evict : xm_F := fun X Rh lb => if lb = 0 then cV_evict_0 X Rh else (if lb = 25 then cV_evict_25 X Rh else fun _ _ _ _ _ => False)
def cp_V_evict : xm_CP := fun as m Rh => (lg_sl as).length ≤ 4 ∧ xm_cp fV_evict 16 112 as m Rh
theorem eV_evict_0 {X : Nat → xm_PT} {Rh : Option Value → xm_M → Prop} (hX : ∀ lb, xm_le (fV_evict X Rh lb) (X lb)) {ls : xm_L} {st : List Value} {m : xm_M} {bc bs : Nat} (h : cV_evict_0 X Rh ls st m bc bs) : X 0 ls st m bc bs := hX 0 ls st m bc bs h
theorem eV_evict_25 {X : Nat → xm_PT} {Rh : Option Value → xm_M → Prop} (hX : ∀ lb, xm_le (fV_evict X Rh lb) (X lb)) {ls : xm_L} {st : List Value} {m : xm_M} {bc bs : Nat} (h : cV_evict_25 X Rh ls st m bc bs) : X 25 ls st m bc bs := hX 25 ls st m bc bs h
set_option maxRecDepth 20000 in
set_option maxHeartbeats 4000000 in
theorem sV_evict_25 {p : Program} {l : Launch} {e : Env} {s : State} {mm : MethodId} {args : Array Value} {below : List Frame} {meth : Method} {c : Code} {D : va_G} {A : Nat → Prop} {Rh : Option Value → xm_M → Prop} (C : xm_C p s mm args c b_V_evict 4 "BlockVault" w_V_evict D classes ats A) (hr : meth.sig.returnType = (some .int)) (hlk : meth.locks = false) (hnm : meth.name = "evict") : xm_le (cV_evict_25 (xm_A p l e rm_V_evict s mm args below meth c 4 D classes A (MQ below (xm_Q D classes Rh A) args s 16 112 A)) Rh) ((xm_A p l e rm_V_evict s mm args below meth c 4 D classes A (MQ below (xm_Q D classes Rh A) args s 16 112 A)) 25) :=
  (xs_iload_n C d_V_evict_25 rfl (xs_iload_n C d_V_evict_26 rfl (xs_icmp_ge C d_V_evict_27 (by decide) (xs_iload_n C d_V_evict_57 rfl (xs_iret C d_V_evict_58 hr hlk rfl rfl)) (xs_aload_n C d_V_evict_30 rfl (xs_callV C (CN := "BlockVault") (T := F_V) (N := 8) d_V_evict_31 (met_V_firstToExpire l D) ⟨callB_of (ws := w_V_firstToExpire) (rm := rm_V_firstToExpire) 0 C.1.2.2.2.2 (gG_m tw_262) rfl rfl rfl (C.1.2.2.2.2 _ (List.mem_cons_of_mem _ tw_1)) (C.1.2.2.2.2 _ (List.mem_cons_of_mem _ tw_259)) ⟨by decide, by decide, by decide +kernel⟩ ⟨Nat.le_of_ble_eq_true rfl, Nat.le_of_ble_eq_true rfl⟩, (C.1.2.2.2.2 _ (List.mem_cons_of_mem _ tw_261)), (C.1.2.2.2.2 _ (List.mem_cons_of_mem _ ts_15))⟩ (ci := 0) rfl (xs_istore_n C d_V_evict_34 rfl (by decide) (xs_iload_n C d_V_evict_35 rfl (xs_iconst C d_V_evict_36 (by decide) (xs_icmp_eq C d_V_evict_37 (by decide) (xs_iload_n C d_V_evict_57 rfl (xs_iret C d_V_evict_58 hr hlk rfl rfl)) (xs_aload_n C d_V_evict_40 rfl (xs_iload_n C d_V_evict_41 rfl (xs_callV C (CN := "BlockVault") (T := F_V) (N := 8) d_V_evict_42 (met_V_writeTombstone l D) ⟨callB_of (ws := w_V_writeTombstone) (rm := rm_V_writeTombstone) 1 C.1.2.2.2.2 (gG_m tw_254) rfl rfl rfl (C.1.2.2.2.2 _ (List.mem_cons_of_mem _ tw_1)) (C.1.2.2.2.2 _ (List.mem_cons_of_mem _ tw_251)) ⟨by decide, by decide, by decide +kernel⟩ ⟨Nat.le_of_ble_eq_true rfl, Nat.le_of_ble_eq_true rfl⟩, (C.1.2.2.2.2 _ (List.mem_cons_of_mem _ tw_253)), (C.1.2.2.2.2 _ (List.mem_cons_of_mem _ ts_14))⟩ (ci := 0) rfl (xs_if_ge C d_V_evict_45 (by decide) (xs_iinc C d_V_evict_51 (by decide) (by decide) (xs_goto C d_V_evict_54 (by decide) (xs_jmp (fun _ _ _ _ _ h => h)))) (xs_goto C d_V_evict_48 (by decide) (xs_iload_n C d_V_evict_57 rfl (xs_iret C d_V_evict_58 hr hlk rfl rfl))))))))))))))))
set_option maxRecDepth 20000 in
set_option maxHeartbeats 4000000 in
theorem sV_evict_0 {p : Program} {l : Launch} {e : Env} {s : State} {mm : MethodId} {args : Array Value} {below : List Frame} {meth : Method} {c : Code} {D : va_G} {A : Nat → Prop} {Rh : Option Value → xm_M → Prop} (C : xm_C p s mm args c b_V_evict 4 "BlockVault" w_V_evict D classes ats A) (hr : meth.sig.returnType = (some .int)) (hlk : meth.locks = false) (hnm : meth.name = "evict") : xm_le (cV_evict_0 (xm_A p l e rm_V_evict s mm args below meth c 4 D classes A (MQ below (xm_Q D classes Rh A) args s 16 112 A)) Rh) ((xm_A p l e rm_V_evict s mm args below meth c 4 D classes A (MQ below (xm_Q D classes Rh A) args s 16 112 A)) 0) :=
  (xs_iload_n C d_V_evict_0 rfl (xs_iconst C d_V_evict_1 (by decide) (xs_icmp_lt C d_V_evict_2 (by decide) (xs_iconst C d_V_evict_11 (by decide) (xs_iret C d_V_evict_12 hr hlk rfl rfl)) (xs_iload_n C d_V_evict_5 rfl (xs_bipush C d_V_evict_6 (by decide) (xs_icmp_le C d_V_evict_8 (by decide) (xs_aload_n C d_V_evict_13 rfl (xs_get C (k := 7) d_V_evict_14 h_V (ci := 0) rfl (by decide) (List.mem_cons_of_mem _ tw_88) rfl (xs_if_eq C d_V_evict_17 (by decide) (xs_iconst C d_V_evict_23 (by decide) (xs_istore_n C d_V_evict_24 rfl (by decide) (xs_jmp (fun _ _ _ _ _ h => h)))) (xs_bipush C d_V_evict_20 (by decide) (xs_iret C d_V_evict_22 hr hlk rfl rfl))))) (xs_iconst C d_V_evict_11 (by decide) (xs_iret C d_V_evict_12 hr hlk rfl rfl))))))))
theorem met_V_evict (l : Launch) (D : va_G) : xm_Met l D classes ats y_V_evict w_V_evict rm_V_evict 16 112 cp_V_evict := by
  refine xm_met 0 (by decide) rfl rfl rfl (fun p e s mm args below meth c A Rh C hr hlk hnm lb => ?_)
  unfold fV_evict
  split
  · rename_i h; subst h; exact sV_evict_0 C hr hlk hnm
  split
  · rename_i h; subst h; exact sV_evict_25 C hr hlk hnm
  · exact fun _ _ _ _ _ h => h.elim
