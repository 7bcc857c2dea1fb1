theorem d_V_tick_0 : decode b_V_tick 0 = .ok (.iload_n 1, 1) := by decide +kernel
theorem d_V_tick_1 : decode b_V_tick 1 = .ok (.ifCond .lt 10, 3) := by decide +kernel
theorem d_V_tick_4 : decode b_V_tick 4 = .ok (.iload_n 1, 1) := by decide +kernel
theorem d_V_tick_5 : decode b_V_tick 5 = .ok (.sipush 1000, 3) := by decide +kernel
theorem d_V_tick_8 : decode b_V_tick 8 = .ok (.if_icmp .le 5, 3) := by decide +kernel
theorem d_V_tick_11 : decode b_V_tick 11 = .ok (.iconst (-1), 1) := by decide +kernel
theorem d_V_tick_12 : decode b_V_tick 12 = .ok (.ireturn, 1) := by decide +kernel
theorem d_V_tick_13 : decode b_V_tick 13 = .ok (.aload_n 0, 1) := by decide +kernel
theorem d_V_tick_14 : decode b_V_tick 14 = .ok (.dup, 1) := by decide +kernel
theorem d_V_tick_15 : decode b_V_tick 15 = .ok (.getfield 21, 3) := by decide +kernel
theorem d_V_tick_18 : decode b_V_tick 18 = .ok (.iload_n 1, 1) := by decide +kernel
theorem d_V_tick_19 : decode b_V_tick 19 = .ok (.iadd, 1) := by decide +kernel
theorem d_V_tick_20 : decode b_V_tick 20 = .ok (.putfield 21, 3) := by decide +kernel
theorem d_V_tick_23 : decode b_V_tick 23 = .ok (.aload_n 0, 1) := by decide +kernel
theorem d_V_tick_24 : decode b_V_tick 24 = .ok (.getfield 21, 3) := by decide +kernel
theorem d_V_tick_27 : decode b_V_tick 27 = .ok (.ireturn, 1) := by decide +kernel
-- BlockVault.tick(I)I: labels [0], loops []
abbrev rm_V_tick : Room := { frames := 0, cells := 0, slots := 0, locals := 0 }
def cV_tick_0 (X : Nat → xm_PT) (Rh : Option Value → xm_M → Prop) : xm_PT := (xo_iload 1 (xo_if (fun x => x < 0) (xo_push (.int (-1)) (xo_iret Rh)) (xo_iload 1 (xo_push (.int (nI 1000)) (xo_icmp (fun x y => x ≤ y) (xo_aload 0 (xo_dup (xo_get 0 2 (xo_iload 1 (xo_ibin (fun x y => x + y) (xo_put 0 2 .int (xo_aload 0 (xo_get 0 2 (xo_iret Rh))))))))) (xo_push (.int (-1)) (xo_iret Rh)))))))
def fV_tick : xm_F := fun X Rh lb => if lb = 0 then cV_tick_0 X Rh else fun _ _ _ _ _ => False
def cp_V_tick : xm_CP := fun as m Rh => (lg_sl as).length ≤ 2 ∧ xm_cp fV_tick 0 0 as m Rh
theorem eV_tick_0 {X : Nat → xm_PT} {Rh : Option Value → xm_M → Prop} (hX : ∀ lb, xm_le (fV_tick X Rh lb) (X lb)) {ls : xm_L} {st : List Value} {m : xm_M} {bc bs : Nat} (h : cV_tick_0 X Rh ls st m bc bs) : X 0 ls st m bc bs := hX 0 ls st m bc bs h
set_option maxRecDepth 20000 in
set_option maxHeartbeats 4000000 in
theorem sV_tick_0 {p : Program} {l : Launch} {e : Env} {s : State} {mm : MethodId} {args : Array Value} {below : List Frame} {meth : Method} {c : Code} {D : va_G} {A : Nat → Prop} {Rh : Option Value → xm_M → Prop} (C : xm_C p s mm args c b_V_tick 2 "BlockVault" w_V_tick D classes ats A) (hr : meth.sig.returnType = (some .int)) (hlk : meth.locks = false) (hnm : meth.name = "tick") : xm_le (cV_tick_0 (xm_A p l e rm_V_tick s mm args below meth c 2 D classes A (MQ below (xm_Q D classes Rh A) args s 0 0 A)) Rh) ((xm_A p l e rm_V_tick s mm args below meth c 2 D classes A (MQ below (xm_Q D classes Rh A) args s 0 0 A)) 0) :=
  (xs_iload_n C d_V_tick_0 rfl (xs_if_lt C d_V_tick_1 (by decide) (xs_iconst C d_V_tick_11 (by decide) (xs_iret C d_V_tick_12 hr hlk rfl rfl)) (xs_iload_n C d_V_tick_4 rfl (xs_sipush C d_V_tick_5 (by decide) (xs_icmp_le C d_V_tick_8 (by decide) (xs_aload_n C d_V_tick_13 rfl (xs_dup C d_V_tick_14 (xs_get C (k := 2) d_V_tick_15 h_V (ci := 0) rfl (by decide) (List.mem_cons_of_mem _ tw_83) rfl (xs_iload_n C d_V_tick_18 rfl (xs_iadd C d_V_tick_19 (xs_put C (k := 2) d_V_tick_20 h_V t_V t_V_ok n_V (ci := 0) rfl (by decide) (List.mem_cons_of_mem _ tw_83) rfl rfl (by decide +kernel) (xs_aload_n C d_V_tick_23 rfl (xs_get C (k := 2) d_V_tick_24 h_V (ci := 0) rfl (by decide) (List.mem_cons_of_mem _ tw_83) rfl (xs_iret C d_V_tick_27 hr hlk rfl rfl))))))))) (xs_iconst C d_V_tick_11 (by decide) (xs_iret C d_V_tick_12 hr hlk rfl rfl)))))))
theorem met_V_tick (l : Launch) (D : va_G) : xm_Met l D classes ats y_V_tick w_V_tick rm_V_tick 0 0 cp_V_tick := by
  refine xm_met 0 (by decide) rfl rfl rfl (fun p e s mm args below meth c A Rh C hr hlk hnm lb => ?_)
  unfold fV_tick
  split
  · rename_i h; subst h; exact sV_tick_0 C hr hlk hnm
  · exact fun _ _ _ _ _ h => h.elim
theorem d_R_hasOther_0 : decode b_R_hasOther 0 = .ok (.iconst 0, 1) := by decide +kernel
theorem d_R_hasOther_1 : decode b_R_hasOther 1 = .ok (.istore_n 2, 1) := by decide +kernel
theorem d_R_hasOther_2 : decode b_R_hasOther 2 = .ok (.iload_n 2, 1) := by decide +kernel
theorem d_R_hasOther_3 : decode b_R_hasOther 3 = .ok (.aload_n 0, 1) := by decide +kernel
theorem d_R_hasOther_4 : decode b_R_hasOther 4 = .ok (.getfield 17, 3) := by decide +kernel
theorem d_R_hasOther_7 : decode b_R_hasOther 7 = .ok (.if_icmp .ge 43, 3) := by decide +kernel
theorem d_R_hasOther_10 : decode b_R_hasOther 10 = .ok (.aload_n 0, 1) := by decide +kernel
theorem d_R_hasOther_11 : decode b_R_hasOther 11 = .ok (.getfield 11, 3) := by decide +kernel
theorem d_R_hasOther_14 : decode b_R_hasOther 14 = .ok (.iload_n 2, 1) := by decide +kernel
theorem d_R_hasOther_15 : decode b_R_hasOther 15 = .ok (.aaload, 1) := by decide +kernel
theorem d_R_hasOther_16 : decode b_R_hasOther 16 = .ok (.getfield 40, 3) := by decide +kernel
theorem d_R_hasOther_19 : decode b_R_hasOther 19 = .ok (.aload_n 1, 1) := by decide +kernel
theorem d_R_hasOther_20 : decode b_R_hasOther 20 = .ok (.getfield 40, 3) := by decide +kernel
theorem d_R_hasOther_23 : decode b_R_hasOther 23 = .ok (.if_icmp .ne 21, 3) := by decide +kernel
theorem d_R_hasOther_26 : decode b_R_hasOther 26 = .ok (.aload_n 0, 1) := by decide +kernel
theorem d_R_hasOther_27 : decode b_R_hasOther 27 = .ok (.getfield 11, 3) := by decide +kernel
theorem d_R_hasOther_30 : decode b_R_hasOther 30 = .ok (.iload_n 2, 1) := by decide +kernel
theorem d_R_hasOther_31 : decode b_R_hasOther 31 = .ok (.aaload, 1) := by decide +kernel
theorem d_R_hasOther_32 : decode b_R_hasOther 32 = .ok (.getfield 31, 3) := by decide +kernel
theorem d_R_hasOther_35 : decode b_R_hasOther 35 = .ok (.aload_n 1, 1) := by decide +kernel
theorem d_R_hasOther_36 : decode b_R_hasOther 36 = .ok (.getfield 31, 3) := by decide +kernel
theorem d_R_hasOther_39 : decode b_R_hasOther 39 = .ok (.if_icmp .eq 5, 3) := by decide +kernel
theorem d_R_hasOther_42 : decode b_R_hasOther 42 = .ok (.iconst 1, 1) := by decide +kernel
theorem d_R_hasOther_43 : decode b_R_hasOther 43 = .ok (.ireturn, 1) := by decide +kernel
theorem d_R_hasOther_44 : decode b_R_hasOther 44 = .ok (.iinc 2 1, 3) := by decide +kernel
theorem d_R_hasOther_47 : decode b_R_hasOther 47 = .ok (.goto (-45), 3) := by decide +kernel
theorem d_R_hasOther_50 : decode b_R_hasOther 50 = .ok (.iconst 0, 1) := by decide +kernel
theorem d_R_hasOther_51 : decode b_R_hasOther 51 = .ok (.ireturn, 1) := by decide +kernel
-- BlockVault$Row.hasOther(LBlockVault$Copy;)Z: labels [0, 2], loops [2]
abbrev rm_R_hasOther : Room := { frames := 0, cells := 0, slots := 0, locals := 0 }
def cR_hasOther_2 (X : Nat → xm_PT) (Rh : Option Value → xm_M → Prop) : xm_PT := (xo_iload 2 (xo_aload 0 (xo_get 2 1 (xo_icmp (fun x y => y ≤ x) (xo_push (.int 0) (xo_zret Rh)) (xo_aload 0 (xo_get 2 0 (xo_iload 2 (xo_aald ats (xo_get 1 0 (xo_aload 1 (xo_get 1 0 (xo_icmp (fun x y => x = y) (xo_aload 0 (xo_get 2 0 (xo_iload 2 (xo_aald ats (xo_get 1 5 (xo_aload 1 (xo_get 1 5 (xo_icmp (fun x y => x = y) (xo_iinc 2 1 (xo_jmp [0, 1, 2] (X 2))) (xo_push (.int 1) (xo_zret Rh)))))))))) (xo_iinc 2 1 (xo_jmp [0, 1, 2] (X 2)))))))))))))))
def cR_hasOther_0 (X : Nat → xm_PT) (Rh : Option Value → xm_M → Prop) : xm_PT := (xo_push (.int 0) (xo_istore 2 (xo_jmp [0, 1, 2] (X 2))))
def fR_hasOther : xm_F := fun X Rh lb => if lb = 0 then cR_hasOther_0 X Rh else (if lb = 2 then cR_hasOther_2 X Rh else fun _ _ _ _ _ => False)
def cp_R_hasOther : xm_CP := fun as m Rh => (lg_sl as).length ≤ 3 ∧ xm_cp fR_hasOther 0 0 as m Rh
theorem eR_hasOther_0 {X : Nat → xm_PT} {Rh : Option Value → xm_M → Prop} (hX : ∀ lb, xm_le (fR_hasOther X Rh lb) (X lb)) {ls : xm_L} {st : List Value} {m : xm_M} {bc bs : Nat} (h : cR_hasOther_0 X Rh ls st m bc bs) : X 0 ls st m bc bs := hX 0 ls st m bc bs h
theorem eR_hasOther_2 {X : Nat → xm_PT} {Rh : Option Value → xm_M → Prop} (hX : ∀ lb, xm_le (fR_hasOther X Rh lb) (X lb)) {ls : xm_L} {st : List Value} {m : xm_M} {bc bs : Nat} (h : cR_hasOther_2 X Rh ls st m bc bs) : X 2 ls st m bc bs := hX 2 ls st m bc bs h
set_option maxRecDepth 20000 in
set_option maxHeartbeats 4000000 in
theorem sR_hasOther_2 {p : Program} {l : Launch} {e : Env} {s : State} {mm : MethodId} {args : Array Value} {below : List Frame} {meth : Method} {c : Code} {D : va_G} {A : Nat → Prop} {Rh : Option Value → xm_M → Prop} (C : xm_C p s mm args c b_R_hasOther 3 "BlockVault$Row" w_R_hasOther D classes ats A) (hr : meth.sig.returnType = (some .boolean)) (hlk : meth.locks = false) (hnm : meth.name = "hasOther") : xm_le (cR_hasOther_2 (xm_A p l e rm_R_hasOther s mm args below meth c 3 D classes A (MQ below (xm_Q D classes Rh A) args s 0 0 A)) Rh) ((xm_A p l e rm_R_hasOther s mm args below meth c 3 D classes A (MQ below (xm_Q D classes Rh A) args s 0 0 A)) 2) :=
  (xs_iload_n C d_R_hasOther_2 rfl (xs_aload_n C d_R_hasOther_3 rfl (xs_get C (k := 1) d_R_hasOther_4 h_R (ci := 2) rfl (by decide) (List.mem_cons_of_mem _ tw_35) rfl (xs_icmp_ge C d_R_hasOther_7 (by decide) (xs_iconst C d_R_hasOther_50 (by decide) (xs_zret C d_R_hasOther_51 hr hlk rfl rfl)) (xs_aload_n C d_R_hasOther_10 rfl (xs_get C (k := 0) d_R_hasOther_11 h_R (ci := 2) rfl (by decide) (List.mem_cons_of_mem _ tw_34) rfl (xs_iload_n C d_R_hasOther_14 rfl (xs_aald C d_R_hasOther_15 (xs_get C (k := 0) d_R_hasOther_16 h_C (ci := 1) rfl (by decide) (List.mem_cons_of_mem _ tw_139) rfl (xs_aload_n C d_R_hasOther_19 rfl (xs_get C (k := 0) d_R_hasOther_20 h_C (ci := 1) rfl (by decide) (List.mem_cons_of_mem _ tw_139) rfl (xs_icmp_ne C d_R_hasOther_23 (by decide) (xs_aload_n C d_R_hasOther_26 rfl (xs_get C (k := 0) d_R_hasOther_27 h_R (ci := 2) rfl (by decide) (List.mem_cons_of_mem _ tw_34) rfl (xs_iload_n C d_R_hasOther_30 rfl (xs_aald C d_R_hasOther_31 (xs_get C (k := 5) d_R_hasOther_32 h_C (ci := 1) rfl (by decide) (List.mem_cons_of_mem _ tw_151) rfl (xs_aload_n C d_R_hasOther_35 rfl (xs_get C (k := 5) d_R_hasOther_36 h_C (ci := 1) rfl (by decide) (List.mem_cons_of_mem _ tw_151) rfl (xs_icmp_eq C d_R_hasOther_39 (by decide) (xs_iinc C d_R_hasOther_44 (by decide) (by decide) (xs_goto C d_R_hasOther_47 (by decide) (xs_jmp (fun _ _ _ _ _ h => h)))) (xs_iconst C d_R_hasOther_42 (by decide) (xs_zret C d_R_hasOther_43 hr hlk rfl rfl)))))))))) (xs_iinc C d_R_hasOther_44 (by decide) (by decide) (xs_goto C d_R_hasOther_47 (by decide) (xs_jmp (fun _ _ _ _ _ h => h))))))))))))))))
set_option maxRecDepth 20000 in
set_option maxHeartbeats 4000000 in
theorem sR_hasOther_0 {p : Program} {l : Launch} {e : Env} {s : State} {mm : MethodId} {args : Array Value} {below : List Frame} {meth : Method} {c : Code} {D : va_G} {A : Nat → Prop} {Rh : Option Value → xm_M → Prop} (C : xm_C p s mm args c b_R_hasOther 3 "BlockVault$Row" w_R_hasOther D classes ats A) (hr : meth.sig.returnType = (some .boolean)) (hlk : meth.locks = false) (hnm : meth.name = "hasOther") : xm_le (cR_hasOther_0 (xm_A p l e rm_R_hasOther s mm args below meth c 3 D classes A (MQ below (xm_Q D classes Rh A) args s 0 0 A)) Rh) ((xm_A p l e rm_R_hasOther s mm args below meth c 3 D classes A (MQ below (xm_Q D classes Rh A) args s 0 0 A)) 0) :=
  (xs_iconst C d_R_hasOther_0 (by decide) (xs_istore_n C d_R_hasOther_1 rfl (by decide) (xs_jmp (fun _ _ _ _ _ h => h))))
theorem met_R_hasOther (l : Launch) (D : va_G) : xm_Met l D classes ats y_R_hasOther w_R_hasOther rm_R_hasOther 0 0 cp_R_hasOther := by
  refine xm_met 0 (by decide) rfl rfl rfl (fun p e s mm args below meth c A Rh C hr hlk hnm lb => ?_)
  unfold fR_hasOther
  split
  · rename_i h; subst h; exact sR_hasOther_0 C hr hlk hnm
  split
  · rename_i h; subst h; exact sR_hasOther_2 C hr hlk hnm
  · exact fun _ _ _ _ _ h => h.elim
theorem d_V_hidesAnother_0 : decode b_V_hidesAnother 0 = .ok (.iconst 0, 1) := by decide +kernel
theorem d_V_hidesAnother_1 : decode b_V_hidesAnother 1 = .ok (.istore_n 2, 1) := by decide +kernel
theorem d_V_hidesAnother_2 : decode b_V_hidesAnother 2 = .ok (.iload_n 2, 1) := by decide +kernel
theorem d_V_hidesAnother_3 : decode b_V_hidesAnother 3 = .ok (.bipush 8, 2) := by decide +kernel
theorem d_V_hidesAnother_5 : decode b_V_hidesAnother 5 = .ok (.if_icmp .ge 43, 3) := by decide +kernel
theorem d_V_hidesAnother_8 : decode b_V_hidesAnother 8 = .ok (.aload_n 0, 1) := by decide +kernel
theorem d_V_hidesAnother_9 : decode b_V_hidesAnother 9 = .ok (.getfield 11, 3) := by decide +kernel
theorem d_V_hidesAnother_12 : decode b_V_hidesAnother 12 = .ok (.iload_n 2, 1) := by decide +kernel
theorem d_V_hidesAnother_13 : decode b_V_hidesAnother 13 = .ok (.aaload, 1) := by decide +kernel
theorem d_V_hidesAnother_14 : decode b_V_hidesAnother 14 = .ok (.getfield 111, 3) := by decide +kernel
theorem d_V_hidesAnother_17 : decode b_V_hidesAnother 17 = .ok (.aload_n 1, 1) := by decide +kernel
theorem d_V_hidesAnother_18 : decode b_V_hidesAnother 18 = .ok (.invokevirtual 248, 3) := by decide +kernel
theorem d_V_hidesAnother_21 : decode b_V_hidesAnother 21 = .ok (.ifCond .ne 19, 3) := by decide +kernel
theorem d_V_hidesAnother_24 : decode b_V_hidesAnother 24 = .ok (.aload_n 0, 1) := by decide +kernel
theorem d_V_hidesAnother_25 : decode b_V_hidesAnother 25 = .ok (.getfield 11, 3) := by decide +kernel
theorem d_V_hidesAnother_28 : decode b_V_hidesAnother 28 = .ok (.iload_n 2, 1) := by decide +kernel
theorem d_V_hidesAnother_29 : decode b_V_hidesAnother 29 = .ok (.aaload, 1) := by decide +kernel
theorem d_V_hidesAnother_30 : decode b_V_hidesAnother 30 = .ok (.getfield 120, 3) := by decide +kernel
theorem d_V_hidesAnother_33 : decode b_V_hidesAnother 33 = .ok (.aload_n 1, 1) := by decide +kernel
theorem d_V_hidesAnother_34 : decode b_V_hidesAnother 34 = .ok (.invokevirtual 248, 3) := by decide +kernel
theorem d_V_hidesAnother_37 : decode b_V_hidesAnother 37 = .ok (.ifCond .eq 5, 3) := by decide +kernel
theorem d_V_hidesAnother_40 : decode b_V_hidesAnother 40 = .ok (.iconst 1, 1) := by decide +kernel
theorem d_V_hidesAnother_41 : decode b_V_hidesAnother 41 = .ok (.ireturn, 1) := by decide +kernel
theorem d_V_hidesAnother_42 : decode b_V_hidesAnother 42 = .ok (.iinc 2 1, 3) := by decide +kernel
theorem d_V_hidesAnother_45 : decode b_V_hidesAnother 45 = .ok (.goto (-43), 3) := by decide +kernel
theorem d_V_hidesAnother_48 : decode b_V_hidesAnother 48 = .ok (.iconst 0, 1) := by decide +kernel
theorem d_V_hidesAnother_49 : decode b_V_hidesAnother 49 = .ok (.ireturn, 1) := by decide +kernel
-- BlockVault.hidesAnother(LBlockVault$Copy;)Z: labels [0, 2], loops [2]
abbrev rm_V_hidesAnother : Room := { frames := 1, cells := 0, slots := 0, locals := 22 }
def cV_hidesAnother_2 (X : Nat → xm_PT) (Rh : Option Value → xm_M → Prop) : xm_PT := (xo_iload 2 (xo_push (.int (nI 8)) (xo_icmp (fun x y => y ≤ x) (xo_push (.int 0) (xo_zret Rh)) (xo_aload 0 (xo_get 0 0 (xo_iload 2 (xo_aald ats (xo_get 3 0 (xo_aload 1 (xo_callV 2 1 0 0 cp_R_hasOther (xo_if (fun x => x = 0) (xo_aload 0 (xo_get 0 0 (xo_iload 2 (xo_aald ats (xo_get 3 1 (xo_aload 1 (xo_callV 2 1 0 0 cp_R_hasOther (xo_if (fun x => x = 0) (xo_iinc 2 1 (xo_jmp [0, 1, 2] (X 2))) (xo_push (.int 1) (xo_zret Rh)))))))))) (xo_push (.int 1) (xo_zret Rh)))))))))))))
def cV_hidesAnother_0 (X : Nat → xm_PT) (Rh : Option Value → xm_M → Prop) : xm_PT := (xo_push (.int 0) (xo_istore 2 (xo_jmp [0, 1, 2] (X 2))))
def fV_hidesAnother : xm_F := fun X Rh lb => if lb = 0 then cV_hidesAnother_0 X Rh else (if lb = 2 then cV_hidesAnother_2 X Rh else fun _ _ _ _ _ => False)
def cp_V_hidesAnother : xm_CP := fun as m Rh => (lg_sl as).length ≤ 3 ∧ xm_cp fV_hidesAnother 0 0 as m Rh
theorem eV_hidesAnother_0 {X : Nat → xm_PT} {Rh : Option Value → xm_M → Prop} (hX : ∀ lb, xm_le (fV_hidesAnother X Rh lb) (X lb)) {ls : xm_L} {st : List Value} {m : xm_M} {bc bs : Nat} (h : cV_hidesAnother_0 X Rh ls st m bc bs) : X 0 ls st m bc bs := hX 0 ls st m bc bs h
theorem eV_hidesAnother_2 {X : Nat → xm_PT} {Rh : Option Value → xm_M → Prop} (hX : ∀ lb, xm_le (fV_hidesAnother X Rh lb) (X lb)) {ls : xm_L} {st : List Value} {m : xm_M} {bc bs : Nat} (h : cV_hidesAnother_2 X Rh ls st m bc bs) : X 2 ls st m bc bs := hX 2 ls st m bc bs h
set_option maxRecDepth 20000 in
set_option maxHeartbeats 4000000 in
theorem sV_hidesAnother_2 {p : Program} {l : Launch} {e : Env} {s : State} {mm : MethodId} {args : Array Value} {below : List Frame} {meth : Method} {c : Code} {D : va_G} {A : Nat → Prop} {Rh : Option Value → xm_M → Prop} (C : xm_C p s mm args c b_V_hidesAnother 3 "BlockVault" w_V_hidesAnother D classes ats A) (hr : meth.sig.returnType = (some .boolean)) (hlk : meth.locks = false) (hnm : meth.name = "hidesAnother") : xm_le (cV_hidesAnother_2 (xm_A p l e rm_V_hidesAnother s mm args below meth c 3 D classes A (MQ below (xm_Q D classes Rh A) args s 0 0 A)) Rh) ((xm_A p l e rm_V_hidesAnother s mm args below meth c 3 D classes A (MQ below (xm_Q D classes Rh A) args s 0 0 A)) 2) :=
  (xs_iload_n C d_V_hidesAnother_2 rfl (xs_bipush C d_V_hidesAnother_3 (by decide) (xs_icmp_ge C d_V_hidesAnother_5 (by decide) (xs_iconst C d_V_hidesAnother_48 (by decide) (xs_zret C d_V_hidesAnother_49 hr hlk rfl rfl)) (xs_aload_n C d_V_hidesAnother_8 rfl (xs_get C (k := 0) d_V_hidesAnother_9 h_V (ci := 0) rfl (by decide) (List.mem_cons_of_mem _ tw_81) rfl (xs_iload_n C d_V_hidesAnother_12 rfl (xs_aald C d_V_hidesAnother_13 (xs_get C (k := 0) d_V_hidesAnother_14 h_B (ci := 3) rfl (by decide) (List.mem_cons_of_mem _ tw_43) rfl (xs_aload_n C d_V_hidesAnother_17 rfl (xs_callV C (CN := "BlockVault$Row") (T := F_R) (N := 2) d_V_hidesAnother_18 (met_R_hasOther l D) ⟨callB_of (ws := w_R_hasOther) (rm := rm_R_hasOther) 1 C.1.2.2.2.2 (gG_m tw_282) rfl rfl rfl (C.1.2.2.2.2 _ (List.mem_cons_of_mem _ tw_3)) (C.1.2.2.2.2 _ (List.mem_cons_of_mem _ tw_279)) ⟨by decide, by decide, by decide +kernel⟩ ⟨Nat.le_of_ble_eq_true rfl, Nat.le_of_ble_eq_true rfl⟩, (C.1.2.2.2.2 _ (List.mem_cons_of_mem _ tw_280)), (C.1.2.2.2.2 _ (List.mem_cons_of_mem _ tw_281))⟩ (ci := 2) rfl (xs_if_ne C d_V_hidesAnother_21 (by decide) (xs_aload_n C d_V_hidesAnother_24 rfl (xs_get C (k := 0) d_V_hidesAnother_25 h_V (ci := 0) rfl (by decide) (List.mem_cons_of_mem _ tw_81) rfl (xs_iload_n C d_V_hidesAnother_28 rfl (xs_aald C d_V_hidesAnother_29 (xs_get C (k := 1) d_V_hidesAnother_30 h_B (ci := 3) rfl (by decide) (List.mem_cons_of_mem _ tw_45) rfl (xs_aload_n C d_V_hidesAnother_33 rfl (xs_callV C (CN := "BlockVault$Row") (T := F_R) (N := 2) d_V_hidesAnother_34 (met_R_hasOther l D) ⟨callB_of (ws := w_R_hasOther) (rm := rm_R_hasOther) 1 C.1.2.2.2.2 (gG_m tw_282) rfl rfl rfl (C.1.2.2.2.2 _ (List.mem_cons_of_mem _ tw_3)) (C.1.2.2.2.2 _ (List.mem_cons_of_mem _ tw_279)) ⟨by decide, by decide, by decide +kernel⟩ ⟨Nat.le_of_ble_eq_true rfl, Nat.le_of_ble_eq_true rfl⟩, (C.1.2.2.2.2 _ (List.mem_cons_of_mem _ tw_280)), (C.1.2.2.2.2 _ (List.mem_cons_of_mem _ tw_281))⟩ (ci := 2) rfl (xs_if_eq C d_V_hidesAnother_37 (by decide) (xs_iinc C d_V_hidesAnother_42 (by decide) (by decide) (xs_goto C d_V_hidesAnother_45 (by decide) (xs_jmp (fun _ _ _ _ _ h => h)))) (xs_iconst C d_V_hidesAnother_40 (by decide) (xs_zret C d_V_hidesAnother_41 hr hlk rfl rfl)))))))))) (xs_iconst C d_V_hidesAnother_40 (by decide) (xs_zret C d_V_hidesAnother_41 hr hlk rfl rfl)))))))))))))
set_option maxRecDepth 20000 in
set_option maxHeartbeats 4000000 in
theorem sV_hidesAnother_0 {p : Program} {l : Launch} {e : Env} {s : State} {mm : MethodId} {args : Array Value} {below : List Frame} {meth : Method} {c : Code} {D : va_G} {A : Nat → Prop} {Rh : Option Value → xm_M → Prop} (C : xm_C p s mm args c b_V_hidesAnother 3 "BlockVault" w_V_hidesAnother D classes ats A) (hr : meth.sig.returnType = (some .boolean)) (hlk : meth.locks = false) (hnm : meth.name = "hidesAnother") : xm_le (cV_hidesAnother_0 (xm_A p l e rm_V_hidesAnother s mm args below meth c 3 D classes A (MQ below (xm_Q D classes Rh A) args s 0 0 A)) Rh) ((xm_A p l e rm_V_hidesAnother s mm args below meth c 3 D classes A (MQ below (xm_Q D classes Rh A) args s 0 0 A)) 0) :=
  (xs_iconst C d_V_hidesAnother_0 (by decide) (xs_istore_n C d_V_hidesAnother_1 rfl (by decide) (xs_jmp (fun _ _ _ _ _ h => h))))
theorem met_V_hidesAnother (l : Launch) (D : va_G) : xm_Met l D classes ats y_V_hidesAnother w_V_hidesAnother rm_V_hidesAnother 0 0 cp_V_hidesAnother := by
  refine xm_met 0 (by decide) rfl rfl rfl (fun p e s mm args below meth c A Rh C hr hlk hnm lb => ?_)
  unfold fV_hidesAnother
  split
  · rename_i h; subst h; exact sV_hidesAnother_0 C hr hlk hnm
  split
  · rename_i h; subst h; exact sV_hidesAnother_2 C hr hlk hnm
  · exact fun _ _ _ _ _ h => h.elim
theorem d_V_isNeedless_0 : decode b_V_isNeedless 0 = .ok (.aload_n 0, 1) := by decide +kernel
theorem d_V_isNeedless_1 : decode b_V_isNeedless 1 = .ok (.getfield 17, 3) := by decide +kernel
theorem d_V_isNeedless_4 : decode b_V_isNeedless 4 = .ok (.iload_n 1, 1) := by decide +kernel
theorem d_V_isNeedless_5 : decode b_V_isNeedless 5 = .ok (.aaload, 1) := by decide +kernel
theorem d_V_isNeedless_6 : decode b_V_isNeedless 6 = .ok (.getfield 63, 3) := by decide +kernel
theorem d_V_isNeedless_9 : decode b_V_isNeedless 9 = .ok (.astore_n 2, 1) := by decide +kernel
theorem d_V_isNeedless_10 : decode b_V_isNeedless 10 = .ok (.aload_n 2, 1) := by decide +kernel
theorem d_V_isNeedless_11 : decode b_V_isNeedless 11 = .ok (.ifnonnull 5, 3) := by decide +kernel
theorem d_V_isNeedless_14 : decode b_V_isNeedless 14 = .ok (.iconst 0, 1) := by decide +kernel
theorem d_V_isNeedless_15 : decode b_V_isNeedless 15 = .ok (.ireturn, 1) := by decide +kernel
theorem d_V_isNeedless_16 : decode b_V_isNeedless 16 = .ok (.aload_n 2, 1) := by decide +kernel
theorem d_V_isNeedless_17 : decode b_V_isNeedless 17 = .ok (.getfield 145, 3) := by decide +kernel
theorem d_V_isNeedless_20 : decode b_V_isNeedless 20 = .ok (.ifCond .eq 19, 3) := by decide +kernel
theorem d_V_isNeedless_23 : decode b_V_isNeedless 23 = .ok (.aload_n 0, 1) := by decide +kernel
theorem d_V_isNeedless_24 : decode b_V_isNeedless 24 = .ok (.aload_n 2, 1) := by decide +kernel
theorem d_V_isNeedless_25 : decode b_V_isNeedless 25 = .ok (.invokevirtual 244, 3) := by decide +kernel
theorem d_V_isNeedless_28 : decode b_V_isNeedless 28 = .ok (.ifCond .ne 7, 3) := by decide +kernel
theorem d_V_isNeedless_31 : decode b_V_isNeedless 31 = .ok (.iconst 1, 1) := by decide +kernel
theorem d_V_isNeedless_32 : decode b_V_isNeedless 32 = .ok (.goto 15, 3) := by decide +kernel
theorem d_V_isNeedless_35 : decode b_V_isNeedless 35 = .ok (.iconst 0, 1) := by decide +kernel
theorem d_V_isNeedless_36 : decode b_V_isNeedless 36 = .ok (.goto 11, 3) := by decide +kernel
theorem d_V_isNeedless_39 : decode b_V_isNeedless 39 = .ok (.aload_n 2, 1) := by decide +kernel
theorem d_V_isNeedless_40 : decode b_V_isNeedless 40 = .ok (.aload_n 0, 1) := by decide +kernel
theorem d_V_isNeedless_41 : decode b_V_isNeedless 41 = .ok (.getfield 21, 3) := by decide +kernel
theorem d_V_isNeedless_44 : decode b_V_isNeedless 44 = .ok (.invokevirtual 193, 3) := by decide +kernel
theorem d_V_isNeedless_47 : decode b_V_isNeedless 47 = .ok (.ireturn, 1) := by decide +kernel
-- BlockVault.isNeedless(I)Z: labels [0], loops []
abbrev rm_V_isNeedless : Room := { frames := 2, cells := 0, slots := 0, locals := 44 }
def cV_isNeedless_0 (X : Nat → xm_PT) (Rh : Option Value → xm_M → Prop) : xm_PT := (xo_aload 0 (xo_get 0 1 (xo_iload 1 (xo_aald ats (xo_get 4 0 (xo_astore 2 (xo_aload 2 (xo_null (xo_push (.int 0) (xo_zret Rh)) (xo_aload 2 (xo_get 1 6 (xo_if (fun x => x = 0) (xo_aload 2 (xo_aload 0 (xo_get 0 2 (xo_callV 1 1 0 0 cp_C_isExpired (xo_zret Rh))))) (xo_aload 0 (xo_aload 2 (xo_callV 0 1 0 0 cp_V_hidesAnother (xo_if (fun x => x = 0) (xo_push (.int 1) (xo_zret Rh)) (xo_push (.int 0) (xo_zret Rh)))))))))))))))))
def fV_isNeedless : xm_F := fun X Rh lb => if lb = 0 then cV_isNeedless_0 X Rh else fun _ _ _ _ _ => False
def cp_V_isNeedless : xm_CP := fun as m Rh => (lg_sl as).length ≤ 3 ∧ xm_cp fV_isNeedless 0 0 as m Rh
theorem eV_isNeedless_0 {X : Nat → xm_PT} {Rh : Option Value → xm_M → Prop} (hX : ∀ lb, xm_le (fV_isNeedless X Rh lb) (X lb)) {ls : xm_L} {st : List Value} {m : xm_M} {bc bs : Nat} (h : cV_isNeedless_0 X Rh ls st m bc bs) : X 0 ls st m bc bs := hX 0 ls st m bc bs h
set_option maxRecDepth 20000 in
set_option maxHeartbeats 4000000 in
theorem sV_isNeedless_0 {p : Program} {l : Launch} {e : Env} {s : State} {mm : MethodId} {args : Array Value} {below : List Frame} {meth : Method} {c : Code} {D : va_G} {A : Nat → Prop} {Rh : Option Value → xm_M → Prop} (C : xm_C p s mm args c b_V_isNeedless 3 "BlockVault" w_V_isNeedless D classes ats A) (hr : meth.sig.returnType = (some .boolean)) (hlk : meth.locks = false) (hnm : meth.name = "isNeedless") : xm_le (cV_isNeedless_0 (xm_A p l e rm_V_isNeedless s mm args below meth c 3 D classes A (MQ below (xm_Q D classes Rh A) args s 0 0 A)) Rh) ((xm_A p l e rm_V_isNeedless s mm args below meth c 3 D classes A (MQ below (xm_Q D classes Rh A) args s 0 0 A)) 0) :=
  (xs_aload_n C d_V_isNeedless_0 rfl (xs_get C (k := 1) d_V_isNeedless_1 h_V (ci := 0) rfl (by decide) (List.mem_cons_of_mem _ tw_82) rfl (xs_iload_n C d_V_isNeedless_4 rfl (xs_aald C d_V_isNeedless_5 (xs_get C (k := 0) d_V_isNeedless_6 h_E (ci := 4) rfl (by decide) (List.mem_cons_of_mem _ tw_69) rfl (xs_astore_n C d_V_isNeedless_9 rfl (by decide) (xs_aload_n C d_V_isNeedless_10 rfl (xs_ifnonnull C d_V_isNeedless_11 (by decide) (xs_iconst C d_V_isNeedless_14 (by decide) (xs_zret C d_V_isNeedless_15 hr hlk rfl rfl)) (xs_aload_n C d_V_isNeedless_16 rfl (xs_get C (k := 6) d_V_isNeedless_17 h_C (ci := 1) rfl (by decide) (List.mem_cons_of_mem _ tw_154) rfl (xs_if_eq C d_V_isNeedless_20 (by decide) (xs_aload_n C d_V_isNeedless_39 rfl (xs_aload_n C d_V_isNeedless_40 rfl (xs_get C (k := 2) d_V_isNeedless_41 h_V (ci := 0) rfl (by decide) (List.mem_cons_of_mem _ tw_83) rfl (xs_callV C (CN := "BlockVault$Copy") (T := F_C) (N := 7) d_V_isNeedless_44 (met_C_isExpired l D) ⟨callB_of (ws := w_C_isExpired) (rm := rm_C_isExpired) 1 C.1.2.2.2.2 (gG_m tw_127) rfl rfl rfl (C.1.2.2.2.2 _ (List.mem_cons_of_mem _ tw_6)) (C.1.2.2.2.2 _ (List.mem_cons_of_mem _ tw_124)) ⟨by decide, by decide, by decide +kernel⟩ ⟨Nat.le_of_ble_eq_true rfl, Nat.le_of_ble_eq_true rfl⟩, (C.1.2.2.2.2 _ (List.mem_cons_of_mem _ tw_125)), (C.1.2.2.2.2 _ (List.mem_cons_of_mem _ tw_126))⟩ (ci := 1) rfl (xs_zret C d_V_isNeedless_47 hr hlk rfl rfl))))) (xs_aload_n C d_V_isNeedless_23 rfl (xs_aload_n C d_V_isNeedless_24 rfl (xs_callV C (CN := "BlockVault") (T := F_V) (N := 8) d_V_isNeedless_25 (met_V_hidesAnother l D) ⟨callB_of (ws := w_V_hidesAnother) (rm := rm_V_hidesAnother) 1 C.1.2.2.2.2 (gG_m tw_278) rfl rfl rfl (C.1.2.2.2.2 _ (List.mem_cons_of_mem _ tw_1)) (C.1.2.2.2.2 _ (List.mem_cons_of_mem _ tw_275)) ⟨by decide, by decide, by decide +kernel⟩ ⟨Nat.le_of_ble_eq_true rfl, Nat.le_of_ble_eq_true rfl⟩, (C.1.2.2.2.2 _ (List.mem_cons_of_mem _ tw_277)), (C.1.2.2.2.2 _ (List.mem_cons_of_mem _ ts_17))⟩ (ci := 0) rfl (xs_if_ne C d_V_isNeedless_28 (by decide) (xs_iconst C d_V_isNeedless_31 (by decide) (xs_goto C d_V_isNeedless_32 (by decide) (xs_zret C d_V_isNeedless_47 hr hlk rfl rfl))) (xs_iconst C d_V_isNeedless_35 (by decide) (xs_goto C d_V_isNeedless_36 (by decide) (xs_zret C d_V_isNeedless_47 hr hlk rfl rfl))))))))))))))))))
theorem met_V_isNeedless (l : Launch) (D : va_G) : xm_Met l D classes ats y_V_isNeedless w_V_isNeedless rm_V_isNeedless 0 0 cp_V_isNeedless := by
  refine xm_met 0 (by decide) rfl rfl rfl (fun p e s mm args below meth c A Rh C hr hlk hnm lb => ?_)
  unfold fV_isNeedless
  split
  · rename_i h; subst h; exact sV_isNeedless_0 C hr hlk hnm
  · exact fun _ _ _ _ _ h => h.elim
theorem d_V_sweep_0 : decode b_V_sweep 0 = .ok (.aload_n 0, 1) := by decide +kernel
theorem d_V_sweep_1 : decode b_V_sweep 1 = .ok (.getfield 37, 3) := by decide +kernel
theorem d_V_sweep_4 : decode b_V_sweep 4 = .ok (.ifCond .eq 6, 3) := by decide +kernel
theorem d_V_sweep_7 : decode b_V_sweep 7 = .ok (.bipush (-2), 2) := by decide +kernel
theorem d_V_sweep_9 : decode b_V_sweep 9 = .ok (.ireturn, 1) := by decide +kernel
theorem d_V_sweep_10 : decode b_V_sweep 10 = .ok (.iconst 0, 1) := by decide +kernel
theorem d_V_sweep_11 : decode b_V_sweep 11 = .ok (.istore_n 1, 1) := by decide +kernel
theorem d_V_sweep_12 : decode b_V_sweep 12 = .ok (.iconst 0, 1) := by decide +kernel
theorem d_V_sweep_13 : decode b_V_sweep 13 = .ok (.istore_n 2, 1) := by decide +kernel
theorem d_V_sweep_14 : decode b_V_sweep 14 = .ok (.iload_n 2, 1) := by decide +kernel
theorem d_V_sweep_15 : decode b_V_sweep 15 = .ok (.bipush 16, 2) := by decide +kernel
theorem d_V_sweep_17 : decode b_V_sweep 17 = .ok (.if_icmp .ge 25, 3) := by decide +kernel
theorem d_V_sweep_20 : decode b_V_sweep 20 = .ok (.aload_n 0, 1) := by decide +kernel
theorem d_V_sweep_21 : decode b_V_sweep 21 = .ok (.iload_n 2, 1) := by decide +kernel
theorem d_V_sweep_22 : decode b_V_sweep 22 = .ok (.invokevirtual 87, 3) := by decide +kernel
theorem d_V_sweep_25 : decode b_V_sweep 25 = .ok (.ifCond .eq 11, 3) := by decide +kernel
theorem d_V_sweep_28 : decode b_V_sweep 28 = .ok (.aload_n 0, 1) := by decide +kernel
theorem d_V_sweep_29 : decode b_V_sweep 29 = .ok (.iload_n 2, 1) := by decide +kernel
theorem d_V_sweep_30 : decode b_V_sweep 30 = .ok (.invokevirtual 75, 3) := by decide +kernel
theorem d_V_sweep_33 : decode b_V_sweep 33 = .ok (.iinc 1 1, 3) := by decide +kernel
theorem d_V_sweep_36 : decode b_V_sweep 36 = .ok (.iinc 2 1, 3) := by decide +kernel
theorem d_V_sweep_39 : decode b_V_sweep 39 = .ok (.goto (-25), 3) := by decide +kernel
theorem d_V_sweep_42 : decode b_V_sweep 42 = .ok (.iload_n 1, 1) := by decide +kernel
theorem d_V_sweep_43 : decode b_V_sweep 43 = .ok (.ireturn, 1) := by decide +kernel
-- BlockVault.sweep()I: labels [0, 14], loops [14]
abbrev rm_V_sweep : Room := { frames := 3, cells := 0, slots := 0, locals := 66 }
def cV_sweep_14 (X : Nat → xm_PT) (Rh : Option Value → xm_M → Prop) : xm_PT := (xo_iload 2 (xo_push (.int (nI 16)) (xo_icmp (fun x y => y ≤ x) (xo_iload 1 (xo_iret Rh)) (xo_aload 0 (xo_iload 2 (xo_callV 0 1 0 0 cp_V_isNeedless (xo_if (fun x => x = 0) (xo_iinc 2 1 (xo_jmp [0, 1, 2] (X 14))) (xo_aload 0 (xo_iload 2 (xo_callV 0 1 0 0 cp_V_dropEntry (xo_iinc 1 1 (xo_iinc 2 1 (xo_jmp [0, 1, 2] (X 14))))))))))))))
def cV_sweep_0 (X : Nat → xm_PT) (Rh : Option Value → xm_M → Prop) : xm_PT := (xo_aload 0 (xo_get 0 7 (xo_if (fun x => x = 0) (xo_push (.int 0) (xo_istore 1 (xo_push (.int 0) (xo_istore 2 (xo_jmp [0, 1, 2] (X 14)))))) (xo_push (.int (-2)) (xo_iret Rh)))))
def fV_sweep : xm_F := fun X Rh lb => if lb = 0 then cV_sweep_0 X Rh else (if lb = 14 then cV_sweep_14 X Rh else fun _ _ _ _ _ => False)
def cp_V_sweep : xm_CP := fun as m Rh => (lg_sl as).length ≤ 3 ∧ xm_cp fV_sweep 0 0 as m Rh
theorem eV_sweep_0 {X : Nat → xm_PT} {Rh : Option Value → xm_M → Prop} (hX : ∀ lb, xm_le (fV_sweep X Rh lb) (X lb)) {ls : xm_L} {st : List Value} {m : xm_M} {bc bs : Nat} (h : cV_sweep_0 X Rh ls st m bc bs) : X 0 ls st m bc bs := hX 0 ls st m bc bs h
theorem eV_sweep_14 {X : Nat → xm_PT} {Rh : Option Value → xm_M → Prop} (hX : ∀ lb, xm_le (fV_sweep X Rh lb) (X lb)) {ls : xm_L} {st : List Value} {m : xm_M} {bc bs : Nat} (h : cV_sweep_14 X Rh ls st m bc bs) : X 14 ls st m bc bs := hX 14 ls st m bc bs h
set_option maxRecDepth 20000 in
set_option maxHeartbeats 4000000 in
theorem sV_sweep_14 {p : Program} {l : Launch} {e : Env} {s : State} {mm : MethodId} {args : Array Value} {below : List Frame} {meth : Method} {c : Code} {D : va_G} {A : Nat → Prop} {Rh : Option Value → xm_M → Prop} (C : xm_C p s mm args c b_V_sweep 3 "BlockVault" w_V_sweep D classes ats A) (hr : meth.sig.returnType = (some .int)) (hlk : meth.locks = false) (hnm : meth.name = "sweep") : xm_le (cV_sweep_14 (xm_A p l e rm_V_sweep s mm args below meth c 3 D classes A (MQ below (xm_Q D classes Rh A) args s 0 0 A)) Rh) ((xm_A p l e rm_V_sweep s mm args below meth c 3 D classes A (MQ below (xm_Q D classes Rh A) args s 0 0 A)) 14) :=
  (xs_iload_n C d_V_sweep_14 rfl (xs_bipush C d_V_sweep_15 (by decide) (xs_icmp_ge C d_V_sweep_17 (by decide) (xs_iload_n C d_V_sweep_42 rfl (xs_iret C d_V_sweep_43 hr hlk rfl rfl)) (xs_aload_n C d_V_sweep_20 rfl (xs_iload_n C d_V_sweep_21 rfl (xs_callV C (CN := "BlockVault") (T := F_V) (N := 8) d_V_sweep_22 (met_V_isNeedless l D) ⟨callB_of (ws := w_V_isNeedless) (rm := rm_V_isNeedless) 1 C.1.2.2.2.2 (gG_m tw_274) rfl rfl rfl (C.1.2.2.2.2 _ (List.mem_cons_of_mem _ tw_1)) (C.1.2.2.2.2 _ (List.mem_cons_of_mem _ tw_271)) ⟨by decide, by decide, by decide +kernel⟩ ⟨Nat.le_of_ble_eq_true rfl, Nat.le_of_ble_eq_true rfl⟩, (C.1.2.2.2.2 _ (List.mem_cons_of_mem _ tw_273)), (C.1.2.2.2.2 _ (List.mem_cons_of_mem _ ts_16))⟩ (ci := 0) rfl (xs_if_eq C d_V_sweep_25 (by decide) (xs_iinc C d_V_sweep_36 (by decide) (by decide) (xs_goto C d_V_sweep_39 (by decide) (xs_jmp (fun _ _ _ _ _ h => h)))) (xs_aload_n C d_V_sweep_28 rfl (xs_iload_n C d_V_sweep_29 rfl (xs_callV C (CN := "BlockVault") (T := F_V) (N := 8) d_V_sweep_30 (met_V_dropEntry l D) ⟨callB_of (ws := w_V_dropEntry) (rm := rm_V_dropEntry) 1 C.1.2.2.2.2 (gG_m tw_245) rfl rfl rfl (C.1.2.2.2.2 _ (List.mem_cons_of_mem _ tw_1)) (C.1.2.2.2.2 _ (List.mem_cons_of_mem _ tw_242)) ⟨by decide, by decide, by decide +kernel⟩ ⟨Nat.le_of_ble_eq_true rfl, Nat.le_of_ble_eq_true rfl⟩, (C.1.2.2.2.2 _ (List.mem_cons_of_mem _ tw_244)), (C.1.2.2.2.2 _ (List.mem_cons_of_mem _ ts_13))⟩ (ci := 0) rfl (xs_iinc C d_V_sweep_33 (by decide) (by decide) (xs_iinc C d_V_sweep_36 (by decide) (by decide) (xs_goto C d_V_sweep_39 (by decide) (xs_jmp (fun _ _ _ _ _ h => h)))))))))))))))
set_option maxRecDepth 20000 in
set_option maxHeartbeats 4000000 in
theorem sV_sweep_0 {p : Program} {l : Launch} {e : Env} {s : State} {mm : MethodId} {args : Array Value} {below : List Frame} {meth : Method} {c : Code} {D : va_G} {A : Nat → Prop} {Rh : Option Value → xm_M → Prop} (C : xm_C p s mm args c b_V_sweep 3 "BlockVault" w_V_sweep D classes ats A) (hr : meth.sig.returnType = (some .int)) (hlk : meth.locks = false) (hnm : meth.name = "sweep") : xm_le (cV_sweep_0 (xm_A p l e rm_V_sweep s mm args below meth c 3 D classes A (MQ below (xm_Q D classes Rh A) args s 0 0 A)) Rh) ((xm_A p l e rm_V_sweep s mm args below meth c 3 D classes A (MQ below (xm_Q D classes Rh A) args s 0 0 A)) 0) :=
  (xs_aload_n C d_V_sweep_0 rfl (xs_get C (k := 7) d_V_sweep_1 h_V (ci := 0) rfl (by decide) (List.mem_cons_of_mem _ tw_88) rfl (xs_if_eq C d_V_sweep_4 (by decide) (xs_iconst C d_V_sweep_10 (by decide) (xs_istore_n C d_V_sweep_11 rfl (by decide) (xs_iconst C d_V_sweep_12 (by decide) (xs_istore_n C d_V_sweep_13 rfl (by decide) (xs_jmp (fun _ _ _ _ _ h => h)))))) (xs_bipush C d_V_sweep_7 (by decide) (xs_iret C d_V_sweep_9 hr hlk rfl rfl)))))
theorem met_V_sweep (l : Launch) (D : va_G) : xm_Met l D classes ats y_V_sweep w_V_sweep rm_V_sweep 0 0 cp_V_sweep := by
  refine xm_met 0 (by decide) rfl rfl rfl (fun p e s mm args below meth c A Rh C hr hlk hnm lb => ?_)
  unfold fV_sweep
  split
  · rename_i h; subst h; exact sV_sweep_0 C hr hlk hnm
  split
  · rename_i h; subst h; exact sV_sweep_14 C hr hlk hnm
  · exact fun _ _ _ _ _ h => h.elim
theorem d_V_seal_0 : decode b_V_seal 0 = .ok (.aload_n 0, 1) := by decide +kernel
theorem d_V_seal_1 : decode b_V_seal 1 = .ok (.getfield 37, 3) := by decide +kernel
theorem d_V_seal_4 : decode b_V_seal 4 = .ok (.ifCond .eq 6, 3) := by decide +kernel
theorem d_V_seal_7 : decode b_V_seal 7 = .ok (.bipush (-2), 2) := by decide +kernel
theorem d_V_seal_9 : decode b_V_seal 9 = .ok (.ireturn, 1) := by decide +kernel
theorem d_V_seal_10 : decode b_V_seal 10 = .ok (.aload_n 0, 1) := by decide +kernel
theorem d_V_seal_11 : decode b_V_seal 11 = .ok (.iconst 1, 1) := by decide +kernel
theorem d_V_seal_12 : decode b_V_seal 12 = .ok (.invokevirtual 90, 3) := by decide +kernel
theorem d_V_seal_15 : decode b_V_seal 15 = .ok (.istore_n 1, 1) := by decide +kernel
theorem d_V_seal_16 : decode b_V_seal 16 = .ok (.iload_n 1, 1) := by decide +kernel
theorem d_V_seal_17 : decode b_V_seal 17 = .ok (.iconst (-1), 1) := by decide +kernel
theorem d_V_seal_18 : decode b_V_seal 18 = .ok (.if_icmp .ne 5, 3) := by decide +kernel
theorem d_V_seal_21 : decode b_V_seal 21 = .ok (.iconst 0, 1) := by decide +kernel
theorem d_V_seal_22 : decode b_V_seal 22 = .ok (.ireturn, 1) := by decide +kernel
theorem d_V_seal_23 : decode b_V_seal 23 = .ok (.aload_n 0, 1) := by decide +kernel
theorem d_V_seal_24 : decode b_V_seal 24 = .ok (.iconst 2, 1) := by decide +kernel
theorem d_V_seal_25 : decode b_V_seal 25 = .ok (.invokevirtual 93, 3) := by decide +kernel
theorem d_V_seal_28 : decode b_V_seal 28 = .ok (.iconst 3, 1) := by decide +kernel
theorem d_V_seal_29 : decode b_V_seal 29 = .ok (.if_icmp .lt 6, 3) := by decide +kernel
theorem d_V_seal_32 : decode b_V_seal 32 = .ok (.bipush (-5), 2) := by decide +kernel
theorem d_V_seal_34 : decode b_V_seal 34 = .ok (.ireturn, 1) := by decide +kernel
theorem d_V_seal_35 : decode b_V_seal 35 = .ok (.aload_n 0, 1) := by decide +kernel
theorem d_V_seal_36 : decode b_V_seal 36 = .ok (.iload_n 1, 1) := by decide +kernel
theorem d_V_seal_37 : decode b_V_seal 37 = .ok (.invokevirtual 96, 3) := by decide +kernel
theorem d_V_seal_40 : decode b_V_seal 40 = .ok (.iconst 1, 1) := by decide +kernel
theorem d_V_seal_41 : decode b_V_seal 41 = .ok (.ireturn, 1) := by decide +kernel
-- BlockVault.seal()I: labels [0], loops []
abbrev rm_V_seal : Room := { frames := 1, cells := 0, slots := 0, locals := 23 }
def cV_seal_0 (X : Nat → xm_PT) (Rh : Option Value → xm_M → Prop) : xm_PT := (xo_aload 0 (xo_get 0 7 (xo_if (fun x => x = 0) (xo_aload 0 (xo_push (.int 1) (xo_callV 0 1 0 0 cp_V_leastInState (xo_istore 1 (xo_iload 1 (xo_push (.int (-1)) (xo_icmp (fun x y => x = y) (xo_push (.int 0) (xo_iret Rh)) (xo_aload 0 (xo_push (.int (nI 2)) (xo_callV 0 1 0 0 cp_V_countInState (xo_push (.int (nI 3)) (xo_icmp (fun x y => x < y) (xo_aload 0 (xo_iload 1 (xo_callV 0 1 0 0 cp_V_sealBlock (xo_push (.int 1) (xo_iret Rh))))) (xo_push (.int (-5)) (xo_iret Rh)))))))))))))) (xo_push (.int (-2)) (xo_iret Rh)))))
def fV_seal : xm_F := fun X Rh lb => if lb = 0 then cV_seal_0 X Rh else fun _ _ _ _ _ => False
def cp_V_seal : xm_CP := fun as m Rh => (lg_sl as).length ≤ 2 ∧ xm_cp fV_seal 0 0 as m Rh
theorem eV_seal_0 {X : Nat → xm_PT} {Rh : Option Value → xm_M → Prop} (hX : ∀ lb, xm_le (fV_seal X Rh lb) (X lb)) {ls : xm_L} {st : List Value} {m : xm_M} {bc bs : Nat} (h : cV_seal_0 X Rh ls st m bc bs) : X 0 ls st m bc bs := hX 0 ls st m bc bs h
set_option maxRecDepth 20000 in
set_option maxHeartbeats 4000000 in
theorem sV_seal_0 {p : Program} {l : Launch} {e : Env} {s : State} {mm : MethodId} {args : Array Value} {below : List Frame} {meth : Method} {c : Code} {D : va_G} {A : Nat → Prop} {Rh : Option Value → xm_M → Prop} (C : xm_C p s mm args c b_V_seal 2 "BlockVault" w_V_seal D classes ats A) (hr : meth.sig.returnType = (some .int)) (hlk : meth.locks = false) (hnm : meth.name = "seal") : xm_le (cV_seal_0 (xm_A p l e rm_V_seal s mm args below meth c 2 D classes A (MQ below (xm_Q D classes Rh A) args s 0 0 A)) Rh) ((xm_A p l e rm_V_seal s mm args below meth c 2 D classes A (MQ below (xm_Q D classes Rh A) args s 0 0 A)) 0) :=
  (xs_aload_n C d_V_seal_0 rfl (xs_get C (k := 7) d_V_seal_1 h_V (ci := 0) rfl (by decide) (List.mem_cons_of_mem _ tw_88) rfl (xs_if_eq C d_V_seal_4 (by decide) (xs_aload_n C d_V_seal_10 rfl (xs_iconst C d_V_seal_11 (by decide) (xs_callV C (CN := "BlockVault") (T := F_V) (N := 8) d_V_seal_12 (met_V_leastInState l D) ⟨callB_of (ws := w_V_leastInState) (rm := rm_V_leastInState) 1 C.1.2.2.2.2 (gG_m tw_185) rfl rfl rfl (C.1.2.2.2.2 _ (List.mem_cons_of_mem _ tw_1)) (C.1.2.2.2.2 _ (List.mem_cons_of_mem _ tw_182)) ⟨by decide, by decide, by decide +kernel⟩ ⟨Nat.le_of_ble_eq_true rfl, Nat.le_of_ble_eq_true rfl⟩, (C.1.2.2.2.2 _ (List.mem_cons_of_mem _ tw_184)), (C.1.2.2.2.2 _ (List.mem_cons_of_mem _ ts_6))⟩ (ci := 0) rfl (xs_istore_n C d_V_seal_15 rfl (by decide) (xs_iload_n C d_V_seal_16 rfl (xs_iconst C d_V_seal_17 (by decide) (xs_icmp_ne C d_V_seal_18 (by decide) (xs_iconst C d_V_seal_21 (by decide) (xs_iret C d_V_seal_22 hr hlk rfl rfl)) (xs_aload_n C d_V_seal_23 rfl (xs_iconst C d_V_seal_24 (by decide) (xs_callV C (CN := "BlockVault") (T := F_V) (N := 8) d_V_seal_25 (met_V_countInState l D) ⟨callB_of (ws := w_V_countInState) (rm := rm_V_countInState) 1 C.1.2.2.2.2 (gG_m tw_193) rfl rfl rfl (C.1.2.2.2.2 _ (List.mem_cons_of_mem _ tw_1)) (C.1.2.2.2.2 _ (List.mem_cons_of_mem _ tw_190)) ⟨by decide, by decide, by decide +kernel⟩ ⟨Nat.le_of_ble_eq_true rfl, Nat.le_of_ble_eq_true rfl⟩, (C.1.2.2.2.2 _ (List.mem_cons_of_mem _ tw_192)), (C.1.2.2.2.2 _ (List.mem_cons_of_mem _ ts_7))⟩ (ci := 0) rfl (xs_iconst C d_V_seal_28 (by decide) (xs_icmp_lt C d_V_seal_29 (by decide) (xs_aload_n C d_V_seal_35 rfl (xs_iload_n C d_V_seal_36 rfl (xs_callV C (CN := "BlockVault") (T := F_V) (N := 8) d_V_seal_37 (met_V_sealBlock l D) ⟨callB_of (ws := w_V_sealBlock) (rm := rm_V_sealBlock) 1 C.1.2.2.2.2 (gG_m tw_197) rfl rfl rfl (C.1.2.2.2.2 _ (List.mem_cons_of_mem _ tw_1)) (C.1.2.2.2.2 _ (List.mem_cons_of_mem _ tw_194)) ⟨by decide, by decide, by decide +kernel⟩ ⟨Nat.le_of_ble_eq_true rfl, Nat.le_of_ble_eq_true rfl⟩, (C.1.2.2.2.2 _ (List.mem_cons_of_mem _ tw_196)), (C.1.2.2.2.2 _ (List.mem_cons_of_mem _ ts_8))⟩ (ci := 0) rfl (xs_iconst C d_V_seal_40 (by decide) (xs_iret C d_V_seal_41 hr hlk rfl rfl))))) (xs_bipush C d_V_seal_32 (by decide) (xs_iret C d_V_seal_34 hr hlk rfl rfl)))))))))))))) (xs_bipush C d_V_seal_7 (by decide) (xs_iret C d_V_seal_9 hr hlk rfl rfl)))))
theorem met_V_seal (l : Launch) (D : va_G) : xm_Met l D classes ats y_V_seal w_V_seal rm_V_seal 0 0 cp_V_seal := by
  refine xm_met 0 (by decide) rfl rfl rfl (fun p e s mm args below meth c A Rh C hr hlk hnm lb => ?_)
  unfold fV_seal
  split
  · rename_i h; subst h; exact sV_seal_0 C hr hlk hnm
  · exact fun _ _ _ _ _ h => h.elim
theorem d_V_longestSealed_0 : decode b_V_longestSealed 0 = .ok (.iconst (-1), 1) := by decide +kernel
theorem d_V_longestSealed_1 : decode b_V_longestSealed 1 = .ok (.istore_n 1, 1) := by decide +kernel
theorem d_V_longestSealed_2 : decode b_V_longestSealed 2 = .ok (.iconst 0, 1) := by decide +kernel
theorem d_V_longestSealed_3 : decode b_V_longestSealed 3 = .ok (.istore_n 2, 1) := by decide +kernel
theorem d_V_longestSealed_4 : decode b_V_longestSealed 4 = .ok (.iload_n 2, 1) := by decide +kernel
theorem d_V_longestSealed_5 : decode b_V_longestSealed 5 = .ok (.bipush 8, 2) := by decide +kernel
theorem d_V_longestSealed_7 : decode b_V_longestSealed 7 = .ok (.if_icmp .ge 50, 3) := by decide +kernel
theorem d_V_longestSealed_10 : decode b_V_longestSealed 10 = .ok (.aload_n 0, 1) := by decide +kernel
theorem d_V_longestSealed_11 : decode b_V_longestSealed 11 = .ok (.getfield 11, 3) := by decide +kernel
theorem d_V_longestSealed_14 : decode b_V_longestSealed 14 = .ok (.iload_n 2, 1) := by decide +kernel
theorem d_V_longestSealed_15 : decode b_V_longestSealed 15 = .ok (.aaload, 1) := by decide +kernel
theorem d_V_longestSealed_16 : decode b_V_longestSealed 16 = .ok (.getfield 166, 3) := by decide +kernel
theorem d_V_longestSealed_19 : decode b_V_longestSealed 19 = .ok (.iconst 2, 1) := by decide +kernel
theorem d_V_longestSealed_20 : decode b_V_longestSealed 20 = .ok (.if_icmp .ne 31, 3) := by decide +kernel
theorem d_V_longestSealed_23 : decode b_V_longestSealed 23 = .ok (.iload_n 1, 1) := by decide +kernel
theorem d_V_longestSealed_24 : decode b_V_longestSealed 24 = .ok (.iconst (-1), 1) := by decide +kernel
theorem d_V_longestSealed_25 : decode b_V_longestSealed 25 = .ok (.if_icmp .eq 24, 3) := by decide +kernel
theorem d_V_longestSealed_28 : decode b_V_longestSealed 28 = .ok (.aload_n 0, 1) := by decide +kernel
theorem d_V_longestSealed_29 : decode b_V_longestSealed 29 = .ok (.getfield 11, 3) := by decide +kernel
theorem d_V_longestSealed_32 : decode b_V_longestSealed 32 = .ok (.iload_n 2, 1) := by decide +kernel
theorem d_V_longestSealed_33 : decode b_V_longestSealed 33 = .ok (.aaload, 1) := by decide +kernel
theorem d_V_longestSealed_34 : decode b_V_longestSealed 34 = .ok (.getfield 223, 3) := by decide +kernel
theorem d_V_longestSealed_37 : decode b_V_longestSealed 37 = .ok (.aload_n 0, 1) := by decide +kernel
theorem d_V_longestSealed_38 : decode b_V_longestSealed 38 = .ok (.getfield 11, 3) := by decide +kernel
theorem d_V_longestSealed_41 : decode b_V_longestSealed 41 = .ok (.iload_n 1, 1) := by decide +kernel
theorem d_V_longestSealed_42 : decode b_V_longestSealed 42 = .ok (.aaload, 1) := by decide +kernel
theorem d_V_longestSealed_43 : decode b_V_longestSealed 43 = .ok (.getfield 223, 3) := by decide +kernel
theorem d_V_longestSealed_46 : decode b_V_longestSealed 46 = .ok (.if_icmp .ge 5, 3) := by decide +kernel
theorem d_V_longestSealed_49 : decode b_V_longestSealed 49 = .ok (.iload_n 2, 1) := by decide +kernel
theorem d_V_longestSealed_50 : decode b_V_longestSealed 50 = .ok (.istore_n 1, 1) := by decide +kernel
theorem d_V_longestSealed_51 : decode b_V_longestSealed 51 = .ok (.iinc 2 1, 3) := by decide +kernel
theorem d_V_longestSealed_54 : decode b_V_longestSealed 54 = .ok (.goto (-50), 3) := by decide +kernel
theorem d_V_longestSealed_57 : decode b_V_longestSealed 57 = .ok (.iload_n 1, 1) := by decide +kernel
theorem d_V_longestSealed_58 : decode b_V_longestSealed 58 = .ok (.ireturn, 1) := by decide +kernel
-- BlockVault.longestSealed()I: labels [0, 4], loops [4]
abbrev rm_V_longestSealed : Room := { frames := 0, cells := 0, slots := 0, locals := 0 }
def cV_longestSealed_4 (X : Nat → xm_PT) (Rh : Option Value → xm_M → Prop) : xm_PT := (xo_iload 2 (xo_push (.int (nI 8)) (xo_icmp (fun x y => y ≤ x) (xo_iload 1 (xo_iret Rh)) (xo_aload 0 (xo_get 0 0 (xo_iload 2 (xo_aald ats (xo_get 3 2 (xo_push (.int (nI 2)) (xo_icmp (fun x y => x = y) (xo_iload 1 (xo_push (.int (-1)) (xo_icmp (fun x y => x = y) (xo_iload 2 (xo_istore 1 (xo_iinc 2 1 (xo_jmp [0, 1, 2] (X 4))))) (xo_aload 0 (xo_get 0 0 (xo_iload 2 (xo_aald ats (xo_get 3 3 (xo_aload 0 (xo_get 0 0 (xo_iload 1 (xo_aald ats (xo_get 3 3 (xo_icmp (fun x y => y ≤ x) (xo_iinc 2 1 (xo_jmp [0, 1, 2] (X 4))) (xo_iload 2 (xo_istore 1 (xo_iinc 2 1 (xo_jmp [0, 1, 2] (X 4))))))))))))))))))) (xo_iinc 2 1 (xo_jmp [0, 1, 2] (X 4)))))))))))))
def cV_longestSealed_0 (X : Nat → xm_PT) (Rh : Option Value → xm_M → Prop) : xm_PT := (xo_push (.int (-1)) (xo_istore 1 (xo_push (.int 0) (xo_istore 2 (xo_jmp [0, 1, 2] (X 4))))))
def fV_longestSealed : xm_F := fun X Rh lb => if lb = 0 then cV_longestSealed_0 X Rh else (if lb = 4 then cV_longestSealed_4 X Rh else fun _ _ _ _ _ => False)
def cp_V_longestSealed : xm_CP := fun as m Rh => (lg_sl as).length ≤ 3 ∧ xm_cp fV_longestSealed 0 0 as m Rh
theorem eV_longestSealed_0 {X : Nat → xm_PT} {Rh : Option Value → xm_M → Prop} (hX : ∀ lb, xm_le (fV_longestSealed X Rh lb) (X lb)) {ls : xm_L} {st : List Value} {m : xm_M} {bc bs : Nat} (h : cV_longestSealed_0 X Rh ls st m bc bs) : X 0 ls st m bc bs := hX 0 ls st m bc bs h
theorem eV_longestSealed_4 {X : Nat → xm_PT} {Rh : Option Value → xm_M → Prop} (hX : ∀ lb, xm_le (fV_longestSealed X Rh lb) (X lb)) {ls : xm_L} {st : List Value} {m : xm_M} {bc bs : Nat} (h : cV_longestSealed_4 X Rh ls st m bc bs) : X 4 ls st m bc bs := hX 4 ls st m bc bs h
set_option maxRecDepth 20000 in
set_option maxHeartbeats 4000000 in
theorem sV_longestSealed_4 {p : Program} {l : Launch} {e : Env} {s : State} {mm : MethodId} {args : Array Value} {below : List Frame} {meth : Method} {c : Code} {D : va_G} {A : Nat → Prop} {Rh : Option Value → xm_M → Prop} (C : xm_C p s mm args c b_V_longestSealed 3 "BlockVault" w_V_longestSealed D classes ats A) (hr : meth.sig.returnType = (some .int)) (hlk : meth.locks = false) (hnm : meth.name = "longestSealed") : xm_le (cV_longestSealed_4 (xm_A p l e rm_V_longestSealed s mm args below meth c 3 D classes A (MQ below (xm_Q D classes Rh A) args s 0 0 A)) Rh) ((xm_A p l e rm_V_longestSealed s mm args below meth c 3 D classes A (MQ below (xm_Q D classes Rh A) args s 0 0 A)) 4) :=
  (xs_iload_n C d_V_longestSealed_4 rfl (xs_bipush C d_V_longestSealed_5 (by decide) (xs_icmp_ge C d_V_longestSealed_7 (by decide) (xs_iload_n C d_V_longestSealed_57 rfl (xs_iret C d_V_longestSealed_58 hr hlk rfl rfl)) (xs_aload_n C d_V_longestSealed_10 rfl (xs_get C (k := 0) d_V_longestSealed_11 h_V (ci := 0) rfl (by decide) (List.mem_cons_of_mem _ tw_81) rfl (xs_iload_n C d_V_longestSealed_14 rfl (xs_aald C d_V_longestSealed_15 (xs_get C (k := 2) d_V_longestSealed_16 h_B (ci := 3) rfl (by decide) (List.mem_cons_of_mem _ tw_47) rfl (xs_iconst C d_V_longestSealed_19 (by decide) (xs_icmp_ne C d_V_longestSealed_20 (by decide) (xs_iload_n C d_V_longestSealed_23 rfl (xs_iconst C d_V_longestSealed_24 (by decide) (xs_icmp_eq C d_V_longestSealed_25 (by decide) (xs_iload_n C d_V_longestSealed_49 rfl (xs_istore_n C d_V_longestSealed_50 rfl (by decide) (xs_iinc C d_V_longestSealed_51 (by decide) (by decide) (xs_goto C d_V_longestSealed_54 (by decide) (xs_jmp (fun _ _ _ _ _ h => h)))))) (xs_aload_n C d_V_longestSealed_28 rfl (xs_get C (k := 0) d_V_longestSealed_29 h_V (ci := 0) rfl (by decide) (List.mem_cons_of_mem _ tw_81) rfl (xs_iload_n C d_V_longestSealed_32 rfl (xs_aald C d_V_longestSealed_33 (xs_get C (k := 3) d_V_longestSealed_34 h_B (ci := 3) rfl (by decide) (List.mem_cons_of_mem _ tw_49) rfl (xs_aload_n C d_V_longestSealed_37 rfl (xs_get C (k := 0) d_V_longestSealed_38 h_V (ci := 0) rfl (by decide) (List.mem_cons_of_mem _ tw_81) rfl (xs_iload_n C d_V_longestSealed_41 rfl (xs_aald C d_V_longestSealed_42 (xs_get C (k := 3) d_V_longestSealed_43 h_B (ci := 3) rfl (by decide) (List.mem_cons_of_mem _ tw_49) rfl (xs_icmp_ge C d_V_longestSealed_46 (by decide) (xs_iinc C d_V_longestSealed_51 (by decide) (by decide) (xs_goto C d_V_longestSealed_54 (by decide) (xs_jmp (fun _ _ _ _ _ h => h)))) (xs_iload_n C d_V_longestSealed_49 rfl (xs_istore_n C d_V_longestSealed_50 rfl (by decide) (xs_iinc C d_V_longestSealed_51 (by decide) (by decide) (xs_goto C d_V_longestSealed_54 (by decide) (xs_jmp (fun _ _ _ _ _ h => h)))))))))))))))))))) (xs_iinc C d_V_longestSealed_51 (by decide) (by decide) (xs_goto C d_V_longestSealed_54 (by decide) (xs_jmp (fun _ _ _ _ _ h => h))))))))))))))
set_option maxRecDepth 20000 in
set_option maxHeartbeats 4000000 in
theorem sV_longestSealed_0 {p : Program} {l : Launch} {e : Env} {s : State} {mm : MethodId} {args : Array Value} {below : List Frame} {meth : Method} {c : Code} {D : va_G} {A : Nat → Prop} {Rh : Option Value → xm_M → Prop} (C : xm_C p s mm args c b_V_longestSealed 3 "BlockVault" w_V_longestSealed D classes ats A) (hr : meth.sig.returnType = (some .int)) (hlk : meth.locks = false) (hnm : meth.name = "longestSealed") : xm_le (cV_longestSealed_0 (xm_A p l e rm_V_longestSealed s mm args below meth c 3 D classes A (MQ below (xm_Q D classes Rh A) args s 0 0 A)) Rh) ((xm_A p l e rm_V_longestSealed s mm args below meth c 3 D classes A (MQ below (xm_Q D classes Rh A) args s 0 0 A)) 0) :=
  (xs_iconst C d_V_longestSealed_0 (by decide) (xs_istore_n C d_V_longestSealed_1 rfl (by decide) (xs_iconst C d_V_longestSealed_2 (by decide) (xs_istore_n C d_V_longestSealed_3 rfl (by decide) (xs_jmp (fun _ _ _ _ _ h => h))))))
theorem met_V_longestSealed (l : Launch) (D : va_G) : xm_Met l D classes ats y_V_longestSealed w_V_longestSealed rm_V_longestSealed 0 0 cp_V_longestSealed := by
  refine xm_met 0 (by decide) rfl rfl rfl (fun p e s mm args below meth c A Rh C hr hlk hnm lb => ?_)
  unfold fV_longestSealed
  split
  · rename_i h; subst h; exact sV_longestSealed_0 C hr hlk hnm
  split
  · rename_i h; subst h; exact sV_longestSealed_4 C hr hlk hnm
  · exact fun _ _ _ _ _ h => h.elim
theorem d_R_takeFirst_0 : decode b_R_takeFirst 0 = .ok (.aload_n 0, 1) := by decide +kernel
theorem d_R_takeFirst_1 : decode b_R_takeFirst 1 = .ok (.invokevirtual 21, 3) := by decide +kernel
theorem d_R_takeFirst_4 : decode b_R_takeFirst 4 = .ok (.iconst 0, 1) := by decide +kernel
theorem d_R_takeFirst_5 : decode b_R_takeFirst 5 = .ok (.istore_n 3, 1) := by decide +kernel
theorem d_R_takeFirst_6 : decode b_R_takeFirst 6 = .ok (.iload_n 3, 1) := by decide +kernel
theorem d_R_takeFirst_7 : decode b_R_takeFirst 7 = .ok (.iload_n 1, 1) := by decide +kernel
theorem d_R_takeFirst_8 : decode b_R_takeFirst 8 = .ok (.if_icmp .ge 27, 3) := by decide +kernel
theorem d_R_takeFirst_11 : decode b_R_takeFirst 11 = .ok (.iload_n 3, 1) := by decide +kernel
theorem d_R_takeFirst_12 : decode b_R_takeFirst 12 = .ok (.aload_n 2, 1) := by decide +kernel
theorem d_R_takeFirst_13 : decode b_R_takeFirst 13 = .ok (.getfield 17, 3) := by decide +kernel
theorem d_R_takeFirst_16 : decode b_R_takeFirst 16 = .ok (.if_icmp .ge 19, 3) := by decide +kernel
theorem d_R_takeFirst_19 : decode b_R_takeFirst 19 = .ok (.aload_n 0, 1) := by decide +kernel
theorem d_R_takeFirst_20 : decode b_R_takeFirst 20 = .ok (.aload_n 2, 1) := by decide +kernel
theorem d_R_takeFirst_21 : decode b_R_takeFirst 21 = .ok (.getfield 11, 3) := by decide +kernel
theorem d_R_takeFirst_24 : decode b_R_takeFirst 24 = .ok (.iload_n 3, 1) := by decide +kernel
theorem d_R_takeFirst_25 : decode b_R_takeFirst 25 = .ok (.aaload, 1) := by decide +kernel
theorem d_R_takeFirst_26 : decode b_R_takeFirst 26 = .ok (.invokevirtual 24, 3) := by decide +kernel
theorem d_R_takeFirst_29 : decode b_R_takeFirst 29 = .ok (.iinc 3 1, 3) := by decide +kernel
theorem d_R_takeFirst_32 : decode b_R_takeFirst 32 = .ok (.goto (-26), 3) := by decide +kernel
theorem d_R_takeFirst_35 : decode b_R_takeFirst 35 = .ok (.return_, 1) := by decide +kernel
-- BlockVault$Row.takeFirst(ILBlockVault$Row;)V: labels [0, 6], loops [6]
abbrev rm_R_takeFirst : Room := { frames := 1, cells := 0, slots := 0, locals := 21 }
def cR_takeFirst_6 (X : Nat → xm_PT) (Rh : Option Value → xm_M → Prop) : xm_PT := (xo_iload 3 (xo_iload 1 (xo_icmp (fun x y => y ≤ x) (xo_vret Rh) (xo_iload 3 (xo_aload 2 (xo_get 2 1 (xo_icmp (fun x y => y ≤ x) (xo_vret Rh) (xo_aload 0 (xo_aload 2 (xo_get 2 0 (xo_iload 3 (xo_aald ats (xo_callV 2 1 0 0 cp_R_add (xo_iinc 3 1 (xo_jmp [0, 1, 2, 3] (X 6))))))))))))))))
def cR_takeFirst_0 (X : Nat → xm_PT) (Rh : Option Value → xm_M → Prop) : xm_PT := (xo_aload 0 (xo_callV 2 0 0 0 cp_R_clear (xo_push (.int 0) (xo_istore 3 (xo_jmp [0, 1, 2, 3] (X 6))))))
def fR_takeFirst : xm_F := fun X Rh lb => if lb = 0 then cR_takeFirst_0 X Rh else (if lb = 6 then cR_takeFirst_6 X Rh else fun _ _ _ _ _ => False)
def cp_R_takeFirst : xm_CP := fun as m Rh => (lg_sl as).length ≤ 4 ∧ xm_cp fR_takeFirst 0 0 as m Rh
theorem eR_takeFirst_0 {X : Nat → xm_PT} {Rh : Option Value → xm_M → Prop} (hX : ∀ lb, xm_le (fR_takeFirst X Rh lb) (X lb)) {ls : xm_L} {st : List Value} {m : xm_M} {bc bs : Nat} (h : cR_takeFirst_0 X Rh ls st m bc bs) : X 0 ls st m bc bs := hX 0 ls st m bc bs h
theorem eR_takeFirst_6 {X : Nat → xm_PT} {Rh : Option Value → xm_M → Prop} (hX : ∀ lb, xm_le (fR_takeFirst X Rh lb) (X lb)) {ls : xm_L} {st : List Value} {m : xm_M} {bc bs : Nat} (h : cR_takeFirst_6 X Rh ls st m bc bs) : X 6 ls st m bc bs := hX 6 ls st m bc bs h
set_option maxRecDepth 20000 in
set_option maxHeartbeats 4000000 in
theorem sR_takeFirst_6 {p : Program} {l : Launch} {e : Env} {s : State} {mm : MethodId} {args : Array Value} {below : List Frame} {meth : Method} {c : Code} {D : va_G} {A : Nat → Prop} {Rh : Option Value → xm_M → Prop} (C : xm_C p s mm args c b_R_takeFirst 4 "BlockVault$Row" w_R_takeFirst D classes ats A) (hr : meth.sig.returnType = none) (hlk : meth.locks = false) (hnm : meth.name = "takeFirst") : xm_le (cR_takeFirst_6 (xm_A p l e rm_R_takeFirst s mm args below meth c 4 D classes A (MQ below (xm_Q D classes Rh A) args s 0 0 A)) Rh) ((xm_A p l e rm_R_takeFirst s mm args below meth c 4 D classes A (MQ below (xm_Q D classes Rh A) args s 0 0 A)) 6) :=
  (xs_iload_n C d_R_takeFirst_6 rfl (xs_iload_n C d_R_takeFirst_7 rfl (xs_icmp_ge C d_R_takeFirst_8 (by decide) (xs_vret C d_R_takeFirst_35 hr hlk rfl rfl) (xs_iload_n C d_R_takeFirst_11 rfl (xs_aload_n C d_R_takeFirst_12 rfl (xs_get C (k := 1) d_R_takeFirst_13 h_R (ci := 2) rfl (by decide) (List.mem_cons_of_mem _ tw_35) rfl (xs_icmp_ge C d_R_takeFirst_16 (by decide) (xs_vret C d_R_takeFirst_35 hr hlk rfl rfl) (xs_aload_n C d_R_takeFirst_19 rfl (xs_aload_n C d_R_takeFirst_20 rfl (xs_get C (k := 0) d_R_takeFirst_21 h_R (ci := 2) rfl (by decide) (List.mem_cons_of_mem _ tw_34) rfl (xs_iload_n C d_R_takeFirst_24 rfl (xs_aald C d_R_takeFirst_25 (xs_callV C (CN := "BlockVault$Row") (T := F_R) (N := 2) d_R_takeFirst_26 (met_R_add l D) ⟨callB_of (ws := w_R_add) (rm := rm_R_add) 1 C.1.2.2.2.2 (gG_m tw_201) rfl rfl rfl (C.1.2.2.2.2 _ (List.mem_cons_of_mem _ tw_3)) (C.1.2.2.2.2 _ (List.mem_cons_of_mem _ tw_304)) ⟨by decide, by decide, by decide +kernel⟩ ⟨Nat.le_of_ble_eq_true rfl, Nat.le_of_ble_eq_true rfl⟩, (C.1.2.2.2.2 _ (List.mem_cons_of_mem _ tw_199)), (C.1.2.2.2.2 _ (List.mem_cons_of_mem _ tw_200))⟩ (ci := 2) rfl (xs_iinc C d_R_takeFirst_29 (by decide) (by decide) (xs_goto C d_R_takeFirst_32 (by decide) (xs_jmp (fun _ _ _ _ _ h => h)))))))))))))))))
set_option maxRecDepth 20000 in
set_option maxHeartbeats 4000000 in
theorem sR_takeFirst_0 {p : Program} {l : Launch} {e : Env} {s : State} {mm : MethodId} {args : Array Value} {below : List Frame} {meth : Method} {c : Code} {D : va_G} {A : Nat → Prop} {Rh : Option Value → xm_M → Prop} (C : xm_C p s mm args c b_R_takeFirst 4 "BlockVault$Row" w_R_takeFirst D classes ats A) (hr : meth.sig.returnType = none) (hlk : meth.locks = false) (hnm : meth.name = "takeFirst") : xm_le (cR_takeFirst_0 (xm_A p l e rm_R_takeFirst s mm args below meth c 4 D classes A (MQ below (xm_Q D classes Rh A) args s 0 0 A)) Rh) ((xm_A p l e rm_R_takeFirst s mm args below meth c 4 D classes A (MQ below (xm_Q D classes Rh A) args s 0 0 A)) 0) :=
  (xs_aload_n C d_R_takeFirst_0 rfl (xs_callV C (CN := "BlockVault$Row") (T := F_R) (N := 2) d_R_takeFirst_1 (met_R_clear l D) ⟨callB_of (ws := w_R_clear) (rm := rm_R_clear) 0 C.1.2.2.2.2 (gG_m tw_220) rfl rfl rfl (C.1.2.2.2.2 _ (List.mem_cons_of_mem _ tw_3)) (C.1.2.2.2.2 _ (List.mem_cons_of_mem _ tw_303)) ⟨by decide, by decide, by decide +kernel⟩ ⟨Nat.le_of_ble_eq_true rfl, Nat.le_of_ble_eq_true rfl⟩, (C.1.2.2.2.2 _ (List.mem_cons_of_mem _ tw_218)), (C.1.2.2.2.2 _ (List.mem_cons_of_mem _ tw_219))⟩ (ci := 2) rfl (xs_iconst C d_R_takeFirst_4 (by decide) (xs_istore_n C d_R_takeFirst_5 rfl (by decide) (xs_jmp (fun _ _ _ _ _ h => h))))))
theorem met_R_takeFirst (l : Launch) (D : va_G) : xm_Met l D classes ats y_R_takeFirst w_R_takeFirst rm_R_takeFirst 0 0 cp_R_takeFirst := by
  refine xm_met 0 (by decide) rfl rfl rfl (fun p e s mm args below meth c A Rh C hr hlk hnm lb => ?_)
  unfold fR_takeFirst
  split
  · rename_i h; subst h; exact sR_takeFirst_0 C hr hlk hnm
  split
  · rename_i h; subst h; exact sR_takeFirst_6 C hr hlk hnm
  · exact fun _ _ _ _ _ h => h.elim
theorem d_V_endWaitsFor_0 : decode b_V_endWaitsFor 0 = .ok (.iconst 0, 1) := by decide +kernel
theorem d_V_endWaitsFor_1 : decode b_V_endWaitsFor 1 = .ok (.istore_n 2, 1) := by decide +kernel
theorem d_V_endWaitsFor_2 : decode b_V_endWaitsFor 2 = .ok (.iload_n 2, 1) := by decide +kernel
theorem d_V_endWaitsFor_3 : decode b_V_endWaitsFor 3 = .ok (.bipush 8, 2) := by decide +kernel
theorem d_V_endWaitsFor_5 : decode b_V_endWaitsFor 5 = .ok (.if_icmp .ge 33, 3) := by decide +kernel
theorem d_V_endWaitsFor_8 : decode b_V_endWaitsFor 8 = .ok (.aload_n 0, 1) := by decide +kernel
theorem d_V_endWaitsFor_9 : decode b_V_endWaitsFor 9 = .ok (.getfield 11, 3) := by decide +kernel
theorem d_V_endWaitsFor_12 : decode b_V_endWaitsFor 12 = .ok (.iload_n 2, 1) := by decide +kernel
theorem d_V_endWaitsFor_13 : decode b_V_endWaitsFor 13 = .ok (.aaload, 1) := by decide +kernel
theorem d_V_endWaitsFor_14 : decode b_V_endWaitsFor 14 = .ok (.dup, 1) := by decide +kernel
theorem d_V_endWaitsFor_15 : decode b_V_endWaitsFor 15 = .ok (.getfield 175, 3) := by decide +kernel
theorem d_V_endWaitsFor_18 : decode b_V_endWaitsFor 18 = .ok (.iconst 1, 1) := by decide +kernel
theorem d_V_endWaitsFor_19 : decode b_V_endWaitsFor 19 = .ok (.iload_n 1, 1) := by decide +kernel
theorem d_V_endWaitsFor_20 : decode b_V_endWaitsFor 20 = .ok (.ishl, 1) := by decide +kernel
theorem d_V_endWaitsFor_21 : decode b_V_endWaitsFor 21 = .ok (.iconst (-1), 1) := by decide +kernel
theorem d_V_endWaitsFor_22 : decode b_V_endWaitsFor 22 = .ok (.ixor, 1) := by decide +kernel
theorem d_V_endWaitsFor_23 : decode b_V_endWaitsFor 23 = .ok (.iand, 1) := by decide +kernel
theorem d_V_endWaitsFor_24 : decode b_V_endWaitsFor 24 = .ok (.putfield 175, 3) := by decide +kernel
theorem d_V_endWaitsFor_27 : decode b_V_endWaitsFor 27 = .ok (.aload_n 0, 1) := by decide +kernel
theorem d_V_endWaitsFor_28 : decode b_V_endWaitsFor 28 = .ok (.iload_n 2, 1) := by decide +kernel
theorem d_V_endWaitsFor_29 : decode b_V_endWaitsFor 29 = .ok (.invokevirtual 229, 3) := by decide +kernel
theorem d_V_endWaitsFor_32 : decode b_V_endWaitsFor 32 = .ok (.iinc 2 1, 3) := by decide +kernel
theorem d_V_endWaitsFor_35 : decode b_V_endWaitsFor 35 = .ok (.goto (-33), 3) := by decide +kernel
theorem d_V_endWaitsFor_38 : decode b_V_endWaitsFor 38 = .ok (.return_, 1) := by decide +kernel
-- BlockVault.endWaitsFor(I)V: labels [0, 2], loops [2]
abbrev rm_V_endWaitsFor : Room := { frames := 1, cells := 0, slots := 0, locals := 21 }
def cV_endWaitsFor_2 (X : Nat → xm_PT) (Rh : Option Value → xm_M → Prop) : xm_PT := (xo_iload 2 (xo_push (.int (nI 8)) (xo_icmp (fun x y => y ≤ x) (xo_vret Rh) (xo_aload 0 (xo_get 0 0 (xo_iload 2 (xo_aald ats (xo_dup (xo_get 3 4 (xo_push (.int 1) (xo_iload 1 (xo_ibin (fun x y => x <<< (y &&& 31)) (xo_push (.int (-1)) (xo_ibin (fun x y => x ^^^ y) (xo_ibin (fun x y => x &&& y) (xo_put 3 4 .int (xo_aload 0 (xo_iload 2 (xo_callV 0 1 0 0 cp_V_freeIfWaitIsOver (xo_iinc 2 1 (xo_jmp [0, 1, 2] (X 2))))))))))))))))))))))
def cV_endWaitsFor_0 (X : Nat → xm_PT) (Rh : Option Value → xm_M → Prop) : xm_PT := (xo_push (.int 0) (xo_istore 2 (xo_jmp [0, 1, 2] (X 2))))
def fV_endWaitsFor : xm_F := fun X Rh lb => if lb = 0 then cV_endWaitsFor_0 X Rh else (if lb = 2 then cV_endWaitsFor_2 X Rh else fun _ _ _ _ _ => False)
def cp_V_endWaitsFor : xm_CP := fun as m Rh => (lg_sl as).length ≤ 3 ∧ xm_cp fV_endWaitsFor 0 0 as m Rh
theorem eV_endWaitsFor_0 {X : Nat → xm_PT} {Rh : Option Value → xm_M → Prop} (hX : ∀ lb, xm_le (fV_endWaitsFor X Rh lb) (X lb)) {ls : xm_L} {st : List Value} {m : xm_M} {bc bs : Nat} (h : cV_endWaitsFor_0 X Rh ls st m bc bs) : X 0 ls st m bc bs := hX 0 ls st m bc bs h
theorem eV_endWaitsFor_2 {X : Nat → xm_PT} {Rh : Option Value → xm_M → Prop} (hX : ∀ lb, xm_le (fV_endWaitsFor X Rh lb) (X lb)) {ls : xm_L} {st : List Value} {m : xm_M} {bc bs : Nat} (h : cV_endWaitsFor_2 X Rh ls st m bc bs) : X 2 ls st m bc bs := hX 2 ls st m bc bs h
set_option maxRecDepth 20000 in
set_option maxHeartbeats 4000000 in
theorem sV_endWaitsFor_2 {p : Program} {l : Launch} {e : Env} {s : State} {mm : MethodId} {args : Array Value} {below : List Frame} {meth : Method} {c : Code} {D : va_G} {A : Nat → Prop} {Rh : Option Value → xm_M → Prop} (C : xm_C p s mm args c b_V_endWaitsFor 3 "BlockVault" w_V_endWaitsFor D classes ats A) (hr : meth.sig.returnType = none) (hlk : meth.locks = false) (hnm : meth.name = "endWaitsFor") : xm_le (cV_endWaitsFor_2 (xm_A p l e rm_V_endWaitsFor s mm args below meth c 3 D classes A (MQ below (xm_Q D classes Rh A) args s 0 0 A)) Rh) ((xm_A p l e rm_V_endWaitsFor s mm args below meth c 3 D classes A (MQ below (xm_Q D classes Rh A) args s 0 0 A)) 2) :=
  (xs_iload_n C d_V_endWaitsFor_2 rfl (xs_bipush C d_V_endWaitsFor_3 (by decide) (xs_icmp_ge C d_V_endWaitsFor_5 (by decide) (xs_vret C d_V_endWaitsFor_38 hr hlk rfl rfl) (xs_aload_n C d_V_endWaitsFor_8 rfl (xs_get C (k := 0) d_V_endWaitsFor_9 h_V (ci := 0) rfl (by decide) (List.mem_cons_of_mem _ tw_81) rfl (xs_iload_n C d_V_endWaitsFor_12 rfl (xs_aald C d_V_endWaitsFor_13 (xs_dup C d_V_endWaitsFor_14 (xs_get C (k := 4) d_V_endWaitsFor_15 h_B (ci := 3) rfl (by decide) (List.mem_cons_of_mem _ tw_51) rfl (xs_iconst C d_V_endWaitsFor_18 (by decide) (xs_iload_n C d_V_endWaitsFor_19 rfl (xs_ishl C d_V_endWaitsFor_20 (xs_iconst C d_V_endWaitsFor_21 (by decide) (xs_ixor C d_V_endWaitsFor_22 (xs_iand C d_V_endWaitsFor_23 (xs_put C (k := 4) d_V_endWaitsFor_24 h_B t_B t_B_ok n_B (ci := 3) rfl (by decide) (List.mem_cons_of_mem _ tw_51) rfl rfl (by decide +kernel) (xs_aload_n C d_V_endWaitsFor_27 rfl (xs_iload_n C d_V_endWaitsFor_28 rfl (xs_callV C (CN := "BlockVault") (T := F_V) (N := 8) d_V_endWaitsFor_29 (met_V_freeIfWaitIsOver l D) ⟨callB_of (ws := w_V_freeIfWaitIsOver) (rm := rm_V_freeIfWaitIsOver) 1 C.1.2.2.2.2 (gG_m tw_228) rfl rfl rfl (C.1.2.2.2.2 _ (List.mem_cons_of_mem _ tw_1)) (C.1.2.2.2.2 _ (List.mem_cons_of_mem _ tw_225)) ⟨by decide, by decide, by decide +kernel⟩ ⟨Nat.le_of_ble_eq_true rfl, Nat.le_of_ble_eq_true rfl⟩, (C.1.2.2.2.2 _ (List.mem_cons_of_mem _ tw_227)), (C.1.2.2.2.2 _ (List.mem_cons_of_mem _ ts_12))⟩ (ci := 0) rfl (xs_iinc C d_V_endWaitsFor_32 (by decide) (by decide) (xs_goto C d_V_endWaitsFor_35 (by decide) (xs_jmp (fun _ _ _ _ _ h => h)))))))))))))))))))))))
set_option maxRecDepth 20000 in
set_option maxHeartbeats 4000000 in
theorem sV_endWaitsFor_0 {p : Program} {l : Launch} {e : Env} {s : State} {mm : MethodId} {args : Array Value} {below : List Frame} {meth : Method} {c : Code} {D : va_G} {A : Nat → Prop} {Rh : Option Value → xm_M → Prop} (C : xm_C p s mm args c b_V_endWaitsFor 3 "BlockVault" w_V_endWaitsFor D classes ats A) (hr : meth.sig.returnType = none) (hlk : meth.locks = false) (hnm : meth.name = "endWaitsFor") : xm_le (cV_endWaitsFor_0 (xm_A p l e rm_V_endWaitsFor s mm args below meth c 3 D classes A (MQ below (xm_Q D classes Rh A) args s 0 0 A)) Rh) ((xm_A p l e rm_V_endWaitsFor s mm args below meth c 3 D classes A (MQ below (xm_Q D classes Rh A) args s 0 0 A)) 0) :=
  (xs_iconst C d_V_endWaitsFor_0 (by decide) (xs_istore_n C d_V_endWaitsFor_1 rfl (by decide) (xs_jmp (fun _ _ _ _ _ h => h))))
theorem met_V_endWaitsFor (l : Launch) (D : va_G) : xm_Met l D classes ats y_V_endWaitsFor w_V_endWaitsFor rm_V_endWaitsFor 0 0 cp_V_endWaitsFor := by
  refine xm_met 0 (by decide) rfl rfl rfl (fun p e s mm args below meth c A Rh C hr hlk hnm lb => ?_)
  unfold fV_endWaitsFor
  split
  · rename_i h; subst h; exact sV_endWaitsFor_0 C hr hlk hnm
  split
  · rename_i h; subst h; exact sV_endWaitsFor_2 C hr hlk hnm
  · exact fun _ _ _ _ _ h => h.elim
theorem d_V_writeBlock_0 : decode b_V_writeBlock 0 = .ok (.aload_n 0, 1) := by decide +kernel
theorem d_V_writeBlock_1 : decode b_V_writeBlock 1 = .ok (.getfield 11, 3) := by decide +kernel
theorem d_V_writeBlock_4 : decode b_V_writeBlock 4 = .ok (.iload_n 1, 1) := by decide +kernel
theorem d_V_writeBlock_5 : decode b_V_writeBlock 5 = .ok (.aaload, 1) := by decide +kernel
theorem d_V_writeBlock_6 : decode b_V_writeBlock 6 = .ok (.astore_n 2, 1) := by decide +kernel
theorem d_V_writeBlock_7 : decode b_V_writeBlock 7 = .ok (.aload_n 2, 1) := by decide +kernel
theorem d_V_writeBlock_8 : decode b_V_writeBlock 8 = .ok (.getfield 120, 3) := by decide +kernel
theorem d_V_writeBlock_11 : decode b_V_writeBlock 11 = .ok (.aload_n 2, 1) := by decide +kernel
theorem d_V_writeBlock_12 : decode b_V_writeBlock 12 = .ok (.getfield 111, 3) := by decide +kernel
theorem d_V_writeBlock_15 : decode b_V_writeBlock 15 = .ok (.getfield 115, 3) := by decide +kernel
theorem d_V_writeBlock_18 : decode b_V_writeBlock 18 = .ok (.aload_n 2, 1) := by decide +kernel
theorem d_V_writeBlock_19 : decode b_V_writeBlock 19 = .ok (.getfield 111, 3) := by decide +kernel
theorem d_V_writeBlock_22 : decode b_V_writeBlock 22 = .ok (.invokevirtual 123, 3) := by decide +kernel
theorem d_V_writeBlock_25 : decode b_V_writeBlock 25 = .ok (.aload_n 2, 1) := by decide +kernel
theorem d_V_writeBlock_26 : decode b_V_writeBlock 26 = .ok (.iconst 3, 1) := by decide +kernel
theorem d_V_writeBlock_27 : decode b_V_writeBlock 27 = .ok (.putfield 166, 3) := by decide +kernel
theorem d_V_writeBlock_30 : decode b_V_writeBlock 30 = .ok (.aload_n 0, 1) := by decide +kernel
theorem d_V_writeBlock_31 : decode b_V_writeBlock 31 = .ok (.iload_n 1, 1) := by decide +kernel
theorem d_V_writeBlock_32 : decode b_V_writeBlock 32 = .ok (.invokevirtual 226, 3) := by decide +kernel
theorem d_V_writeBlock_35 : decode b_V_writeBlock 35 = .ok (.aload_n 0, 1) := by decide +kernel
theorem d_V_writeBlock_36 : decode b_V_writeBlock 36 = .ok (.iload_n 1, 1) := by decide +kernel
theorem d_V_writeBlock_37 : decode b_V_writeBlock 37 = .ok (.invokevirtual 220, 3) := by decide +kernel
theorem d_V_writeBlock_40 : decode b_V_writeBlock 40 = .ok (.return_, 1) := by decide +kernel
-- BlockVault.writeBlock(I)V: labels [0], loops []
abbrev rm_V_writeBlock : Room := { frames := 2, cells := 0, slots := 0, locals := 44 }
def cV_writeBlock_0 (X : Nat → xm_PT) (Rh : Option Value → xm_M → Prop) : xm_PT := (xo_aload 0 (xo_get 0 0 (xo_iload 1 (xo_aald ats (xo_astore 2 (xo_aload 2 (xo_get 3 1 (xo_aload 2 (xo_get 3 0 (xo_get 2 1 (xo_aload 2 (xo_get 3 0 (xo_callV 2 2 0 0 cp_R_takeFirst (xo_aload 2 (xo_push (.int (nI 3)) (xo_put 3 2 .int (xo_aload 0 (xo_iload 1 (xo_callV 0 1 0 0 cp_V_endWaitsFor (xo_aload 0 (xo_iload 1 (xo_callV 0 1 0 0 cp_V_emptyIfDead (xo_vret Rh)))))))))))))))))))))))
def fV_writeBlock : xm_F := fun X Rh lb => if lb = 0 then cV_writeBlock_0 X Rh else fun _ _ _ _ _ => False
def cp_V_writeBlock : xm_CP := fun as m Rh => (lg_sl as).length ≤ 3 ∧ xm_cp fV_writeBlock 0 0 as m Rh
theorem eV_writeBlock_0 {X : Nat → xm_PT} {Rh : Option Value → xm_M → Prop} (hX : ∀ lb, xm_le (fV_writeBlock X Rh lb) (X lb)) {ls : xm_L} {st : List Value} {m : xm_M} {bc bs : Nat} (h : cV_writeBlock_0 X Rh ls st m bc bs) : X 0 ls st m bc bs := hX 0 ls st m bc bs h
set_option maxRecDepth 20000 in
set_option maxHeartbeats 4000000 in
theorem sV_writeBlock_0 {p : Program} {l : Launch} {e : Env} {s : State} {mm : MethodId} {args : Array Value} {below : List Frame} {meth : Method} {c : Code} {D : va_G} {A : Nat → Prop} {Rh : Option Value → xm_M → Prop} (C : xm_C p s mm args c b_V_writeBlock 3 "BlockVault" w_V_writeBlock D classes ats A) (hr : meth.sig.returnType = none) (hlk : meth.locks = false) (hnm : meth.name = "writeBlock") : xm_le (cV_writeBlock_0 (xm_A p l e rm_V_writeBlock s mm args below meth c 3 D classes A (MQ below (xm_Q D classes Rh A) args s 0 0 A)) Rh) ((xm_A p l e rm_V_writeBlock s mm args below meth c 3 D classes A (MQ below (xm_Q D classes Rh A) args s 0 0 A)) 0) :=
  (xs_aload_n C d_V_writeBlock_0 rfl (xs_get C (k := 0) d_V_writeBlock_1 h_V (ci := 0) rfl (by decide) (List.mem_cons_of_mem _ tw_81) rfl (xs_iload_n C d_V_writeBlock_4 rfl (xs_aald C d_V_writeBlock_5 (xs_astore_n C d_V_writeBlock_6 rfl (by decide) (xs_aload_n C d_V_writeBlock_7 rfl (xs_get C (k := 1) d_V_writeBlock_8 h_B (ci := 3) rfl (by decide) (List.mem_cons_of_mem _ tw_45) rfl (xs_aload_n C d_V_writeBlock_11 rfl (xs_get C (k := 0) d_V_writeBlock_12 h_B (ci := 3) rfl (by decide) (List.mem_cons_of_mem _ tw_43) rfl (xs_get C (k := 1) d_V_writeBlock_15 h_R (ci := 2) rfl (by decide) (List.mem_cons_of_mem _ tw_36) rfl (xs_aload_n C d_V_writeBlock_18 rfl (xs_get C (k := 0) d_V_writeBlock_19 h_B (ci := 3) rfl (by decide) (List.mem_cons_of_mem _ tw_43) rfl (xs_callV C (CN := "BlockVault$Row") (T := F_R) (N := 2) d_V_writeBlock_22 (met_R_takeFirst l D) ⟨callB_of (ws := w_R_takeFirst) (rm := rm_R_takeFirst) 2 C.1.2.2.2.2 (gG_m tw_302) rfl rfl rfl (C.1.2.2.2.2 _ (List.mem_cons_of_mem _ tw_3)) (C.1.2.2.2.2 _ (List.mem_cons_of_mem _ tw_299)) ⟨by decide, by decide, by decide +kernel⟩ ⟨Nat.le_of_ble_eq_true rfl, Nat.le_of_ble_eq_true rfl⟩, (C.1.2.2.2.2 _ (List.mem_cons_of_mem _ tw_300)), (C.1.2.2.2.2 _ (List.mem_cons_of_mem _ tw_301))⟩ (ci := 2) rfl (xs_aload_n C d_V_writeBlock_25 rfl (xs_iconst C d_V_writeBlock_26 (by decide) (xs_put C (k := 2) d_V_writeBlock_27 h_B t_B t_B_ok n_B (ci := 3) rfl (by decide) (List.mem_cons_of_mem _ tw_47) rfl rfl (by decide +kernel) (xs_aload_n C d_V_writeBlock_30 rfl (xs_iload_n C d_V_writeBlock_31 rfl (xs_callV C (CN := "BlockVault") (T := F_V) (N := 8) d_V_writeBlock_32 (met_V_endWaitsFor l D) ⟨callB_of (ws := w_V_endWaitsFor) (rm := rm_V_endWaitsFor) 1 C.1.2.2.2.2 (gG_m tw_308) rfl rfl rfl (C.1.2.2.2.2 _ (List.mem_cons_of_mem _ tw_1)) (C.1.2.2.2.2 _ (List.mem_cons_of_mem _ tw_305)) ⟨by decide, by decide, by decide +kernel⟩ ⟨Nat.le_of_ble_eq_true rfl, Nat.le_of_ble_eq_true rfl⟩, (C.1.2.2.2.2 _ (List.mem_cons_of_mem _ tw_307)), (C.1.2.2.2.2 _ (List.mem_cons_of_mem _ ts_20))⟩ (ci := 0) rfl (xs_aload_n C d_V_writeBlock_35 rfl (xs_iload_n C d_V_writeBlock_36 rfl (xs_callV C (CN := "BlockVault") (T := F_V) (N := 8) d_V_writeBlock_37 (met_V_emptyIfDead l D) ⟨callB_of (ws := w_V_emptyIfDead) (rm := rm_V_emptyIfDead) 1 C.1.2.2.2.2 (gG_m tw_209) rfl rfl rfl (C.1.2.2.2.2 _ (List.mem_cons_of_mem _ tw_1)) (C.1.2.2.2.2 _ (List.mem_cons_of_mem _ tw_206)) ⟨by decide, by decide, by decide +kernel⟩ ⟨Nat.le_of_ble_eq_true rfl, Nat.le_of_ble_eq_true rfl⟩, (C.1.2.2.2.2 _ (List.mem_cons_of_mem _ tw_208)), (C.1.2.2.2.2 _ (List.mem_cons_of_mem _ ts_9))⟩ (ci := 0) rfl (xs_vret C d_V_writeBlock_40 hr hlk rfl rfl)))))))))))))))))))))))
theorem met_V_writeBlock (l : Launch) (D : va_G) : xm_Met l D classes ats y_V_writeBlock w_V_writeBlock rm_V_writeBlock 0 0 cp_V_writeBlock := by
  refine xm_met 0 (by decide) rfl rfl rfl (fun p e s mm args below meth c A Rh C hr hlk hnm lb => ?_)
  unfold fV_writeBlock
  split
  · rename_i h; subst h; exact sV_writeBlock_0 C hr hlk hnm
  · exact fun _ _ _ _ _ h => h.elim
theorem d_V_flush_0 : decode b_V_flush 0 = .ok (.iload_n 1, 1) := by decide +kernel
theorem d_V_flush_1 : decode b_V_flush 1 = .ok (.iconst 1, 1) := by decide +kernel
theorem d_V_flush_2 : decode b_V_flush 2 = .ok (.if_icmp .lt 8, 3) := by decide +kernel
theorem d_V_flush_5 : decode b_V_flush 5 = .ok (.iload_n 1, 1) := by decide +kernel
theorem d_V_flush_6 : decode b_V_flush 6 = .ok (.iconst 3, 1) := by decide +kernel
theorem d_V_flush_7 : decode b_V_flush 7 = .ok (.if_icmp .le 5, 3) := by decide +kernel
theorem d_V_flush_10 : decode b_V_flush 10 = .ok (.iconst (-1), 1) := by decide +kernel
theorem d_V_flush_11 : decode b_V_flush 11 = .ok (.ireturn, 1) := by decide +kernel
theorem d_V_flush_12 : decode b_V_flush 12 = .ok (.aload_n 0, 1) := by decide +kernel
theorem d_V_flush_13 : decode b_V_flush 13 = .ok (.getfield 37, 3) := by decide +kernel
theorem d_V_flush_16 : decode b_V_flush 16 = .ok (.ifCond .eq 6, 3) := by decide +kernel
theorem d_V_flush_19 : decode b_V_flush 19 = .ok (.bipush (-2), 2) := by decide +kernel
theorem d_V_flush_21 : decode b_V_flush 21 = .ok (.ireturn, 1) := by decide +kernel
theorem d_V_flush_22 : decode b_V_flush 22 = .ok (.iconst 0, 1) := by decide +kernel
theorem d_V_flush_23 : decode b_V_flush 23 = .ok (.istore_n 2, 1) := by decide +kernel
theorem d_V_flush_24 : decode b_V_flush 24 = .ok (.iload_n 2, 1) := by decide +kernel
theorem d_V_flush_25 : decode b_V_flush 25 = .ok (.iload_n 1, 1) := by decide +kernel
theorem d_V_flush_26 : decode b_V_flush 26 = .ok (.if_icmp .ge 27, 3) := by decide +kernel
theorem d_V_flush_29 : decode b_V_flush 29 = .ok (.aload_n 0, 1) := by decide +kernel
theorem d_V_flush_30 : decode b_V_flush 30 = .ok (.invokevirtual 99, 3) := by decide +kernel
theorem d_V_flush_33 : decode b_V_flush 33 = .ok (.istore_n 3, 1) := by decide +kernel
theorem d_V_flush_34 : decode b_V_flush 34 = .ok (.iload_n 3, 1) := by decide +kernel
theorem d_V_flush_35 : decode b_V_flush 35 = .ok (.iconst (-1), 1) := by decide +kernel
theorem d_V_flush_36 : decode b_V_flush 36 = .ok (.if_icmp .ne 6, 3) := by decide +kernel
theorem d_V_flush_39 : decode b_V_flush 39 = .ok (.goto 14, 3) := by decide +kernel
theorem d_V_flush_42 : decode b_V_flush 42 = .ok (.aload_n 0, 1) := by decide +kernel
theorem d_V_flush_43 : decode b_V_flush 43 = .ok (.iload_n 3, 1) := by decide +kernel
theorem d_V_flush_44 : decode b_V_flush 44 = .ok (.invokevirtual 102, 3) := by decide +kernel
theorem d_V_flush_47 : decode b_V_flush 47 = .ok (.iinc 2 1, 3) := by decide +kernel
theorem d_V_flush_50 : decode b_V_flush 50 = .ok (.goto (-26), 3) := by decide +kernel
theorem d_V_flush_53 : decode b_V_flush 53 = .ok (.aload_n 0, 1) := by decide +kernel
theorem d_V_flush_54 : decode b_V_flush 54 = .ok (.dup, 1) := by decide +kernel
theorem d_V_flush_55 : decode b_V_flush 55 = .ok (.getfield 31, 3) := by decide +kernel
theorem d_V_flush_58 : decode b_V_flush 58 = .ok (.iload_n 2, 1) := by decide +kernel
theorem d_V_flush_59 : decode b_V_flush 59 = .ok (.iadd, 1) := by decide +kernel
theorem d_V_flush_60 : decode b_V_flush 60 = .ok (.putfield 31, 3) := by decide +kernel
theorem d_V_flush_63 : decode b_V_flush 63 = .ok (.iload_n 2, 1) := by decide +kernel
theorem d_V_flush_64 : decode b_V_flush 64 = .ok (.ireturn, 1) := by decide +kernel
-- BlockVault.flush(I)I: labels [0, 24, 53], loops [24]
abbrev rm_V_flush : Room := { frames := 3, cells := 0, slots := 0, locals := 66 }
def cV_flush_53 (X : Nat → xm_PT) (Rh : Option Value → xm_M → Prop) : xm_PT := (xo_aload 0 (xo_dup (xo_get 0 5 (xo_iload 2 (xo_ibin (fun x y => x + y) (xo_put 0 5 .int (xo_iload 2 (xo_iret Rh))))))))
def cV_flush_24 (X : Nat → xm_PT) (Rh : Option Value → xm_M → Prop) : xm_PT := (xo_iload 2 (xo_iload 1 (xo_icmp (fun x y => y ≤ x) (xo_jmp [0, 2] (cV_flush_53 X Rh)) (xo_aload 0 (xo_callV 0 0 0 0 cp_V_longestSealed (xo_istore 3 (xo_iload 3 (xo_push (.int (-1)) (xo_icmp (fun x y => x = y) (xo_jmp [0, 2] (cV_flush_53 X Rh)) (xo_aload 0 (xo_iload 3 (xo_callV 0 1 0 0 cp_V_writeBlock (xo_iinc 2 1 (xo_jmp [0, 1, 2] (X 24)))))))))))))))
def cV_flush_0 (X : Nat → xm_PT) (Rh : Option Value → xm_M → Prop) : xm_PT := (xo_iload 1 (xo_push (.int 1) (xo_icmp (fun x y => x < y) (xo_push (.int (-1)) (xo_iret Rh)) (xo_iload 1 (xo_push (.int (nI 3)) (xo_icmp (fun x y => x ≤ y) (xo_aload 0 (xo_get 0 7 (xo_if (fun x => x = 0) (xo_push (.int 0) (xo_istore 2 (xo_jmp [0, 1, 2] (X 24)))) (xo_push (.int (-2)) (xo_iret Rh))))) (xo_push (.int (-1)) (xo_iret Rh))))))))
def fV_flush : xm_F := fun X Rh lb => if lb = 0 then cV_flush_0 X Rh else (if lb = 24 then cV_flush_24 X Rh else fun _ _ _ _ _ => False)
def cp_V_flush : xm_CP := fun as m Rh => (lg_sl as).length ≤ 4 ∧ xm_cp fV_flush 0 0 as m Rh
theorem eV_flush_0 {X : Nat → xm_PT} {Rh : Option Value → xm_M → Prop} (hX : ∀ lb, xm_le (fV_flush X Rh lb) (X lb)) {ls : xm_L} {st : List Value} {m : xm_M} {bc bs : Nat} (h : cV_flush_0 X Rh ls st m bc bs) : X 0 ls st m bc bs := hX 0 ls st m bc bs h
theorem eV_flush_24 {X : Nat → xm_PT} {Rh : Option Value → xm_M → Prop} (hX : ∀ lb, xm_le (fV_flush X Rh lb) (X lb)) {ls : xm_L} {st : List Value} {m : xm_M} {bc bs : Nat} (h : cV_flush_24 X Rh ls st m bc bs) : X 24 ls st m bc bs := hX 24 ls st m bc bs h
set_option maxRecDepth 20000 in
set_option maxHeartbeats 4000000 in
theorem sV_flush_53 {p : Program} {l : Launch} {e : Env} {s : State} {mm : MethodId} {args : Array Value} {below : List Frame} {meth : Method} {c : Code} {D : va_G} {A : Nat → Prop} {Rh : Option Value → xm_M → Prop} (C : xm_C p s mm args c b_V_flush 4 "BlockVault" w_V_flush D classes ats A) (hr : meth.sig.returnType = (some .int)) (hlk : meth.locks = false) (hnm : meth.name = "flush") : xm_le (cV_flush_53 (xm_A p l e rm_V_flush s mm args below meth c 4 D classes A (MQ below (xm_Q D classes Rh A) args s 0 0 A)) Rh) ((xm_A p l e rm_V_flush s mm args below meth c 4 D classes A (MQ below (xm_Q D classes Rh A) args s 0 0 A)) 53) :=
  (xs_aload_n C d_V_flush_53 rfl (xs_dup C d_V_flush_54 (xs_get C (k := 5) d_V_flush_55 h_V (ci := 0) rfl (by decide) (List.mem_cons_of_mem _ tw_86) rfl (xs_iload_n C d_V_flush_58 rfl (xs_iadd C d_V_flush_59 (xs_put C (k := 5) d_V_flush_60 h_V t_V t_V_ok n_V (ci := 0) rfl (by decide) (List.mem_cons_of_mem _ tw_86) rfl rfl (by decide +kernel) (xs_iload_n C d_V_flush_63 rfl (xs_iret C d_V_flush_64 hr hlk rfl rfl))))))))
set_option maxRecDepth 20000 in
set_option maxHeartbeats 4000000 in
theorem sV_flush_24 {p : Program} {l : Launch} {e : Env} {s : State} {mm : MethodId} {args : Array Value} {below : List Frame} {meth : Method} {c : Code} {D : va_G} {A : Nat → Prop} {Rh : Option Value → xm_M → Prop} (C : xm_C p s mm args c b_V_flush 4 "BlockVault" w_V_flush D classes ats A) (hr : meth.sig.returnType = (some .int)) (hlk : meth.locks = false) (hnm : meth.name = "flush") : xm_le (cV_flush_24 (xm_A p l e rm_V_flush s mm args below meth c 4 D classes A (MQ below (xm_Q D classes Rh A) args s 0 0 A)) Rh) ((xm_A p l e rm_V_flush s mm args below meth c 4 D classes A (MQ below (xm_Q D classes Rh A) args s 0 0 A)) 24) :=
  (xs_iload_n C d_V_flush_24 rfl (xs_iload_n C d_V_flush_25 rfl (xs_icmp_ge C d_V_flush_26 (by decide) (xs_jmp (sV_flush_53 C hr hlk hnm)) (xs_aload_n C d_V_flush_29 rfl (xs_callV C (CN := "BlockVault") (T := F_V) (N := 8) d_V_flush_30 (met_V_longestSealed l D) ⟨callB_of (ws := w_V_longestSealed) (rm := rm_V_longestSealed) 0 C.1.2.2.2.2 (gG_m tw_294) rfl rfl rfl (C.1.2.2.2.2 _ (List.mem_cons_of_mem _ tw_1)) (C.1.2.2.2.2 _ (List.mem_cons_of_mem _ tw_291)) ⟨by decide, by decide, by decide +kernel⟩ ⟨Nat.le_of_ble_eq_true rfl, Nat.le_of_ble_eq_true rfl⟩, (C.1.2.2.2.2 _ (List.mem_cons_of_mem _ tw_293)), (C.1.2.2.2.2 _ (List.mem_cons_of_mem _ ts_18))⟩ (ci := 0) rfl (xs_istore_n C d_V_flush_33 rfl (by decide) (xs_iload_n C d_V_flush_34 rfl (xs_iconst C d_V_flush_35 (by decide) (xs_icmp_ne C d_V_flush_36 (by decide) (xs_goto C d_V_flush_39 (by decide) (xs_jmp (sV_flush_53 C hr hlk hnm))) (xs_aload_n C d_V_flush_42 rfl (xs_iload_n C d_V_flush_43 rfl (xs_callV C (CN := "BlockVault") (T := F_V) (N := 8) d_V_flush_44 (met_V_writeBlock l D) ⟨callB_of (ws := w_V_writeBlock) (rm := rm_V_writeBlock) 1 C.1.2.2.2.2 (gG_m tw_298) rfl rfl rfl (C.1.2.2.2.2 _ (List.mem_cons_of_mem _ tw_1)) (C.1.2.2.2.2 _ (List.mem_cons_of_mem _ tw_295)) ⟨by decide, by decide, by decide +kernel⟩ ⟨Nat.le_of_ble_eq_true rfl, Nat.le_of_ble_eq_true rfl⟩, (C.1.2.2.2.2 _ (List.mem_cons_of_mem _ tw_297)), (C.1.2.2.2.2 _ (List.mem_cons_of_mem _ ts_19))⟩ (ci := 0) rfl (xs_iinc C d_V_flush_47 (by decide) (by decide) (xs_goto C d_V_flush_50 (by decide) (xs_jmp (fun _ _ _ _ _ h => h))))))))))))))))
set_option maxRecDepth 20000 in
set_option maxHeartbeats 4000000 in
theorem sV_flush_0 {p : Program} {l : Launch} {e : Env} {s : State} {mm : MethodId} {args : Array Value} {below : List Frame} {meth : Method} {c : Code} {D : va_G} {A : Nat → Prop} {Rh : Option Value → xm_M → Prop} (C : xm_C p s mm args c b_V_flush 4 "BlockVault" w_V_flush D classes ats A) (hr : meth.sig.returnType = (some .int)) (hlk : meth.locks = false) (hnm : meth.name = "flush") : xm_le (cV_flush_0 (xm_A p l e rm_V_flush s mm args below meth c 4 D classes A (MQ below (xm_Q D classes Rh A) args s 0 0 A)) Rh) ((xm_A p l e rm_V_flush s mm args below meth c 4 D classes A (MQ below (xm_Q D classes Rh A) args s 0 0 A)) 0) :=
  (xs_iload_n C d_V_flush_0 rfl (xs_iconst C d_V_flush_1 (by decide) (xs_icmp_lt C d_V_flush_2 (by decide) (xs_iconst C d_V_flush_10 (by decide) (xs_iret C d_V_flush_11 hr hlk rfl rfl)) (xs_iload_n C d_V_flush_5 rfl (xs_iconst C d_V_flush_6 (by decide) (xs_icmp_le C d_V_flush_7 (by decide) (xs_aload_n C d_V_flush_12 rfl (xs_get C (k := 7) d_V_flush_13 h_V (ci := 0) rfl (by decide) (List.mem_cons_of_mem _ tw_88) rfl (xs_if_eq C d_V_flush_16 (by decide) (xs_iconst C d_V_flush_22 (by decide) (xs_istore_n C d_V_flush_23 rfl (by decide) (xs_jmp (fun _ _ _ _ _ h => h)))) (xs_bipush C d_V_flush_19 (by decide) (xs_iret C d_V_flush_21 hr hlk rfl rfl))))) (xs_iconst C d_V_flush_10 (by decide) (xs_iret C d_V_flush_11 hr hlk rfl rfl))))))))
theorem met_V_flush (l : Launch) (D : va_G) : xm_Met l D classes ats y_V_flush w_V_flush rm_V_flush 0 0 cp_V_flush := by
  refine xm_met 0 (by decide) rfl rfl rfl (fun p e s mm args below meth c A Rh C hr hlk hnm lb => ?_)
  unfold fV_flush
  split
  · rename_i h; subst h; exact sV_flush_0 C hr hlk hnm
  split
  · rename_i h; subst h; exact sV_flush_24 C hr hlk hnm
  · exact fun _ _ _ _ _ h => h.elim
theorem d_V_used_0 : decode b_V_used 0 = .ok (.iconst 0, 1) := by decide +kernel
theorem d_V_used_1 : decode b_V_used 1 = .ok (.istore_n 2, 1) := by decide +kernel
theorem d_V_used_2 : decode b_V_used 2 = .ok (.iconst 0, 1) := by decide +kernel
theorem d_V_used_3 : decode b_V_used 3 = .ok (.istore_n 3, 1) := by decide +kernel
theorem d_V_used_4 : decode b_V_used 4 = .ok (.iload_n 3, 1) := by decide +kernel
theorem d_V_used_5 : decode b_V_used 5 = .ok (.bipush 16, 2) := by decide +kernel
theorem d_V_used_7 : decode b_V_used 7 = .ok (.if_icmp .ge 45, 3) := by decide +kernel
theorem d_V_used_10 : decode b_V_used 10 = .ok (.aload_n 0, 1) := by decide +kernel
theorem d_V_used_11 : decode b_V_used 11 = .ok (.getfield 17, 3) := by decide +kernel
theorem d_V_used_14 : decode b_V_used 14 = .ok (.iload_n 3, 1) := by decide +kernel
theorem d_V_used_15 : decode b_V_used 15 = .ok (.aaload, 1) := by decide +kernel
theorem d_V_used_16 : decode b_V_used 16 = .ok (.astore 4, 2) := by decide +kernel
theorem d_V_used_18 : decode b_V_used 18 = .ok (.aload 4, 2) := by decide +kernel
theorem d_V_used_20 : decode b_V_used 20 = .ok (.getfield 63, 3) := by decide +kernel
theorem d_V_used_23 : decode b_V_used 23 = .ok (.ifnull 23, 3) := by decide +kernel
theorem d_V_used_26 : decode b_V_used 26 = .ok (.aload 4, 2) := by decide +kernel
theorem d_V_used_28 : decode b_V_used 28 = .ok (.getfield 157, 3) := by decide +kernel
theorem d_V_used_31 : decode b_V_used 31 = .ok (.iload_n 1, 1) := by decide +kernel
theorem d_V_used_32 : decode b_V_used 32 = .ok (.if_icmp .ne 14, 3) := by decide +kernel
theorem d_V_used_35 : decode b_V_used 35 = .ok (.iload_n 2, 1) := by decide +kernel
theorem d_V_used_36 : decode b_V_used 36 = .ok (.aload 4, 2) := by decide +kernel
theorem d_V_used_38 : decode b_V_used 38 = .ok (.getfield 63, 3) := by decide +kernel
theorem d_V_used_41 : decode b_V_used 41 = .ok (.getfield 72, 3) := by decide +kernel
theorem d_V_used_44 : decode b_V_used 44 = .ok (.iadd, 1) := by decide +kernel
theorem d_V_used_45 : decode b_V_used 45 = .ok (.istore_n 2, 1) := by decide +kernel
theorem d_V_used_46 : decode b_V_used 46 = .ok (.iinc 3 1, 3) := by decide +kernel
theorem d_V_used_49 : decode b_V_used 49 = .ok (.goto (-45), 3) := by decide +kernel
theorem d_V_used_52 : decode b_V_used 52 = .ok (.iload_n 2, 1) := by decide +kernel
theorem d_V_used_53 : decode b_V_used 53 = .ok (.ireturn, 1) := by decide +kernel
-- BlockVault.used(I)I: labels [0, 4], loops [4]
abbrev rm_V_used : Room := { frames := 0, cells := 0, slots := 0, locals := 0 }
def cV_used_4 (X : Nat → xm_PT) (Rh : Option Value → xm_M → Prop) : xm_PT := (xo_iload 3 (xo_push (.int (nI 16)) (xo_icmp (fun x y => y ≤ x) (xo_iload 2 (xo_iret Rh)) (xo_aload 0 (xo_get 0 1 (xo_iload 3 (xo_aald ats (xo_astore 4 (xo_aload 4 (xo_get 4 0 (xo_null (xo_iinc 3 1 (xo_jmp [0, 1, 2, 3] (X 4))) (xo_aload 4 (xo_get 4 1 (xo_iload 1 (xo_icmp (fun x y => x = y) (xo_iload 2 (xo_aload 4 (xo_get 4 0 (xo_get 1 2 (xo_ibin (fun x y => x + y) (xo_istore 2 (xo_iinc 3 1 (xo_jmp [0, 1, 2, 3] (X 4))))))))) (xo_iinc 3 1 (xo_jmp [0, 1, 2, 3] (X 4))))))))))))))))))
def cV_used_0 (X : Nat → xm_PT) (Rh : Option Value → xm_M → Prop) : xm_PT := (xo_push (.int 0) (xo_istore 2 (xo_push (.int 0) (xo_istore 3 (xo_jmp [0, 1, 2, 3] (X 4))))))
def fV_used : xm_F := fun X Rh lb => if lb = 0 then cV_used_0 X Rh else (if lb = 4 then cV_used_4 X Rh else fun _ _ _ _ _ => False)
def cp_V_used : xm_CP := fun as m Rh => (lg_sl as).length ≤ 5 ∧ xm_cp fV_used 0 0 as m Rh
theorem eV_used_0 {X : Nat → xm_PT} {Rh : Option Value → xm_M → Prop} (hX : ∀ lb, xm_le (fV_used X Rh lb) (X lb)) {ls : xm_L} {st : List Value} {m : xm_M} {bc bs : Nat} (h : cV_used_0 X Rh ls st m bc bs) : X 0 ls st m bc bs := hX 0 ls st m bc bs h
theorem eV_used_4 {X : Nat → xm_PT} {Rh : Option Value → xm_M → Prop} (hX : ∀ lb, xm_le (fV_used X Rh lb) (X lb)) {ls : xm_L} {st : List Value} {m : xm_M} {bc bs : Nat} (h : cV_used_4 X Rh ls st m bc bs) : X 4 ls st m bc bs := hX 4 ls st m bc bs h
set_option maxRecDepth 20000 in
set_option maxHeartbeats 4000000 in
theorem sV_used_4 {p : Program} {l : Launch} {e : Env} {s : State} {mm : MethodId} {args : Array Value} {below : List Frame} {meth : Method} {c : Code} {D : va_G} {A : Nat → Prop} {Rh : Option Value → xm_M → Prop} (C : xm_C p s mm args c b_V_used 5 "BlockVault" w_V_used D classes ats A) (hr : meth.sig.returnType = (some .int)) (hlk : meth.locks = false) (hnm : meth.name = "used") : xm_le (cV_used_4 (xm_A p l e rm_V_used s mm args below meth c 5 D classes A (MQ below (xm_Q D classes Rh A) args s 0 0 A)) Rh) ((xm_A p l e rm_V_used s mm args below meth c 5 D classes A (MQ below (xm_Q D classes Rh A) args s 0 0 A)) 4) :=
  (xs_iload_n C d_V_used_4 rfl (xs_bipush C d_V_used_5 (by decide) (xs_icmp_ge C d_V_used_7 (by decide) (xs_iload_n C d_V_used_52 rfl (xs_iret C d_V_used_53 hr hlk rfl rfl)) (xs_aload_n C d_V_used_10 rfl (xs_get C (k := 1) d_V_used_11 h_V (ci := 0) rfl (by decide) (List.mem_cons_of_mem _ tw_82) rfl (xs_iload_n C d_V_used_14 rfl (xs_aald C d_V_used_15 (xs_astore C d_V_used_16 (by decide) (xs_aload C d_V_used_18 (xs_get C (k := 0) d_V_used_20 h_E (ci := 4) rfl (by decide) (List.mem_cons_of_mem _ tw_69) rfl (xs_ifnull C d_V_used_23 (by decide) (xs_iinc C d_V_used_46 (by decide) (by decide) (xs_goto C d_V_used_49 (by decide) (xs_jmp (fun _ _ _ _ _ h => h)))) (xs_aload C d_V_used_26 (xs_get C (k := 1) d_V_used_28 h_E (ci := 4) rfl (by decide) (List.mem_cons_of_mem _ tw_71) rfl (xs_iload_n C d_V_used_31 rfl (xs_icmp_ne C d_V_used_32 (by decide) (xs_iload_n C d_V_used_35 rfl (xs_aload C d_V_used_36 (xs_get C (k := 0) d_V_used_38 h_E (ci := 4) rfl (by decide) (List.mem_cons_of_mem _ tw_69) rfl (xs_get C (k := 2) d_V_used_41 h_C (ci := 1) rfl (by decide) (List.mem_cons_of_mem _ tw_144) rfl (xs_iadd C d_V_used_44 (xs_istore_n C d_V_used_45 rfl (by decide) (xs_iinc C d_V_used_46 (by decide) (by decide) (xs_goto C d_V_used_49 (by decide) (xs_jmp (fun _ _ _ _ _ h => h)))))))))) (xs_iinc C d_V_used_46 (by decide) (by decide) (xs_goto C d_V_used_49 (by decide) (xs_jmp (fun _ _ _ _ _ h => h)))))))))))))))))))
set_option maxRecDepth 20000 in
set_option maxHeartbeats 4000000 in
theorem sV_used_0 {p : Program} {l : Launch} {e : Env} {s : State} {mm : MethodId} {args : Array Value} {below : List Frame} {meth : Method} {c : Code} {D : va_G} {A : Nat → Prop} {Rh : Option Value → xm_M → Prop} (C : xm_C p s mm args c b_V_used 5 "BlockVault" w_V_used D classes ats A) (hr : meth.sig.returnType = (some .int)) (hlk : meth.locks = false) (hnm : meth.name = "used") : xm_le (cV_used_0 (xm_A p l e rm_V_used s mm args below meth c 5 D classes A (MQ below (xm_Q D classes Rh A) args s 0 0 A)) Rh) ((xm_A p l e rm_V_used s mm args below meth c 5 D classes A (MQ below (xm_Q D classes Rh A) args s 0 0 A)) 0) :=
  (xs_iconst C d_V_used_0 (by decide) (xs_istore_n C d_V_used_1 rfl (by decide) (xs_iconst C d_V_used_2 (by decide) (xs_istore_n C d_V_used_3 rfl (by decide) (xs_jmp (fun _ _ _ _ _ h => h))))))
theorem met_V_used (l : Launch) (D : va_G) : xm_Met l D classes ats y_V_used w_V_used rm_V_used 0 0 cp_V_used := by
  refine xm_met 0 (by decide) rfl rfl rfl (fun p e s mm args below meth c A Rh C hr hlk hnm lb => ?_)
  unfold fV_used
  split
  · rename_i h; subst h; exact sV_used_0 C hr hlk hnm
  split
  · rename_i h; subst h; exact sV_used_4 C hr hlk hnm
  · exact fun _ _ _ _ _ h => h.elim
theorem d_V_sparsestWritten_0 : decode b_V_sparsestWritten 0 = .ok (.iconst (-1), 1) := by decide +kernel
theorem d_V_sparsestWritten_1 : decode b_V_sparsestWritten 1 = .ok (.istore_n 2, 1) := by decide +kernel
theorem d_V_sparsestWritten_2 : decode b_V_sparsestWritten 2 = .ok (.iload_n 1, 1) := by decide +kernel
theorem d_V_sparsestWritten_3 : decode b_V_sparsestWritten 3 = .ok (.istore_n 3, 1) := by decide +kernel
theorem d_V_sparsestWritten_4 : decode b_V_sparsestWritten 4 = .ok (.iconst 0, 1) := by decide +kernel
theorem d_V_sparsestWritten_5 : decode b_V_sparsestWritten 5 = .ok (.istore 4, 2) := by decide +kernel
theorem d_V_sparsestWritten_7 : decode b_V_sparsestWritten 7 = .ok (.iload 4, 2) := by decide +kernel
theorem d_V_sparsestWritten_9 : decode b_V_sparsestWritten 9 = .ok (.bipush 8, 2) := by decide +kernel
theorem d_V_sparsestWritten_11 : decode b_V_sparsestWritten 11 = .ok (.if_icmp .ge 43, 3) := by decide +kernel
theorem d_V_sparsestWritten_14 : decode b_V_sparsestWritten 14 = .ok (.aload_n 0, 1) := by decide +kernel
theorem d_V_sparsestWritten_15 : decode b_V_sparsestWritten 15 = .ok (.getfield 11, 3) := by decide +kernel
theorem d_V_sparsestWritten_18 : decode b_V_sparsestWritten 18 = .ok (.iload 4, 2) := by decide +kernel
theorem d_V_sparsestWritten_20 : decode b_V_sparsestWritten 20 = .ok (.aaload, 1) := by decide +kernel
theorem d_V_sparsestWritten_21 : decode b_V_sparsestWritten 21 = .ok (.getfield 166, 3) := by decide +kernel
theorem d_V_sparsestWritten_24 : decode b_V_sparsestWritten 24 = .ok (.iconst 3, 1) := by decide +kernel
theorem d_V_sparsestWritten_25 : decode b_V_sparsestWritten 25 = .ok (.if_icmp .ne 23, 3) := by decide +kernel
theorem d_V_sparsestWritten_28 : decode b_V_sparsestWritten 28 = .ok (.aload_n 0, 1) := by decide +kernel
theorem d_V_sparsestWritten_29 : decode b_V_sparsestWritten 29 = .ok (.iload 4, 2) := by decide +kernel
theorem d_V_sparsestWritten_31 : decode b_V_sparsestWritten 31 = .ok (.invokevirtual 169, 3) := by decide +kernel
theorem d_V_sparsestWritten_34 : decode b_V_sparsestWritten 34 = .ok (.iload_n 3, 1) := by decide +kernel
theorem d_V_sparsestWritten_35 : decode b_V_sparsestWritten 35 = .ok (.if_icmp .ge 13, 3) := by decide +kernel
theorem d_V_sparsestWritten_38 : decode b_V_sparsestWritten 38 = .ok (.iload 4, 2) := by decide +kernel
theorem d_V_sparsestWritten_40 : decode b_V_sparsestWritten 40 = .ok (.istore_n 2, 1) := by decide +kernel
theorem d_V_sparsestWritten_41 : decode b_V_sparsestWritten 41 = .ok (.aload_n 0, 1) := by decide +kernel
theorem d_V_sparsestWritten_42 : decode b_V_sparsestWritten 42 = .ok (.iload 4, 2) := by decide +kernel
theorem d_V_sparsestWritten_44 : decode b_V_sparsestWritten 44 = .ok (.invokevirtual 169, 3) := by decide +kernel
theorem d_V_sparsestWritten_47 : decode b_V_sparsestWritten 47 = .ok (.istore_n 3, 1) := by decide +kernel
theorem d_V_sparsestWritten_48 : decode b_V_sparsestWritten 48 = .ok (.iinc 4 1, 3) := by decide +kernel
theorem d_V_sparsestWritten_51 : decode b_V_sparsestWritten 51 = .ok (.goto (-44), 3) := by decide +kernel
theorem d_V_sparsestWritten_54 : decode b_V_sparsestWritten 54 = .ok (.iload_n 2, 1) := by decide +kernel
theorem d_V_sparsestWritten_55 : decode b_V_sparsestWritten 55 = .ok (.ireturn, 1) := by decide +kernel
-- BlockVault.sparsestWritten(I)I: labels [0, 7], loops [7]
abbrev rm_V_sparsestWritten : Room := { frames := 1, cells := 0, slots := 0, locals := 24 }
def cV_sparsestWritten_7 (X : Nat → xm_PT) (Rh : Option Value → xm_M → Prop) : xm_PT := (xo_iload 4 (xo_push (.int (nI 8)) (xo_icmp (fun x y => y ≤ x) (xo_iload 2 (xo_iret Rh)) (xo_aload 0 (xo_get 0 0 (xo_iload 4 (xo_aald ats (xo_get 3 2 (xo_push (.int (nI 3)) (xo_icmp (fun x y => x = y) (xo_aload 0 (xo_iload 4 (xo_callV 0 1 0 0 cp_V_used (xo_iload 3 (xo_icmp (fun x y => y ≤ x) (xo_iinc 4 1 (xo_jmp [0, 2, 3, 4] (X 7))) (xo_iload 4 (xo_istore 2 (xo_aload 0 (xo_iload 4 (xo_callV 0 1 0 0 cp_V_used (xo_istore 3 (xo_iinc 4 1 (xo_jmp [0, 2, 3, 4] (X 7)))))))))))))) (xo_iinc 4 1 (xo_jmp [0, 2, 3, 4] (X 7)))))))))))))
def cV_sparsestWritten_0 (X : Nat → xm_PT) (Rh : Option Value → xm_M → Prop) : xm_PT := (xo_push (.int (-1)) (xo_istore 2 (xo_iload 1 (xo_istore 3 (xo_push (.int 0) (xo_istore 4 (xo_jmp [0, 2, 3, 4] (X 7))))))))
def fV_sparsestWritten : xm_F := fun X Rh lb => if lb = 0 then cV_sparsestWritten_0 X Rh else (if lb = 7 then cV_sparsestWritten_7 X Rh else fun _ _ _ _ _ => False)
def cp_V_sparsestWritten : xm_CP := fun as m Rh => (lg_sl as).length ≤ 5 ∧ xm_cp fV_sparsestWritten 0 0 as m Rh
theorem eV_sparsestWritten_0 {X : Nat → xm_PT} {Rh : Option Value → xm_M → Prop} (hX : ∀ lb, xm_le (fV_sparsestWritten X Rh lb) (X lb)) {ls : xm_L} {st : List Value} {m : xm_M} {bc bs : Nat} (h : cV_sparsestWritten_0 X Rh ls st m bc bs) : X 0 ls st m bc bs := hX 0 ls st m bc bs h
theorem eV_sparsestWritten_7 {X : Nat → xm_PT} {Rh : Option Value → xm_M → Prop} (hX : ∀ lb, xm_le (fV_sparsestWritten X Rh lb) (X lb)) {ls : xm_L} {st : List Value} {m : xm_M} {bc bs : Nat} (h : cV_sparsestWritten_7 X Rh ls st m bc bs) : X 7 ls st m bc bs := hX 7 ls st m bc bs h
set_option maxRecDepth 20000 in
set_option maxHeartbeats 4000000 in
theorem sV_sparsestWritten_7 {p : Program} {l : Launch} {e : Env} {s : State} {mm : MethodId} {args : Array Value} {below : List Frame} {meth : Method} {c : Code} {D : va_G} {A : Nat → Prop} {Rh : Option Value → xm_M → Prop} (C : xm_C p s mm args c b_V_sparsestWritten 5 "BlockVault" w_V_sparsestWritten D classes ats A) (hr : meth.sig.returnType = (some .int)) (hlk : meth.locks = false) (hnm : meth.name = "sparsestWritten") : xm_le (cV_sparsestWritten_7 (xm_A p l e rm_V_sparsestWritten s mm args below meth c 5 D classes A (MQ below (xm_Q D classes Rh A) args s 0 0 A)) Rh) ((xm_A p l e rm_V_sparsestWritten s mm args below meth c 5 D classes A (MQ below (xm_Q D classes Rh A) args s 0 0 A)) 7) :=
  (xs_iload C d_V_sparsestWritten_7 (xs_bipush C d_V_sparsestWritten_9 (by decide) (xs_icmp_ge C d_V_sparsestWritten_11 (by decide) (xs_iload_n C d_V_sparsestWritten_54 rfl (xs_iret C d_V_sparsestWritten_55 hr hlk rfl rfl)) (xs_aload_n C d_V_sparsestWritten_14 rfl (xs_get C (k := 0) d_V_sparsestWritten_15 h_V (ci := 0) rfl (by decide) (List.mem_cons_of_mem _ tw_81) rfl (xs_iload C d_V_sparsestWritten_18 (xs_aald C d_V_sparsestWritten_20 (xs_get C (k := 2) d_V_sparsestWritten_21 h_B (ci := 3) rfl (by decide) (List.mem_cons_of_mem _ tw_47) rfl (xs_iconst C d_V_sparsestWritten_24 (by decide) (xs_icmp_ne C d_V_sparsestWritten_25 (by decide) (xs_aload_n C d_V_sparsestWritten_28 rfl (xs_iload C d_V_sparsestWritten_29 (xs_callV C (CN := "BlockVault") (T := F_V) (N := 8) d_V_sparsestWritten_31 (met_V_used l D) ⟨callB_of (ws := w_V_used) (rm := rm_V_used) 1 C.1.2.2.2.2 (gG_m tw_320) rfl rfl rfl (C.1.2.2.2.2 _ (List.mem_cons_of_mem _ tw_1)) (C.1.2.2.2.2 _ (List.mem_cons_of_mem _ tw_317)) ⟨by decide, by decide, by decide +kernel⟩ ⟨Nat.le_of_ble_eq_true rfl, Nat.le_of_ble_eq_true rfl⟩, (C.1.2.2.2.2 _ (List.mem_cons_of_mem _ tw_319)), (C.1.2.2.2.2 _ (List.mem_cons_of_mem _ ts_22))⟩ (ci := 0) rfl (xs_iload_n C d_V_sparsestWritten_34 rfl (xs_icmp_ge C d_V_sparsestWritten_35 (by decide) (xs_iinc C d_V_sparsestWritten_48 (by decide) (by decide) (xs_goto C d_V_sparsestWritten_51 (by decide) (xs_jmp (fun _ _ _ _ _ h => h)))) (xs_iload C d_V_sparsestWritten_38 (xs_istore_n C d_V_sparsestWritten_40 rfl (by decide) (xs_aload_n C d_V_sparsestWritten_41 rfl (xs_iload C d_V_sparsestWritten_42 (xs_callV C (CN := "BlockVault") (T := F_V) (N := 8) d_V_sparsestWritten_44 (met_V_used l D) ⟨callB_of (ws := w_V_used) (rm := rm_V_used) 1 C.1.2.2.2.2 (gG_m tw_320) rfl rfl rfl (C.1.2.2.2.2 _ (List.mem_cons_of_mem _ tw_1)) (C.1.2.2.2.2 _ (List.mem_cons_of_mem _ tw_317)) ⟨by decide, by decide, by decide +kernel⟩ ⟨Nat.le_of_ble_eq_true rfl, Nat.le_of_ble_eq_true rfl⟩, (C.1.2.2.2.2 _ (List.mem_cons_of_mem _ tw_319)), (C.1.2.2.2.2 _ (List.mem_cons_of_mem _ ts_22))⟩ (ci := 0) rfl (xs_istore_n C d_V_sparsestWritten_47 rfl (by decide) (xs_iinc C d_V_sparsestWritten_48 (by decide) (by decide) (xs_goto C d_V_sparsestWritten_51 (by decide) (xs_jmp (fun _ _ _ _ _ h => h))))))))))))))) (xs_iinc C d_V_sparsestWritten_48 (by decide) (by decide) (xs_goto C d_V_sparsestWritten_51 (by decide) (xs_jmp (fun _ _ _ _ _ h => h))))))))))))))
set_option maxRecDepth 20000 in
set_option maxHeartbeats 4000000 in
theorem sV_sparsestWritten_0 {p : Program} {l : Launch} {e : Env} {s : State} {mm : MethodId} {args : Array Value} {below : List Frame} {meth : Method} {c : Code} {D : va_G} {A : Nat → Prop} {Rh : Option Value → xm_M → Prop} (C : xm_C p s mm args c b_V_sparsestWritten 5 "BlockVault" w_V_sparsestWritten D classes ats A) (hr : meth.sig.returnType = (some .int)) (hlk : meth.locks = false) (hnm : meth.name = "sparsestWritten") : xm_le (cV_sparsestWritten_0 (xm_A p l e rm_V_sparsestWritten s mm args below meth c 5 D classes A (MQ below (xm_Q D classes Rh A) args s 0 0 A)) Rh) ((xm_A p l e rm_V_sparsestWritten s mm args below meth c 5 D classes A (MQ below (xm_Q D classes Rh A) args s 0 0 A)) 0) :=
  (xs_iconst C d_V_sparsestWritten_0 (by decide) (xs_istore_n C d_V_sparsestWritten_1 rfl (by decide) (xs_iload_n C d_V_sparsestWritten_2 rfl (xs_istore_n C d_V_sparsestWritten_3 rfl (by decide) (xs_iconst C d_V_sparsestWritten_4 (by decide) (xs_istore C d_V_sparsestWritten_5 (by decide) (xs_jmp (fun _ _ _ _ _ h => h))))))))
theorem met_V_sparsestWritten (l : Launch) (D : va_G) : xm_Met l D classes ats y_V_sparsestWritten w_V_sparsestWritten rm_V_sparsestWritten 0 0 cp_V_sparsestWritten := by
  refine xm_met 0 (by decide) rfl rfl rfl (fun p e s mm args below meth c A Rh C hr hlk hnm lb => ?_)
  unfold fV_sparsestWritten
  split
  · rename_i h; subst h; exact sV_sparsestWritten_0 C hr hlk hnm
  split
  · rename_i h; subst h; exact sV_sparsestWritten_7 C hr hlk hnm
  · exact fun _ _ _ _ _ h => h.elim
theorem d_R_at_0 : decode b_R_at 0 = .ok (.iload_n 1, 1) := by decide +kernel
theorem d_R_at_1 : decode b_R_at 1 = .ok (.ifCond .lt 20, 3) := by decide +kernel
theorem d_R_at_4 : decode b_R_at 4 = .ok (.iload_n 1, 1) := by decide +kernel
theorem d_R_at_5 : decode b_R_at 5 = .ok (.aload_n 0, 1) := by decide +kernel
theorem d_R_at_6 : decode b_R_at 6 = .ok (.getfield 17, 3) := by decide +kernel
theorem d_R_at_9 : decode b_R_at 9 = .ok (.if_icmp .ge 12, 3) := by decide +kernel
theorem d_R_at_12 : decode b_R_at 12 = .ok (.aload_n 0, 1) := by decide +kernel
theorem d_R_at_13 : decode b_R_at 13 = .ok (.getfield 11, 3) := by decide +kernel
theorem d_R_at_16 : decode b_R_at 16 = .ok (.iload_n 1, 1) := by decide +kernel
theorem d_R_at_17 : decode b_R_at 17 = .ok (.aaload, 1) := by decide +kernel
theorem d_R_at_18 : decode b_R_at 18 = .ok (.goto 4, 3) := by decide +kernel
theorem d_R_at_21 : decode b_R_at 21 = .ok (.aconst_null, 1) := by decide +kernel
theorem d_R_at_22 : decode b_R_at 22 = .ok (.areturn, 1) := by decide +kernel
-- BlockVault$Row.at(I)LBlockVault$Copy;: labels [0], loops []
abbrev rm_R_at : Room := { frames := 0, cells := 0, slots := 0, locals := 0 }
def cR_at_0 (X : Nat → xm_PT) (Rh : Option Value → xm_M → Prop) : xm_PT := (xo_iload 1 (xo_if (fun x => x < 0) (xo_push .null (xo_aret Rh)) (xo_iload 1 (xo_aload 0 (xo_get 2 1 (xo_icmp (fun x y => y ≤ x) (xo_push .null (xo_aret Rh)) (xo_aload 0 (xo_get 2 0 (xo_iload 1 (xo_aald ats (xo_aret Rh)))))))))))
def fR_at : xm_F := fun X Rh lb => if lb = 0 then cR_at_0 X Rh else fun _ _ _ _ _ => False
def cp_R_at : xm_CP := fun as m Rh => (lg_sl as).length ≤ 2 ∧ xm_cp fR_at 0 0 as m Rh
theorem eR_at_0 {X : Nat → xm_PT} {Rh : Option Value → xm_M → Prop} (hX : ∀ lb, xm_le (fR_at X Rh lb) (X lb)) {ls : xm_L} {st : List Value} {m : xm_M} {bc bs : Nat} (h : cR_at_0 X Rh ls st m bc bs) : X 0 ls st m bc bs := hX 0 ls st m bc bs h
set_option maxRecDepth 20000 in
set_option maxHeartbeats 4000000 in
theorem sR_at_0 {p : Program} {l : Launch} {e : Env} {s : State} {mm : MethodId} {args : Array Value} {below : List Frame} {meth : Method} {c : Code} {D : va_G} {A : Nat → Prop} {Rh : Option Value → xm_M → Prop} (C : xm_C p s mm args c b_R_at 2 "BlockVault$Row" w_R_at D classes ats A) (hr : meth.sig.returnType = (some (.object "BlockVault$Copy"))) (hlk : meth.locks = false) (hnm : meth.name = "at") : xm_le (cR_at_0 (xm_A p l e rm_R_at s mm args below meth c 2 D classes A (MQ below (xm_Q D classes Rh A) args s 0 0 A)) Rh) ((xm_A p l e rm_R_at s mm args below meth c 2 D classes A (MQ below (xm_Q D classes Rh A) args s 0 0 A)) 0) :=
  (xs_iload_n C d_R_at_0 rfl (xs_if_lt C d_R_at_1 (by decide) (xs_null C d_R_at_21 (xs_aret C d_R_at_22 hr (Or.inl ⟨_, rfl⟩) hlk rfl rfl)) (xs_iload_n C d_R_at_4 rfl (xs_aload_n C d_R_at_5 rfl (xs_get C (k := 1) d_R_at_6 h_R (ci := 2) rfl (by decide) (List.mem_cons_of_mem _ tw_35) rfl (xs_icmp_ge C d_R_at_9 (by decide) (xs_null C d_R_at_21 (xs_aret C d_R_at_22 hr (Or.inl ⟨_, rfl⟩) hlk rfl rfl)) (xs_aload_n C d_R_at_12 rfl (xs_get C (k := 0) d_R_at_13 h_R (ci := 2) rfl (by decide) (List.mem_cons_of_mem _ tw_34) rfl (xs_iload_n C d_R_at_16 rfl (xs_aald C d_R_at_17 (xs_goto C d_R_at_18 (by decide) (xs_aret C d_R_at_22 hr (Or.inl ⟨_, rfl⟩) hlk rfl rfl))))))))))))
theorem met_R_at (l : Launch) (D : va_G) : xm_Met l D classes ats y_R_at w_R_at rm_R_at 0 0 cp_R_at := by
  refine xm_met 0 (by decide) rfl rfl rfl (fun p e s mm args below meth c A Rh C hr hlk hnm lb => ?_)
  unfold fR_at
  split
  · rename_i h; subst h; exact sR_at_0 C hr hlk hnm
  · exact fun _ _ _ _ _ h => h.elim
theorem d_V_isLiveAt_0 : decode b_V_isLiveAt 0 = .ok (.aload_n 0, 1) := by decide +kernel
theorem d_V_isLiveAt_1 : decode b_V_isLiveAt 1 = .ok (.getfield 17, 3) := by decide +kernel
theorem d_V_isLiveAt_4 : decode b_V_isLiveAt 4 = .ok (.aload_n 1, 1) := by decide +kernel
theorem d_V_isLiveAt_5 : decode b_V_isLiveAt 5 = .ok (.getfield 209, 3) := by decide +kernel
theorem d_V_isLiveAt_8 : decode b_V_isLiveAt 8 = .ok (.aaload, 1) := by decide +kernel
theorem d_V_isLiveAt_9 : decode b_V_isLiveAt 9 = .ok (.astore 4, 2) := by decide +kernel
theorem d_V_isLiveAt_11 : decode b_V_isLiveAt 11 = .ok (.aload 4, 2) := by decide +kernel
theorem d_V_isLiveAt_13 : decode b_V_isLiveAt 13 = .ok (.getfield 157, 3) := by decide +kernel
theorem d_V_isLiveAt_16 : decode b_V_isLiveAt 16 = .ok (.iload_n 2, 1) := by decide +kernel
theorem d_V_isLiveAt_17 : decode b_V_isLiveAt 17 = .ok (.if_icmp .ne 16, 3) := by decide +kernel
theorem d_V_isLiveAt_20 : decode b_V_isLiveAt 20 = .ok (.aload 4, 2) := by decide +kernel
theorem d_V_isLiveAt_22 : decode b_V_isLiveAt 22 = .ok (.getfield 160, 3) := by decide +kernel
theorem d_V_isLiveAt_25 : decode b_V_isLiveAt 25 = .ok (.iload_n 3, 1) := by decide +kernel
theorem d_V_isLiveAt_26 : decode b_V_isLiveAt 26 = .ok (.if_icmp .ne 7, 3) := by decide +kernel
theorem d_V_isLiveAt_29 : decode b_V_isLiveAt 29 = .ok (.iconst 1, 1) := by decide +kernel
theorem d_V_isLiveAt_30 : decode b_V_isLiveAt 30 = .ok (.goto 4, 3) := by decide +kernel
theorem d_V_isLiveAt_33 : decode b_V_isLiveAt 33 = .ok (.iconst 0, 1) := by decide +kernel
theorem d_V_isLiveAt_34 : decode b_V_isLiveAt 34 = .ok (.ireturn, 1) := by decide +kernel
-- BlockVault.isLiveAt(LBlockVault$Copy;II)Z: labels [0], loops []
abbrev rm_V_isLiveAt : Room := { frames := 0, cells := 0, slots := 0, locals := 0 }
def cV_isLiveAt_0 (X : Nat → xm_PT) (Rh : Option Value → xm_M → Prop) : xm_PT := (xo_aload 0 (xo_get 0 1 (xo_aload 1 (xo_get 1 0 (xo_aald ats (xo_astore 4 (xo_aload 4 (xo_get 4 1 (xo_iload 2 (xo_icmp (fun x y => x = y) (xo_aload 4 (xo_get 4 2 (xo_iload 3 (xo_icmp (fun x y => x = y) (xo_push (.int 1) (xo_zret Rh)) (xo_push (.int 0) (xo_zret Rh)))))) (xo_push (.int 0) (xo_zret Rh))))))))))))
def fV_isLiveAt : xm_F := fun X Rh lb => if lb = 0 then cV_isLiveAt_0 X Rh else fun _ _ _ _ _ => False
def cp_V_isLiveAt : xm_CP := fun as m Rh => (lg_sl as).length ≤ 5 ∧ xm_cp fV_isLiveAt 0 0 as m Rh
theorem eV_isLiveAt_0 {X : Nat → xm_PT} {Rh : Option Value → xm_M → Prop} (hX : ∀ lb, xm_le (fV_isLiveAt X Rh lb) (X lb)) {ls : xm_L} {st : List Value} {m : xm_M} {bc bs : Nat} (h : cV_isLiveAt_0 X Rh ls st m bc bs) : X 0 ls st m bc bs := hX 0 ls st m bc bs h
set_option maxRecDepth 20000 in
set_option maxHeartbeats 4000000 in
theorem sV_isLiveAt_0 {p : Program} {l : Launch} {e : Env} {s : State} {mm : MethodId} {args : Array Value} {below : List Frame} {meth : Method} {c : Code} {D : va_G} {A : Nat → Prop} {Rh : Option Value → xm_M → Prop} (C : xm_C p s mm args c b_V_isLiveAt 5 "BlockVault" w_V_isLiveAt D classes ats A) (hr : meth.sig.returnType = (some .boolean)) (hlk : meth.locks = false) (hnm : meth.name = "isLiveAt") : xm_le (cV_isLiveAt_0 (xm_A p l e rm_V_isLiveAt s mm args below meth c 5 D classes A (MQ below (xm_Q D classes Rh A) args s 0 0 A)) Rh) ((xm_A p l e rm_V_isLiveAt s mm args below meth c 5 D classes A (MQ below (xm_Q D classes Rh A) args s 0 0 A)) 0) :=
  (xs_aload_n C d_V_isLiveAt_0 rfl (xs_get C (k := 1) d_V_isLiveAt_1 h_V (ci := 0) rfl (by decide) (List.mem_cons_of_mem _ tw_82) rfl (xs_aload_n C d_V_isLiveAt_4 rfl (xs_get C (k := 0) d_V_isLiveAt_5 h_C (ci := 1) rfl (by decide) (List.mem_cons_of_mem _ tw_140) rfl (xs_aald C d_V_isLiveAt_8 (xs_astore C d_V_isLiveAt_9 (by decide) (xs_aload C d_V_isLiveAt_11 (xs_get C (k := 1) d_V_isLiveAt_13 h_E (ci := 4) rfl (by decide) (List.mem_cons_of_mem _ tw_71) rfl (xs_iload_n C d_V_isLiveAt_16 rfl (xs_icmp_ne C d_V_isLiveAt_17 (by decide) (xs_aload C d_V_isLiveAt_20 (xs_get C (k := 2) d_V_isLiveAt_22 h_E (ci := 4) rfl (by decide) (List.mem_cons_of_mem _ tw_73) rfl (xs_iload_n C d_V_isLiveAt_25 rfl (xs_icmp_ne C d_V_isLiveAt_26 (by decide) (xs_iconst C d_V_isLiveAt_29 (by decide) (xs_goto C d_V_isLiveAt_30 (by decide) (xs_zret C d_V_isLiveAt_34 hr hlk rfl rfl))) (xs_iconst C d_V_isLiveAt_33 (by decide) (xs_zret C d_V_isLiveAt_34 hr hlk rfl rfl)))))) (xs_iconst C d_V_isLiveAt_33 (by decide) (xs_zret C d_V_isLiveAt_34 hr hlk rfl rfl))))))))))))
theorem met_V_isLiveAt (l : Launch) (D : va_G) : xm_Met l D classes ats y_V_isLiveAt w_V_isLiveAt rm_V_isLiveAt 0 0 cp_V_isLiveAt := by
  refine xm_met 0 (by decide) rfl rfl rfl (fun p e s mm args below meth c A Rh C hr hlk hnm lb => ?_)
  unfold fV_isLiveAt
  split
  · rename_i h; subst h; exact sV_isLiveAt_0 C hr hlk hnm
  · exact fun _ _ _ _ _ h => h.elim
theorem d_V_moveLiveCopies_0 : decode b_V_moveLiveCopies 0 = .ok (.aload_n 0, 1) := by decide +kernel
theorem d_V_moveLiveCopies_1 : decode b_V_moveLiveCopies 1 = .ok (.getfield 11, 3) := by decide +kernel
theorem d_V_moveLiveCopies_4 : decode b_V_moveLiveCopies 4 = .ok (.iload_n 1, 1) := by decide +kernel
theorem d_V_moveLiveCopies_5 : decode b_V_moveLiveCopies 5 = .ok (.aaload, 1) := by decide +kernel
theorem d_V_moveLiveCopies_6 : decode b_V_moveLiveCopies 6 = .ok (.getfield 111, 3) := by decide +kernel
theorem d_V_moveLiveCopies_9 : decode b_V_moveLiveCopies 9 = .ok (.astore_n 2, 1) := by decide +kernel
theorem d_V_moveLiveCopies_10 : decode b_V_moveLiveCopies 10 = .ok (.iconst 0, 1) := by decide +kernel
theorem d_V_moveLiveCopies_11 : decode b_V_moveLiveCopies 11 = .ok (.istore_n 3, 1) := by decide +kernel
theorem d_V_moveLiveCopies_12 : decode b_V_moveLiveCopies 12 = .ok (.iconst 0, 1) := by decide +kernel
theorem d_V_moveLiveCopies_13 : decode b_V_moveLiveCopies 13 = .ok (.istore 4, 2) := by decide +kernel
theorem d_V_moveLiveCopies_15 : decode b_V_moveLiveCopies 15 = .ok (.iload 4, 2) := by decide +kernel
theorem d_V_moveLiveCopies_17 : decode b_V_moveLiveCopies 17 = .ok (.bipush 12, 2) := by decide +kernel
theorem d_V_moveLiveCopies_19 : decode b_V_moveLiveCopies 19 = .ok (.if_icmp .ge 61, 3) := by decide +kernel
theorem d_V_moveLiveCopies_22 : decode b_V_moveLiveCopies 22 = .ok (.iload 4, 2) := by decide +kernel
theorem d_V_moveLiveCopies_24 : decode b_V_moveLiveCopies 24 = .ok (.aload_n 2, 1) := by decide +kernel
theorem d_V_moveLiveCopies_25 : decode b_V_moveLiveCopies 25 = .ok (.getfield 115, 3) := by decide +kernel
theorem d_V_moveLiveCopies_28 : decode b_V_moveLiveCopies 28 = .ok (.if_icmp .ge 52, 3) := by decide +kernel
theorem d_V_moveLiveCopies_31 : decode b_V_moveLiveCopies 31 = .ok (.aload_n 2, 1) := by decide +kernel
theorem d_V_moveLiveCopies_32 : decode b_V_moveLiveCopies 32 = .ok (.iload 4, 2) := by decide +kernel
theorem d_V_moveLiveCopies_34 : decode b_V_moveLiveCopies 34 = .ok (.invokevirtual 183, 3) := by decide +kernel
theorem d_V_moveLiveCopies_37 : decode b_V_moveLiveCopies 37 = .ok (.astore 5, 2) := by decide +kernel
theorem d_V_moveLiveCopies_39 : decode b_V_moveLiveCopies 39 = .ok (.aload 5, 2) := by decide +kernel
theorem d_V_moveLiveCopies_41 : decode b_V_moveLiveCopies 41 = .ok (.ifnull 33, 3) := by decide +kernel
theorem d_V_moveLiveCopies_44 : decode b_V_moveLiveCopies 44 = .ok (.aload_n 0, 1) := by decide +kernel
theorem d_V_moveLiveCopies_45 : decode b_V_moveLiveCopies 45 = .ok (.aload 5, 2) := by decide +kernel
theorem d_V_moveLiveCopies_47 : decode b_V_moveLiveCopies 47 = .ok (.iload_n 1, 1) := by decide +kernel
theorem d_V_moveLiveCopies_48 : decode b_V_moveLiveCopies 48 = .ok (.iload 4, 2) := by decide +kernel
theorem d_V_moveLiveCopies_50 : decode b_V_moveLiveCopies 50 = .ok (.invokevirtual 251, 3) := by decide +kernel
theorem d_V_moveLiveCopies_53 : decode b_V_moveLiveCopies 53 = .ok (.ifCond .ne 6, 3) := by decide +kernel
theorem d_V_moveLiveCopies_56 : decode b_V_moveLiveCopies 56 = .ok (.goto 18, 3) := by decide +kernel
theorem d_V_moveLiveCopies_59 : decode b_V_moveLiveCopies 59 = .ok (.aload_n 0, 1) := by decide +kernel
theorem d_V_moveLiveCopies_60 : decode b_V_moveLiveCopies 60 = .ok (.aload 5, 2) := by decide +kernel
theorem d_V_moveLiveCopies_62 : decode b_V_moveLiveCopies 62 = .ok (.invokevirtual 203, 3) := by decide +kernel
theorem d_V_moveLiveCopies_65 : decode b_V_moveLiveCopies 65 = .ok (.ifCond .ge 6, 3) := by decide +kernel
theorem d_V_moveLiveCopies_68 : decode b_V_moveLiveCopies 68 = .ok (.goto 12, 3) := by decide +kernel
theorem d_V_moveLiveCopies_71 : decode b_V_moveLiveCopies 71 = .ok (.iinc 3 1, 3) := by decide +kernel
theorem d_V_moveLiveCopies_74 : decode b_V_moveLiveCopies 74 = .ok (.iinc 4 1, 3) := by decide +kernel
theorem d_V_moveLiveCopies_77 : decode b_V_moveLiveCopies 77 = .ok (.goto (-62), 3) := by decide +kernel
theorem d_V_moveLiveCopies_80 : decode b_V_moveLiveCopies 80 = .ok (.iload_n 3, 1) := by decide +kernel
theorem d_V_moveLiveCopies_81 : decode b_V_moveLiveCopies 81 = .ok (.ireturn, 1) := by decide +kernel
-- BlockVault.moveLiveCopies(I)I: labels [0, 15], loops [15]
abbrev rm_V_moveLiveCopies : Room := { frames := 3, cells := 0, slots := 0, locals := 71 }
def cV_moveLiveCopies_15 (X : Nat → xm_PT) (Rh : Option Value → xm_M → Prop) : xm_PT := (xo_iload 4 (xo_push (.int (nI 12)) (xo_icmp (fun x y => y ≤ x) (xo_iload 3 (xo_iret Rh)) (xo_iload 4 (xo_aload 2 (xo_get 2 1 (xo_icmp (fun x y => y ≤ x) (xo_iload 3 (xo_iret Rh)) (xo_aload 2 (xo_iload 4 (xo_callV 2 1 0 0 cp_R_at (xo_astore 5 (xo_aload 5 (xo_null (xo_iinc 4 1 (xo_jmp [0, 1, 2, 3, 4] (X 15))) (xo_aload 0 (xo_aload 5 (xo_iload 1 (xo_iload 4 (xo_callV 0 3 0 0 cp_V_isLiveAt (xo_if (fun x => x = 0) (xo_iinc 4 1 (xo_jmp [0, 1, 2, 3, 4] (X 15))) (xo_aload 0 (xo_aload 5 (xo_callV 0 1 0 0 cp_V_append (xo_if (fun x => 0 ≤ x) (xo_iinc 3 1 (xo_iinc 4 1 (xo_jmp [0, 1, 2, 3, 4] (X 15)))) (xo_iload 3 (xo_iret Rh)))))))))))))))))))))))))
def cV_moveLiveCopies_0 (X : Nat → xm_PT) (Rh : Option Value → xm_M → Prop) : xm_PT := (xo_aload 0 (xo_get 0 0 (xo_iload 1 (xo_aald ats (xo_get 3 0 (xo_astore 2 (xo_push (.int 0) (xo_istore 3 (xo_push (.int 0) (xo_istore 4 (xo_jmp [0, 1, 2, 3, 4] (X 15))))))))))))
def fV_moveLiveCopies : xm_F := fun X Rh lb => if lb = 0 then cV_moveLiveCopies_0 X Rh else (if lb = 15 then cV_moveLiveCopies_15 X Rh else fun _ _ _ _ _ => False)
def cp_V_moveLiveCopies : xm_CP := fun as m Rh => (lg_sl as).length ≤ 6 ∧ xm_cp fV_moveLiveCopies 0 0 as m Rh
theorem eV_moveLiveCopies_0 {X : Nat → xm_PT} {Rh : Option Value → xm_M → Prop} (hX : ∀ lb, xm_le (fV_moveLiveCopies X Rh lb) (X lb)) {ls : xm_L} {st : List Value} {m : xm_M} {bc bs : Nat} (h : cV_moveLiveCopies_0 X Rh ls st m bc bs) : X 0 ls st m bc bs := hX 0 ls st m bc bs h
theorem eV_moveLiveCopies_15 {X : Nat → xm_PT} {Rh : Option Value → xm_M → Prop} (hX : ∀ lb, xm_le (fV_moveLiveCopies X Rh lb) (X lb)) {ls : xm_L} {st : List Value} {m : xm_M} {bc bs : Nat} (h : cV_moveLiveCopies_15 X Rh ls st m bc bs) : X 15 ls st m bc bs := hX 15 ls st m bc bs h
set_option maxRecDepth 20000 in
set_option maxHeartbeats 4000000 in
theorem sV_moveLiveCopies_15 {p : Program} {l : Launch} {e : Env} {s : State} {mm : MethodId} {args : Array Value} {below : List Frame} {meth : Method} {c : Code} {D : va_G} {A : Nat → Prop} {Rh : Option Value → xm_M → Prop} (C : xm_C p s mm args c b_V_moveLiveCopies 6 "BlockVault" w_V_moveLiveCopies D classes ats A) (hr : meth.sig.returnType = (some .int)) (hlk : meth.locks = false) (hnm : meth.name = "moveLiveCopies") : xm_le (cV_moveLiveCopies_15 (xm_A p l e rm_V_moveLiveCopies s mm args below meth c 6 D classes A (MQ below (xm_Q D classes Rh A) args s 0 0 A)) Rh) ((xm_A p l e rm_V_moveLiveCopies s mm args below meth c 6 D classes A (MQ below (xm_Q D classes Rh A) args s 0 0 A)) 15) :=
  (xs_iload C d_V_moveLiveCopies_15 (xs_bipush C d_V_moveLiveCopies_17 (by decide) (xs_icmp_ge C d_V_moveLiveCopies_19 (by decide) (xs_iload_n C d_V_moveLiveCopies_80 rfl (xs_iret C d_V_moveLiveCopies_81 hr hlk rfl rfl)) (xs_iload C d_V_moveLiveCopies_22 (xs_aload_n C d_V_moveLiveCopies_24 rfl (xs_get C (k := 1) d_V_moveLiveCopies_25 h_R (ci := 2) rfl (by decide) (List.mem_cons_of_mem _ tw_36) rfl (xs_icmp_ge C d_V_moveLiveCopies_28 (by decide) (xs_iload_n C d_V_moveLiveCopies_80 rfl (xs_iret C d_V_moveLiveCopies_81 hr hlk rfl rfl)) (xs_aload_n C d_V_moveLiveCopies_31 rfl (xs_iload C d_V_moveLiveCopies_32 (xs_callV C (CN := "BlockVault$Row") (T := F_R) (N := 2) d_V_moveLiveCopies_34 (met_R_at l D) ⟨callB_of (ws := w_R_at) (rm := rm_R_at) 1 C.1.2.2.2.2 (gG_m tw_328) rfl rfl rfl (C.1.2.2.2.2 _ (List.mem_cons_of_mem _ tw_3)) (C.1.2.2.2.2 _ (List.mem_cons_of_mem _ tw_325)) ⟨by decide, by decide, by decide +kernel⟩ ⟨Nat.le_of_ble_eq_true rfl, Nat.le_of_ble_eq_true rfl⟩, (C.1.2.2.2.2 _ (List.mem_cons_of_mem _ tw_326)), (C.1.2.2.2.2 _ (List.mem_cons_of_mem _ tw_327))⟩ (ci := 2) rfl (xs_astore C d_V_moveLiveCopies_37 (by decide) (xs_aload C d_V_moveLiveCopies_39 (xs_ifnull C d_V_moveLiveCopies_41 (by decide) (xs_iinc C d_V_moveLiveCopies_74 (by decide) (by decide) (xs_goto C d_V_moveLiveCopies_77 (by decide) (xs_jmp (fun _ _ _ _ _ h => h)))) (xs_aload_n C d_V_moveLiveCopies_44 rfl (xs_aload C d_V_moveLiveCopies_45 (xs_iload_n C d_V_moveLiveCopies_47 rfl (xs_iload C d_V_moveLiveCopies_48 (xs_callV C (CN := "BlockVault") (T := F_V) (N := 8) d_V_moveLiveCopies_50 (met_V_isLiveAt l D) ⟨callB_of (ws := w_V_isLiveAt) (rm := rm_V_isLiveAt) 3 C.1.2.2.2.2 (gG_m tw_332) rfl rfl rfl (C.1.2.2.2.2 _ (List.mem_cons_of_mem _ tw_1)) (C.1.2.2.2.2 _ (List.mem_cons_of_mem _ tw_329)) ⟨by decide, by decide, by decide +kernel⟩ ⟨Nat.le_of_ble_eq_true rfl, Nat.le_of_ble_eq_true rfl⟩, (C.1.2.2.2.2 _ (List.mem_cons_of_mem _ tw_331)), (C.1.2.2.2.2 _ (List.mem_cons_of_mem _ ts_24))⟩ (ci := 0) rfl (xs_if_ne C d_V_moveLiveCopies_53 (by decide) (xs_goto C d_V_moveLiveCopies_56 (by decide) (xs_iinc C d_V_moveLiveCopies_74 (by decide) (by decide) (xs_goto C d_V_moveLiveCopies_77 (by decide) (xs_jmp (fun _ _ _ _ _ h => h))))) (xs_aload_n C d_V_moveLiveCopies_59 rfl (xs_aload C d_V_moveLiveCopies_60 (xs_callV C (CN := "BlockVault") (T := F_V) (N := 8) d_V_moveLiveCopies_62 (met_V_append l D) ⟨callB_of (ws := w_V_append) (rm := rm_V_append) 1 C.1.2.2.2.2 (gG_m tw_177) rfl rfl rfl (C.1.2.2.2.2 _ (List.mem_cons_of_mem _ tw_1)) (C.1.2.2.2.2 _ (List.mem_cons_of_mem _ tw_174)) ⟨by decide, by decide, by decide +kernel⟩ ⟨Nat.le_of_ble_eq_true rfl, Nat.le_of_ble_eq_true rfl⟩, (C.1.2.2.2.2 _ (List.mem_cons_of_mem _ tw_176)), (C.1.2.2.2.2 _ (List.mem_cons_of_mem _ ts_4))⟩ (ci := 0) rfl (xs_if_ge C d_V_moveLiveCopies_65 (by decide) (xs_iinc C d_V_moveLiveCopies_71 (by decide) (by decide) (xs_iinc C d_V_moveLiveCopies_74 (by decide) (by decide) (xs_goto C d_V_moveLiveCopies_77 (by decide) (xs_jmp (fun _ _ _ _ _ h => h))))) (xs_goto C d_V_moveLiveCopies_68 (by decide) (xs_iload_n C d_V_moveLiveCopies_80 rfl (xs_iret C d_V_moveLiveCopies_81 hr hlk rfl rfl))))))))))))))))))))))))))
set_option maxRecDepth 20000 in
set_option maxHeartbeats 4000000 in
theorem sV_moveLiveCopies_0 {p : Program} {l : Launch} {e : Env} {s : State} {mm : MethodId} {args : Array Value} {below : List Frame} {meth : Method} {c : Code} {D : va_G} {A : Nat → Prop} {Rh : Option Value → xm_M → Prop} (C : xm_C p s mm args c b_V_moveLiveCopies 6 "BlockVault" w_V_moveLiveCopies D classes ats A) (hr : meth.sig.returnType = (some .int)) (hlk : meth.locks = false) (hnm : meth.name = "moveLiveCopies") : xm_le (cV_moveLiveCopies_0 (xm_A p l e rm_V_moveLiveCopies s mm args below meth c 6 D classes A (MQ below (xm_Q D classes Rh A) args s 0 0 A)) Rh) ((xm_A p l e rm_V_moveLiveCopies s mm args below meth c 6 D classes A (MQ below (xm_Q D classes Rh A) args s 0 0 A)) 0) :=
  (xs_aload_n C d_V_moveLiveCopies_0 rfl (xs_get C (k := 0) d_V_moveLiveCopies_1 h_V (ci := 0) rfl (by decide) (List.mem_cons_of_mem _ tw_81) rfl (xs_iload_n C d_V_moveLiveCopies_4 rfl (xs_aald C d_V_moveLiveCopies_5 (xs_get C (k := 0) d_V_moveLiveCopies_6 h_B (ci := 3) rfl (by decide) (List.mem_cons_of_mem _ tw_43) rfl (xs_astore_n C d_V_moveLiveCopies_9 rfl (by decide) (xs_iconst C d_V_moveLiveCopies_10 (by decide) (xs_istore_n C d_V_moveLiveCopies_11 rfl (by decide) (xs_iconst C d_V_moveLiveCopies_12 (by decide) (xs_istore C d_V_moveLiveCopies_13 (by decide) (xs_jmp (fun _ _ _ _ _ h => h))))))))))))
theorem met_V_moveLiveCopies (l : Launch) (D : va_G) : xm_Met l D classes ats y_V_moveLiveCopies w_V_moveLiveCopies rm_V_moveLiveCopies 0 0 cp_V_moveLiveCopies := by
  refine xm_met 0 (by decide) rfl rfl rfl (fun p e s mm args below meth c A Rh C hr hlk hnm lb => ?_)
  unfold fV_moveLiveCopies
  split
  · rename_i h; subst h; exact sV_moveLiveCopies_0 C hr hlk hnm
  split
  · rename_i h; subst h; exact sV_moveLiveCopies_15 C hr hlk hnm
  · exact fun _ _ _ _ _ h => h.elim
