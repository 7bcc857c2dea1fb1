section
-- ===== PART A: goes FIRST, ahead of the names: the tables' words, and 'selects' of the private methods out of them =====
/-- a private method of a class that the tables say can be made, by its rows of tables_1 -/
def lw_okq (q : MethodName × Nat) : Prop := (q.1.cls ≠ "java/lang/invoke/MethodHandle" ∧ q.1.cls ≠ "java/lang/invoke/VarHandle") ∧ Cond.instantiable q.1.cls q.2 ∈ tables_1 ∧ Cond.privateMethod q.1 ∈ tables_1 ∧ Cond.instanceMethod q.1 ∈ tables_1
theorem lw_p0 : lw_okq (⟨"BlockVault", "ruleHolds", "(II)Z"⟩, 8) := ⟨⟨by decide +kernel, by decide +kernel⟩, List.mem_of_getElem? (i := 10) (by decide +kernel), List.mem_of_getElem? (i := 117) (by decide +kernel), List.mem_of_getElem? (i := 118) (by decide +kernel)⟩
theorem lw_p1 : lw_okq (⟨"BlockVault", "isThere", "(I)Z"⟩, 8) := ⟨⟨by decide +kernel, by decide +kernel⟩, List.mem_of_getElem? (i := 10) (by decide +kernel), List.mem_of_getElem? (i := 121) (by decide +kernel), List.mem_of_getElem? (i := 122) (by decide +kernel)⟩
theorem lw_p2 : lw_okq (⟨"BlockVault", "writeRecord", "(IIII)I"⟩, 8) := ⟨⟨by decide +kernel, by decide +kernel⟩, List.mem_of_getElem? (i := 10) (by decide +kernel), List.mem_of_getElem? (i := 129) (by decide +kernel), List.mem_of_getElem? (i := 130) (by decide +kernel)⟩
theorem lw_p3 : lw_okq (⟨"BlockVault", "write", "(LBlockVault$Copy;)I"⟩, 8) := ⟨⟨by decide +kernel, by decide +kernel⟩, List.mem_of_getElem? (i := 10) (by decide +kernel), List.mem_of_getElem? (i := 171) (by decide +kernel), List.mem_of_getElem? (i := 172) (by decide +kernel)⟩
theorem lw_p4 : lw_okq (⟨"BlockVault", "append", "(LBlockVault$Copy;)I"⟩, 8) := ⟨⟨by decide +kernel, by decide +kernel⟩, List.mem_of_getElem? (i := 10) (by decide +kernel), List.mem_of_getElem? (i := 175) (by decide +kernel), List.mem_of_getElem? (i := 176) (by decide +kernel)⟩
theorem lw_p5 : lw_okq (⟨"BlockVault", "currentWithRoom", "(I)I"⟩, 8) := ⟨⟨by decide +kernel, by decide +kernel⟩, List.mem_of_getElem? (i := 10) (by decide +kernel), List.mem_of_getElem? (i := 179) (by decide +kernel), List.mem_of_getElem? (i := 180) (by decide +kernel)⟩
theorem lw_p6 : lw_okq (⟨"BlockVault", "leastInState", "(I)I"⟩, 8) := ⟨⟨by decide +kernel, by decide +kernel⟩, List.mem_of_getElem? (i := 10) (by decide +kernel), List.mem_of_getElem? (i := 183) (by decide +kernel), List.mem_of_getElem? (i := 184) (by decide +kernel)⟩
theorem lw_p7 : lw_okq (⟨"BlockVault", "countInState", "(I)I"⟩, 8) := ⟨⟨by decide +kernel, by decide +kernel⟩, List.mem_of_getElem? (i := 10) (by decide +kernel), List.mem_of_getElem? (i := 191) (by decide +kernel), List.mem_of_getElem? (i := 192) (by decide +kernel)⟩
theorem lw_p8 : lw_okq (⟨"BlockVault", "sealBlock", "(I)V"⟩, 8) := ⟨⟨by decide +kernel, by decide +kernel⟩, List.mem_of_getElem? (i := 10) (by decide +kernel), List.mem_of_getElem? (i := 195) (by decide +kernel), List.mem_of_getElem? (i := 196) (by decide +kernel)⟩
theorem lw_p9 : lw_okq (⟨"BlockVault", "emptyIfDead", "(I)V"⟩, 8) := ⟨⟨by decide +kernel, by decide +kernel⟩, List.mem_of_getElem? (i := 10) (by decide +kernel), List.mem_of_getElem? (i := 207) (by decide +kernel), List.mem_of_getElem? (i := 208) (by decide +kernel)⟩
theorem lw_p10 : lw_okq (⟨"BlockVault", "hasLiveCopy", "(I)Z"⟩, 8) := ⟨⟨by decide +kernel, by decide +kernel⟩, List.mem_of_getElem? (i := 10) (by decide +kernel), List.mem_of_getElem? (i := 214) (by decide +kernel), List.mem_of_getElem? (i := 215) (by decide +kernel)⟩
theorem lw_p11 : lw_okq (⟨"BlockVault", "unwrittenBlocks", "()I"⟩, 8) := ⟨⟨by decide +kernel, by decide +kernel⟩, List.mem_of_getElem? (i := 10) (by decide +kernel), List.mem_of_getElem? (i := 222) (by decide +kernel), List.mem_of_getElem? (i := 223) (by decide +kernel)⟩
theorem lw_p12 : lw_okq (⟨"BlockVault", "freeIfWaitIsOver", "(I)V"⟩, 8) := ⟨⟨by decide +kernel, by decide +kernel⟩, List.mem_of_getElem? (i := 10) (by decide +kernel), List.mem_of_getElem? (i := 226) (by decide +kernel), List.mem_of_getElem? (i := 227) (by decide +kernel)⟩
theorem lw_p13 : lw_okq (⟨"BlockVault", "dropEntry", "(I)V"⟩, 8) := ⟨⟨by decide +kernel, by decide +kernel⟩, List.mem_of_getElem? (i := 10) (by decide +kernel), List.mem_of_getElem? (i := 243) (by decide +kernel), List.mem_of_getElem? (i := 244) (by decide +kernel)⟩
theorem lw_p14 : lw_okq (⟨"BlockVault", "writeTombstone", "(I)I"⟩, 8) := ⟨⟨by decide +kernel, by decide +kernel⟩, List.mem_of_getElem? (i := 10) (by decide +kernel), List.mem_of_getElem? (i := 252) (by decide +kernel), List.mem_of_getElem? (i := 253) (by decide +kernel)⟩
theorem lw_p15 : lw_okq (⟨"BlockVault", "firstToExpire", "()I"⟩, 8) := ⟨⟨by decide +kernel, by decide +kernel⟩, List.mem_of_getElem? (i := 10) (by decide +kernel), List.mem_of_getElem? (i := 260) (by decide +kernel), List.mem_of_getElem? (i := 261) (by decide +kernel)⟩
def lw_privs_1 : List (MethodName × Nat) := [(⟨"BlockVault", "ruleHolds", "(II)Z"⟩, 8), (⟨"BlockVault", "isThere", "(I)Z"⟩, 8), (⟨"BlockVault", "writeRecord", "(IIII)I"⟩, 8), (⟨"BlockVault", "write", "(LBlockVault$Copy;)I"⟩, 8), (⟨"BlockVault", "append", "(LBlockVault$Copy;)I"⟩, 8), (⟨"BlockVault", "currentWithRoom", "(I)I"⟩, 8), (⟨"BlockVault", "leastInState", "(I)I"⟩, 8), (⟨"BlockVault", "countInState", "(I)I"⟩, 8), (⟨"BlockVault", "sealBlock", "(I)V"⟩, 8), (⟨"BlockVault", "emptyIfDead", "(I)V"⟩, 8), (⟨"BlockVault", "hasLiveCopy", "(I)Z"⟩, 8), (⟨"BlockVault", "unwrittenBlocks", "()I"⟩, 8), (⟨"BlockVault", "freeIfWaitIsOver", "(I)V"⟩, 8), (⟨"BlockVault", "dropEntry", "(I)V"⟩, 8), (⟨"BlockVault", "writeTombstone", "(I)I"⟩, 8), (⟨"BlockVault", "firstToExpire", "()I"⟩, 8)]
theorem lw_r1 : ∀ q ∈ lw_privs_1, lw_okq q := List.forall_mem_cons.mpr ⟨lw_p0, List.forall_mem_cons.mpr ⟨lw_p1, List.forall_mem_cons.mpr ⟨lw_p2, List.forall_mem_cons.mpr ⟨lw_p3, List.forall_mem_cons.mpr ⟨lw_p4, List.forall_mem_cons.mpr ⟨lw_p5, List.forall_mem_cons.mpr ⟨lw_p6, List.forall_mem_cons.mpr ⟨lw_p7, List.forall_mem_cons.mpr ⟨lw_p8, List.forall_mem_cons.mpr ⟨lw_p9, List.forall_mem_cons.mpr ⟨lw_p10, List.forall_mem_cons.mpr ⟨lw_p11, List.forall_mem_cons.mpr ⟨lw_p12, List.forall_mem_cons.mpr ⟨lw_p13, List.forall_mem_cons.mpr ⟨lw_p14, List.forall_mem_cons.mpr ⟨lw_p15, fun _ h => absurd h List.not_mem_nil⟩⟩⟩⟩⟩⟩⟩⟩⟩⟩⟩⟩⟩⟩⟩⟩
theorem lw_p16 : lw_okq (⟨"BlockVault", "isNeedless", "(I)Z"⟩, 8) := ⟨⟨by decide +kernel, by decide +kernel⟩, List.mem_of_getElem? (i := 10) (by decide +kernel), List.mem_of_getElem? (i := 272) (by decide +kernel), List.mem_of_getElem? (i := 273) (by decide +kernel)⟩
theorem lw_p17 : lw_okq (⟨"BlockVault", "hidesAnother", "(LBlockVault$Copy;)Z"⟩, 8) := ⟨⟨by decide +kernel, by decide +kernel⟩, List.mem_of_getElem? (i := 10) (by decide +kernel), List.mem_of_getElem? (i := 276) (by decide +kernel), List.mem_of_getElem? (i := 277) (by decide +kernel)⟩
theorem lw_p18 : lw_okq (⟨"BlockVault", "longestSealed", "()I"⟩, 8) := ⟨⟨by decide +kernel, by decide +kernel⟩, List.mem_of_getElem? (i := 10) (by decide +kernel), List.mem_of_getElem? (i := 292) (by decide +kernel), List.mem_of_getElem? (i := 293) (by decide +kernel)⟩
theorem lw_p19 : lw_okq (⟨"BlockVault", "writeBlock", "(I)V"⟩, 8) := ⟨⟨by decide +kernel, by decide +kernel⟩, List.mem_of_getElem? (i := 10) (by decide +kernel), List.mem_of_getElem? (i := 296) (by decide +kernel), List.mem_of_getElem? (i := 297) (by decide +kernel)⟩
theorem lw_p20 : lw_okq (⟨"BlockVault", "endWaitsFor", "(I)V"⟩, 8) := ⟨⟨by decide +kernel, by decide +kernel⟩, List.mem_of_getElem? (i := 10) (by decide +kernel), List.mem_of_getElem? (i := 306) (by decide +kernel), List.mem_of_getElem? (i := 307) (by decide +kernel)⟩
theorem lw_p21 : lw_okq (⟨"BlockVault", "sparsestWritten", "(I)I"⟩, 8) := ⟨⟨by decide +kernel, by decide +kernel⟩, List.mem_of_getElem? (i := 10) (by decide +kernel), List.mem_of_getElem? (i := 314) (by decide +kernel), List.mem_of_getElem? (i := 315) (by decide +kernel)⟩
theorem lw_p22 : lw_okq (⟨"BlockVault", "used", "(I)I"⟩, 8) := ⟨⟨by decide +kernel, by decide +kernel⟩, List.mem_of_getElem? (i := 10) (by decide +kernel), List.mem_of_getElem? (i := 318) (by decide +kernel), List.mem_of_getElem? (i := 319) (by decide +kernel)⟩
theorem lw_p23 : lw_okq (⟨"BlockVault", "moveLiveCopies", "(I)I"⟩, 8) := ⟨⟨by decide +kernel, by decide +kernel⟩, List.mem_of_getElem? (i := 10) (by decide +kernel), List.mem_of_getElem? (i := 322) (by decide +kernel), List.mem_of_getElem? (i := 323) (by decide +kernel)⟩
theorem lw_p24 : lw_okq (⟨"BlockVault", "isLiveAt", "(LBlockVault$Copy;II)Z"⟩, 8) := ⟨⟨by decide +kernel, by decide +kernel⟩, List.mem_of_getElem? (i := 10) (by decide +kernel), List.mem_of_getElem? (i := 330) (by decide +kernel), List.mem_of_getElem? (i := 331) (by decide +kernel)⟩
theorem lw_p25 : lw_okq (⟨"BlockVault", "loseMemory", "()V"⟩, 8) := ⟨⟨by decide +kernel, by decide +kernel⟩, List.mem_of_getElem? (i := 10) (by decide +kernel), List.mem_of_getElem? (i := 338) (by decide +kernel), List.mem_of_getElem? (i := 339) (by decide +kernel)⟩
theorem lw_p26 : lw_okq (⟨"BlockVault", "nameNewestCopies", "()V"⟩, 8) := ⟨⟨by decide +kernel, by decide +kernel⟩, List.mem_of_getElem? (i := 10) (by decide +kernel), List.mem_of_getElem? (i := 346) (by decide +kernel), List.mem_of_getElem? (i := 347) (by decide +kernel)⟩
theorem lw_p27 : lw_okq (⟨"BlockVault", "dropExpiredFound", "()V"⟩, 8) := ⟨⟨by decide +kernel, by decide +kernel⟩, List.mem_of_getElem? (i := 10) (by decide +kernel), List.mem_of_getElem? (i := 354) (by decide +kernel), List.mem_of_getElem? (i := 355) (by decide +kernel)⟩
theorem lw_p28 : lw_okq (⟨"BlockVault", "reopenBlocks", "()V"⟩, 8) := ⟨⟨by decide +kernel, by decide +kernel⟩, List.mem_of_getElem? (i := 10) (by decide +kernel), List.mem_of_getElem? (i := 358) (by decide +kernel), List.mem_of_getElem? (i := 359) (by decide +kernel)⟩
theorem lw_p29 : lw_okq (⟨"BlockVault", "greatestStamp", "()I"⟩, 8) := ⟨⟨by decide +kernel, by decide +kernel⟩, List.mem_of_getElem? (i := 10) (by decide +kernel), List.mem_of_getElem? (i := 362) (by decide +kernel), List.mem_of_getElem? (i := 363) (by decide +kernel)⟩
theorem lw_p30 : lw_okq (⟨"BlockVault", "countThere", "()I"⟩, 8) := ⟨⟨by decide +kernel, by decide +kernel⟩, List.mem_of_getElem? (i := 10) (by decide +kernel), List.mem_of_getElem? (i := 374) (by decide +kernel), List.mem_of_getElem? (i := 375) (by decide +kernel)⟩
theorem lw_p31 : lw_okq (⟨"BlockVault", "countEntries", "()I"⟩, 8) := ⟨⟨by decide +kernel, by decide +kernel⟩, List.mem_of_getElem? (i := 10) (by decide +kernel), List.mem_of_getElem? (i := 408) (by decide +kernel), List.mem_of_getElem? (i := 409) (by decide +kernel)⟩
def lw_privs_2 : List (MethodName × Nat) := [(⟨"BlockVault", "isNeedless", "(I)Z"⟩, 8), (⟨"BlockVault", "hidesAnother", "(LBlockVault$Copy;)Z"⟩, 8), (⟨"BlockVault", "longestSealed", "()I"⟩, 8), (⟨"BlockVault", "writeBlock", "(I)V"⟩, 8), (⟨"BlockVault", "endWaitsFor", "(I)V"⟩, 8), (⟨"BlockVault", "sparsestWritten", "(I)I"⟩, 8), (⟨"BlockVault", "used", "(I)I"⟩, 8), (⟨"BlockVault", "moveLiveCopies", "(I)I"⟩, 8), (⟨"BlockVault", "isLiveAt", "(LBlockVault$Copy;II)Z"⟩, 8), (⟨"BlockVault", "loseMemory", "()V"⟩, 8), (⟨"BlockVault", "nameNewestCopies", "()V"⟩, 8), (⟨"BlockVault", "dropExpiredFound", "()V"⟩, 8), (⟨"BlockVault", "reopenBlocks", "()V"⟩, 8), (⟨"BlockVault", "greatestStamp", "()I"⟩, 8), (⟨"BlockVault", "countThere", "()I"⟩, 8), (⟨"BlockVault", "countEntries", "()I"⟩, 8)]
theorem lw_r2 : ∀ q ∈ lw_privs_2, lw_okq q := List.forall_mem_cons.mpr ⟨lw_p16, List.forall_mem_cons.mpr ⟨lw_p17, List.forall_mem_cons.mpr ⟨lw_p18, List.forall_mem_cons.mpr ⟨lw_p19, List.forall_mem_cons.mpr ⟨lw_p20, List.forall_mem_cons.mpr ⟨lw_p21, List.forall_mem_cons.mpr ⟨lw_p22, List.forall_mem_cons.mpr ⟨lw_p23, List.forall_mem_cons.mpr ⟨lw_p24, List.forall_mem_cons.mpr ⟨lw_p25, List.forall_mem_cons.mpr ⟨lw_p26, List.forall_mem_cons.mpr ⟨lw_p27, List.forall_mem_cons.mpr ⟨lw_p28, List.forall_mem_cons.mpr ⟨lw_p29, List.forall_mem_cons.mpr ⟨lw_p30, List.forall_mem_cons.mpr ⟨lw_p31, fun _ h => absurd h List.not_mem_nil⟩⟩⟩⟩⟩⟩⟩⟩⟩⟩⟩⟩⟩⟩⟩⟩
theorem lw_p32 : lw_okq (⟨"BlockVault", "countTombstones", "()I"⟩, 8) := ⟨⟨by decide +kernel, by decide +kernel⟩, List.mem_of_getElem? (i := 10) (by decide +kernel), List.mem_of_getElem? (i := 412) (by decide +kernel), List.mem_of_getElem? (i := 413) (by decide +kernel)⟩
theorem lw_p33 : lw_okq (⟨"BlockVaultModel", "isThere", "(I)Z"⟩, 18) := ⟨⟨by decide +kernel, by decide +kernel⟩, List.mem_of_getElem? (i := 416) (by decide +kernel), List.mem_of_getElem? (i := 486) (by decide +kernel), List.mem_of_getElem? (i := 487) (by decide +kernel)⟩
theorem lw_p34 : lw_okq (⟨"BlockVaultModel", "expired", "(I)Z"⟩, 18) := ⟨⟨by decide +kernel, by decide +kernel⟩, List.mem_of_getElem? (i := 416) (by decide +kernel), List.mem_of_getElem? (i := 490) (by decide +kernel), List.mem_of_getElem? (i := 491) (by decide +kernel)⟩
theorem lw_p35 : lw_okq (⟨"BlockVaultModel", "writeRecord", "(IIIII)I"⟩, 18) := ⟨⟨by decide +kernel, by decide +kernel⟩, List.mem_of_getElem? (i := 416) (by decide +kernel), List.mem_of_getElem? (i := 494) (by decide +kernel), List.mem_of_getElem? (i := 495) (by decide +kernel)⟩
theorem lw_p36 : lw_okq (⟨"BlockVaultModel", "write", "()I"⟩, 18) := ⟨⟨by decide +kernel, by decide +kernel⟩, List.mem_of_getElem? (i := 416) (by decide +kernel), List.mem_of_getElem? (i := 498) (by decide +kernel), List.mem_of_getElem? (i := 499) (by decide +kernel)⟩
theorem lw_p37 : lw_okq (⟨"BlockVaultModel", "append", "()I"⟩, 18) := ⟨⟨by decide +kernel, by decide +kernel⟩, List.mem_of_getElem? (i := 416) (by decide +kernel), List.mem_of_getElem? (i := 502) (by decide +kernel), List.mem_of_getElem? (i := 503) (by decide +kernel)⟩
theorem lw_p38 : lw_okq (⟨"BlockVaultModel", "first", "(I)I"⟩, 18) := ⟨⟨by decide +kernel, by decide +kernel⟩, List.mem_of_getElem? (i := 416) (by decide +kernel), List.mem_of_getElem? (i := 506) (by decide +kernel), List.mem_of_getElem? (i := 507) (by decide +kernel)⟩
theorem lw_p39 : lw_okq (⟨"BlockVaultModel", "room", "(I)I"⟩, 18) := ⟨⟨by decide +kernel, by decide +kernel⟩, List.mem_of_getElem? (i := 416) (by decide +kernel), List.mem_of_getElem? (i := 510) (by decide +kernel), List.mem_of_getElem? (i := 511) (by decide +kernel)⟩
theorem lw_p40 : lw_okq (⟨"BlockVaultModel", "sealed", "()I"⟩, 18) := ⟨⟨by decide +kernel, by decide +kernel⟩, List.mem_of_getElem? (i := 416) (by decide +kernel), List.mem_of_getElem? (i := 514) (by decide +kernel), List.mem_of_getElem? (i := 515) (by decide +kernel)⟩
theorem lw_p41 : lw_okq (⟨"BlockVaultModel", "close", "(I)V"⟩, 18) := ⟨⟨by decide +kernel, by decide +kernel⟩, List.mem_of_getElem? (i := 416) (by decide +kernel), List.mem_of_getElem? (i := 518) (by decide +kernel), List.mem_of_getElem? (i := 519) (by decide +kernel)⟩
theorem lw_p42 : lw_okq (⟨"BlockVaultModel", "copy", "(II)V"⟩, 18) := ⟨⟨by decide +kernel, by decide +kernel⟩, List.mem_of_getElem? (i := 416) (by decide +kernel), List.mem_of_getElem? (i := 522) (by decide +kernel), List.mem_of_getElem? (i := 523) (by decide +kernel)⟩
theorem lw_p43 : lw_okq (⟨"BlockVaultModel", "settle", "()V"⟩, 18) := ⟨⟨by decide +kernel, by decide +kernel⟩, List.mem_of_getElem? (i := 416) (by decide +kernel), List.mem_of_getElem? (i := 526) (by decide +kernel), List.mem_of_getElem? (i := 527) (by decide +kernel)⟩
theorem lw_p44 : lw_okq (⟨"BlockVaultModel", "used", "(I)I"⟩, 18) := ⟨⟨by decide +kernel, by decide +kernel⟩, List.mem_of_getElem? (i := 416) (by decide +kernel), List.mem_of_getElem? (i := 530) (by decide +kernel), List.mem_of_getElem? (i := 531) (by decide +kernel)⟩
theorem lw_p45 : lw_okq (⟨"BlockVaultModel", "writeTombstone", "(I)I"⟩, 18) := ⟨⟨by decide +kernel, by decide +kernel⟩, List.mem_of_getElem? (i := 416) (by decide +kernel), List.mem_of_getElem? (i := 547) (by decide +kernel), List.mem_of_getElem? (i := 548) (by decide +kernel)⟩
theorem lw_p46 : lw_okq (⟨"BlockVaultModel", "hasOther", "(I)Z"⟩, 18) := ⟨⟨by decide +kernel, by decide +kernel⟩, List.mem_of_getElem? (i := 416) (by decide +kernel), List.mem_of_getElem? (i := 563) (by decide +kernel), List.mem_of_getElem? (i := 564) (by decide +kernel)⟩
theorem lw_p47 : lw_okq (⟨"BlockVaultModel", "store", "(II)V"⟩, 18) := ⟨⟨by decide +kernel, by decide +kernel⟩, List.mem_of_getElem? (i := 416) (by decide +kernel), List.mem_of_getElem? (i := 575) (by decide +kernel), List.mem_of_getElem? (i := 576) (by decide +kernel)⟩
def lw_privs_3 : List (MethodName × Nat) := [(⟨"BlockVault", "countTombstones", "()I"⟩, 8), (⟨"BlockVaultModel", "isThere", "(I)Z"⟩, 18), (⟨"BlockVaultModel", "expired", "(I)Z"⟩, 18), (⟨"BlockVaultModel", "writeRecord", "(IIIII)I"⟩, 18), (⟨"BlockVaultModel", "write", "()I"⟩, 18), (⟨"BlockVaultModel", "append", "()I"⟩, 18), (⟨"BlockVaultModel", "first", "(I)I"⟩, 18), (⟨"BlockVaultModel", "room", "(I)I"⟩, 18), (⟨"BlockVaultModel", "sealed", "()I"⟩, 18), (⟨"BlockVaultModel", "close", "(I)V"⟩, 18), (⟨"BlockVaultModel", "copy", "(II)V"⟩, 18), (⟨"BlockVaultModel", "settle", "()V"⟩, 18), (⟨"BlockVaultModel", "used", "(I)I"⟩, 18), (⟨"BlockVaultModel", "writeTombstone", "(I)I"⟩, 18), (⟨"BlockVaultModel", "hasOther", "(I)Z"⟩, 18), (⟨"BlockVaultModel", "store", "(II)V"⟩, 18)]
theorem lw_r3 : ∀ q ∈ lw_privs_3, lw_okq q := List.forall_mem_cons.mpr ⟨lw_p32, List.forall_mem_cons.mpr ⟨lw_p33, List.forall_mem_cons.mpr ⟨lw_p34, List.forall_mem_cons.mpr ⟨lw_p35, List.forall_mem_cons.mpr ⟨lw_p36, List.forall_mem_cons.mpr ⟨lw_p37, List.forall_mem_cons.mpr ⟨lw_p38, List.forall_mem_cons.mpr ⟨lw_p39, List.forall_mem_cons.mpr ⟨lw_p40, List.forall_mem_cons.mpr ⟨lw_p41, List.forall_mem_cons.mpr ⟨lw_p42, List.forall_mem_cons.mpr ⟨lw_p43, List.forall_mem_cons.mpr ⟨lw_p44, List.forall_mem_cons.mpr ⟨lw_p45, List.forall_mem_cons.mpr ⟨lw_p46, List.forall_mem_cons.mpr ⟨lw_p47, fun _ h => absurd h List.not_mem_nil⟩⟩⟩⟩⟩⟩⟩⟩⟩⟩⟩⟩⟩⟩⟩⟩
def lw_privs : List (MethodName × Nat) := lw_privs_1 ++ (lw_privs_2 ++ (lw_privs_3))
def lw_tbl : List Cond := k2_sels lw_privs ++ tables_1
theorem lw_privs_ok : ∀ q ∈ lw_privs, lw_okq q := by
  show ∀ q ∈ lw_privs_1 ++ (lw_privs_2 ++ (lw_privs_3)), lw_okq q
  exact List.forall_mem_append.mpr ⟨lw_r1, List.forall_mem_append.mpr ⟨lw_r2, lw_r3⟩⟩
-- ===== end of PART A; then your names; then what follows =====
/-! THE CLAIM OUT OF ONE WALK OF THE LAW'S BODY. Your part is whole_start (and what it stands on); all else here is the same for every law, but numbers. -/
def R_law : String := "BlockVaultLaw"
def lw_P (b : Addr) (xs : List Int32) (args : Array Value) (s : State) : Prop := args = #[.ref b] ∧ s.IntsAt b xs ∧ xs.length ≤ 3072 ∧ (Jvm.Cond.and given_1 narrow_1).before args s = true
def lw_Q (_ : Array Value) (s : State) (o : Outcome) (t : State) : Prop := o = .returned (some (.int 1)) ∧ Framed s o t [] 600000 7302250
def lw_Z (below : List Frame) (a : Array Value) (s : State) : State → Prop := fun t => ∃ o, t.status = .running ∧ Ended t below o ∧ lw_Q a s o t
/-- the law's own end, with 1 on the stack, nothing written that was there before, its room as the claim has it -/
theorem lw_ret {p : Program} {l : Launch} {e : Env} {s : State} {m : MethodId} {below : List Frame} {meth : Method} {c : Code} {b : Nat} (hx : p.tables.exec = Jvm.exec) (hb : c.code = code) (hr : meth.sig.returnType = ret) (hlocks : meth.locks = false) {pc : Nat} {H : Heap} {ls : Array Slot} (hdg : decode code pc = .ok (.ireturn, 1)) : W p l e room_1 s m #[Value.ref b] below meth c H [] 600000 7302250 (lw_Z below #[Value.ref b] s) (F0 m pc ls [.int 1]) := by
  intro T hT X
  obtain ⟨fs, hret, hrun, hended, hW, hframe⟩ := X.leave (v := some (.int 1)) (hlocks := hlocks) (fun h => by rw [hr] at h; cases h)
  have hmeth' : T.vm.method? m = some meth := X.method'
  refine ⟨T.setFrames fs, ?_, .returned (some (.int 1)), hrun, hended, rfl, ⟨_, rfl⟩, hW, hframe⟩
  jvm_step X.here [X.here.top, hx, hb, hdg, hmeth', hr, ret, narrow_b1]
  (try refine ⟨rfl, ?_⟩); (try refine ⟨rfl, ?_⟩)
  first | (intro acts; rw [hret _ acts rfl rfl rfl]) | rw [hret _ _ rfl rfl rfl]
  exact Steps.refl _
/-- what holds at the law's entry: the machine, the code, the tables' words (any of lw_tbl by 'hts w (by decide +kernel)'), the script of L ints xs at the cell b, what the Statement gives of the start (any of its parts by flat_of_before) -/
def lw_At (p : Program) (s : State) (m : MethodId) (meth : Method) (c : Code) (b L : Nat) (xs : Nat → Int32) : Prop :=
  p.tables.exec = Jvm.exec ∧ c.code = code ∧ meth.sig.returnType = ret ∧ c.maxLocals = 4 ∧ s.vm.findClass R_law = some m.cls ∧ (∀ w ∈ lw_tbl, w.before #[Value.ref b] s = true) ∧ va_X b L xs s s.heap ∧ b < s.heap.size ∧ meth.locks = false ∧ (Jvm.Cond.and given_1 narrow_1).before #[Value.ref b] s = true
-- ===== YOUR PART BEGINS =====
end
section
/-! Predicate transformers over an abstract memory: a row each for the machine's instructions. A code piece K : xm_PT says of locals, stack, memory and room left that all goes well from there; xm_le K (xm_A .. pc) says that the machine at pc does what K says. -/
abbrev xm_M : Type := Nat → Option va_E
def xm_up (m : xm_M) (a : Nat) (e : va_E) : xm_M := fun b => if b = a then some e else m b
theorem xm_up_s (m : xm_M) (a : Nat) (e : va_E) : xm_up m a e a = some e := by simp [xm_up]
theorem xm_up_n (m : xm_M) {a b : Nat} (e : va_E) (h : b ≠ a) : xm_up m a e b = m b := by simp [xm_up, h]
abbrev xm_L : Type := List (Nat × Value)
abbrev xm_PT : Type := xm_L → List Value → xm_M → Nat → Nat → Prop
def xm_lk : xm_L → Nat → Option Value
  | [], _ => none
  | (j, w) :: r, i => if j = i then some w else xm_lk r i
def xm_rm : xm_L → Nat → xm_L
  | [], _ => []
  | (j, w) :: r, i => if j = i ∨ (j + 1 = i ∧ w.category = 2) then xm_rm r i else (j, w) :: xm_rm r i
def xm_sto (ls : xm_L) (i : Nat) (v : Value) : xm_L := (i, v) :: xm_rm ls i
def xm_keep (ls : xm_L) : List Nat → xm_L
  | [] => []
  | i :: ks => match xm_lk ls i with
    | some v => (i, v) :: xm_keep ls ks
    | none => xm_keep ls ks
theorem xm_lk_mem {ls : xm_L} {i : Nat} {v : Value} (h : xm_lk ls i = some v) : (i, v) ∈ ls := by
  induction ls with
  | nil => simp [xm_lk] at h
  | cons q r ih =>
    obtain ⟨j, w⟩ := q
    simp only [xm_lk] at h
    split at h
    · rename_i hj
      subst hj
      cases h
      exact List.mem_cons_self
    · exact List.mem_cons_of_mem _ (ih h)
theorem xm_rm_mem {ls : xm_L} {i : Nat} {q : Nat × Value} (h : q ∈ xm_rm ls i) : q ∈ ls ∧ ¬ q.1 = i ∧ ¬ (q.1 + 1 = i ∧ q.2.category = 2) := by
  induction ls with
  | nil => simp [xm_rm] at h
  | cons a r ih =>
    obtain ⟨j, w⟩ := a
    simp only [xm_rm] at h
    split at h
    · obtain ⟨h1, h2⟩ := ih h
      exact ⟨List.mem_cons_of_mem _ h1, h2⟩
    · rename_i hn
      rcases List.mem_cons.mp h with h | h
      · subst h
        exact ⟨List.mem_cons_self, fun e => hn (Or.inl e), fun e => hn (Or.inr e)⟩
      · obtain ⟨h1, h2⟩ := ih h
        exact ⟨List.mem_cons_of_mem _ h1, h2⟩
theorem xm_keep_mem {ls : xm_L} {ks : List Nat} {q : Nat × Value} (h : q ∈ xm_keep ls ks) : q ∈ ls := by
  induction ks with
  | nil => simp [xm_keep] at h
  | cons i ks ih =>
    simp only [xm_keep] at h
    split at h
    · rename_i v hv
      rcases List.mem_cons.mp h with h | h
      · subst h; exact xm_lk_mem hv
      · exact ih h
    · exact ih h
theorem xm_has_sub {la : Array Slot} {nL : Nat} {l l' : xm_L} (h : lv_has la nL l) (hs : ∀ q ∈ l', q ∈ l) : lv_has la nL l' := ⟨h.1, h.2.1, fun q hq => h.2.2 q (hs q hq)⟩
theorem xm_has_lk {la : Array Slot} {nL : Nat} {l : xm_L} {i : Nat} {v : Value} (h : lv_has la nL l) (hv : xm_lk l i = some v) : la[i]? = some (.val v) := h.2.2 (i, v) (xm_lk_mem hv)
theorem xm_has_sto {la : Array Slot} {nL i : Nat} {l : xm_L} {v : Value} (h : lv_has la nL ((i, v) :: l.filter (fun q => !(q.1 == i) && !(q.1 + 1 == i && q.2.category == 2)))) : lv_has la nL (xm_sto l i v) := by
  refine xm_has_sub h (fun q hq => ?_)
  rcases List.mem_cons.mp hq with hq | hq
  · subst hq; exact List.mem_cons_self
  · obtain ⟨h1, h2, h3⟩ := xm_rm_mem hq
    refine List.mem_cons_of_mem _ (List.mem_filter.mpr ⟨h1, ?_⟩)
    simp only [Bool.and_eq_true, Bool.not_eq_true', beq_eq_false_iff_ne, Bool.and_eq_false_iff]
    refine ⟨h2, ?_⟩
    by_cases h4 : q.1 + 1 = i
    · exact Or.inr (fun e => h3 ⟨h4, e⟩)
    · exact Or.inl h4
def xm_tr (D : va_G) : va_E → va_E
  | .inl x => .inl (D.1 (100 + x.1), x.2)
  | .inr o => .inr o
def xm_W (D : va_G) (cl : List vw_C) (m : xm_M) (H : Heap) : Prop := ∀ (a : Nat) (e : va_E), m a = some e → va_at D cl (a, xm_tr D e) H
def xm_ty (D : va_G) (ats : List FieldType) : List (ClassId × FieldType) := ats.zipIdx.map (fun q => (D.1 (100 + q.2), q.1))
theorem xm_ty_at {D : va_G} {ats : List FieldType} {t : Nat} {ty : FieldType} (h : ats[t]? = some ty) : (xm_ty D ats)[t]? = some (D.1 (100 + t), ty) := by
  simp [xm_ty, List.getElem?_map, List.getElem?_zipIdx, h]
theorem xm_W.one {D : va_G} {cl : List vw_C} {m : xm_M} {H : Heap} (h : xm_W D cl m H) {a : Nat} {e : va_E} (ha : m a = some e) : va_P D cl [(a, xm_tr D e)] H := by
  intro k q hk
  have hz : k < 1 := (List.getElem?_eq_some_iff.mp hk).1
  rw [show k = 0 by omega] at hk
  cases hk
  exact h a e ha
theorem xm_W.lt {D : va_G} {cl : List vw_C} {m : xm_M} {H : Heap} (h : xm_W D cl m H) {a : Nat} {e : va_E} (ha : m a = some e) : a < H.size := (h a e ha).lt
theorem xm_W.fresh {D : va_G} {cl : List vw_C} {m : xm_M} {H : Heap} (h : xm_W D cl m H) : m H.size = none := by
  cases he : m H.size with
  | none => rfl
  | some e => exact absurd (h.lt he) (Nat.lt_irrefl _)
theorem xm_W.up {D : va_G} {cl : List vw_C} {m : xm_M} {H H1 : Heap} (h : xm_W D cl m H) {a : Nat} {e : va_E} (he : va_at D cl (a, xm_tr D e) H1) (ho : ∀ q, q ≠ a → H1[q]? = H[q]?) : xm_W D cl (xm_up m a e) H1 := by
  intro b x hb
  by_cases hba : b = a
  · subst hba
    rw [xm_up_s] at hb
    cases hb
    exact he
  · rw [xm_up_n _ _ hba] at hb
    exact (h b x hb).kept (ho b hba)
theorem xm_W.push {D : va_G} {cl : List vw_C} {m : xm_M} {H H1 : Heap} (h : xm_W D cl m H) {e : va_E} (he : va_at D cl (H.size, xm_tr D e) H1) (ho : ∀ q, q < H.size → H1[q]? = H[q]?) : xm_W D cl (xm_up m H.size e) H1 := by
  intro b x hb
  by_cases hba : b = H.size
  · subst hba
    rw [xm_up_s] at hb
    cases hb
    exact he
  · rw [xm_up_n _ _ hba] at hb
    exact (h b x hb).kept (ho b (h.lt hb))
theorem xm_in_up {A : Nat → Prop} {m : xm_M} (h : ∀ a, m a ≠ none → A a) {a : Nat} (e : va_E) (ha : A a) : ∀ b, xm_up m a e b ≠ none → A b := by
  intro b hb
  by_cases hba : b = a
  · subst hba; exact ha
  · rw [xm_up_n _ _ hba] at hb; exact h b hb
def xm_As (m : xm_M) (sz : Nat) : Nat → Prop := fun q => m q ≠ none ∨ sz ≤ q
def xm_le (K K' : xm_PT) : Prop := ∀ ls st m bc bs, K ls st m bc bs → K' ls st m bc bs
def xm_ref (v : Value) : Prop := v = .null ∨ ∃ a, v = .ref a
theorem xm_ref_r (a : Nat) : xm_ref (.ref a) := Or.inr ⟨a, rfl⟩
theorem xm_ref_n : xm_ref .null := Or.inl rfl
theorem xm_ref_q (r : Option Nat) : xm_ref (va_rf r) := va_rf_or r
theorem xm_ref.cat {v : Value} (h : xm_ref v) : v.category = 1 := by
  rcases h with h | ⟨a, h⟩ <;> subst h <;> rfl
/-- the arguments off the stack -/
def xm_sp : Nat → List Value → List Value → Option (List Value × List Value)
  | 0, st, acc => some (acc, st)
  | _ + 1, [], _ => none
  | n + 1, v :: st, acc => xm_sp n st (v :: acc)
theorem xm_sp_ok {n : Nat} : ∀ {st acc as rest : List Value}, xm_sp n st acc = some (as, rest) → ∃ l : List Value, l.length = n ∧ st = l ++ rest ∧ as = l.reverse ++ acc := by
  induction n with
  | zero =>
    intro st acc as rest h
    simp only [xm_sp, Option.some.injEq, Prod.mk.injEq] at h
    exact ⟨[], rfl, by rw [h.2]; rfl, by rw [← h.1]; rfl⟩
  | succ n ih =>
    intro st acc as rest h
    cases st with
    | nil => simp [xm_sp] at h
    | cons v st =>
      simp only [xm_sp] at h
      obtain ⟨l, h1, h2, h3⟩ := ih h
      exact ⟨v :: l, by simp [h1], by simp [h2], by simp [h3]⟩
theorem xm_cat4 {rest : List Value} (h : rest.length ≤ 4) : (rest.map fun v => v.category).sum ≤ 8 := by
  have key : ∀ r : List Value, (r.map fun v => v.category).sum ≤ 2 * r.length := by
    intro r
    induction r with
    | nil => simp
    | cons v r ih =>
      simp only [List.map_cons, List.sum_cons, List.length_cons]
      rcases lv_cat v with hv | hv <;> omega
  have := key rest
  omega
/-! the transformers -/
def xo_push (v : Value) (K : xm_PT) (ls : xm_L) (st : List Value) (m : xm_M) (bc bs : Nat) : Prop := K ls (v :: st) m bc bs
def xo_iload (i : Nat) (K : xm_PT) (ls : xm_L) (st : List Value) (m : xm_M) (bc bs : Nat) : Prop := match xm_lk ls i with
  | some (.int v) => K ls (.int v :: st) m bc bs
  | _ => False
def xo_lload (i : Nat) (K : xm_PT) (ls : xm_L) (st : List Value) (m : xm_M) (bc bs : Nat) : Prop := match xm_lk ls i with
  | some (.long v) => K ls (.long v :: st) m bc bs
  | _ => False
def xo_aload (i : Nat) (K : xm_PT) (ls : xm_L) (st : List Value) (m : xm_M) (bc bs : Nat) : Prop := match xm_lk ls i with
  | some v => xm_ref v ∧ K ls (v :: st) m bc bs
  | _ => False
def xo_istore (i : Nat) (K : xm_PT) (ls : xm_L) (st : List Value) (m : xm_M) (bc bs : Nat) : Prop := match st with
  | .int v :: r => K (xm_sto ls i (.int v)) r m bc bs
  | _ => False
def xo_astore (i : Nat) (K : xm_PT) (ls : xm_L) (st : List Value) (m : xm_M) (bc bs : Nat) : Prop := match st with
  | v :: r => xm_ref v ∧ K (xm_sto ls i v) r m bc bs
  | _ => False
def xo_iinc (i : Nat) (n : Int32) (K : xm_PT) (ls : xm_L) (st : List Value) (m : xm_M) (bc bs : Nat) : Prop := match xm_lk ls i with
  | some (.int v) => K (xm_sto ls i (.int (v + n))) st m bc bs
  | _ => False
def xo_ibin (f : Int32 → Int32 → Int32) (K : xm_PT) (ls : xm_L) (st : List Value) (m : xm_M) (bc bs : Nat) : Prop := match st with
  | .int y :: .int x :: r => K ls (.int (f x y) :: r) m bc bs
  | _ => False
def xo_iun (f : Int32 → Int32) (K : xm_PT) (ls : xm_L) (st : List Value) (m : xm_M) (bc bs : Nat) : Prop := match st with
  | .int x :: r => K ls (.int (f x) :: r) m bc bs
  | _ => False
def xo_i2l (K : xm_PT) (ls : xm_L) (st : List Value) (m : xm_M) (bc bs : Nat) : Prop := match st with
  | .int x :: r => K ls (.long x.toInt64 :: r) m bc bs
  | _ => False
def xo_l2i (K : xm_PT) (ls : xm_L) (st : List Value) (m : xm_M) (bc bs : Nat) : Prop := match st with
  | .long x :: r => K ls (.int x.toInt32 :: r) m bc bs
  | _ => False
def xo_lcmp (K : xm_PT) (ls : xm_L) (st : List Value) (m : xm_M) (bc bs : Nat) : Prop := match st with
  | .long y :: .long x :: r => K ls (.int (lg_cmp x y) :: r) m bc bs
  | _ => False
def xo_dup (K : xm_PT) (ls : xm_L) (st : List Value) (m : xm_M) (bc bs : Nat) : Prop := match st with
  | v :: r => v.category = 1 ∧ K ls (v :: v :: r) m bc bs
  | _ => False
def xo_pop (K : xm_PT) (ls : xm_L) (st : List Value) (m : xm_M) (bc bs : Nat) : Prop := match st with
  | v :: r => v.category = 1 ∧ K ls r m bc bs
  | _ => False
def xo_dup_x1 (K : xm_PT) (ls : xm_L) (st : List Value) (m : xm_M) (bc bs : Nat) : Prop := match st with
  | v :: w :: r => v.category = 1 ∧ w.category = 1 ∧ K ls (v :: w :: v :: r) m bc bs
  | _ => False
def xo_dup2 (K : xm_PT) (ls : xm_L) (st : List Value) (m : xm_M) (bc bs : Nat) : Prop := match st with
  | v :: w :: r => v.category = 1 ∧ w.category = 1 ∧ K ls (v :: w :: v :: w :: r) m bc bs
  | _ => False
def xo_if (cnd : Int32 → Prop) (Kt Kf : xm_PT) (ls : xm_L) (st : List Value) (m : xm_M) (bc bs : Nat) : Prop := match st with
  | .int x :: r => (cnd x → Kt ls r m bc bs) ∧ (¬ cnd x → Kf ls r m bc bs)
  | _ => False
def xo_icmp (cnd : Int32 → Int32 → Prop) (Kt Kf : xm_PT) (ls : xm_L) (st : List Value) (m : xm_M) (bc bs : Nat) : Prop := match st with
  | .int y :: .int x :: r => (cnd x y → Kt ls r m bc bs) ∧ (¬ cnd x y → Kf ls r m bc bs)
  | _ => False
/-- Kn: where it is null; Kr: where it isn't -/
def xo_null (Kn Kr : xm_PT) (ls : xm_L) (st : List Value) (m : xm_M) (bc bs : Nat) : Prop := match st with
  | v :: r => xm_ref v ∧ (v = .null → Kn ls r m bc bs) ∧ (v ≠ .null → Kr ls r m bc bs)
  | _ => False
def xo_get (ci k : Nat) (K : xm_PT) (ls : xm_L) (st : List Value) (m : xm_M) (bc bs : Nat) : Prop := match st with
  | .ref a :: r => (match m a with
    | some (.inr (c, fs)) => c = ci ∧ (match fs[k]? with
      | some v => K ls (v :: r) m bc bs
      | none => False)
    | _ => False)
  | _ => False
def xo_put (ci k : Nat) (ty : FieldType) (K : xm_PT) (ls : xm_L) (st : List Value) (m : xm_M) (bc bs : Nat) : Prop := match st with
  | v :: .ref a :: r => narrow ty v = v ∧ fits ty v = true ∧ (match m a with
    | some (.inr (c, fs)) => c = ci ∧ k < fs.length ∧ K ls r (xm_up m a (.inr (ci, fs.set k v))) bc bs
    | _ => False)
  | _ => False
def xo_alen (ats : List FieldType) (K : xm_PT) (ls : xm_L) (st : List Value) (m : xm_M) (bc bs : Nat) : Prop := match st with
  | .ref a :: r => (match m a with
    | some (.inl (t, x)) => (∃ ty, ats[t]? = some ty) ∧ K ls (.int (nI x.1) :: r) m bc bs
    | _ => False)
  | _ => False
def xo_iald (ats : List FieldType) (K : xm_PT) (ls : xm_L) (st : List Value) (m : xm_M) (bc bs : Nat) : Prop := match st with
  | .int i :: .ref a :: r => (match m a with
    | some (.inl (t, n, .inl f)) => ats[t]? = some .int ∧ vp_in i n ∧ K ls (.int (f i.toNatClampNeg) :: r) m bc bs
    | _ => False)
  | _ => False
def xo_iast (ats : List FieldType) (K : xm_PT) (ls : xm_L) (st : List Value) (m : xm_M) (bc bs : Nat) : Prop := match st with
  | .int x :: .int i :: .ref a :: r => (match m a with
    | some (.inl (t, n, .inl f)) => ats[t]? = some .int ∧ vp_in i n ∧ K ls r (xm_up m a (.inl (t, n, .inl (upd f i.toNatClampNeg x)))) bc bs
    | _ => False)
  | _ => False
def xo_aald (ats : List FieldType) (K : xm_PT) (ls : xm_L) (st : List Value) (m : xm_M) (bc bs : Nat) : Prop := match st with
  | .int i :: .ref a :: r => (match m a with
    | some (.inl (t, n, .inr (.inr (.inr (.inr f))))) => (∃ C, ats[t]? = some (.object C)) ∧ vp_in i n ∧ K ls (va_rf (f i.toNatClampNeg) :: r) m bc bs
    | _ => False)
  | _ => False
def xo_aast (ats : List FieldType) (cl : List vw_C) (K : xm_PT) (ls : xm_L) (st : List Value) (m : xm_M) (bc bs : Nat) : Prop := match st with
  | .ref v :: .int i :: .ref a :: r => (match m a, m v with
    | some (.inl (t, n, .inr (.inr (.inr (.inr f))))), some (.inr (ci, _)) => ats[t]? = some (.object (cl.getD ci ("", fun _ => ("", "", "", false), 0)).1) ∧ ci < cl.length ∧ vp_in i n ∧ K ls r (xm_up m a (.inl (t, n, .inr (.inr (.inr (.inr (va_up f i.toNatClampNeg (some v)))))))) bc bs
    | _, _ => False)
  | _ => False
def xo_idiv (K : xm_PT) (ls : xm_L) (st : List Value) (m : xm_M) (bc bs : Nat) : Prop := match st with
  | .int y :: .int x :: r => ¬ y = 0 ∧ K ls (.int (x / y) :: r) m bc bs
  | _ => False
def xo_irem (K : xm_PT) (ls : xm_L) (st : List Value) (m : xm_M) (bc bs : Nat) : Prop := match st with
  | .int y :: .int x :: r => ¬ y = 0 ∧ K ls (.int (x - x / y * y) :: r) m bc bs
  | _ => False
def xo_zald (ats : List FieldType) (K : xm_PT) (ls : xm_L) (st : List Value) (m : xm_M) (bc bs : Nat) : Prop := match st with
  | .int i :: .ref a :: r => (match m a with
    | some (.inl (t, n, .inl f)) => ats[t]? = some .boolean ∧ vp_in i n ∧ K ls (.int (f i.toNatClampNeg) :: r) m bc bs
    | _ => False)
  | _ => False
def xo_zast (ats : List FieldType) (K : xm_PT) (ls : xm_L) (st : List Value) (m : xm_M) (bc bs : Nat) : Prop := match st with
  | .int x :: .int i :: .ref a :: r => (match m a with
    | some (.inl (t, n, .inl f)) => ats[t]? = some .boolean ∧ (x = 0 ∨ x = 1) ∧ vp_in i n ∧ K ls r (xm_up m a (.inl (t, n, .inl (upd f i.toNatClampNeg x)))) bc bs
    | _ => False)
  | _ => False
def xo_sld (b L : Nat) (xs : Nat → Int32) (K : xm_PT) (ls : xm_L) (st : List Value) (m : xm_M) (bc bs : Nat) : Prop := match st with
  | .int i :: .ref a :: r => a = b ∧ vp_in i L ∧ K ls (.int (xs i.toNatClampNeg) :: r) m bc bs
  | _ => False
def xo_slen (b L : Nat) (K : xm_PT) (ls : xm_L) (st : List Value) (m : xm_M) (bc bs : Nat) : Prop := match st with
  | .ref a :: r => a = b ∧ K ls (.int (nI L) :: r) m bc bs
  | _ => False
def xo_new (ci N : Nat) (fs : List Value) (K : xm_PT) (ls : xm_L) (st : List Value) (m : xm_M) (bc bs : Nat) : Prop := 1 ≤ bc ∧ N ≤ bs ∧ ∀ q, m q = none → K ls (.ref q :: st) (xm_up m q (.inr (ci, fs))) (bc - 1) (bs - N)
def xo_anew (t : Nat) (K : xm_PT) (ls : xm_L) (st : List Value) (m : xm_M) (bc bs : Nat) : Prop := match st with
  | .int n :: r => ¬ n < 0 ∧ n.toNatClampNeg ≤ 100000 ∧ 1 ≤ bc ∧ n.toNatClampNeg ≤ bs ∧ ∀ q, m q = none → K ls (.ref q :: r) (xm_up m q (.inl (t, n.toNatClampNeg, .inr (.inr (.inr (.inr (fun _ => none))))))) (bc - 1) (bs - n.toNatClampNeg)
  | _ => False
def xo_newi (t : Nat) (K : xm_PT) (ls : xm_L) (st : List Value) (m : xm_M) (bc bs : Nat) : Prop := match st with
  | .int n :: r => ¬ n < 0 ∧ n.toNatClampNeg ≤ 100000 ∧ 1 ≤ bc ∧ n.toNatClampNeg ≤ bs ∧ ∀ q, m q = none → K ls (.ref q :: r) (xm_up m q (.inl (t, n.toNatClampNeg, .inl (fun _ => 0)))) (bc - 1) (bs - n.toNatClampNeg)
  | _ => False
def xo_drop (K : xm_PT) (ls : xm_L) (st : List Value) (m : xm_M) (bc bs : Nat) : Prop := match st with
  | .ref _ :: r => r.length ≤ 4 ∧ K ls r m bc bs
  | _ => False
abbrev xm_CP : Type := List Value → xm_M → (Option Value → xm_M → Prop) → Prop
def xo_callV (ci n mc ms : Nat) (CP : xm_CP) (K : xm_PT) (ls : xm_L) (st : List Value) (m : xm_M) (bc bs : Nat) : Prop := mc ≤ bc ∧ ms ≤ bs ∧ match xm_sp n st [] with
  | some (as, .ref b :: rest) => rest.length ≤ 4 ∧ (match m b with
    | some (.inr (c, _)) => c = ci
    | _ => False) ∧ CP (.ref b :: as) m (fun r m' => K ls (r.toList ++ rest) m' (bc - mc) (bs - ms))
  | _ => False
def xo_callI (n mc ms : Nat) (CP : xm_CP) (K : xm_PT) (ls : xm_L) (st : List Value) (m : xm_M) (bc bs : Nat) : Prop := mc ≤ bc ∧ ms ≤ bs ∧ match xm_sp n st [] with
  | some (as, .ref b :: rest) => rest.length ≤ 4 ∧ CP (.ref b :: as) m (fun r m' => K ls (r.toList ++ rest) m' (bc - mc) (bs - ms))
  | _ => False
def xo_callS (n mc ms : Nat) (CP : xm_CP) (K : xm_PT) (ls : xm_L) (st : List Value) (m : xm_M) (bc bs : Nat) : Prop := mc ≤ bc ∧ ms ≤ bs ∧ match xm_sp n st [] with
  | some (as, rest) => rest.length ≤ 4 ∧ CP as m (fun r m' => K ls (r.toList ++ rest) m' (bc - mc) (bs - ms))
  | _ => False
def xo_jmp (ks : List Nat) (K : xm_PT) (ls : xm_L) (st : List Value) (m : xm_M) (bc bs : Nat) : Prop := K (xm_keep ls ks) st m bc bs
def xo_iret (Rh : Option Value → xm_M → Prop) (_ls : xm_L) (st : List Value) (m : xm_M) (_bc _bs : Nat) : Prop := match st with
  | [.int v] => Rh (some (.int v)) m
  | _ => False
def xo_zret (Rh : Option Value → xm_M → Prop) (_ls : xm_L) (st : List Value) (m : xm_M) (_bc _bs : Nat) : Prop := match st with
  | [.int v] => (v = 0 ∨ v = 1) ∧ Rh (some (.int v)) m
  | _ => False
def xo_lret (Rh : Option Value → xm_M → Prop) (_ls : xm_L) (st : List Value) (m : xm_M) (_bc _bs : Nat) : Prop := match st with
  | [.long v] => Rh (some (.long v)) m
  | _ => False
def xo_aret (Rh : Option Value → xm_M → Prop) (_ls : xm_L) (st : List Value) (m : xm_M) (_bc _bs : Nat) : Prop := match st with
  | [v] => xm_ref v ∧ Rh (some v) m
  | _ => False
def xo_vret (Rh : Option Value → xm_M → Prop) (_ls : xm_L) (st : List Value) (m : xm_M) (_bc _bs : Nat) : Prop := match st with
  | [] => Rh none m
  | _ => False
def xm_sw (x : Int) : Int → List xm_PT → xm_PT → xm_L → List Value → xm_M → Nat → Nat → Prop
  | _, [], Kd, ls, st, m, bc, bs => Kd ls st m bc bs
  | lo, K :: Ks, Kd, ls, st, m, bc, bs => (x = lo → K ls st m bc bs) ∧ (¬ x = lo → xm_sw x (lo + 1) Ks Kd ls st m bc bs)
def xo_tsw (lo : Int) (Ks : List xm_PT) (Kd : xm_PT) (ls : xm_L) (st : List Value) (m : xm_M) (bc bs : Nat) : Prop := match st with
  | .int x :: r => xm_sw x.toInt lo Ks Kd ls r m bc bs
  | _ => False
def xm_lsw (x : Int) : List (Int × xm_PT) → xm_PT → xm_L → List Value → xm_M → Nat → Nat → Prop
  | [], Kd, ls, st, m, bc, bs => Kd ls st m bc bs
  | (k, K) :: Ks, Kd, ls, st, m, bc, bs => (x = k → K ls st m bc bs) ∧ (¬ x = k → xm_lsw x Ks Kd ls st m bc bs)
def xo_lsw (Ks : List (Int × xm_PT)) (Kd : xm_PT) (ls : xm_L) (st : List Value) (m : xm_M) (bc bs : Nat) : Prop := match st with
  | .int x :: r => xm_lsw x.toInt Ks Kd ls r m bc bs
  | _ => False
end
section
/-! each transformer is what the machine does -/
def xm_C (p : Program) (s : State) (mm : MethodId) (args : Array Value) (c : Code) (cc : ByteArray) (nL : Nat) (own : String) (Ts : List Cond) (D : va_G) (cl : List vw_C) (ats : List FieldType) (A : Nat → Prop) : Prop :=
  CallFix p mm c cc nL s args Ts own ∧ va_K D cl (xm_ty D ats) s ∧ ∀ q, s.heap.size ≤ q → A q
def xm_A (p : Program) (l : Launch) (e : Env) (R : Room) (s : State) (mm : MethodId) (args : Array Value) (below : List Frame) (meth : Method) (c : Code) (nL : Nat) (D : va_G) (cl : List vw_C) (A : Nat → Prop) (Q : State → Prop) (pc : Nat) : xm_PT := fun ls st m bc bs =>
  ∀ (H : Heap) (locs : List Loc) (cells slots : Nat) (la : Array Slot), lv_has la nL ls → xm_W D cl m H → (∀ a, m a ≠ none → A a) → va_S A s.heap H locs → cells + bc ≤ R.cells → slots + bs ≤ R.slots → W p l e R s mm args below meth c H locs cells slots Q (F0 mm pc la st)
def xm_Q (D : va_G) (cl : List vw_C) (Rh : Option Value → xm_M → Prop) (A : Nat → Prop) : Array Value → State → Outcome → State → Prop := fun _ st oc t => (∃ (r : Option Value) (m' : xm_M), oc = .returned r ∧ Rh r m' ∧ xm_W D cl m' t.heap ∧ ∀ a, m' a ≠ none → A a) ∧ va_F A st t
def xm_Pre (D : va_G) (cl : List vw_C) (ats : List FieldType) (as : List Value) (m : xm_M) (sz : Nat) : Array Value → State → Prop := va_Pc as (fun U => U.heap.size = sz ∧ xm_W D cl m U.heap ∧ va_K D cl (xm_ty D ats) U)
def xm_Met (l : Launch) (D : va_G) (cl : List vw_C) (ats : List FieldType) (y : MethodName) (ws : List Cond) (rm : Room) (mc ms : Nat) (CP : xm_CP) : Prop :=
  ∀ (as : List Value) (m : xm_M) (sz : Nat) (Rh : Option Value → xm_M → Prop), CP as m Rh → Met l y ws rm (xm_Pre D cl ats as m sz) (xm_Q D cl Rh (xm_As m sz)) mc ms (xm_As m sz)
theorem xm_blind {D : va_G} {cl : List vw_C} {ats : List FieldType} {as : List Value} {m : xm_M} {sz : Nat} : FrameBlind (xm_Pre D cl ats as m sz) := fun a U g mk q => by
  obtain ⟨q0, q1, qP, qK⟩ := q
  exact ⟨q0, q1, qP, va_K.moved (u := U) (U := U.calling g mk a) (Vm.Alike.refl U.vm) qK⟩
section XS
variable {p : Program} {l : Launch} {e : Env} {R : Room} {s : State} {mm : MethodId} {args : Array Value} {below : List Frame} {meth : Method} {c : Code} {cc : ByteArray} {nL : Nat} {own : String} {Ts : List Cond} {D : va_G} {cl : List vw_C} {ats : List FieldType} {A : Nat → Prop} {Q : State → Prop} {pc : Nat} {K Kt Kf : xm_PT}
theorem xs_iconst (C : xm_C p s mm args c cc nL own Ts D cl ats A) {n : Int} {v : Int32} (hd : decode cc pc = .ok (.iconst n, 1)) (hv : Int32.ofInt n = v) (hK : xm_le K (xm_A p l e R s mm args below meth c nL D cl A Q (pc + 1))) : xm_le (xo_push (.int v) K) (xm_A p l e R s mm args below meth c nL D cl A Q pc) := by
  intro ls st m bc bs h H locs cells slots la hl hW hin hS h1 h2
  exact lv_iconst C.1.1 C.1.2.1 hd hv (hK _ _ _ _ _ h H locs cells slots la hl hW hin hS h1 h2)
theorem xs_bipush (C : xm_C p s mm args c cc nL own Ts D cl ats A) {n : Int} {v : Int32} (hd : decode cc pc = .ok (.bipush n, 2)) (hv : (Int8.ofInt n).toInt32 = v) (hK : xm_le K (xm_A p l e R s mm args below meth c nL D cl A Q (pc + 2))) : xm_le (xo_push (.int v) K) (xm_A p l e R s mm args below meth c nL D cl A Q pc) := by
  intro ls st m bc bs h H locs cells slots la hl hW hin hS h1 h2
  exact lv_bipush C.1.1 C.1.2.1 hd hv (hK _ _ _ _ _ h H locs cells slots la hl hW hin hS h1 h2)
theorem xs_sipush (C : xm_C p s mm args c cc nL own Ts D cl ats A) {n : Int} {v : Int32} (hd : decode cc pc = .ok (.sipush n, 3)) (hv : (Int16.ofInt n).toInt32 = v) (hK : xm_le K (xm_A p l e R s mm args below meth c nL D cl A Q (pc + 3))) : xm_le (xo_push (.int v) K) (xm_A p l e R s mm args below meth c nL D cl A Q pc) := by
  intro ls st m bc bs h H locs cells slots la hl hW hin hS h1 h2
  exact lv_sipush C.1.1 C.1.2.1 hd hv (hK _ _ _ _ _ h H locs cells slots la hl hW hin hS h1 h2)
theorem xs_lconst (C : xm_C p s mm args c cc nL own Ts D cl ats A) {n : Fin 2} {v : Int64} (hd : decode cc pc = .ok (.lconst n, 1)) (hv : Int64.ofNat (n : Nat) = v) (hK : xm_le K (xm_A p l e R s mm args below meth c nL D cl A Q (pc + 1))) : xm_le (xo_push (.long v) K) (xm_A p l e R s mm args below meth c nL D cl A Q pc) := by
  intro ls st m bc bs h H locs cells slots la hl hW hin hS h1 h2
  exact lv_lconst C.1.1 C.1.2.1 hd hv (hK _ _ _ _ _ h H locs cells slots la hl hW hin hS h1 h2)
theorem xs_null (C : xm_C p s mm args c cc nL own Ts D cl ats A)  (hd : decode cc pc = .ok (.aconst_null, 1))  (hK : xm_le K (xm_A p l e R s mm args below meth c nL D cl A Q (pc + 1))) : xm_le (xo_push (.null) K) (xm_A p l e R s mm args below meth c nL D cl A Q pc) := by
  intro ls st m bc bs h H locs cells slots la hl hW hin hS h1 h2
  exact lv_null C.1.1 C.1.2.1 hd (hK _ _ _ _ _ h H locs cells slots la hl hW hin hS h1 h2)
theorem xs_ldc (C : xm_C p s mm args c cc nL own Ts D cl ats A) {index : Nat} {v : Int32} (hd : decode cc pc = .ok (.ldc index, 2)) (hc : Jvm.Cond.constant own index v ∈ Ts) (hK : xm_le K (xm_A p l e R s mm args below meth c nL D cl A Q (pc + 2))) : xm_le (xo_push (.int v) K) (xm_A p l e R s mm args below meth c nL D cl A Q pc) := by
  intro ls st m bc bs h H locs cells slots la hl hW hin hS h1 h2
  exact lv_ldc C.1.1 C.1.2.1 C.1.2.2.2.1 (C.1.2.2.2.2 _ hc) hd (hK _ _ _ _ _ h H locs cells slots la hl hW hin hS h1 h2)
theorem xs_ldc2 (C : xm_C p s mm args c cc nL own Ts D cl ats A) {index : Nat} {v : Int64} (hd : decode cc pc = .ok (.ldc2_w index, 3)) (hc : Jvm.Cond.constantLong own index v ∈ Ts) (hK : xm_le K (xm_A p l e R s mm args below meth c nL D cl A Q (pc + 3))) : xm_le (xo_push (.long v) K) (xm_A p l e R s mm args below meth c nL D cl A Q pc) := by
  intro ls st m bc bs h H locs cells slots la hl hW hin hS h1 h2
  exact lv_ldc2 C.1.1 C.1.2.1 C.1.2.2.2.1 (C.1.2.2.2.2 _ hc) hd (hK _ _ _ _ _ h H locs cells slots la hl hW hin hS h1 h2)
theorem xs_ldcw (C : xm_C p s mm args c cc nL own Ts D cl ats A) {index : Nat} {v : Int32} (hd : decode cc pc = .ok (.ldc_w index, 3)) (hc : Jvm.Cond.constant own index v ∈ Ts) (hK : xm_le K (xm_A p l e R s mm args below meth c nL D cl A Q (pc + 3))) : xm_le (xo_push (.int v) K) (xm_A p l e R s mm args below meth c nL D cl A Q pc) := by
  intro ls st m bc bs h H locs cells slots la hl hW hin hS h1 h2
  exact lv_ldcw C.1.1 C.1.2.1 C.1.2.2.2.1 (C.1.2.2.2.2 _ hc) hd (hK _ _ _ _ _ h H locs cells slots la hl hW hin hS h1 h2)
theorem xs_iload_n (C : xm_C p s mm args c cc nL own Ts D cl ats A) {k : Fin 4} {i : Nat} (hd : decode cc pc = .ok (.iload_n k, 1)) (hi : (k : Nat) = i) (hK : xm_le K (xm_A p l e R s mm args below meth c nL D cl A Q (pc + 1))) : xm_le (xo_iload i K) (xm_A p l e R s mm args below meth c nL D cl A Q pc) := by
  intro ls st m bc bs h H locs cells slots la hl hW hin hS h1 h2
  simp only [xo_iload] at h
  split at h
  · rename_i v hv
    exact lv_iload_n C.1.1 C.1.2.1 hd hi (xm_has_lk hl hv) (hK _ _ _ _ _ h H locs cells slots la hl hW hin hS h1 h2)
  · exact h.elim
theorem xs_iload (C : xm_C p s mm args c cc nL own Ts D cl ats A) {i : Nat} (hd : decode cc pc = .ok (.iload i, 2)) (hK : xm_le K (xm_A p l e R s mm args below meth c nL D cl A Q (pc + 2))) : xm_le (xo_iload i K) (xm_A p l e R s mm args below meth c nL D cl A Q pc) := by
  intro ls st m bc bs h H locs cells slots la hl hW hin hS h1 h2
  simp only [xo_iload] at h
  split at h
  · rename_i v hv
    exact lv_iload C.1.1 C.1.2.1 hd (xm_has_lk hl hv) (hK _ _ _ _ _ h H locs cells slots la hl hW hin hS h1 h2)
  · exact h.elim
theorem xs_lload_n (C : xm_C p s mm args c cc nL own Ts D cl ats A) {k : Fin 4} {i : Nat} (hd : decode cc pc = .ok (.lload_n k, 1)) (hi : (k : Nat) = i) (hK : xm_le K (xm_A p l e R s mm args below meth c nL D cl A Q (pc + 1))) : xm_le (xo_lload i K) (xm_A p l e R s mm args below meth c nL D cl A Q pc) := by
  intro ls st m bc bs h H locs cells slots la hl hW hin hS h1 h2
  simp only [xo_lload] at h
  split at h
  · rename_i v hv
    exact lv_lload_n C.1.1 C.1.2.1 hd hi (xm_has_lk hl hv) (hK _ _ _ _ _ h H locs cells slots la hl hW hin hS h1 h2)
  · exact h.elim
theorem xs_lload (C : xm_C p s mm args c cc nL own Ts D cl ats A) {i : Nat} (hd : decode cc pc = .ok (.lload i, 2)) (hK : xm_le K (xm_A p l e R s mm args below meth c nL D cl A Q (pc + 2))) : xm_le (xo_lload i K) (xm_A p l e R s mm args below meth c nL D cl A Q pc) := by
  intro ls st m bc bs h H locs cells slots la hl hW hin hS h1 h2
  simp only [xo_lload] at h
  split at h
  · rename_i v hv
    exact lv_lload C.1.1 C.1.2.1 hd (xm_has_lk hl hv) (hK _ _ _ _ _ h H locs cells slots la hl hW hin hS h1 h2)
  · exact h.elim
theorem xs_aload_n (C : xm_C p s mm args c cc nL own Ts D cl ats A) {k : Fin 4} {i : Nat} (hd : decode cc pc = .ok (.aload_n k, 1)) (hi : (k : Nat) = i) (hK : xm_le K (xm_A p l e R s mm args below meth c nL D cl A Q (pc + 1))) : xm_le (xo_aload i K) (xm_A p l e R s mm args below meth c nL D cl A Q pc) := by
  intro ls st m bc bs h H locs cells slots la hl hW hin hS h1 h2
  simp only [xo_aload] at h
  split at h
  · rename_i v hv
    obtain ⟨hr, h⟩ := h
    rcases hr with rfl | ⟨a, rfl⟩
    · exact lv_aload_nN C.1.1 C.1.2.1 hd hi (xm_has_lk hl hv) (hK _ _ _ _ _ h H locs cells slots la hl hW hin hS h1 h2)
    · exact lv_aload_n C.1.1 C.1.2.1 hd hi (xm_has_lk hl hv) (hK _ _ _ _ _ h H locs cells slots la hl hW hin hS h1 h2)
  · exact h.elim
theorem xs_aload (C : xm_C p s mm args c cc nL own Ts D cl ats A) {i : Nat} (hd : decode cc pc = .ok (.aload i, 2)) (hK : xm_le K (xm_A p l e R s mm args below meth c nL D cl A Q (pc + 2))) : xm_le (xo_aload i K) (xm_A p l e R s mm args below meth c nL D cl A Q pc) := by
  intro ls st m bc bs h H locs cells slots la hl hW hin hS h1 h2
  simp only [xo_aload] at h
  split at h
  · rename_i v hv
    obtain ⟨hr, h⟩ := h
    rcases hr with rfl | ⟨a, rfl⟩
    · exact lv_aloadN C.1.1 C.1.2.1 hd (xm_has_lk hl hv) (hK _ _ _ _ _ h H locs cells slots la hl hW hin hS h1 h2)
    · exact lv_aload C.1.1 C.1.2.1 hd (xm_has_lk hl hv) (hK _ _ _ _ _ h H locs cells slots la hl hW hin hS h1 h2)
  · exact h.elim
theorem xs_istore_n (C : xm_C p s mm args c cc nL own Ts D cl ats A) {k : Fin 4} {i : Nat} (hd : decode cc pc = .ok (.istore_n k, 1)) (hi : (k : Nat) = i) (hn : i < nL) (hK : xm_le K (xm_A p l e R s mm args below meth c nL D cl A Q (pc + 1))) : xm_le (xo_istore i K) (xm_A p l e R s mm args below meth c nL D cl A Q pc) := by
  intro ls st m bc bs h H locs cells slots la hl hW hin hS h1 h2
  simp only [xo_istore] at h
  split at h
  · exact lv_istore_n C.1.1 C.1.2.1 hd hi hl hn rfl (fun la' hl' => hK _ _ _ _ _ h H locs cells slots la' (xm_has_sto hl') hW hin hS h1 h2)
  · exact h.elim
theorem xs_istore (C : xm_C p s mm args c cc nL own Ts D cl ats A) {i : Nat} (hd : decode cc pc = .ok (.istore i, 2)) (hn : i < nL) (hK : xm_le K (xm_A p l e R s mm args below meth c nL D cl A Q (pc + 2))) : xm_le (xo_istore i K) (xm_A p l e R s mm args below meth c nL D cl A Q pc) := by
  intro ls st m bc bs h H locs cells slots la hl hW hin hS h1 h2
  simp only [xo_istore] at h
  split at h
  · exact lv_istore C.1.1 C.1.2.1 hd hl hn rfl (fun la' hl' => hK _ _ _ _ _ h H locs cells slots la' (xm_has_sto hl') hW hin hS h1 h2)
  · exact h.elim
theorem xs_astore_n (C : xm_C p s mm args c cc nL own Ts D cl ats A) {k : Fin 4} {i : Nat} (hd : decode cc pc = .ok (.astore_n k, 1)) (hi : (k : Nat) = i) (hn : i < nL) (hK : xm_le K (xm_A p l e R s mm args below meth c nL D cl A Q (pc + 1))) : xm_le (xo_astore i K) (xm_A p l e R s mm args below meth c nL D cl A Q pc) := by
  intro ls st m bc bs h H locs cells slots la hl hW hin hS h1 h2
  simp only [xo_astore] at h
  split at h
  · obtain ⟨hr, h⟩ := h
    rcases hr with rfl | ⟨a, rfl⟩
    · exact lv_astore_nN C.1.1 C.1.2.1 hd hi hl hn rfl (fun la' hl' => hK _ _ _ _ _ h H locs cells slots la' (xm_has_sto hl') hW hin hS h1 h2)
    · exact lv_astore_n C.1.1 C.1.2.1 hd hi hl hn rfl (fun la' hl' => hK _ _ _ _ _ h H locs cells slots la' (xm_has_sto hl') hW hin hS h1 h2)
  · exact h.elim
theorem xs_astore (C : xm_C p s mm args c cc nL own Ts D cl ats A) {i : Nat} (hd : decode cc pc = .ok (.astore i, 2)) (hn : i < nL) (hK : xm_le K (xm_A p l e R s mm args below meth c nL D cl A Q (pc + 2))) : xm_le (xo_astore i K) (xm_A p l e R s mm args below meth c nL D cl A Q pc) := by
  intro ls st m bc bs h H locs cells slots la hl hW hin hS h1 h2
  simp only [xo_astore] at h
  split at h
  · obtain ⟨hr, h⟩ := h
    rcases hr with rfl | ⟨a, rfl⟩
    · exact lv_astoreN C.1.1 C.1.2.1 hd hl hn rfl (fun la' hl' => hK _ _ _ _ _ h H locs cells slots la' (xm_has_sto hl') hW hin hS h1 h2)
    · exact lv_astore C.1.1 C.1.2.1 hd hl hn rfl (fun la' hl' => hK _ _ _ _ _ h H locs cells slots la' (xm_has_sto hl') hW hin hS h1 h2)
  · exact h.elim
theorem xs_iinc (C : xm_C p s mm args c cc nL own Ts D cl ats A) {i : Nat} {n : Int} {v : Int32} (hd : decode cc pc = .ok (.iinc i n, 3)) (hv : Int32.ofInt n = v) (hn : i < nL) (hK : xm_le K (xm_A p l e R s mm args below meth c nL D cl A Q (pc + 3))) : xm_le (xo_iinc i v K) (xm_A p l e R s mm args below meth c nL D cl A Q pc) := by
  intro ls st m bc bs h H locs cells slots la hl hW hin hS h1 h2
  simp only [xo_iinc] at h
  split at h
  · rename_i x hx
    subst hv
    obtain ⟨k, hk⟩ := List.getElem?_of_mem (xm_lk_mem hx)
    exact lv_iinc C.1.1 C.1.2.1 hd hl hk rfl hn rfl (fun la' hl' => hK _ _ _ _ _ h H locs cells slots la' (xm_has_sto hl') hW hin hS h1 h2)
  · exact h.elim
theorem xs_iadd (C : xm_C p s mm args c cc nL own Ts D cl ats A) (hd : decode cc pc = .ok (.iadd, 1)) (hK : xm_le K (xm_A p l e R s mm args below meth c nL D cl A Q (pc + 1))) : xm_le (xo_ibin (fun x y => x + y) K) (xm_A p l e R s mm args below meth c nL D cl A Q pc) := by
  intro ls st m bc bs h H locs cells slots la hl hW hin hS h1 h2
  simp only [xo_ibin] at h
  split at h
  · exact lv_iadd C.1.1 C.1.2.1 hd (hK _ _ _ _ _ h H locs cells slots la hl hW hin hS h1 h2)
  · exact h.elim
theorem xs_isub (C : xm_C p s mm args c cc nL own Ts D cl ats A) (hd : decode cc pc = .ok (.isub, 1)) (hK : xm_le K (xm_A p l e R s mm args below meth c nL D cl A Q (pc + 1))) : xm_le (xo_ibin (fun x y => x - y) K) (xm_A p l e R s mm args below meth c nL D cl A Q pc) := by
  intro ls st m bc bs h H locs cells slots la hl hW hin hS h1 h2
  simp only [xo_ibin] at h
  split at h
  · exact lv_isub C.1.1 C.1.2.1 hd (hK _ _ _ _ _ h H locs cells slots la hl hW hin hS h1 h2)
  · exact h.elim
theorem xs_imul (C : xm_C p s mm args c cc nL own Ts D cl ats A) (hd : decode cc pc = .ok (.imul, 1)) (hK : xm_le K (xm_A p l e R s mm args below meth c nL D cl A Q (pc + 1))) : xm_le (xo_ibin (fun x y => x * y) K) (xm_A p l e R s mm args below meth c nL D cl A Q pc) := by
  intro ls st m bc bs h H locs cells slots la hl hW hin hS h1 h2
  simp only [xo_ibin] at h
  split at h
  · exact lv_imul C.1.1 C.1.2.1 hd (hK _ _ _ _ _ h H locs cells slots la hl hW hin hS h1 h2)
  · exact h.elim
theorem xs_iand (C : xm_C p s mm args c cc nL own Ts D cl ats A) (hd : decode cc pc = .ok (.iand, 1)) (hK : xm_le K (xm_A p l e R s mm args below meth c nL D cl A Q (pc + 1))) : xm_le (xo_ibin (fun x y => x &&& y) K) (xm_A p l e R s mm args below meth c nL D cl A Q pc) := by
  intro ls st m bc bs h H locs cells slots la hl hW hin hS h1 h2
  simp only [xo_ibin] at h
  split at h
  · exact lv_iand C.1.1 C.1.2.1 hd (hK _ _ _ _ _ h H locs cells slots la hl hW hin hS h1 h2)
  · exact h.elim
theorem xs_ior (C : xm_C p s mm args c cc nL own Ts D cl ats A) (hd : decode cc pc = .ok (.ior, 1)) (hK : xm_le K (xm_A p l e R s mm args below meth c nL D cl A Q (pc + 1))) : xm_le (xo_ibin (fun x y => x ||| y) K) (xm_A p l e R s mm args below meth c nL D cl A Q pc) := by
  intro ls st m bc bs h H locs cells slots la hl hW hin hS h1 h2
  simp only [xo_ibin] at h
  split at h
  · exact lv_ior C.1.1 C.1.2.1 hd (hK _ _ _ _ _ h H locs cells slots la hl hW hin hS h1 h2)
  · exact h.elim
theorem xs_ixor (C : xm_C p s mm args c cc nL own Ts D cl ats A) (hd : decode cc pc = .ok (.ixor, 1)) (hK : xm_le K (xm_A p l e R s mm args below meth c nL D cl A Q (pc + 1))) : xm_le (xo_ibin (fun x y => x ^^^ y) K) (xm_A p l e R s mm args below meth c nL D cl A Q pc) := by
  intro ls st m bc bs h H locs cells slots la hl hW hin hS h1 h2
  simp only [xo_ibin] at h
  split at h
  · exact lv_ixor C.1.1 C.1.2.1 hd (hK _ _ _ _ _ h H locs cells slots la hl hW hin hS h1 h2)
  · exact h.elim
theorem xs_ishl (C : xm_C p s mm args c cc nL own Ts D cl ats A) (hd : decode cc pc = .ok (.ishl, 1)) (hK : xm_le K (xm_A p l e R s mm args below meth c nL D cl A Q (pc + 1))) : xm_le (xo_ibin (fun x y => x <<< (y &&& 31)) K) (xm_A p l e R s mm args below meth c nL D cl A Q pc) := by
  intro ls st m bc bs h H locs cells slots la hl hW hin hS h1 h2
  simp only [xo_ibin] at h
  split at h
  · exact lv_ishl C.1.1 C.1.2.1 hd (hK _ _ _ _ _ h H locs cells slots la hl hW hin hS h1 h2)
  · exact h.elim
theorem xs_ishr (C : xm_C p s mm args c cc nL own Ts D cl ats A) (hd : decode cc pc = .ok (.ishr, 1)) (hK : xm_le K (xm_A p l e R s mm args below meth c nL D cl A Q (pc + 1))) : xm_le (xo_ibin (fun x y => x >>> (y &&& 31)) K) (xm_A p l e R s mm args below meth c nL D cl A Q pc) := by
  intro ls st m bc bs h H locs cells slots la hl hW hin hS h1 h2
  simp only [xo_ibin] at h
  split at h
  · exact lv_ishr C.1.1 C.1.2.1 hd (hK _ _ _ _ _ h H locs cells slots la hl hW hin hS h1 h2)
  · exact h.elim
theorem xs_iushr (C : xm_C p s mm args c cc nL own Ts D cl ats A) (hd : decode cc pc = .ok (.iushr, 1)) (hK : xm_le K (xm_A p l e R s mm args below meth c nL D cl A Q (pc + 1))) : xm_le (xo_ibin (fun x y => (x.toUInt32 >>> (y.toUInt32 &&& Int32.toUInt32 31)).toInt32) K) (xm_A p l e R s mm args below meth c nL D cl A Q pc) := by
  intro ls st m bc bs h H locs cells slots la hl hW hin hS h1 h2
  simp only [xo_ibin] at h
  split at h
  · exact lv_iushr C.1.1 C.1.2.1 hd rfl (hK _ _ _ _ _ h H locs cells slots la hl hW hin hS h1 h2)
  · exact h.elim
theorem xs_ineg (C : xm_C p s mm args c cc nL own Ts D cl ats A) (hd : decode cc pc = .ok (.ineg, 1)) (hK : xm_le K (xm_A p l e R s mm args below meth c nL D cl A Q (pc + 1))) : xm_le (xo_iun (fun x => -x) K) (xm_A p l e R s mm args below meth c nL D cl A Q pc) := by
  intro ls st m bc bs h H locs cells slots la hl hW hin hS h1 h2
  simp only [xo_iun] at h
  split at h
  · exact lv_ineg C.1.1 C.1.2.1 hd (hK _ _ _ _ _ h H locs cells slots la hl hW hin hS h1 h2)
  · exact h.elim
theorem xs_i2l (C : xm_C p s mm args c cc nL own Ts D cl ats A) (hd : decode cc pc = .ok (.i2l, 1)) (hK : xm_le K (xm_A p l e R s mm args below meth c nL D cl A Q (pc + 1))) : xm_le (xo_i2l K) (xm_A p l e R s mm args below meth c nL D cl A Q pc) := by
  intro ls st m bc bs h H locs cells slots la hl hW hin hS h1 h2
  simp only [xo_i2l] at h
  split at h
  · exact lv_i2l C.1.1 C.1.2.1 hd rfl (hK _ _ _ _ _ h H locs cells slots la hl hW hin hS h1 h2)
  · exact h.elim
theorem xs_l2i (C : xm_C p s mm args c cc nL own Ts D cl ats A) (hd : decode cc pc = .ok (.l2i, 1)) (hK : xm_le K (xm_A p l e R s mm args below meth c nL D cl A Q (pc + 1))) : xm_le (xo_l2i K) (xm_A p l e R s mm args below meth c nL D cl A Q pc) := by
  intro ls st m bc bs h H locs cells slots la hl hW hin hS h1 h2
  simp only [xo_l2i] at h
  split at h
  · exact lv_l2i C.1.1 C.1.2.1 hd rfl (hK _ _ _ _ _ h H locs cells slots la hl hW hin hS h1 h2)
  · exact h.elim
theorem xs_lcmp (C : xm_C p s mm args c cc nL own Ts D cl ats A) (hd : decode cc pc = .ok (.lcmp, 1)) (hK : xm_le K (xm_A p l e R s mm args below meth c nL D cl A Q (pc + 1))) : xm_le (xo_lcmp K) (xm_A p l e R s mm args below meth c nL D cl A Q pc) := by
  intro ls st m bc bs h H locs cells slots la hl hW hin hS h1 h2
  simp only [xo_lcmp] at h
  split at h
  · exact W.lcmp C.1.1 C.1.2.1 hd (hK _ _ _ _ _ h H locs cells slots la hl hW hin hS h1 h2)
  · exact h.elim
theorem xs_dup (C : xm_C p s mm args c cc nL own Ts D cl ats A) (hd : decode cc pc = .ok (.dup, 1)) (hK : xm_le K (xm_A p l e R s mm args below meth c nL D cl A Q (pc + 1))) : xm_le (xo_dup K) (xm_A p l e R s mm args below meth c nL D cl A Q pc) := by
  intro ls st m bc bs h H locs cells slots la hl hW hin hS h1 h2
  simp only [xo_dup] at h
  split at h
  · obtain ⟨hv, h⟩ := h
    exact lv_dup C.1.1 C.1.2.1 hd hv (hK _ _ _ _ _ h H locs cells slots la hl hW hin hS h1 h2)
  · exact h.elim
theorem xs_pop (C : xm_C p s mm args c cc nL own Ts D cl ats A) (hd : decode cc pc = .ok (.pop, 1)) (hK : xm_le K (xm_A p l e R s mm args below meth c nL D cl A Q (pc + 1))) : xm_le (xo_pop K) (xm_A p l e R s mm args below meth c nL D cl A Q pc) := by
  intro ls st m bc bs h H locs cells slots la hl hW hin hS h1 h2
  simp only [xo_pop] at h
  split at h
  · obtain ⟨hv, h⟩ := h
    exact lv_pop C.1.1 C.1.2.1 hd hv (hK _ _ _ _ _ h H locs cells slots la hl hW hin hS h1 h2)
  · exact h.elim
theorem xs_dup_x1 (C : xm_C p s mm args c cc nL own Ts D cl ats A) (hd : decode cc pc = .ok (.dup_x1, 1)) (hK : xm_le K (xm_A p l e R s mm args below meth c nL D cl A Q (pc + 1))) : xm_le (xo_dup_x1 K) (xm_A p l e R s mm args below meth c nL D cl A Q pc) := by
  intro ls st m bc bs h H locs cells slots la hl hW hin hS h1 h2
  simp only [xo_dup_x1] at h
  split at h
  · obtain ⟨hv, hw, h⟩ := h
    exact lv_dup_x1 C.1.1 C.1.2.1 hd hv hw (hK _ _ _ _ _ h H locs cells slots la hl hW hin hS h1 h2)
  · exact h.elim
theorem xs_dup2 (C : xm_C p s mm args c cc nL own Ts D cl ats A) (hd : decode cc pc = .ok (.dup2, 1)) (hK : xm_le K (xm_A p l e R s mm args below meth c nL D cl A Q (pc + 1))) : xm_le (xo_dup2 K) (xm_A p l e R s mm args below meth c nL D cl A Q pc) := by
  intro ls st m bc bs h H locs cells slots la hl hW hin hS h1 h2
  simp only [xo_dup2] at h
  split at h
  · obtain ⟨hv, hw, h⟩ := h
    exact lv_dup2_11 C.1.1 C.1.2.1 hd hv hw (hK _ _ _ _ _ h H locs cells slots la hl hW hin hS h1 h2)
  · exact h.elim
theorem xs_if_eq (C : xm_C p s mm args c cc nL own Ts D cl ats A) {off : Int} {tgt : Nat} (hd : decode cc pc = .ok (.ifCond .eq off, 3)) (ht : (pc : Int) + off = (tgt : Int)) (hT : xm_le Kt (xm_A p l e R s mm args below meth c nL D cl A Q tgt)) (hF : xm_le Kf (xm_A p l e R s mm args below meth c nL D cl A Q (pc + 3))) : xm_le (xo_if (fun x => x = 0) Kt Kf) (xm_A p l e R s mm args below meth c nL D cl A Q pc) := by
  intro ls st m bc bs h H locs cells slots la hl hW hin hS h1 h2
  simp only [xo_if] at h
  split at h
  · exact lv_if_eq C.1.1 C.1.2.1 hd ht (fun q => hT _ _ _ _ _ (h.1 q) H locs cells slots la hl hW hin hS h1 h2) (fun q => hF _ _ _ _ _ (h.2 q) H locs cells slots la hl hW hin hS h1 h2)
  · exact h.elim
theorem xs_if_lt (C : xm_C p s mm args c cc nL own Ts D cl ats A) {off : Int} {tgt : Nat} (hd : decode cc pc = .ok (.ifCond .lt off, 3)) (ht : (pc : Int) + off = (tgt : Int)) (hT : xm_le Kt (xm_A p l e R s mm args below meth c nL D cl A Q tgt)) (hF : xm_le Kf (xm_A p l e R s mm args below meth c nL D cl A Q (pc + 3))) : xm_le (xo_if (fun x => x < 0) Kt Kf) (xm_A p l e R s mm args below meth c nL D cl A Q pc) := by
  intro ls st m bc bs h H locs cells slots la hl hW hin hS h1 h2
  simp only [xo_if] at h
  split at h
  · exact lv_if_lt C.1.1 C.1.2.1 hd ht (fun q => hT _ _ _ _ _ (h.1 q) H locs cells slots la hl hW hin hS h1 h2) (fun q => hF _ _ _ _ _ (h.2 q) H locs cells slots la hl hW hin hS h1 h2)
  · exact h.elim
theorem xs_if_ge (C : xm_C p s mm args c cc nL own Ts D cl ats A) {off : Int} {tgt : Nat} (hd : decode cc pc = .ok (.ifCond .ge off, 3)) (ht : (pc : Int) + off = (tgt : Int)) (hT : xm_le Kt (xm_A p l e R s mm args below meth c nL D cl A Q tgt)) (hF : xm_le Kf (xm_A p l e R s mm args below meth c nL D cl A Q (pc + 3))) : xm_le (xo_if (fun x => 0 ≤ x) Kt Kf) (xm_A p l e R s mm args below meth c nL D cl A Q pc) := by
  intro ls st m bc bs h H locs cells slots la hl hW hin hS h1 h2
  simp only [xo_if] at h
  split at h
  · exact lv_if_ge C.1.1 C.1.2.1 hd ht (fun q => hT _ _ _ _ _ (h.1 q) H locs cells slots la hl hW hin hS h1 h2) (fun q => hF _ _ _ _ _ (h.2 q) H locs cells slots la hl hW hin hS h1 h2)
  · exact h.elim
theorem xs_if_gt (C : xm_C p s mm args c cc nL own Ts D cl ats A) {off : Int} {tgt : Nat} (hd : decode cc pc = .ok (.ifCond .gt off, 3)) (ht : (pc : Int) + off = (tgt : Int)) (hT : xm_le Kt (xm_A p l e R s mm args below meth c nL D cl A Q tgt)) (hF : xm_le Kf (xm_A p l e R s mm args below meth c nL D cl A Q (pc + 3))) : xm_le (xo_if (fun x => 0 < x) Kt Kf) (xm_A p l e R s mm args below meth c nL D cl A Q pc) := by
  intro ls st m bc bs h H locs cells slots la hl hW hin hS h1 h2
  simp only [xo_if] at h
  split at h
  · exact lv_if_gt C.1.1 C.1.2.1 hd ht (fun q => hT _ _ _ _ _ (h.1 q) H locs cells slots la hl hW hin hS h1 h2) (fun q => hF _ _ _ _ _ (h.2 q) H locs cells slots la hl hW hin hS h1 h2)
  · exact h.elim
theorem xs_if_le (C : xm_C p s mm args c cc nL own Ts D cl ats A) {off : Int} {tgt : Nat} (hd : decode cc pc = .ok (.ifCond .le off, 3)) (ht : (pc : Int) + off = (tgt : Int)) (hT : xm_le Kt (xm_A p l e R s mm args below meth c nL D cl A Q tgt)) (hF : xm_le Kf (xm_A p l e R s mm args below meth c nL D cl A Q (pc + 3))) : xm_le (xo_if (fun x => x ≤ 0) Kt Kf) (xm_A p l e R s mm args below meth c nL D cl A Q pc) := by
  intro ls st m bc bs h H locs cells slots la hl hW hin hS h1 h2
  simp only [xo_if] at h
  split at h
  · exact lv_if_le C.1.1 C.1.2.1 hd ht (fun q => hT _ _ _ _ _ (h.1 q) H locs cells slots la hl hW hin hS h1 h2) (fun q => hF _ _ _ _ _ (h.2 q) H locs cells slots la hl hW hin hS h1 h2)
  · exact h.elim
theorem xs_icmp_eq (C : xm_C p s mm args c cc nL own Ts D cl ats A) {off : Int} {tgt : Nat} (hd : decode cc pc = .ok (.if_icmp .eq off, 3)) (ht : (pc : Int) + off = (tgt : Int)) (hT : xm_le Kt (xm_A p l e R s mm args below meth c nL D cl A Q tgt)) (hF : xm_le Kf (xm_A p l e R s mm args below meth c nL D cl A Q (pc + 3))) : xm_le (xo_icmp (fun x y => x = y) Kt Kf) (xm_A p l e R s mm args below meth c nL D cl A Q pc) := by
  intro ls st m bc bs h H locs cells slots la hl hW hin hS h1 h2
  simp only [xo_icmp] at h
  split at h
  · exact lv_icmp_eq C.1.1 C.1.2.1 hd ht (fun q => hT _ _ _ _ _ (h.1 q) H locs cells slots la hl hW hin hS h1 h2) (fun q => hF _ _ _ _ _ (h.2 q) H locs cells slots la hl hW hin hS h1 h2)
  · exact h.elim
theorem xs_icmp_lt (C : xm_C p s mm args c cc nL own Ts D cl ats A) {off : Int} {tgt : Nat} (hd : decode cc pc = .ok (.if_icmp .lt off, 3)) (ht : (pc : Int) + off = (tgt : Int)) (hT : xm_le Kt (xm_A p l e R s mm args below meth c nL D cl A Q tgt)) (hF : xm_le Kf (xm_A p l e R s mm args below meth c nL D cl A Q (pc + 3))) : xm_le (xo_icmp (fun x y => x < y) Kt Kf) (xm_A p l e R s mm args below meth c nL D cl A Q pc) := by
  intro ls st m bc bs h H locs cells slots la hl hW hin hS h1 h2
  simp only [xo_icmp] at h
  split at h
  · exact lv_icmp_lt C.1.1 C.1.2.1 hd ht (fun q => hT _ _ _ _ _ (h.1 q) H locs cells slots la hl hW hin hS h1 h2) (fun q => hF _ _ _ _ _ (h.2 q) H locs cells slots la hl hW hin hS h1 h2)
  · exact h.elim
theorem xs_icmp_ge (C : xm_C p s mm args c cc nL own Ts D cl ats A) {off : Int} {tgt : Nat} (hd : decode cc pc = .ok (.if_icmp .ge off, 3)) (ht : (pc : Int) + off = (tgt : Int)) (hT : xm_le Kt (xm_A p l e R s mm args below meth c nL D cl A Q tgt)) (hF : xm_le Kf (xm_A p l e R s mm args below meth c nL D cl A Q (pc + 3))) : xm_le (xo_icmp (fun x y => y ≤ x) Kt Kf) (xm_A p l e R s mm args below meth c nL D cl A Q pc) := by
  intro ls st m bc bs h H locs cells slots la hl hW hin hS h1 h2
  simp only [xo_icmp] at h
  split at h
  · exact lv_icmp_ge C.1.1 C.1.2.1 hd ht (fun q => hT _ _ _ _ _ (h.1 q) H locs cells slots la hl hW hin hS h1 h2) (fun q => hF _ _ _ _ _ (h.2 q) H locs cells slots la hl hW hin hS h1 h2)
  · exact h.elim
theorem xs_icmp_gt (C : xm_C p s mm args c cc nL own Ts D cl ats A) {off : Int} {tgt : Nat} (hd : decode cc pc = .ok (.if_icmp .gt off, 3)) (ht : (pc : Int) + off = (tgt : Int)) (hT : xm_le Kt (xm_A p l e R s mm args below meth c nL D cl A Q tgt)) (hF : xm_le Kf (xm_A p l e R s mm args below meth c nL D cl A Q (pc + 3))) : xm_le (xo_icmp (fun x y => y < x) Kt Kf) (xm_A p l e R s mm args below meth c nL D cl A Q pc) := by
  intro ls st m bc bs h H locs cells slots la hl hW hin hS h1 h2
  simp only [xo_icmp] at h
  split at h
  · exact lv_icmp_gt C.1.1 C.1.2.1 hd ht (fun q => hT _ _ _ _ _ (h.1 q) H locs cells slots la hl hW hin hS h1 h2) (fun q => hF _ _ _ _ _ (h.2 q) H locs cells slots la hl hW hin hS h1 h2)
  · exact h.elim
theorem xs_icmp_le (C : xm_C p s mm args c cc nL own Ts D cl ats A) {off : Int} {tgt : Nat} (hd : decode cc pc = .ok (.if_icmp .le off, 3)) (ht : (pc : Int) + off = (tgt : Int)) (hT : xm_le Kt (xm_A p l e R s mm args below meth c nL D cl A Q tgt)) (hF : xm_le Kf (xm_A p l e R s mm args below meth c nL D cl A Q (pc + 3))) : xm_le (xo_icmp (fun x y => x ≤ y) Kt Kf) (xm_A p l e R s mm args below meth c nL D cl A Q pc) := by
  intro ls st m bc bs h H locs cells slots la hl hW hin hS h1 h2
  simp only [xo_icmp] at h
  split at h
  · exact lv_icmp_le C.1.1 C.1.2.1 hd ht (fun q => hT _ _ _ _ _ (h.1 q) H locs cells slots la hl hW hin hS h1 h2) (fun q => hF _ _ _ _ _ (h.2 q) H locs cells slots la hl hW hin hS h1 h2)
  · exact h.elim
theorem xs_if_ne (C : xm_C p s mm args c cc nL own Ts D cl ats A) {off : Int} {tgt : Nat} (hd : decode cc pc = .ok (.ifCond .ne off, 3)) (ht : (pc : Int) + off = (tgt : Int)) (hT : xm_le Kt (xm_A p l e R s mm args below meth c nL D cl A Q (pc + 3))) (hF : xm_le Kf (xm_A p l e R s mm args below meth c nL D cl A Q tgt)) : xm_le (xo_if (fun x => x = 0) Kt Kf) (xm_A p l e R s mm args below meth c nL D cl A Q pc) := by
  intro ls st m bc bs h H locs cells slots la hl hW hin hS h1 h2
  simp only [xo_if] at h
  split at h
  · exact lv_if_ne C.1.1 C.1.2.1 hd ht (fun q => hF _ _ _ _ _ (h.2 q) H locs cells slots la hl hW hin hS h1 h2) (fun q => hT _ _ _ _ _ (h.1 q) H locs cells slots la hl hW hin hS h1 h2)
  · exact h.elim
theorem xs_icmp_ne (C : xm_C p s mm args c cc nL own Ts D cl ats A) {off : Int} {tgt : Nat} (hd : decode cc pc = .ok (.if_icmp .ne off, 3)) (ht : (pc : Int) + off = (tgt : Int)) (hT : xm_le Kt (xm_A p l e R s mm args below meth c nL D cl A Q (pc + 3))) (hF : xm_le Kf (xm_A p l e R s mm args below meth c nL D cl A Q tgt)) : xm_le (xo_icmp (fun x y => x = y) Kt Kf) (xm_A p l e R s mm args below meth c nL D cl A Q pc) := by
  intro ls st m bc bs h H locs cells slots la hl hW hin hS h1 h2
  simp only [xo_icmp] at h
  split at h
  · exact lv_icmp_ne C.1.1 C.1.2.1 hd ht (fun q => hF _ _ _ _ _ (h.2 q) H locs cells slots la hl hW hin hS h1 h2) (fun q => hT _ _ _ _ _ (h.1 q) H locs cells slots la hl hW hin hS h1 h2)
  · exact h.elim
theorem xs_ifnull (C : xm_C p s mm args c cc nL own Ts D cl ats A) {off : Int} {tgt : Nat} (hd : decode cc pc = .ok (.ifnull off, 3)) (ht : (pc : Int) + off = (tgt : Int)) (hT : xm_le Kt (xm_A p l e R s mm args below meth c nL D cl A Q tgt)) (hF : xm_le Kf (xm_A p l e R s mm args below meth c nL D cl A Q (pc + 3))) : xm_le (xo_null Kt Kf) (xm_A p l e R s mm args below meth c nL D cl A Q pc) := by
  intro ls st m bc bs h H locs cells slots la hl hW hin hS h1 h2
  simp only [xo_null] at h
  split at h
  · obtain ⟨hr, h⟩ := h
    rcases hr with rfl | ⟨a, rfl⟩
    · exact lv_ifnullN C.1.1 C.1.2.1 hd ht (hT _ _ _ _ _ (h.1 rfl) H locs cells slots la hl hW hin hS h1 h2)
    · exact lv_ifnull C.1.1 C.1.2.1 hd (hF _ _ _ _ _ (h.2 (fun z => by cases z)) H locs cells slots la hl hW hin hS h1 h2)
  · exact h.elim
theorem xs_ifnonnull (C : xm_C p s mm args c cc nL own Ts D cl ats A) {off : Int} {tgt : Nat} (hd : decode cc pc = .ok (.ifnonnull off, 3)) (ht : (pc : Int) + off = (tgt : Int)) (hT : xm_le Kt (xm_A p l e R s mm args below meth c nL D cl A Q (pc + 3))) (hF : xm_le Kf (xm_A p l e R s mm args below meth c nL D cl A Q tgt)) : xm_le (xo_null Kt Kf) (xm_A p l e R s mm args below meth c nL D cl A Q pc) := by
  intro ls st m bc bs h H locs cells slots la hl hW hin hS h1 h2
  simp only [xo_null] at h
  split at h
  · obtain ⟨hr, h⟩ := h
    rcases hr with rfl | ⟨a, rfl⟩
    · exact lv_ifnonnullN C.1.1 C.1.2.1 hd (hT _ _ _ _ _ (h.1 rfl) H locs cells slots la hl hW hin hS h1 h2)
    · exact lv_ifnonnull C.1.1 C.1.2.1 hd ht (hF _ _ _ _ _ (h.2 (fun z => by cases z)) H locs cells slots la hl hW hin hS h1 h2)
  · exact h.elim
theorem xs_goto (C : xm_C p s mm args c cc nL own Ts D cl ats A) {off : Int} {tgt : Nat} (hd : decode cc pc = .ok (.goto off, 3)) (ht : (pc : Int) + off = (tgt : Int)) (hK : xm_le K (xm_A p l e R s mm args below meth c nL D cl A Q tgt)) : xm_le K (xm_A p l e R s mm args below meth c nL D cl A Q pc) := by
  intro ls st m bc bs h H locs cells slots la hl hW hin hS h1 h2
  exact lv_goto C.1.1 C.1.2.1 hd ht (hK _ _ _ _ _ h H locs cells slots la hl hW hin hS h1 h2)
theorem xs_jmp {ks : List Nat} (hK : xm_le K (xm_A p l e R s mm args below meth c nL D cl A Q pc)) : xm_le (xo_jmp ks K) (xm_A p l e R s mm args below meth c nL D cl A Q pc) := by
  intro ls st m bc bs h H locs cells slots la hl hW hin hS h1 h2
  exact hK _ _ _ _ _ h H locs cells slots la (xm_has_sub hl (fun q hq => xm_keep_mem hq)) hW hin hS h1 h2
theorem xs_get (C : xm_C p s mm args c cc nL own Ts D cl ats A) {ref CN : String} {T : u_T} {N ci index k : Nat} (hd : decode cc pc = .ok (.getfield index, 3)) (hin0 : ∀ w ∈ u_ws CN T N, w ∈ Ts) (hc : cl[ci]? = some (CN, T, N)) (hk : k < N) (hlink : Cond.fieldLink own index ref (T k).2.1 (T k).2.2.1 ∈ Ts) (href : (T k).1 = ref) (hK : xm_le K (xm_A p l e R s mm args below meth c nL D cl A Q (pc + 3))) : xm_le (xo_get ci k K) (xm_A p l e R s mm args below meth c nL D cl A Q pc) := by
  intro ls st m bc bs h H locs cells slots la hl hW hin hS h1 h2
  subst href
  simp only [xo_get] at h
  split at h
  · split at h
    · rename_i a r c0 fs hm
      obtain ⟨rfl, h⟩ := h
      split at h
      · rename_i v hv
        exact va_get C.1.1 C.1.2.1 C.1.2.2.2.2 hin0 C.1.2.2.2.1 C.2.1 (hW.one hm) 0 rfl hc k hk (C.1.2.2.2.2 _ hlink) (fun _ h9 => h9) hv hd (hK _ _ _ _ _ h H locs cells slots la hl hW hin hS h1 h2)
      · exact h.elim
    · exact h.elim
  · exact h.elim
theorem xs_getN (C : xm_C p s mm args c cc nL own Ts D cl ats A) {ref CN : String} {T : u_T} {N ci index k : Nat} {host : String} (hd : decode cc pc = .ok (.getfield index, 3)) (hin0 : ∀ w ∈ u_ws CN T N, w ∈ Ts) (hc : cl[ci]? = some (CN, T, N)) (hk : k < N) (hlink : Cond.fieldLinkNest own index ref (T k).2.1 (T k).2.2.1 host ∈ Ts) (href : (T k).1 = ref) (hK : xm_le K (xm_A p l e R s mm args below meth c nL D cl A Q (pc + 3))) : xm_le (xo_get ci k K) (xm_A p l e R s mm args below meth c nL D cl A Q pc) := by
  intro ls st m bc bs h H locs cells slots la hl hW hin hS h1 h2
  subst href
  simp only [xo_get] at h
  split at h
  · split at h
    · rename_i a r c0 fs hm
      obtain ⟨rfl, h⟩ := h
      split at h
      · rename_i v hv
        exact va_getN C.1.1 C.1.2.1 C.1.2.2.2.2 hin0 C.1.2.2.2.1 C.2.1 (hW.one hm) 0 rfl hc k hk (C.1.2.2.2.2 _ hlink) (fun _ h9 => h9) hv hd (hK _ _ _ _ _ h H locs cells slots la hl hW hin hS h1 h2)
      · exact h.elim
    · exact h.elim
  · exact h.elim
theorem xs_put (C : xm_C p s mm args c cc nL own Ts D cl ats A) {ref CN : String} {T : u_T} {N ci index k : Nat} {ty : FieldType} (hd : decode cc pc = .ok (.putfield index, 3)) (hin0 : ∀ w ∈ u_ws CN T N, w ∈ Ts) (ty0 : Nat → FieldType) (hty : ∀ k, k < N → parseFieldDescriptor (T k).2.2.1 = some (ty0 k)) (hnm : ∀ a, a < N → ∀ b, b < N → a ≠ b → (T a).2.1 ≠ (T b).2.1) (hc : cl[ci]? = some (CN, T, N)) (hk : k < N) (hlink : Cond.fieldLink own index ref (T k).2.1 (T k).2.2.1 ∈ Ts) (href : (T k).1 = ref) (hfin : (T k).2.2.2 = false) (hd0 : parseFieldDescriptor (T k).2.2.1 = some ty) (hK : xm_le K (xm_A p l e R s mm args below meth c nL D cl A Q (pc + 3))) : xm_le (xo_put ci k ty K) (xm_A p l e R s mm args below meth c nL D cl A Q pc) := by
  intro ls st m bc bs h H locs cells slots la hl hW hin hS h1 h2
  subst href
  simp only [xo_put] at h
  split at h
  · rename_i v a r
    obtain ⟨hn, hfit, h⟩ := h
    split at h
    · rename_i c0 fs hm
      obtain ⟨rfl, hlen, h⟩ := h
      have hap := va_apart (own := own) C.1.2.2.2.2 hin0 ty0 hty hnm C.2.1 hc
      obtain ⟨r0, g1, cell, q1, q2, q3, q4⟩ := hW a _ hm
      have hr0 : r0 = (CN, T, N) := Option.some.inj (g1.symm.trans hc)
      subst hr0
      obtain ⟨hSl, hfc, kC, hkC, hkind⟩ := C.2.1.1 _ _ hc
      obtain ⟨cf, kf, fi, f, hi, hsl⟩ := hSl k hk
      have hlay := C.1.2.2.2.2 _ (hin0 _ (u_in_lay hk))
      unfold u_lay at hlay
      rw [if_neg (by rw [hfin]; decide)] at hlay
      have hst := (u_facts hfc hkC (u_lays C.1.2.2.2.2 hin0 hk) hi).1
      have h6 := u_store hfc hkC hkind hlay hi hd0 hn hfit
      refine W.putK C.1.1 C.1.2.1 (f := f) ⟨C.1.2.2.2.1, C.1.2.2.2.2 _ hlink, ⟨_, _, _, hi⟩, hst⟩ (by rw [q2]; exact h6) q1 q3 (by rw [hsl]; exact k2_hasslot (q4 k hk)) rfl rfl hd fun H' e1 e2 e3 => ?_
      rw [hsl] at e1 ⊢
      have ha : A a := hin a (by rw [hm]; exact fun z => by cases z)
      refine hK _ _ _ _ _ h H' _ cells slots la hl (hW.up ⟨_, hc, t_OB.to (V := updV (vp_V fs) k v) ⟨_, e1, q2, q3, t_set q4 hap hk v⟩ (fun j _ => vp_updV_set hlen v j)⟩ e3) (xm_in_up hin _ ha) (hS.put e2 e3 ha) h1 h2
    · exact h.elim
  · exact h.elim
theorem xs_putN (C : xm_C p s mm args c cc nL own Ts D cl ats A) {ref CN : String} {T : u_T} {N ci index k : Nat} {host : String} {ty : FieldType} (hd : decode cc pc = .ok (.putfield index, 3)) (hin0 : ∀ w ∈ u_ws CN T N, w ∈ Ts) (ty0 : Nat → FieldType) (hty : ∀ k, k < N → parseFieldDescriptor (T k).2.2.1 = some (ty0 k)) (hnm : ∀ a, a < N → ∀ b, b < N → a ≠ b → (T a).2.1 ≠ (T b).2.1) (hc : cl[ci]? = some (CN, T, N)) (hk : k < N) (hlink : Cond.fieldLinkNest own index ref (T k).2.1 (T k).2.2.1 host ∈ Ts) (href : (T k).1 = ref) (hfin : (T k).2.2.2 = false) (hd0 : parseFieldDescriptor (T k).2.2.1 = some ty) (hK : xm_le K (xm_A p l e R s mm args below meth c nL D cl A Q (pc + 3))) : xm_le (xo_put ci k ty K) (xm_A p l e R s mm args below meth c nL D cl A Q pc) := by
  intro ls st m bc bs h H locs cells slots la hl hW hin hS h1 h2
  subst href
  simp only [xo_put] at h
  split at h
  · rename_i v a r
    obtain ⟨hn, hfit, h⟩ := h
    split at h
    · rename_i c0 fs hm
      obtain ⟨rfl, hlen, h⟩ := h
      have hap := va_apart (own := own) C.1.2.2.2.2 hin0 ty0 hty hnm C.2.1 hc
      obtain ⟨r0, g1, cell, q1, q2, q3, q4⟩ := hW a _ hm
      have hr0 : r0 = (CN, T, N) := Option.some.inj (g1.symm.trans hc)
      subst hr0
      obtain ⟨hSl, hfc, kC, hkC, hkind⟩ := C.2.1.1 _ _ hc
      obtain ⟨cf, kf, fi, f, hi, hsl⟩ := hSl k hk
      have hlay := C.1.2.2.2.2 _ (hin0 _ (u_in_lay hk))
      unfold u_lay at hlay
      rw [if_neg (by rw [hfin]; decide)] at hlay
      have hst := (u_facts hfc hkC (u_lays C.1.2.2.2.2 hin0 hk) hi).1
      have h6 := u_store hfc hkC hkind hlay hi hd0 hn hfit
      refine va_WputK C.1.1 C.1.2.1 (f := f) C.1.2.2.2.1 (C.1.2.2.2.2 _ hlink) hi hst (by rw [q2]; exact h6) q1 q3 (by rw [hsl]; exact k2_hasslot (q4 k hk)) rfl rfl hd fun H' e1 e2 e3 => ?_
      rw [hsl] at e1 ⊢
      have ha : A a := hin a (by rw [hm]; exact fun z => by cases z)
      refine hK _ _ _ _ _ h H' _ cells slots la hl (hW.up ⟨_, hc, t_OB.to (V := updV (vp_V fs) k v) ⟨_, e1, q2, q3, t_set q4 hap hk v⟩ (fun j _ => vp_updV_set hlen v j)⟩ e3) (xm_in_up hin _ ha) (hS.put e2 e3 ha) h1 h2
    · exact h.elim
  · exact h.elim
theorem xs_putF (C : xm_C p s mm args c cc nL own Ts D cl ats A) {ref CN : String} {T : u_T} {N ci index k : Nat} {ty : FieldType} (hd : decode cc pc = .ok (.putfield index, 3)) (hin0 : ∀ w ∈ u_ws CN T N, w ∈ Ts) (ty0 : Nat → FieldType) (hty : ∀ k, k < N → parseFieldDescriptor (T k).2.2.1 = some (ty0 k)) (hnm : ∀ a, a < N → ∀ b, b < N → a ≠ b → (T a).2.1 ≠ (T b).2.1) (hc : cl[ci]? = some (CN, T, N)) (hk : k < N) (hlink : Cond.fieldLink own index ref (T k).2.1 (T k).2.2.1 ∈ Ts) (href : (T k).1 = ref) (hfin : (T k).2.2.2 = true) (hin2 : meth.name = "<init>") (hdecl : ref = own) (hd0 : parseFieldDescriptor (T k).2.2.1 = some ty) (hK : xm_le K (xm_A p l e R s mm args below meth c nL D cl A Q (pc + 3))) : xm_le (xo_put ci k ty K) (xm_A p l e R s mm args below meth c nL D cl A Q pc) := by
  intro ls st m bc bs h H locs cells slots la hl hW hin hS h1 h2
  subst href
  simp only [xo_put] at h
  split at h
  · rename_i v a r
    obtain ⟨hn, hfit, h⟩ := h
    split at h
    · rename_i c0 fs hm
      obtain ⟨rfl, hlen, h⟩ := h
      have hap := va_apart (own := own) C.1.2.2.2.2 hin0 ty0 hty hnm C.2.1 hc
      obtain ⟨r0, g1, cell, q1, q2, q3, q4⟩ := hW a _ hm
      have hr0 : r0 = (CN, T, N) := Option.some.inj (g1.symm.trans hc)
      subst hr0
      obtain ⟨hSl, hfc, kC, hkC, hkind⟩ := C.2.1.1 _ _ hc
      obtain ⟨cf, kf, fi, f, hi, hsl⟩ := hSl k hk
      have hlay := C.1.2.2.2.2 _ (hin0 _ (u_in_lay hk))
      unfold u_lay at hlay
      rw [if_pos hfin] at hlay
      have hst := (u_facts hfc hkC (u_lays C.1.2.2.2.2 hin0 hk) hi).1
      have hcf : mm.cls = cf := by
        obtain ⟨_, _, c', _, _, _, -, -, hf', -, -, -, hown2, -⟩ := Cond.laysFinal_spec hlay
        have e1 : c' = cf := by have := hi.symm.trans hf'; simp at this; exact this.1.symm
        rw [hdecl] at hown2
        rw [← e1]; exact Option.some.inj (C.1.2.2.2.1.symm.trans hown2)
      have h6 := u_fits hfc hkC hkind (Or.inr hlay) hi hd0 hn hfit
      refine W.putFinK C.1.1 C.1.2.1 C.1.2.2.2.1 (C.1.2.2.2.2 _ hlink) hi hst hcf hin2 (by rw [q2]; exact h6) q1 q3 (by rw [hsl]; exact k2_hasslot (q4 k hk)) rfl rfl hd fun H' e1 e2 e3 => ?_
      rw [hsl] at e1 ⊢
      have ha : A a := hin a (by rw [hm]; exact fun z => by cases z)
      refine hK _ _ _ _ _ h H' _ cells slots la hl (hW.up ⟨_, hc, t_OB.to (V := updV (vp_V fs) k v) ⟨_, e1, q2, q3, t_set q4 hap hk v⟩ (fun j _ => vp_updV_set hlen v j)⟩ e3) (xm_in_up hin _ ha) (hS.put e2 e3 ha) h1 h2
    · exact h.elim
  · exact h.elim
theorem xs_alen (C : xm_C p s mm args c cc nL own Ts D cl ats A) (hall : ∀ t, t < ats.length ∨ ¬ t < ats.length) (hd : decode cc pc = .ok (.arraylength, 1)) (hK : xm_le K (xm_A p l e R s mm args below meth c nL D cl A Q (pc + 1))) : xm_le (xo_alen ats K) (xm_A p l e R s mm args below meth c nL D cl A Q pc) := by
  intro ls st m bc bs h H locs cells slots la hl hW hin hS h1 h2
  simp only [xo_alen] at h
  split at h
  · split at h
    · rename_i a r t x hm
      obtain ⟨⟨ty, ht⟩, h⟩ := h
      exact va_alen C.1.1 C.1.2.1 C.2.1 (hW.one hm) 0 t rfl (xm_ty_at ht) rfl hd (hK _ _ _ _ _ h H locs cells slots la hl hW hin hS h1 h2)
    · exact h.elim
  · exact h.elim
theorem xs_iald (C : xm_C p s mm args c cc nL own Ts D cl ats A) (hd : decode cc pc = .ok (.iaload, 1)) (hK : xm_le K (xm_A p l e R s mm args below meth c nL D cl A Q (pc + 1))) : xm_le (xo_iald ats K) (xm_A p l e R s mm args below meth c nL D cl A Q pc) := by
  intro ls st m bc bs h H locs cells slots la hl hW hin hS h1 h2
  simp only [xo_iald] at h
  split at h
  · split at h
    · rename_i i a r t n f hm
      obtain ⟨ht, hix, h⟩ := h
      exact va_iald C.1.1 C.1.2.1 C.2.1 (hW.one hm) 0 t rfl (xm_ty_at ht) hix hd (hK _ _ _ _ _ h H locs cells slots la hl hW hin hS h1 h2)
    · exact h.elim
  · exact h.elim
theorem xs_aald (C : xm_C p s mm args c cc nL own Ts D cl ats A) (hd : decode cc pc = .ok (.aaload, 1)) (hK : xm_le K (xm_A p l e R s mm args below meth c nL D cl A Q (pc + 1))) : xm_le (xo_aald ats K) (xm_A p l e R s mm args below meth c nL D cl A Q pc) := by
  intro ls st m bc bs h H locs cells slots la hl hW hin hS h1 h2
  simp only [xo_aald] at h
  split at h
  · split at h
    · rename_i i a r t n f hm
      obtain ⟨⟨CC, ht⟩, hix, h⟩ := h
      exact va_aldq C.1.1 C.1.2.1 C.2.1 (hW.one hm) 0 t rfl (xm_ty_at ht) hix hd (hK _ _ _ _ _ h H locs cells slots la hl hW hin hS h1 h2)
    · exact h.elim
  · exact h.elim
theorem xs_iast (C : xm_C p s mm args c cc nL own Ts D cl ats A) (hd : decode cc pc = .ok (.iastore, 1)) (hK : xm_le K (xm_A p l e R s mm args below meth c nL D cl A Q (pc + 1))) : xm_le (xo_iast ats K) (xm_A p l e R s mm args below meth c nL D cl A Q pc) := by
  intro ls st m bc bs h H locs cells slots la hl hW hin hS h1 h2
  simp only [xo_iast] at h
  split at h
  · split at h
    · rename_i x i a r _ t n f hm
      obtain ⟨ht, hix, h⟩ := h
      have ha : A a := hin a (by rw [hm]; exact fun z => by cases z)
      have hP := hW a _ hm
      refine W.iast C.1.1 C.1.2.1 hP ((C.2.1.2 t _ (xm_ty_at ht)).1 n (fun j => .int (f j))) (fun q => by cases q) (by show ¬ (i < 0 ∨ (arrV _ _ _).slots.size ≤ _); rw [arrV_size]; exact hix) rfl rfl hd fun H1 e z oq => ?_
      refine hK _ _ _ _ _ h H1 _ cells slots la hl (hW.up ?_ oq) (xm_in_up hin _ ha) (hS.put z oq ha) h1 h2
      show H1[a]? = some (vp_cell _ _)
      rw [e]
      rw [vp_cell_i, vp_cell_i, arrV_store]
      congr 2
      funext q
      by_cases hq : q = i.toNatClampNeg
      · subst hq
        simp [updV, upd]
      · simp [updV, upd, hq]
    · exact h.elim
  · exact h.elim
theorem xs_aast (C : xm_C p s mm args c cc nL own Ts D cl ats A) (hd : decode cc pc = .ok (.aastore, 1)) (hK : xm_le K (xm_A p l e R s mm args below meth c nL D cl A Q (pc + 1))) : xm_le (xo_aast ats cl K) (xm_A p l e R s mm args below meth c nL D cl A Q pc) := by
  intro ls st m bc bs h H locs cells slots la hl hW hin hS h1 h2
  simp only [xo_aast] at h
  split at h
  · split at h
    · rename_i v i a r x y t n f ci vs hm hv
      obtain ⟨ht, hci, hix, h⟩ := h
      have ha : A a := hin a (by rw [hm]; exact fun z => by cases z)
      have hP := hW a _ hm
      have hc : cl[ci]? = some (cl.getD ci ("", fun _ => ("", "", "", false), 0)) := by
        rw [List.getD_eq_getElem?_getD, List.getElem?_eq_getElem hci]; rfl
      have hlt : i.toNatClampNeg < n := Nat.not_le.mp fun q => hix (Or.inr q)
      have h0 : ¬ i < 0 := fun q => hix (Or.inl q)
      obtain ⟨r', hr', cellV, g1, g2, g3, -⟩ := hW v _ hv
      have hcls := (C.2.1.1 ci _ hc).2
      obtain ⟨kA, comp, k1, k2, k3, -⟩ := (C.2.1.2 t _ (xm_ty_at ht)).2
      have hcomp : comp = D.1 ci := Option.some.inj (k3.symm.trans hcls.1)
      subst hcomp
      obtain ⟨kC, hkC, -⟩ := id hcls.2
      refine W.aast C.1.1 C.1.2.1 hP (fun q h => by cases h) (fun h => by cases h) k1 k2 rfl hkC ⟨h0, by show _ < (arrV _ _ _).slots.size; rw [arrV_size]; exact hlt⟩ g1 (fun q h => by rw [g3] at h; cases h) (by rw [g2]; exact hkC) (by rw [g2]; exact va_assign hcls) rfl rfl hd fun H1 e z oq => ?_
      refine hK _ _ _ _ _ h H1 _ cells slots la hl (hW.up ?_ oq) (xm_in_up hin _ ha) (hS.put z oq ha) h1 h2
      show H1[a]? = some (vp_cell _ _)
      rw [e]
      rw [vp_cell_q, vp_cell_q, arrV_store]
      congr 2
      funext q
      by_cases hq : q = i.toNatClampNeg
      · subst hq
        simp [updV, va_up, va_rf]
      · simp [updV, va_up, hq]
    · exact h.elim
  · exact h.elim
theorem xs_idiv (C : xm_C p s mm args c cc nL own Ts D cl ats A) (hd : decode cc pc = .ok (.idiv, 1)) (hK : xm_le K (xm_A p l e R s mm args below meth c nL D cl A Q (pc + 1))) : xm_le (xo_idiv K) (xm_A p l e R s mm args below meth c nL D cl A Q pc) := by
  intro ls st m bc bs h H locs cells slots la hl hW hin hS h1 h2
  simp only [xo_idiv] at h
  split at h
  · obtain ⟨hne, h⟩ := h
    exact lv_idiv C.1.1 C.1.2.1 hd hne (hK _ _ _ _ _ h H locs cells slots la hl hW hin hS h1 h2)
  · exact h.elim
theorem xs_irem (C : xm_C p s mm args c cc nL own Ts D cl ats A) (hd : decode cc pc = .ok (.irem, 1)) (hK : xm_le K (xm_A p l e R s mm args below meth c nL D cl A Q (pc + 1))) : xm_le (xo_irem K) (xm_A p l e R s mm args below meth c nL D cl A Q pc) := by
  intro ls st m bc bs h H locs cells slots la hl hW hin hS h1 h2
  simp only [xo_irem] at h
  split at h
  · obtain ⟨hne, h⟩ := h
    exact lv_irem C.1.1 C.1.2.1 hd hne (hK _ _ _ _ _ h H locs cells slots la hl hW hin hS h1 h2)
  · exact h.elim
theorem xs_zald (C : xm_C p s mm args c cc nL own Ts D cl ats A) (hd : decode cc pc = .ok (.baload, 1)) (hK : xm_le K (xm_A p l e R s mm args below meth c nL D cl A Q (pc + 1))) : xm_le (xo_zald ats K) (xm_A p l e R s mm args below meth c nL D cl A Q pc) := by
  intro ls st m bc bs h H locs cells slots la hl hW hin hS h1 h2
  simp only [xo_zald] at h
  split at h
  · split at h
    · rename_i i a r t n f hm
      obtain ⟨ht, hix, h⟩ := h
      exact va_zald C.1.1 C.1.2.1 C.2.1 (hW.one hm) 0 t rfl (xm_ty_at ht) hix hd (hK _ _ _ _ _ h H locs cells slots la hl hW hin hS h1 h2)
    · exact h.elim
  · exact h.elim
theorem xs_zast (C : xm_C p s mm args c cc nL own Ts D cl ats A) (hd : decode cc pc = .ok (.bastore, 1)) (hK : xm_le K (xm_A p l e R s mm args below meth c nL D cl A Q (pc + 1))) : xm_le (xo_zast ats K) (xm_A p l e R s mm args below meth c nL D cl A Q pc) := by
  intro ls st m bc bs h H locs cells slots la hl hW hin hS h1 h2
  simp only [xo_zast] at h
  split at h
  · split at h
    · rename_i x i a r _ t n f hm
      obtain ⟨ht, hx01, hix, h⟩ := h
      have ha : A a := hin a (by rw [hm]; exact fun z => by cases z)
      have hP := hW a _ hm
      have hnx : narrow .boolean (.int x) = .int x := by rcases hx01 with rfl | rfl <;> rfl
      refine W.zast C.1.1 C.1.2.1 hP ((C.2.1.2 t _ (xm_ty_at ht)).1 n (fun j => .int (f j))) (fun q => by cases q) (by show ¬ (i < 0 ∨ (arrV _ _ _).slots.size ≤ _); rw [arrV_size]; exact hix) rfl rfl hd fun H1 e z oq => ?_
      refine hK _ _ _ _ _ h H1 _ cells slots la hl (hW.up ?_ oq) (xm_in_up hin _ ha) (hS.put z oq ha) h1 h2
      show H1[a]? = some (vp_cell _ _)
      rw [e, hnx]
      rw [vp_cell_i, vp_cell_i, arrV_store]
      congr 2
      funext q
      by_cases hq : q = i.toNatClampNeg
      · subst hq
        simp [updV, upd]
      · simp [updV, upd, hq]
    · exact h.elim
  · exact h.elim
theorem xs_newz (C : xm_C p s mm args c cc nL own Ts D cl ats A) {t : Nat} (hd : decode cc pc = .ok (.newarray .boolean, 2)) (ht : ats[t]? = some .boolean) (harr : Cond.arrayClass .boolean ∈ Ts) (hK : xm_le K (xm_A p l e R s mm args below meth c nL D cl A Q (pc + 2))) : xm_le (xo_newi t K) (xm_A p l e R s mm args below meth c nL D cl A Q pc) := by
  intro ls st m bc bs h H locs cells slots la hl hW hin hS h1 h2
  simp only [xo_newi] at h
  split at h
  · rename_i n r
    obtain ⟨hn, hb, b1, b2, h⟩ := h
    refine va_newaK (atype := .boolean) C.1.1 C.1.2.1 (show (Cond.arrayClass (newarray.typeOf .boolean)).before args s = true from C.1.2.2.2.2 _ harr) rfl hd rfl hn rfl (by show n.toNatClampNeg * 1 ≤ 536870912; omega) (by omega) (by omega) rfl fun H1 cA e1 z1 o1 hAr hNm => ?_
    have j4 := (C.2.1.2 t _ (xm_ty_at ht)).2
    have hcA : cA = D.1 (100 + t) := Option.some.inj (hNm.symm.trans j4)
    subst hcA
    have hA : A H.size := C.2.2 _ hS.1
    refine hK _ _ _ _ _ (h H.size hW.fresh) H1 locs (cells + 1) (slots + n.toNatClampNeg) la hl (hW.push ?_ o1) (xm_in_up hin _ hA) ⟨Nat.le_trans hS.1 (by omega), fun x g1 g2 => (o1 x (Nat.lt_of_lt_of_le g1 hS.1)).trans (hS.2.1 x g1 g2), hS.2.2⟩ (by omega) (by omega)
    show H1[H.size]? = some (vp_cell _ _)
    rw [vp_cell_i]
    exact e1
  · exact h.elim
theorem xs_sld (C : xm_C p s mm args c cc nL own Ts D cl ats A) {b L : Nat} {xs : Nat → Int32} (hX : va_X b L xs s s.heap) (hbl : b < s.heap.size) (hbA : ¬ A b) (hd : decode cc pc = .ok (.iaload, 1)) (hK : xm_le K (xm_A p l e R s mm args below meth c nL D cl A Q (pc + 1))) : xm_le (xo_sld b L xs K) (xm_A p l e R s mm args below meth c nL D cl A Q pc) := by
  intro ls st m bc bs h H locs cells slots la hl hW hin hS h1 h2
  simp only [xo_sld] at h
  split at h
  · obtain ⟨rfl, hix, h⟩ := h
    exact va_sld C.1.1 C.1.2.1 hX hbl hbA hS hix hd (hK _ _ _ _ _ h H locs cells slots la hl hW hin hS h1 h2)
  · exact h.elim
theorem xs_slen (C : xm_C p s mm args c cc nL own Ts D cl ats A) {b L : Nat} {xs : Nat → Int32} (hX : va_X b L xs s s.heap) (hbl : b < s.heap.size) (hbA : ¬ A b) (hd : decode cc pc = .ok (.arraylength, 1)) (hK : xm_le K (xm_A p l e R s mm args below meth c nL D cl A Q (pc + 1))) : xm_le (xo_slen b L K) (xm_A p l e R s mm args below meth c nL D cl A Q pc) := by
  intro ls st m bc bs h H locs cells slots la hl hW hin hS h1 h2
  simp only [xo_slen] at h
  split at h
  · obtain ⟨rfl, h⟩ := h
    exact va_slen C.1.1 C.1.2.1 hX hbl hbA hS hd (hK _ _ _ _ _ h H locs cells slots la hl hW hin hS h1 h2)
  · exact h.elim
theorem xs_new (C : xm_C p s mm args c cc nL own Ts D cl ats A) {CN : String} {T : u_T} {N ci index : Nat} {fs : List Value} (hd : decode cc pc = .ok (.new index, 3)) (hin0 : ∀ w ∈ u_ws CN T N, w ∈ Ts) (ty : Nat → FieldType) (hty : ∀ k, k < N → parseFieldDescriptor (T k).2.2.1 = some (ty k)) (hc : cl[ci]? = some (CN, T, N)) (hcl : Cond.classLink own index CN ∈ Ts) (hinst : Cond.instantiable CN N ∈ Ts) (hini : Cond.initialized CN ∈ Ts) (hfs : ∀ j, j < N → defaultValue (ty j) = vp_V fs j) (hK : xm_le K (xm_A p l e R s mm args below meth c nL D cl A Q (pc + 3))) : xm_le (xo_new ci N fs K) (xm_A p l e R s mm args below meth c nL D cl A Q pc) := by
  intro ls st m bc bs h H locs cells slots la hl hW hin hS h1 h2
  obtain ⟨b1, b2, h⟩ := h
  have hKn := C.2.1.1 ci _ hc
  refine W.newcK C.1.1 C.1.2.1 C.1.2.2.2.1 (C.1.2.2.2.2 _ hcl) (C.1.2.2.2.2 _ hinst) (C.1.2.2.2.2 _ hini) rfl hd (by omega) (by omega) hKn.2.1 rfl fun H1 kC hkC e1 z1 o1 => ?_
  have hA : A H.size := C.2.2 _ hS.1
  refine hK _ _ _ _ _ (h H.size hW.fresh) H1 locs (cells + 1) (slots + N) la hl (hW.push ⟨_, hc, (u_born ty C.1.2.2.2.2 hin0 hKn hkC e1 hty).to hfs⟩ o1) (xm_in_up hin _ hA) ⟨Nat.le_trans hS.1 (by omega), fun x g1 g2 => (o1 x (Nat.lt_of_lt_of_le g1 hS.1)).trans (hS.2.1 x g1 g2), hS.2.2⟩ (by omega) (by omega)
theorem xs_anew (C : xm_C p s mm args c cc nL own Ts D cl ats A) {CN : String} {index t : Nat} (hd : decode cc pc = .ok (.anewarray index, 3)) (ht : ats[t]? = some (.object CN)) (hcl : Cond.classLink own index CN ∈ Ts) (hov : Cond.arrayOver (.object CN) ∈ Ts) (hK : xm_le K (xm_A p l e R s mm args below meth c nL D cl A Q (pc + 3))) : xm_le (xo_anew t K) (xm_A p l e R s mm args below meth c nL D cl A Q pc) := by
  intro ls st m bc bs h H locs cells slots la hl hW hin hS h1 h2
  simp only [xo_anew] at h
  split at h
  · rename_i n r
    obtain ⟨hn, hb, b1, b2, h⟩ := h
    refine W.anew C.1.1 C.1.2.1 C.1.2.2.2.1 (C.1.2.2.2.2 _ hcl) (C.1.2.2.2.2 _ hov) rfl hd rfl hn (by omega) (by omega) (by omega) fun cA kA comp f1 f2 f3 f4 => ?_
    obtain ⟨kA', comp', j1, j2, j3, j4⟩ := (C.2.1.2 t _ (xm_ty_at ht)).2
    have hcA : cA = D.1 (100 + t) := Option.some.inj (f1.symm.trans j4)
    subst hcA
    have hA : A H.size := C.2.2 _ hS.1
    generalize hH1 : H.push ({ cls := D.1 (100 + t), slots := Array.replicate n.toNatClampNeg .null, vm := .none } : Cell) = H1
    have z1 : H1.size = H.size + 1 := by rw [← hH1, Array.size_push]
    have e1 : H1[H.size]? = some (arrV (D.1 (100 + t)) n.toNatClampNeg (fun _ => .null)) := by rw [← hH1, Array.getElem?_push_size, ← arrV_new]
    have o1 : ∀ q : Nat, q < H.size → H1[q]? = H[q]? := fun q hq => by rw [← hH1, Array.getElem?_push, if_neg (Nat.ne_of_lt hq)]
    refine hK _ _ _ _ _ (h H.size hW.fresh) H1 locs (cells + 1) (slots + n.toNatClampNeg) la hl (hW.push ?_ o1) (xm_in_up hin _ hA) ⟨Nat.le_trans hS.1 (by omega), fun x g1 g2 => (o1 x (Nat.lt_of_lt_of_le g1 hS.1)).trans (hS.2.1 x g1 g2), hS.2.2⟩ (by omega) (by omega)
    show H1[H.size]? = some (vp_cell _ _)
    rw [vp_cell_q]
    exact e1
  · exact h.elim
theorem xs_newi (C : xm_C p s mm args c cc nL own Ts D cl ats A) {t : Nat} (hd : decode cc pc = .ok (.newarray .int, 2)) (ht : ats[t]? = some .int) (harr : Cond.arrayClass .int ∈ Ts) (hK : xm_le K (xm_A p l e R s mm args below meth c nL D cl A Q (pc + 2))) : xm_le (xo_newi t K) (xm_A p l e R s mm args below meth c nL D cl A Q pc) := by
  intro ls st m bc bs h H locs cells slots la hl hW hin hS h1 h2
  simp only [xo_newi] at h
  split at h
  · rename_i n r
    obtain ⟨hn, hb, b1, b2, h⟩ := h
    refine va_newaK (atype := .int) C.1.1 C.1.2.1 (show (Cond.arrayClass (newarray.typeOf .int)).before args s = true from C.1.2.2.2.2 _ harr) rfl hd rfl hn rfl (by show n.toNatClampNeg * 4 ≤ 536870912; omega) (by omega) (by omega) rfl fun H1 cA e1 z1 o1 hAr hNm => ?_
    have j4 := (C.2.1.2 t _ (xm_ty_at ht)).2
    have hcA : cA = D.1 (100 + t) := Option.some.inj (hNm.symm.trans j4)
    subst hcA
    have hA : A H.size := C.2.2 _ hS.1
    refine hK _ _ _ _ _ (h H.size hW.fresh) H1 locs (cells + 1) (slots + n.toNatClampNeg) la hl (hW.push ?_ o1) (xm_in_up hin _ hA) ⟨Nat.le_trans hS.1 (by omega), fun x g1 g2 => (o1 x (Nat.lt_of_lt_of_le g1 hS.1)).trans (hS.2.1 x g1 g2), hS.2.2⟩ (by omega) (by omega)
    show H1[H.size]? = some (vp_cell _ _)
    rw [vp_cell_i]
    exact e1
  · exact h.elim
theorem xs_obj (C : xm_C p s mm args c cc nL own Ts D cl ats A) {idx : Nat} (hd : decode cc pc = .ok (.invokespecial idx, 3)) (hlink : Cond.methodLink own idx Lib.objectInit ∈ Ts) (hinst : Cond.instanceMethod Lib.objectInit ∈ Ts) (hcode : Cond.code Lib.objectInit ⟨#[0xb1]⟩ 1 none ∈ Ts) (hf : 1 ≤ R.frames) (hlo : 20 ≤ R.locals) (hK : xm_le K (xm_A p l e R s mm args below meth c nL D cl A Q (pc + 3))) : xm_le (xo_drop K) (xm_A p l e R s mm args below meth c nL D cl A Q pc) := by
  intro ls st m bc bs h H locs cells slots la hl hW hin hS h1 h2
  simp only [xo_drop] at h
  split at h
  · obtain ⟨hr, h⟩ := h
    refine W.objInit C.1.1 C.1.2.1 C.1.2.2.2.1 (C.1.2.2.2.2 _ hlink) (C.1.2.2.2.2 _ hinst) (C.1.2.2.2.2 _ hcode) rfl (by rw [C.1.2.2.1]; exact hl.1) rfl hd hf ?_ (hK _ _ _ _ _ h H locs cells slots la hl hW hin hS h1 h2)
    have := xm_cat4 hr
    show 2 * 0 + _ + 12 ≤ R.locals
    omega
  · exact h.elim
theorem xm_cont {H : Heap} {locs : List Loc} {cells slots mc ms : Nat} {la : Array Slot} {st0 rest : List Value} {a : Array Value} {m : xm_M} {Rh : Option Value → xm_M → Prop}
    (hr : va_Run p l e R s mm args below meth c H locs cells slots mc ms (F0 mm pc la st0) rest (xm_Q D cl Rh (xm_As m H.size) a) (xm_As m H.size)) (hS : va_S A s.heap H locs) (hin : ∀ a, m a ≠ none → A a) (hA : ∀ q, s.heap.size ≤ q → A q)
    (kk : ∀ (r : Option Value) (m' : xm_M), Rh r m' → ∀ (H1 : Heap) (locs1 : List Loc), xm_W D cl m' H1 → (∀ a, m' a ≠ none → A a) → va_S A s.heap H1 locs1 → W p l e R s mm args below meth c H1 locs1 (cells + mc) (slots + ms) Q (F0 mm (pc + 3) la (r.toList ++ rest))) : W p l e R s mm args below meth c H locs cells slots Q (F0 mm pc la st0) := by
  intro T hT X
  obtain ⟨v, st₀, t, T', L, h0, X', hL, e1, e2, ⟨⟨r, m', hv, hp, hb, hin'⟩, hz, hk⟩, st⟩ := hr T hT X
  cases hv
  rw [h0] at hz hk
  have hF : ∀ q, xm_As m H.size q → A q := fun q h => h.elim (hin q) (fun h => hA q (Nat.le_trans hS.1 h))
  obtain ⟨t2, a1, b1⟩ := kk v m' hp T'.heap (locs ++ L) (by rw [e1]; exact hb) (fun a h => hF a (hin' a h))
    ⟨Nat.le_trans hS.1 (by rw [e1]; exact hz), fun q h1 h2 => by rw [e1, hk q (Nat.lt_of_lt_of_le h1 hS.1) (fun z => h2 (hF q z))]; exact hS.2.1 q h1 h2, fun q hq => by
      rcases List.mem_append.mp hq with h | h
      · exact hS.2.2 q h
      · exact hF _ (hL q h)⟩ T' rfl X'
  exact ⟨t2, st t2 a1, b1⟩
theorem xs_callV (C : xm_C p s mm args c cc nL own Ts D cl ats A) {index maxL mc ms n ci N : Nat} {y : MethodName} {bytes : ByteArray} {ret : Option FieldType} {ws : List Cond} {rm : Room} {CN : String} {T : u_T} {CP : xm_CP} (hd : decode cc pc = .ok (.invokevirtual index, 3)) (hM : xm_Met l D cl ats y ws rm mc ms CP) (cw : CallW R s args own CN index y bytes maxL ret ws rm mc ms n) (hc : cl[ci]? = some (CN, T, N)) (hK : xm_le K (xm_A p l e R s mm args below meth c nL D cl A Q (pc + 3))) : xm_le (xo_callV ci n mc ms CP K) (xm_A p l e R s mm args below meth c nL D cl A Q pc) := by
  intro ls st m bc bs h H locs cells slots la hl hW hin hS h1 h2
  obtain ⟨b1, b2, h⟩ := h
  split at h
  · rename_i as b rest hsp
    obtain ⟨hr, hb, h⟩ := h
    obtain ⟨l0, hlen, hst, has⟩ := xm_sp_ok hsp
    rw [List.append_nil] at has
    have hlen : as.length = n := by rw [has, List.length_reverse]; exact hlen
    have hst : st = as.reverse ++ .ref b :: rest := by rw [has, List.reverse_reverse]; exact hst
    have hrc : ∃ cell : Cell, H[b]? = some cell ∧ cell.vm.isStatics = false ∧ s.vm.findClass CN = some cell.cls := by
      split at hb
      · rename_i c0 fs hm
        subst hb
        exact va_recv C.2.1 (hW.one hm) hc (q0 := 0) rfl
      · exact hb.elim
    refine xm_cont (va_runV (As := as) (rest := rest) C.1 (hM (.ref b :: as) m H.size _ h) cw ⟨xm_blind, hrc, fun U hU hW9 => ⟨rfl, by rw [hU], by rw [hU]; exact hW, va_K.moved hW9.alike C.2.1⟩⟩ rfl hlen hl.1 hst (by show 2 * 0 + _ ≤ 8; have := xm_cat4 hr; omega) hd ⟨by omega, by omega⟩) hS hin C.2.2 (fun r m' hq H1 locs1 hW1 hin1 hS1 => ?_)
    exact hK _ _ _ _ _ hq H1 locs1 _ _ la hl hW1 hin1 hS1 (by omega) (by omega)
  · exact h.elim
theorem xs_callVN (C : xm_C p s mm args c cc nL own Ts D cl ats A) {index maxL mc ms n ci N : Nat} {y : MethodName} {bytes : ByteArray} {ret : Option FieldType} {ws : List Cond} {rm : Room} {CN : String} {T : u_T} {CP : xm_CP} {host : String} (hd : decode cc pc = .ok (.invokevirtual index, 3)) (hM : xm_Met l D cl ats y ws rm mc ms CP) (cw : va_CN R s args own index y host bytes maxL ret ws rm mc ms n ∧ (Cond.instanceMethod y).before args s = true ∧ (Cond.selects CN y y).before args s = true) (hc : cl[ci]? = some (CN, T, N)) (hK : xm_le K (xm_A p l e R s mm args below meth c nL D cl A Q (pc + 3))) : xm_le (xo_callV ci n mc ms CP K) (xm_A p l e R s mm args below meth c nL D cl A Q pc) := by
  intro ls st m bc bs h H locs cells slots la hl hW hin hS h1 h2
  obtain ⟨b1, b2, h⟩ := h
  split at h
  · rename_i as b rest hsp
    obtain ⟨hr, hb, h⟩ := h
    obtain ⟨l0, hlen, hst, has⟩ := xm_sp_ok hsp
    rw [List.append_nil] at has
    have hlen : as.length = n := by rw [has, List.length_reverse]; exact hlen
    have hst : st = as.reverse ++ .ref b :: rest := by rw [has, List.reverse_reverse]; exact hst
    have hrc : ∃ cell : Cell, H[b]? = some cell ∧ cell.vm.isStatics = false ∧ s.vm.findClass CN = some cell.cls := by
      split at hb
      · rename_i c0 fs hm
        subst hb
        exact va_recv C.2.1 (hW.one hm) hc (q0 := 0) rfl
      · exact hb.elim
    refine xm_cont (va_runVN (As := as) (rest := rest) C.1 (hM (.ref b :: as) m H.size _ h) cw ⟨xm_blind, hrc, fun U hU hW9 => ⟨rfl, by rw [hU], by rw [hU]; exact hW, va_K.moved hW9.alike C.2.1⟩⟩ rfl hlen hl.1 hst (by show 2 * 0 + _ ≤ 8; have := xm_cat4 hr; omega) hd ⟨by omega, by omega⟩) hS hin C.2.2 (fun r m' hq H1 locs1 hW1 hin1 hS1 => ?_)
    exact hK _ _ _ _ _ hq H1 locs1 _ _ la hl hW1 hin1 hS1 (by omega) (by omega)
  · exact h.elim
theorem xs_callI (C : xm_C p s mm args c cc nL own Ts D cl ats A) {index maxL mc ms n : Nat} {y : MethodName} {bytes : ByteArray} {ws : List Cond} {rm : Room} {CP : xm_CP} (hd : decode cc pc = .ok (.invokespecial index, 3)) (hM : xm_Met l D cl ats y ws rm mc ms CP) (cw : CallB R s args own index y bytes maxL none ws rm mc ms n ∧ y.name = "<init>" ∧ (Cond.instanceMethod y).before args s = true) (hK : xm_le K (xm_A p l e R s mm args below meth c nL D cl A Q (pc + 3))) : xm_le (xo_callI n mc ms CP K) (xm_A p l e R s mm args below meth c nL D cl A Q pc) := by
  intro ls st m bc bs h H locs cells slots la hl hW hin hS h1 h2
  obtain ⟨b1, b2, h⟩ := h
  split at h
  · rename_i as b rest hsp
    obtain ⟨hr, h⟩ := h
    obtain ⟨l0, hlen, hst, has⟩ := xm_sp_ok hsp
    rw [List.append_nil] at has
    have hlen : as.length = n := by rw [has, List.length_reverse]; exact hlen
    have hst : st = as.reverse ++ .ref b :: rest := by rw [has, List.reverse_reverse]; exact hst
    refine xm_cont (va_runI (As := as) (rest := rest) C.1 (hM (.ref b :: as) m H.size _ h) cw ⟨xm_blind, fun U hU hW9 => ⟨rfl, by rw [hU], by rw [hU]; exact hW, va_K.moved hW9.alike C.2.1⟩⟩ rfl hlen hl.1 hst (by show 2 * 0 + _ ≤ 8; have := xm_cat4 hr; omega) hd ⟨by omega, by omega⟩) hS hin C.2.2 (fun r m' hq H1 locs1 hW1 hin1 hS1 => ?_)
    exact hK _ _ _ _ _ hq H1 locs1 _ _ la hl hW1 hin1 hS1 (by omega) (by omega)
  · exact h.elim
theorem xs_callIN (C : xm_C p s mm args c cc nL own Ts D cl ats A) {index maxL mc ms n : Nat} {y : MethodName} {bytes : ByteArray} {ws : List Cond} {rm : Room} {CP : xm_CP} {host : String} (hd : decode cc pc = .ok (.invokespecial index, 3)) (hM : xm_Met l D cl ats y ws rm mc ms CP) (cw : va_CN R s args own index y host bytes maxL none ws rm mc ms n ∧ y.name = "<init>" ∧ (Cond.instanceMethod y).before args s = true) (hK : xm_le K (xm_A p l e R s mm args below meth c nL D cl A Q (pc + 3))) : xm_le (xo_callI n mc ms CP K) (xm_A p l e R s mm args below meth c nL D cl A Q pc) := by
  intro ls st m bc bs h H locs cells slots la hl hW hin hS h1 h2
  obtain ⟨b1, b2, h⟩ := h
  split at h
  · rename_i as b rest hsp
    obtain ⟨hr, h⟩ := h
    obtain ⟨l0, hlen, hst, has⟩ := xm_sp_ok hsp
    rw [List.append_nil] at has
    have hlen : as.length = n := by rw [has, List.length_reverse]; exact hlen
    have hst : st = as.reverse ++ .ref b :: rest := by rw [has, List.reverse_reverse]; exact hst
    refine xm_cont (va_runIN (As := as) (rest := rest) C.1 (hM (.ref b :: as) m H.size _ h) cw ⟨xm_blind, fun U hU hW9 => ⟨rfl, by rw [hU], by rw [hU]; exact hW, va_K.moved hW9.alike C.2.1⟩⟩ rfl hlen hl.1 hst (by show 2 * 0 + _ ≤ 8; have := xm_cat4 hr; omega) hd ⟨by omega, by omega⟩) hS hin C.2.2 (fun r m' hq H1 locs1 hW1 hin1 hS1 => ?_)
    exact hK _ _ _ _ _ hq H1 locs1 _ _ la hl hW1 hin1 hS1 (by omega) (by omega)
  · exact h.elim
theorem xs_callS (C : xm_C p s mm args c cc nL own Ts D cl ats A) {index maxL mc ms n : Nat} {y : MethodName} {bytes : ByteArray} {ret : Option FieldType} {ws : List Cond} {rm : Room} {CP : xm_CP} (hd : decode cc pc = .ok (.invokestatic index, 3)) (hM : xm_Met l D cl ats y ws rm mc ms CP) (cw : CallB R s args own index y bytes maxL ret ws rm mc ms n ∧ (Cond.static y).before args s = true) (hK : xm_le K (xm_A p l e R s mm args below meth c nL D cl A Q (pc + 3))) : xm_le (xo_callS n mc ms CP K) (xm_A p l e R s mm args below meth c nL D cl A Q pc) := by
  intro ls st m bc bs h H locs cells slots la hl hW hin hS h1 h2
  obtain ⟨b1, b2, h⟩ := h
  split at h
  · rename_i as rest hsp
    obtain ⟨hr, h⟩ := h
    obtain ⟨l0, hlen, hst, has⟩ := xm_sp_ok hsp
    rw [List.append_nil] at has
    have hlen : as.length = n := by rw [has, List.length_reverse]; exact hlen
    have hst : st = as.reverse ++ rest := by rw [has, List.reverse_reverse]; exact hst
    refine xm_cont (va_runS (As := as) (rest := rest) C.1 (hM as m H.size _ h) cw ⟨xm_blind, fun U hU hW9 => ⟨rfl, by rw [hU], by rw [hU]; exact hW, va_K.moved hW9.alike C.2.1⟩⟩ rfl hlen hl.1 hst (by show 2 * 0 + _ ≤ 8; have := xm_cat4 hr; omega) hd ⟨by omega, by omega⟩) hS hin C.2.2 (fun r m' hq H1 locs1 hW1 hin1 hS1 => ?_)
    exact hK _ _ _ _ _ hq H1 locs1 _ _ la hl hW1 hin1 hS1 (by omega) (by omega)
  · exact h.elim
theorem xs_callSN (C : xm_C p s mm args c cc nL own Ts D cl ats A) {index maxL mc ms n : Nat} {y : MethodName} {bytes : ByteArray} {ret : Option FieldType} {ws : List Cond} {rm : Room} {CP : xm_CP} {host : String} (hd : decode cc pc = .ok (.invokestatic index, 3)) (hM : xm_Met l D cl ats y ws rm mc ms CP) (cw : va_CN R s args own index y host bytes maxL ret ws rm mc ms n ∧ (Cond.static y).before args s = true ∧ True) (hK : xm_le K (xm_A p l e R s mm args below meth c nL D cl A Q (pc + 3))) : xm_le (xo_callS n mc ms CP K) (xm_A p l e R s mm args below meth c nL D cl A Q pc) := by
  intro ls st m bc bs h H locs cells slots la hl hW hin hS h1 h2
  obtain ⟨b1, b2, h⟩ := h
  split at h
  · rename_i as rest hsp
    obtain ⟨hr, h⟩ := h
    obtain ⟨l0, hlen, hst, has⟩ := xm_sp_ok hsp
    rw [List.append_nil] at has
    have hlen : as.length = n := by rw [has, List.length_reverse]; exact hlen
    have hst : st = as.reverse ++ rest := by rw [has, List.reverse_reverse]; exact hst
    refine xm_cont (va_runSN (As := as) (rest := rest) C.1 (hM as m H.size _ h) cw ⟨xm_blind, fun U hU hW9 => ⟨rfl, by rw [hU], by rw [hU]; exact hW, va_K.moved hW9.alike C.2.1⟩⟩ rfl hlen hl.1 hst (by show 2 * 0 + _ ≤ 8; have := xm_cat4 hr; omega) hd ⟨by omega, by omega⟩) hS hin C.2.2 (fun r m' hq H1 locs1 hW1 hin1 hS1 => ?_)
    exact hK _ _ _ _ _ hq H1 locs1 _ _ la hl hW1 hin1 hS1 (by omega) (by omega)
  · exact h.elim
def xm_ks (pc : Nat) (F : Nat → xm_PT) : List Int → List xm_PT → Prop
  | [], [] => True
  | off :: os, K :: Ks => (∃ tgt : Nat, (pc : Int) + off = (tgt : Int) ∧ xm_le K (F tgt)) ∧ xm_ks pc F os Ks
  | _, _ => False
theorem xm_ks_len {pc : Nat} {F : Nat → xm_PT} : ∀ {os : List Int} {Ks : List xm_PT}, xm_ks pc F os Ks → os.length = Ks.length
  | [], [], _ => rfl
  | _ :: os, _ :: Ks, h => by simp only [List.length_cons]; rw [xm_ks_len h.2]
  | [], _ :: _, h => h.elim
  | _ :: _, [], h => h.elim
theorem xs_tsw (C : xm_C p s mm args c cc nL own Ts D cl ats A) {dflt lo hi : Int} {offs : Array Int} {len tgd : Nat} {Ks : List xm_PT} {Kd : xm_PT} (hd : decode cc pc = .ok (.tableswitch dflt lo hi offs, len)) (hhi : lo + Ks.length = hi + 1) (hks : xm_ks pc (fun q => (xm_A p l e R s mm args below meth c nL D cl A Q q)) offs.toList Ks) (htd : (pc : Int) + dflt = (tgd : Int)) (hD : xm_le Kd (xm_A p l e R s mm args below meth c nL D cl A Q tgd)) : xm_le (xo_tsw lo Ks Kd) (xm_A p l e R s mm args below meth c nL D cl A Q pc) := by
  intro ls st m bc bs h H locs cells slots la hl hW hin hS h1 h2
  simp only [xo_tsw] at h
  split at h
  · rename_i x r
    by_cases hx : x.toInt < lo ∨ hi < x.toInt
    · refine lv_tableOut C.1.1 C.1.2.1 hd hx htd (hD _ _ _ _ _ ?_ H locs cells slots la hl hW hin hS h1 h2)
      have key : ∀ (Ks : List xm_PT) (lo : Int), (x.toInt < lo ∨ lo + Ks.length ≤ x.toInt) → xm_sw x.toInt lo Ks Kd ls r m bc bs → Kd ls r m bc bs := by
        intro Ks
        induction Ks with
        | nil => intro lo _ h; exact h
        | cons K Ks ih =>
          intro lo hx h
          simp only [List.length_cons] at hx
          exact ih (lo + 1) (by omega) (h.2 (by omega))
      exact key Ks lo (by omega) h
    · have key : ∀ (os : List Int) (Ks : List xm_PT) (lo : Int), lo ≤ x.toInt → x.toInt < lo + Ks.length → xm_ks pc (fun q => (xm_A p l e R s mm args below meth c nL D cl A Q q)) os Ks → xm_sw x.toInt lo Ks Kd ls r m bc bs → ∃ (off : Int) (tgt : Nat) (K : xm_PT), os[(x.toInt - lo).toNat]? = some off ∧ (pc : Int) + off = (tgt : Int) ∧ xm_le K (xm_A p l e R s mm args below meth c nL D cl A Q tgt) ∧ K ls r m bc bs := by
        intro os Ks
        induction Ks generalizing os with
        | nil => intro lo a b _ _; simp only [List.length_nil] at b; omega
        | cons K Ks ih =>
          intro lo a b hk h
          cases os with
          | nil => exact hk.elim
          | cons o os =>
            simp only [List.length_cons] at b
            by_cases hxl : x.toInt = lo
            · obtain ⟨⟨tgt, t1, t2⟩, -⟩ := hk
              exact ⟨o, tgt, K, by rw [hxl]; simp, t1, t2, h.1 hxl⟩
            · obtain ⟨off, tgt, K', e1, e2⟩ := ih os (lo + 1) (by omega) (by omega) hk.2 (h.2 hxl)
              refine ⟨off, tgt, K', ?_, e2⟩
              rw [show (x.toInt - lo).toNat = (x.toInt - (lo + 1)).toNat + 1 by omega]
              exact e1
      obtain ⟨off, tgt, K', e1, e2, e3, e4⟩ := key offs.toList Ks lo (by omega) (by omega) hks h
      exact lv_tableIn C.1.1 C.1.2.1 hd (by omega) (by omega) (by rw [← e1]; simp) e2 (e3 _ _ _ _ _ e4 H locs cells slots la hl hW hin hS h1 h2)
  · exact h.elim
def xm_kl (pc : Nat) (F : Nat → xm_PT) : List (Int × Int) → List (Int × xm_PT) → Prop
  | [], [] => True
  | (k, off) :: os, (k', K) :: Ks => k = k' ∧ (∃ tgt : Nat, (pc : Int) + off = (tgt : Int) ∧ xm_le K (F tgt)) ∧ xm_kl pc F os Ks
  | _, _ => False
theorem xs_lsw (C : xm_C p s mm args c cc nL own Ts D cl ats A) {dflt : Int} {ps : Array (Int × Int)} {len tgd : Nat} {Ks : List (Int × xm_PT)} {Kd : xm_PT} (hd : decode cc pc = .ok (.lookupswitch dflt ps, len)) (hp : (ps.toList.zip (ps.toList.drop 1)).all (fun (a, next) => a.1 < next.1) = true) (hks : xm_kl pc (fun q => (xm_A p l e R s mm args below meth c nL D cl A Q q)) ps.toList Ks) (htd : (pc : Int) + dflt = (tgd : Int)) (hD : xm_le Kd (xm_A p l e R s mm args below meth c nL D cl A Q tgd)) : xm_le (xo_lsw Ks Kd) (xm_A p l e R s mm args below meth c nL D cl A Q pc) := by
  intro ls st m bc bs h H locs cells slots la hl hW hin hS h1 h2
  simp only [xo_lsw] at h
  split at h
  · rename_i x r
    have key : ∀ (os : List (Int × Int)) (Ks : List (Int × xm_PT)), xm_kl pc (fun q => (xm_A p l e R s mm args below meth c nL D cl A Q q)) os Ks → xm_lsw x.toInt Ks Kd ls r m bc bs → ∃ (tgt : Nat) (K : xm_PT), (pc : Int) + Op.lookupswitch.offset os dflt x.toInt = (tgt : Int) ∧ xm_le K (xm_A p l e R s mm args below meth c nL D cl A Q tgt) ∧ K ls r m bc bs := by
      intro os
      induction os with
      | nil =>
        intro Ks hk h
        cases Ks with
        | nil => exact ⟨tgd, Kd, by simpa [Op.lookupswitch.offset] using htd, hD, h⟩
        | cons K Ks => exact hk.elim
      | cons o os ih =>
        intro Ks hk h
        cases Ks with
        | nil => exact hk.elim
        | cons K Ks =>
          obtain ⟨k, off⟩ := o
          obtain ⟨k', K⟩ := K
          obtain ⟨rfl, ⟨tgt, t1, t2⟩, hk⟩ := hk
          rw [Op.lookupswitch.offset_cons]
          by_cases hx : x.toInt = k
          · rw [if_pos hx.symm]
            exact ⟨tgt, K, t1, t2, h.1 hx⟩
          · rw [if_neg (fun z => hx z.symm)]
            exact ih Ks hk (h.2 hx)
    obtain ⟨tgt, K', e1, e2, e3⟩ := key ps.toList Ks hks h
    exact lv_lookup C.1.1 C.1.2.1 hd hp rfl e1 (e2 _ _ _ _ _ e3 H locs cells slots la hl hW hin hS h1 h2)
  · exact h.elim
theorem xs_iret (C : xm_C p s mm args c cc nL own Ts D cl ats A) {Rh : Option Value → xm_M → Prop} {mc ms : Nat} (hd : decode cc pc = .ok (.ireturn, 1)) (hr : meth.sig.returnType = some .int) (hlk : meth.locks = false) (hmc : R.cells = mc) (hms : R.slots = ms) : xm_le (xo_iret Rh) (xm_A p l e R s mm args below meth c nL D cl A (MQ below (xm_Q D cl Rh A) args s mc ms A) pc) := by
  intro ls st m bc bs h H locs cells slots la hl hW hin hS h1 h2
  simp only [xo_iret] at h
  split at h
  · refine W.widen (k := mc) (n := ms) (by omega) (by omega) ?_
    exact W.iret C.1.1 C.1.2.1 hr (fun t ht hw => ⟨⟨_, m, rfl, h, by rw [ht]; exact hW, hin⟩, hS.F ht⟩) hS.2.2 hd hlk
  · exact h.elim
theorem xs_zret (C : xm_C p s mm args c cc nL own Ts D cl ats A) {Rh : Option Value → xm_M → Prop} {mc ms : Nat} (hd : decode cc pc = .ok (.ireturn, 1)) (hr : meth.sig.returnType = some .boolean) (hlk : meth.locks = false) (hmc : R.cells = mc) (hms : R.slots = ms) : xm_le (xo_zret Rh) (xm_A p l e R s mm args below meth c nL D cl A (MQ below (xm_Q D cl Rh A) args s mc ms A) pc) := by
  intro ls st m bc bs h H locs cells slots la hl hW hin hS h1 h2
  simp only [xo_zret] at h
  split at h
  · obtain ⟨hv, h⟩ := h
    refine W.widen (k := mc) (n := ms) (by omega) (by omega) ?_
    exact W.zret C.1.1 C.1.2.1 hr (by rcases hv with rfl | rfl <;> rfl) (fun t ht hw => ⟨⟨_, m, rfl, h, by rw [ht]; exact hW, hin⟩, hS.F ht⟩) hS.2.2 hd hlk
  · exact h.elim
theorem xs_lret (C : xm_C p s mm args c cc nL own Ts D cl ats A) {Rh : Option Value → xm_M → Prop} {mc ms : Nat} (hd : decode cc pc = .ok (.lreturn, 1)) (hr : meth.sig.returnType = some .long) (hlk : meth.locks = false) (hmc : R.cells = mc) (hms : R.slots = ms) : xm_le (xo_lret Rh) (xm_A p l e R s mm args below meth c nL D cl A (MQ below (xm_Q D cl Rh A) args s mc ms A) pc) := by
  intro ls st m bc bs h H locs cells slots la hl hW hin hS h1 h2
  simp only [xo_lret] at h
  split at h
  · refine W.widen (k := mc) (n := ms) (by omega) (by omega) ?_
    exact W.lret C.1.1 C.1.2.1 hr (fun t ht hw => ⟨⟨_, m, rfl, h, by rw [ht]; exact hW, hin⟩, hS.F ht⟩) hS.2.2 hd hlk
  · exact h.elim
theorem xs_aret (C : xm_C p s mm args c cc nL own Ts D cl ats A) {Rh : Option Value → xm_M → Prop} {mc ms : Nat} (hd : decode cc pc = .ok (.areturn, 1)) {rt : FieldType} (hr : meth.sig.returnType = some rt) (hrt : (∃ n, rt = .object n) ∨ ∃ t, rt = .array t) (hlk : meth.locks = false) (hmc : R.cells = mc) (hms : R.slots = ms) : xm_le (xo_aret Rh) (xm_A p l e R s mm args below meth c nL D cl A (MQ below (xm_Q D cl Rh A) args s mc ms A) pc) := by
  intro ls st m bc bs h H locs cells slots la hl hW hin hS h1 h2
  simp only [xo_aret] at h
  split at h
  · obtain ⟨hv, h⟩ := h
    refine W.widen (k := mc) (n := ms) (by omega) (by omega) ?_
    exact W.aret C.1.1 C.1.2.1 hr hrt hv (fun t ht hw => ⟨⟨_, m, rfl, h, by rw [ht]; exact hW, hin⟩, hS.F ht⟩) hS.2.2 hd hlk
  · exact h.elim
theorem xs_vret (C : xm_C p s mm args c cc nL own Ts D cl ats A) {Rh : Option Value → xm_M → Prop} {mc ms : Nat} (hd : decode cc pc = .ok (.return_, 1)) (hr : meth.sig.returnType = none) (hlk : meth.locks = false) (hmc : R.cells = mc) (hms : R.slots = ms) : xm_le (xo_vret Rh) (xm_A p l e R s mm args below meth c nL D cl A (MQ below (xm_Q D cl Rh A) args s mc ms A) pc) := by
  intro ls st m bc bs h H locs cells slots la hl hW hin hS h1 h2
  simp only [xo_vret] at h
  split at h
  · refine W.widen (k := mc) (n := ms) (by omega) (by omega) ?_
    exact W.vret C.1.1 C.1.2.1 hr (fun t ht hw => ⟨⟨_, m, rfl, h, by rw [ht]; exact hW, hin⟩, hS.F ht⟩) hS.2.2 hd hlk
  · exact h.elim
end XS
/-- a method's code by labels: heads of loops; 0 is its entry -/
abbrev xm_F : Type := (Nat → xm_PT) → (Option Value → xm_M → Prop) → Nat → xm_PT
def xm_cp (F : xm_F) (mc ms : Nat) : xm_CP := fun as m Rh => ∀ X : Nat → xm_PT, (∀ l, xm_le (F X Rh l) (X l)) → X 0 (lv_args 0 as) [] m mc ms
theorem xm_met {l : Launch} {D : va_G} {cl : List vw_C} {ats : List FieldType} {y : MethodName} {ws ws' : List Cond} {rm : Room} {mc ms maxL : Nat} {cc : ByteArray} {ret : Option FieldType} {F : xm_F} (n : Nat)
    (hy : plainName y.cls = true) (hw : ws = Cond.code y cc maxL ret :: ws') (hmc : rm.cells = mc) (hms : rm.slots = ms)
    (hF : ∀ (p : Program) (e : Env) (s : State) (mm : MethodId) (args : Array Value) (below : List Frame) (meth : Method) (c : Code) (A : Nat → Prop) (Rh : Option Value → xm_M → Prop), xm_C p s mm args c cc maxL y.cls ws D cl ats A → meth.sig.returnType = ret → meth.locks = false → meth.name = y.name →
      ∀ lb, xm_le (F (xm_A p l e rm s mm args below meth c maxL D cl A (MQ below (xm_Q D cl Rh A) args s mc ms A)) Rh lb) (xm_A p l e rm s mm args below meth c maxL D cl A (MQ below (xm_Q D cl Rh A) args s mc ms A) lb)) :
    xm_Met l D cl ats y ws rm mc ms (fun as m Rh => (lg_sl as).length ≤ maxL ∧ xm_cp F mc ms as m Rh) := by
  intro as m sz Rh h
  refine Met.ofW hy hw ?_
  intro p e s mm args below meth c s₁ B hml hv
  obtain ⟨rfl, hsz, hP, hK⟩ := hv
  subst hsz
  have hC : xm_C p s mm as.toArray c cc maxL y.cls ws D cl ats (xm_As m s.heap.size) := ⟨⟨B.exec, B.bytes, hml, findClass_of_methodNamed B.named, atoms_spec (ws := ws) B.pre⟩, hK, fun q hq => Or.inr hq⟩
  have hX := h.2 _ (hF p e s mm as.toArray below meth c (xm_As m s.heap.size) Rh hC B.returns B.notSynchronized (name_of_methodNamed B.named B.method).1)
  rw [lg_entry_eq]
  exact hX s.heap [] 0 0 _ (lv_entry as h.1) hP (fun a ha => Or.inl ha) va_S.rf (by show 0 + mc ≤ rm.cells; omega) (by show 0 + ms ≤ rm.slots; omega)
end
section
/-! the transformers' introduction rows: from the goal behind an instruction to the goal before it -/
section XR
variable {K Kt Kf : xm_PT} {ls ls' : xm_L} {st r : List Value} {m : xm_M} {bc bs : Nat} {Rh : Option Value → xm_M → Prop}
theorem xr_push {v : Value} (h : K ls (v :: st) m bc bs) : xo_push v K ls st m bc bs := h
theorem xr_iload {i : Nat} {v : Int32} (hl : xm_lk ls i = some (.int v)) (h : K ls (.int v :: st) m bc bs) : xo_iload i K ls st m bc bs := by
  simp only [xo_iload, hl]; exact h
theorem xr_lload {i : Nat} {v : Int64} (hl : xm_lk ls i = some (.long v)) (h : K ls (.long v :: st) m bc bs) : xo_lload i K ls st m bc bs := by
  simp only [xo_lload, hl]; exact h
theorem xr_aload {i : Nat} {a : Nat} (hl : xm_lk ls i = some (.ref a)) (h : K ls (.ref a :: st) m bc bs) : xo_aload i K ls st m bc bs := by
  simp only [xo_aload, hl]; exact ⟨xm_ref_r a, h⟩
theorem xr_aloadq {i : Nat} {v : Value} (hl : xm_lk ls i = some v) (hr : xm_ref v) (h : K ls (v :: st) m bc bs) : xo_aload i K ls st m bc bs := by
  simp only [xo_aload, hl]; exact ⟨hr, h⟩
theorem xr_istore {i : Nat} {v : Int32} (h : K (xm_sto ls i (.int v)) r m bc bs) : xo_istore i K ls (.int v :: r) m bc bs := h
theorem xr_astore {i : Nat} {a : Nat} (h : K (xm_sto ls i (.ref a)) r m bc bs) : xo_astore i K ls (.ref a :: r) m bc bs := ⟨xm_ref_r a, h⟩
theorem xr_astoreq {i : Nat} {v : Value} (hr : xm_ref v) (h : K (xm_sto ls i v) r m bc bs) : xo_astore i K ls (v :: r) m bc bs := ⟨hr, h⟩
theorem xr_iinc {i : Nat} {n v : Int32} (hl : xm_lk ls i = some (.int v)) (h : K (xm_sto ls i (.int (v + n))) st m bc bs) : xo_iinc i n K ls st m bc bs := by
  simp only [xo_iinc, hl]; exact h
theorem xr_ibin {f : Int32 → Int32 → Int32} {x y : Int32} (h : K ls (.int (f x y) :: r) m bc bs) : xo_ibin f K ls (.int y :: .int x :: r) m bc bs := h
theorem xr_iun {f : Int32 → Int32} {x : Int32} (h : K ls (.int (f x) :: r) m bc bs) : xo_iun f K ls (.int x :: r) m bc bs := h
theorem xr_i2l {x : Int32} (h : K ls (.long x.toInt64 :: r) m bc bs) : xo_i2l K ls (.int x :: r) m bc bs := h
theorem xr_l2i {x : Int64} (h : K ls (.int x.toInt32 :: r) m bc bs) : xo_l2i K ls (.long x :: r) m bc bs := h
theorem xr_lcmp {x y : Int64} (h : K ls (.int (lg_cmp x y) :: r) m bc bs) : xo_lcmp K ls (.long y :: .long x :: r) m bc bs := h
theorem xr_dup {v : Value} (hv : v.category = 1) (h : K ls (v :: v :: r) m bc bs) : xo_dup K ls (v :: r) m bc bs := ⟨hv, h⟩
theorem xr_pop {v : Value} (hv : v.category = 1) (h : K ls r m bc bs) : xo_pop K ls (v :: r) m bc bs := ⟨hv, h⟩
theorem xr_dup_x1 {v w : Value} (hv : v.category = 1) (hw : w.category = 1) (h : K ls (v :: w :: v :: r) m bc bs) : xo_dup_x1 K ls (v :: w :: r) m bc bs := ⟨hv, hw, h⟩
theorem xr_dup2 {v w : Value} (hv : v.category = 1) (hw : w.category = 1) (h : K ls (v :: w :: v :: w :: r) m bc bs) : xo_dup2 K ls (v :: w :: r) m bc bs := ⟨hv, hw, h⟩
theorem xr_if {cnd : Int32 → Prop} {x : Int32} (ht : cnd x → Kt ls r m bc bs) (hf : ¬ cnd x → Kf ls r m bc bs) : xo_if cnd Kt Kf ls (.int x :: r) m bc bs := ⟨ht, hf⟩
theorem xr_ift {cnd : Int32 → Prop} {x : Int32} (hc : cnd x) (h : Kt ls r m bc bs) : xo_if cnd Kt Kf ls (.int x :: r) m bc bs := ⟨fun _ => h, fun q => absurd hc q⟩
theorem xr_iff {cnd : Int32 → Prop} {x : Int32} (hc : ¬ cnd x) (h : Kf ls r m bc bs) : xo_if cnd Kt Kf ls (.int x :: r) m bc bs := ⟨fun q => absurd q hc, fun _ => h⟩
theorem xr_cmp {cnd : Int32 → Int32 → Prop} {x y : Int32} (ht : cnd x y → Kt ls r m bc bs) (hf : ¬ cnd x y → Kf ls r m bc bs) : xo_icmp cnd Kt Kf ls (.int y :: .int x :: r) m bc bs := ⟨ht, hf⟩
theorem xr_cmpt {cnd : Int32 → Int32 → Prop} {x y : Int32} (hc : cnd x y) (h : Kt ls r m bc bs) : xo_icmp cnd Kt Kf ls (.int y :: .int x :: r) m bc bs := ⟨fun _ => h, fun q => absurd hc q⟩
theorem xr_cmpf {cnd : Int32 → Int32 → Prop} {x y : Int32} (hc : ¬ cnd x y) (h : Kf ls r m bc bs) : xo_icmp cnd Kt Kf ls (.int y :: .int x :: r) m bc bs := ⟨fun q => absurd q hc, fun _ => h⟩
theorem xr_isnull (h : Kt ls r m bc bs) : xo_null Kt Kf ls (.null :: r) m bc bs := ⟨xm_ref_n, fun _ => h, fun q => absurd rfl q⟩
theorem xr_nonnull {a : Nat} (h : Kf ls r m bc bs) : xo_null Kt Kf ls (.ref a :: r) m bc bs := ⟨xm_ref_r a, (fun q => by cases q), fun _ => h⟩
theorem xr_get {ci k a : Nat} {fs : List Value} {v : Value} (hm : m a = some (.inr (ci, fs))) (hv : fs[k]? = some v) (h : K ls (v :: r) m bc bs) : xo_get ci k K ls (.ref a :: r) m bc bs := by
  simp only [xo_get, hm, hv]; exact ⟨trivial, h⟩
theorem xr_put {ci k a : Nat} {ty : FieldType} {fs fs' : List Value} {v : Value} (hm : m a = some (.inr (ci, fs))) (hl : k < fs.length) (hn : narrow ty v = v) (hf : fits ty v = true) (he : fs.set k v = fs') (h : K ls r (xm_up m a (.inr (ci, fs'))) bc bs) : xo_put ci k ty K ls (v :: .ref a :: r) m bc bs := by
  subst he
  simp only [xo_put, hm]; exact ⟨hn, hf, trivial, hl, h⟩
theorem xr_alen {ats : List FieldType} {a t : Nat} {x : vp_A} {ty : FieldType} (hm : m a = some (.inl (t, x))) (ht : ats[t]? = some ty) (h : K ls (.int (nI x.1) :: r) m bc bs) : xo_alen ats K ls (.ref a :: r) m bc bs := by
  simp only [xo_alen, hm]; exact ⟨⟨ty, ht⟩, h⟩
theorem xr_iald {ats : List FieldType} {a t n j : Nat} {i : Int32} {f : Nat → Int32} (hm : m a = some (.inl (t, n, .inl f))) (ht : ats[t]? = some .int) (hi : i = nI j) (hj : j < n) (hn : n < 2 ^ 31) (h : K ls (.int (f j) :: r) m bc bs) : xo_iald ats K ls (.int i :: .ref a :: r) m bc bs := by
  subst hi
  simp only [xo_iald, hm]; refine ⟨ht, vp_in_nI hj hn, ?_⟩
  rw [nI_clamp (by omega)]; exact h
theorem xr_iast {ats : List FieldType} {a t n j : Nat} {i x : Int32} {f : Nat → Int32} (hm : m a = some (.inl (t, n, .inl f))) (ht : ats[t]? = some .int) (hi : i = nI j) (hj : j < n) (hn : n < 2 ^ 31) (h : K ls r (xm_up m a (.inl (t, n, .inl (upd f j x)))) bc bs) : xo_iast ats K ls (.int x :: .int i :: .ref a :: r) m bc bs := by
  subst hi
  simp only [xo_iast, hm]; refine ⟨ht, vp_in_nI hj hn, ?_⟩
  rw [nI_clamp (by omega)]; exact h
theorem xr_aald {ats : List FieldType} {a t n j : Nat} {i : Int32} {C : String} {q : Option Nat} {f : Nat → Option Nat} (hm : m a = some (.inl (t, n, .inr (.inr (.inr (.inr f)))))) (ht : ats[t]? = some (.object C)) (hi : i = nI j) (hj : j < n) (hn : n < 2 ^ 31) (hq : f j = q) (h : K ls (va_rf q :: r) m bc bs) : xo_aald ats K ls (.int i :: .ref a :: r) m bc bs := by
  subst hi
  simp only [xo_aald, hm]; refine ⟨⟨C, ht⟩, vp_in_nI hj hn, ?_⟩
  rw [nI_clamp (by omega), hq]; exact h
theorem xr_aast {ats : List FieldType} {cl : List vw_C} {a t n j v ci : Nat} {i : Int32} {vs : List Value} {f : Nat → Option Nat} (hm : m a = some (.inl (t, n, .inr (.inr (.inr (.inr f)))))) (hv : m v = some (.inr (ci, vs))) (ht : ats[t]? = some (.object (cl.getD ci ("", fun _ => ("", "", "", false), 0)).1)) (hc : ci < cl.length) (hi : i = nI j) (hj : j < n) (hn : n < 2 ^ 31) (h : K ls r (xm_up m a (.inl (t, n, .inr (.inr (.inr (.inr (va_up f j (some v)))))))) bc bs) : xo_aast ats cl K ls (.ref v :: .int i :: .ref a :: r) m bc bs := by
  subst hi
  simp only [xo_aast, hm, hv]; refine ⟨ht, hc, vp_in_nI hj hn, ?_⟩
  rw [nI_clamp (by omega)]; exact h
theorem xr_idiv {x y : Int32} (hy : ¬ y = 0) (h : K ls (.int (x / y) :: r) m bc bs) : xo_idiv K ls (.int y :: .int x :: r) m bc bs := ⟨hy, h⟩
theorem xr_irem {x y : Int32} (hy : ¬ y = 0) (h : K ls (.int (x - x / y * y) :: r) m bc bs) : xo_irem K ls (.int y :: .int x :: r) m bc bs := ⟨hy, h⟩
theorem xr_zald {ats : List FieldType} {a t n j : Nat} {i : Int32} {f : Nat → Int32} (hm : m a = some (.inl (t, n, .inl f))) (ht : ats[t]? = some .boolean) (hi : i = nI j) (hj : j < n) (hn : n < 2 ^ 31) (h : K ls (.int (f j) :: r) m bc bs) : xo_zald ats K ls (.int i :: .ref a :: r) m bc bs := by
  subst hi
  simp only [xo_zald, hm]; refine ⟨ht, vp_in_nI hj hn, ?_⟩
  rw [nI_clamp (by omega)]; exact h
theorem xr_zast {ats : List FieldType} {a t n j : Nat} {i x : Int32} {f : Nat → Int32} (hm : m a = some (.inl (t, n, .inl f))) (ht : ats[t]? = some .boolean) (hx : x = 0 ∨ x = 1) (hi : i = nI j) (hj : j < n) (hn : n < 2 ^ 31) (h : K ls r (xm_up m a (.inl (t, n, .inl (upd f j x)))) bc bs) : xo_zast ats K ls (.int x :: .int i :: .ref a :: r) m bc bs := by
  subst hi
  simp only [xo_zast, hm]; refine ⟨ht, hx, vp_in_nI hj hn, ?_⟩
  rw [nI_clamp (by omega)]; exact h
theorem xr_sld {b L j : Nat} {xs : Nat → Int32} {i : Int32} (hi : i = nI j) (hj : j < L) (hL : L < 2 ^ 31) (h : K ls (.int (xs j) :: r) m bc bs) : xo_sld b L xs K ls (.int i :: .ref b :: r) m bc bs := by
  subst hi
  refine ⟨rfl, vp_in_nI hj hL, ?_⟩
  rw [nI_clamp (by omega)]; exact h
theorem xr_slen {b L : Nat} (h : K ls (.int (nI L) :: r) m bc bs) : xo_slen b L K ls (.ref b :: r) m bc bs := ⟨rfl, h⟩
theorem xr_new {ci N : Nat} {fs : List Value} (h1 : 1 ≤ bc) (h2 : N ≤ bs) (h : ∀ q, m q = none → K ls (.ref q :: st) (xm_up m q (.inr (ci, fs))) (bc - 1) (bs - N)) : xo_new ci N fs K ls st m bc bs := ⟨h1, h2, h⟩
theorem xr_anew {t n : Nat} {i : Int32} (hi : i = nI n) (hn : n ≤ 100000) (h1 : 1 ≤ bc) (h2 : n ≤ bs) (h : ∀ q, m q = none → K ls (.ref q :: r) (xm_up m q (.inl (t, n, .inr (.inr (.inr (.inr (fun _ => none))))))) (bc - 1) (bs - n)) : xo_anew t K ls (.int i :: r) m bc bs := by
  subst hi
  simp only [xo_anew]
  rw [nI_clamp (by omega)]
  exact ⟨nI_pos (by omega), hn, h1, h2, h⟩
theorem xr_newi {t n : Nat} {i : Int32} (hi : i = nI n) (hn : n ≤ 100000) (h1 : 1 ≤ bc) (h2 : n ≤ bs) (h : ∀ q, m q = none → K ls (.ref q :: r) (xm_up m q (.inl (t, n, .inl (fun _ => 0)))) (bc - 1) (bs - n)) : xo_newi t K ls (.int i :: r) m bc bs := by
  subst hi
  simp only [xo_newi]
  rw [nI_clamp (by omega)]
  exact ⟨nI_pos (by omega), hn, h1, h2, h⟩
theorem xr_drop {a : Nat} (hr : r.length ≤ 4) (h : K ls r m bc bs) : xo_drop K ls (.ref a :: r) m bc bs := ⟨hr, h⟩
theorem xr_callV {ci n mc ms b : Nat} {CP : xm_CP} {as rest fs : List Value} (h1 : mc ≤ bc) (h2 : ms ≤ bs) (hs : xm_sp n st [] = some (as, .ref b :: rest)) (hr : rest.length ≤ 4) (hb : m b = some (.inr (ci, fs))) (h : CP (.ref b :: as) m (fun r m' => K ls (r.toList ++ rest) m' (bc - mc) (bs - ms))) : xo_callV ci n mc ms CP K ls st m bc bs := by
  refine ⟨h1, h2, ?_⟩
  simp only [hs, hb]
  exact ⟨hr, trivial, h⟩
theorem xr_callI {n mc ms b : Nat} {CP : xm_CP} {as rest : List Value} (h1 : mc ≤ bc) (h2 : ms ≤ bs) (hs : xm_sp n st [] = some (as, .ref b :: rest)) (hr : rest.length ≤ 4) (h : CP (.ref b :: as) m (fun r m' => K ls (r.toList ++ rest) m' (bc - mc) (bs - ms))) : xo_callI n mc ms CP K ls st m bc bs := by
  refine ⟨h1, h2, ?_⟩
  simp only [hs]
  exact ⟨hr, h⟩
theorem xr_callS {n mc ms : Nat} {CP : xm_CP} {as rest : List Value} (h1 : mc ≤ bc) (h2 : ms ≤ bs) (hs : xm_sp n st [] = some (as, rest)) (hr : rest.length ≤ 4) (h : CP as m (fun r m' => K ls (r.toList ++ rest) m' (bc - mc) (bs - ms))) : xo_callS n mc ms CP K ls st m bc bs := by
  refine ⟨h1, h2, ?_⟩
  simp only [hs]
  exact ⟨hr, h⟩
theorem xr_jmp {ks : List Nat} (he : xm_keep ls ks = ls') (h : K ls' st m bc bs) : xo_jmp ks K ls st m bc bs := by
  subst he; exact h
theorem xr_iret {v : Int32} (h : Rh (some (.int v)) m) : xo_iret Rh ls [.int v] m bc bs := h
theorem xr_zret {v : Int32} (hv : v = 0 ∨ v = 1) (h : Rh (some (.int v)) m) : xo_zret Rh ls [.int v] m bc bs := ⟨hv, h⟩
theorem xr_lret {v : Int64} (h : Rh (some (.long v)) m) : xo_lret Rh ls [.long v] m bc bs := h
theorem xr_aret {v : Value} (hv : xm_ref v) (h : Rh (some v) m) : xo_aret Rh ls [v] m bc bs := ⟨hv, h⟩
theorem xr_vret (h : Rh none m) : xo_vret Rh ls [] m bc bs := h
end XR
end
