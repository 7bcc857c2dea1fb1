section
-- ===== PART A: goes FIRST, ahead of the names: the tables' words, and 'selects' of the private methods out of them =====
/-- a private method of a class that the tables say can be made, by its rows of tables_1 -/
def lw_okq (q : MethodName × Nat) : Prop := (q.1.cls ≠ "java/lang/invoke/MethodHandle" ∧ q.1.cls ≠ "java/lang/invoke/VarHandle") ∧ Cond.instantiable q.1.cls q.2 ∈ tables_1 ∧ Cond.privateMethod q.1 ∈ tables_1 ∧ Cond.instanceMethod q.1 ∈ tables_1
theorem lw_p0 : lw_okq (⟨"BlockVault", "ruleHolds", "(II)Z"⟩, 8) := ⟨⟨by decide +kernel, by decide +kernel⟩, List.mem_of_getElem? (i := 10) (by decide +kernel), List.mem_of_getElem? (i := 117) (by decide +kernel), List.mem_of_getElem? (i := 118) (by decide +kernel)⟩
theorem lw_p1 : lw_okq (⟨"BlockVault", "isThere", "(I)Z"⟩, 8) := ⟨⟨by decide +kernel, by decide +kernel⟩, List.mem_of_getElem? (i := 10) (by decide +kernel), List.mem_of_getElem? (i := 121) (by decide +kernel), List.mem_of_getElem? (i := 122) (by decide +kernel)⟩
theorem lw_p2 : lw_okq (⟨"BlockVault", "writeRecord", "(IIII)I"⟩, 8) := ⟨⟨by decide +kernel, by decide +kernel⟩, List.mem_of_getElem? (i := 10) (by decide +kernel), List.mem_of_getElem? (i := 129) (by decide +kernel), List.mem_of_getElem? (i := 130) (by decide +kernel)⟩
theorem lw_p3 : lw_okq (⟨"BlockVault", "write", "(LBlockVault$Copy;)I"⟩, 8) := ⟨⟨by decide +kernel, by decide +kernel⟩, List.mem_of_getElem? (i := 10) (by decide +kernel), List.mem_of_getElem? (i := 171) (by decide +kernel), List.mem_of_getElem? (i := 172) (by decide +kernel)⟩
theorem lw_p4 : lw_okq (⟨"BlockVault", "append", "(LBlockVault$Copy;)I"⟩, 8) := ⟨⟨by decide +kernel, by decide +kernel⟩, List.mem_of_getElem? (i := 10) (by decide +kernel), List.mem_of_getElem? (i := 175) (by decide +kernel), List.mem_of_getElem? (i := 176) (by decide +kernel)⟩
theorem lw_p5 : lw_okq (⟨"BlockVault", "currentWithRoom", "(I)I"⟩, 8) := ⟨⟨by decide +kernel, by decide +kernel⟩, List.mem_of_getElem? (i := 10) (by decide +kernel), List.mem_of_getElem? (i := 179) (by decide +kernel), List.mem_of_getElem? (i := 180) (by decide +kernel)⟩
theorem lw_p6 : lw_okq (⟨"BlockVault", "leastInState", "(I)I"⟩, 8) := ⟨⟨by decide +kernel, by decide +kernel⟩, List.mem_of_getElem? (i := 10) (by decide +kernel), List.mem_of_getElem? (i := 183) (by decide +kernel), List.mem_of_getElem? (i := 184) (by decide +kernel)⟩
theorem lw_p7 : lw_okq (⟨"BlockVault", "countInState", "(I)I"⟩, 8) := ⟨⟨by decide +kernel, by decide +kernel⟩, List.mem_of_getElem? (i := 10) (by decide +kernel), List.mem_of_getElem? (i := 191) (by decide +kernel), List.mem_of_getElem? (i := 192) (by decide +kernel)⟩
theorem lw_p8 : lw_okq (⟨"BlockVault", "sealBlock", "(I)V"⟩, 8) := ⟨⟨by decide +kernel, by decide +kernel⟩, List.mem_of_getElem? (i := 10) (by decide +kernel), List.mem_of_getElem? (i := 195) (by decide +kernel), List.mem_of_getElem? (i := 196) (by decide +kernel)⟩
theorem lw_p9 : lw_okq (⟨"BlockVault", "emptyIfDead", "(I)V"⟩, 8) := ⟨⟨by decide +kernel, by decide +kernel⟩, List.mem_of_getElem? (i := 10) (by decide +kernel), List.mem_of_getElem? (i := 207) (by decide +kernel), List.mem_of_getElem? (i := 208) (by decide +kernel)⟩
theorem lw_p10 : lw_okq (⟨"BlockVault", "hasLiveCopy", "(I)Z"⟩, 8) := ⟨⟨by decide +kernel, by decide +kernel⟩, List.mem_of_getElem? (i := 10) (by decide +kernel), List.mem_of_getElem? (i := 214) (by decide +kernel), List.mem_of_getElem? (i := 215) (by decide +kernel)⟩
theorem lw_p11 : lw_okq (⟨"BlockVault", "unwrittenBlocks", "()I"⟩, 8) := ⟨⟨by decide +kernel, by decide +kernel⟩, List.mem_of_getElem? (i := 10) (by decide +kernel), List.mem_of_getElem? (i := 222) (by decide +kernel), List.mem_of_getElem? (i := 223) (by decide +kernel)⟩
theorem lw_p12 : lw_okq (⟨"BlockVault", "freeIfWaitIsOver", "(I)V"⟩, 8) := ⟨⟨by decide +kernel, by decide +kernel⟩, List.mem_of_getElem? (i := 10) (by decide +kernel), List.mem_of_getElem? (i := 226) (by decide +kernel), List.mem_of_getElem? (i := 227) (by decide +kernel)⟩
theorem lw_p13 : lw_okq (⟨"BlockVault", "dropEntry", "(I)V"⟩, 8) := ⟨⟨by decide +kernel, by decide +kernel⟩, List.mem_of_getElem? (i := 10) (by decide +kernel), List.mem_of_getElem? (i := 243) (by decide +kernel), List.mem_of_getElem? (i := 244) (by decide +kernel)⟩
theorem lw_p14 : lw_okq (⟨"BlockVault", "writeTombstone", "(I)I"⟩, 8) := ⟨⟨by decide +kernel, by decide +kernel⟩, List.mem_of_getElem? (i := 10) (by decide +kernel), List.mem_of_getElem? (i := 252) (by decide +kernel), List.mem_of_getElem? (i := 253) (by decide +kernel)⟩
theorem lw_p15 : lw_okq (⟨"BlockVault", "firstToExpire", "()I"⟩, 8) := ⟨⟨by decide +kernel, by decide +kernel⟩, List.mem_of_getElem? (i := 10) (by decide +kernel), List.mem_of_getElem? (i := 260) (by decide +kernel), List.mem_of_getElem? (i := 261) (by decide +kernel)⟩
def lw_privs_1 : List (MethodName × Nat) := [(⟨"BlockVault", "ruleHolds", "(II)Z"⟩, 8), (⟨"BlockVault", "isThere", "(I)Z"⟩, 8), (⟨"BlockVault", "writeRecord", "(IIII)I"⟩, 8), (⟨"BlockVault", "write", "(LBlockVault$Copy;)I"⟩, 8), (⟨"BlockVault", "append", "(LBlockVault$Copy;)I"⟩, 8), (⟨"BlockVault", "currentWithRoom", "(I)I"⟩, 8), (⟨"BlockVault", "leastInState", "(I)I"⟩, 8), (⟨"BlockVault", "countInState", "(I)I"⟩, 8), (⟨"BlockVault", "sealBlock", "(I)V"⟩, 8), (⟨"BlockVault", "emptyIfDead", "(I)V"⟩, 8), (⟨"BlockVault", "hasLiveCopy", "(I)Z"⟩, 8), (⟨"BlockVault", "unwrittenBlocks", "()I"⟩, 8), (⟨"BlockVault", "freeIfWaitIsOver", "(I)V"⟩, 8), (⟨"BlockVault", "dropEntry", "(I)V"⟩, 8), (⟨"BlockVault", "writeTombstone", "(I)I"⟩, 8), (⟨"BlockVault", "firstToExpire", "()I"⟩, 8)]
theorem lw_r1 : ∀ q ∈ lw_privs_1, lw_okq q := List.forall_mem_cons.mpr ⟨lw_p0, List.forall_mem_cons.mpr ⟨lw_p1, List.forall_mem_cons.mpr ⟨lw_p2, List.forall_mem_cons.mpr ⟨lw_p3, List.forall_mem_cons.mpr ⟨lw_p4, List.forall_mem_cons.mpr ⟨lw_p5, List.forall_mem_cons.mpr ⟨lw_p6, List.forall_mem_cons.mpr ⟨lw_p7, List.forall_mem_cons.mpr ⟨lw_p8, List.forall_mem_cons.mpr ⟨lw_p9, List.forall_mem_cons.mpr ⟨lw_p10, List.forall_mem_cons.mpr ⟨lw_p11, List.forall_mem_cons.mpr ⟨lw_p12, List.forall_mem_cons.mpr ⟨lw_p13, List.forall_mem_cons.mpr ⟨lw_p14, List.forall_mem_cons.mpr ⟨lw_p15, fun _ h => absurd h List.not_mem_nil⟩⟩⟩⟩⟩⟩⟩⟩⟩⟩⟩⟩⟩⟩⟩⟩
theorem lw_p16 : lw_okq (⟨"BlockVault", "isNeedless", "(I)Z"⟩, 8) := ⟨⟨by decide +kernel, by decide +kernel⟩, List.mem_of_getElem? (i := 10) (by decide +kernel), List.mem_of_getElem? (i := 272) (by decide +kernel), List.mem_of_getElem? (i := 273) (by decide +kernel)⟩
theorem lw_p17 : lw_okq (⟨"BlockVault", "hidesAnother", "(LBlockVault$Copy;)Z"⟩, 8) := ⟨⟨by decide +kernel, by decide +kernel⟩, List.mem_of_getElem? (i := 10) (by decide +kernel), List.mem_of_getElem? (i := 276) (by decide +kernel), List.mem_of_getElem? (i := 277) (by decide +kernel)⟩
theorem lw_p18 : lw_okq (⟨"BlockVault", "longestSealed", "()I"⟩, 8) := ⟨⟨by decide +kernel, by decide +kernel⟩, List.mem_of_getElem? (i := 10) (by decide +kernel), List.mem_of_getElem? (i := 292) (by decide +kernel), List.mem_of_getElem? (i := 293) (by decide +kernel)⟩
theorem lw_p19 : lw_okq (⟨"BlockVault", "writeBlock", "(I)V"⟩, 8) := ⟨⟨by decide +kernel, by decide +kernel⟩, List.mem_of_getElem? (i := 10) (by decide +kernel), List.mem_of_getElem? (i := 296) (by decide +kernel), List.mem_of_getElem? (i := 297) (by decide +kernel)⟩
theorem lw_p20 : lw_okq (⟨"BlockVault", "endWaitsFor", "(I)V"⟩, 8) := ⟨⟨by decide +kernel, by decide +kernel⟩, List.mem_of_getElem? (i := 10) (by decide +kernel), List.mem_of_getElem? (i := 306) (by decide +kernel), List.mem_of_getElem? (i := 307) (by decide +kernel)⟩
theorem lw_p21 : lw_okq (⟨"BlockVault", "sparsestWritten", "(I)I"⟩, 8) := ⟨⟨by decide +kernel, by decide +kernel⟩, List.mem_of_getElem? (i := 10) (by decide +kernel), List.mem_of_getElem? (i := 314) (by decide +kernel), List.mem_of_getElem? (i := 315) (by decide +kernel)⟩
theorem lw_p22 : lw_okq (⟨"BlockVault", "used", "(I)I"⟩, 8) := ⟨⟨by decide +kernel, by decide +kernel⟩, List.mem_of_getElem? (i := 10) (by decide +kernel), List.mem_of_getElem? (i := 318) (by decide +kernel), List.mem_of_getElem? (i := 319) (by decide +kernel)⟩
theorem lw_p23 : lw_okq (⟨"BlockVault", "moveLiveCopies", "(I)I"⟩, 8) := ⟨⟨by decide +kernel, by decide +kernel⟩, List.mem_of_getElem? (i := 10) (by decide +kernel), List.mem_of_getElem? (i := 322) (by decide +kernel), List.mem_of_getElem? (i := 323) (by decide +kernel)⟩
theorem lw_p24 : lw_okq (⟨"BlockVault", "isLiveAt", "(LBlockVault$Copy;II)Z"⟩, 8) := ⟨⟨by decide +kernel, by decide +kernel⟩, List.mem_of_getElem? (i := 10) (by decide +kernel), List.mem_of_getElem? (i := 330) (by decide +kernel), List.mem_of_getElem? (i := 331) (by decide +kernel)⟩
theorem lw_p25 : lw_okq (⟨"BlockVault", "loseMemory", "()V"⟩, 8) := ⟨⟨by decide +kernel, by decide +kernel⟩, List.mem_of_getElem? (i := 10) (by decide +kernel), List.mem_of_getElem? (i := 338) (by decide +kernel), List.mem_of_getElem? (i := 339) (by decide +kernel)⟩
theorem lw_p26 : lw_okq (⟨"BlockVault", "nameNewestCopies", "()V"⟩, 8) := ⟨⟨by decide +kernel, by decide +kernel⟩, List.mem_of_getElem? (i := 10) (by decide +kernel), List.mem_of_getElem? (i := 346) (by decide +kernel), List.mem_of_getElem? (i := 347) (by decide +kernel)⟩
theorem lw_p27 : lw_okq (⟨"BlockVault", "dropExpiredFound", "()V"⟩, 8) := ⟨⟨by decide +kernel, by decide +kernel⟩, List.mem_of_getElem? (i := 10) (by decide +kernel), List.mem_of_getElem? (i := 354) (by decide +kernel), List.mem_of_getElem? (i := 355) (by decide +kernel)⟩
theorem lw_p28 : lw_okq (⟨"BlockVault", "reopenBlocks", "()V"⟩, 8) := ⟨⟨by decide +kernel, by decide +kernel⟩, List.mem_of_getElem? (i := 10) (by decide +kernel), List.mem_of_getElem? (i := 358) (by decide +kernel), List.mem_of_getElem? (i := 359) (by decide +kernel)⟩
theorem lw_p29 : lw_okq (⟨"BlockVault", "greatestStamp", "()I"⟩, 8) := ⟨⟨by decide +kernel, by decide +kernel⟩, List.mem_of_getElem? (i := 10) (by decide +kernel), List.mem_of_getElem? (i := 362) (by decide +kernel), List.mem_of_getElem? (i := 363) (by decide +kernel)⟩
theorem lw_p30 : lw_okq (⟨"BlockVault", "countThere", "()I"⟩, 8) := ⟨⟨by decide +kernel, by decide +kernel⟩, List.mem_of_getElem? (i := 10) (by decide +kernel), List.mem_of_getElem? (i := 374) (by decide +kernel), List.mem_of_getElem? (i := 375) (by decide +kernel)⟩
theorem lw_p31 : lw_okq (⟨"BlockVault", "countEntries", "()I"⟩, 8) := ⟨⟨by decide +kernel, by decide +kernel⟩, List.mem_of_getElem? (i := 10) (by decide +kernel), List.mem_of_getElem? (i := 408) (by decide +kernel), List.mem_of_getElem? (i := 409) (by decide +kernel)⟩
def lw_privs_2 : List (MethodName × Nat) := [(⟨"BlockVault", "isNeedless", "(I)Z"⟩, 8), (⟨"BlockVault", "hidesAnother", "(LBlockVault$Copy;)Z"⟩, 8), (⟨"BlockVault", "longestSealed", "()I"⟩, 8), (⟨"BlockVault", "writeBlock", "(I)V"⟩, 8), (⟨"BlockVault", "endWaitsFor", "(I)V"⟩, 8), (⟨"BlockVault", "sparsestWritten", "(I)I"⟩, 8), (⟨"BlockVault", "used", "(I)I"⟩, 8), (⟨"BlockVault", "moveLiveCopies", "(I)I"⟩, 8), (⟨"BlockVault", "isLiveAt", "(LBlockVault$Copy;II)Z"⟩, 8), (⟨"BlockVault", "loseMemory", "()V"⟩, 8), (⟨"BlockVault", "nameNewestCopies", "()V"⟩, 8), (⟨"BlockVault", "dropExpiredFound", "()V"⟩, 8), (⟨"BlockVault", "reopenBlocks", "()V"⟩, 8), (⟨"BlockVault", "greatestStamp", "()I"⟩, 8), (⟨"BlockVault", "countThere", "()I"⟩, 8), (⟨"BlockVault", "countEntries", "()I"⟩, 8)]
theorem lw_r2 : ∀ q ∈ lw_privs_2, lw_okq q := List.forall_mem_cons.mpr ⟨lw_p16, List.forall_mem_cons.mpr ⟨lw_p17, List.forall_mem_cons.mpr ⟨lw_p18, List.forall_mem_cons.mpr ⟨lw_p19, List.forall_mem_cons.mpr ⟨lw_p20, List.forall_mem_cons.mpr ⟨lw_p21, List.forall_mem_cons.mpr ⟨lw_p22, List.forall_mem_cons.mpr ⟨lw_p23, List.forall_mem_cons.mpr ⟨lw_p24, List.forall_mem_cons.mpr ⟨lw_p25, List.forall_mem_cons.mpr ⟨lw_p26, List.forall_mem_cons.mpr ⟨lw_p27, List.forall_mem_cons.mpr ⟨lw_p28, List.forall_mem_cons.mpr ⟨lw_p29, List.forall_mem_cons.mpr ⟨lw_p30, List.forall_mem_cons.mpr ⟨lw_p31, fun _ h => absurd h List.not_mem_nil⟩⟩⟩⟩⟩⟩⟩⟩⟩⟩⟩⟩⟩⟩⟩⟩
theorem lw_p32 : lw_okq (⟨"BlockVault", "countTombstones", "()I"⟩, 8) := ⟨⟨by decide +kernel, by decide +kernel⟩, List.mem_of_getElem? (i := 10) (by decide +kernel), List.mem_of_getElem? (i := 412) (by decide +kernel), List.mem_of_getElem? (i := 413) (by decide +kernel)⟩
theorem lw_p33 : lw_okq (⟨"BlockVaultModel", "isThere", "(I)Z"⟩, 18) := ⟨⟨by decide +kernel, by decide +kernel⟩, List.mem_of_getElem? (i := 416) (by decide +kernel), List.mem_of_getElem? (i := 486) (by decide +kernel), List.mem_of_getElem? (i := 487) (by decide +kernel)⟩
theorem lw_p34 : lw_okq (⟨"BlockVaultModel", "expired", "(I)Z"⟩, 18) := ⟨⟨by decide +kernel, by decide +kernel⟩, List.mem_of_getElem? (i := 416) (by decide +kernel), List.mem_of_getElem? (i := 490) (by decide +kernel), List.mem_of_getElem? (i := 491) (by decide +kernel)⟩
theorem lw_p35 : lw_okq (⟨"BlockVaultModel", "writeRecord", "(IIIII)I"⟩, 18) := ⟨⟨by decide +kernel, by decide +kernel⟩, List.mem_of_getElem? (i := 416) (by decide +kernel), List.mem_of_getElem? (i := 494) (by decide +kernel), List.mem_of_getElem? (i := 495) (by decide +kernel)⟩
theorem lw_p36 : lw_okq (⟨"BlockVaultModel", "write", "()I"⟩, 18) := ⟨⟨by decide +kernel, by decide +kernel⟩, List.mem_of_getElem? (i := 416) (by decide +kernel), List.mem_of_getElem? (i := 498) (by decide +kernel), List.mem_of_getElem? (i := 499) (by decide +kernel)⟩
theorem lw_p37 : lw_okq (⟨"BlockVaultModel", "append", "()I"⟩, 18) := ⟨⟨by decide +kernel, by decide +kernel⟩, List.mem_of_getElem? (i := 416) (by decide +kernel), List.mem_of_getElem? (i := 502) (by decide +kernel), List.mem_of_getElem? (i := 503) (by decide +kernel)⟩
theorem lw_p38 : lw_okq (⟨"BlockVaultModel", "first", "(I)I"⟩, 18) := ⟨⟨by decide +kernel, by decide +kernel⟩, List.mem_of_getElem? (i := 416) (by decide +kernel), List.mem_of_getElem? (i := 506) (by decide +kernel), List.mem_of_getElem? (i := 507) (by decide +kernel)⟩
theorem lw_p39 : lw_okq (⟨"BlockVaultModel", "room", "(I)I"⟩, 18) := ⟨⟨by decide +kernel, by decide +kernel⟩, List.mem_of_getElem? (i := 416) (by decide +kernel), List.mem_of_getElem? (i := 510) (by decide +kernel), List.mem_of_getElem? (i := 511) (by decide +kernel)⟩
theorem lw_p40 : lw_okq (⟨"BlockVaultModel", "sealed", "()I"⟩, 18) := ⟨⟨by decide +kernel, by decide +kernel⟩, List.mem_of_getElem? (i := 416) (by decide +kernel), List.mem_of_getElem? (i := 514) (by decide +kernel), List.mem_of_getElem? (i := 515) (by decide +kernel)⟩
theorem lw_p41 : lw_okq (⟨"BlockVaultModel", "close", "(I)V"⟩, 18) := ⟨⟨by decide +kernel, by decide +kernel⟩, List.mem_of_getElem? (i := 416) (by decide +kernel), List.mem_of_getElem? (i := 518) (by decide +kernel), List.mem_of_getElem? (i := 519) (by decide +kernel)⟩
theorem lw_p42 : lw_okq (⟨"BlockVaultModel", "copy", "(II)V"⟩, 18) := ⟨⟨by decide +kernel, by decide +kernel⟩, List.mem_of_getElem? (i := 416) (by decide +kernel), List.mem_of_getElem? (i := 522) (by decide +kernel), List.mem_of_getElem? (i := 523) (by decide +kernel)⟩
theorem lw_p43 : lw_okq (⟨"BlockVaultModel", "settle", "()V"⟩, 18) := ⟨⟨by decide +kernel, by decide +kernel⟩, List.mem_of_getElem? (i := 416) (by decide +kernel), List.mem_of_getElem? (i := 526) (by decide +kernel), List.mem_of_getElem? (i := 527) (by decide +kernel)⟩
theorem lw_p44 : lw_okq (⟨"BlockVaultModel", "used", "(I)I"⟩, 18) := ⟨⟨by decide +kernel, by decide +kernel⟩, List.mem_of_getElem? (i := 416) (by decide +kernel), List.mem_of_getElem? (i := 530) (by decide +kernel), List.mem_of_getElem? (i := 531) (by decide +kernel)⟩
theorem lw_p45 : lw_okq (⟨"BlockVaultModel", "writeTombstone", "(I)I"⟩, 18) := ⟨⟨by decide +kernel, by decide +kernel⟩, List.mem_of_getElem? (i := 416) (by decide +kernel), List.mem_of_getElem? (i := 547) (by decide +kernel), List.mem_of_getElem? (i := 548) (by decide +kernel)⟩
theorem lw_p46 : lw_okq (⟨"BlockVaultModel", "hasOther", "(I)Z"⟩, 18) := ⟨⟨by decide +kernel, by decide +kernel⟩, List.mem_of_getElem? (i := 416) (by decide +kernel), List.mem_of_getElem? (i := 563) (by decide +kernel), List.mem_of_getElem? (i := 564) (by decide +kernel)⟩
theorem lw_p47 : lw_okq (⟨"BlockVaultModel", "store", "(II)V"⟩, 18) := ⟨⟨by decide +kernel, by decide +kernel⟩, List.mem_of_getElem? (i := 416) (by decide +kernel), List.mem_of_getElem? (i := 575) (by decide +kernel), List.mem_of_getElem? (i := 576) (by decide +kernel)⟩
def lw_privs_3 : List (MethodName × Nat) := [(⟨"BlockVault", "countTombstones", "()I"⟩, 8), (⟨"BlockVaultModel", "isThere", "(I)Z"⟩, 18), (⟨"BlockVaultModel", "expired", "(I)Z"⟩, 18), (⟨"BlockVaultModel", "writeRecord", "(IIIII)I"⟩, 18), (⟨"BlockVaultModel", "write", "()I"⟩, 18), (⟨"BlockVaultModel", "append", "()I"⟩, 18), (⟨"BlockVaultModel", "first", "(I)I"⟩, 18), (⟨"BlockVaultModel", "room", "(I)I"⟩, 18), (⟨"BlockVaultModel", "sealed", "()I"⟩, 18), (⟨"BlockVaultModel", "close", "(I)V"⟩, 18), (⟨"BlockVaultModel", "copy", "(II)V"⟩, 18), (⟨"BlockVaultModel", "settle", "()V"⟩, 18), (⟨"BlockVaultModel", "used", "(I)I"⟩, 18), (⟨"BlockVaultModel", "writeTombstone", "(I)I"⟩, 18), (⟨"BlockVaultModel", "hasOther", "(I)Z"⟩, 18), (⟨"BlockVaultModel", "store", "(II)V"⟩, 18)]
theorem lw_r3 : ∀ q ∈ lw_privs_3, lw_okq q := List.forall_mem_cons.mpr ⟨lw_p32, List.forall_mem_cons.mpr ⟨lw_p33, List.forall_mem_cons.mpr ⟨lw_p34, List.forall_mem_cons.mpr ⟨lw_p35, List.forall_mem_cons.mpr ⟨lw_p36, List.forall_mem_cons.mpr ⟨lw_p37, List.forall_mem_cons.mpr ⟨lw_p38, List.forall_mem_cons.mpr ⟨lw_p39, List.forall_mem_cons.mpr ⟨lw_p40, List.forall_mem_cons.mpr ⟨lw_p41, List.forall_mem_cons.mpr ⟨lw_p42, List.forall_mem_cons.mpr ⟨lw_p43, List.forall_mem_cons.mpr ⟨lw_p44, List.forall_mem_cons.mpr ⟨lw_p45, List.forall_mem_cons.mpr ⟨lw_p46, List.forall_mem_cons.mpr ⟨lw_p47, fun _ h => absurd h List.not_mem_nil⟩⟩⟩⟩⟩⟩⟩⟩⟩⟩⟩⟩⟩⟩⟩⟩
def lw_privs : List (MethodName × Nat) := lw_privs_1 ++ (lw_privs_2 ++ (lw_privs_3))
def lw_tbl : List Cond := k2_sels lw_privs ++ tables_1
theorem lw_privs_ok : ∀ q ∈ lw_privs, lw_okq q := by
  show ∀ q ∈ lw_privs_1 ++ (lw_privs_2 ++ (lw_privs_3)), lw_okq q
  exact List.forall_mem_append.mpr ⟨lw_r1, List.forall_mem_append.mpr ⟨lw_r2, lw_r3⟩⟩
-- ===== end of PART A; then your names; then what follows =====
/-! THE CLAIM OUT OF ONE WALK OF THE LAW'S BODY. Your part is whole_start (and what it stands on); all else here is the same for every law, but numbers. -/
def R_law : String := "BlockVaultLaw"
def lw_P (b : Addr) (xs : List Int32) (args : Array Value) (s : State) : Prop := args = #[.ref b] ∧ s.IntsAt b xs ∧ xs.length ≤ 3072 ∧ (Jvm.Cond.and given_1 narrow_1).before args s = true
def lw_Q (_ : Array Value) (s : State) (o : Outcome) (t : State) : Prop := o = .returned (some (.int 1)) ∧ Framed s o t [] 600000 7302250
def lw_Z (below : List Frame) (a : Array Value) (s : State) : State → Prop := fun t => ∃ o, t.status = .running ∧ Ended t below o ∧ lw_Q a s o t
/-- the law's own end, with 1 on the stack, nothing written that was there before, its room as the claim has it -/
theorem lw_ret {p : Program} {l : Launch} {e : Env} {s : State} {m : MethodId} {below : List Frame} {meth : Method} {c : Code} {b : Nat} (hx : p.tables.exec = Jvm.exec) (hb : c.code = code) (hr : meth.sig.returnType = ret) (hlocks : meth.locks = false) {pc : Nat} {H : Heap} {ls : Array Slot} (hdg : decode code pc = .ok (.ireturn, 1)) : W p l e room_1 s m #[Value.ref b] below meth c H [] 600000 7302250 (lw_Z below #[Value.ref b] s) (F0 m pc ls [.int 1]) := by
  intro T hT X
  obtain ⟨fs, hret, hrun, hended, hW, hframe⟩ := X.leave (v := some (.int 1)) (hlocks := hlocks) (fun h => by rw [hr] at h; cases h)
  have hmeth' : T.vm.method? m = some meth := X.method'
  refine ⟨T.setFrames fs, ?_, .returned (some (.int 1)), hrun, hended, rfl, ⟨_, rfl⟩, hW, hframe⟩
  jvm_step X.here [X.here.top, hx, hb, hdg, hmeth', hr, ret, narrow_b1]
  (try refine ⟨rfl, ?_⟩); (try refine ⟨rfl, ?_⟩)
  first | (intro acts; rw [hret _ acts rfl rfl rfl]) | rw [hret _ _ rfl rfl rfl]
  exact Steps.refl _
/-- what holds at the law's entry: the machine, the code, the tables' words (any of lw_tbl by 'hts w (by decide +kernel)'), the script of L ints xs at the cell b, what the Statement gives of the start (any of its parts by flat_of_before) -/
def lw_At (p : Program) (s : State) (m : MethodId) (meth : Method) (c : Code) (b L : Nat) (xs : Nat → Int32) : Prop :=
  p.tables.exec = Jvm.exec ∧ c.code = code ∧ meth.sig.returnType = ret ∧ c.maxLocals = 4 ∧ s.vm.findClass R_law = some m.cls ∧ (∀ w ∈ lw_tbl, w.before #[Value.ref b] s = true) ∧ va_X b L xs s s.heap ∧ b < s.heap.size ∧ meth.locks = false ∧ (Jvm.Cond.and given_1 narrow_1).before #[Value.ref b] s = true

def lw_gt : List Cond := lw_tbl.filter goodWord
def xm_ns : List (String × Nat × MethodName × String) := [("BlockVault", 41, ⟨"BlockVault$Block", "<init>", "()V"⟩, "BlockVault"), ("BlockVault$Block", 11, ⟨"BlockVault$Row", "<init>", "()V"⟩, "BlockVault"), ("BlockVault", 42, ⟨"BlockVault$Entry", "<init>", "()V"⟩, "BlockVault")]
def xm_os : List String := ["BlockVault$Block", "BlockVault$Entry", "BlockVault$Copy"]
end
section
/-! Predicate transformers over an abstract memory: a row each for the machine's instructions. A code piece K : xm_PT says of locals, stack, memory and room left that all goes well from there; xm_le K (xm_A .. pc) says that the machine at pc does what K says. -/
abbrev xm_M : Type := Nat → Option va_E
def xm_up (m : xm_M) (a : Nat) (e : va_E) : xm_M := fun b => if b = a then some e else m b
theorem xm_up_s (m : xm_M) (a : Nat) (e : va_E) : xm_up m a e a = some e := by simp [xm_up]
theorem xm_up_n (m : xm_M) {a b : Nat} (e : va_E) (h : b ≠ a) : xm_up m a e b = m b := by simp [xm_up, h]
abbrev xm_L : Type := List (Nat × Value)
abbrev xm_PT : Type := xm_L → List Value → xm_M → Nat → Nat → Prop
def xm_lk : xm_L → Nat → Option Value
  | [], _ => none
  | (j, w) :: r, i => if j = i then some w else xm_lk r i
def xm_rm : xm_L → Nat → xm_L
  | [], _ => []
  | (j, w) :: r, i => if j = i ∨ (j + 1 = i ∧ w.category = 2) then xm_rm r i else (j, w) :: xm_rm r i
def xm_sto (ls : xm_L) (i : Nat) (v : Value) : xm_L := (i, v) :: xm_rm ls i
def xm_keep (ls : xm_L) : List Nat → xm_L
  | [] => []
  | i :: ks => match xm_lk ls i with
    | some v => (i, v) :: xm_keep ls ks
    | none => xm_keep ls ks
theorem xm_lk_mem {ls : xm_L} {i : Nat} {v : Value} (h : xm_lk ls i = some v) : (i, v) ∈ ls := by
  induction ls with
  | nil => simp [xm_lk] at h
  | cons q r ih =>
    obtain ⟨j, w⟩ := q
    simp only [xm_lk] at h
    split at h
    · rename_i hj
      subst hj
      cases h
      exact List.mem_cons_self
    · exact List.mem_cons_of_mem _ (ih h)
theorem xm_rm_mem {ls : xm_L} {i : Nat} {q : Nat × Value} (h : q ∈ xm_rm ls i) : q ∈ ls ∧ ¬ q.1 = i ∧ ¬ (q.1 + 1 = i ∧ q.2.category = 2) := by
  induction ls with
  | nil => simp [xm_rm] at h
  | cons a r ih =>
    obtain ⟨j, w⟩ := a
    simp only [xm_rm] at h
    split at h
    · obtain ⟨h1, h2⟩ := ih h
      exact ⟨List.mem_cons_of_mem _ h1, h2⟩
    · rename_i hn
      rcases List.mem_cons.mp h with h | h
      · subst h
        exact ⟨List.mem_cons_self, fun e => hn (Or.inl e), fun e => hn (Or.inr e)⟩
      · obtain ⟨h1, h2⟩ := ih h
        exact ⟨List.mem_cons_of_mem _ h1, h2⟩
theorem xm_keep_mem {ls : xm_L} {ks : List Nat} {q : Nat × Value} (h : q ∈ xm_keep ls ks) : q ∈ ls := by
  induction ks with
  | nil => simp [xm_keep] at h
  | cons i ks ih =>
    simp only [xm_keep] at h
    split at h
    · rename_i v hv
      rcases List.mem_cons.mp h with h | h
      · subst h; exact xm_lk_mem hv
      · exact ih h
    · exact ih h
theorem xm_has_sub {la : Array Slot} {nL : Nat} {l l' : xm_L} (h : lv_has la nL l) (hs : ∀ q ∈ l', q ∈ l) : lv_has la nL l' := ⟨h.1, h.2.1, fun q hq => h.2.2 q (hs q hq)⟩
theorem xm_has_lk {la : Array Slot} {nL : Nat} {l : xm_L} {i : Nat} {v : Value} (h : lv_has la nL l) (hv : xm_lk l i = some v) : la[i]? = some (.val v) := h.2.2 (i, v) (xm_lk_mem hv)
theorem xm_has_sto {la : Array Slot} {nL i : Nat} {l : xm_L} {v : Value} (h : lv_has la nL ((i, v) :: l.filter (fun q => !(q.1 == i) && !(q.1 + 1 == i && q.2.category == 2)))) : lv_has la nL (xm_sto l i v) := by
  refine xm_has_sub h (fun q hq => ?_)
  rcases List.mem_cons.mp hq with hq | hq
  · subst hq; exact List.mem_cons_self
  · obtain ⟨h1, h2, h3⟩ := xm_rm_mem hq
    refine List.mem_cons_of_mem _ (List.mem_filter.mpr ⟨h1, ?_⟩)
    simp only [Bool.and_eq_true, Bool.not_eq_true', beq_eq_false_iff_ne, Bool.and_eq_false_iff]
    refine ⟨h2, ?_⟩
    by_cases h4 : q.1 + 1 = i
    · exact Or.inr (fun e => h3 ⟨h4, e⟩)
    · exact Or.inl h4
def xm_tr (D : va_G) : va_E → va_E
  | .inl x => .inl (D.1 (100 + x.1), x.2)
  | .inr o => .inr o
def xm_W (D : va_G) (cl : List vw_C) (m : xm_M) (H : Heap) : Prop := ∀ (a : Nat) (e : va_E), m a = some e → va_at D cl (a, xm_tr D e) H
def xm_ty (D : va_G) (ats : List FieldType) : List (ClassId × FieldType) := ats.zipIdx.map (fun q => (D.1 (100 + q.2), q.1))
theorem xm_ty_at {D : va_G} {ats : List FieldType} {t : Nat} {ty : FieldType} (h : ats[t]? = some ty) : (xm_ty D ats)[t]? = some (D.1 (100 + t), ty) := by
  simp [xm_ty, List.getElem?_map, List.getElem?_zipIdx, h]
theorem xm_W.one {D : va_G} {cl : List vw_C} {m : xm_M} {H : Heap} (h : xm_W D cl m H) {a : Nat} {e : va_E} (ha : m a = some e) : va_P D cl [(a, xm_tr D e)] H := by
  intro k q hk
  have hz : k < 1 := (List.getElem?_eq_some_iff.mp hk).1
  rw [show k = 0 by omega] at hk
  cases hk
  exact h a e ha
theorem xm_W.lt {D : va_G} {cl : List vw_C} {m : xm_M} {H : Heap} (h : xm_W D cl m H) {a : Nat} {e : va_E} (ha : m a = some e) : a < H.size := (h a e ha).lt
theorem xm_W.fresh {D : va_G} {cl : List vw_C} {m : xm_M} {H : Heap} (h : xm_W D cl m H) : m H.size = none := by
  cases he : m H.size with
  | none => rfl
  | some e => exact absurd (h.lt he) (Nat.lt_irrefl _)
theorem xm_W.up {D : va_G} {cl : List vw_C} {m : xm_M} {H H1 : Heap} (h : xm_W D cl m H) {a : Nat} {e : va_E} (he : va_at D cl (a, xm_tr D e) H1) (ho : ∀ q, q ≠ a → H1[q]? = H[q]?) : xm_W D cl (xm_up m a e) H1 := by
  intro b x hb
  by_cases hba : b = a
  · subst hba
    rw [xm_up_s] at hb
    cases hb
    exact he
  · rw [xm_up_n _ _ hba] at hb
    exact (h b x hb).kept (ho b hba)
theorem xm_W.push {D : va_G} {cl : List vw_C} {m : xm_M} {H H1 : Heap} (h : xm_W D cl m H) {e : va_E} (he : va_at D cl (H.size, xm_tr D e) H1) (ho : ∀ q, q < H.size → H1[q]? = H[q]?) : xm_W D cl (xm_up m H.size e) H1 := by
  intro b x hb
  by_cases hba : b = H.size
  · subst hba
    rw [xm_up_s] at hb
    cases hb
    exact he
  · rw [xm_up_n _ _ hba] at hb
    exact (h b x hb).kept (ho b (h.lt hb))
theorem xm_in_up {A : Nat → Prop} {m : xm_M} (h : ∀ a, m a ≠ none → A a) {a : Nat} (e : va_E) (ha : A a) : ∀ b, xm_up m a e b ≠ none → A b := by
  intro b hb
  by_cases hba : b = a
  · subst hba; exact ha
  · rw [xm_up_n _ _ hba] at hb; exact h b hb
def xm_As (m : xm_M) (sz : Nat) : Nat → Prop := fun q => m q ≠ none ∨ sz ≤ q
def xm_le (K K' : xm_PT) : Prop := ∀ ls st m bc bs, K ls st m bc bs → K' ls st m bc bs
def xm_ref (v : Value) : Prop := v = .null ∨ ∃ a, v = .ref a
theorem xm_ref_r (a : Nat) : xm_ref (.ref a) := Or.inr ⟨a, rfl⟩
theorem xm_ref_n : xm_ref .null := Or.inl rfl
theorem xm_ref_q (r : Option Nat) : xm_ref (va_rf r) := va_rf_or r
theorem xm_ref.cat {v : Value} (h : xm_ref v) : v.category = 1 := by
  rcases h with h | ⟨a, h⟩ <;> subst h <;> rfl
/-- the arguments off the stack -/
def xm_sp : Nat → List Value → List Value → Option (List Value × List Value)
  | 0, st, acc => some (acc, st)
  | _ + 1, [], _ => none
  | n + 1, v :: st, acc => xm_sp n st (v :: acc)
theorem xm_sp_ok {n : Nat} : ∀ {st acc as rest : List Value}, xm_sp n st acc = some (as, rest) → ∃ l : List Value, l.length = n ∧ st = l ++ rest ∧ as = l.reverse ++ acc := by
  induction n with
  | zero =>
    intro st acc as rest h
    simp only [xm_sp, Option.some.injEq, Prod.mk.injEq] at h
    exact ⟨[], rfl, by rw [h.2]; rfl, by rw [← h.1]; rfl⟩
  | succ n ih =>
    intro st acc as rest h
    cases st with
    | nil => simp [xm_sp] at h
    | cons v st =>
      simp only [xm_sp] at h
      obtain ⟨l, h1, h2, h3⟩ := ih h
      exact ⟨v :: l, by simp [h1], by simp [h2], by simp [h3]⟩
theorem xm_cat4 {rest : List Value} (h : rest.length ≤ 4) : (rest.map fun v => v.category).sum ≤ 8 := by
  have key : ∀ r : List Value, (r.map fun v => v.category).sum ≤ 2 * r.length := by
    intro r
    induction r with
    | nil => simp
    | cons v r ih =>
      simp only [List.map_cons, List.sum_cons, List.length_cons]
      rcases lv_cat v with hv | hv <;> omega
  have := key rest
  omega
/-! the transformers -/
def xo_push (v : Value) (K : xm_PT) (ls : xm_L) (st : List Value) (m : xm_M) (bc bs : Nat) : Prop := K ls (v :: st) m bc bs
def xo_iload (i : Nat) (K : xm_PT) (ls : xm_L) (st : List Value) (m : xm_M) (bc bs : Nat) : Prop := match xm_lk ls i with
  | some (.int v) => K ls (.int v :: st) m bc bs
  | _ => False
def xo_lload (i : Nat) (K : xm_PT) (ls : xm_L) (st : List Value) (m : xm_M) (bc bs : Nat) : Prop := match xm_lk ls i with
  | some (.long v) => K ls (.long v :: st) m bc bs
  | _ => False
def xo_aload (i : Nat) (K : xm_PT) (ls : xm_L) (st : List Value) (m : xm_M) (bc bs : Nat) : Prop := match xm_lk ls i with
  | some v => xm_ref v ∧ K ls (v :: st) m bc bs
  | _ => False
def xo_istore (i : Nat) (K : xm_PT) (ls : xm_L) (st : List Value) (m : xm_M) (bc bs : Nat) : Prop := match st with
  | .int v :: r => K (xm_sto ls i (.int v)) r m bc bs
  | _ => False
def xo_astore (i : Nat) (K : xm_PT) (ls : xm_L) (st : List Value) (m : xm_M) (bc bs : Nat) : Prop := match st with
  | v :: r => xm_ref v ∧ K (xm_sto ls i v) r m bc bs
  | _ => False
def xo_iinc (i : Nat) (n : Int32) (K : xm_PT) (ls : xm_L) (st : List Value) (m : xm_M) (bc bs : Nat) : Prop := match xm_lk ls i with
  | some (.int v) => K (xm_sto ls i (.int (v + n))) st m bc bs
  | _ => False
def xo_ibin (f : Int32 → Int32 → Int32) (K : xm_PT) (ls : xm_L) (st : List Value) (m : xm_M) (bc bs : Nat) : Prop := match st with
  | .int y :: .int x :: r => K ls (.int (f x y) :: r) m bc bs
  | _ => False
def xo_iun (f : Int32 → Int32) (K : xm_PT) (ls : xm_L) (st : List Value) (m : xm_M) (bc bs : Nat) : Prop := match st with
  | .int x :: r => K ls (.int (f x) :: r) m bc bs
  | _ => False
def xo_i2l (K : xm_PT) (ls : xm_L) (st : List Value) (m : xm_M) (bc bs : Nat) : Prop := match st with
  | .int x :: r => K ls (.long x.toInt64 :: r) m bc bs
  | _ => False
def xo_l2i (K : xm_PT) (ls : xm_L) (st : List Value) (m : xm_M) (bc bs : Nat) : Prop := match st with
  | .long x :: r => K ls (.int x.toInt32 :: r) m bc bs
  | _ => False
def xo_lcmp (K : xm_PT) (ls : xm_L) (st : List Value) (m : xm_M) (bc bs : Nat) : Prop := match st with
  | .long y :: .long x :: r => K ls (.int (lg_cmp x y) :: r) m bc bs
  | _ => False
def xo_dup (K : xm_PT) (ls : xm_L) (st : List Value) (m : xm_M) (bc bs : Nat) : Prop := match st with
  | v :: r => v.category = 1 ∧ K ls (v :: v :: r) m bc bs
  | _ => False
def xo_pop (K : xm_PT) (ls : xm_L) (st : List Value) (m : xm_M) (bc bs : Nat) : Prop := match st with
  | v :: r => v.category = 1 ∧ K ls r m bc bs
  | _ => False
def xo_dup_x1 (K : xm_PT) (ls : xm_L) (st : List Value) (m : xm_M) (bc bs : Nat) : Prop := match st with
  | v :: w :: r => v.category = 1 ∧ w.category = 1 ∧ K ls (v :: w :: v :: r) m bc bs
  | _ => False
def xo_dup2 (K : xm_PT) (ls : xm_L) (st : List Value) (m : xm_M) (bc bs : Nat) : Prop := match st with
  | v :: w :: r => v.category = 1 ∧ w.category = 1 ∧ K ls (v :: w :: v :: w :: r) m bc bs
  | _ => False
def xo_if (cnd : Int32 → Prop) (Kt Kf : xm_PT) (ls : xm_L) (st : List Value) (m : xm_M) (bc bs : Nat) : Prop := match st with
  | .int x :: r => (cnd x → Kt ls r m bc bs) ∧ (¬ cnd x → Kf ls r m bc bs)
  | _ => False
def xo_icmp (cnd : Int32 → Int32 → Prop) (Kt Kf : xm_PT) (ls : xm_L) (st : List Value) (m : xm_M) (bc bs : Nat) : Prop := match st with
  | .int y :: .int x :: r => (cnd x y → Kt ls r m bc bs) ∧ (¬ cnd x y → Kf ls r m bc bs)
  | _ => False
/-- Kn: where it is null; Kr: where it isn't -/
def xo_null (Kn Kr : xm_PT) (ls : xm_L) (st : List Value) (m : xm_M) (bc bs : Nat) : Prop := match st with
  | v :: r => xm_ref v ∧ (v = .null → Kn ls r m bc bs) ∧ (v ≠ .null → Kr ls r m bc bs)
  | _ => False
def xo_get (ci k : Nat) (K : xm_PT) (ls : xm_L) (st : List Value) (m : xm_M) (bc bs : Nat) : Prop := match st with
  | .ref a :: r => (match m a with
    | some (.inr (c, fs)) => c = ci ∧ (match fs[k]? with
      | some v => K ls (v :: r) m bc bs
      | none => False)
    | _ => False)
  | _ => False
def xo_put (ci k : Nat) (ty : FieldType) (K : xm_PT) (ls : xm_L) (st : List Value) (m : xm_M) (bc bs : Nat) : Prop := match st with
  | v :: .ref a :: r => narrow ty v = v ∧ fits ty v = true ∧ (match m a with
    | some (.inr (c, fs)) => c = ci ∧ k < fs.length ∧ K ls r (xm_up m a (.inr (ci, fs.set k v))) bc bs
    | _ => False)
  | _ => False
def xo_alen (ats : List FieldType) (K : xm_PT) (ls : xm_L) (st : List Value) (m : xm_M) (bc bs : Nat) : Prop := match st with
  | .ref a :: r => (match m a with
    | some (.inl (t, x)) => (∃ ty, ats[t]? = some ty) ∧ K ls (.int (nI x.1) :: r) m bc bs
    | _ => False)
  | _ => False
def xo_iald (ats : List FieldType) (K : xm_PT) (ls : xm_L) (st : List Value) (m : xm_M) (bc bs : Nat) : Prop := match st with
  | .int i :: .ref a :: r => (match m a with
    | some (.inl (t, n, .inl f)) => ats[t]? = some .int ∧ vp_in i n ∧ K ls (.int (f i.toNatClampNeg) :: r) m bc bs
    | _ => False)
  | _ => False
def xo_iast (ats : List FieldType) (K : xm_PT) (ls : xm_L) (st : List Value) (m : xm_M) (bc bs : Nat) : Prop := match st with
  | .int x :: .int i :: .ref a :: r => (match m a with
    | some (.inl (t, n, .inl f)) => ats[t]? = some .int ∧ vp_in i n ∧ K ls r (xm_up m a (.inl (t, n, .inl (upd f i.toNatClampNeg x)))) bc bs
    | _ => False)
  | _ => False
def xo_aald (ats : List FieldType) (K : xm_PT) (ls : xm_L) (st : List Value) (m : xm_M) (bc bs : Nat) : Prop := match st with
  | .int i :: .ref a :: r => (match m a with
    | some (.inl (t, n, .inr (.inr (.inr (.inr f))))) => (∃ C, ats[t]? = some (.object C)) ∧ vp_in i n ∧ K ls (va_rf (f i.toNatClampNeg) :: r) m bc bs
    | _ => False)
  | _ => False
def xo_aast (ats : List FieldType) (cl : List vw_C) (K : xm_PT) (ls : xm_L) (st : List Value) (m : xm_M) (bc bs : Nat) : Prop := match st with
  | .ref v :: .int i :: .ref a :: r => (match m a, m v with
    | some (.inl (t, n, .inr (.inr (.inr (.inr f))))), some (.inr (ci, _)) => ats[t]? = some (.object (cl.getD ci ("", fun _ => ("", "", "", false), 0)).1) ∧ ci < cl.length ∧ vp_in i n ∧ K ls r (xm_up m a (.inl (t, n, .inr (.inr (.inr (.inr (va_up f i.toNatClampNeg (some v)))))))) bc bs
    | _, _ => False)
  | _ => False
def xo_idiv (K : xm_PT) (ls : xm_L) (st : List Value) (m : xm_M) (bc bs : Nat) : Prop := match st with
  | .int y :: .int x :: r => ¬ y = 0 ∧ K ls (.int (x / y) :: r) m bc bs
  | _ => False
def xo_irem (K : xm_PT) (ls : xm_L) (st : List Value) (m : xm_M) (bc bs : Nat) : Prop := match st with
  | .int y :: .int x :: r => ¬ y = 0 ∧ K ls (.int (x - x / y * y) :: r) m bc bs
  | _ => False
def xo_zald (ats : List FieldType) (K : xm_PT) (ls : xm_L) (st : List Value) (m : xm_M) (bc bs : Nat) : Prop := match st with
  | .int i :: .ref a :: r => (match m a with
    | some (.inl (t, n, .inl f)) => ats[t]? = some .boolean ∧ vp_in i n ∧ K ls (.int (f i.toNatClampNeg) :: r) m bc bs
    | _ => False)
  | _ => False
def xo_zast (ats : List FieldType) (K : xm_PT) (ls : xm_L) (st : List Value) (m : xm_M) (bc bs : Nat) : Prop := match st with
  | .int x :: .int i :: .ref a :: r => (match m a with
    | some (.inl (t, n, .inl f)) => ats[t]? = some .boolean ∧ (x = 0 ∨ x = 1) ∧ vp_in i n ∧ K ls r (xm_up m a (.inl (t, n, .inl (upd f i.toNatClampNeg x)))) bc bs
    | _ => False)
  | _ => False
def xo_sld (b L : Nat) (xs : Nat → Int32) (K : xm_PT) (ls : xm_L) (st : List Value) (m : xm_M) (bc bs : Nat) : Prop := match st with
  | .int i :: .ref a :: r => a = b ∧ vp_in i L ∧ K ls (.int (xs i.toNatClampNeg) :: r) m bc bs
  | _ => False
def xo_slen (b L : Nat) (K : xm_PT) (ls : xm_L) (st : List Value) (m : xm_M) (bc bs : Nat) : Prop := match st with
  | .ref a :: r => a = b ∧ K ls (.int (nI L) :: r) m bc bs
  | _ => False
def xo_new (ci N : Nat) (fs : List Value) (K : xm_PT) (ls : xm_L) (st : List Value) (m : xm_M) (bc bs : Nat) : Prop := 1 ≤ bc ∧ N ≤ bs ∧ ∀ q, m q = none → K ls (.ref q :: st) (xm_up m q (.inr (ci, fs))) (bc - 1) (bs - N)
def xo_anew (t : Nat) (K : xm_PT) (ls : xm_L) (st : List Value) (m : xm_M) (bc bs : Nat) : Prop := match st with
  | .int n :: r => ¬ n < 0 ∧ n.toNatClampNeg ≤ 100000 ∧ 1 ≤ bc ∧ n.toNatClampNeg ≤ bs ∧ ∀ q, m q = none → K ls (.ref q :: r) (xm_up m q (.inl (t, n.toNatClampNeg, .inr (.inr (.inr (.inr (fun _ => none))))))) (bc - 1) (bs - n.toNatClampNeg)
  | _ => False
def xo_newi (t : Nat) (K : xm_PT) (ls : xm_L) (st : List Value) (m : xm_M) (bc bs : Nat) : Prop := match st with
  | .int n :: r => ¬ n < 0 ∧ n.toNatClampNeg ≤ 100000 ∧ 1 ≤ bc ∧ n.toNatClampNeg ≤ bs ∧ ∀ q, m q = none → K ls (.ref q :: r) (xm_up m q (.inl (t, n.toNatClampNeg, .inl (fun _ => 0)))) (bc - 1) (bs - n.toNatClampNeg)
  | _ => False
def xo_drop (K : xm_PT) (ls : xm_L) (st : List Value) (m : xm_M) (bc bs : Nat) : Prop := match st with
  | .ref _ :: r => r.length ≤ 4 ∧ K ls r m bc bs
  | _ => False
abbrev xm_CP : Type := List Value → xm_M → (Option Value → xm_M → Prop) → Prop
def xo_callV (ci n mc ms : Nat) (CP : xm_CP) (K : xm_PT) (ls : xm_L) (st : List Value) (m : xm_M) (bc bs : Nat) : Prop := mc ≤ bc ∧ ms ≤ bs ∧ match xm_sp n st [] with
  | some (as, .ref b :: rest) => rest.length ≤ 4 ∧ (match m b with
    | some (.inr (c, _)) => c = ci
    | _ => False) ∧ CP (.ref b :: as) m (fun r m' => K ls (r.toList ++ rest) m' (bc - mc) (bs - ms))
  | _ => False
def xo_callI (n mc ms : Nat) (CP : xm_CP) (K : xm_PT) (ls : xm_L) (st : List Value) (m : xm_M) (bc bs : Nat) : Prop := mc ≤ bc ∧ ms ≤ bs ∧ match xm_sp n st [] with
  | some (as, .ref b :: rest) => rest.length ≤ 4 ∧ CP (.ref b :: as) m (fun r m' => K ls (r.toList ++ rest) m' (bc - mc) (bs - ms))
  | _ => False
def xo_callS (n mc ms : Nat) (CP : xm_CP) (K : xm_PT) (ls : xm_L) (st : List Value) (m : xm_M) (bc bs : Nat) : Prop := mc ≤ bc ∧ ms ≤ bs ∧ match xm_sp n st [] with
  | some (as, rest) => rest.length ≤ 4 ∧ CP as m (fun r m' => K ls (r.toList ++ rest) m' (bc - mc) (bs - ms))
  | _ => False
def xo_jmp (ks : List Nat) (K : xm_PT) (ls : xm_L) (st : List Value) (m : xm_M) (bc bs : Nat) : Prop := K (xm_keep ls ks) st m bc bs
def xo_iret (Rh : Option Value → xm_M → Prop) (_ls : xm_L) (st : List Value) (m : xm_M) (_bc _bs : Nat) : Prop := match st with
  | [.int v] => Rh (some (.int v)) m
  | _ => False
def xo_zret (Rh : Option Value → xm_M → Prop) (_ls : xm_L) (st : List Value) (m : xm_M) (_bc _bs : Nat) : Prop := match st with
  | [.int v] => (v = 0 ∨ v = 1) ∧ Rh (some (.int v)) m
  | _ => False
def xo_lret (Rh : Option Value → xm_M → Prop) (_ls : xm_L) (st : List Value) (m : xm_M) (_bc _bs : Nat) : Prop := match st with
  | [.long v] => Rh (some (.long v)) m
  | _ => False
def xo_aret (Rh : Option Value → xm_M → Prop) (_ls : xm_L) (st : List Value) (m : xm_M) (_bc _bs : Nat) : Prop := match st with
  | [v] => xm_ref v ∧ Rh (some v) m
  | _ => False
def xo_vret (Rh : Option Value → xm_M → Prop) (_ls : xm_L) (st : List Value) (m : xm_M) (_bc _bs : Nat) : Prop := match st with
  | [] => Rh none m
  | _ => False
def xm_sw (x : Int) : Int → List xm_PT → xm_PT → xm_L → List Value → xm_M → Nat → Nat → Prop
  | _, [], Kd, ls, st, m, bc, bs => Kd ls st m bc bs
  | lo, K :: Ks, Kd, ls, st, m, bc, bs => (x = lo → K ls st m bc bs) ∧ (¬ x = lo → xm_sw x (lo + 1) Ks Kd ls st m bc bs)
def xo_tsw (lo : Int) (Ks : List xm_PT) (Kd : xm_PT) (ls : xm_L) (st : List Value) (m : xm_M) (bc bs : Nat) : Prop := match st with
  | .int x :: r => xm_sw x.toInt lo Ks Kd ls r m bc bs
  | _ => False
def xm_lsw (x : Int) : List (Int × xm_PT) → xm_PT → xm_L → List Value → xm_M → Nat → Nat → Prop
  | [], Kd, ls, st, m, bc, bs => Kd ls st m bc bs
  | (k, K) :: Ks, Kd, ls, st, m, bc, bs => (x = k → K ls st m bc bs) ∧ (¬ x = k → xm_lsw x Ks Kd ls st m bc bs)
def xo_lsw (Ks : List (Int × xm_PT)) (Kd : xm_PT) (ls : xm_L) (st : List Value) (m : xm_M) (bc bs : Nat) : Prop := match st with
  | .int x :: r => xm_lsw x.toInt Ks Kd ls r m bc bs
  | _ => False
end
section
/-! each transformer is what the machine does -/
/-- what the machine's tables say that isn't among a method's words: links to nest mates, classes of arrays of references -/
def xm_N (U : State) : Prop := (∀ q ∈ xm_ns, va_Nw (.methodLinkNest q.1 q.2.1 q.2.2.1 q.2.2.2) U) ∧ ∀ C ∈ xm_os, va_AO C U
theorem xm_N.warm {s U : State} (h : xm_N s) (hW : s.WarmedH U.vm) : xm_N U := ⟨fun q hq => va_Nw.warmM hW (h.1 q hq), fun C hC => (h.2 C hC).moved hW.alike⟩
theorem xm_N.call {U : State} (h : xm_N U) (g : JFrame) (mk : MethodId) (a : Array Value) : xm_N (U.calling g mk a) := ⟨fun q hq => va_Nw.same rfl (rfl : U.vm = (U.calling g mk a).vm) (h.1 q hq), fun C hC => (h.2 C hC).moved (Vm.Alike.refl U.vm)⟩
def xm_C (p : Program) (s : State) (mm : MethodId) (args : Array Value) (c : Code) (cc : ByteArray) (nL : Nat) (own : String) (Ts : List Cond) (D : va_G) (cl : List vw_C) (ats : List FieldType) (A : Nat → Prop) : Prop :=
  CallFix p mm c cc nL s args Ts own ∧ va_K D cl (xm_ty D ats) s ∧ (∀ q, s.heap.size ≤ q → A q) ∧ xm_N s
def xm_A (p : Program) (l : Launch) (e : Env) (R : Room) (s : State) (mm : MethodId) (args : Array Value) (below : List Frame) (meth : Method) (c : Code) (nL : Nat) (D : va_G) (cl : List vw_C) (A : Nat → Prop) (Q : State → Prop) (pc : Nat) : xm_PT := fun ls st m bc bs =>
  ∀ (H : Heap) (locs : List Loc) (cells slots : Nat) (la : Array Slot), lv_has la nL ls → xm_W D cl m H → (∀ a, m a ≠ none → A a) → va_S A s.heap H locs → cells + bc ≤ R.cells → slots + bs ≤ R.slots → W p l e R s mm args below meth c H locs cells slots Q (F0 mm pc la st)
def xm_Q (D : va_G) (cl : List vw_C) (Rh : Option Value → xm_M → Prop) (A : Nat → Prop) : Array Value → State → Outcome → State → Prop := fun _ st oc t => (∃ (r : Option Value) (m' : xm_M), oc = .returned r ∧ Rh r m' ∧ xm_W D cl m' t.heap ∧ ∀ a, m' a ≠ none → A a) ∧ va_F A st t
def xm_Pre (D : va_G) (cl : List vw_C) (ats : List FieldType) (as : List Value) (m : xm_M) (sz : Nat) : Array Value → State → Prop := va_Pc as (fun U => U.heap.size = sz ∧ xm_W D cl m U.heap ∧ va_K D cl (xm_ty D ats) U ∧ xm_N U)
def xm_Met (l : Launch) (D : va_G) (cl : List vw_C) (ats : List FieldType) (y : MethodName) (ws : List Cond) (rm : Room) (mc ms : Nat) (CP : xm_CP) : Prop :=
  ∀ (as : List Value) (m : xm_M) (sz : Nat) (Rh : Option Value → xm_M → Prop), CP as m Rh → Met l y ws rm (xm_Pre D cl ats as m sz) (xm_Q D cl Rh (xm_As m sz)) mc ms (xm_As m sz)
theorem xm_blind {D : va_G} {cl : List vw_C} {ats : List FieldType} {as : List Value} {m : xm_M} {sz : Nat} : FrameBlind (xm_Pre D cl ats as m sz) := fun a U g mk q => by
  obtain ⟨q0, q1, qP, qK, qN⟩ := q
  exact ⟨q0, q1, qP, va_K.moved (u := U) (U := U.calling g mk a) (Vm.Alike.refl U.vm) qK, qN.call g mk a⟩
section XS
variable {p : Program} {l : Launch} {e : Env} {R : Room} {s : State} {mm : MethodId} {args : Array Value} {below : List Frame} {meth : Method} {c : Code} {cc : ByteArray} {nL : Nat} {own : String} {Ts : List Cond} {D : va_G} {cl : List vw_C} {ats : List FieldType} {A : Nat → Prop} {Q : State → Prop} {pc : Nat} {K Kt Kf : xm_PT}
theorem xs_iconst (C : xm_C p s mm args c cc nL own Ts D cl ats A) {n : Int} {v : Int32} (hd : decode cc pc = .ok (.iconst n, 1)) (hv : Int32.ofInt n = v) (hK : xm_le K (xm_A p l e R s mm args below meth c nL D cl A Q (pc + 1))) : xm_le (xo_push (.int v) K) (xm_A p l e R s mm args below meth c nL D cl A Q pc) := by
  intro ls st m bc bs h H locs cells slots la hl hW hin hS h1 h2
  exact lv_iconst C.1.1 C.1.2.1 hd hv (hK _ _ _ _ _ h H locs cells slots la hl hW hin hS h1 h2)
theorem xs_bipush (C : xm_C p s mm args c cc nL own Ts D cl ats A) {n : Int} {v : Int32} (hd : decode cc pc = .ok (.bipush n, 2)) (hv : (Int8.ofInt n).toInt32 = v) (hK : xm_le K (xm_A p l e R s mm args below meth c nL D cl A Q (pc + 2))) : xm_le (xo_push (.int v) K) (xm_A p l e R s mm args below meth c nL D cl A Q pc) := by
  intro ls st m bc bs h H locs cells slots la hl hW hin hS h1 h2
  exact lv_bipush C.1.1 C.1.2.1 hd hv (hK _ _ _ _ _ h H locs cells slots la hl hW hin hS h1 h2)
theorem xs_sipush (C : xm_C p s mm args c cc nL own Ts D cl ats A) {n : Int} {v : Int32} (hd : decode cc pc = .ok (.sipush n, 3)) (hv : (Int16.ofInt n).toInt32 = v) (hK : xm_le K (xm_A p l e R s mm args below meth c nL D cl A Q (pc + 3))) : xm_le (xo_push (.int v) K) (xm_A p l e R s mm args below meth c nL D cl A Q pc) := by
  intro ls st m bc bs h H locs cells slots la hl hW hin hS h1 h2
  exact lv_sipush C.1.1 C.1.2.1 hd hv (hK _ _ _ _ _ h H locs cells slots la hl hW hin hS h1 h2)
theorem xs_lconst (C : xm_C p s mm args c cc nL own Ts D cl ats A) {n : Fin 2} {v : Int64} (hd : decode cc pc = .ok (.lconst n, 1)) (hv : Int64.ofNat (n : Nat) = v) (hK : xm_le K (xm_A p l e R s mm args below meth c nL D cl A Q (pc + 1))) : xm_le (xo_push (.long v) K) (xm_A p l e R s mm args below meth c nL D cl A Q pc) := by
  intro ls st m bc bs h H locs cells slots la hl hW hin hS h1 h2
  exact lv_lconst C.1.1 C.1.2.1 hd hv (hK _ _ _ _ _ h H locs cells slots la hl hW hin hS h1 h2)
theorem xs_null (C : xm_C p s mm args c cc nL own Ts D cl ats A)  (hd : decode cc pc = .ok (.aconst_null, 1))  (hK : xm_le K (xm_A p l e R s mm args below meth c nL D cl A Q (pc + 1))) : xm_le (xo_push (.null) K) (xm_A p l e R s mm args below meth c nL D cl A Q pc) := by
  intro ls st m bc bs h H locs cells slots la hl hW hin hS h1 h2
  exact lv_null C.1.1 C.1.2.1 hd (hK _ _ _ _ _ h H locs cells slots la hl hW hin hS h1 h2)
theorem xs_ldc (C : xm_C p s mm args c cc nL own Ts D cl ats A) {index : Nat} {v : Int32} (hd : decode cc pc = .ok (.ldc index, 2)) (hc : Jvm.Cond.constant own index v ∈ Ts) (hK : xm_le K (xm_A p l e R s mm args below meth c nL D cl A Q (pc + 2))) : xm_le (xo_push (.int v) K) (xm_A p l e R s mm args below meth c nL D cl A Q pc) := by
  intro ls st m bc bs h H locs cells slots la hl hW hin hS h1 h2
  exact lv_ldc C.1.1 C.1.2.1 C.1.2.2.2.1 (C.1.2.2.2.2 _ hc) hd (hK _ _ _ _ _ h H locs cells slots la hl hW hin hS h1 h2)
theorem xs_ldc2 (C : xm_C p s mm args c cc nL own Ts D cl ats A) {index : Nat} {v : Int64} (hd : decode cc pc = .ok (.ldc2_w index, 3)) (hc : Jvm.Cond.constantLong own index v ∈ Ts) (hK : xm_le K (xm_A p l e R s mm args below meth c nL D cl A Q (pc + 3))) : xm_le (xo_push (.long v) K) (xm_A p l e R s mm args below meth c nL D cl A Q pc) := by
  intro ls st m bc bs h H locs cells slots la hl hW hin hS h1 h2
  exact lv_ldc2 C.1.1 C.1.2.1 C.1.2.2.2.1 (C.1.2.2.2.2 _ hc) hd (hK _ _ _ _ _ h H locs cells slots la hl hW hin hS h1 h2)
theorem xs_ldcw (C : xm_C p s mm args c cc nL own Ts D cl ats A) {index : Nat} {v : Int32} (hd : decode cc pc = .ok (.ldc_w index, 3)) (hc : Jvm.Cond.constant own index v ∈ Ts) (hK : xm_le K (xm_A p l e R s mm args below meth c nL D cl A Q (pc + 3))) : xm_le (xo_push (.int v) K) (xm_A p l e R s mm args below meth c nL D cl A Q pc) := by
  intro ls st m bc bs h H locs cells slots la hl hW hin hS h1 h2
  exact lv_ldcw C.1.1 C.1.2.1 C.1.2.2.2.1 (C.1.2.2.2.2 _ hc) hd (hK _ _ _ _ _ h H locs cells slots la hl hW hin hS h1 h2)
theorem xs_iload_n (C : xm_C p s mm args c cc nL own Ts D cl ats A) {k : Fin 4} {i : Nat} (hd : decode cc pc = .ok (.iload_n k, 1)) (hi : (k : Nat) = i) (hK : xm_le K (xm_A p l e R s mm args below meth c nL D cl A Q (pc + 1))) : xm_le (xo_iload i K) (xm_A p l e R s mm args below meth c nL D cl A Q pc) := by
  intro ls st m bc bs h H locs cells slots la hl hW hin hS h1 h2
  simp only [xo_iload] at h
  split at h
  · rename_i v hv
    exact lv_iload_n C.1.1 C.1.2.1 hd hi (xm_has_lk hl hv) (hK _ _ _ _ _ h H locs cells slots la hl hW hin hS h1 h2)
  · exact h.elim
theorem xs_iload (C : xm_C p s mm args c cc nL own Ts D cl ats A) {i : Nat} (hd : decode cc pc = .ok (.iload i, 2)) (hK : xm_le K (xm_A p l e R s mm args below meth c nL D cl A Q (pc + 2))) : xm_le (xo_iload i K) (xm_A p l e R s mm args below meth c nL D cl A Q pc) := by
  intro ls st m bc bs h H locs cells slots la hl hW hin hS h1 h2
  simp only [xo_iload] at h
  split at h
  · rename_i v hv
    exact lv_iload C.1.1 C.1.2.1 hd (xm_has_lk hl hv) (hK _ _ _ _ _ h H locs cells slots la hl hW hin hS h1 h2)
  · exact h.elim
theorem xs_lload_n (C : xm_C p s mm args c cc nL own Ts D cl ats A) {k : Fin 4} {i : Nat} (hd : decode cc pc = .ok (.lload_n k, 1)) (hi : (k : Nat) = i) (hK : xm_le K (xm_A p l e R s mm args below meth c nL D cl A Q (pc + 1))) : xm_le (xo_lload i K) (xm_A p l e R s mm args below meth c nL D cl A Q pc) := by
  intro ls st m bc bs h H locs cells slots la hl hW hin hS h1 h2
  simp only [xo_lload] at h
  split at h
  · rename_i v hv
    exact lv_lload_n C.1.1 C.1.2.1 hd hi (xm_has_lk hl hv) (hK _ _ _ _ _ h H locs cells slots la hl hW hin hS h1 h2)
  · exact h.elim
theorem xs_lload (C : xm_C p s mm args c cc nL own Ts D cl ats A) {i : Nat} (hd : decode cc pc = .ok (.lload i, 2)) (hK : xm_le K (xm_A p l e R s mm args below meth c nL D cl A Q (pc + 2))) : xm_le (xo_lload i K) (xm_A p l e R s mm args below meth c nL D cl A Q pc) := by
  intro ls st m bc bs h H locs cells slots la hl hW hin hS h1 h2
  simp only [xo_lload] at h
  split at h
  · rename_i v hv
    exact lv_lload C.1.1 C.1.2.1 hd (xm_has_lk hl hv) (hK _ _ _ _ _ h H locs cells slots la hl hW hin hS h1 h2)
  · exact h.elim
theorem xs_aload_n (C : xm_C p s mm args c cc nL own Ts D cl ats A) {k : Fin 4} {i : Nat} (hd : decode cc pc = .ok (.aload_n k, 1)) (hi : (k : Nat) = i) (hK : xm_le K (xm_A p l e R s mm args below meth c nL D cl A Q (pc + 1))) : xm_le (xo_aload i K) (xm_A p l e R s mm args below meth c nL D cl A Q pc) := by
  intro ls st m bc bs h H locs cells slots la hl hW hin hS h1 h2
  simp only [xo_aload] at h
  split at h
  · rename_i v hv
    obtain ⟨hr, h⟩ := h
    rcases hr with rfl | ⟨a, rfl⟩
    · exact lv_aload_nN C.1.1 C.1.2.1 hd hi (xm_has_lk hl hv) (hK _ _ _ _ _ h H locs cells slots la hl hW hin hS h1 h2)
    · exact lv_aload_n C.1.1 C.1.2.1 hd hi (xm_has_lk hl hv) (hK _ _ _ _ _ h H locs cells slots la hl hW hin hS h1 h2)
  · exact h.elim
theorem xs_aload (C : xm_C p s mm args c cc nL own Ts D cl ats A) {i : Nat} (hd : decode cc pc = .ok (.aload i, 2)) (hK : xm_le K (xm_A p l e R s mm args below meth c nL D cl A Q (pc + 2))) : xm_le (xo_aload i K) (xm_A p l e R s mm args below meth c nL D cl A Q pc) := by
  intro ls st m bc bs h H locs cells slots la hl hW hin hS h1 h2
  simp only [xo_aload] at h
  split at h
  · rename_i v hv
    obtain ⟨hr, h⟩ := h
    rcases hr with rfl | ⟨a, rfl⟩
    · exact lv_aloadN C.1.1 C.1.2.1 hd (xm_has_lk hl hv) (hK _ _ _ _ _ h H locs cells slots la hl hW hin hS h1 h2)
    · exact lv_aload C.1.1 C.1.2.1 hd (xm_has_lk hl hv) (hK _ _ _ _ _ h H locs cells slots la hl hW hin hS h1 h2)
  · exact h.elim
theorem xs_istore_n (C : xm_C p s mm args c cc nL own Ts D cl ats A) {k : Fin 4} {i : Nat} (hd : decode cc pc = .ok (.istore_n k, 1)) (hi : (k : Nat) = i) (hn : i < nL) (hK : xm_le K (xm_A p l e R s mm args below meth c nL D cl A Q (pc + 1))) : xm_le (xo_istore i K) (xm_A p l e R s mm args below meth c nL D cl A Q pc) := by
  intro ls st m bc bs h H locs cells slots la hl hW hin hS h1 h2
  simp only [xo_istore] at h
  split at h
  · exact lv_istore_n C.1.1 C.1.2.1 hd hi hl hn rfl (fun la' hl' => hK _ _ _ _ _ h H locs cells slots la' (xm_has_sto hl') hW hin hS h1 h2)
  · exact h.elim
theorem xs_istore (C : xm_C p s mm args c cc nL own Ts D cl ats A) {i : Nat} (hd : decode cc pc = .ok (.istore i, 2)) (hn : i < nL) (hK : xm_le K (xm_A p l e R s mm args below meth c nL D cl A Q (pc + 2))) : xm_le (xo_istore i K) (xm_A p l e R s mm args below meth c nL D cl A Q pc) := by
  intro ls st m bc bs h H locs cells slots la hl hW hin hS h1 h2
  simp only [xo_istore] at h
  split at h
  · exact lv_istore C.1.1 C.1.2.1 hd hl hn rfl (fun la' hl' => hK _ _ _ _ _ h H locs cells slots la' (xm_has_sto hl') hW hin hS h1 h2)
  · exact h.elim
theorem xs_astore_n (C : xm_C p s mm args c cc nL own Ts D cl ats A) {k : Fin 4} {i : Nat} (hd : decode cc pc = .ok (.astore_n k, 1)) (hi : (k : Nat) = i) (hn : i < nL) (hK : xm_le K (xm_A p l e R s mm args below meth c nL D cl A Q (pc + 1))) : xm_le (xo_astore i K) (xm_A p l e R s mm args below meth c nL D cl A Q pc) := by
  intro ls st m bc bs h H locs cells slots la hl hW hin hS h1 h2
  simp only [xo_astore] at h
  split at h
  · obtain ⟨hr, h⟩ := h
    rcases hr with rfl | ⟨a, rfl⟩
    · exact lv_astore_nN C.1.1 C.1.2.1 hd hi hl hn rfl (fun la' hl' => hK _ _ _ _ _ h H locs cells slots la' (xm_has_sto hl') hW hin hS h1 h2)
    · exact lv_astore_n C.1.1 C.1.2.1 hd hi hl hn rfl (fun la' hl' => hK _ _ _ _ _ h H locs cells slots la' (xm_has_sto hl') hW hin hS h1 h2)
  · exact h.elim
theorem xs_astore (C : xm_C p s mm args c cc nL own Ts D cl ats A) {i : Nat} (hd : decode cc pc = .ok (.astore i, 2)) (hn : i < nL) (hK : xm_le K (xm_A p l e R s mm args below meth c nL D cl A Q (pc + 2))) : xm_le (xo_astore i K) (xm_A p l e R s mm args below meth c nL D cl A Q pc) := by
  intro ls st m bc bs h H locs cells slots la hl hW hin hS h1 h2
  simp only [xo_astore] at h
  split at h
  · obtain ⟨hr, h⟩ := h
    rcases hr with rfl | ⟨a, rfl⟩
    · exact lv_astoreN C.1.1 C.1.2.1 hd hl hn rfl (fun la' hl' => hK _ _ _ _ _ h H locs cells slots la' (xm_has_sto hl') hW hin hS h1 h2)
    · exact lv_astore C.1.1 C.1.2.1 hd hl hn rfl (fun la' hl' => hK _ _ _ _ _ h H locs cells slots la' (xm_has_sto hl') hW hin hS h1 h2)
  · exact h.elim
theorem xs_iinc (C : xm_C p s mm args c cc nL own Ts D cl ats A) {i : Nat} {n : Int} {v : Int32} (hd : decode cc pc = .ok (.iinc i n, 3)) (hv : Int32.ofInt n = v) (hn : i < nL) (hK : xm_le K (xm_A p l e R s mm args below meth c nL D cl A Q (pc + 3))) : xm_le (xo_iinc i v K) (xm_A p l e R s mm args below meth c nL D cl A Q pc) := by
  intro ls st m bc bs h H locs cells slots la hl hW hin hS h1 h2
  simp only [xo_iinc] at h
  split at h
  · rename_i x hx
    subst hv
    obtain ⟨k, hk⟩ := List.getElem?_of_mem (xm_lk_mem hx)
    exact lv_iinc C.1.1 C.1.2.1 hd hl hk rfl hn rfl (fun la' hl' => hK _ _ _ _ _ h H locs cells slots la' (xm_has_sto hl') hW hin hS h1 h2)
  · exact h.elim
theorem xs_iadd (C : xm_C p s mm args c cc nL own Ts D cl ats A) (hd : decode cc pc = .ok (.iadd, 1)) (hK : xm_le K (xm_A p l e R s mm args below meth c nL D cl A Q (pc + 1))) : xm_le (xo_ibin (fun x y => x + y) K) (xm_A p l e R s mm args below meth c nL D cl A Q pc) := by
  intro ls st m bc bs h H locs cells slots la hl hW hin hS h1 h2
  simp only [xo_ibin] at h
  split at h
  · exact lv_iadd C.1.1 C.1.2.1 hd (hK _ _ _ _ _ h H locs cells slots la hl hW hin hS h1 h2)
  · exact h.elim
theorem xs_isub (C : xm_C p s mm args c cc nL own Ts D cl ats A) (hd : decode cc pc = .ok (.isub, 1)) (hK : xm_le K (xm_A p l e R s mm args below meth c nL D cl A Q (pc + 1))) : xm_le (xo_ibin (fun x y => x - y) K) (xm_A p l e R s mm args below meth c nL D cl A Q pc) := by
  intro ls st m bc bs h H locs cells slots la hl hW hin hS h1 h2
  simp only [xo_ibin] at h
  split at h
  · exact lv_isub C.1.1 C.1.2.1 hd (hK _ _ _ _ _ h H locs cells slots la hl hW hin hS h1 h2)
  · exact h.elim
theorem xs_imul (C : xm_C p s mm args c cc nL own Ts D cl ats A) (hd : decode cc pc = .ok (.imul, 1)) (hK : xm_le K (xm_A p l e R s mm args below meth c nL D cl A Q (pc + 1))) : xm_le (xo_ibin (fun x y => x * y) K) (xm_A p l e R s mm args below meth c nL D cl A Q pc) := by
  intro ls st m bc bs h H locs cells slots la hl hW hin hS h1 h2
  simp only [xo_ibin] at h
  split at h
  · exact lv_imul C.1.1 C.1.2.1 hd (hK _ _ _ _ _ h H locs cells slots la hl hW hin hS h1 h2)
  · exact h.elim
theorem xs_iand (C : xm_C p s mm args c cc nL own Ts D cl ats A) (hd : decode cc pc = .ok (.iand, 1)) (hK : xm_le K (xm_A p l e R s mm args below meth c nL D cl A Q (pc + 1))) : xm_le (xo_ibin (fun x y => x &&& y) K) (xm_A p l e R s mm args below meth c nL D cl A Q pc) := by
  intro ls st m bc bs h H locs cells slots la hl hW hin hS h1 h2
  simp only [xo_ibin] at h
  split at h
  · exact lv_iand C.1.1 C.1.2.1 hd (hK _ _ _ _ _ h H locs cells slots la hl hW hin hS h1 h2)
  · exact h.elim
theorem xs_ior (C : xm_C p s mm args c cc nL own Ts D cl ats A) (hd : decode cc pc = .ok (.ior, 1)) (hK : xm_le K (xm_A p l e R s mm args below meth c nL D cl A Q (pc + 1))) : xm_le (xo_ibin (fun x y => x ||| y) K) (xm_A p l e R s mm args below meth c nL D cl A Q pc) := by
  intro ls st m bc bs h H locs cells slots la hl hW hin hS h1 h2
  simp only [xo_ibin] at h
  split at h
  · exact lv_ior C.1.1 C.1.2.1 hd (hK _ _ _ _ _ h H locs cells slots la hl hW hin hS h1 h2)
  · exact h.elim
theorem xs_ixor (C : xm_C p s mm args c cc nL own Ts D cl ats A) (hd : decode cc pc = .ok (.ixor, 1)) (hK : xm_le K (xm_A p l e R s mm args below meth c nL D cl A Q (pc + 1))) : xm_le (xo_ibin (fun x y => x ^^^ y) K) (xm_A p l e R s mm args below meth c nL D cl A Q pc) := by
  intro ls st m bc bs h H locs cells slots la hl hW hin hS h1 h2
  simp only [xo_ibin] at h
  split at h
  · exact lv_ixor C.1.1 C.1.2.1 hd (hK _ _ _ _ _ h H locs cells slots la hl hW hin hS h1 h2)
  · exact h.elim
theorem xs_ishl (C : xm_C p s mm args c cc nL own Ts D cl ats A) (hd : decode cc pc = .ok (.ishl, 1)) (hK : xm_le K (xm_A p l e R s mm args below meth c nL D cl A Q (pc + 1))) : xm_le (xo_ibin (fun x y => x <<< (y &&& 31)) K) (xm_A p l e R s mm args below meth c nL D cl A Q pc) := by
  intro ls st m bc bs h H locs cells slots la hl hW hin hS h1 h2
  simp only [xo_ibin] at h
  split at h
  · exact lv_ishl C.1.1 C.1.2.1 hd (hK _ _ _ _ _ h H locs cells slots la hl hW hin hS h1 h2)
  · exact h.elim
theorem xs_ishr (C : xm_C p s mm args c cc nL own Ts D cl ats A) (hd : decode cc pc = .ok (.ishr, 1)) (hK : xm_le K (xm_A p l e R s mm args below meth c nL D cl A Q (pc + 1))) : xm_le (xo_ibin (fun x y => x >>> (y &&& 31)) K) (xm_A p l e R s mm args below meth c nL D cl A Q pc) := by
  intro ls st m bc bs h H locs cells slots la hl hW hin hS h1 h2
  simp only [xo_ibin] at h
  split at h
  · exact lv_ishr C.1.1 C.1.2.1 hd (hK _ _ _ _ _ h H locs cells slots la hl hW hin hS h1 h2)
  · exact h.elim
theorem xs_iushr (C : xm_C p s mm args c cc nL own Ts D cl ats A) (hd : decode cc pc = .ok (.iushr, 1)) (hK : xm_le K (xm_A p l e R s mm args below meth c nL D cl A Q (pc + 1))) : xm_le (xo_ibin (fun x y => (x.toUInt32 >>> (y.toUInt32 &&& Int32.toUInt32 31)).toInt32) K) (xm_A p l e R s mm args below meth c nL D cl A Q pc) := by
  intro ls st m bc bs h H locs cells slots la hl hW hin hS h1 h2
  simp only [xo_ibin] at h
  split at h
  · exact lv_iushr C.1.1 C.1.2.1 hd rfl (hK _ _ _ _ _ h H locs cells slots la hl hW hin hS h1 h2)
  · exact h.elim
theorem xs_ineg (C : xm_C p s mm args c cc nL own Ts D cl ats A) (hd : decode cc pc = .ok (.ineg, 1)) (hK : xm_le K (xm_A p l e R s mm args below meth c nL D cl A Q (pc + 1))) : xm_le (xo_iun (fun x => -x) K) (xm_A p l e R s mm args below meth c nL D cl A Q pc) := by
  intro ls st m bc bs h H locs cells slots la hl hW hin hS h1 h2
  simp only [xo_iun] at h
  split at h
  · exact lv_ineg C.1.1 C.1.2.1 hd (hK _ _ _ _ _ h H locs cells slots la hl hW hin hS h1 h2)
  · exact h.elim
theorem xs_i2l (C : xm_C p s mm args c cc nL own Ts D cl ats A) (hd : decode cc pc = .ok (.i2l, 1)) (hK : xm_le K (xm_A p l e R s mm args below meth c nL D cl A Q (pc + 1))) : xm_le (xo_i2l K) (xm_A p l e R s mm args below meth c nL D cl A Q pc) := by
  intro ls st m bc bs h H locs cells slots la hl hW hin hS h1 h2
  simp only [xo_i2l] at h
  split at h
  · exact lv_i2l C.1.1 C.1.2.1 hd rfl (hK _ _ _ _ _ h H locs cells slots la hl hW hin hS h1 h2)
  · exact h.elim
theorem xs_l2i (C : xm_C p s mm args c cc nL own Ts D cl ats A) (hd : decode cc pc = .ok (.l2i, 1)) (hK : xm_le K (xm_A p l e R s mm args below meth c nL D cl A Q (pc + 1))) : xm_le (xo_l2i K) (xm_A p l e R s mm args below meth c nL D cl A Q pc) := by
  intro ls st m bc bs h H locs cells slots la hl hW hin hS h1 h2
  simp only [xo_l2i] at h
  split at h
  · exact lv_l2i C.1.1 C.1.2.1 hd rfl (hK _ _ _ _ _ h H locs cells slots la hl hW hin hS h1 h2)
  · exact h.elim
theorem xs_lcmp (C : xm_C p s mm args c cc nL own Ts D cl ats A) (hd : decode cc pc = .ok (.lcmp, 1)) (hK : xm_le K (xm_A p l e R s mm args below meth c nL D cl A Q (pc + 1))) : xm_le (xo_lcmp K) (xm_A p l e R s mm args below meth c nL D cl A Q pc) := by
  intro ls st m bc bs h H locs cells slots la hl hW hin hS h1 h2
  simp only [xo_lcmp] at h
  split at h
  · exact W.lcmp C.1.1 C.1.2.1 hd (hK _ _ _ _ _ h H locs cells slots la hl hW hin hS h1 h2)
  · exact h.elim
theorem xs_dup (C : xm_C p s mm args c cc nL own Ts D cl ats A) (hd : decode cc pc = .ok (.dup, 1)) (hK : xm_le K (xm_A p l e R s mm args below meth c nL D cl A Q (pc + 1))) : xm_le (xo_dup K) (xm_A p l e R s mm args below meth c nL D cl A Q pc) := by
  intro ls st m bc bs h H locs cells slots la hl hW hin hS h1 h2
  simp only [xo_dup] at h
  split at h
  · obtain ⟨hv, h⟩ := h
    exact lv_dup C.1.1 C.1.2.1 hd hv (hK _ _ _ _ _ h H locs cells slots la hl hW hin hS h1 h2)
  · exact h.elim
theorem xs_pop (C : xm_C p s mm args c cc nL own Ts D cl ats A) (hd : decode cc pc = .ok (.pop, 1)) (hK : xm_le K (xm_A p l e R s mm args below meth c nL D cl A Q (pc + 1))) : xm_le (xo_pop K) (xm_A p l e R s mm args below meth c nL D cl A Q pc) := by
  intro ls st m bc bs h H locs cells slots la hl hW hin hS h1 h2
  simp only [xo_pop] at h
  split at h
  · obtain ⟨hv, h⟩ := h
    exact lv_pop C.1.1 C.1.2.1 hd hv (hK _ _ _ _ _ h H locs cells slots la hl hW hin hS h1 h2)
  · exact h.elim
theorem xs_dup_x1 (C : xm_C p s mm args c cc nL own Ts D cl ats A) (hd : decode cc pc = .ok (.dup_x1, 1)) (hK : xm_le K (xm_A p l e R s mm args below meth c nL D cl A Q (pc + 1))) : xm_le (xo_dup_x1 K) (xm_A p l e R s mm args below meth c nL D cl A Q pc) := by
  intro ls st m bc bs h H locs cells slots la hl hW hin hS h1 h2
  simp only [xo_dup_x1] at h
  split at h
  · obtain ⟨hv, hw, h⟩ := h
    exact lv_dup_x1 C.1.1 C.1.2.1 hd hv hw (hK _ _ _ _ _ h H locs cells slots la hl hW hin hS h1 h2)
  · exact h.elim
theorem xs_dup2 (C : xm_C p s mm args c cc nL own Ts D cl ats A) (hd : decode cc pc = .ok (.dup2, 1)) (hK : xm_le K (xm_A p l e R s mm args below meth c nL D cl A Q (pc + 1))) : xm_le (xo_dup2 K) (xm_A p l e R s mm args below meth c nL D cl A Q pc) := by
  intro ls st m bc bs h H locs cells slots la hl hW hin hS h1 h2
  simp only [xo_dup2] at h
  split at h
  · obtain ⟨hv, hw, h⟩ := h
    exact lv_dup2_11 C.1.1 C.1.2.1 hd hv hw (hK _ _ _ _ _ h H locs cells slots la hl hW hin hS h1 h2)
  · exact h.elim
theorem xs_if_eq (C : xm_C p s mm args c cc nL own Ts D cl ats A) {off : Int} {tgt : Nat} (hd : decode cc pc = .ok (.ifCond .eq off, 3)) (ht : (pc : Int) + off = (tgt : Int)) (hT : xm_le Kt (xm_A p l e R s mm args below meth c nL D cl A Q tgt)) (hF : xm_le Kf (xm_A p l e R s mm args below meth c nL D cl A Q (pc + 3))) : xm_le (xo_if (fun x => x = 0) Kt Kf) (xm_A p l e R s mm args below meth c nL D cl A Q pc) := by
  intro ls st m bc bs h H locs cells slots la hl hW hin hS h1 h2
  simp only [xo_if] at h
  split at h
  · exact lv_if_eq C.1.1 C.1.2.1 hd ht (fun q => hT _ _ _ _ _ (h.1 q) H locs cells slots la hl hW hin hS h1 h2) (fun q => hF _ _ _ _ _ (h.2 q) H locs cells slots la hl hW hin hS h1 h2)
  · exact h.elim
theorem xs_if_lt (C : xm_C p s mm args c cc nL own Ts D cl ats A) {off : Int} {tgt : Nat} (hd : decode cc pc = .ok (.ifCond .lt off, 3)) (ht : (pc : Int) + off = (tgt : Int)) (hT : xm_le Kt (xm_A p l e R s mm args below meth c nL D cl A Q tgt)) (hF : xm_le Kf (xm_A p l e R s mm args below meth c nL D cl A Q (pc + 3))) : xm_le (xo_if (fun x => x < 0) Kt Kf) (xm_A p l e R s mm args below meth c nL D cl A Q pc) := by
  intro ls st m bc bs h H locs cells slots la hl hW hin hS h1 h2
  simp only [xo_if] at h
  split at h
  · exact lv_if_lt C.1.1 C.1.2.1 hd ht (fun q => hT _ _ _ _ _ (h.1 q) H locs cells slots la hl hW hin hS h1 h2) (fun q => hF _ _ _ _ _ (h.2 q) H locs cells slots la hl hW hin hS h1 h2)
  · exact h.elim
theorem xs_if_ge (C : xm_C p s mm args c cc nL own Ts D cl ats A) {off : Int} {tgt : Nat} (hd : decode cc pc = .ok (.ifCond .ge off, 3)) (ht : (pc : Int) + off = (tgt : Int)) (hT : xm_le Kt (xm_A p l e R s mm args below meth c nL D cl A Q tgt)) (hF : xm_le Kf (xm_A p l e R s mm args below meth c nL D cl A Q (pc + 3))) : xm_le (xo_if (fun x => 0 ≤ x) Kt Kf) (xm_A p l e R s mm args below meth c nL D cl A Q pc) := by
  intro ls st m bc bs h H locs cells slots la hl hW hin hS h1 h2
  simp only [xo_if] at h
  split at h
  · exact lv_if_ge C.1.1 C.1.2.1 hd ht (fun q => hT _ _ _ _ _ (h.1 q) H locs cells slots la hl hW hin hS h1 h2) (fun q => hF _ _ _ _ _ (h.2 q) H locs cells slots la hl hW hin hS h1 h2)
  · exact h.elim
theorem xs_if_gt (C : xm_C p s mm args c cc nL own Ts D cl ats A) {off : Int} {tgt : Nat} (hd : decode cc pc = .ok (.ifCond .gt off, 3)) (ht : (pc : Int) + off = (tgt : Int)) (hT : xm_le Kt (xm_A p l e R s mm args below meth c nL D cl A Q tgt)) (hF : xm_le Kf (xm_A p l e R s mm args below meth c nL D cl A Q (pc + 3))) : xm_le (xo_if (fun x => 0 < x) Kt Kf) (xm_A p l e R s mm args below meth c nL D cl A Q pc) := by
  intro ls st m bc bs h H locs cells slots la hl hW hin hS h1 h2
  simp only [xo_if] at h
  split at h
  · exact lv_if_gt C.1.1 C.1.2.1 hd ht (fun q => hT _ _ _ _ _ (h.1 q) H locs cells slots la hl hW hin hS h1 h2) (fun q => hF _ _ _ _ _ (h.2 q) H locs cells slots la hl hW hin hS h1 h2)
  · exact h.elim
theorem xs_if_le (C : xm_C p s mm args c cc nL own Ts D cl ats A) {off : Int} {tgt : Nat} (hd : decode cc pc = .ok (.ifCond .le off, 3)) (ht : (pc : Int) + off = (tgt : Int)) (hT : xm_le Kt (xm_A p l e R s mm args below meth c nL D cl A Q tgt)) (hF : xm_le Kf (xm_A p l e R s mm args below meth c nL D cl A Q (pc + 3))) : xm_le (xo_if (fun x => x ≤ 0) Kt Kf) (xm_A p l e R s mm args below meth c nL D cl A Q pc) := by
  intro ls st m bc bs h H locs cells slots la hl hW hin hS h1 h2
  simp only [xo_if] at h
  split at h
  · exact lv_if_le C.1.1 C.1.2.1 hd ht (fun q => hT _ _ _ _ _ (h.1 q) H locs cells slots la hl hW hin hS h1 h2) (fun q => hF _ _ _ _ _ (h.2 q) H locs cells slots la hl hW hin hS h1 h2)
  · exact h.elim
theorem xs_icmp_eq (C : xm_C p s mm args c cc nL own Ts D cl ats A) {off : Int} {tgt : Nat} (hd : decode cc pc = .ok (.if_icmp .eq off, 3)) (ht : (pc : Int) + off = (tgt : Int)) (hT : xm_le Kt (xm_A p l e R s mm args below meth c nL D cl A Q tgt)) (hF : xm_le Kf (xm_A p l e R s mm args below meth c nL D cl A Q (pc + 3))) : xm_le (xo_icmp (fun x y => x = y) Kt Kf) (xm_A p l e R s mm args below meth c nL D cl A Q pc) := by
  intro ls st m bc bs h H locs cells slots la hl hW hin hS h1 h2
  simp only [xo_icmp] at h
  split at h
  · exact lv_icmp_eq C.1.1 C.1.2.1 hd ht (fun q => hT _ _ _ _ _ (h.1 q) H locs cells slots la hl hW hin hS h1 h2) (fun q => hF _ _ _ _ _ (h.2 q) H locs cells slots la hl hW hin hS h1 h2)
  · exact h.elim
theorem xs_icmp_lt (C : xm_C p s mm args c cc nL own Ts D cl ats A) {off : Int} {tgt : Nat} (hd : decode cc pc = .ok (.if_icmp .lt off, 3)) (ht : (pc : Int) + off = (tgt : Int)) (hT : xm_le Kt (xm_A p l e R s mm args below meth c nL D cl A Q tgt)) (hF : xm_le Kf (xm_A p l e R s mm args below meth c nL D cl A Q (pc + 3))) : xm_le (xo_icmp (fun x y => x < y) Kt Kf) (xm_A p l e R s mm args below meth c nL D cl A Q pc) := by
  intro ls st m bc bs h H locs cells slots la hl hW hin hS h1 h2
  simp only [xo_icmp] at h
  split at h
  · exact lv_icmp_lt C.1.1 C.1.2.1 hd ht (fun q => hT _ _ _ _ _ (h.1 q) H locs cells slots la hl hW hin hS h1 h2) (fun q => hF _ _ _ _ _ (h.2 q) H locs cells slots la hl hW hin hS h1 h2)
  · exact h.elim
theorem xs_icmp_ge (C : xm_C p s mm args c cc nL own Ts D cl ats A) {off : Int} {tgt : Nat} (hd : decode cc pc = .ok (.if_icmp .ge off, 3)) (ht : (pc : Int) + off = (tgt : Int)) (hT : xm_le Kt (xm_A p l e R s mm args below meth c nL D cl A Q tgt)) (hF : xm_le Kf (xm_A p l e R s mm args below meth c nL D cl A Q (pc + 3))) : xm_le (xo_icmp (fun x y => y ≤ x) Kt Kf) (xm_A p l e R s mm args below meth c nL D cl A Q pc) := by
  intro ls st m bc bs h H locs cells slots la hl hW hin hS h1 h2
  simp only [xo_icmp] at h
  split at h
  · exact lv_icmp_ge C.1.1 C.1.2.1 hd ht (fun q => hT _ _ _ _ _ (h.1 q) H locs cells slots la hl hW hin hS h1 h2) (fun q => hF _ _ _ _ _ (h.2 q) H locs cells slots la hl hW hin hS h1 h2)
  · exact h.elim
theorem xs_icmp_gt (C : xm_C p s mm args c cc nL own Ts D cl ats A) {off : Int} {tgt : Nat} (hd : decode cc pc = .ok (.if_icmp .gt off, 3)) (ht : (pc : Int) + off = (tgt : Int)) (hT : xm_le Kt (xm_A p l e R s mm args below meth c nL D cl A Q tgt)) (hF : xm_le Kf (xm_A p l e R s mm args below meth c nL D cl A Q (pc + 3))) : xm_le (xo_icmp (fun x y => y < x) Kt Kf) (xm_A p l e R s mm args below meth c nL D cl A Q pc) := by
  intro ls st m bc bs h H locs cells slots la hl hW hin hS h1 h2
  simp only [xo_icmp] at h
  split at h
  · exact lv_icmp_gt C.1.1 C.1.2.1 hd ht (fun q => hT _ _ _ _ _ (h.1 q) H locs cells slots la hl hW hin hS h1 h2) (fun q => hF _ _ _ _ _ (h.2 q) H locs cells slots la hl hW hin hS h1 h2)
  · exact h.elim
theorem xs_icmp_le (C : xm_C p s mm args c cc nL own Ts D cl ats A) {off : Int} {tgt : Nat} (hd : decode cc pc = .ok (.if_icmp .le off, 3)) (ht : (pc : Int) + off = (tgt : Int)) (hT : xm_le Kt (xm_A p l e R s mm args below meth c nL D cl A Q tgt)) (hF : xm_le Kf (xm_A p l e R s mm args below meth c nL D cl A Q (pc + 3))) : xm_le (xo_icmp (fun x y => x ≤ y) Kt Kf) (xm_A p l e R s mm args below meth c nL D cl A Q pc) := by
  intro ls st m bc bs h H locs cells slots la hl hW hin hS h1 h2
  simp only [xo_icmp] at h
  split at h
  · exact lv_icmp_le C.1.1 C.1.2.1 hd ht (fun q => hT _ _ _ _ _ (h.1 q) H locs cells slots la hl hW hin hS h1 h2) (fun q => hF _ _ _ _ _ (h.2 q) H locs cells slots la hl hW hin hS h1 h2)
  · exact h.elim
theorem xs_if_ne (C : xm_C p s mm args c cc nL own Ts D cl ats A) {off : Int} {tgt : Nat} (hd : decode cc pc = .ok (.ifCond .ne off, 3)) (ht : (pc : Int) + off = (tgt : Int)) (hT : xm_le Kt (xm_A p l e R s mm args below meth c nL D cl A Q (pc + 3))) (hF : xm_le Kf (xm_A p l e R s mm args below meth c nL D cl A Q tgt)) : xm_le (xo_if (fun x => x = 0) Kt Kf) (xm_A p l e R s mm args below meth c nL D cl A Q pc) := by
  intro ls st m bc bs h H locs cells slots la hl hW hin hS h1 h2
  simp only [xo_if] at h
  split at h
  · exact lv_if_ne C.1.1 C.1.2.1 hd ht (fun q => hF _ _ _ _ _ (h.2 q) H locs cells slots la hl hW hin hS h1 h2) (fun q => hT _ _ _ _ _ (h.1 q) H locs cells slots la hl hW hin hS h1 h2)
  · exact h.elim
theorem xs_icmp_ne (C : xm_C p s mm args c cc nL own Ts D cl ats A) {off : Int} {tgt : Nat} (hd : decode cc pc = .ok (.if_icmp .ne off, 3)) (ht : (pc : Int) + off = (tgt : Int)) (hT : xm_le Kt (xm_A p l e R s mm args below meth c nL D cl A Q (pc + 3))) (hF : xm_le Kf (xm_A p l e R s mm args below meth c nL D cl A Q tgt)) : xm_le (xo_icmp (fun x y => x = y) Kt Kf) (xm_A p l e R s mm args below meth c nL D cl A Q pc) := by
  intro ls st m bc bs h H locs cells slots la hl hW hin hS h1 h2
  simp only [xo_icmp] at h
  split at h
  · exact lv_icmp_ne C.1.1 C.1.2.1 hd ht (fun q => hF _ _ _ _ _ (h.2 q) H locs cells slots la hl hW hin hS h1 h2) (fun q => hT _ _ _ _ _ (h.1 q) H locs cells slots la hl hW hin hS h1 h2)
  · exact h.elim
theorem xs_ifnull (C : xm_C p s mm args c cc nL own Ts D cl ats A) {off : Int} {tgt : Nat} (hd : decode cc pc = .ok (.ifnull off, 3)) (ht : (pc : Int) + off = (tgt : Int)) (hT : xm_le Kt (xm_A p l e R s mm args below meth c nL D cl A Q tgt)) (hF : xm_le Kf (xm_A p l e R s mm args below meth c nL D cl A Q (pc + 3))) : xm_le (xo_null Kt Kf) (xm_A p l e R s mm args below meth c nL D cl A Q pc) := by
  intro ls st m bc bs h H locs cells slots la hl hW hin hS h1 h2
  simp only [xo_null] at h
  split at h
  · obtain ⟨hr, h⟩ := h
    rcases hr with rfl | ⟨a, rfl⟩
    · exact lv_ifnullN C.1.1 C.1.2.1 hd ht (hT _ _ _ _ _ (h.1 rfl) H locs cells slots la hl hW hin hS h1 h2)
    · exact lv_ifnull C.1.1 C.1.2.1 hd (hF _ _ _ _ _ (h.2 (fun z => by cases z)) H locs cells slots la hl hW hin hS h1 h2)
  · exact h.elim
theorem xs_ifnonnull (C : xm_C p s mm args c cc nL own Ts D cl ats A) {off : Int} {tgt : Nat} (hd : decode cc pc = .ok (.ifnonnull off, 3)) (ht : (pc : Int) + off = (tgt : Int)) (hT : xm_le Kt (xm_A p l e R s mm args below meth c nL D cl A Q (pc + 3))) (hF : xm_le Kf (xm_A p l e R s mm args below meth c nL D cl A Q tgt)) : xm_le (xo_null Kt Kf) (xm_A p l e R s mm args below meth c nL D cl A Q pc) := by
  intro ls st m bc bs h H locs cells slots la hl hW hin hS h1 h2
  simp only [xo_null] at h
  split at h
  · obtain ⟨hr, h⟩ := h
    rcases hr with rfl | ⟨a, rfl⟩
    · exact lv_ifnonnullN C.1.1 C.1.2.1 hd (hT _ _ _ _ _ (h.1 rfl) H locs cells slots la hl hW hin hS h1 h2)
    · exact lv_ifnonnull C.1.1 C.1.2.1 hd ht (hF _ _ _ _ _ (h.2 (fun z => by cases z)) H locs cells slots la hl hW hin hS h1 h2)
  · exact h.elim
theorem xs_goto (C : xm_C p s mm args c cc nL own Ts D cl ats A) {off : Int} {tgt : Nat} (hd : decode cc pc = .ok (.goto off, 3)) (ht : (pc : Int) + off = (tgt : Int)) (hK : xm_le K (xm_A p l e R s mm args below meth c nL D cl A Q tgt)) : xm_le K (xm_A p l e R s mm args below meth c nL D cl A Q pc) := by
  intro ls st m bc bs h H locs cells slots la hl hW hin hS h1 h2
  exact lv_goto C.1.1 C.1.2.1 hd ht (hK _ _ _ _ _ h H locs cells slots la hl hW hin hS h1 h2)
theorem xs_jmp {ks : List Nat} (hK : xm_le K (xm_A p l e R s mm args below meth c nL D cl A Q pc)) : xm_le (xo_jmp ks K) (xm_A p l e R s mm args below meth c nL D cl A Q pc) := by
  intro ls st m bc bs h H locs cells slots la hl hW hin hS h1 h2
  exact hK _ _ _ _ _ h H locs cells slots la (xm_has_sub hl (fun q hq => xm_keep_mem hq)) hW hin hS h1 h2
theorem xs_get (C : xm_C p s mm args c cc nL own Ts D cl ats A) {ref CN : String} {T : u_T} {N ci index k : Nat} (hd : decode cc pc = .ok (.getfield index, 3)) (hin0 : ∀ w ∈ u_ws CN T N, w ∈ Ts) (hc : cl[ci]? = some (CN, T, N)) (hk : k < N) (hlink : Cond.fieldLink own index ref (T k).2.1 (T k).2.2.1 ∈ Ts) (href : (T k).1 = ref) (hK : xm_le K (xm_A p l e R s mm args below meth c nL D cl A Q (pc + 3))) : xm_le (xo_get ci k K) (xm_A p l e R s mm args below meth c nL D cl A Q pc) := by
  intro ls st m bc bs h H locs cells slots la hl hW hin hS h1 h2
  subst href
  simp only [xo_get] at h
  split at h
  · split at h
    · rename_i a r c0 fs hm
      obtain ⟨rfl, h⟩ := h
      split at h
      · rename_i v hv
        exact va_get C.1.1 C.1.2.1 C.1.2.2.2.2 hin0 C.1.2.2.2.1 C.2.1 (hW.one hm) 0 rfl hc k hk (C.1.2.2.2.2 _ hlink) (fun _ h9 => h9) hv hd (hK _ _ _ _ _ h H locs cells slots la hl hW hin hS h1 h2)
      · exact h.elim
    · exact h.elim
  · exact h.elim
theorem xs_getN (C : xm_C p s mm args c cc nL own Ts D cl ats A) {ref CN : String} {T : u_T} {N ci index k : Nat} {host : String} (hd : decode cc pc = .ok (.getfield index, 3)) (hin0 : ∀ w ∈ u_ws CN T N, w ∈ Ts) (hc : cl[ci]? = some (CN, T, N)) (hk : k < N) (hlink : Cond.fieldLinkNest own index ref (T k).2.1 (T k).2.2.1 host ∈ Ts) (href : (T k).1 = ref) (hK : xm_le K (xm_A p l e R s mm args below meth c nL D cl A Q (pc + 3))) : xm_le (xo_get ci k K) (xm_A p l e R s mm args below meth c nL D cl A Q pc) := by
  intro ls st m bc bs h H locs cells slots la hl hW hin hS h1 h2
  subst href
  simp only [xo_get] at h
  split at h
  · split at h
    · rename_i a r c0 fs hm
      obtain ⟨rfl, h⟩ := h
      split at h
      · rename_i v hv
        exact va_getN C.1.1 C.1.2.1 C.1.2.2.2.2 hin0 C.1.2.2.2.1 C.2.1 (hW.one hm) 0 rfl hc k hk (C.1.2.2.2.2 _ hlink) (fun _ h9 => h9) hv hd (hK _ _ _ _ _ h H locs cells slots la hl hW hin hS h1 h2)
      · exact h.elim
    · exact h.elim
  · exact h.elim
theorem xs_put (C : xm_C p s mm args c cc nL own Ts D cl ats A) {ref CN : String} {T : u_T} {N ci index k : Nat} {ty : FieldType} (hd : decode cc pc = .ok (.putfield index, 3)) (hin0 : ∀ w ∈ u_ws CN T N, w ∈ Ts) (ty0 : Nat → FieldType) (hty : ∀ k, k < N → parseFieldDescriptor (T k).2.2.1 = some (ty0 k)) (hnm : ∀ a, a < N → ∀ b, b < N → a ≠ b → (T a).2.1 ≠ (T b).2.1) (hc : cl[ci]? = some (CN, T, N)) (hk : k < N) (hlink : Cond.fieldLink own index ref (T k).2.1 (T k).2.2.1 ∈ Ts) (href : (T k).1 = ref) (hfin : (T k).2.2.2 = false) (hd0 : parseFieldDescriptor (T k).2.2.1 = some ty) (hK : xm_le K (xm_A p l e R s mm args below meth c nL D cl A Q (pc + 3))) : xm_le (xo_put ci k ty K) (xm_A p l e R s mm args below meth c nL D cl A Q pc) := by
  intro ls st m bc bs h H locs cells slots la hl hW hin hS h1 h2
  subst href
  simp only [xo_put] at h
  split at h
  · rename_i v a r
    obtain ⟨hn, hfit, h⟩ := h
    split at h
    · rename_i c0 fs hm
      obtain ⟨rfl, hlen, h⟩ := h
      have hap := va_apart (own := own) C.1.2.2.2.2 hin0 ty0 hty hnm C.2.1 hc
      obtain ⟨r0, g1, cell, q1, q2, q3, q4⟩ := hW a _ hm
      have hr0 : r0 = (CN, T, N) := Option.some.inj (g1.symm.trans hc)
      subst hr0
      obtain ⟨hSl, hfc, kC, hkC, hkind⟩ := C.2.1.1 _ _ hc
      obtain ⟨cf, kf, fi, f, hi, hsl⟩ := hSl k hk
      have hlay := C.1.2.2.2.2 _ (hin0 _ (u_in_lay hk))
      unfold u_lay at hlay
      rw [if_neg (by rw [hfin]; decide)] at hlay
      have hst := (u_facts hfc hkC (u_lays C.1.2.2.2.2 hin0 hk) hi).1
      have h6 := u_store hfc hkC hkind hlay hi hd0 hn hfit
      refine W.putK C.1.1 C.1.2.1 (f := f) ⟨C.1.2.2.2.1, C.1.2.2.2.2 _ hlink, ⟨_, _, _, hi⟩, hst⟩ (by rw [q2]; exact h6) q1 q3 (by rw [hsl]; exact k2_hasslot (q4 k hk)) rfl rfl hd fun H' e1 e2 e3 => ?_
      rw [hsl] at e1 ⊢
      have ha : A a := hin a (by rw [hm]; exact fun z => by cases z)
      refine hK _ _ _ _ _ h H' _ cells slots la hl (hW.up ⟨_, hc, t_OB.to (V := updV (vp_V fs) k v) ⟨_, e1, q2, q3, t_set q4 hap hk v⟩ (fun j _ => vp_updV_set hlen v j)⟩ e3) (xm_in_up hin _ ha) (hS.put e2 e3 ha) h1 h2
    · exact h.elim
  · exact h.elim
theorem xs_putN (C : xm_C p s mm args c cc nL own Ts D cl ats A) {ref CN : String} {T : u_T} {N ci index k : Nat} {host : String} {ty : FieldType} (hd : decode cc pc = .ok (.putfield index, 3)) (hin0 : ∀ w ∈ u_ws CN T N, w ∈ Ts) (ty0 : Nat → FieldType) (hty : ∀ k, k < N → parseFieldDescriptor (T k).2.2.1 = some (ty0 k)) (hnm : ∀ a, a < N → ∀ b, b < N → a ≠ b → (T a).2.1 ≠ (T b).2.1) (hc : cl[ci]? = some (CN, T, N)) (hk : k < N) (hlink : Cond.fieldLinkNest own index ref (T k).2.1 (T k).2.2.1 host ∈ Ts) (href : (T k).1 = ref) (hfin : (T k).2.2.2 = false) (hd0 : parseFieldDescriptor (T k).2.2.1 = some ty) (hK : xm_le K (xm_A p l e R s mm args below meth c nL D cl A Q (pc + 3))) : xm_le (xo_put ci k ty K) (xm_A p l e R s mm args below meth c nL D cl A Q pc) := by
  intro ls st m bc bs h H locs cells slots la hl hW hin hS h1 h2
  subst href
  simp only [xo_put] at h
  split at h
  · rename_i v a r
    obtain ⟨hn, hfit, h⟩ := h
    split at h
    · rename_i c0 fs hm
      obtain ⟨rfl, hlen, h⟩ := h
      have hap := va_apart (own := own) C.1.2.2.2.2 hin0 ty0 hty hnm C.2.1 hc
      obtain ⟨r0, g1, cell, q1, q2, q3, q4⟩ := hW a _ hm
      have hr0 : r0 = (CN, T, N) := Option.some.inj (g1.symm.trans hc)
      subst hr0
      obtain ⟨hSl, hfc, kC, hkC, hkind⟩ := C.2.1.1 _ _ hc
      obtain ⟨cf, kf, fi, f, hi, hsl⟩ := hSl k hk
      have hlay := C.1.2.2.2.2 _ (hin0 _ (u_in_lay hk))
      unfold u_lay at hlay
      rw [if_neg (by rw [hfin]; decide)] at hlay
      have hst := (u_facts hfc hkC (u_lays C.1.2.2.2.2 hin0 hk) hi).1
      have h6 := u_store hfc hkC hkind hlay hi hd0 hn hfit
      refine va_WputK C.1.1 C.1.2.1 (f := f) C.1.2.2.2.1 (C.1.2.2.2.2 _ hlink) hi hst (by rw [q2]; exact h6) q1 q3 (by rw [hsl]; exact k2_hasslot (q4 k hk)) rfl rfl hd fun H' e1 e2 e3 => ?_
      rw [hsl] at e1 ⊢
      have ha : A a := hin a (by rw [hm]; exact fun z => by cases z)
      refine hK _ _ _ _ _ h H' _ cells slots la hl (hW.up ⟨_, hc, t_OB.to (V := updV (vp_V fs) k v) ⟨_, e1, q2, q3, t_set q4 hap hk v⟩ (fun j _ => vp_updV_set hlen v j)⟩ e3) (xm_in_up hin _ ha) (hS.put e2 e3 ha) h1 h2
    · exact h.elim
  · exact h.elim
theorem xs_putF (C : xm_C p s mm args c cc nL own Ts D cl ats A) {ref CN : String} {T : u_T} {N ci index k : Nat} {ty : FieldType} (hd : decode cc pc = .ok (.putfield index, 3)) (hin0 : ∀ w ∈ u_ws CN T N, w ∈ Ts) (ty0 : Nat → FieldType) (hty : ∀ k, k < N → parseFieldDescriptor (T k).2.2.1 = some (ty0 k)) (hnm : ∀ a, a < N → ∀ b, b < N → a ≠ b → (T a).2.1 ≠ (T b).2.1) (hc : cl[ci]? = some (CN, T, N)) (hk : k < N) (hlink : Cond.fieldLink own index ref (T k).2.1 (T k).2.2.1 ∈ Ts) (href : (T k).1 = ref) (hfin : (T k).2.2.2 = true) (hin2 : meth.name = "<init>") (hdecl : ref = own) (hd0 : parseFieldDescriptor (T k).2.2.1 = some ty) (hK : xm_le K (xm_A p l e R s mm args below meth c nL D cl A Q (pc + 3))) : xm_le (xo_put ci k ty K) (xm_A p l e R s mm args below meth c nL D cl A Q pc) := by
  intro ls st m bc bs h H locs cells slots la hl hW hin hS h1 h2
  subst href
  simp only [xo_put] at h
  split at h
  · rename_i v a r
    obtain ⟨hn, hfit, h⟩ := h
    split at h
    · rename_i c0 fs hm
      obtain ⟨rfl, hlen, h⟩ := h
      have hap := va_apart (own := own) C.1.2.2.2.2 hin0 ty0 hty hnm C.2.1 hc
      obtain ⟨r0, g1, cell, q1, q2, q3, q4⟩ := hW a _ hm
      have hr0 : r0 = (CN, T, N) := Option.some.inj (g1.symm.trans hc)
      subst hr0
      obtain ⟨hSl, hfc, kC, hkC, hkind⟩ := C.2.1.1 _ _ hc
      obtain ⟨cf, kf, fi, f, hi, hsl⟩ := hSl k hk
      have hlay := C.1.2.2.2.2 _ (hin0 _ (u_in_lay hk))
      unfold u_lay at hlay
      rw [if_pos hfin] at hlay
      have hst := (u_facts hfc hkC (u_lays C.1.2.2.2.2 hin0 hk) hi).1
      have hcf : mm.cls = cf := by
        obtain ⟨_, _, c', _, _, _, -, -, hf', -, -, -, hown2, -⟩ := Cond.laysFinal_spec hlay
        have e1 : c' = cf := by have := hi.symm.trans hf'; simp at this; exact this.1.symm
        rw [hdecl] at hown2
        rw [← e1]; exact Option.some.inj (C.1.2.2.2.1.symm.trans hown2)
      have h6 := u_fits hfc hkC hkind (Or.inr hlay) hi hd0 hn hfit
      refine W.putFinK C.1.1 C.1.2.1 C.1.2.2.2.1 (C.1.2.2.2.2 _ hlink) hi hst hcf hin2 (by rw [q2]; exact h6) q1 q3 (by rw [hsl]; exact k2_hasslot (q4 k hk)) rfl rfl hd fun H' e1 e2 e3 => ?_
      rw [hsl] at e1 ⊢
      have ha : A a := hin a (by rw [hm]; exact fun z => by cases z)
      refine hK _ _ _ _ _ h H' _ cells slots la hl (hW.up ⟨_, hc, t_OB.to (V := updV (vp_V fs) k v) ⟨_, e1, q2, q3, t_set q4 hap hk v⟩ (fun j _ => vp_updV_set hlen v j)⟩ e3) (xm_in_up hin _ ha) (hS.put e2 e3 ha) h1 h2
    · exact h.elim
  · exact h.elim
theorem xs_alen (C : xm_C p s mm args c cc nL own Ts D cl ats A) (hall : ∀ t, t < ats.length ∨ ¬ t < ats.length) (hd : decode cc pc = .ok (.arraylength, 1)) (hK : xm_le K (xm_A p l e R s mm args below meth c nL D cl A Q (pc + 1))) : xm_le (xo_alen ats K) (xm_A p l e R s mm args below meth c nL D cl A Q pc) := by
  intro ls st m bc bs h H locs cells slots la hl hW hin hS h1 h2
  simp only [xo_alen] at h
  split at h
  · split at h
    · rename_i a r t x hm
      obtain ⟨⟨ty, ht⟩, h⟩ := h
      exact va_alen C.1.1 C.1.2.1 C.2.1 (hW.one hm) 0 t rfl (xm_ty_at ht) rfl hd (hK _ _ _ _ _ h H locs cells slots la hl hW hin hS h1 h2)
    · exact h.elim
  · exact h.elim
theorem xs_iald (C : xm_C p s mm args c cc nL own Ts D cl ats A) (hd : decode cc pc = .ok (.iaload, 1)) (hK : xm_le K (xm_A p l e R s mm args below meth c nL D cl A Q (pc + 1))) : xm_le (xo_iald ats K) (xm_A p l e R s mm args below meth c nL D cl A Q pc) := by
  intro ls st m bc bs h H locs cells slots la hl hW hin hS h1 h2
  simp only [xo_iald] at h
  split at h
  · split at h
    · rename_i i a r t n f hm
      obtain ⟨ht, hix, h⟩ := h
      exact va_iald C.1.1 C.1.2.1 C.2.1 (hW.one hm) 0 t rfl (xm_ty_at ht) hix hd (hK _ _ _ _ _ h H locs cells slots la hl hW hin hS h1 h2)
    · exact h.elim
  · exact h.elim
theorem xs_aald (C : xm_C p s mm args c cc nL own Ts D cl ats A) (hd : decode cc pc = .ok (.aaload, 1)) (hK : xm_le K (xm_A p l e R s mm args below meth c nL D cl A Q (pc + 1))) : xm_le (xo_aald ats K) (xm_A p l e R s mm args below meth c nL D cl A Q pc) := by
  intro ls st m bc bs h H locs cells slots la hl hW hin hS h1 h2
  simp only [xo_aald] at h
  split at h
  · split at h
    · rename_i i a r t n f hm
      obtain ⟨⟨CC, ht⟩, hix, h⟩ := h
      exact va_aldq C.1.1 C.1.2.1 C.2.1 (hW.one hm) 0 t rfl (xm_ty_at ht) hix hd (hK _ _ _ _ _ h H locs cells slots la hl hW hin hS h1 h2)
    · exact h.elim
  · exact h.elim
theorem xs_iast (C : xm_C p s mm args c cc nL own Ts D cl ats A) (hd : decode cc pc = .ok (.iastore, 1)) (hK : xm_le K (xm_A p l e R s mm args below meth c nL D cl A Q (pc + 1))) : xm_le (xo_iast ats K) (xm_A p l e R s mm args below meth c nL D cl A Q pc) := by
  intro ls st m bc bs h H locs cells slots la hl hW hin hS h1 h2
  simp only [xo_iast] at h
  split at h
  · split at h
    · rename_i x i a r _ t n f hm
      obtain ⟨ht, hix, h⟩ := h
      have ha : A a := hin a (by rw [hm]; exact fun z => by cases z)
      have hP := hW a _ hm
      refine W.iast C.1.1 C.1.2.1 hP ((C.2.1.2 t _ (xm_ty_at ht)).1 n (fun j => .int (f j))) (fun q => by cases q) (by show ¬ (i < 0 ∨ (arrV _ _ _).slots.size ≤ _); rw [arrV_size]; exact hix) rfl rfl hd fun H1 e z oq => ?_
      refine hK _ _ _ _ _ h H1 _ cells slots la hl (hW.up ?_ oq) (xm_in_up hin _ ha) (hS.put z oq ha) h1 h2
      show H1[a]? = some (vp_cell _ _)
      rw [e]
      rw [vp_cell_i, vp_cell_i, arrV_store]
      congr 2
      funext q
      by_cases hq : q = i.toNatClampNeg
      · subst hq
        simp [updV, upd]
      · simp [updV, upd, hq]
    · exact h.elim
  · exact h.elim
theorem xs_aast (C : xm_C p s mm args c cc nL own Ts D cl ats A) (hd : decode cc pc = .ok (.aastore, 1)) (hK : xm_le K (xm_A p l e R s mm args below meth c nL D cl A Q (pc + 1))) : xm_le (xo_aast ats cl K) (xm_A p l e R s mm args below meth c nL D cl A Q pc) := by
  intro ls st m bc bs h H locs cells slots la hl hW hin hS h1 h2
  simp only [xo_aast] at h
  split at h
  · split at h
    · rename_i v i a r x y t n f ci vs hm hv
      obtain ⟨ht, hci, hix, h⟩ := h
      have ha : A a := hin a (by rw [hm]; exact fun z => by cases z)
      have hP := hW a _ hm
      have hc : cl[ci]? = some (cl.getD ci ("", fun _ => ("", "", "", false), 0)) := by
        rw [List.getD_eq_getElem?_getD, List.getElem?_eq_getElem hci]; rfl
      have hlt : i.toNatClampNeg < n := Nat.not_le.mp fun q => hix (Or.inr q)
      have h0 : ¬ i < 0 := fun q => hix (Or.inl q)
      obtain ⟨r', hr', cellV, g1, g2, g3, -⟩ := hW v _ hv
      have hcls := (C.2.1.1 ci _ hc).2
      obtain ⟨kA, comp, k1, k2, k3, -⟩ := (C.2.1.2 t _ (xm_ty_at ht)).2
      have hcomp : comp = D.1 ci := Option.some.inj (k3.symm.trans hcls.1)
      subst hcomp
      obtain ⟨kC, hkC, -⟩ := id hcls.2
      refine W.aast C.1.1 C.1.2.1 hP (fun q h => by cases h) (fun h => by cases h) k1 k2 rfl hkC ⟨h0, by show _ < (arrV _ _ _).slots.size; rw [arrV_size]; exact hlt⟩ g1 (fun q h => by rw [g3] at h; cases h) (by rw [g2]; exact hkC) (by rw [g2]; exact va_assign hcls) rfl rfl hd fun H1 e z oq => ?_
      refine hK _ _ _ _ _ h H1 _ cells slots la hl (hW.up ?_ oq) (xm_in_up hin _ ha) (hS.put z oq ha) h1 h2
      show H1[a]? = some (vp_cell _ _)
      rw [e]
      rw [vp_cell_q, vp_cell_q, arrV_store]
      congr 2
      funext q
      by_cases hq : q = i.toNatClampNeg
      · subst hq
        simp [updV, va_up, va_rf]
      · simp [updV, va_up, hq]
    · exact h.elim
  · exact h.elim
theorem xs_idiv (C : xm_C p s mm args c cc nL own Ts D cl ats A) (hd : decode cc pc = .ok (.idiv, 1)) (hK : xm_le K (xm_A p l e R s mm args below meth c nL D cl A Q (pc + 1))) : xm_le (xo_idiv K) (xm_A p l e R s mm args below meth c nL D cl A Q pc) := by
  intro ls st m bc bs h H locs cells slots la hl hW hin hS h1 h2
  simp only [xo_idiv] at h
  split at h
  · obtain ⟨hne, h⟩ := h
    exact lv_idiv C.1.1 C.1.2.1 hd hne (hK _ _ _ _ _ h H locs cells slots la hl hW hin hS h1 h2)
  · exact h.elim
theorem xs_irem (C : xm_C p s mm args c cc nL own Ts D cl ats A) (hd : decode cc pc = .ok (.irem, 1)) (hK : xm_le K (xm_A p l e R s mm args below meth c nL D cl A Q (pc + 1))) : xm_le (xo_irem K) (xm_A p l e R s mm args below meth c nL D cl A Q pc) := by
  intro ls st m bc bs h H locs cells slots la hl hW hin hS h1 h2
  simp only [xo_irem] at h
  split at h
  · obtain ⟨hne, h⟩ := h
    exact lv_irem C.1.1 C.1.2.1 hd hne (hK _ _ _ _ _ h H locs cells slots la hl hW hin hS h1 h2)
  · exact h.elim
theorem xs_zald (C : xm_C p s mm args c cc nL own Ts D cl ats A) (hd : decode cc pc = .ok (.baload, 1)) (hK : xm_le K (xm_A p l e R s mm args below meth c nL D cl A Q (pc + 1))) : xm_le (xo_zald ats K) (xm_A p l e R s mm args below meth c nL D cl A Q pc) := by
  intro ls st m bc bs h H locs cells slots la hl hW hin hS h1 h2
  simp only [xo_zald] at h
  split at h
  · split at h
    · rename_i i a r t n f hm
      obtain ⟨ht, hix, h⟩ := h
      exact va_zald C.1.1 C.1.2.1 C.2.1 (hW.one hm) 0 t rfl (xm_ty_at ht) hix hd (hK _ _ _ _ _ h H locs cells slots la hl hW hin hS h1 h2)
    · exact h.elim
  · exact h.elim
theorem xs_zast (C : xm_C p s mm args c cc nL own Ts D cl ats A) (hd : decode cc pc = .ok (.bastore, 1)) (hK : xm_le K (xm_A p l e R s mm args below meth c nL D cl A Q (pc + 1))) : xm_le (xo_zast ats K) (xm_A p l e R s mm args below meth c nL D cl A Q pc) := by
  intro ls st m bc bs h H locs cells slots la hl hW hin hS h1 h2
  simp only [xo_zast] at h
  split at h
  · split at h
    · rename_i x i a r _ t n f hm
      obtain ⟨ht, hx01, hix, h⟩ := h
      have ha : A a := hin a (by rw [hm]; exact fun z => by cases z)
      have hP := hW a _ hm
      have hnx : narrow .boolean (.int x) = .int x := by rcases hx01 with rfl | rfl <;> rfl
      refine W.zast C.1.1 C.1.2.1 hP ((C.2.1.2 t _ (xm_ty_at ht)).1 n (fun j => .int (f j))) (fun q => by cases q) (by show ¬ (i < 0 ∨ (arrV _ _ _).slots.size ≤ _); rw [arrV_size]; exact hix) rfl rfl hd fun H1 e z oq => ?_
      refine hK _ _ _ _ _ h H1 _ cells slots la hl (hW.up ?_ oq) (xm_in_up hin _ ha) (hS.put z oq ha) h1 h2
      show H1[a]? = some (vp_cell _ _)
      rw [e, hnx]
      rw [vp_cell_i, vp_cell_i, arrV_store]
      congr 2
      funext q
      by_cases hq : q = i.toNatClampNeg
      · subst hq
        simp [updV, upd]
      · simp [updV, upd, hq]
    · exact h.elim
  · exact h.elim
theorem xs_newz (C : xm_C p s mm args c cc nL own Ts D cl ats A) {t : Nat} (hd : decode cc pc = .ok (.newarray .boolean, 2)) (ht : ats[t]? = some .boolean) (harr : Cond.arrayClass .boolean ∈ Ts) (hK : xm_le K (xm_A p l e R s mm args below meth c nL D cl A Q (pc + 2))) : xm_le (xo_newi t K) (xm_A p l e R s mm args below meth c nL D cl A Q pc) := by
  intro ls st m bc bs h H locs cells slots la hl hW hin hS h1 h2
  simp only [xo_newi] at h
  split at h
  · rename_i n r
    obtain ⟨hn, hb, b1, b2, h⟩ := h
    refine va_newaK (atype := .boolean) C.1.1 C.1.2.1 (show (Cond.arrayClass (newarray.typeOf .boolean)).before args s = true from C.1.2.2.2.2 _ harr) rfl hd rfl hn rfl (by show n.toNatClampNeg * 1 ≤ 536870912; omega) (by omega) (by omega) rfl fun H1 cA e1 z1 o1 hAr hNm => ?_
    have j4 := (C.2.1.2 t _ (xm_ty_at ht)).2
    have hcA : cA = D.1 (100 + t) := Option.some.inj (hNm.symm.trans j4)
    subst hcA
    have hA : A H.size := C.2.2.1 _ hS.1
    refine hK _ _ _ _ _ (h H.size hW.fresh) H1 locs (cells + 1) (slots + n.toNatClampNeg) la hl (hW.push ?_ o1) (xm_in_up hin _ hA) ⟨Nat.le_trans hS.1 (by omega), fun x g1 g2 => (o1 x (Nat.lt_of_lt_of_le g1 hS.1)).trans (hS.2.1 x g1 g2), hS.2.2⟩ (by omega) (by omega)
    show H1[H.size]? = some (vp_cell _ _)
    rw [vp_cell_i]
    exact e1
  · exact h.elim
theorem xs_sld (C : xm_C p s mm args c cc nL own Ts D cl ats A) {b L : Nat} {xs : Nat → Int32} (hX : va_X b L xs s s.heap) (hbl : b < s.heap.size) (hbA : ¬ A b) (hd : decode cc pc = .ok (.iaload, 1)) (hK : xm_le K (xm_A p l e R s mm args below meth c nL D cl A Q (pc + 1))) : xm_le (xo_sld b L xs K) (xm_A p l e R s mm args below meth c nL D cl A Q pc) := by
  intro ls st m bc bs h H locs cells slots la hl hW hin hS h1 h2
  simp only [xo_sld] at h
  split at h
  · obtain ⟨rfl, hix, h⟩ := h
    exact va_sld C.1.1 C.1.2.1 hX hbl hbA hS hix hd (hK _ _ _ _ _ h H locs cells slots la hl hW hin hS h1 h2)
  · exact h.elim
theorem xs_slen (C : xm_C p s mm args c cc nL own Ts D cl ats A) {b L : Nat} {xs : Nat → Int32} (hX : va_X b L xs s s.heap) (hbl : b < s.heap.size) (hbA : ¬ A b) (hd : decode cc pc = .ok (.arraylength, 1)) (hK : xm_le K (xm_A p l e R s mm args below meth c nL D cl A Q (pc + 1))) : xm_le (xo_slen b L K) (xm_A p l e R s mm args below meth c nL D cl A Q pc) := by
  intro ls st m bc bs h H locs cells slots la hl hW hin hS h1 h2
  simp only [xo_slen] at h
  split at h
  · obtain ⟨rfl, h⟩ := h
    exact va_slen C.1.1 C.1.2.1 hX hbl hbA hS hd (hK _ _ _ _ _ h H locs cells slots la hl hW hin hS h1 h2)
  · exact h.elim
theorem xs_new (C : xm_C p s mm args c cc nL own Ts D cl ats A) {CN : String} {T : u_T} {N ci index : Nat} {fs : List Value} (hd : decode cc pc = .ok (.new index, 3)) (hin0 : ∀ w ∈ u_ws CN T N, w ∈ Ts) (ty : Nat → FieldType) (hty : ∀ k, k < N → parseFieldDescriptor (T k).2.2.1 = some (ty k)) (hc : cl[ci]? = some (CN, T, N)) (hcl : Cond.classLink own index CN ∈ Ts) (hinst : Cond.instantiable CN N ∈ Ts) (hini : Cond.initialized CN ∈ Ts) (hfs : ∀ j, j < N → defaultValue (ty j) = vp_V fs j) (hK : xm_le K (xm_A p l e R s mm args below meth c nL D cl A Q (pc + 3))) : xm_le (xo_new ci N fs K) (xm_A p l e R s mm args below meth c nL D cl A Q pc) := by
  intro ls st m bc bs h H locs cells slots la hl hW hin hS h1 h2
  obtain ⟨b1, b2, h⟩ := h
  have hKn := C.2.1.1 ci _ hc
  refine W.newcK C.1.1 C.1.2.1 C.1.2.2.2.1 (C.1.2.2.2.2 _ hcl) (C.1.2.2.2.2 _ hinst) (C.1.2.2.2.2 _ hini) rfl hd (by omega) (by omega) hKn.2.1 rfl fun H1 kC hkC e1 z1 o1 => ?_
  have hA : A H.size := C.2.2.1 _ hS.1
  refine hK _ _ _ _ _ (h H.size hW.fresh) H1 locs (cells + 1) (slots + N) la hl (hW.push ⟨_, hc, (u_born ty C.1.2.2.2.2 hin0 hKn hkC e1 hty).to hfs⟩ o1) (xm_in_up hin _ hA) ⟨Nat.le_trans hS.1 (by omega), fun x g1 g2 => (o1 x (Nat.lt_of_lt_of_le g1 hS.1)).trans (hS.2.1 x g1 g2), hS.2.2⟩ (by omega) (by omega)
theorem xs_anew (C : xm_C p s mm args c cc nL own Ts D cl ats A) {CN : String} {index t : Nat} (hd : decode cc pc = .ok (.anewarray index, 3)) (ht : ats[t]? = some (.object CN)) (hcl : Cond.classLink own index CN ∈ Ts) (hov : CN ∈ xm_os) (hK : xm_le K (xm_A p l e R s mm args below meth c nL D cl A Q (pc + 3))) : xm_le (xo_anew t K) (xm_A p l e R s mm args below meth c nL D cl A Q pc) := by
  intro ls st m bc bs h H locs cells slots la hl hW hin hS h1 h2
  simp only [xo_anew] at h
  split at h
  · rename_i n r
    obtain ⟨hn, hb, b1, b2, h⟩ := h
    refine W.anew C.1.1 C.1.2.1 C.1.2.2.2.1 (C.1.2.2.2.2 _ hcl) (va_AO.use (C.2.2.2.2 _ hov)) rfl hd rfl hn (by omega) (by omega) (by omega) fun cA kA comp f1 f2 f3 f4 => ?_
    obtain ⟨kA', comp', j1, j2, j3, j4⟩ := (C.2.1.2 t _ (xm_ty_at ht)).2
    have hcA : cA = D.1 (100 + t) := Option.some.inj (f1.symm.trans j4)
    subst hcA
    have hA : A H.size := C.2.2.1 _ hS.1
    generalize hH1 : H.push ({ cls := D.1 (100 + t), slots := Array.replicate n.toNatClampNeg .null, vm := .none } : Cell) = H1
    have z1 : H1.size = H.size + 1 := by rw [← hH1, Array.size_push]
    have e1 : H1[H.size]? = some (arrV (D.1 (100 + t)) n.toNatClampNeg (fun _ => .null)) := by rw [← hH1, Array.getElem?_push_size, ← arrV_new]
    have o1 : ∀ q : Nat, q < H.size → H1[q]? = H[q]? := fun q hq => by rw [← hH1, Array.getElem?_push, if_neg (Nat.ne_of_lt hq)]
    refine hK _ _ _ _ _ (h H.size hW.fresh) H1 locs (cells + 1) (slots + n.toNatClampNeg) la hl (hW.push ?_ o1) (xm_in_up hin _ hA) ⟨Nat.le_trans hS.1 (by omega), fun x g1 g2 => (o1 x (Nat.lt_of_lt_of_le g1 hS.1)).trans (hS.2.1 x g1 g2), hS.2.2⟩ (by omega) (by omega)
    show H1[H.size]? = some (vp_cell _ _)
    rw [vp_cell_q]
    exact e1
  · exact h.elim
theorem xs_newi (C : xm_C p s mm args c cc nL own Ts D cl ats A) {t : Nat} (hd : decode cc pc = .ok (.newarray .int, 2)) (ht : ats[t]? = some .int) (harr : Cond.arrayClass .int ∈ Ts) (hK : xm_le K (xm_A p l e R s mm args below meth c nL D cl A Q (pc + 2))) : xm_le (xo_newi t K) (xm_A p l e R s mm args below meth c nL D cl A Q pc) := by
  intro ls st m bc bs h H locs cells slots la hl hW hin hS h1 h2
  simp only [xo_newi] at h
  split at h
  · rename_i n r
    obtain ⟨hn, hb, b1, b2, h⟩ := h
    refine va_newaK (atype := .int) C.1.1 C.1.2.1 (show (Cond.arrayClass (newarray.typeOf .int)).before args s = true from C.1.2.2.2.2 _ harr) rfl hd rfl hn rfl (by show n.toNatClampNeg * 4 ≤ 536870912; omega) (by omega) (by omega) rfl fun H1 cA e1 z1 o1 hAr hNm => ?_
    have j4 := (C.2.1.2 t _ (xm_ty_at ht)).2
    have hcA : cA = D.1 (100 + t) := Option.some.inj (hNm.symm.trans j4)
    subst hcA
    have hA : A H.size := C.2.2.1 _ hS.1
    refine hK _ _ _ _ _ (h H.size hW.fresh) H1 locs (cells + 1) (slots + n.toNatClampNeg) la hl (hW.push ?_ o1) (xm_in_up hin _ hA) ⟨Nat.le_trans hS.1 (by omega), fun x g1 g2 => (o1 x (Nat.lt_of_lt_of_le g1 hS.1)).trans (hS.2.1 x g1 g2), hS.2.2⟩ (by omega) (by omega)
    show H1[H.size]? = some (vp_cell _ _)
    rw [vp_cell_i]
    exact e1
  · exact h.elim
theorem xs_obj (C : xm_C p s mm args c cc nL own Ts D cl ats A) {idx : Nat} (hd : decode cc pc = .ok (.invokespecial idx, 3)) (hlink : Cond.methodLink own idx Lib.objectInit ∈ Ts) (hinst : Cond.instanceMethod Lib.objectInit ∈ Ts) (hcode : Cond.code Lib.objectInit ⟨#[0xb1]⟩ 1 none ∈ Ts) (hf : 1 ≤ R.frames) (hlo : 20 ≤ R.locals) (hK : xm_le K (xm_A p l e R s mm args below meth c nL D cl A Q (pc + 3))) : xm_le (xo_drop K) (xm_A p l e R s mm args below meth c nL D cl A Q pc) := by
  intro ls st m bc bs h H locs cells slots la hl hW hin hS h1 h2
  simp only [xo_drop] at h
  split at h
  · obtain ⟨hr, h⟩ := h
    refine W.objInit C.1.1 C.1.2.1 C.1.2.2.2.1 (C.1.2.2.2.2 _ hlink) (C.1.2.2.2.2 _ hinst) (C.1.2.2.2.2 _ hcode) rfl (by rw [C.1.2.2.1]; exact hl.1) rfl hd hf ?_ (hK _ _ _ _ _ h H locs cells slots la hl hW hin hS h1 h2)
    have := xm_cat4 hr
    show 2 * 0 + _ + 12 ≤ R.locals
    omega
  · exact h.elim
theorem xm_cont {H : Heap} {locs : List Loc} {cells slots mc ms : Nat} {la : Array Slot} {st0 rest : List Value} {a : Array Value} {m : xm_M} {Rh : Option Value → xm_M → Prop}
    (hr : va_Run p l e R s mm args below meth c H locs cells slots mc ms (F0 mm pc la st0) rest (xm_Q D cl Rh (xm_As m H.size) a) (xm_As m H.size)) (hS : va_S A s.heap H locs) (hin : ∀ a, m a ≠ none → A a) (hA : ∀ q, s.heap.size ≤ q → A q)
    (kk : ∀ (r : Option Value) (m' : xm_M), Rh r m' → ∀ (H1 : Heap) (locs1 : List Loc), xm_W D cl m' H1 → (∀ a, m' a ≠ none → A a) → va_S A s.heap H1 locs1 → W p l e R s mm args below meth c H1 locs1 (cells + mc) (slots + ms) Q (F0 mm (pc + 3) la (r.toList ++ rest))) : W p l e R s mm args below meth c H locs cells slots Q (F0 mm pc la st0) := by
  intro T hT X
  obtain ⟨v, st₀, t, T', L, h0, X', hL, e1, e2, ⟨⟨r, m', hv, hp, hb, hin'⟩, hz, hk⟩, st⟩ := hr T hT X
  cases hv
  rw [h0] at hz hk
  have hF : ∀ q, xm_As m H.size q → A q := fun q h => h.elim (hin q) (fun h => hA q (Nat.le_trans hS.1 h))
  obtain ⟨t2, a1, b1⟩ := kk v m' hp T'.heap (locs ++ L) (by rw [e1]; exact hb) (fun a h => hF a (hin' a h))
    ⟨Nat.le_trans hS.1 (by rw [e1]; exact hz), fun q h1 h2 => by rw [e1, hk q (Nat.lt_of_lt_of_le h1 hS.1) (fun z => h2 (hF q z))]; exact hS.2.1 q h1 h2, fun q hq => by
      rcases List.mem_append.mp hq with h | h
      · exact hS.2.2 q h
      · exact hF _ (hL q h)⟩ T' rfl X'
  exact ⟨t2, st t2 a1, b1⟩
theorem xs_callV (C : xm_C p s mm args c cc nL own Ts D cl ats A) {index maxL mc ms n ci N : Nat} {y : MethodName} {bytes : ByteArray} {ret : Option FieldType} {ws : List Cond} {rm : Room} {CN : String} {T : u_T} {CP : xm_CP} (hd : decode cc pc = .ok (.invokevirtual index, 3)) (hM : xm_Met l D cl ats y ws rm mc ms CP) (cw : CallW R s args own CN index y bytes maxL ret ws rm mc ms n) (hc : cl[ci]? = some (CN, T, N)) (hK : xm_le K (xm_A p l e R s mm args below meth c nL D cl A Q (pc + 3))) : xm_le (xo_callV ci n mc ms CP K) (xm_A p l e R s mm args below meth c nL D cl A Q pc) := by
  intro ls st m bc bs h H locs cells slots la hl hW hin hS h1 h2
  obtain ⟨b1, b2, h⟩ := h
  split at h
  · rename_i as b rest hsp
    obtain ⟨hr, hb, h⟩ := h
    obtain ⟨l0, hlen, hst, has⟩ := xm_sp_ok hsp
    rw [List.append_nil] at has
    have hlen : as.length = n := by rw [has, List.length_reverse]; exact hlen
    have hst : st = as.reverse ++ .ref b :: rest := by rw [has, List.reverse_reverse]; exact hst
    have hrc : ∃ cell : Cell, H[b]? = some cell ∧ cell.vm.isStatics = false ∧ s.vm.findClass CN = some cell.cls := by
      split at hb
      · rename_i c0 fs hm
        subst hb
        exact va_recv C.2.1 (hW.one hm) hc (q0 := 0) rfl
      · exact hb.elim
    refine xm_cont (va_runV (As := as) (rest := rest) C.1 (hM (.ref b :: as) m H.size _ h) cw ⟨xm_blind, hrc, fun U hU hW9 => ⟨rfl, by rw [hU], by rw [hU]; exact hW, va_K.moved hW9.alike C.2.1, C.2.2.2.warm hW9⟩⟩ rfl hlen hl.1 hst (by show 2 * 0 + _ ≤ 8; have := xm_cat4 hr; omega) hd ⟨by omega, by omega⟩) hS hin C.2.2.1 (fun r m' hq H1 locs1 hW1 hin1 hS1 => ?_)
    exact hK _ _ _ _ _ hq H1 locs1 _ _ la hl hW1 hin1 hS1 (by omega) (by omega)
  · exact h.elim
theorem xs_callVN (C : xm_C p s mm args c cc nL own Ts D cl ats A) {index maxL mc ms n ci N : Nat} {y : MethodName} {bytes : ByteArray} {ret : Option FieldType} {ws : List Cond} {rm : Room} {CN : String} {T : u_T} {CP : xm_CP} {host : String} (hd : decode cc pc = .ok (.invokevirtual index, 3)) (hM : xm_Met l D cl ats y ws rm mc ms CP) (cw : va_CN R s args own index y host bytes maxL ret ws rm mc ms n ∧ (Cond.instanceMethod y).before args s = true ∧ (Cond.selects CN y y).before args s = true) (hc : cl[ci]? = some (CN, T, N)) (hK : xm_le K (xm_A p l e R s mm args below meth c nL D cl A Q (pc + 3))) : xm_le (xo_callV ci n mc ms CP K) (xm_A p l e R s mm args below meth c nL D cl A Q pc) := by
  intro ls st m bc bs h H locs cells slots la hl hW hin hS h1 h2
  obtain ⟨b1, b2, h⟩ := h
  split at h
  · rename_i as b rest hsp
    obtain ⟨hr, hb, h⟩ := h
    obtain ⟨l0, hlen, hst, has⟩ := xm_sp_ok hsp
    rw [List.append_nil] at has
    have hlen : as.length = n := by rw [has, List.length_reverse]; exact hlen
    have hst : st = as.reverse ++ .ref b :: rest := by rw [has, List.reverse_reverse]; exact hst
    have hrc : ∃ cell : Cell, H[b]? = some cell ∧ cell.vm.isStatics = false ∧ s.vm.findClass CN = some cell.cls := by
      split at hb
      · rename_i c0 fs hm
        subst hb
        exact va_recv C.2.1 (hW.one hm) hc (q0 := 0) rfl
      · exact hb.elim
    refine xm_cont (va_runVN (As := as) (rest := rest) C.1 (hM (.ref b :: as) m H.size _ h) cw ⟨xm_blind, hrc, fun U hU hW9 => ⟨rfl, by rw [hU], by rw [hU]; exact hW, va_K.moved hW9.alike C.2.1, C.2.2.2.warm hW9⟩⟩ rfl hlen hl.1 hst (by show 2 * 0 + _ ≤ 8; have := xm_cat4 hr; omega) hd ⟨by omega, by omega⟩) hS hin C.2.2.1 (fun r m' hq H1 locs1 hW1 hin1 hS1 => ?_)
    exact hK _ _ _ _ _ hq H1 locs1 _ _ la hl hW1 hin1 hS1 (by omega) (by omega)
  · exact h.elim
theorem xs_callI (C : xm_C p s mm args c cc nL own Ts D cl ats A) {index maxL mc ms n : Nat} {y : MethodName} {bytes : ByteArray} {ws : List Cond} {rm : Room} {CP : xm_CP} (hd : decode cc pc = .ok (.invokespecial index, 3)) (hM : xm_Met l D cl ats y ws rm mc ms CP) (cw : CallB R s args own index y bytes maxL none ws rm mc ms n ∧ y.name = "<init>" ∧ (Cond.instanceMethod y).before args s = true) (hK : xm_le K (xm_A p l e R s mm args below meth c nL D cl A Q (pc + 3))) : xm_le (xo_callI n mc ms CP K) (xm_A p l e R s mm args below meth c nL D cl A Q pc) := by
  intro ls st m bc bs h H locs cells slots la hl hW hin hS h1 h2
  obtain ⟨b1, b2, h⟩ := h
  split at h
  · rename_i as b rest hsp
    obtain ⟨hr, h⟩ := h
    obtain ⟨l0, hlen, hst, has⟩ := xm_sp_ok hsp
    rw [List.append_nil] at has
    have hlen : as.length = n := by rw [has, List.length_reverse]; exact hlen
    have hst : st = as.reverse ++ .ref b :: rest := by rw [has, List.reverse_reverse]; exact hst
    refine xm_cont (va_runI (As := as) (rest := rest) C.1 (hM (.ref b :: as) m H.size _ h) cw ⟨xm_blind, fun U hU hW9 => ⟨rfl, by rw [hU], by rw [hU]; exact hW, va_K.moved hW9.alike C.2.1, C.2.2.2.warm hW9⟩⟩ rfl hlen hl.1 hst (by show 2 * 0 + _ ≤ 8; have := xm_cat4 hr; omega) hd ⟨by omega, by omega⟩) hS hin C.2.2.1 (fun r m' hq H1 locs1 hW1 hin1 hS1 => ?_)
    exact hK _ _ _ _ _ hq H1 locs1 _ _ la hl hW1 hin1 hS1 (by omega) (by omega)
  · exact h.elim
theorem xs_callIN (C : xm_C p s mm args c cc nL own Ts D cl ats A) {index maxL mc ms n : Nat} {y : MethodName} {bytes : ByteArray} {ws : List Cond} {rm : Room} {CP : xm_CP} {host : String} (hd : decode cc pc = .ok (.invokespecial index, 3)) (hM : xm_Met l D cl ats y ws rm mc ms CP) (cw : va_CN R s args own index y host bytes maxL none ws rm mc ms n ∧ y.name = "<init>" ∧ (Cond.instanceMethod y).before args s = true) (hK : xm_le K (xm_A p l e R s mm args below meth c nL D cl A Q (pc + 3))) : xm_le (xo_callI n mc ms CP K) (xm_A p l e R s mm args below meth c nL D cl A Q pc) := by
  intro ls st m bc bs h H locs cells slots la hl hW hin hS h1 h2
  obtain ⟨b1, b2, h⟩ := h
  split at h
  · rename_i as b rest hsp
    obtain ⟨hr, h⟩ := h
    obtain ⟨l0, hlen, hst, has⟩ := xm_sp_ok hsp
    rw [List.append_nil] at has
    have hlen : as.length = n := by rw [has, List.length_reverse]; exact hlen
    have hst : st = as.reverse ++ .ref b :: rest := by rw [has, List.reverse_reverse]; exact hst
    refine xm_cont (va_runIN (As := as) (rest := rest) C.1 (hM (.ref b :: as) m H.size _ h) cw ⟨xm_blind, fun U hU hW9 => ⟨rfl, by rw [hU], by rw [hU]; exact hW, va_K.moved hW9.alike C.2.1, C.2.2.2.warm hW9⟩⟩ rfl hlen hl.1 hst (by show 2 * 0 + _ ≤ 8; have := xm_cat4 hr; omega) hd ⟨by omega, by omega⟩) hS hin C.2.2.1 (fun r m' hq H1 locs1 hW1 hin1 hS1 => ?_)
    exact hK _ _ _ _ _ hq H1 locs1 _ _ la hl hW1 hin1 hS1 (by omega) (by omega)
  · exact h.elim
theorem xs_callS (C : xm_C p s mm args c cc nL own Ts D cl ats A) {index maxL mc ms n : Nat} {y : MethodName} {bytes : ByteArray} {ret : Option FieldType} {ws : List Cond} {rm : Room} {CP : xm_CP} (hd : decode cc pc = .ok (.invokestatic index, 3)) (hM : xm_Met l D cl ats y ws rm mc ms CP) (cw : CallB R s args own index y bytes maxL ret ws rm mc ms n ∧ (Cond.static y).before args s = true) (hK : xm_le K (xm_A p l e R s mm args below meth c nL D cl A Q (pc + 3))) : xm_le (xo_callS n mc ms CP K) (xm_A p l e R s mm args below meth c nL D cl A Q pc) := by
  intro ls st m bc bs h H locs cells slots la hl hW hin hS h1 h2
  obtain ⟨b1, b2, h⟩ := h
  split at h
  · rename_i as rest hsp
    obtain ⟨hr, h⟩ := h
    obtain ⟨l0, hlen, hst, has⟩ := xm_sp_ok hsp
    rw [List.append_nil] at has
    have hlen : as.length = n := by rw [has, List.length_reverse]; exact hlen
    have hst : st = as.reverse ++ rest := by rw [has, List.reverse_reverse]; exact hst
    refine xm_cont (va_runS (As := as) (rest := rest) C.1 (hM as m H.size _ h) cw ⟨xm_blind, fun U hU hW9 => ⟨rfl, by rw [hU], by rw [hU]; exact hW, va_K.moved hW9.alike C.2.1, C.2.2.2.warm hW9⟩⟩ rfl hlen hl.1 hst (by show 2 * 0 + _ ≤ 8; have := xm_cat4 hr; omega) hd ⟨by omega, by omega⟩) hS hin C.2.2.1 (fun r m' hq H1 locs1 hW1 hin1 hS1 => ?_)
    exact hK _ _ _ _ _ hq H1 locs1 _ _ la hl hW1 hin1 hS1 (by omega) (by omega)
  · exact h.elim
theorem xs_callSN (C : xm_C p s mm args c cc nL own Ts D cl ats A) {index maxL mc ms n : Nat} {y : MethodName} {bytes : ByteArray} {ret : Option FieldType} {ws : List Cond} {rm : Room} {CP : xm_CP} {host : String} (hd : decode cc pc = .ok (.invokestatic index, 3)) (hM : xm_Met l D cl ats y ws rm mc ms CP) (cw : va_CN R s args own index y host bytes maxL ret ws rm mc ms n ∧ (Cond.static y).before args s = true ∧ True) (hK : xm_le K (xm_A p l e R s mm args below meth c nL D cl A Q (pc + 3))) : xm_le (xo_callS n mc ms CP K) (xm_A p l e R s mm args below meth c nL D cl A Q pc) := by
  intro ls st m bc bs h H locs cells slots la hl hW hin hS h1 h2
  obtain ⟨b1, b2, h⟩ := h
  split at h
  · rename_i as rest hsp
    obtain ⟨hr, h⟩ := h
    obtain ⟨l0, hlen, hst, has⟩ := xm_sp_ok hsp
    rw [List.append_nil] at has
    have hlen : as.length = n := by rw [has, List.length_reverse]; exact hlen
    have hst : st = as.reverse ++ rest := by rw [has, List.reverse_reverse]; exact hst
    refine xm_cont (va_runSN (As := as) (rest := rest) C.1 (hM as m H.size _ h) cw ⟨xm_blind, fun U hU hW9 => ⟨rfl, by rw [hU], by rw [hU]; exact hW, va_K.moved hW9.alike C.2.1, C.2.2.2.warm hW9⟩⟩ rfl hlen hl.1 hst (by show 2 * 0 + _ ≤ 8; have := xm_cat4 hr; omega) hd ⟨by omega, by omega⟩) hS hin C.2.2.1 (fun r m' hq H1 locs1 hW1 hin1 hS1 => ?_)
    exact hK _ _ _ _ _ hq H1 locs1 _ _ la hl hW1 hin1 hS1 (by omega) (by omega)
  · exact h.elim
def xm_ks (pc : Nat) (F : Nat → xm_PT) : List Int → List xm_PT → Prop
  | [], [] => True
  | off :: os, K :: Ks => (∃ tgt : Nat, (pc : Int) + off = (tgt : Int) ∧ xm_le K (F tgt)) ∧ xm_ks pc F os Ks
  | _, _ => False
theorem xm_ks_len {pc : Nat} {F : Nat → xm_PT} : ∀ {os : List Int} {Ks : List xm_PT}, xm_ks pc F os Ks → os.length = Ks.length
  | [], [], _ => rfl
  | _ :: os, _ :: Ks, h => by simp only [List.length_cons]; rw [xm_ks_len h.2]
  | [], _ :: _, h => h.elim
  | _ :: _, [], h => h.elim
theorem xs_tsw (C : xm_C p s mm args c cc nL own Ts D cl ats A) {dflt lo hi : Int} {offs : Array Int} {len tgd : Nat} {Ks : List xm_PT} {Kd : xm_PT} (hd : decode cc pc = .ok (.tableswitch dflt lo hi offs, len)) (hhi : lo + Ks.length = hi + 1) (hks : xm_ks pc (fun q => (xm_A p l e R s mm args below meth c nL D cl A Q q)) offs.toList Ks) (htd : (pc : Int) + dflt = (tgd : Int)) (hD : xm_le Kd (xm_A p l e R s mm args below meth c nL D cl A Q tgd)) : xm_le (xo_tsw lo Ks Kd) (xm_A p l e R s mm args below meth c nL D cl A Q pc) := by
  intro ls st m bc bs h H locs cells slots la hl hW hin hS h1 h2
  simp only [xo_tsw] at h
  split at h
  · rename_i x r
    by_cases hx : x.toInt < lo ∨ hi < x.toInt
    · refine lv_tableOut C.1.1 C.1.2.1 hd hx htd (hD _ _ _ _ _ ?_ H locs cells slots la hl hW hin hS h1 h2)
      have key : ∀ (Ks : List xm_PT) (lo : Int), (x.toInt < lo ∨ lo + Ks.length ≤ x.toInt) → xm_sw x.toInt lo Ks Kd ls r m bc bs → Kd ls r m bc bs := by
        intro Ks
        induction Ks with
        | nil => intro lo _ h; exact h
        | cons K Ks ih =>
          intro lo hx h
          simp only [List.length_cons] at hx
          exact ih (lo + 1) (by omega) (h.2 (by omega))
      exact key Ks lo (by omega) h
    · have key : ∀ (os : List Int) (Ks : List xm_PT) (lo : Int), lo ≤ x.toInt → x.toInt < lo + Ks.length → xm_ks pc (fun q => (xm_A p l e R s mm args below meth c nL D cl A Q q)) os Ks → xm_sw x.toInt lo Ks Kd ls r m bc bs → ∃ (off : Int) (tgt : Nat) (K : xm_PT), os[(x.toInt - lo).toNat]? = some off ∧ (pc : Int) + off = (tgt : Int) ∧ xm_le K (xm_A p l e R s mm args below meth c nL D cl A Q tgt) ∧ K ls r m bc bs := by
        intro os Ks
        induction Ks generalizing os with
        | nil => intro lo a b _ _; simp only [List.length_nil] at b; omega
        | cons K Ks ih =>
          intro lo a b hk h
          cases os with
          | nil => exact hk.elim
          | cons o os =>
            simp only [List.length_cons] at b
            by_cases hxl : x.toInt = lo
            · obtain ⟨⟨tgt, t1, t2⟩, -⟩ := hk
              exact ⟨o, tgt, K, by rw [hxl]; simp, t1, t2, h.1 hxl⟩
            · obtain ⟨off, tgt, K', e1, e2⟩ := ih os (lo + 1) (by omega) (by omega) hk.2 (h.2 hxl)
              refine ⟨off, tgt, K', ?_, e2⟩
              rw [show (x.toInt - lo).toNat = (x.toInt - (lo + 1)).toNat + 1 by omega]
              exact e1
      obtain ⟨off, tgt, K', e1, e2, e3, e4⟩ := key offs.toList Ks lo (by omega) (by omega) hks h
      exact lv_tableIn C.1.1 C.1.2.1 hd (by omega) (by omega) (by rw [← e1]; simp) e2 (e3 _ _ _ _ _ e4 H locs cells slots la hl hW hin hS h1 h2)
  · exact h.elim
def xm_kl (pc : Nat) (F : Nat → xm_PT) : List (Int × Int) → List (Int × xm_PT) → Prop
  | [], [] => True
  | (k, off) :: os, (k', K) :: Ks => k = k' ∧ (∃ tgt : Nat, (pc : Int) + off = (tgt : Int) ∧ xm_le K (F tgt)) ∧ xm_kl pc F os Ks
  | _, _ => False
theorem xs_lsw (C : xm_C p s mm args c cc nL own Ts D cl ats A) {dflt : Int} {ps : Array (Int × Int)} {len tgd : Nat} {Ks : List (Int × xm_PT)} {Kd : xm_PT} (hd : decode cc pc = .ok (.lookupswitch dflt ps, len)) (hp : (ps.toList.zip (ps.toList.drop 1)).all (fun (a, next) => a.1 < next.1) = true) (hks : xm_kl pc (fun q => (xm_A p l e R s mm args below meth c nL D cl A Q q)) ps.toList Ks) (htd : (pc : Int) + dflt = (tgd : Int)) (hD : xm_le Kd (xm_A p l e R s mm args below meth c nL D cl A Q tgd)) : xm_le (xo_lsw Ks Kd) (xm_A p l e R s mm args below meth c nL D cl A Q pc) := by
  intro ls st m bc bs h H locs cells slots la hl hW hin hS h1 h2
  simp only [xo_lsw] at h
  split at h
  · rename_i x r
    have key : ∀ (os : List (Int × Int)) (Ks : List (Int × xm_PT)), xm_kl pc (fun q => (xm_A p l e R s mm args below meth c nL D cl A Q q)) os Ks → xm_lsw x.toInt Ks Kd ls r m bc bs → ∃ (tgt : Nat) (K : xm_PT), (pc : Int) + Op.lookupswitch.offset os dflt x.toInt = (tgt : Int) ∧ xm_le K (xm_A p l e R s mm args below meth c nL D cl A Q tgt) ∧ K ls r m bc bs := by
      intro os
      induction os with
      | nil =>
        intro Ks hk h
        cases Ks with
        | nil => exact ⟨tgd, Kd, by simpa [Op.lookupswitch.offset] using htd, hD, h⟩
        | cons K Ks => exact hk.elim
      | cons o os ih =>
        intro Ks hk h
        cases Ks with
        | nil => exact hk.elim
        | cons K Ks =>
          obtain ⟨k, off⟩ := o
          obtain ⟨k', K⟩ := K
          obtain ⟨rfl, ⟨tgt, t1, t2⟩, hk⟩ := hk
          rw [Op.lookupswitch.offset_cons]
          by_cases hx : x.toInt = k
          · rw [if_pos hx.symm]
            exact ⟨tgt, K, t1, t2, h.1 hx⟩
          · rw [if_neg (fun z => hx z.symm)]
            exact ih Ks hk (h.2 hx)
    obtain ⟨tgt, K', e1, e2, e3⟩ := key ps.toList Ks hks h
    exact lv_lookup C.1.1 C.1.2.1 hd hp rfl e1 (e2 _ _ _ _ _ e3 H locs cells slots la hl hW hin hS h1 h2)
  · exact h.elim
theorem xs_iret (C : xm_C p s mm args c cc nL own Ts D cl ats A) {Rh : Option Value → xm_M → Prop} {mc ms : Nat} (hd : decode cc pc = .ok (.ireturn, 1)) (hr : meth.sig.returnType = some .int) (hlk : meth.locks = false) (hmc : R.cells = mc) (hms : R.slots = ms) : xm_le (xo_iret Rh) (xm_A p l e R s mm args below meth c nL D cl A (MQ below (xm_Q D cl Rh A) args s mc ms A) pc) := by
  intro ls st m bc bs h H locs cells slots la hl hW hin hS h1 h2
  simp only [xo_iret] at h
  split at h
  · refine W.widen (k := mc) (n := ms) (by omega) (by omega) ?_
    exact W.iret C.1.1 C.1.2.1 hr (fun t ht hw => ⟨⟨_, m, rfl, h, by rw [ht]; exact hW, hin⟩, hS.F ht⟩) hS.2.2 hd hlk
  · exact h.elim
theorem xs_zret (C : xm_C p s mm args c cc nL own Ts D cl ats A) {Rh : Option Value → xm_M → Prop} {mc ms : Nat} (hd : decode cc pc = .ok (.ireturn, 1)) (hr : meth.sig.returnType = some .boolean) (hlk : meth.locks = false) (hmc : R.cells = mc) (hms : R.slots = ms) : xm_le (xo_zret Rh) (xm_A p l e R s mm args below meth c nL D cl A (MQ below (xm_Q D cl Rh A) args s mc ms A) pc) := by
  intro ls st m bc bs h H locs cells slots la hl hW hin hS h1 h2
  simp only [xo_zret] at h
  split at h
  · obtain ⟨hv, h⟩ := h
    refine W.widen (k := mc) (n := ms) (by omega) (by omega) ?_
    exact W.zret C.1.1 C.1.2.1 hr (by rcases hv with rfl | rfl <;> rfl) (fun t ht hw => ⟨⟨_, m, rfl, h, by rw [ht]; exact hW, hin⟩, hS.F ht⟩) hS.2.2 hd hlk
  · exact h.elim
theorem xs_lret (C : xm_C p s mm args c cc nL own Ts D cl ats A) {Rh : Option Value → xm_M → Prop} {mc ms : Nat} (hd : decode cc pc = .ok (.lreturn, 1)) (hr : meth.sig.returnType = some .long) (hlk : meth.locks = false) (hmc : R.cells = mc) (hms : R.slots = ms) : xm_le (xo_lret Rh) (xm_A p l e R s mm args below meth c nL D cl A (MQ below (xm_Q D cl Rh A) args s mc ms A) pc) := by
  intro ls st m bc bs h H locs cells slots la hl hW hin hS h1 h2
  simp only [xo_lret] at h
  split at h
  · refine W.widen (k := mc) (n := ms) (by omega) (by omega) ?_
    exact W.lret C.1.1 C.1.2.1 hr (fun t ht hw => ⟨⟨_, m, rfl, h, by rw [ht]; exact hW, hin⟩, hS.F ht⟩) hS.2.2 hd hlk
  · exact h.elim
theorem xs_aret (C : xm_C p s mm args c cc nL own Ts D cl ats A) {Rh : Option Value → xm_M → Prop} {mc ms : Nat} (hd : decode cc pc = .ok (.areturn, 1)) {rt : FieldType} (hr : meth.sig.returnType = some rt) (hrt : (∃ n, rt = .object n) ∨ ∃ t, rt = .array t) (hlk : meth.locks = false) (hmc : R.cells = mc) (hms : R.slots = ms) : xm_le (xo_aret Rh) (xm_A p l e R s mm args below meth c nL D cl A (MQ below (xm_Q D cl Rh A) args s mc ms A) pc) := by
  intro ls st m bc bs h H locs cells slots la hl hW hin hS h1 h2
  simp only [xo_aret] at h
  split at h
  · obtain ⟨hv, h⟩ := h
    refine W.widen (k := mc) (n := ms) (by omega) (by omega) ?_
    exact W.aret C.1.1 C.1.2.1 hr hrt hv (fun t ht hw => ⟨⟨_, m, rfl, h, by rw [ht]; exact hW, hin⟩, hS.F ht⟩) hS.2.2 hd hlk
  · exact h.elim
theorem xs_vret (C : xm_C p s mm args c cc nL own Ts D cl ats A) {Rh : Option Value → xm_M → Prop} {mc ms : Nat} (hd : decode cc pc = .ok (.return_, 1)) (hr : meth.sig.returnType = none) (hlk : meth.locks = false) (hmc : R.cells = mc) (hms : R.slots = ms) : xm_le (xo_vret Rh) (xm_A p l e R s mm args below meth c nL D cl A (MQ below (xm_Q D cl Rh A) args s mc ms A) pc) := by
  intro ls st m bc bs h H locs cells slots la hl hW hin hS h1 h2
  simp only [xo_vret] at h
  split at h
  · refine W.widen (k := mc) (n := ms) (by omega) (by omega) ?_
    exact W.vret C.1.1 C.1.2.1 hr (fun t ht hw => ⟨⟨_, m, rfl, h, by rw [ht]; exact hW, hin⟩, hS.F ht⟩) hS.2.2 hd hlk
  · exact h.elim
end XS
/-- a method's code by labels: heads of loops; 0 is its entry -/
abbrev xm_F : Type := (Nat → xm_PT) → (Option Value → xm_M → Prop) → Nat → xm_PT
def xm_cp (F : xm_F) (mc ms : Nat) : xm_CP := fun as m Rh => ∀ X : Nat → xm_PT, (∀ l, xm_le (F X Rh l) (X l)) → X 0 (lv_args 0 as) [] m mc ms
theorem xm_met {l : Launch} {D : va_G} {cl : List vw_C} {ats : List FieldType} {y : MethodName} {ws ws' : List Cond} {rm : Room} {mc ms maxL : Nat} {cc : ByteArray} {ret : Option FieldType} {F : xm_F} (n : Nat)
    (hy : plainName y.cls = true) (hw : ws = Cond.code y cc maxL ret :: ws') (hmc : rm.cells = mc) (hms : rm.slots = ms)
    (hF : ∀ (p : Program) (e : Env) (s : State) (mm : MethodId) (args : Array Value) (below : List Frame) (meth : Method) (c : Code) (A : Nat → Prop) (Rh : Option Value → xm_M → Prop), xm_C p s mm args c cc maxL y.cls ws D cl ats A → meth.sig.returnType = ret → meth.locks = false → meth.name = y.name →
      ∀ lb, xm_le (F (xm_A p l e rm s mm args below meth c maxL D cl A (MQ below (xm_Q D cl Rh A) args s mc ms A)) Rh lb) (xm_A p l e rm s mm args below meth c maxL D cl A (MQ below (xm_Q D cl Rh A) args s mc ms A) lb)) :
    xm_Met l D cl ats y ws rm mc ms (fun as m Rh => (lg_sl as).length ≤ maxL ∧ xm_cp F mc ms as m Rh) := by
  intro as m sz Rh h
  refine Met.ofW hy hw ?_
  intro p e s mm args below meth c s₁ B hml hv
  obtain ⟨rfl, hsz, hP, hK, hN⟩ := hv
  subst hsz
  have hC : xm_C p s mm as.toArray c cc maxL y.cls ws D cl ats (xm_As m s.heap.size) := ⟨⟨B.exec, B.bytes, hml, findClass_of_methodNamed B.named, atoms_spec (ws := ws) B.pre⟩, hK, fun q hq => Or.inr hq, hN⟩
  have hX := h.2 _ (hF p e s mm as.toArray below meth c (xm_As m s.heap.size) Rh hC B.returns B.notSynchronized (name_of_methodNamed B.named B.method).1)
  rw [lg_entry_eq]
  exact hX s.heap [] 0 0 _ (lv_entry as h.1) hP (fun a ha => Or.inl ha) va_S.rf (by show 0 + mc ≤ rm.cells; omega) (by show 0 + ms ≤ rm.slots; omega)
end
section
/-! the transformers' introduction rows: from the goal behind an instruction to the goal before it -/
section XR
variable {K Kt Kf : xm_PT} {ls ls' : xm_L} {st r : List Value} {m : xm_M} {bc bs : Nat} {Rh : Option Value → xm_M → Prop}
theorem xr_push {v : Value} (h : K ls (v :: st) m bc bs) : xo_push v K ls st m bc bs := h
theorem xr_iload {i : Nat} {v : Int32} (hl : xm_lk ls i = some (.int v)) (h : K ls (.int v :: st) m bc bs) : xo_iload i K ls st m bc bs := by
  simp only [xo_iload, hl]; exact h
theorem xr_lload {i : Nat} {v : Int64} (hl : xm_lk ls i = some (.long v)) (h : K ls (.long v :: st) m bc bs) : xo_lload i K ls st m bc bs := by
  simp only [xo_lload, hl]; exact h
theorem xr_aload {i : Nat} {a : Nat} (hl : xm_lk ls i = some (.ref a)) (h : K ls (.ref a :: st) m bc bs) : xo_aload i K ls st m bc bs := by
  simp only [xo_aload, hl]; exact ⟨xm_ref_r a, h⟩
theorem xr_aloadq {i : Nat} {v : Value} (hl : xm_lk ls i = some v) (hr : xm_ref v) (h : K ls (v :: st) m bc bs) : xo_aload i K ls st m bc bs := by
  simp only [xo_aload, hl]; exact ⟨hr, h⟩
theorem xr_istore {i : Nat} {v : Int32} (h : K (xm_sto ls i (.int v)) r m bc bs) : xo_istore i K ls (.int v :: r) m bc bs := h
theorem xr_astore {i : Nat} {a : Nat} (h : K (xm_sto ls i (.ref a)) r m bc bs) : xo_astore i K ls (.ref a :: r) m bc bs := ⟨xm_ref_r a, h⟩
theorem xr_astoreq {i : Nat} {v : Value} (hr : xm_ref v) (h : K (xm_sto ls i v) r m bc bs) : xo_astore i K ls (v :: r) m bc bs := ⟨hr, h⟩
theorem xr_iinc {i : Nat} {n v : Int32} (hl : xm_lk ls i = some (.int v)) (h : K (xm_sto ls i (.int (v + n))) st m bc bs) : xo_iinc i n K ls st m bc bs := by
  simp only [xo_iinc, hl]; exact h
theorem xr_ibin {f : Int32 → Int32 → Int32} {x y : Int32} (h : K ls (.int (f x y) :: r) m bc bs) : xo_ibin f K ls (.int y :: .int x :: r) m bc bs := h
theorem xr_iun {f : Int32 → Int32} {x : Int32} (h : K ls (.int (f x) :: r) m bc bs) : xo_iun f K ls (.int x :: r) m bc bs := h
theorem xr_i2l {x : Int32} (h : K ls (.long x.toInt64 :: r) m bc bs) : xo_i2l K ls (.int x :: r) m bc bs := h
theorem xr_l2i {x : Int64} (h : K ls (.int x.toInt32 :: r) m bc bs) : xo_l2i K ls (.long x :: r) m bc bs := h
theorem xr_lcmp {x y : Int64} (h : K ls (.int (lg_cmp x y) :: r) m bc bs) : xo_lcmp K ls (.long y :: .long x :: r) m bc bs := h
theorem xr_dup {v : Value} (hv : v.category = 1) (h : K ls (v :: v :: r) m bc bs) : xo_dup K ls (v :: r) m bc bs := ⟨hv, h⟩
theorem xr_pop {v : Value} (hv : v.category = 1) (h : K ls r m bc bs) : xo_pop K ls (v :: r) m bc bs := ⟨hv, h⟩
theorem xr_dup_x1 {v w : Value} (hv : v.category = 1) (hw : w.category = 1) (h : K ls (v :: w :: v :: r) m bc bs) : xo_dup_x1 K ls (v :: w :: r) m bc bs := ⟨hv, hw, h⟩
theorem xr_dup2 {v w : Value} (hv : v.category = 1) (hw : w.category = 1) (h : K ls (v :: w :: v :: w :: r) m bc bs) : xo_dup2 K ls (v :: w :: r) m bc bs := ⟨hv, hw, h⟩
theorem xr_if {cnd : Int32 → Prop} {x : Int32} (ht : cnd x → Kt ls r m bc bs) (hf : ¬ cnd x → Kf ls r m bc bs) : xo_if cnd Kt Kf ls (.int x :: r) m bc bs := ⟨ht, hf⟩
theorem xr_ift {cnd : Int32 → Prop} {x : Int32} (hc : cnd x) (h : Kt ls r m bc bs) : xo_if cnd Kt Kf ls (.int x :: r) m bc bs := ⟨fun _ => h, fun q => absurd hc q⟩
theorem xr_iff {cnd : Int32 → Prop} {x : Int32} (hc : ¬ cnd x) (h : Kf ls r m bc bs) : xo_if cnd Kt Kf ls (.int x :: r) m bc bs := ⟨fun q => absurd q hc, fun _ => h⟩
theorem xr_cmp {cnd : Int32 → Int32 → Prop} {x y : Int32} (ht : cnd x y → Kt ls r m bc bs) (hf : ¬ cnd x y → Kf ls r m bc bs) : xo_icmp cnd Kt Kf ls (.int y :: .int x :: r) m bc bs := ⟨ht, hf⟩
theorem xr_cmpt {cnd : Int32 → Int32 → Prop} {x y : Int32} (hc : cnd x y) (h : Kt ls r m bc bs) : xo_icmp cnd Kt Kf ls (.int y :: .int x :: r) m bc bs := ⟨fun _ => h, fun q => absurd hc q⟩
theorem xr_cmpf {cnd : Int32 → Int32 → Prop} {x y : Int32} (hc : ¬ cnd x y) (h : Kf ls r m bc bs) : xo_icmp cnd Kt Kf ls (.int y :: .int x :: r) m bc bs := ⟨fun q => absurd q hc, fun _ => h⟩
theorem xr_isnull (h : Kt ls r m bc bs) : xo_null Kt Kf ls (.null :: r) m bc bs := ⟨xm_ref_n, fun _ => h, fun q => absurd rfl q⟩
theorem xr_nonnull {a : Nat} (h : Kf ls r m bc bs) : xo_null Kt Kf ls (.ref a :: r) m bc bs := ⟨xm_ref_r a, (fun q => by cases q), fun _ => h⟩
theorem xr_get {ci k a : Nat} {fs : List Value} {v : Value} (hm : m a = some (.inr (ci, fs))) (hv : fs[k]? = some v) (h : K ls (v :: r) m bc bs) : xo_get ci k K ls (.ref a :: r) m bc bs := by
  simp only [xo_get, hm, hv]; exact ⟨trivial, h⟩
theorem xr_put {ci k a : Nat} {ty : FieldType} {fs fs' : List Value} {v : Value} (hm : m a = some (.inr (ci, fs))) (hl : k < fs.length) (hn : narrow ty v = v) (hf : fits ty v = true) (he : fs.set k v = fs') (h : K ls r (xm_up m a (.inr (ci, fs'))) bc bs) : xo_put ci k ty K ls (v :: .ref a :: r) m bc bs := by
  subst he
  simp only [xo_put, hm]; exact ⟨hn, hf, trivial, hl, h⟩
theorem xr_alen {ats : List FieldType} {a t : Nat} {x : vp_A} {ty : FieldType} (hm : m a = some (.inl (t, x))) (ht : ats[t]? = some ty) (h : K ls (.int (nI x.1) :: r) m bc bs) : xo_alen ats K ls (.ref a :: r) m bc bs := by
  simp only [xo_alen, hm]; exact ⟨⟨ty, ht⟩, h⟩
theorem xr_iald {ats : List FieldType} {a t n j : Nat} {i : Int32} {f : Nat → Int32} (hm : m a = some (.inl (t, n, .inl f))) (ht : ats[t]? = some .int) (hi : i = nI j) (hj : j < n) (hn : n < 2 ^ 31) (h : K ls (.int (f j) :: r) m bc bs) : xo_iald ats K ls (.int i :: .ref a :: r) m bc bs := by
  subst hi
  simp only [xo_iald, hm]; refine ⟨ht, vp_in_nI hj hn, ?_⟩
  rw [nI_clamp (by omega)]; exact h
theorem xr_iast {ats : List FieldType} {a t n j : Nat} {i x : Int32} {f : Nat → Int32} (hm : m a = some (.inl (t, n, .inl f))) (ht : ats[t]? = some .int) (hi : i = nI j) (hj : j < n) (hn : n < 2 ^ 31) (h : K ls r (xm_up m a (.inl (t, n, .inl (upd f j x)))) bc bs) : xo_iast ats K ls (.int x :: .int i :: .ref a :: r) m bc bs := by
  subst hi
  simp only [xo_iast, hm]; refine ⟨ht, vp_in_nI hj hn, ?_⟩
  rw [nI_clamp (by omega)]; exact h
theorem xr_aald {ats : List FieldType} {a t n j : Nat} {i : Int32} {C : String} {q : Option Nat} {f : Nat → Option Nat} (hm : m a = some (.inl (t, n, .inr (.inr (.inr (.inr f)))))) (ht : ats[t]? = some (.object C)) (hi : i = nI j) (hj : j < n) (hn : n < 2 ^ 31) (hq : f j = q) (h : K ls (va_rf q :: r) m bc bs) : xo_aald ats K ls (.int i :: .ref a :: r) m bc bs := by
  subst hi
  simp only [xo_aald, hm]; refine ⟨⟨C, ht⟩, vp_in_nI hj hn, ?_⟩
  rw [nI_clamp (by omega), hq]; exact h
theorem xr_aast {ats : List FieldType} {cl : List vw_C} {a t n j v ci : Nat} {i : Int32} {vs : List Value} {f : Nat → Option Nat} (hm : m a = some (.inl (t, n, .inr (.inr (.inr (.inr f)))))) (hv : m v = some (.inr (ci, vs))) (ht : ats[t]? = some (.object (cl.getD ci ("", fun _ => ("", "", "", false), 0)).1)) (hc : ci < cl.length) (hi : i = nI j) (hj : j < n) (hn : n < 2 ^ 31) (h : K ls r (xm_up m a (.inl (t, n, .inr (.inr (.inr (.inr (va_up f j (some v)))))))) bc bs) : xo_aast ats cl K ls (.ref v :: .int i :: .ref a :: r) m bc bs := by
  subst hi
  simp only [xo_aast, hm, hv]; refine ⟨ht, hc, vp_in_nI hj hn, ?_⟩
  rw [nI_clamp (by omega)]; exact h
theorem xr_idiv {x y : Int32} (hy : ¬ y = 0) (h : K ls (.int (x / y) :: r) m bc bs) : xo_idiv K ls (.int y :: .int x :: r) m bc bs := ⟨hy, h⟩
theorem xr_irem {x y : Int32} (hy : ¬ y = 0) (h : K ls (.int (x - x / y * y) :: r) m bc bs) : xo_irem K ls (.int y :: .int x :: r) m bc bs := ⟨hy, h⟩
theorem xr_zald {ats : List FieldType} {a t n j : Nat} {i : Int32} {f : Nat → Int32} (hm : m a = some (.inl (t, n, .inl f))) (ht : ats[t]? = some .boolean) (hi : i = nI j) (hj : j < n) (hn : n < 2 ^ 31) (h : K ls (.int (f j) :: r) m bc bs) : xo_zald ats K ls (.int i :: .ref a :: r) m bc bs := by
  subst hi
  simp only [xo_zald, hm]; refine ⟨ht, vp_in_nI hj hn, ?_⟩
  rw [nI_clamp (by omega)]; exact h
theorem xr_zast {ats : List FieldType} {a t n j : Nat} {i x : Int32} {f : Nat → Int32} (hm : m a = some (.inl (t, n, .inl f))) (ht : ats[t]? = some .boolean) (hx : x = 0 ∨ x = 1) (hi : i = nI j) (hj : j < n) (hn : n < 2 ^ 31) (h : K ls r (xm_up m a (.inl (t, n, .inl (upd f j x)))) bc bs) : xo_zast ats K ls (.int x :: .int i :: .ref a :: r) m bc bs := by
  subst hi
  simp only [xo_zast, hm]; refine ⟨ht, hx, vp_in_nI hj hn, ?_⟩
  rw [nI_clamp (by omega)]; exact h
theorem xr_sld {b L j : Nat} {xs : Nat → Int32} {i : Int32} (hi : i = nI j) (hj : j < L) (hL : L < 2 ^ 31) (h : K ls (.int (xs j) :: r) m bc bs) : xo_sld b L xs K ls (.int i :: .ref b :: r) m bc bs := by
  subst hi
  refine ⟨rfl, vp_in_nI hj hL, ?_⟩
  rw [nI_clamp (by omega)]; exact h
theorem xr_slen {b L : Nat} (h : K ls (.int (nI L) :: r) m bc bs) : xo_slen b L K ls (.ref b :: r) m bc bs := ⟨rfl, h⟩
theorem xr_new {ci N : Nat} {fs : List Value} (h1 : 1 ≤ bc) (h2 : N ≤ bs) (h : ∀ q, m q = none → K ls (.ref q :: st) (xm_up m q (.inr (ci, fs))) (bc - 1) (bs - N)) : xo_new ci N fs K ls st m bc bs := ⟨h1, h2, h⟩
theorem xr_anew {t n : Nat} {i : Int32} (hi : i = nI n) (hn : n ≤ 100000) (h1 : 1 ≤ bc) (h2 : n ≤ bs) (h : ∀ q, m q = none → K ls (.ref q :: r) (xm_up m q (.inl (t, n, .inr (.inr (.inr (.inr (fun _ => none))))))) (bc - 1) (bs - n)) : xo_anew t K ls (.int i :: r) m bc bs := by
  subst hi
  simp only [xo_anew]
  rw [nI_clamp (by omega)]
  exact ⟨nI_pos (by omega), hn, h1, h2, h⟩
theorem xr_newi {t n : Nat} {i : Int32} (hi : i = nI n) (hn : n ≤ 100000) (h1 : 1 ≤ bc) (h2 : n ≤ bs) (h : ∀ q, m q = none → K ls (.ref q :: r) (xm_up m q (.inl (t, n, .inl (fun _ => 0)))) (bc - 1) (bs - n)) : xo_newi t K ls (.int i :: r) m bc bs := by
  subst hi
  simp only [xo_newi]
  rw [nI_clamp (by omega)]
  exact ⟨nI_pos (by omega), hn, h1, h2, h⟩
theorem xr_drop {a : Nat} (hr : r.length ≤ 4) (h : K ls r m bc bs) : xo_drop K ls (.ref a :: r) m bc bs := ⟨hr, h⟩
theorem xr_callV {ci n mc ms b : Nat} {CP : xm_CP} {as rest fs : List Value} (h1 : mc ≤ bc) (h2 : ms ≤ bs) (hs : xm_sp n st [] = some (as, .ref b :: rest)) (hr : rest.length ≤ 4) (hb : m b = some (.inr (ci, fs))) (h : CP (.ref b :: as) m (fun r m' => K ls (r.toList ++ rest) m' (bc - mc) (bs - ms))) : xo_callV ci n mc ms CP K ls st m bc bs := by
  refine ⟨h1, h2, ?_⟩
  simp only [hs, hb]
  exact ⟨hr, trivial, h⟩
theorem xr_callI {n mc ms b : Nat} {CP : xm_CP} {as rest : List Value} (h1 : mc ≤ bc) (h2 : ms ≤ bs) (hs : xm_sp n st [] = some (as, .ref b :: rest)) (hr : rest.length ≤ 4) (h : CP (.ref b :: as) m (fun r m' => K ls (r.toList ++ rest) m' (bc - mc) (bs - ms))) : xo_callI n mc ms CP K ls st m bc bs := by
  refine ⟨h1, h2, ?_⟩
  simp only [hs]
  exact ⟨hr, h⟩
theorem xr_callS {n mc ms : Nat} {CP : xm_CP} {as rest : List Value} (h1 : mc ≤ bc) (h2 : ms ≤ bs) (hs : xm_sp n st [] = some (as, rest)) (hr : rest.length ≤ 4) (h : CP as m (fun r m' => K ls (r.toList ++ rest) m' (bc - mc) (bs - ms))) : xo_callS n mc ms CP K ls st m bc bs := by
  refine ⟨h1, h2, ?_⟩
  simp only [hs]
  exact ⟨hr, h⟩
theorem xr_jmp {ks : List Nat} (he : xm_keep ls ks = ls') (h : K ls' st m bc bs) : xo_jmp ks K ls st m bc bs := by
  subst he; exact h
theorem xr_iret {v : Int32} (h : Rh (some (.int v)) m) : xo_iret Rh ls [.int v] m bc bs := h
theorem xr_zret {v : Int32} (hv : v = 0 ∨ v = 1) (h : Rh (some (.int v)) m) : xo_zret Rh ls [.int v] m bc bs := ⟨hv, h⟩
theorem xr_lret {v : Int64} (h : Rh (some (.long v)) m) : xo_lret Rh ls [.long v] m bc bs := h
theorem xr_aret {v : Value} (hv : xm_ref v) (h : Rh (some v) m) : xo_aret Rh ls [v] m bc bs := ⟨hv, h⟩
theorem xr_vret (h : Rh none m) : xo_vret Rh ls [] m bc bs := h
end XR
end
section
/-! names: classes, fields, arrays, methods; words of the tables. Written by wip/tools/gen_all.py out of the task. -/
def R_V : String := "BlockVault"
def F_V : u_T := fun k => match k with
  | 0 => ("BlockVault", "blocks", "[LBlockVault$Block;", true)
  | 1 => ("BlockVault", "index", "[LBlockVault$Entry;", true)
  | 2 => ("BlockVault", "clock", "I", false)
  | 3 => ("BlockVault", "nextStamp", "I", false)
  | 4 => ("BlockVault", "seals", "I", false)
  | 5 => ("BlockVault", "blocksWritten", "I", false)
  | 6 => ("BlockVault", "copiesMoved", "I", false)
  | _ => ("BlockVault", "down", "Z", false)
def t_V : Nat → FieldType := fun k => match k with
  | 0 => (.array (.object "BlockVault$Block"))
  | 1 => (.array (.object "BlockVault$Entry"))
  | 2 => .int
  | 3 => .int
  | 4 => .int
  | 5 => .int
  | 6 => .int
  | _ => .boolean
theorem n_V : ∀ a, a < 8 → ∀ b, b < 8 → a ≠ b → (F_V a).2.1 ≠ (F_V b).2.1 := by decide +kernel
theorem t_V_ok : ∀ k, k < 8 → parseFieldDescriptor (F_V k).2.2.1 = some (t_V k) := by decide +kernel
def R_C : String := "BlockVault$Copy"
def F_C : u_T := fun k => match k with
  | 0 => ("BlockVault$Copy", "key", "I", true)
  | 1 => ("BlockVault$Copy", "value", "I", true)
  | 2 => ("BlockVault$Copy", "size", "I", true)
  | 3 => ("BlockVault$Copy", "generation", "I", true)
  | 4 => ("BlockVault$Copy", "voidTime", "I", true)
  | 5 => ("BlockVault$Copy", "stamp", "I", true)
  | _ => ("BlockVault$Copy", "tombstone", "Z", true)
def t_C : Nat → FieldType := fun k => match k with
  | 0 => .int
  | 1 => .int
  | 2 => .int
  | 3 => .int
  | 4 => .int
  | 5 => .int
  | _ => .boolean
theorem n_C : ∀ a, a < 7 → ∀ b, b < 7 → a ≠ b → (F_C a).2.1 ≠ (F_C b).2.1 := by decide +kernel
theorem t_C_ok : ∀ k, k < 7 → parseFieldDescriptor (F_C k).2.2.1 = some (t_C k) := by decide +kernel
def R_R : String := "BlockVault$Row"
def F_R : u_T := fun k => match k with
  | 0 => ("BlockVault$Row", "copies", "[LBlockVault$Copy;", true)
  | _ => ("BlockVault$Row", "length", "I", false)
def t_R : Nat → FieldType := fun k => match k with
  | 0 => (.array (.object "BlockVault$Copy"))
  | _ => .int
theorem n_R : ∀ a, a < 2 → ∀ b, b < 2 → a ≠ b → (F_R a).2.1 ≠ (F_R b).2.1 := by decide +kernel
theorem t_R_ok : ∀ k, k < 2 → parseFieldDescriptor (F_R k).2.2.1 = some (t_R k) := by decide +kernel
def R_B : String := "BlockVault$Block"
def F_B : u_T := fun k => match k with
  | 0 => ("BlockVault$Block", "content", "LBlockVault$Row;", true)
  | 1 => ("BlockVault$Block", "device", "LBlockVault$Row;", true)
  | 2 => ("BlockVault$Block", "state", "I", false)
  | 3 => ("BlockVault$Block", "sealedAt", "I", false)
  | _ => ("BlockVault$Block", "waits", "I", false)
def t_B : Nat → FieldType := fun k => match k with
  | 0 => (.object "BlockVault$Row")
  | 1 => (.object "BlockVault$Row")
  | 2 => .int
  | 3 => .int
  | _ => .int
theorem n_B : ∀ a, a < 5 → ∀ b, b < 5 → a ≠ b → (F_B a).2.1 ≠ (F_B b).2.1 := by decide +kernel
theorem t_B_ok : ∀ k, k < 5 → parseFieldDescriptor (F_B k).2.2.1 = some (t_B k) := by decide +kernel
def R_E : String := "BlockVault$Entry"
def F_E : u_T := fun k => match k with
  | 0 => ("BlockVault$Entry", "copy", "LBlockVault$Copy;", false)
  | 1 => ("BlockVault$Entry", "home", "I", false)
  | _ => ("BlockVault$Entry", "place", "I", false)
def t_E : Nat → FieldType := fun k => match k with
  | 0 => (.object "BlockVault$Copy")
  | 1 => .int
  | _ => .int
theorem n_E : ∀ a, a < 3 → ∀ b, b < 3 → a ≠ b → (F_E a).2.1 ≠ (F_E b).2.1 := by decide +kernel
theorem t_E_ok : ∀ k, k < 3 → parseFieldDescriptor (F_E k).2.2.1 = some (t_E k) := by decide +kernel
def R_M : String := "BlockVaultModel"
def F_M : u_T := fun k => match k with
  | 0 => ("BlockVaultModel", "tomb", "[Z", true)
  | 1 => ("BlockVaultModel", "key", "[I", true)
  | 2 => ("BlockVaultModel", "value", "[I", true)
  | 3 => ("BlockVaultModel", "size", "[I", true)
  | 4 => ("BlockVaultModel", "generation", "[I", true)
  | 5 => ("BlockVaultModel", "end", "[I", true)
  | 6 => ("BlockVaultModel", "stamp", "[I", true)
  | 7 => ("BlockVaultModel", "many", "[I", true)
  | 8 => ("BlockVaultModel", "state", "[I", true)
  | 9 => ("BlockVaultModel", "since", "[I", true)
  | 10 => ("BlockVaultModel", "waits", "[I", true)
  | 11 => ("BlockVaultModel", "entry", "[I", true)
  | 12 => ("BlockVaultModel", "clock", "I", false)
  | 13 => ("BlockVaultModel", "next", "I", false)
  | 14 => ("BlockVaultModel", "turn", "I", false)
  | 15 => ("BlockVaultModel", "written", "I", false)
  | 16 => ("BlockVaultModel", "moved", "I", false)
  | _ => ("BlockVaultModel", "down", "Z", false)
def t_M : Nat → FieldType := fun k => match k with
  | 0 => (.array .boolean)
  | 1 => (.array .int)
  | 2 => (.array .int)
  | 3 => (.array .int)
  | 4 => (.array .int)
  | 5 => (.array .int)
  | 6 => (.array .int)
  | 7 => (.array .int)
  | 8 => (.array .int)
  | 9 => (.array .int)
  | 10 => (.array .int)
  | 11 => (.array .int)
  | 12 => .int
  | 13 => .int
  | 14 => .int
  | 15 => .int
  | 16 => .int
  | _ => .boolean
theorem n_M : ∀ a, a < 18 → ∀ b, b < 18 → a ≠ b → (F_M a).2.1 ≠ (F_M b).2.1 := by decide +kernel
theorem t_M_ok : ∀ k, k < 18 → parseFieldDescriptor (F_M k).2.2.1 = some (t_M k) := by decide +kernel
abbrev classes : List vw_C := [(R_V, F_V, 8), (R_C, F_C, 7), (R_R, F_R, 2), (R_B, F_B, 5), (R_E, F_E, 3), (R_M, F_M, 18)]
abbrev ats : List FieldType := [.object "BlockVault$Block", .object "BlockVault$Entry", .object "BlockVault$Copy", .int, .boolean]
abbrev b_V_init : ByteArray := prog_1_method_1_code
abbrev y_V_init : MethodName := ⟨"BlockVault", "<init>", "()V"⟩
abbrev w_V_init : List Cond := .code y_V_init b_V_init 2 none :: lw_gt
abbrev b_B_init : ByteArray := prog_2_method_1_code
abbrev y_B_init : MethodName := ⟨"BlockVault$Block", "<init>", "()V"⟩
abbrev w_B_init : List Cond := .code y_B_init b_B_init 1 none :: lw_gt
abbrev b_R_init : ByteArray := prog_5_method_1_code
abbrev y_R_init : MethodName := ⟨"BlockVault$Row", "<init>", "()V"⟩
abbrev w_R_init : List Cond := .code y_R_init b_R_init 1 none :: lw_gt
abbrev b_E_init : ByteArray := prog_4_method_1_code
abbrev y_E_init : MethodName := ⟨"BlockVault$Entry", "<init>", "()V"⟩
abbrev w_E_init : List Cond := .code y_E_init b_E_init 1 none :: lw_gt
abbrev b_V_put : ByteArray := prog_1_method_2_code
abbrev y_V_put : MethodName := ⟨"BlockVault", "put", "(IIIII)I"⟩
abbrev w_V_put : List Cond := .code y_V_put b_V_put 6 (some .int) :: lw_gt
abbrev b_V_isKey : ByteArray := prog_1_method_20_code
abbrev y_V_isKey : MethodName := ⟨"BlockVault", "isKey", "(I)Z"⟩
abbrev w_V_isKey : List Cond := .code y_V_isKey b_V_isKey 1 (some .boolean) :: lw_gt
abbrev b_V_isLife : ByteArray := prog_1_method_22_code
abbrev y_V_isLife : MethodName := ⟨"BlockVault", "isLife", "(I)Z"⟩
abbrev w_V_isLife : List Cond := .code y_V_isLife b_V_isLife 1 (some .boolean) :: lw_gt
abbrev b_V_ruleHolds : ByteArray := prog_1_method_24_code
abbrev y_V_ruleHolds : MethodName := ⟨"BlockVault", "ruleHolds", "(II)Z"⟩
abbrev w_V_ruleHolds : List Cond := .code y_V_ruleHolds b_V_ruleHolds 4 (some .boolean) :: lw_gt
abbrev b_V_isThere : ByteArray := prog_1_method_23_code
abbrev y_V_isThere : MethodName := ⟨"BlockVault", "isThere", "(I)Z"⟩
abbrev w_V_isThere : List Cond := .code y_V_isThere b_V_isThere 3 (some .boolean) :: lw_gt
abbrev b_C_isExpired : ByteArray := prog_3_method_2_code
abbrev y_C_isExpired : MethodName := ⟨"BlockVault$Copy", "isExpired", "(I)Z"⟩
abbrev w_C_isExpired : List Cond := .code y_C_isExpired b_C_isExpired 2 (some .boolean) :: lw_gt
abbrev b_V_writeRecord : ByteArray := prog_1_method_25_code
abbrev y_V_writeRecord : MethodName := ⟨"BlockVault", "writeRecord", "(IIII)I"⟩
abbrev w_V_writeRecord : List Cond := .code y_V_writeRecord b_V_writeRecord 8 (some .int) :: lw_gt
abbrev b_C_init : ByteArray := prog_3_method_1_code
abbrev y_C_init : MethodName := ⟨"BlockVault$Copy", "<init>", "(IIIIIIZ)V"⟩
abbrev w_C_init : List Cond := .code y_C_init b_C_init 8 none :: lw_gt
abbrev b_V_write : ByteArray := prog_1_method_27_code
abbrev y_V_write : MethodName := ⟨"BlockVault", "write", "(LBlockVault$Copy;)I"⟩
abbrev w_V_write : List Cond := .code y_V_write b_V_write 3 (some .int) :: lw_gt
abbrev b_V_append : ByteArray := prog_1_method_28_code
abbrev y_V_append : MethodName := ⟨"BlockVault", "append", "(LBlockVault$Copy;)I"⟩
abbrev w_V_append : List Cond := .code y_V_append b_V_append 6 (some .int) :: lw_gt
abbrev b_V_currentWithRoom : ByteArray := prog_1_method_29_code
abbrev y_V_currentWithRoom : MethodName := ⟨"BlockVault", "currentWithRoom", "(I)I"⟩
abbrev w_V_currentWithRoom : List Cond := .code y_V_currentWithRoom b_V_currentWithRoom 4 (some .int) :: lw_gt
abbrev b_V_leastInState : ByteArray := prog_1_method_47_code
abbrev y_V_leastInState : MethodName := ⟨"BlockVault", "leastInState", "(I)I"⟩
abbrev w_V_leastInState : List Cond := .code y_V_leastInState b_V_leastInState 3 (some .int) :: lw_gt
abbrev b_R_sizes : ByteArray := prog_5_method_6_code
abbrev y_R_sizes : MethodName := ⟨"BlockVault$Row", "sizes", "()I"⟩
abbrev w_R_sizes : List Cond := .code y_R_sizes b_R_sizes 3 (some .int) :: lw_gt
abbrev b_V_countInState : ByteArray := prog_1_method_48_code
abbrev y_V_countInState : MethodName := ⟨"BlockVault", "countInState", "(I)I"⟩
abbrev w_V_countInState : List Cond := .code y_V_countInState b_V_countInState 4 (some .int) :: lw_gt
abbrev b_V_sealBlock : ByteArray := prog_1_method_30_code
abbrev y_V_sealBlock : MethodName := ⟨"BlockVault", "sealBlock", "(I)V"⟩
abbrev w_V_sealBlock : List Cond := .code y_V_sealBlock b_V_sealBlock 2 none :: lw_gt
abbrev b_R_add : ByteArray := prog_5_method_3_code
abbrev y_R_add : MethodName := ⟨"BlockVault$Row", "add", "(LBlockVault$Copy;)V"⟩
abbrev w_R_add : List Cond := .code y_R_add b_R_add 2 none :: lw_gt
abbrev b_E_point : ByteArray := prog_4_method_2_code
abbrev y_E_point : MethodName := ⟨"BlockVault$Entry", "point", "(LBlockVault$Copy;II)V"⟩
abbrev w_E_point : List Cond := .code y_E_point b_E_point 4 none :: lw_gt
abbrev b_V_emptyIfDead : ByteArray := prog_1_method_33_code
abbrev y_V_emptyIfDead : MethodName := ⟨"BlockVault", "emptyIfDead", "(I)V"⟩
abbrev w_V_emptyIfDead : List Cond := .code y_V_emptyIfDead b_V_emptyIfDead 2 none :: lw_gt
abbrev b_V_isBlock : ByteArray := prog_1_method_21_code
abbrev y_V_isBlock : MethodName := ⟨"BlockVault", "isBlock", "(I)Z"⟩
abbrev w_V_isBlock : List Cond := .code y_V_isBlock b_V_isBlock 1 (some .boolean) :: lw_gt
abbrev b_V_hasLiveCopy : ByteArray := prog_1_method_50_code
abbrev y_V_hasLiveCopy : MethodName := ⟨"BlockVault", "hasLiveCopy", "(I)Z"⟩
abbrev w_V_hasLiveCopy : List Cond := .code y_V_hasLiveCopy b_V_hasLiveCopy 3 (some .boolean) :: lw_gt
abbrev b_R_clear : ByteArray := prog_5_method_4_code
abbrev y_R_clear : MethodName := ⟨"BlockVault$Row", "clear", "()V"⟩
abbrev w_R_clear : List Cond := .code y_R_clear b_R_clear 1 none :: lw_gt
abbrev b_V_unwrittenBlocks : ByteArray := prog_1_method_35_code
abbrev y_V_unwrittenBlocks : MethodName := ⟨"BlockVault", "unwrittenBlocks", "()I"⟩
abbrev w_V_unwrittenBlocks : List Cond := .code y_V_unwrittenBlocks b_V_unwrittenBlocks 3 (some .int) :: lw_gt
abbrev b_V_freeIfWaitIsOver : ByteArray := prog_1_method_34_code
abbrev y_V_freeIfWaitIsOver : MethodName := ⟨"BlockVault", "freeIfWaitIsOver", "(I)V"⟩
abbrev w_V_freeIfWaitIsOver : List Cond := .code y_V_freeIfWaitIsOver b_V_freeIfWaitIsOver 2 none :: lw_gt
abbrev b_V_get : ByteArray := prog_1_method_3_code
abbrev y_V_get : MethodName := ⟨"BlockVault", "get", "(I)J"⟩
abbrev w_V_get : List Cond := .code y_V_get b_V_get 2 (some .long) :: lw_gt
abbrev b_V_touch : ByteArray := prog_1_method_4_code
abbrev y_V_touch : MethodName := ⟨"BlockVault", "touch", "(II)I"⟩
abbrev w_V_touch : List Cond := .code y_V_touch b_V_touch 4 (some .int) :: lw_gt
abbrev b_V_remove : ByteArray := prog_1_method_5_code
abbrev y_V_remove : MethodName := ⟨"BlockVault", "remove", "(IZ)I"⟩
abbrev w_V_remove : List Cond := .code y_V_remove b_V_remove 4 (some .int) :: lw_gt
abbrev b_V_dropEntry : ByteArray := prog_1_method_36_code
abbrev y_V_dropEntry : MethodName := ⟨"BlockVault", "dropEntry", "(I)V"⟩
abbrev w_V_dropEntry : List Cond := .code y_V_dropEntry b_V_dropEntry 3 none :: lw_gt
abbrev b_E_forget : ByteArray := prog_4_method_3_code
abbrev y_E_forget : MethodName := ⟨"BlockVault$Entry", "forget", "()V"⟩
abbrev w_E_forget : List Cond := .code y_E_forget b_E_forget 1 none :: lw_gt
abbrev b_V_writeTombstone : ByteArray := prog_1_method_26_code
abbrev y_V_writeTombstone : MethodName := ⟨"BlockVault", "writeTombstone", "(I)I"⟩
abbrev w_V_writeTombstone : List Cond := .code y_V_writeTombstone b_V_writeTombstone 2 (some .int) :: lw_gt
abbrev b_V_evict : ByteArray := prog_1_method_6_code
abbrev y_V_evict : MethodName := ⟨"BlockVault", "evict", "(I)I"⟩
abbrev w_V_evict : List Cond := .code y_V_evict b_V_evict 4 (some .int) :: lw_gt
abbrev b_V_firstToExpire : ByteArray := prog_1_method_37_code
abbrev y_V_firstToExpire : MethodName := ⟨"BlockVault", "firstToExpire", "()I"⟩
abbrev w_V_firstToExpire : List Cond := .code y_V_firstToExpire b_V_firstToExpire 3 (some .int) :: lw_gt
abbrev b_V_tick : ByteArray := prog_1_method_7_code
abbrev y_V_tick : MethodName := ⟨"BlockVault", "tick", "(I)I"⟩
abbrev w_V_tick : List Cond := .code y_V_tick b_V_tick 2 (some .int) :: lw_gt
abbrev b_V_sweep : ByteArray := prog_1_method_8_code
abbrev y_V_sweep : MethodName := ⟨"BlockVault", "sweep", "()I"⟩
abbrev w_V_sweep : List Cond := .code y_V_sweep b_V_sweep 3 (some .int) :: lw_gt
abbrev b_V_isNeedless : ByteArray := prog_1_method_38_code
abbrev y_V_isNeedless : MethodName := ⟨"BlockVault", "isNeedless", "(I)Z"⟩
abbrev w_V_isNeedless : List Cond := .code y_V_isNeedless b_V_isNeedless 3 (some .boolean) :: lw_gt
abbrev b_V_hidesAnother : ByteArray := prog_1_method_39_code
abbrev y_V_hidesAnother : MethodName := ⟨"BlockVault", "hidesAnother", "(LBlockVault$Copy;)Z"⟩
abbrev w_V_hidesAnother : List Cond := .code y_V_hidesAnother b_V_hidesAnother 3 (some .boolean) :: lw_gt
abbrev b_R_hasOther : ByteArray := prog_5_method_8_code
abbrev y_R_hasOther : MethodName := ⟨"BlockVault$Row", "hasOther", "(LBlockVault$Copy;)Z"⟩
abbrev w_R_hasOther : List Cond := .code y_R_hasOther b_R_hasOther 3 (some .boolean) :: lw_gt
abbrev b_V_seal : ByteArray := prog_1_method_9_code
abbrev y_V_seal : MethodName := ⟨"BlockVault", "seal", "()I"⟩
abbrev w_V_seal : List Cond := .code y_V_seal b_V_seal 2 (some .int) :: lw_gt
abbrev b_V_flush : ByteArray := prog_1_method_10_code
abbrev y_V_flush : MethodName := ⟨"BlockVault", "flush", "(I)I"⟩
abbrev w_V_flush : List Cond := .code y_V_flush b_V_flush 4 (some .int) :: lw_gt
abbrev b_V_longestSealed : ByteArray := prog_1_method_49_code
abbrev y_V_longestSealed : MethodName := ⟨"BlockVault", "longestSealed", "()I"⟩
abbrev w_V_longestSealed : List Cond := .code y_V_longestSealed b_V_longestSealed 3 (some .int) :: lw_gt
abbrev b_V_writeBlock : ByteArray := prog_1_method_31_code
abbrev y_V_writeBlock : MethodName := ⟨"BlockVault", "writeBlock", "(I)V"⟩
abbrev w_V_writeBlock : List Cond := .code y_V_writeBlock b_V_writeBlock 3 none :: lw_gt
abbrev b_R_takeFirst : ByteArray := prog_5_method_5_code
abbrev y_R_takeFirst : MethodName := ⟨"BlockVault$Row", "takeFirst", "(ILBlockVault$Row;)V"⟩
abbrev w_R_takeFirst : List Cond := .code y_R_takeFirst b_R_takeFirst 4 none :: lw_gt
abbrev b_V_endWaitsFor : ByteArray := prog_1_method_32_code
abbrev y_V_endWaitsFor : MethodName := ⟨"BlockVault", "endWaitsFor", "(I)V"⟩
abbrev w_V_endWaitsFor : List Cond := .code y_V_endWaitsFor b_V_endWaitsFor 3 none :: lw_gt
abbrev b_V_compact : ByteArray := prog_1_method_11_code
abbrev y_V_compact : MethodName := ⟨"BlockVault", "compact", "(I)I"⟩
abbrev w_V_compact : List Cond := .code y_V_compact b_V_compact 4 (some .int) :: lw_gt
abbrev b_V_sparsestWritten : ByteArray := prog_1_method_40_code
abbrev y_V_sparsestWritten : MethodName := ⟨"BlockVault", "sparsestWritten", "(I)I"⟩
abbrev w_V_sparsestWritten : List Cond := .code y_V_sparsestWritten b_V_sparsestWritten 5 (some .int) :: lw_gt
abbrev b_V_used : ByteArray := prog_1_method_52_code
abbrev y_V_used : MethodName := ⟨"BlockVault", "used", "(I)I"⟩
abbrev w_V_used : List Cond := .code y_V_used b_V_used 5 (some .int) :: lw_gt
abbrev b_V_moveLiveCopies : ByteArray := prog_1_method_41_code
abbrev y_V_moveLiveCopies : MethodName := ⟨"BlockVault", "moveLiveCopies", "(I)I"⟩
abbrev w_V_moveLiveCopies : List Cond := .code y_V_moveLiveCopies b_V_moveLiveCopies 6 (some .int) :: lw_gt
abbrev b_R_at : ByteArray := prog_5_method_2_code
abbrev y_R_at : MethodName := ⟨"BlockVault$Row", "at", "(I)LBlockVault$Copy;"⟩
abbrev w_R_at : List Cond := .code y_R_at b_R_at 2 (some (.object "BlockVault$Copy")) :: lw_gt
abbrev b_V_isLiveAt : ByteArray := prog_1_method_51_code
abbrev y_V_isLiveAt : MethodName := ⟨"BlockVault", "isLiveAt", "(LBlockVault$Copy;II)Z"⟩
abbrev w_V_isLiveAt : List Cond := .code y_V_isLiveAt b_V_isLiveAt 5 (some .boolean) :: lw_gt
abbrev b_V_crash : ByteArray := prog_1_method_12_code
abbrev y_V_crash : MethodName := ⟨"BlockVault", "crash", "(I)I"⟩
abbrev w_V_crash : List Cond := .code y_V_crash b_V_crash 3 (some .int) :: lw_gt
abbrev b_V_loseMemory : ByteArray := prog_1_method_42_code
abbrev y_V_loseMemory : MethodName := ⟨"BlockVault", "loseMemory", "()V"⟩
abbrev w_V_loseMemory : List Cond := .code y_V_loseMemory b_V_loseMemory 2 none :: lw_gt
abbrev b_V_start : ByteArray := prog_1_method_13_code
abbrev y_V_start : MethodName := ⟨"BlockVault", "start", "()I"⟩
abbrev w_V_start : List Cond := .code y_V_start b_V_start 1 (some .int) :: lw_gt
abbrev b_V_nameNewestCopies : ByteArray := prog_1_method_43_code
abbrev y_V_nameNewestCopies : MethodName := ⟨"BlockVault", "nameNewestCopies", "()V"⟩
abbrev w_V_nameNewestCopies : List Cond := .code y_V_nameNewestCopies b_V_nameNewestCopies 5 none :: lw_gt
abbrev b_C_isNewerThan : ByteArray := prog_3_method_3_code
abbrev y_C_isNewerThan : MethodName := ⟨"BlockVault$Copy", "isNewerThan", "(LBlockVault$Copy;)Z"⟩
abbrev w_C_isNewerThan : List Cond := .code y_C_isNewerThan b_C_isNewerThan 2 (some .boolean) :: lw_gt
abbrev b_V_dropExpiredFound : ByteArray := prog_1_method_44_code
abbrev y_V_dropExpiredFound : MethodName := ⟨"BlockVault", "dropExpiredFound", "()V"⟩
abbrev w_V_dropExpiredFound : List Cond := .code y_V_dropExpiredFound b_V_dropExpiredFound 3 none :: lw_gt
abbrev b_V_reopenBlocks : ByteArray := prog_1_method_45_code
abbrev y_V_reopenBlocks : MethodName := ⟨"BlockVault", "reopenBlocks", "()V"⟩
abbrev w_V_reopenBlocks : List Cond := .code y_V_reopenBlocks b_V_reopenBlocks 2 none :: lw_gt
abbrev b_V_greatestStamp : ByteArray := prog_1_method_46_code
abbrev y_V_greatestStamp : MethodName := ⟨"BlockVault", "greatestStamp", "()I"⟩
abbrev w_V_greatestStamp : List Cond := .code y_V_greatestStamp b_V_greatestStamp 3 (some .int) :: lw_gt
abbrev b_R_greatestStamp : ByteArray := prog_5_method_7_code
abbrev y_R_greatestStamp : MethodName := ⟨"BlockVault$Row", "greatestStamp", "()I"⟩
abbrev w_R_greatestStamp : List Cond := .code y_R_greatestStamp b_R_greatestStamp 3 (some .int) :: lw_gt
abbrev b_J_max : ByteArray := prog_9_method_65_code
abbrev y_J_max : MethodName := ⟨"java/lang/Math", "max", "(II)I"⟩
abbrev w_J_max : List Cond := .code y_J_max b_J_max 2 (some .int) :: lw_gt
abbrev b_V_countThere : ByteArray := prog_1_method_53_code
abbrev y_V_countThere : MethodName := ⟨"BlockVault", "countThere", "()I"⟩
abbrev w_V_countThere : List Cond := .code y_V_countThere b_V_countThere 3 (some .int) :: lw_gt
abbrev b_V_entry : ByteArray := prog_1_method_14_code
abbrev y_V_entry : MethodName := ⟨"BlockVault", "entry", "(II)I"⟩
abbrev w_V_entry : List Cond := .code y_V_entry b_V_entry 4 (some .int) :: lw_gt
abbrev b_V_next : ByteArray := prog_1_method_15_code
abbrev y_V_next : MethodName := ⟨"BlockVault", "next", "(I)I"⟩
abbrev w_V_next : List Cond := .code y_V_next b_V_next 3 (some .int) :: lw_gt
abbrev b_V_rank : ByteArray := prog_1_method_16_code
abbrev y_V_rank : MethodName := ⟨"BlockVault", "rank", "(I)I"⟩
abbrev w_V_rank : List Cond := .code y_V_rank b_V_rank 4 (some .int) :: lw_gt
abbrev b_V_block : ByteArray := prog_1_method_17_code
abbrev y_V_block : MethodName := ⟨"BlockVault", "block", "(II)I"⟩
abbrev w_V_block : List Cond := .code y_V_block b_V_block 3 (some .int) :: lw_gt
abbrev b_I_bitCount : ByteArray := prog_8_method_49_code
abbrev y_I_bitCount : MethodName := ⟨"java/lang/Integer", "bitCount", "(I)I"⟩
abbrev w_I_bitCount : List Cond := .code y_I_bitCount b_I_bitCount 1 (some .int) :: lw_gt
abbrev b_V_image : ByteArray := prog_1_method_18_code
abbrev y_V_image : MethodName := ⟨"BlockVault", "image", "(II)I"⟩
abbrev w_V_image : List Cond := .code y_V_image b_V_image 4 (some .int) :: lw_gt
abbrev b_V_count : ByteArray := prog_1_method_19_code
abbrev y_V_count : MethodName := ⟨"BlockVault", "count", "(I)I"⟩
abbrev w_V_count : List Cond := .code y_V_count b_V_count 2 (some .int) :: lw_gt
abbrev b_V_countEntries : ByteArray := prog_1_method_54_code
abbrev y_V_countEntries : MethodName := ⟨"BlockVault", "countEntries", "()I"⟩
abbrev w_V_countEntries : List Cond := .code y_V_countEntries b_V_countEntries 3 (some .int) :: lw_gt
abbrev b_V_countTombstones : ByteArray := prog_1_method_55_code
abbrev y_V_countTombstones : MethodName := ⟨"BlockVault", "countTombstones", "()I"⟩
abbrev w_V_countTombstones : List Cond := .code y_V_countTombstones b_V_countTombstones 3 (some .int) :: lw_gt
abbrev b_M_init : ByteArray := prog_7_method_1_code
abbrev y_M_init : MethodName := ⟨"BlockVaultModel", "<init>", "()V"⟩
abbrev w_M_init : List Cond := .code y_M_init b_M_init 2 none :: lw_gt
abbrev b_M_put : ByteArray := prog_7_method_16_code
abbrev y_M_put : MethodName := ⟨"BlockVaultModel", "put", "(IIIII)I"⟩
abbrev w_M_put : List Cond := .code y_M_put b_M_put 8 (some .int) :: lw_gt
abbrev b_M_in : ByteArray := prog_7_method_2_code
abbrev y_M_in : MethodName := ⟨"BlockVaultModel", "in", "(III)Z"⟩
abbrev w_M_in : List Cond := .code y_M_in b_M_in 3 (some .boolean) :: lw_gt
abbrev b_M_isThere : ByteArray := prog_7_method_5_code
abbrev y_M_isThere : MethodName := ⟨"BlockVaultModel", "isThere", "(I)Z"⟩
abbrev w_M_isThere : List Cond := .code y_M_isThere b_M_isThere 2 (some .boolean) :: lw_gt
abbrev b_M_expired : ByteArray := prog_7_method_4_code
abbrev y_M_expired : MethodName := ⟨"BlockVaultModel", "expired", "(I)Z"⟩
abbrev w_M_expired : List Cond := .code y_M_expired b_M_expired 2 (some .boolean) :: lw_gt
abbrev b_M_writeRecord : ByteArray := prog_7_method_14_code
abbrev y_M_writeRecord : MethodName := ⟨"BlockVaultModel", "writeRecord", "(IIIII)I"⟩
abbrev w_M_writeRecord : List Cond := .code y_M_writeRecord b_M_writeRecord 7 (some .int) :: lw_gt
abbrev b_M_write : ByteArray := prog_7_method_13_code
abbrev y_M_write : MethodName := ⟨"BlockVaultModel", "write", "()I"⟩
abbrev w_M_write : List Cond := .code y_M_write b_M_write 2 (some .int) :: lw_gt
abbrev b_M_append : ByteArray := prog_7_method_12_code
abbrev y_M_append : MethodName := ⟨"BlockVaultModel", "append", "()I"⟩
abbrev w_M_append : List Cond := .code y_M_append b_M_append 3 (some .int) :: lw_gt
abbrev b_M_first : ByteArray := prog_7_method_7_code
abbrev y_M_first : MethodName := ⟨"BlockVaultModel", "first", "(I)I"⟩
abbrev w_M_first : List Cond := .code y_M_first b_M_first 4 (some .int) :: lw_gt
abbrev b_M_room : ByteArray := prog_7_method_8_code
abbrev y_M_room : MethodName := ⟨"BlockVaultModel", "room", "(I)I"⟩
abbrev w_M_room : List Cond := .code y_M_room b_M_room 4 (some .int) :: lw_gt
abbrev b_M_sealed : ByteArray := prog_7_method_6_code
abbrev y_M_sealed : MethodName := ⟨"BlockVaultModel", "sealed", "()I"⟩
abbrev w_M_sealed : List Cond := .code y_M_sealed b_M_sealed 3 (some .int) :: lw_gt
abbrev b_M_close : ByteArray := prog_7_method_11_code
abbrev y_M_close : MethodName := ⟨"BlockVaultModel", "close", "(I)V"⟩
abbrev w_M_close : List Cond := .code y_M_close b_M_close 2 none :: lw_gt
abbrev b_M_copy : ByteArray := prog_7_method_3_code
abbrev y_M_copy : MethodName := ⟨"BlockVaultModel", "copy", "(II)V"⟩
abbrev w_M_copy : List Cond := .code y_M_copy b_M_copy 3 none :: lw_gt
abbrev b_M_settle : ByteArray := prog_7_method_10_code
abbrev y_M_settle : MethodName := ⟨"BlockVaultModel", "settle", "()V"⟩
abbrev w_M_settle : List Cond := .code y_M_settle b_M_settle 3 none :: lw_gt
abbrev b_M_used : ByteArray := prog_7_method_9_code
abbrev y_M_used : MethodName := ⟨"BlockVaultModel", "used", "(I)I"⟩
abbrev w_M_used : List Cond := .code y_M_used b_M_used 4 (some .int) :: lw_gt
abbrev b_M_get : ByteArray := prog_7_method_17_code
abbrev y_M_get : MethodName := ⟨"BlockVaultModel", "get", "(I)J"⟩
abbrev w_M_get : List Cond := .code y_M_get b_M_get 2 (some .long) :: lw_gt
abbrev b_M_touch : ByteArray := prog_7_method_18_code
abbrev y_M_touch : MethodName := ⟨"BlockVaultModel", "touch", "(II)I"⟩
abbrev w_M_touch : List Cond := .code y_M_touch b_M_touch 4 (some .int) :: lw_gt
abbrev b_M_remove : ByteArray := prog_7_method_19_code
abbrev y_M_remove : MethodName := ⟨"BlockVaultModel", "remove", "(IZ)I"⟩
abbrev w_M_remove : List Cond := .code y_M_remove b_M_remove 3 (some .int) :: lw_gt
abbrev b_M_writeTombstone : ByteArray := prog_7_method_15_code
abbrev y_M_writeTombstone : MethodName := ⟨"BlockVaultModel", "writeTombstone", "(I)I"⟩
abbrev w_M_writeTombstone : List Cond := .code y_M_writeTombstone b_M_writeTombstone 3 (some .int) :: lw_gt
abbrev b_M_evict : ByteArray := prog_7_method_20_code
abbrev y_M_evict : MethodName := ⟨"BlockVaultModel", "evict", "(I)I"⟩
abbrev w_M_evict : List Cond := .code y_M_evict b_M_evict 5 (some .int) :: lw_gt
abbrev b_M_tick : ByteArray := prog_7_method_21_code
abbrev y_M_tick : MethodName := ⟨"BlockVaultModel", "tick", "(I)I"⟩
abbrev w_M_tick : List Cond := .code y_M_tick b_M_tick 2 (some .int) :: lw_gt
abbrev b_M_sweep : ByteArray := prog_7_method_23_code
abbrev y_M_sweep : MethodName := ⟨"BlockVaultModel", "sweep", "()I"⟩
abbrev w_M_sweep : List Cond := .code y_M_sweep b_M_sweep 4 (some .int) :: lw_gt
abbrev b_M_hasOther : ByteArray := prog_7_method_22_code
abbrev y_M_hasOther : MethodName := ⟨"BlockVaultModel", "hasOther", "(I)Z"⟩
abbrev w_M_hasOther : List Cond := .code y_M_hasOther b_M_hasOther 3 (some .boolean) :: lw_gt
abbrev b_M_seal : ByteArray := prog_7_method_24_code
abbrev y_M_seal : MethodName := ⟨"BlockVaultModel", "seal", "()I"⟩
abbrev w_M_seal : List Cond := .code y_M_seal b_M_seal 2 (some .int) :: lw_gt
abbrev b_M_flush : ByteArray := prog_7_method_26_code
abbrev y_M_flush : MethodName := ⟨"BlockVaultModel", "flush", "(I)I"⟩
abbrev w_M_flush : List Cond := .code y_M_flush b_M_flush 5 (some .int) :: lw_gt
abbrev b_M_store : ByteArray := prog_7_method_25_code
abbrev y_M_store : MethodName := ⟨"BlockVaultModel", "store", "(II)V"⟩
abbrev w_M_store : List Cond := .code y_M_store b_M_store 4 none :: lw_gt
abbrev b_M_compact : ByteArray := prog_7_method_27_code
abbrev y_M_compact : MethodName := ⟨"BlockVaultModel", "compact", "(I)I"⟩
abbrev w_M_compact : List Cond := .code y_M_compact b_M_compact 7 (some .int) :: lw_gt
abbrev b_M_crash : ByteArray := prog_7_method_28_code
abbrev y_M_crash : MethodName := ⟨"BlockVaultModel", "crash", "(I)I"⟩
abbrev w_M_crash : List Cond := .code y_M_crash b_M_crash 4 (some .int) :: lw_gt
abbrev b_M_start : ByteArray := prog_7_method_29_code
abbrev y_M_start : MethodName := ⟨"BlockVaultModel", "start", "()I"⟩
abbrev w_M_start : List Cond := .code y_M_start b_M_start 3 (some .int) :: lw_gt
abbrev b_M_count : ByteArray := prog_7_method_35_code
abbrev y_M_count : MethodName := ⟨"BlockVaultModel", "count", "(I)I"⟩
abbrev w_M_count : List Cond := .code y_M_count b_M_count 6 (some .int) :: lw_gt
abbrev b_M_entry : ByteArray := prog_7_method_30_code
abbrev y_M_entry : MethodName := ⟨"BlockVaultModel", "entry", "(II)I"⟩
abbrev w_M_entry : List Cond := .code y_M_entry b_M_entry 4 (some .int) :: lw_gt
abbrev b_M_next : ByteArray := prog_7_method_31_code
abbrev y_M_next : MethodName := ⟨"BlockVaultModel", "next", "(I)I"⟩
abbrev w_M_next : List Cond := .code y_M_next b_M_next 3 (some .int) :: lw_gt
abbrev b_M_rank : ByteArray := prog_7_method_32_code
abbrev y_M_rank : MethodName := ⟨"BlockVaultModel", "rank", "(I)I"⟩
abbrev w_M_rank : List Cond := .code y_M_rank b_M_rank 4 (some .int) :: lw_gt
abbrev b_M_block : ByteArray := prog_7_method_33_code
abbrev y_M_block : MethodName := ⟨"BlockVaultModel", "block", "(II)I"⟩
abbrev w_M_block : List Cond := .code y_M_block b_M_block 5 (some .int) :: lw_gt
abbrev b_M_image : ByteArray := prog_7_method_34_code
abbrev y_M_image : MethodName := ⟨"BlockVaultModel", "image", "(II)I"⟩
abbrev w_M_image : List Cond := .code y_M_image b_M_image 3 (some .int) :: lw_gt
end
section
theorem tw_1 : (Jvm.Cond.initialized "BlockVault") ∈ lw_gt := List.mem_filter.mpr ⟨List.mem_append_right _ (List.mem_of_getElem? (i := 1) (by decide +kernel)), rfl⟩
theorem tw_2 : (Jvm.Cond.initialized "BlockVault$Block") ∈ lw_gt := List.mem_filter.mpr ⟨List.mem_append_right _ (List.mem_of_getElem? (i := 2) (by decide +kernel)), rfl⟩
theorem tw_3 : (Jvm.Cond.initialized "BlockVault$Row") ∈ lw_gt := List.mem_filter.mpr ⟨List.mem_append_right _ (List.mem_of_getElem? (i := 3) (by decide +kernel)), rfl⟩
theorem tw_4 : (Jvm.Cond.initialized "BlockVault$Entry") ∈ lw_gt := List.mem_filter.mpr ⟨List.mem_append_right _ (List.mem_of_getElem? (i := 4) (by decide +kernel)), rfl⟩
theorem tw_5 : (Jvm.Cond.initialized "BlockVaultModel") ∈ lw_gt := List.mem_filter.mpr ⟨List.mem_append_right _ (List.mem_of_getElem? (i := 5) (by decide +kernel)), rfl⟩
theorem tw_6 : (Jvm.Cond.initialized "BlockVault$Copy") ∈ lw_gt := List.mem_filter.mpr ⟨List.mem_append_right _ (List.mem_of_getElem? (i := 6) (by decide +kernel)), rfl⟩
theorem tw_7 : (Jvm.Cond.initialized "java/lang/Math") ∈ lw_gt := List.mem_filter.mpr ⟨List.mem_append_right _ (List.mem_of_getElem? (i := 7) (by decide +kernel)), rfl⟩
theorem tw_8 : (Jvm.Cond.initialized "java/lang/Integer") ∈ lw_gt := List.mem_filter.mpr ⟨List.mem_append_right _ (List.mem_of_getElem? (i := 8) (by decide +kernel)), rfl⟩
theorem tw_9 : (Jvm.Cond.classLink "BlockVaultLaw" (7 : Nat) "BlockVault") ∈ lw_gt := List.mem_filter.mpr ⟨List.mem_append_right _ (List.mem_of_getElem? (i := 9) (by decide +kernel)), rfl⟩
theorem tw_10 : (Jvm.Cond.instantiable "BlockVault" (8 : Nat)) ∈ lw_gt := List.mem_filter.mpr ⟨List.mem_append_right _ (List.mem_of_getElem? (i := 10) (by decide +kernel)), rfl⟩
theorem tw_11 : (Jvm.Cond.methodLink "BlockVaultLaw" (9 : Nat) ({ cls := "BlockVault", name := "<init>", desc := "()V" } : Jvm.MethodName)) ∈ lw_gt := List.mem_filter.mpr ⟨List.mem_append_right _ (List.mem_of_getElem? (i := 11) (by decide +kernel)), rfl⟩
theorem tw_12 : (Jvm.Cond.instanceMethod ({ cls := "BlockVault", name := "<init>", desc := "()V" } : Jvm.MethodName)) ∈ lw_gt := List.mem_filter.mpr ⟨List.mem_append_right _ (List.mem_of_getElem? (i := 12) (by decide +kernel)), rfl⟩
theorem tw_13 : (Jvm.Cond.code ({ cls := "BlockVault", name := "<init>", desc := "()V" } : Jvm.MethodName) prog_1_method_1_code (2 : Nat) (Option.none : Option Jvm.ClassFile.FieldType)) ∈ lw_gt := List.mem_filter.mpr ⟨List.mem_append_right _ (List.mem_of_getElem? (i := 13) (by decide +kernel)), rfl⟩
theorem tw_14 : (Jvm.Cond.methodLink "BlockVault" (1 : Nat) ({ cls := "java/lang/Object", name := "<init>", desc := "()V" } : Jvm.MethodName)) ∈ lw_gt := List.mem_filter.mpr ⟨List.mem_append_right _ (List.mem_of_getElem? (i := 14) (by decide +kernel)), rfl⟩
theorem tw_15 : (Jvm.Cond.instanceMethod ({ cls := "java/lang/Object", name := "<init>", desc := "()V" } : Jvm.MethodName)) ∈ lw_gt := List.mem_filter.mpr ⟨List.mem_append_right _ (List.mem_of_getElem? (i := 15) (by decide +kernel)), rfl⟩
theorem tw_16 : (Jvm.Cond.code ({ cls := "java/lang/Object", name := "<init>", desc := "()V" } : Jvm.MethodName) object_method_1_code (1 : Nat) (Option.none : Option Jvm.ClassFile.FieldType)) ∈ lw_gt := List.mem_filter.mpr ⟨List.mem_append_right _ (List.mem_of_getElem? (i := 16) (by decide +kernel)), rfl⟩
theorem tw_17 : (Jvm.Cond.classLink "BlockVault" (9 : Nat) "BlockVault$Block") ∈ lw_gt := List.mem_filter.mpr ⟨List.mem_append_right _ (List.mem_of_getElem? (i := 17) (by decide +kernel)), rfl⟩
theorem tw_19 : (Jvm.Cond.classLink "BlockVault" (15 : Nat) "BlockVault$Entry") ∈ lw_gt := List.mem_filter.mpr ⟨List.mem_append_right _ (List.mem_of_getElem? (i := 19) (by decide +kernel)), rfl⟩
theorem tw_21 : (Jvm.Cond.instantiable "BlockVault$Block" (5 : Nat)) ∈ lw_gt := List.mem_filter.mpr ⟨List.mem_append_right _ (List.mem_of_getElem? (i := 21) (by decide +kernel)), rfl⟩
theorem tw_23 : (Jvm.Cond.instanceMethod ({ cls := "BlockVault$Block", name := "<init>", desc := "()V" } : Jvm.MethodName)) ∈ lw_gt := List.mem_filter.mpr ⟨List.mem_append_right _ (List.mem_of_getElem? (i := 23) (by decide +kernel)), rfl⟩
theorem tw_24 : (Jvm.Cond.code ({ cls := "BlockVault$Block", name := "<init>", desc := "()V" } : Jvm.MethodName) prog_2_method_1_code (1 : Nat) (Option.none : Option Jvm.ClassFile.FieldType)) ∈ lw_gt := List.mem_filter.mpr ⟨List.mem_append_right _ (List.mem_of_getElem? (i := 24) (by decide +kernel)), rfl⟩
theorem tw_25 : (Jvm.Cond.methodLink "BlockVault$Block" (3 : Nat) ({ cls := "java/lang/Object", name := "<init>", desc := "()V" } : Jvm.MethodName)) ∈ lw_gt := List.mem_filter.mpr ⟨List.mem_append_right _ (List.mem_of_getElem? (i := 25) (by decide +kernel)), rfl⟩
theorem tw_26 : (Jvm.Cond.classLink "BlockVault$Block" (9 : Nat) "BlockVault$Row") ∈ lw_gt := List.mem_filter.mpr ⟨List.mem_append_right _ (List.mem_of_getElem? (i := 26) (by decide +kernel)), rfl⟩
theorem tw_27 : (Jvm.Cond.instantiable "BlockVault$Row" (2 : Nat)) ∈ lw_gt := List.mem_filter.mpr ⟨List.mem_append_right _ (List.mem_of_getElem? (i := 27) (by decide +kernel)), rfl⟩
theorem tw_29 : (Jvm.Cond.instanceMethod ({ cls := "BlockVault$Row", name := "<init>", desc := "()V" } : Jvm.MethodName)) ∈ lw_gt := List.mem_filter.mpr ⟨List.mem_append_right _ (List.mem_of_getElem? (i := 29) (by decide +kernel)), rfl⟩
theorem tw_30 : (Jvm.Cond.code ({ cls := "BlockVault$Row", name := "<init>", desc := "()V" } : Jvm.MethodName) prog_5_method_1_code (1 : Nat) (Option.none : Option Jvm.ClassFile.FieldType)) ∈ lw_gt := List.mem_filter.mpr ⟨List.mem_append_right _ (List.mem_of_getElem? (i := 30) (by decide +kernel)), rfl⟩
theorem tw_31 : (Jvm.Cond.methodLink "BlockVault$Row" (3 : Nat) ({ cls := "java/lang/Object", name := "<init>", desc := "()V" } : Jvm.MethodName)) ∈ lw_gt := List.mem_filter.mpr ⟨List.mem_append_right _ (List.mem_of_getElem? (i := 31) (by decide +kernel)), rfl⟩
theorem tw_32 : (Jvm.Cond.classLink "BlockVault$Row" (9 : Nat) "BlockVault$Copy") ∈ lw_gt := List.mem_filter.mpr ⟨List.mem_append_right _ (List.mem_of_getElem? (i := 32) (by decide +kernel)), rfl⟩
theorem tw_34 : (Jvm.Cond.fieldLink "BlockVault$Row" (11 : Nat) "BlockVault$Row" "copies" "[LBlockVault$Copy;") ∈ lw_gt := List.mem_filter.mpr ⟨List.mem_append_right _ (List.mem_of_getElem? (i := 34) (by decide +kernel)), rfl⟩
theorem tw_35 : (Jvm.Cond.fieldLink "BlockVault$Row" (17 : Nat) "BlockVault$Row" "length" "I") ∈ lw_gt := List.mem_filter.mpr ⟨List.mem_append_right _ (List.mem_of_getElem? (i := 35) (by decide +kernel)), rfl⟩
theorem tw_36 : (Jvm.Cond.fieldLink "BlockVault" (115 : Nat) "BlockVault$Row" "length" "I") ∈ lw_gt := List.mem_filter.mpr ⟨List.mem_append_right _ (List.mem_of_getElem? (i := 36) (by decide +kernel)), rfl⟩
theorem tw_37 : (Jvm.Cond.laysFinal "BlockVault$Row" "BlockVault$Row" "copies" "[LBlockVault$Copy;") ∈ lw_gt := List.mem_filter.mpr ⟨List.mem_append_right _ (List.mem_of_getElem? (i := 37) (by decide +kernel)), rfl⟩
theorem tw_39 : (Jvm.Cond.lays "BlockVault$Row" "BlockVault$Row" "length" "I") ∈ lw_gt := List.mem_filter.mpr ⟨List.mem_append_right _ (List.mem_of_getElem? (i := 39) (by decide +kernel)), rfl⟩
theorem tw_42 : (Jvm.Cond.fieldLink "BlockVault$Block" (12 : Nat) "BlockVault$Block" "content" "LBlockVault$Row;") ∈ lw_gt := List.mem_filter.mpr ⟨List.mem_append_right _ (List.mem_of_getElem? (i := 42) (by decide +kernel)), rfl⟩
theorem tw_43 : (Jvm.Cond.fieldLink "BlockVault" (111 : Nat) "BlockVault$Block" "content" "LBlockVault$Row;") ∈ lw_gt := List.mem_filter.mpr ⟨List.mem_append_right _ (List.mem_of_getElem? (i := 43) (by decide +kernel)), rfl⟩
theorem tw_44 : (Jvm.Cond.fieldLink "BlockVault$Block" (18 : Nat) "BlockVault$Block" "device" "LBlockVault$Row;") ∈ lw_gt := List.mem_filter.mpr ⟨List.mem_append_right _ (List.mem_of_getElem? (i := 44) (by decide +kernel)), rfl⟩
theorem tw_45 : (Jvm.Cond.fieldLink "BlockVault" (120 : Nat) "BlockVault$Block" "device" "LBlockVault$Row;") ∈ lw_gt := List.mem_filter.mpr ⟨List.mem_append_right _ (List.mem_of_getElem? (i := 45) (by decide +kernel)), rfl⟩
theorem tw_46 : (Jvm.Cond.fieldLink "BlockVault$Block" (21 : Nat) "BlockVault$Block" "state" "I") ∈ lw_gt := List.mem_filter.mpr ⟨List.mem_append_right _ (List.mem_of_getElem? (i := 46) (by decide +kernel)), rfl⟩
theorem tw_47 : (Jvm.Cond.fieldLink "BlockVault" (166 : Nat) "BlockVault$Block" "state" "I") ∈ lw_gt := List.mem_filter.mpr ⟨List.mem_append_right _ (List.mem_of_getElem? (i := 47) (by decide +kernel)), rfl⟩
theorem tw_48 : (Jvm.Cond.fieldLink "BlockVault$Block" (25 : Nat) "BlockVault$Block" "sealedAt" "I") ∈ lw_gt := List.mem_filter.mpr ⟨List.mem_append_right _ (List.mem_of_getElem? (i := 48) (by decide +kernel)), rfl⟩
theorem tw_49 : (Jvm.Cond.fieldLink "BlockVault" (223 : Nat) "BlockVault$Block" "sealedAt" "I") ∈ lw_gt := List.mem_filter.mpr ⟨List.mem_append_right _ (List.mem_of_getElem? (i := 49) (by decide +kernel)), rfl⟩
theorem tw_50 : (Jvm.Cond.fieldLink "BlockVault$Block" (28 : Nat) "BlockVault$Block" "waits" "I") ∈ lw_gt := List.mem_filter.mpr ⟨List.mem_append_right _ (List.mem_of_getElem? (i := 50) (by decide +kernel)), rfl⟩
theorem tw_51 : (Jvm.Cond.fieldLink "BlockVault" (175 : Nat) "BlockVault$Block" "waits" "I") ∈ lw_gt := List.mem_filter.mpr ⟨List.mem_append_right _ (List.mem_of_getElem? (i := 51) (by decide +kernel)), rfl⟩
theorem tw_52 : (Jvm.Cond.laysFinal "BlockVault$Block" "BlockVault$Block" "content" "LBlockVault$Row;") ∈ lw_gt := List.mem_filter.mpr ⟨List.mem_append_right _ (List.mem_of_getElem? (i := 52) (by decide +kernel)), rfl⟩
theorem tw_54 : (Jvm.Cond.laysFinal "BlockVault$Block" "BlockVault$Block" "device" "LBlockVault$Row;") ∈ lw_gt := List.mem_filter.mpr ⟨List.mem_append_right _ (List.mem_of_getElem? (i := 54) (by decide +kernel)), rfl⟩
theorem tw_56 : (Jvm.Cond.lays "BlockVault$Block" "BlockVault$Block" "state" "I") ∈ lw_gt := List.mem_filter.mpr ⟨List.mem_append_right _ (List.mem_of_getElem? (i := 56) (by decide +kernel)), rfl⟩
theorem tw_58 : (Jvm.Cond.lays "BlockVault$Block" "BlockVault$Block" "sealedAt" "I") ∈ lw_gt := List.mem_filter.mpr ⟨List.mem_append_right _ (List.mem_of_getElem? (i := 58) (by decide +kernel)), rfl⟩
theorem tw_60 : (Jvm.Cond.lays "BlockVault$Block" "BlockVault$Block" "waits" "I") ∈ lw_gt := List.mem_filter.mpr ⟨List.mem_append_right _ (List.mem_of_getElem? (i := 60) (by decide +kernel)), rfl⟩
theorem tw_63 : (Jvm.Cond.instantiable "BlockVault$Entry" (3 : Nat)) ∈ lw_gt := List.mem_filter.mpr ⟨List.mem_append_right _ (List.mem_of_getElem? (i := 63) (by decide +kernel)), rfl⟩
theorem tw_65 : (Jvm.Cond.instanceMethod ({ cls := "BlockVault$Entry", name := "<init>", desc := "()V" } : Jvm.MethodName)) ∈ lw_gt := List.mem_filter.mpr ⟨List.mem_append_right _ (List.mem_of_getElem? (i := 65) (by decide +kernel)), rfl⟩
theorem tw_66 : (Jvm.Cond.code ({ cls := "BlockVault$Entry", name := "<init>", desc := "()V" } : Jvm.MethodName) prog_4_method_1_code (1 : Nat) (Option.none : Option Jvm.ClassFile.FieldType)) ∈ lw_gt := List.mem_filter.mpr ⟨List.mem_append_right _ (List.mem_of_getElem? (i := 66) (by decide +kernel)), rfl⟩
theorem tw_67 : (Jvm.Cond.methodLink "BlockVault$Entry" (3 : Nat) ({ cls := "java/lang/Object", name := "<init>", desc := "()V" } : Jvm.MethodName)) ∈ lw_gt := List.mem_filter.mpr ⟨List.mem_append_right _ (List.mem_of_getElem? (i := 67) (by decide +kernel)), rfl⟩
theorem tw_68 : (Jvm.Cond.fieldLink "BlockVault$Entry" (9 : Nat) "BlockVault$Entry" "copy" "LBlockVault$Copy;") ∈ lw_gt := List.mem_filter.mpr ⟨List.mem_append_right _ (List.mem_of_getElem? (i := 68) (by decide +kernel)), rfl⟩
theorem tw_69 : (Jvm.Cond.fieldLink "BlockVault" (63 : Nat) "BlockVault$Entry" "copy" "LBlockVault$Copy;") ∈ lw_gt := List.mem_filter.mpr ⟨List.mem_append_right _ (List.mem_of_getElem? (i := 69) (by decide +kernel)), rfl⟩
theorem tw_70 : (Jvm.Cond.fieldLink "BlockVault$Entry" (15 : Nat) "BlockVault$Entry" "home" "I") ∈ lw_gt := List.mem_filter.mpr ⟨List.mem_append_right _ (List.mem_of_getElem? (i := 70) (by decide +kernel)), rfl⟩
theorem tw_71 : (Jvm.Cond.fieldLink "BlockVault" (157 : Nat) "BlockVault$Entry" "home" "I") ∈ lw_gt := List.mem_filter.mpr ⟨List.mem_append_right _ (List.mem_of_getElem? (i := 71) (by decide +kernel)), rfl⟩
theorem tw_72 : (Jvm.Cond.fieldLink "BlockVault$Entry" (19 : Nat) "BlockVault$Entry" "place" "I") ∈ lw_gt := List.mem_filter.mpr ⟨List.mem_append_right _ (List.mem_of_getElem? (i := 72) (by decide +kernel)), rfl⟩
theorem tw_73 : (Jvm.Cond.fieldLink "BlockVault" (160 : Nat) "BlockVault$Entry" "place" "I") ∈ lw_gt := List.mem_filter.mpr ⟨List.mem_append_right _ (List.mem_of_getElem? (i := 73) (by decide +kernel)), rfl⟩
theorem tw_74 : (Jvm.Cond.lays "BlockVault$Entry" "BlockVault$Entry" "copy" "LBlockVault$Copy;") ∈ lw_gt := List.mem_filter.mpr ⟨List.mem_append_right _ (List.mem_of_getElem? (i := 74) (by decide +kernel)), rfl⟩
theorem tw_76 : (Jvm.Cond.lays "BlockVault$Entry" "BlockVault$Entry" "home" "I") ∈ lw_gt := List.mem_filter.mpr ⟨List.mem_append_right _ (List.mem_of_getElem? (i := 76) (by decide +kernel)), rfl⟩
theorem tw_78 : (Jvm.Cond.lays "BlockVault$Entry" "BlockVault$Entry" "place" "I") ∈ lw_gt := List.mem_filter.mpr ⟨List.mem_append_right _ (List.mem_of_getElem? (i := 78) (by decide +kernel)), rfl⟩
theorem tw_81 : (Jvm.Cond.fieldLink "BlockVault" (11 : Nat) "BlockVault" "blocks" "[LBlockVault$Block;") ∈ lw_gt := List.mem_filter.mpr ⟨List.mem_append_right _ (List.mem_of_getElem? (i := 81) (by decide +kernel)), rfl⟩
theorem tw_82 : (Jvm.Cond.fieldLink "BlockVault" (17 : Nat) "BlockVault" "index" "[LBlockVault$Entry;") ∈ lw_gt := List.mem_filter.mpr ⟨List.mem_append_right _ (List.mem_of_getElem? (i := 82) (by decide +kernel)), rfl⟩
theorem tw_83 : (Jvm.Cond.fieldLink "BlockVault" (21 : Nat) "BlockVault" "clock" "I") ∈ lw_gt := List.mem_filter.mpr ⟨List.mem_append_right _ (List.mem_of_getElem? (i := 83) (by decide +kernel)), rfl⟩
theorem tw_84 : (Jvm.Cond.fieldLink "BlockVault" (25 : Nat) "BlockVault" "nextStamp" "I") ∈ lw_gt := List.mem_filter.mpr ⟨List.mem_append_right _ (List.mem_of_getElem? (i := 84) (by decide +kernel)), rfl⟩
theorem tw_85 : (Jvm.Cond.fieldLink "BlockVault" (28 : Nat) "BlockVault" "seals" "I") ∈ lw_gt := List.mem_filter.mpr ⟨List.mem_append_right _ (List.mem_of_getElem? (i := 85) (by decide +kernel)), rfl⟩
theorem tw_86 : (Jvm.Cond.fieldLink "BlockVault" (31 : Nat) "BlockVault" "blocksWritten" "I") ∈ lw_gt := List.mem_filter.mpr ⟨List.mem_append_right _ (List.mem_of_getElem? (i := 86) (by decide +kernel)), rfl⟩
theorem tw_87 : (Jvm.Cond.fieldLink "BlockVault" (34 : Nat) "BlockVault" "copiesMoved" "I") ∈ lw_gt := List.mem_filter.mpr ⟨List.mem_append_right _ (List.mem_of_getElem? (i := 87) (by decide +kernel)), rfl⟩
theorem tw_88 : (Jvm.Cond.fieldLink "BlockVault" (37 : Nat) "BlockVault" "down" "Z") ∈ lw_gt := List.mem_filter.mpr ⟨List.mem_append_right _ (List.mem_of_getElem? (i := 88) (by decide +kernel)), rfl⟩
theorem tw_89 : (Jvm.Cond.laysFinal "BlockVault" "BlockVault" "blocks" "[LBlockVault$Block;") ∈ lw_gt := List.mem_filter.mpr ⟨List.mem_append_right _ (List.mem_of_getElem? (i := 89) (by decide +kernel)), rfl⟩
theorem tw_91 : (Jvm.Cond.laysFinal "BlockVault" "BlockVault" "index" "[LBlockVault$Entry;") ∈ lw_gt := List.mem_filter.mpr ⟨List.mem_append_right _ (List.mem_of_getElem? (i := 91) (by decide +kernel)), rfl⟩
theorem tw_93 : (Jvm.Cond.lays "BlockVault" "BlockVault" "clock" "I") ∈ lw_gt := List.mem_filter.mpr ⟨List.mem_append_right _ (List.mem_of_getElem? (i := 93) (by decide +kernel)), rfl⟩
theorem tw_95 : (Jvm.Cond.lays "BlockVault" "BlockVault" "nextStamp" "I") ∈ lw_gt := List.mem_filter.mpr ⟨List.mem_append_right _ (List.mem_of_getElem? (i := 95) (by decide +kernel)), rfl⟩
theorem tw_97 : (Jvm.Cond.lays "BlockVault" "BlockVault" "seals" "I") ∈ lw_gt := List.mem_filter.mpr ⟨List.mem_append_right _ (List.mem_of_getElem? (i := 97) (by decide +kernel)), rfl⟩
theorem tw_99 : (Jvm.Cond.lays "BlockVault" "BlockVault" "blocksWritten" "I") ∈ lw_gt := List.mem_filter.mpr ⟨List.mem_append_right _ (List.mem_of_getElem? (i := 99) (by decide +kernel)), rfl⟩
theorem tw_101 : (Jvm.Cond.lays "BlockVault" "BlockVault" "copiesMoved" "I") ∈ lw_gt := List.mem_filter.mpr ⟨List.mem_append_right _ (List.mem_of_getElem? (i := 101) (by decide +kernel)), rfl⟩
theorem tw_103 : (Jvm.Cond.lays "BlockVault" "BlockVault" "down" "Z") ∈ lw_gt := List.mem_filter.mpr ⟨List.mem_append_right _ (List.mem_of_getElem? (i := 103) (by decide +kernel)), rfl⟩
theorem tw_106 : (Jvm.Cond.methodLink "BlockVaultLaw" (13 : Nat) ({ cls := "BlockVault", name := "put", desc := "(IIIII)I" } : Jvm.MethodName)) ∈ lw_gt := List.mem_filter.mpr ⟨List.mem_append_right _ (List.mem_of_getElem? (i := 106) (by decide +kernel)), rfl⟩
theorem tw_107 : (Jvm.Cond.instanceMethod ({ cls := "BlockVault", name := "put", desc := "(IIIII)I" } : Jvm.MethodName)) ∈ lw_gt := List.mem_filter.mpr ⟨List.mem_append_right _ (List.mem_of_getElem? (i := 107) (by decide +kernel)), rfl⟩
theorem tw_108 : (Jvm.Cond.selects "BlockVault" ({ cls := "BlockVault", name := "put", desc := "(IIIII)I" } : Jvm.MethodName) ({ cls := "BlockVault", name := "put", desc := "(IIIII)I" } : Jvm.MethodName)) ∈ lw_gt := List.mem_filter.mpr ⟨List.mem_append_right _ (List.mem_of_getElem? (i := 108) (by decide +kernel)), rfl⟩
theorem tw_109 : (Jvm.Cond.code ({ cls := "BlockVault", name := "put", desc := "(IIIII)I" } : Jvm.MethodName) prog_1_method_2_code (6 : Nat) (Option.some Jvm.ClassFile.FieldType.int)) ∈ lw_gt := List.mem_filter.mpr ⟨List.mem_append_right _ (List.mem_of_getElem? (i := 109) (by decide +kernel)), rfl⟩
theorem tw_110 : (Jvm.Cond.methodLink "BlockVault" (43 : Nat) ({ cls := "BlockVault", name := "isKey", desc := "(I)Z" } : Jvm.MethodName)) ∈ lw_gt := List.mem_filter.mpr ⟨List.mem_append_right _ (List.mem_of_getElem? (i := 110) (by decide +kernel)), rfl⟩
theorem tw_111 : (Jvm.Cond.static ({ cls := "BlockVault", name := "isKey", desc := "(I)Z" } : Jvm.MethodName)) ∈ lw_gt := List.mem_filter.mpr ⟨List.mem_append_right _ (List.mem_of_getElem? (i := 111) (by decide +kernel)), rfl⟩
theorem tw_112 : (Jvm.Cond.code ({ cls := "BlockVault", name := "isKey", desc := "(I)Z" } : Jvm.MethodName) prog_1_method_20_code (1 : Nat) (Option.some Jvm.ClassFile.FieldType.boolean)) ∈ lw_gt := List.mem_filter.mpr ⟨List.mem_append_right _ (List.mem_of_getElem? (i := 112) (by decide +kernel)), rfl⟩
theorem tw_113 : (Jvm.Cond.methodLink "BlockVault" (47 : Nat) ({ cls := "BlockVault", name := "isLife", desc := "(I)Z" } : Jvm.MethodName)) ∈ lw_gt := List.mem_filter.mpr ⟨List.mem_append_right _ (List.mem_of_getElem? (i := 113) (by decide +kernel)), rfl⟩
theorem tw_114 : (Jvm.Cond.static ({ cls := "BlockVault", name := "isLife", desc := "(I)Z" } : Jvm.MethodName)) ∈ lw_gt := List.mem_filter.mpr ⟨List.mem_append_right _ (List.mem_of_getElem? (i := 114) (by decide +kernel)), rfl⟩
theorem tw_115 : (Jvm.Cond.code ({ cls := "BlockVault", name := "isLife", desc := "(I)Z" } : Jvm.MethodName) prog_1_method_22_code (1 : Nat) (Option.some Jvm.ClassFile.FieldType.boolean)) ∈ lw_gt := List.mem_filter.mpr ⟨List.mem_append_right _ (List.mem_of_getElem? (i := 115) (by decide +kernel)), rfl⟩
theorem tw_116 : (Jvm.Cond.methodLink "BlockVault" (50 : Nat) ({ cls := "BlockVault", name := "ruleHolds", desc := "(II)Z" } : Jvm.MethodName)) ∈ lw_gt := List.mem_filter.mpr ⟨List.mem_append_right _ (List.mem_of_getElem? (i := 116) (by decide +kernel)), rfl⟩
theorem tw_118 : (Jvm.Cond.instanceMethod ({ cls := "BlockVault", name := "ruleHolds", desc := "(II)Z" } : Jvm.MethodName)) ∈ lw_gt := List.mem_filter.mpr ⟨List.mem_append_right _ (List.mem_of_getElem? (i := 118) (by decide +kernel)), rfl⟩
theorem tw_119 : (Jvm.Cond.code ({ cls := "BlockVault", name := "ruleHolds", desc := "(II)Z" } : Jvm.MethodName) prog_1_method_24_code (4 : Nat) (Option.some Jvm.ClassFile.FieldType.boolean)) ∈ lw_gt := List.mem_filter.mpr ⟨List.mem_append_right _ (List.mem_of_getElem? (i := 119) (by decide +kernel)), rfl⟩
theorem tw_120 : (Jvm.Cond.methodLink "BlockVault" (58 : Nat) ({ cls := "BlockVault", name := "isThere", desc := "(I)Z" } : Jvm.MethodName)) ∈ lw_gt := List.mem_filter.mpr ⟨List.mem_append_right _ (List.mem_of_getElem? (i := 120) (by decide +kernel)), rfl⟩
theorem tw_122 : (Jvm.Cond.instanceMethod ({ cls := "BlockVault", name := "isThere", desc := "(I)Z" } : Jvm.MethodName)) ∈ lw_gt := List.mem_filter.mpr ⟨List.mem_append_right _ (List.mem_of_getElem? (i := 122) (by decide +kernel)), rfl⟩
theorem tw_123 : (Jvm.Cond.code ({ cls := "BlockVault", name := "isThere", desc := "(I)Z" } : Jvm.MethodName) prog_1_method_23_code (3 : Nat) (Option.some Jvm.ClassFile.FieldType.boolean)) ∈ lw_gt := List.mem_filter.mpr ⟨List.mem_append_right _ (List.mem_of_getElem? (i := 123) (by decide +kernel)), rfl⟩
theorem tw_124 : (Jvm.Cond.methodLink "BlockVault" (193 : Nat) ({ cls := "BlockVault$Copy", name := "isExpired", desc := "(I)Z" } : Jvm.MethodName)) ∈ lw_gt := List.mem_filter.mpr ⟨List.mem_append_right _ (List.mem_of_getElem? (i := 124) (by decide +kernel)), rfl⟩
theorem tw_125 : (Jvm.Cond.instanceMethod ({ cls := "BlockVault$Copy", name := "isExpired", desc := "(I)Z" } : Jvm.MethodName)) ∈ lw_gt := List.mem_filter.mpr ⟨List.mem_append_right _ (List.mem_of_getElem? (i := 125) (by decide +kernel)), rfl⟩
theorem tw_126 : (Jvm.Cond.selects "BlockVault$Copy" ({ cls := "BlockVault$Copy", name := "isExpired", desc := "(I)Z" } : Jvm.MethodName) ({ cls := "BlockVault$Copy", name := "isExpired", desc := "(I)Z" } : Jvm.MethodName)) ∈ lw_gt := List.mem_filter.mpr ⟨List.mem_append_right _ (List.mem_of_getElem? (i := 126) (by decide +kernel)), rfl⟩
theorem tw_127 : (Jvm.Cond.code ({ cls := "BlockVault$Copy", name := "isExpired", desc := "(I)Z" } : Jvm.MethodName) prog_3_method_2_code (2 : Nat) (Option.some Jvm.ClassFile.FieldType.boolean)) ∈ lw_gt := List.mem_filter.mpr ⟨List.mem_append_right _ (List.mem_of_getElem? (i := 127) (by decide +kernel)), rfl⟩
theorem tw_128 : (Jvm.Cond.methodLink "BlockVault" (54 : Nat) ({ cls := "BlockVault", name := "writeRecord", desc := "(IIII)I" } : Jvm.MethodName)) ∈ lw_gt := List.mem_filter.mpr ⟨List.mem_append_right _ (List.mem_of_getElem? (i := 128) (by decide +kernel)), rfl⟩
theorem tw_130 : (Jvm.Cond.instanceMethod ({ cls := "BlockVault", name := "writeRecord", desc := "(IIII)I" } : Jvm.MethodName)) ∈ lw_gt := List.mem_filter.mpr ⟨List.mem_append_right _ (List.mem_of_getElem? (i := 130) (by decide +kernel)), rfl⟩
theorem tw_131 : (Jvm.Cond.code ({ cls := "BlockVault", name := "writeRecord", desc := "(IIII)I" } : Jvm.MethodName) prog_1_method_25_code (8 : Nat) (Option.some Jvm.ClassFile.FieldType.int)) ∈ lw_gt := List.mem_filter.mpr ⟨List.mem_append_right _ (List.mem_of_getElem? (i := 131) (by decide +kernel)), rfl⟩
theorem tw_132 : (Jvm.Cond.classLink "BlockVault" (68 : Nat) "BlockVault$Copy") ∈ lw_gt := List.mem_filter.mpr ⟨List.mem_append_right _ (List.mem_of_getElem? (i := 132) (by decide +kernel)), rfl⟩
theorem tw_133 : (Jvm.Cond.instantiable "BlockVault$Copy" (7 : Nat)) ∈ lw_gt := List.mem_filter.mpr ⟨List.mem_append_right _ (List.mem_of_getElem? (i := 133) (by decide +kernel)), rfl⟩
theorem tw_134 : (Jvm.Cond.methodLink "BlockVault" (196 : Nat) ({ cls := "BlockVault$Copy", name := "<init>", desc := "(IIIIIIZ)V" } : Jvm.MethodName)) ∈ lw_gt := List.mem_filter.mpr ⟨List.mem_append_right _ (List.mem_of_getElem? (i := 134) (by decide +kernel)), rfl⟩
theorem tw_135 : (Jvm.Cond.instanceMethod ({ cls := "BlockVault$Copy", name := "<init>", desc := "(IIIIIIZ)V" } : Jvm.MethodName)) ∈ lw_gt := List.mem_filter.mpr ⟨List.mem_append_right _ (List.mem_of_getElem? (i := 135) (by decide +kernel)), rfl⟩
theorem tw_136 : (Jvm.Cond.code ({ cls := "BlockVault$Copy", name := "<init>", desc := "(IIIIIIZ)V" } : Jvm.MethodName) prog_3_method_1_code (8 : Nat) (Option.none : Option Jvm.ClassFile.FieldType)) ∈ lw_gt := List.mem_filter.mpr ⟨List.mem_append_right _ (List.mem_of_getElem? (i := 136) (by decide +kernel)), rfl⟩
theorem tw_137 : (Jvm.Cond.methodLink "BlockVault$Copy" (1 : Nat) ({ cls := "java/lang/Object", name := "<init>", desc := "()V" } : Jvm.MethodName)) ∈ lw_gt := List.mem_filter.mpr ⟨List.mem_append_right _ (List.mem_of_getElem? (i := 137) (by decide +kernel)), rfl⟩
theorem tw_138 : (Jvm.Cond.fieldLink "BlockVault$Copy" (7 : Nat) "BlockVault$Copy" "key" "I") ∈ lw_gt := List.mem_filter.mpr ⟨List.mem_append_right _ (List.mem_of_getElem? (i := 138) (by decide +kernel)), rfl⟩
theorem tw_139 : (Jvm.Cond.fieldLink "BlockVault$Row" (40 : Nat) "BlockVault$Copy" "key" "I") ∈ lw_gt := List.mem_filter.mpr ⟨List.mem_append_right _ (List.mem_of_getElem? (i := 139) (by decide +kernel)), rfl⟩
theorem tw_140 : (Jvm.Cond.fieldLink "BlockVault" (209 : Nat) "BlockVault$Copy" "key" "I") ∈ lw_gt := List.mem_filter.mpr ⟨List.mem_append_right _ (List.mem_of_getElem? (i := 140) (by decide +kernel)), rfl⟩
theorem tw_141 : (Jvm.Cond.fieldLink "BlockVault$Copy" (13 : Nat) "BlockVault$Copy" "value" "I") ∈ lw_gt := List.mem_filter.mpr ⟨List.mem_append_right _ (List.mem_of_getElem? (i := 141) (by decide +kernel)), rfl⟩
theorem tw_142 : (Jvm.Cond.fieldLink "BlockVault" (67 : Nat) "BlockVault$Copy" "value" "I") ∈ lw_gt := List.mem_filter.mpr ⟨List.mem_append_right _ (List.mem_of_getElem? (i := 142) (by decide +kernel)), rfl⟩
theorem tw_143 : (Jvm.Cond.fieldLink "BlockVault$Copy" (16 : Nat) "BlockVault$Copy" "size" "I") ∈ lw_gt := List.mem_filter.mpr ⟨List.mem_append_right _ (List.mem_of_getElem? (i := 143) (by decide +kernel)), rfl⟩
theorem tw_144 : (Jvm.Cond.fieldLink "BlockVault" (72 : Nat) "BlockVault$Copy" "size" "I") ∈ lw_gt := List.mem_filter.mpr ⟨List.mem_append_right _ (List.mem_of_getElem? (i := 144) (by decide +kernel)), rfl⟩
theorem tw_145 : (Jvm.Cond.fieldLink "BlockVault$Row" (28 : Nat) "BlockVault$Copy" "size" "I") ∈ lw_gt := List.mem_filter.mpr ⟨List.mem_append_right _ (List.mem_of_getElem? (i := 145) (by decide +kernel)), rfl⟩
theorem tw_146 : (Jvm.Cond.fieldLink "BlockVault$Copy" (19 : Nat) "BlockVault$Copy" "generation" "I") ∈ lw_gt := List.mem_filter.mpr ⟨List.mem_append_right _ (List.mem_of_getElem? (i := 146) (by decide +kernel)), rfl⟩
theorem tw_147 : (Jvm.Cond.fieldLink "BlockVault" (148 : Nat) "BlockVault$Copy" "generation" "I") ∈ lw_gt := List.mem_filter.mpr ⟨List.mem_append_right _ (List.mem_of_getElem? (i := 147) (by decide +kernel)), rfl⟩
theorem tw_148 : (Jvm.Cond.fieldLink "BlockVault$Copy" (22 : Nat) "BlockVault$Copy" "voidTime" "I") ∈ lw_gt := List.mem_filter.mpr ⟨List.mem_append_right _ (List.mem_of_getElem? (i := 148) (by decide +kernel)), rfl⟩
theorem tw_149 : (Jvm.Cond.fieldLink "BlockVault" (151 : Nat) "BlockVault$Copy" "voidTime" "I") ∈ lw_gt := List.mem_filter.mpr ⟨List.mem_append_right _ (List.mem_of_getElem? (i := 149) (by decide +kernel)), rfl⟩
theorem tw_150 : (Jvm.Cond.fieldLink "BlockVault$Copy" (25 : Nat) "BlockVault$Copy" "stamp" "I") ∈ lw_gt := List.mem_filter.mpr ⟨List.mem_append_right _ (List.mem_of_getElem? (i := 150) (by decide +kernel)), rfl⟩
theorem tw_151 : (Jvm.Cond.fieldLink "BlockVault$Row" (31 : Nat) "BlockVault$Copy" "stamp" "I") ∈ lw_gt := List.mem_filter.mpr ⟨List.mem_append_right _ (List.mem_of_getElem? (i := 151) (by decide +kernel)), rfl⟩
theorem tw_152 : (Jvm.Cond.fieldLink "BlockVault" (154 : Nat) "BlockVault$Copy" "stamp" "I") ∈ lw_gt := List.mem_filter.mpr ⟨List.mem_append_right _ (List.mem_of_getElem? (i := 152) (by decide +kernel)), rfl⟩
theorem tw_153 : (Jvm.Cond.fieldLink "BlockVault$Copy" (28 : Nat) "BlockVault$Copy" "tombstone" "Z") ∈ lw_gt := List.mem_filter.mpr ⟨List.mem_append_right _ (List.mem_of_getElem? (i := 153) (by decide +kernel)), rfl⟩
theorem tw_154 : (Jvm.Cond.fieldLink "BlockVault" (145 : Nat) "BlockVault$Copy" "tombstone" "Z") ∈ lw_gt := List.mem_filter.mpr ⟨List.mem_append_right _ (List.mem_of_getElem? (i := 154) (by decide +kernel)), rfl⟩
theorem tw_155 : (Jvm.Cond.laysFinal "BlockVault$Copy" "BlockVault$Copy" "key" "I") ∈ lw_gt := List.mem_filter.mpr ⟨List.mem_append_right _ (List.mem_of_getElem? (i := 155) (by decide +kernel)), rfl⟩
theorem tw_157 : (Jvm.Cond.laysFinal "BlockVault$Copy" "BlockVault$Copy" "value" "I") ∈ lw_gt := List.mem_filter.mpr ⟨List.mem_append_right _ (List.mem_of_getElem? (i := 157) (by decide +kernel)), rfl⟩
theorem tw_159 : (Jvm.Cond.laysFinal "BlockVault$Copy" "BlockVault$Copy" "size" "I") ∈ lw_gt := List.mem_filter.mpr ⟨List.mem_append_right _ (List.mem_of_getElem? (i := 159) (by decide +kernel)), rfl⟩
theorem tw_161 : (Jvm.Cond.laysFinal "BlockVault$Copy" "BlockVault$Copy" "generation" "I") ∈ lw_gt := List.mem_filter.mpr ⟨List.mem_append_right _ (List.mem_of_getElem? (i := 161) (by decide +kernel)), rfl⟩
theorem tw_163 : (Jvm.Cond.laysFinal "BlockVault$Copy" "BlockVault$Copy" "voidTime" "I") ∈ lw_gt := List.mem_filter.mpr ⟨List.mem_append_right _ (List.mem_of_getElem? (i := 163) (by decide +kernel)), rfl⟩
theorem tw_165 : (Jvm.Cond.laysFinal "BlockVault$Copy" "BlockVault$Copy" "stamp" "I") ∈ lw_gt := List.mem_filter.mpr ⟨List.mem_append_right _ (List.mem_of_getElem? (i := 165) (by decide +kernel)), rfl⟩
theorem tw_167 : (Jvm.Cond.laysFinal "BlockVault$Copy" "BlockVault$Copy" "tombstone" "Z") ∈ lw_gt := List.mem_filter.mpr ⟨List.mem_append_right _ (List.mem_of_getElem? (i := 167) (by decide +kernel)), rfl⟩
theorem tw_170 : (Jvm.Cond.methodLink "BlockVault" (199 : Nat) ({ cls := "BlockVault", name := "write", desc := "(LBlockVault$Copy;)I" } : Jvm.MethodName)) ∈ lw_gt := List.mem_filter.mpr ⟨List.mem_append_right _ (List.mem_of_getElem? (i := 170) (by decide +kernel)), rfl⟩
theorem tw_172 : (Jvm.Cond.instanceMethod ({ cls := "BlockVault", name := "write", desc := "(LBlockVault$Copy;)I" } : Jvm.MethodName)) ∈ lw_gt := List.mem_filter.mpr ⟨List.mem_append_right _ (List.mem_of_getElem? (i := 172) (by decide +kernel)), rfl⟩
theorem tw_173 : (Jvm.Cond.code ({ cls := "BlockVault", name := "write", desc := "(LBlockVault$Copy;)I" } : Jvm.MethodName) prog_1_method_27_code (3 : Nat) (Option.some Jvm.ClassFile.FieldType.int)) ∈ lw_gt := List.mem_filter.mpr ⟨List.mem_append_right _ (List.mem_of_getElem? (i := 173) (by decide +kernel)), rfl⟩
theorem tw_174 : (Jvm.Cond.methodLink "BlockVault" (203 : Nat) ({ cls := "BlockVault", name := "append", desc := "(LBlockVault$Copy;)I" } : Jvm.MethodName)) ∈ lw_gt := List.mem_filter.mpr ⟨List.mem_append_right _ (List.mem_of_getElem? (i := 174) (by decide +kernel)), rfl⟩
theorem tw_176 : (Jvm.Cond.instanceMethod ({ cls := "BlockVault", name := "append", desc := "(LBlockVault$Copy;)I" } : Jvm.MethodName)) ∈ lw_gt := List.mem_filter.mpr ⟨List.mem_append_right _ (List.mem_of_getElem? (i := 176) (by decide +kernel)), rfl⟩
theorem tw_177 : (Jvm.Cond.code ({ cls := "BlockVault", name := "append", desc := "(LBlockVault$Copy;)I" } : Jvm.MethodName) prog_1_method_28_code (6 : Nat) (Option.some Jvm.ClassFile.FieldType.int)) ∈ lw_gt := List.mem_filter.mpr ⟨List.mem_append_right _ (List.mem_of_getElem? (i := 177) (by decide +kernel)), rfl⟩
theorem tw_178 : (Jvm.Cond.methodLink "BlockVault" (206 : Nat) ({ cls := "BlockVault", name := "currentWithRoom", desc := "(I)I" } : Jvm.MethodName)) ∈ lw_gt := List.mem_filter.mpr ⟨List.mem_append_right _ (List.mem_of_getElem? (i := 178) (by decide +kernel)), rfl⟩
theorem tw_180 : (Jvm.Cond.instanceMethod ({ cls := "BlockVault", name := "currentWithRoom", desc := "(I)I" } : Jvm.MethodName)) ∈ lw_gt := List.mem_filter.mpr ⟨List.mem_append_right _ (List.mem_of_getElem? (i := 180) (by decide +kernel)), rfl⟩
theorem tw_181 : (Jvm.Cond.code ({ cls := "BlockVault", name := "currentWithRoom", desc := "(I)I" } : Jvm.MethodName) prog_1_method_29_code (4 : Nat) (Option.some Jvm.ClassFile.FieldType.int)) ∈ lw_gt := List.mem_filter.mpr ⟨List.mem_append_right _ (List.mem_of_getElem? (i := 181) (by decide +kernel)), rfl⟩
theorem tw_182 : (Jvm.Cond.methodLink "BlockVault" (90 : Nat) ({ cls := "BlockVault", name := "leastInState", desc := "(I)I" } : Jvm.MethodName)) ∈ lw_gt := List.mem_filter.mpr ⟨List.mem_append_right _ (List.mem_of_getElem? (i := 182) (by decide +kernel)), rfl⟩
theorem tw_184 : (Jvm.Cond.instanceMethod ({ cls := "BlockVault", name := "leastInState", desc := "(I)I" } : Jvm.MethodName)) ∈ lw_gt := List.mem_filter.mpr ⟨List.mem_append_right _ (List.mem_of_getElem? (i := 184) (by decide +kernel)), rfl⟩
theorem tw_185 : (Jvm.Cond.code ({ cls := "BlockVault", name := "leastInState", desc := "(I)I" } : Jvm.MethodName) prog_1_method_47_code (3 : Nat) (Option.some Jvm.ClassFile.FieldType.int)) ∈ lw_gt := List.mem_filter.mpr ⟨List.mem_append_right _ (List.mem_of_getElem? (i := 185) (by decide +kernel)), rfl⟩
theorem tw_186 : (Jvm.Cond.methodLink "BlockVault" (172 : Nat) ({ cls := "BlockVault$Row", name := "sizes", desc := "()I" } : Jvm.MethodName)) ∈ lw_gt := List.mem_filter.mpr ⟨List.mem_append_right _ (List.mem_of_getElem? (i := 186) (by decide +kernel)), rfl⟩
theorem tw_187 : (Jvm.Cond.instanceMethod ({ cls := "BlockVault$Row", name := "sizes", desc := "()I" } : Jvm.MethodName)) ∈ lw_gt := List.mem_filter.mpr ⟨List.mem_append_right _ (List.mem_of_getElem? (i := 187) (by decide +kernel)), rfl⟩
theorem tw_188 : (Jvm.Cond.selects "BlockVault$Row" ({ cls := "BlockVault$Row", name := "sizes", desc := "()I" } : Jvm.MethodName) ({ cls := "BlockVault$Row", name := "sizes", desc := "()I" } : Jvm.MethodName)) ∈ lw_gt := List.mem_filter.mpr ⟨List.mem_append_right _ (List.mem_of_getElem? (i := 188) (by decide +kernel)), rfl⟩
theorem tw_189 : (Jvm.Cond.code ({ cls := "BlockVault$Row", name := "sizes", desc := "()I" } : Jvm.MethodName) prog_5_method_6_code (3 : Nat) (Option.some Jvm.ClassFile.FieldType.int)) ∈ lw_gt := List.mem_filter.mpr ⟨List.mem_append_right _ (List.mem_of_getElem? (i := 189) (by decide +kernel)), rfl⟩
theorem tw_190 : (Jvm.Cond.methodLink "BlockVault" (93 : Nat) ({ cls := "BlockVault", name := "countInState", desc := "(I)I" } : Jvm.MethodName)) ∈ lw_gt := List.mem_filter.mpr ⟨List.mem_append_right _ (List.mem_of_getElem? (i := 190) (by decide +kernel)), rfl⟩
theorem tw_192 : (Jvm.Cond.instanceMethod ({ cls := "BlockVault", name := "countInState", desc := "(I)I" } : Jvm.MethodName)) ∈ lw_gt := List.mem_filter.mpr ⟨List.mem_append_right _ (List.mem_of_getElem? (i := 192) (by decide +kernel)), rfl⟩
theorem tw_193 : (Jvm.Cond.code ({ cls := "BlockVault", name := "countInState", desc := "(I)I" } : Jvm.MethodName) prog_1_method_48_code (4 : Nat) (Option.some Jvm.ClassFile.FieldType.int)) ∈ lw_gt := List.mem_filter.mpr ⟨List.mem_append_right _ (List.mem_of_getElem? (i := 193) (by decide +kernel)), rfl⟩
theorem tw_194 : (Jvm.Cond.methodLink "BlockVault" (96 : Nat) ({ cls := "BlockVault", name := "sealBlock", desc := "(I)V" } : Jvm.MethodName)) ∈ lw_gt := List.mem_filter.mpr ⟨List.mem_append_right _ (List.mem_of_getElem? (i := 194) (by decide +kernel)), rfl⟩
theorem tw_196 : (Jvm.Cond.instanceMethod ({ cls := "BlockVault", name := "sealBlock", desc := "(I)V" } : Jvm.MethodName)) ∈ lw_gt := List.mem_filter.mpr ⟨List.mem_append_right _ (List.mem_of_getElem? (i := 196) (by decide +kernel)), rfl⟩
theorem tw_197 : (Jvm.Cond.code ({ cls := "BlockVault", name := "sealBlock", desc := "(I)V" } : Jvm.MethodName) prog_1_method_30_code (2 : Nat) (Option.none : Option Jvm.ClassFile.FieldType)) ∈ lw_gt := List.mem_filter.mpr ⟨List.mem_append_right _ (List.mem_of_getElem? (i := 197) (by decide +kernel)), rfl⟩
theorem tw_198 : (Jvm.Cond.methodLink "BlockVault" (212 : Nat) ({ cls := "BlockVault$Row", name := "add", desc := "(LBlockVault$Copy;)V" } : Jvm.MethodName)) ∈ lw_gt := List.mem_filter.mpr ⟨List.mem_append_right _ (List.mem_of_getElem? (i := 198) (by decide +kernel)), rfl⟩
theorem tw_199 : (Jvm.Cond.instanceMethod ({ cls := "BlockVault$Row", name := "add", desc := "(LBlockVault$Copy;)V" } : Jvm.MethodName)) ∈ lw_gt := List.mem_filter.mpr ⟨List.mem_append_right _ (List.mem_of_getElem? (i := 199) (by decide +kernel)), rfl⟩
theorem tw_200 : (Jvm.Cond.selects "BlockVault$Row" ({ cls := "BlockVault$Row", name := "add", desc := "(LBlockVault$Copy;)V" } : Jvm.MethodName) ({ cls := "BlockVault$Row", name := "add", desc := "(LBlockVault$Copy;)V" } : Jvm.MethodName)) ∈ lw_gt := List.mem_filter.mpr ⟨List.mem_append_right _ (List.mem_of_getElem? (i := 200) (by decide +kernel)), rfl⟩
theorem tw_201 : (Jvm.Cond.code ({ cls := "BlockVault$Row", name := "add", desc := "(LBlockVault$Copy;)V" } : Jvm.MethodName) prog_5_method_3_code (2 : Nat) (Option.none : Option Jvm.ClassFile.FieldType)) ∈ lw_gt := List.mem_filter.mpr ⟨List.mem_append_right _ (List.mem_of_getElem? (i := 201) (by decide +kernel)), rfl⟩
theorem tw_202 : (Jvm.Cond.methodLink "BlockVault" (216 : Nat) ({ cls := "BlockVault$Entry", name := "point", desc := "(LBlockVault$Copy;II)V" } : Jvm.MethodName)) ∈ lw_gt := List.mem_filter.mpr ⟨List.mem_append_right _ (List.mem_of_getElem? (i := 202) (by decide +kernel)), rfl⟩
theorem tw_203 : (Jvm.Cond.instanceMethod ({ cls := "BlockVault$Entry", name := "point", desc := "(LBlockVault$Copy;II)V" } : Jvm.MethodName)) ∈ lw_gt := List.mem_filter.mpr ⟨List.mem_append_right _ (List.mem_of_getElem? (i := 203) (by decide +kernel)), rfl⟩
theorem tw_204 : (Jvm.Cond.selects "BlockVault$Entry" ({ cls := "BlockVault$Entry", name := "point", desc := "(LBlockVault$Copy;II)V" } : Jvm.MethodName) ({ cls := "BlockVault$Entry", name := "point", desc := "(LBlockVault$Copy;II)V" } : Jvm.MethodName)) ∈ lw_gt := List.mem_filter.mpr ⟨List.mem_append_right _ (List.mem_of_getElem? (i := 204) (by decide +kernel)), rfl⟩
theorem tw_205 : (Jvm.Cond.code ({ cls := "BlockVault$Entry", name := "point", desc := "(LBlockVault$Copy;II)V" } : Jvm.MethodName) prog_4_method_2_code (4 : Nat) (Option.none : Option Jvm.ClassFile.FieldType)) ∈ lw_gt := List.mem_filter.mpr ⟨List.mem_append_right _ (List.mem_of_getElem? (i := 205) (by decide +kernel)), rfl⟩
theorem tw_206 : (Jvm.Cond.methodLink "BlockVault" (220 : Nat) ({ cls := "BlockVault", name := "emptyIfDead", desc := "(I)V" } : Jvm.MethodName)) ∈ lw_gt := List.mem_filter.mpr ⟨List.mem_append_right _ (List.mem_of_getElem? (i := 206) (by decide +kernel)), rfl⟩
theorem tw_208 : (Jvm.Cond.instanceMethod ({ cls := "BlockVault", name := "emptyIfDead", desc := "(I)V" } : Jvm.MethodName)) ∈ lw_gt := List.mem_filter.mpr ⟨List.mem_append_right _ (List.mem_of_getElem? (i := 208) (by decide +kernel)), rfl⟩
theorem tw_209 : (Jvm.Cond.code ({ cls := "BlockVault", name := "emptyIfDead", desc := "(I)V" } : Jvm.MethodName) prog_1_method_33_code (2 : Nat) (Option.none : Option Jvm.ClassFile.FieldType)) ∈ lw_gt := List.mem_filter.mpr ⟨List.mem_append_right _ (List.mem_of_getElem? (i := 209) (by decide +kernel)), rfl⟩
theorem tw_210 : (Jvm.Cond.methodLink "BlockVault" (163 : Nat) ({ cls := "BlockVault", name := "isBlock", desc := "(I)Z" } : Jvm.MethodName)) ∈ lw_gt := List.mem_filter.mpr ⟨List.mem_append_right _ (List.mem_of_getElem? (i := 210) (by decide +kernel)), rfl⟩
theorem tw_211 : (Jvm.Cond.static ({ cls := "BlockVault", name := "isBlock", desc := "(I)Z" } : Jvm.MethodName)) ∈ lw_gt := List.mem_filter.mpr ⟨List.mem_append_right _ (List.mem_of_getElem? (i := 211) (by decide +kernel)), rfl⟩
theorem tw_212 : (Jvm.Cond.code ({ cls := "BlockVault", name := "isBlock", desc := "(I)Z" } : Jvm.MethodName) prog_1_method_21_code (1 : Nat) (Option.some Jvm.ClassFile.FieldType.boolean)) ∈ lw_gt := List.mem_filter.mpr ⟨List.mem_append_right _ (List.mem_of_getElem? (i := 212) (by decide +kernel)), rfl⟩
theorem tw_213 : (Jvm.Cond.methodLink "BlockVault" (232 : Nat) ({ cls := "BlockVault", name := "hasLiveCopy", desc := "(I)Z" } : Jvm.MethodName)) ∈ lw_gt := List.mem_filter.mpr ⟨List.mem_append_right _ (List.mem_of_getElem? (i := 213) (by decide +kernel)), rfl⟩
theorem tw_215 : (Jvm.Cond.instanceMethod ({ cls := "BlockVault", name := "hasLiveCopy", desc := "(I)Z" } : Jvm.MethodName)) ∈ lw_gt := List.mem_filter.mpr ⟨List.mem_append_right _ (List.mem_of_getElem? (i := 215) (by decide +kernel)), rfl⟩
theorem tw_216 : (Jvm.Cond.code ({ cls := "BlockVault", name := "hasLiveCopy", desc := "(I)Z" } : Jvm.MethodName) prog_1_method_50_code (3 : Nat) (Option.some Jvm.ClassFile.FieldType.boolean)) ∈ lw_gt := List.mem_filter.mpr ⟨List.mem_append_right _ (List.mem_of_getElem? (i := 216) (by decide +kernel)), rfl⟩
theorem tw_217 : (Jvm.Cond.methodLink "BlockVault" (235 : Nat) ({ cls := "BlockVault$Row", name := "clear", desc := "()V" } : Jvm.MethodName)) ∈ lw_gt := List.mem_filter.mpr ⟨List.mem_append_right _ (List.mem_of_getElem? (i := 217) (by decide +kernel)), rfl⟩
theorem tw_218 : (Jvm.Cond.instanceMethod ({ cls := "BlockVault$Row", name := "clear", desc := "()V" } : Jvm.MethodName)) ∈ lw_gt := List.mem_filter.mpr ⟨List.mem_append_right _ (List.mem_of_getElem? (i := 218) (by decide +kernel)), rfl⟩
theorem tw_219 : (Jvm.Cond.selects "BlockVault$Row" ({ cls := "BlockVault$Row", name := "clear", desc := "()V" } : Jvm.MethodName) ({ cls := "BlockVault$Row", name := "clear", desc := "()V" } : Jvm.MethodName)) ∈ lw_gt := List.mem_filter.mpr ⟨List.mem_append_right _ (List.mem_of_getElem? (i := 219) (by decide +kernel)), rfl⟩
theorem tw_220 : (Jvm.Cond.code ({ cls := "BlockVault$Row", name := "clear", desc := "()V" } : Jvm.MethodName) prog_5_method_4_code (1 : Nat) (Option.none : Option Jvm.ClassFile.FieldType)) ∈ lw_gt := List.mem_filter.mpr ⟨List.mem_append_right _ (List.mem_of_getElem? (i := 220) (by decide +kernel)), rfl⟩
theorem tw_221 : (Jvm.Cond.methodLink "BlockVault" (238 : Nat) ({ cls := "BlockVault", name := "unwrittenBlocks", desc := "()I" } : Jvm.MethodName)) ∈ lw_gt := List.mem_filter.mpr ⟨List.mem_append_right _ (List.mem_of_getElem? (i := 221) (by decide +kernel)), rfl⟩
theorem tw_223 : (Jvm.Cond.instanceMethod ({ cls := "BlockVault", name := "unwrittenBlocks", desc := "()I" } : Jvm.MethodName)) ∈ lw_gt := List.mem_filter.mpr ⟨List.mem_append_right _ (List.mem_of_getElem? (i := 223) (by decide +kernel)), rfl⟩
theorem tw_224 : (Jvm.Cond.code ({ cls := "BlockVault", name := "unwrittenBlocks", desc := "()I" } : Jvm.MethodName) prog_1_method_35_code (3 : Nat) (Option.some Jvm.ClassFile.FieldType.int)) ∈ lw_gt := List.mem_filter.mpr ⟨List.mem_append_right _ (List.mem_of_getElem? (i := 224) (by decide +kernel)), rfl⟩
theorem tw_225 : (Jvm.Cond.methodLink "BlockVault" (229 : Nat) ({ cls := "BlockVault", name := "freeIfWaitIsOver", desc := "(I)V" } : Jvm.MethodName)) ∈ lw_gt := List.mem_filter.mpr ⟨List.mem_append_right _ (List.mem_of_getElem? (i := 225) (by decide +kernel)), rfl⟩
theorem tw_227 : (Jvm.Cond.instanceMethod ({ cls := "BlockVault", name := "freeIfWaitIsOver", desc := "(I)V" } : Jvm.MethodName)) ∈ lw_gt := List.mem_filter.mpr ⟨List.mem_append_right _ (List.mem_of_getElem? (i := 227) (by decide +kernel)), rfl⟩
theorem tw_228 : (Jvm.Cond.code ({ cls := "BlockVault", name := "freeIfWaitIsOver", desc := "(I)V" } : Jvm.MethodName) prog_1_method_34_code (2 : Nat) (Option.none : Option Jvm.ClassFile.FieldType)) ∈ lw_gt := List.mem_filter.mpr ⟨List.mem_append_right _ (List.mem_of_getElem? (i := 228) (by decide +kernel)), rfl⟩
theorem tw_229 : (Jvm.Cond.methodLink "BlockVaultLaw" (18 : Nat) ({ cls := "BlockVault", name := "get", desc := "(I)J" } : Jvm.MethodName)) ∈ lw_gt := List.mem_filter.mpr ⟨List.mem_append_right _ (List.mem_of_getElem? (i := 229) (by decide +kernel)), rfl⟩
theorem tw_230 : (Jvm.Cond.instanceMethod ({ cls := "BlockVault", name := "get", desc := "(I)J" } : Jvm.MethodName)) ∈ lw_gt := List.mem_filter.mpr ⟨List.mem_append_right _ (List.mem_of_getElem? (i := 230) (by decide +kernel)), rfl⟩
theorem tw_231 : (Jvm.Cond.selects "BlockVault" ({ cls := "BlockVault", name := "get", desc := "(I)J" } : Jvm.MethodName) ({ cls := "BlockVault", name := "get", desc := "(I)J" } : Jvm.MethodName)) ∈ lw_gt := List.mem_filter.mpr ⟨List.mem_append_right _ (List.mem_of_getElem? (i := 231) (by decide +kernel)), rfl⟩
theorem tw_232 : (Jvm.Cond.code ({ cls := "BlockVault", name := "get", desc := "(I)J" } : Jvm.MethodName) prog_1_method_3_code (2 : Nat) (Option.some Jvm.ClassFile.FieldType.long)) ∈ lw_gt := List.mem_filter.mpr ⟨List.mem_append_right _ (List.mem_of_getElem? (i := 232) (by decide +kernel)), rfl⟩
theorem tw_233 : (Jvm.Cond.constantLong "BlockVault" (61 : Nat) (1099511627776 : Int64)) ∈ lw_gt := List.mem_filter.mpr ⟨List.mem_append_right _ (List.mem_of_getElem? (i := 233) (by decide +kernel)), rfl⟩
theorem tw_234 : (Jvm.Cond.methodLink "BlockVaultLaw" (23 : Nat) ({ cls := "BlockVault", name := "touch", desc := "(II)I" } : Jvm.MethodName)) ∈ lw_gt := List.mem_filter.mpr ⟨List.mem_append_right _ (List.mem_of_getElem? (i := 234) (by decide +kernel)), rfl⟩
theorem tw_235 : (Jvm.Cond.instanceMethod ({ cls := "BlockVault", name := "touch", desc := "(II)I" } : Jvm.MethodName)) ∈ lw_gt := List.mem_filter.mpr ⟨List.mem_append_right _ (List.mem_of_getElem? (i := 235) (by decide +kernel)), rfl⟩
theorem tw_236 : (Jvm.Cond.selects "BlockVault" ({ cls := "BlockVault", name := "touch", desc := "(II)I" } : Jvm.MethodName) ({ cls := "BlockVault", name := "touch", desc := "(II)I" } : Jvm.MethodName)) ∈ lw_gt := List.mem_filter.mpr ⟨List.mem_append_right _ (List.mem_of_getElem? (i := 236) (by decide +kernel)), rfl⟩
theorem tw_237 : (Jvm.Cond.code ({ cls := "BlockVault", name := "touch", desc := "(II)I" } : Jvm.MethodName) prog_1_method_4_code (4 : Nat) (Option.some Jvm.ClassFile.FieldType.int)) ∈ lw_gt := List.mem_filter.mpr ⟨List.mem_append_right _ (List.mem_of_getElem? (i := 237) (by decide +kernel)), rfl⟩
theorem tw_238 : (Jvm.Cond.methodLink "BlockVaultLaw" (28 : Nat) ({ cls := "BlockVault", name := "remove", desc := "(IZ)I" } : Jvm.MethodName)) ∈ lw_gt := List.mem_filter.mpr ⟨List.mem_append_right _ (List.mem_of_getElem? (i := 238) (by decide +kernel)), rfl⟩
theorem tw_239 : (Jvm.Cond.instanceMethod ({ cls := "BlockVault", name := "remove", desc := "(IZ)I" } : Jvm.MethodName)) ∈ lw_gt := List.mem_filter.mpr ⟨List.mem_append_right _ (List.mem_of_getElem? (i := 239) (by decide +kernel)), rfl⟩
theorem tw_240 : (Jvm.Cond.selects "BlockVault" ({ cls := "BlockVault", name := "remove", desc := "(IZ)I" } : Jvm.MethodName) ({ cls := "BlockVault", name := "remove", desc := "(IZ)I" } : Jvm.MethodName)) ∈ lw_gt := List.mem_filter.mpr ⟨List.mem_append_right _ (List.mem_of_getElem? (i := 240) (by decide +kernel)), rfl⟩
theorem tw_241 : (Jvm.Cond.code ({ cls := "BlockVault", name := "remove", desc := "(IZ)I" } : Jvm.MethodName) prog_1_method_5_code (4 : Nat) (Option.some Jvm.ClassFile.FieldType.int)) ∈ lw_gt := List.mem_filter.mpr ⟨List.mem_append_right _ (List.mem_of_getElem? (i := 241) (by decide +kernel)), rfl⟩
theorem tw_242 : (Jvm.Cond.methodLink "BlockVault" (75 : Nat) ({ cls := "BlockVault", name := "dropEntry", desc := "(I)V" } : Jvm.MethodName)) ∈ lw_gt := List.mem_filter.mpr ⟨List.mem_append_right _ (List.mem_of_getElem? (i := 242) (by decide +kernel)), rfl⟩
theorem tw_244 : (Jvm.Cond.instanceMethod ({ cls := "BlockVault", name := "dropEntry", desc := "(I)V" } : Jvm.MethodName)) ∈ lw_gt := List.mem_filter.mpr ⟨List.mem_append_right _ (List.mem_of_getElem? (i := 244) (by decide +kernel)), rfl⟩
theorem tw_245 : (Jvm.Cond.code ({ cls := "BlockVault", name := "dropEntry", desc := "(I)V" } : Jvm.MethodName) prog_1_method_36_code (3 : Nat) (Option.none : Option Jvm.ClassFile.FieldType)) ∈ lw_gt := List.mem_filter.mpr ⟨List.mem_append_right _ (List.mem_of_getElem? (i := 245) (by decide +kernel)), rfl⟩
theorem tw_246 : (Jvm.Cond.methodLink "BlockVault" (241 : Nat) ({ cls := "BlockVault$Entry", name := "forget", desc := "()V" } : Jvm.MethodName)) ∈ lw_gt := List.mem_filter.mpr ⟨List.mem_append_right _ (List.mem_of_getElem? (i := 246) (by decide +kernel)), rfl⟩
theorem tw_247 : (Jvm.Cond.instanceMethod ({ cls := "BlockVault$Entry", name := "forget", desc := "()V" } : Jvm.MethodName)) ∈ lw_gt := List.mem_filter.mpr ⟨List.mem_append_right _ (List.mem_of_getElem? (i := 247) (by decide +kernel)), rfl⟩
theorem tw_248 : (Jvm.Cond.selects "BlockVault$Entry" ({ cls := "BlockVault$Entry", name := "forget", desc := "()V" } : Jvm.MethodName) ({ cls := "BlockVault$Entry", name := "forget", desc := "()V" } : Jvm.MethodName)) ∈ lw_gt := List.mem_filter.mpr ⟨List.mem_append_right _ (List.mem_of_getElem? (i := 248) (by decide +kernel)), rfl⟩
theorem tw_249 : (Jvm.Cond.code ({ cls := "BlockVault$Entry", name := "forget", desc := "()V" } : Jvm.MethodName) prog_4_method_3_code (1 : Nat) (Option.none : Option Jvm.ClassFile.FieldType)) ∈ lw_gt := List.mem_filter.mpr ⟨List.mem_append_right _ (List.mem_of_getElem? (i := 249) (by decide +kernel)), rfl⟩
theorem tw_250 : (Jvm.Cond.methodLink "BlockVault$Entry" (22 : Nat) ({ cls := "BlockVault$Entry", name := "point", desc := "(LBlockVault$Copy;II)V" } : Jvm.MethodName)) ∈ lw_gt := List.mem_filter.mpr ⟨List.mem_append_right _ (List.mem_of_getElem? (i := 250) (by decide +kernel)), rfl⟩
theorem tw_251 : (Jvm.Cond.methodLink "BlockVault" (79 : Nat) ({ cls := "BlockVault", name := "writeTombstone", desc := "(I)I" } : Jvm.MethodName)) ∈ lw_gt := List.mem_filter.mpr ⟨List.mem_append_right _ (List.mem_of_getElem? (i := 251) (by decide +kernel)), rfl⟩
theorem tw_253 : (Jvm.Cond.instanceMethod ({ cls := "BlockVault", name := "writeTombstone", desc := "(I)I" } : Jvm.MethodName)) ∈ lw_gt := List.mem_filter.mpr ⟨List.mem_append_right _ (List.mem_of_getElem? (i := 253) (by decide +kernel)), rfl⟩
theorem tw_254 : (Jvm.Cond.code ({ cls := "BlockVault", name := "writeTombstone", desc := "(I)I" } : Jvm.MethodName) prog_1_method_26_code (2 : Nat) (Option.some Jvm.ClassFile.FieldType.int)) ∈ lw_gt := List.mem_filter.mpr ⟨List.mem_append_right _ (List.mem_of_getElem? (i := 254) (by decide +kernel)), rfl⟩
theorem tw_255 : (Jvm.Cond.methodLink "BlockVaultLaw" (33 : Nat) ({ cls := "BlockVault", name := "evict", desc := "(I)I" } : Jvm.MethodName)) ∈ lw_gt := List.mem_filter.mpr ⟨List.mem_append_right _ (List.mem_of_getElem? (i := 255) (by decide +kernel)), rfl⟩
theorem tw_256 : (Jvm.Cond.instanceMethod ({ cls := "BlockVault", name := "evict", desc := "(I)I" } : Jvm.MethodName)) ∈ lw_gt := List.mem_filter.mpr ⟨List.mem_append_right _ (List.mem_of_getElem? (i := 256) (by decide +kernel)), rfl⟩
theorem tw_257 : (Jvm.Cond.selects "BlockVault" ({ cls := "BlockVault", name := "evict", desc := "(I)I" } : Jvm.MethodName) ({ cls := "BlockVault", name := "evict", desc := "(I)I" } : Jvm.MethodName)) ∈ lw_gt := List.mem_filter.mpr ⟨List.mem_append_right _ (List.mem_of_getElem? (i := 257) (by decide +kernel)), rfl⟩
theorem tw_258 : (Jvm.Cond.code ({ cls := "BlockVault", name := "evict", desc := "(I)I" } : Jvm.MethodName) prog_1_method_6_code (4 : Nat) (Option.some Jvm.ClassFile.FieldType.int)) ∈ lw_gt := List.mem_filter.mpr ⟨List.mem_append_right _ (List.mem_of_getElem? (i := 258) (by decide +kernel)), rfl⟩
theorem tw_259 : (Jvm.Cond.methodLink "BlockVault" (83 : Nat) ({ cls := "BlockVault", name := "firstToExpire", desc := "()I" } : Jvm.MethodName)) ∈ lw_gt := List.mem_filter.mpr ⟨List.mem_append_right _ (List.mem_of_getElem? (i := 259) (by decide +kernel)), rfl⟩
theorem tw_261 : (Jvm.Cond.instanceMethod ({ cls := "BlockVault", name := "firstToExpire", desc := "()I" } : Jvm.MethodName)) ∈ lw_gt := List.mem_filter.mpr ⟨List.mem_append_right _ (List.mem_of_getElem? (i := 261) (by decide +kernel)), rfl⟩
theorem tw_262 : (Jvm.Cond.code ({ cls := "BlockVault", name := "firstToExpire", desc := "()I" } : Jvm.MethodName) prog_1_method_37_code (3 : Nat) (Option.some Jvm.ClassFile.FieldType.int)) ∈ lw_gt := List.mem_filter.mpr ⟨List.mem_append_right _ (List.mem_of_getElem? (i := 262) (by decide +kernel)), rfl⟩
theorem tw_263 : (Jvm.Cond.methodLink "BlockVaultLaw" (38 : Nat) ({ cls := "BlockVault", name := "tick", desc := "(I)I" } : Jvm.MethodName)) ∈ lw_gt := List.mem_filter.mpr ⟨List.mem_append_right _ (List.mem_of_getElem? (i := 263) (by decide +kernel)), rfl⟩
theorem tw_264 : (Jvm.Cond.instanceMethod ({ cls := "BlockVault", name := "tick", desc := "(I)I" } : Jvm.MethodName)) ∈ lw_gt := List.mem_filter.mpr ⟨List.mem_append_right _ (List.mem_of_getElem? (i := 264) (by decide +kernel)), rfl⟩
theorem tw_265 : (Jvm.Cond.selects "BlockVault" ({ cls := "BlockVault", name := "tick", desc := "(I)I" } : Jvm.MethodName) ({ cls := "BlockVault", name := "tick", desc := "(I)I" } : Jvm.MethodName)) ∈ lw_gt := List.mem_filter.mpr ⟨List.mem_append_right _ (List.mem_of_getElem? (i := 265) (by decide +kernel)), rfl⟩
theorem tw_266 : (Jvm.Cond.code ({ cls := "BlockVault", name := "tick", desc := "(I)I" } : Jvm.MethodName) prog_1_method_7_code (2 : Nat) (Option.some Jvm.ClassFile.FieldType.int)) ∈ lw_gt := List.mem_filter.mpr ⟨List.mem_append_right _ (List.mem_of_getElem? (i := 266) (by decide +kernel)), rfl⟩
theorem tw_267 : (Jvm.Cond.methodLink "BlockVaultLaw" (42 : Nat) ({ cls := "BlockVault", name := "sweep", desc := "()I" } : Jvm.MethodName)) ∈ lw_gt := List.mem_filter.mpr ⟨List.mem_append_right _ (List.mem_of_getElem? (i := 267) (by decide +kernel)), rfl⟩
theorem tw_268 : (Jvm.Cond.instanceMethod ({ cls := "BlockVault", name := "sweep", desc := "()I" } : Jvm.MethodName)) ∈ lw_gt := List.mem_filter.mpr ⟨List.mem_append_right _ (List.mem_of_getElem? (i := 268) (by decide +kernel)), rfl⟩
theorem tw_269 : (Jvm.Cond.selects "BlockVault" ({ cls := "BlockVault", name := "sweep", desc := "()I" } : Jvm.MethodName) ({ cls := "BlockVault", name := "sweep", desc := "()I" } : Jvm.MethodName)) ∈ lw_gt := List.mem_filter.mpr ⟨List.mem_append_right _ (List.mem_of_getElem? (i := 269) (by decide +kernel)), rfl⟩
theorem tw_270 : (Jvm.Cond.code ({ cls := "BlockVault", name := "sweep", desc := "()I" } : Jvm.MethodName) prog_1_method_8_code (3 : Nat) (Option.some Jvm.ClassFile.FieldType.int)) ∈ lw_gt := List.mem_filter.mpr ⟨List.mem_append_right _ (List.mem_of_getElem? (i := 270) (by decide +kernel)), rfl⟩
theorem tw_271 : (Jvm.Cond.methodLink "BlockVault" (87 : Nat) ({ cls := "BlockVault", name := "isNeedless", desc := "(I)Z" } : Jvm.MethodName)) ∈ lw_gt := List.mem_filter.mpr ⟨List.mem_append_right _ (List.mem_of_getElem? (i := 271) (by decide +kernel)), rfl⟩
theorem tw_273 : (Jvm.Cond.instanceMethod ({ cls := "BlockVault", name := "isNeedless", desc := "(I)Z" } : Jvm.MethodName)) ∈ lw_gt := List.mem_filter.mpr ⟨List.mem_append_right _ (List.mem_of_getElem? (i := 273) (by decide +kernel)), rfl⟩
theorem tw_274 : (Jvm.Cond.code ({ cls := "BlockVault", name := "isNeedless", desc := "(I)Z" } : Jvm.MethodName) prog_1_method_38_code (3 : Nat) (Option.some Jvm.ClassFile.FieldType.boolean)) ∈ lw_gt := List.mem_filter.mpr ⟨List.mem_append_right _ (List.mem_of_getElem? (i := 274) (by decide +kernel)), rfl⟩
theorem tw_275 : (Jvm.Cond.methodLink "BlockVault" (244 : Nat) ({ cls := "BlockVault", name := "hidesAnother", desc := "(LBlockVault$Copy;)Z" } : Jvm.MethodName)) ∈ lw_gt := List.mem_filter.mpr ⟨List.mem_append_right _ (List.mem_of_getElem? (i := 275) (by decide +kernel)), rfl⟩
theorem tw_277 : (Jvm.Cond.instanceMethod ({ cls := "BlockVault", name := "hidesAnother", desc := "(LBlockVault$Copy;)Z" } : Jvm.MethodName)) ∈ lw_gt := List.mem_filter.mpr ⟨List.mem_append_right _ (List.mem_of_getElem? (i := 277) (by decide +kernel)), rfl⟩
theorem tw_278 : (Jvm.Cond.code ({ cls := "BlockVault", name := "hidesAnother", desc := "(LBlockVault$Copy;)Z" } : Jvm.MethodName) prog_1_method_39_code (3 : Nat) (Option.some Jvm.ClassFile.FieldType.boolean)) ∈ lw_gt := List.mem_filter.mpr ⟨List.mem_append_right _ (List.mem_of_getElem? (i := 278) (by decide +kernel)), rfl⟩
theorem tw_279 : (Jvm.Cond.methodLink "BlockVault" (248 : Nat) ({ cls := "BlockVault$Row", name := "hasOther", desc := "(LBlockVault$Copy;)Z" } : Jvm.MethodName)) ∈ lw_gt := List.mem_filter.mpr ⟨List.mem_append_right _ (List.mem_of_getElem? (i := 279) (by decide +kernel)), rfl⟩
theorem tw_280 : (Jvm.Cond.instanceMethod ({ cls := "BlockVault$Row", name := "hasOther", desc := "(LBlockVault$Copy;)Z" } : Jvm.MethodName)) ∈ lw_gt := List.mem_filter.mpr ⟨List.mem_append_right _ (List.mem_of_getElem? (i := 280) (by decide +kernel)), rfl⟩
theorem tw_281 : (Jvm.Cond.selects "BlockVault$Row" ({ cls := "BlockVault$Row", name := "hasOther", desc := "(LBlockVault$Copy;)Z" } : Jvm.MethodName) ({ cls := "BlockVault$Row", name := "hasOther", desc := "(LBlockVault$Copy;)Z" } : Jvm.MethodName)) ∈ lw_gt := List.mem_filter.mpr ⟨List.mem_append_right _ (List.mem_of_getElem? (i := 281) (by decide +kernel)), rfl⟩
theorem tw_282 : (Jvm.Cond.code ({ cls := "BlockVault$Row", name := "hasOther", desc := "(LBlockVault$Copy;)Z" } : Jvm.MethodName) prog_5_method_8_code (3 : Nat) (Option.some Jvm.ClassFile.FieldType.boolean)) ∈ lw_gt := List.mem_filter.mpr ⟨List.mem_append_right _ (List.mem_of_getElem? (i := 282) (by decide +kernel)), rfl⟩
theorem tw_283 : (Jvm.Cond.methodLink "BlockVaultLaw" (47 : Nat) ({ cls := "BlockVault", name := "seal", desc := "()I" } : Jvm.MethodName)) ∈ lw_gt := List.mem_filter.mpr ⟨List.mem_append_right _ (List.mem_of_getElem? (i := 283) (by decide +kernel)), rfl⟩
theorem tw_284 : (Jvm.Cond.instanceMethod ({ cls := "BlockVault", name := "seal", desc := "()I" } : Jvm.MethodName)) ∈ lw_gt := List.mem_filter.mpr ⟨List.mem_append_right _ (List.mem_of_getElem? (i := 284) (by decide +kernel)), rfl⟩
theorem tw_285 : (Jvm.Cond.selects "BlockVault" ({ cls := "BlockVault", name := "seal", desc := "()I" } : Jvm.MethodName) ({ cls := "BlockVault", name := "seal", desc := "()I" } : Jvm.MethodName)) ∈ lw_gt := List.mem_filter.mpr ⟨List.mem_append_right _ (List.mem_of_getElem? (i := 285) (by decide +kernel)), rfl⟩
theorem tw_286 : (Jvm.Cond.code ({ cls := "BlockVault", name := "seal", desc := "()I" } : Jvm.MethodName) prog_1_method_9_code (2 : Nat) (Option.some Jvm.ClassFile.FieldType.int)) ∈ lw_gt := List.mem_filter.mpr ⟨List.mem_append_right _ (List.mem_of_getElem? (i := 286) (by decide +kernel)), rfl⟩
theorem tw_287 : (Jvm.Cond.methodLink "BlockVaultLaw" (51 : Nat) ({ cls := "BlockVault", name := "flush", desc := "(I)I" } : Jvm.MethodName)) ∈ lw_gt := List.mem_filter.mpr ⟨List.mem_append_right _ (List.mem_of_getElem? (i := 287) (by decide +kernel)), rfl⟩
theorem tw_288 : (Jvm.Cond.instanceMethod ({ cls := "BlockVault", name := "flush", desc := "(I)I" } : Jvm.MethodName)) ∈ lw_gt := List.mem_filter.mpr ⟨List.mem_append_right _ (List.mem_of_getElem? (i := 288) (by decide +kernel)), rfl⟩
theorem tw_289 : (Jvm.Cond.selects "BlockVault" ({ cls := "BlockVault", name := "flush", desc := "(I)I" } : Jvm.MethodName) ({ cls := "BlockVault", name := "flush", desc := "(I)I" } : Jvm.MethodName)) ∈ lw_gt := List.mem_filter.mpr ⟨List.mem_append_right _ (List.mem_of_getElem? (i := 289) (by decide +kernel)), rfl⟩
theorem tw_290 : (Jvm.Cond.code ({ cls := "BlockVault", name := "flush", desc := "(I)I" } : Jvm.MethodName) prog_1_method_10_code (4 : Nat) (Option.some Jvm.ClassFile.FieldType.int)) ∈ lw_gt := List.mem_filter.mpr ⟨List.mem_append_right _ (List.mem_of_getElem? (i := 290) (by decide +kernel)), rfl⟩
theorem tw_291 : (Jvm.Cond.methodLink "BlockVault" (99 : Nat) ({ cls := "BlockVault", name := "longestSealed", desc := "()I" } : Jvm.MethodName)) ∈ lw_gt := List.mem_filter.mpr ⟨List.mem_append_right _ (List.mem_of_getElem? (i := 291) (by decide +kernel)), rfl⟩
theorem tw_293 : (Jvm.Cond.instanceMethod ({ cls := "BlockVault", name := "longestSealed", desc := "()I" } : Jvm.MethodName)) ∈ lw_gt := List.mem_filter.mpr ⟨List.mem_append_right _ (List.mem_of_getElem? (i := 293) (by decide +kernel)), rfl⟩
theorem tw_294 : (Jvm.Cond.code ({ cls := "BlockVault", name := "longestSealed", desc := "()I" } : Jvm.MethodName) prog_1_method_49_code (3 : Nat) (Option.some Jvm.ClassFile.FieldType.int)) ∈ lw_gt := List.mem_filter.mpr ⟨List.mem_append_right _ (List.mem_of_getElem? (i := 294) (by decide +kernel)), rfl⟩
theorem tw_295 : (Jvm.Cond.methodLink "BlockVault" (102 : Nat) ({ cls := "BlockVault", name := "writeBlock", desc := "(I)V" } : Jvm.MethodName)) ∈ lw_gt := List.mem_filter.mpr ⟨List.mem_append_right _ (List.mem_of_getElem? (i := 295) (by decide +kernel)), rfl⟩
theorem tw_297 : (Jvm.Cond.instanceMethod ({ cls := "BlockVault", name := "writeBlock", desc := "(I)V" } : Jvm.MethodName)) ∈ lw_gt := List.mem_filter.mpr ⟨List.mem_append_right _ (List.mem_of_getElem? (i := 297) (by decide +kernel)), rfl⟩
theorem tw_298 : (Jvm.Cond.code ({ cls := "BlockVault", name := "writeBlock", desc := "(I)V" } : Jvm.MethodName) prog_1_method_31_code (3 : Nat) (Option.none : Option Jvm.ClassFile.FieldType)) ∈ lw_gt := List.mem_filter.mpr ⟨List.mem_append_right _ (List.mem_of_getElem? (i := 298) (by decide +kernel)), rfl⟩
theorem tw_299 : (Jvm.Cond.methodLink "BlockVault" (123 : Nat) ({ cls := "BlockVault$Row", name := "takeFirst", desc := "(ILBlockVault$Row;)V" } : Jvm.MethodName)) ∈ lw_gt := List.mem_filter.mpr ⟨List.mem_append_right _ (List.mem_of_getElem? (i := 299) (by decide +kernel)), rfl⟩
theorem tw_300 : (Jvm.Cond.instanceMethod ({ cls := "BlockVault$Row", name := "takeFirst", desc := "(ILBlockVault$Row;)V" } : Jvm.MethodName)) ∈ lw_gt := List.mem_filter.mpr ⟨List.mem_append_right _ (List.mem_of_getElem? (i := 300) (by decide +kernel)), rfl⟩
theorem tw_301 : (Jvm.Cond.selects "BlockVault$Row" ({ cls := "BlockVault$Row", name := "takeFirst", desc := "(ILBlockVault$Row;)V" } : Jvm.MethodName) ({ cls := "BlockVault$Row", name := "takeFirst", desc := "(ILBlockVault$Row;)V" } : Jvm.MethodName)) ∈ lw_gt := List.mem_filter.mpr ⟨List.mem_append_right _ (List.mem_of_getElem? (i := 301) (by decide +kernel)), rfl⟩
theorem tw_302 : (Jvm.Cond.code ({ cls := "BlockVault$Row", name := "takeFirst", desc := "(ILBlockVault$Row;)V" } : Jvm.MethodName) prog_5_method_5_code (4 : Nat) (Option.none : Option Jvm.ClassFile.FieldType)) ∈ lw_gt := List.mem_filter.mpr ⟨List.mem_append_right _ (List.mem_of_getElem? (i := 302) (by decide +kernel)), rfl⟩
theorem tw_303 : (Jvm.Cond.methodLink "BlockVault$Row" (21 : Nat) ({ cls := "BlockVault$Row", name := "clear", desc := "()V" } : Jvm.MethodName)) ∈ lw_gt := List.mem_filter.mpr ⟨List.mem_append_right _ (List.mem_of_getElem? (i := 303) (by decide +kernel)), rfl⟩
theorem tw_304 : (Jvm.Cond.methodLink "BlockVault$Row" (24 : Nat) ({ cls := "BlockVault$Row", name := "add", desc := "(LBlockVault$Copy;)V" } : Jvm.MethodName)) ∈ lw_gt := List.mem_filter.mpr ⟨List.mem_append_right _ (List.mem_of_getElem? (i := 304) (by decide +kernel)), rfl⟩
theorem tw_305 : (Jvm.Cond.methodLink "BlockVault" (226 : Nat) ({ cls := "BlockVault", name := "endWaitsFor", desc := "(I)V" } : Jvm.MethodName)) ∈ lw_gt := List.mem_filter.mpr ⟨List.mem_append_right _ (List.mem_of_getElem? (i := 305) (by decide +kernel)), rfl⟩
theorem tw_307 : (Jvm.Cond.instanceMethod ({ cls := "BlockVault", name := "endWaitsFor", desc := "(I)V" } : Jvm.MethodName)) ∈ lw_gt := List.mem_filter.mpr ⟨List.mem_append_right _ (List.mem_of_getElem? (i := 307) (by decide +kernel)), rfl⟩
theorem tw_308 : (Jvm.Cond.code ({ cls := "BlockVault", name := "endWaitsFor", desc := "(I)V" } : Jvm.MethodName) prog_1_method_32_code (3 : Nat) (Option.none : Option Jvm.ClassFile.FieldType)) ∈ lw_gt := List.mem_filter.mpr ⟨List.mem_append_right _ (List.mem_of_getElem? (i := 308) (by decide +kernel)), rfl⟩
theorem tw_309 : (Jvm.Cond.methodLink "BlockVaultLaw" (55 : Nat) ({ cls := "BlockVault", name := "compact", desc := "(I)I" } : Jvm.MethodName)) ∈ lw_gt := List.mem_filter.mpr ⟨List.mem_append_right _ (List.mem_of_getElem? (i := 309) (by decide +kernel)), rfl⟩
theorem tw_310 : (Jvm.Cond.instanceMethod ({ cls := "BlockVault", name := "compact", desc := "(I)I" } : Jvm.MethodName)) ∈ lw_gt := List.mem_filter.mpr ⟨List.mem_append_right _ (List.mem_of_getElem? (i := 310) (by decide +kernel)), rfl⟩
theorem tw_311 : (Jvm.Cond.selects "BlockVault" ({ cls := "BlockVault", name := "compact", desc := "(I)I" } : Jvm.MethodName) ({ cls := "BlockVault", name := "compact", desc := "(I)I" } : Jvm.MethodName)) ∈ lw_gt := List.mem_filter.mpr ⟨List.mem_append_right _ (List.mem_of_getElem? (i := 311) (by decide +kernel)), rfl⟩
theorem tw_312 : (Jvm.Cond.code ({ cls := "BlockVault", name := "compact", desc := "(I)I" } : Jvm.MethodName) prog_1_method_11_code (4 : Nat) (Option.some Jvm.ClassFile.FieldType.int)) ∈ lw_gt := List.mem_filter.mpr ⟨List.mem_append_right _ (List.mem_of_getElem? (i := 312) (by decide +kernel)), rfl⟩
theorem tw_313 : (Jvm.Cond.methodLink "BlockVault" (105 : Nat) ({ cls := "BlockVault", name := "sparsestWritten", desc := "(I)I" } : Jvm.MethodName)) ∈ lw_gt := List.mem_filter.mpr ⟨List.mem_append_right _ (List.mem_of_getElem? (i := 313) (by decide +kernel)), rfl⟩
theorem tw_315 : (Jvm.Cond.instanceMethod ({ cls := "BlockVault", name := "sparsestWritten", desc := "(I)I" } : Jvm.MethodName)) ∈ lw_gt := List.mem_filter.mpr ⟨List.mem_append_right _ (List.mem_of_getElem? (i := 315) (by decide +kernel)), rfl⟩
theorem tw_316 : (Jvm.Cond.code ({ cls := "BlockVault", name := "sparsestWritten", desc := "(I)I" } : Jvm.MethodName) prog_1_method_40_code (5 : Nat) (Option.some Jvm.ClassFile.FieldType.int)) ∈ lw_gt := List.mem_filter.mpr ⟨List.mem_append_right _ (List.mem_of_getElem? (i := 316) (by decide +kernel)), rfl⟩
theorem tw_317 : (Jvm.Cond.methodLink "BlockVault" (169 : Nat) ({ cls := "BlockVault", name := "used", desc := "(I)I" } : Jvm.MethodName)) ∈ lw_gt := List.mem_filter.mpr ⟨List.mem_append_right _ (List.mem_of_getElem? (i := 317) (by decide +kernel)), rfl⟩
theorem tw_319 : (Jvm.Cond.instanceMethod ({ cls := "BlockVault", name := "used", desc := "(I)I" } : Jvm.MethodName)) ∈ lw_gt := List.mem_filter.mpr ⟨List.mem_append_right _ (List.mem_of_getElem? (i := 319) (by decide +kernel)), rfl⟩
theorem tw_320 : (Jvm.Cond.code ({ cls := "BlockVault", name := "used", desc := "(I)I" } : Jvm.MethodName) prog_1_method_52_code (5 : Nat) (Option.some Jvm.ClassFile.FieldType.int)) ∈ lw_gt := List.mem_filter.mpr ⟨List.mem_append_right _ (List.mem_of_getElem? (i := 320) (by decide +kernel)), rfl⟩
theorem tw_321 : (Jvm.Cond.methodLink "BlockVault" (108 : Nat) ({ cls := "BlockVault", name := "moveLiveCopies", desc := "(I)I" } : Jvm.MethodName)) ∈ lw_gt := List.mem_filter.mpr ⟨List.mem_append_right _ (List.mem_of_getElem? (i := 321) (by decide +kernel)), rfl⟩
theorem tw_323 : (Jvm.Cond.instanceMethod ({ cls := "BlockVault", name := "moveLiveCopies", desc := "(I)I" } : Jvm.MethodName)) ∈ lw_gt := List.mem_filter.mpr ⟨List.mem_append_right _ (List.mem_of_getElem? (i := 323) (by decide +kernel)), rfl⟩
theorem tw_324 : (Jvm.Cond.code ({ cls := "BlockVault", name := "moveLiveCopies", desc := "(I)I" } : Jvm.MethodName) prog_1_method_41_code (6 : Nat) (Option.some Jvm.ClassFile.FieldType.int)) ∈ lw_gt := List.mem_filter.mpr ⟨List.mem_append_right _ (List.mem_of_getElem? (i := 324) (by decide +kernel)), rfl⟩
theorem tw_325 : (Jvm.Cond.methodLink "BlockVault" (183 : Nat) ({ cls := "BlockVault$Row", name := "at", desc := "(I)LBlockVault$Copy;" } : Jvm.MethodName)) ∈ lw_gt := List.mem_filter.mpr ⟨List.mem_append_right _ (List.mem_of_getElem? (i := 325) (by decide +kernel)), rfl⟩
theorem tw_326 : (Jvm.Cond.instanceMethod ({ cls := "BlockVault$Row", name := "at", desc := "(I)LBlockVault$Copy;" } : Jvm.MethodName)) ∈ lw_gt := List.mem_filter.mpr ⟨List.mem_append_right _ (List.mem_of_getElem? (i := 326) (by decide +kernel)), rfl⟩
theorem tw_327 : (Jvm.Cond.selects "BlockVault$Row" ({ cls := "BlockVault$Row", name := "at", desc := "(I)LBlockVault$Copy;" } : Jvm.MethodName) ({ cls := "BlockVault$Row", name := "at", desc := "(I)LBlockVault$Copy;" } : Jvm.MethodName)) ∈ lw_gt := List.mem_filter.mpr ⟨List.mem_append_right _ (List.mem_of_getElem? (i := 327) (by decide +kernel)), rfl⟩
theorem tw_328 : (Jvm.Cond.code ({ cls := "BlockVault$Row", name := "at", desc := "(I)LBlockVault$Copy;" } : Jvm.MethodName) prog_5_method_2_code (2 : Nat) (Option.some (Jvm.ClassFile.FieldType.object "BlockVault$Copy"))) ∈ lw_gt := List.mem_filter.mpr ⟨List.mem_append_right _ (List.mem_of_getElem? (i := 328) (by decide +kernel)), rfl⟩
theorem tw_329 : (Jvm.Cond.methodLink "BlockVault" (251 : Nat) ({ cls := "BlockVault", name := "isLiveAt", desc := "(LBlockVault$Copy;II)Z" } : Jvm.MethodName)) ∈ lw_gt := List.mem_filter.mpr ⟨List.mem_append_right _ (List.mem_of_getElem? (i := 329) (by decide +kernel)), rfl⟩
theorem tw_331 : (Jvm.Cond.instanceMethod ({ cls := "BlockVault", name := "isLiveAt", desc := "(LBlockVault$Copy;II)Z" } : Jvm.MethodName)) ∈ lw_gt := List.mem_filter.mpr ⟨List.mem_append_right _ (List.mem_of_getElem? (i := 331) (by decide +kernel)), rfl⟩
theorem tw_332 : (Jvm.Cond.code ({ cls := "BlockVault", name := "isLiveAt", desc := "(LBlockVault$Copy;II)Z" } : Jvm.MethodName) prog_1_method_51_code (5 : Nat) (Option.some Jvm.ClassFile.FieldType.boolean)) ∈ lw_gt := List.mem_filter.mpr ⟨List.mem_append_right _ (List.mem_of_getElem? (i := 332) (by decide +kernel)), rfl⟩
theorem tw_333 : (Jvm.Cond.methodLink "BlockVaultLaw" (59 : Nat) ({ cls := "BlockVault", name := "crash", desc := "(I)I" } : Jvm.MethodName)) ∈ lw_gt := List.mem_filter.mpr ⟨List.mem_append_right _ (List.mem_of_getElem? (i := 333) (by decide +kernel)), rfl⟩
theorem tw_334 : (Jvm.Cond.instanceMethod ({ cls := "BlockVault", name := "crash", desc := "(I)I" } : Jvm.MethodName)) ∈ lw_gt := List.mem_filter.mpr ⟨List.mem_append_right _ (List.mem_of_getElem? (i := 334) (by decide +kernel)), rfl⟩
theorem tw_335 : (Jvm.Cond.selects "BlockVault" ({ cls := "BlockVault", name := "crash", desc := "(I)I" } : Jvm.MethodName) ({ cls := "BlockVault", name := "crash", desc := "(I)I" } : Jvm.MethodName)) ∈ lw_gt := List.mem_filter.mpr ⟨List.mem_append_right _ (List.mem_of_getElem? (i := 335) (by decide +kernel)), rfl⟩
theorem tw_336 : (Jvm.Cond.code ({ cls := "BlockVault", name := "crash", desc := "(I)I" } : Jvm.MethodName) prog_1_method_12_code (3 : Nat) (Option.some Jvm.ClassFile.FieldType.int)) ∈ lw_gt := List.mem_filter.mpr ⟨List.mem_append_right _ (List.mem_of_getElem? (i := 336) (by decide +kernel)), rfl⟩
theorem tw_337 : (Jvm.Cond.methodLink "BlockVault" (127 : Nat) ({ cls := "BlockVault", name := "loseMemory", desc := "()V" } : Jvm.MethodName)) ∈ lw_gt := List.mem_filter.mpr ⟨List.mem_append_right _ (List.mem_of_getElem? (i := 337) (by decide +kernel)), rfl⟩
theorem tw_339 : (Jvm.Cond.instanceMethod ({ cls := "BlockVault", name := "loseMemory", desc := "()V" } : Jvm.MethodName)) ∈ lw_gt := List.mem_filter.mpr ⟨List.mem_append_right _ (List.mem_of_getElem? (i := 339) (by decide +kernel)), rfl⟩
theorem tw_340 : (Jvm.Cond.code ({ cls := "BlockVault", name := "loseMemory", desc := "()V" } : Jvm.MethodName) prog_1_method_42_code (2 : Nat) (Option.none : Option Jvm.ClassFile.FieldType)) ∈ lw_gt := List.mem_filter.mpr ⟨List.mem_append_right _ (List.mem_of_getElem? (i := 340) (by decide +kernel)), rfl⟩
theorem tw_341 : (Jvm.Cond.methodLink "BlockVaultLaw" (63 : Nat) ({ cls := "BlockVault", name := "start", desc := "()I" } : Jvm.MethodName)) ∈ lw_gt := List.mem_filter.mpr ⟨List.mem_append_right _ (List.mem_of_getElem? (i := 341) (by decide +kernel)), rfl⟩
theorem tw_342 : (Jvm.Cond.instanceMethod ({ cls := "BlockVault", name := "start", desc := "()I" } : Jvm.MethodName)) ∈ lw_gt := List.mem_filter.mpr ⟨List.mem_append_right _ (List.mem_of_getElem? (i := 342) (by decide +kernel)), rfl⟩
theorem tw_343 : (Jvm.Cond.selects "BlockVault" ({ cls := "BlockVault", name := "start", desc := "()I" } : Jvm.MethodName) ({ cls := "BlockVault", name := "start", desc := "()I" } : Jvm.MethodName)) ∈ lw_gt := List.mem_filter.mpr ⟨List.mem_append_right _ (List.mem_of_getElem? (i := 343) (by decide +kernel)), rfl⟩
theorem tw_344 : (Jvm.Cond.code ({ cls := "BlockVault", name := "start", desc := "()I" } : Jvm.MethodName) prog_1_method_13_code (1 : Nat) (Option.some Jvm.ClassFile.FieldType.int)) ∈ lw_gt := List.mem_filter.mpr ⟨List.mem_append_right _ (List.mem_of_getElem? (i := 344) (by decide +kernel)), rfl⟩
theorem tw_345 : (Jvm.Cond.methodLink "BlockVault" (130 : Nat) ({ cls := "BlockVault", name := "nameNewestCopies", desc := "()V" } : Jvm.MethodName)) ∈ lw_gt := List.mem_filter.mpr ⟨List.mem_append_right _ (List.mem_of_getElem? (i := 345) (by decide +kernel)), rfl⟩
theorem tw_347 : (Jvm.Cond.instanceMethod ({ cls := "BlockVault", name := "nameNewestCopies", desc := "()V" } : Jvm.MethodName)) ∈ lw_gt := List.mem_filter.mpr ⟨List.mem_append_right _ (List.mem_of_getElem? (i := 347) (by decide +kernel)), rfl⟩
theorem tw_348 : (Jvm.Cond.code ({ cls := "BlockVault", name := "nameNewestCopies", desc := "()V" } : Jvm.MethodName) prog_1_method_43_code (5 : Nat) (Option.none : Option Jvm.ClassFile.FieldType)) ∈ lw_gt := List.mem_filter.mpr ⟨List.mem_append_right _ (List.mem_of_getElem? (i := 348) (by decide +kernel)), rfl⟩
theorem tw_349 : (Jvm.Cond.methodLink "BlockVault" (255 : Nat) ({ cls := "BlockVault$Copy", name := "isNewerThan", desc := "(LBlockVault$Copy;)Z" } : Jvm.MethodName)) ∈ lw_gt := List.mem_filter.mpr ⟨List.mem_append_right _ (List.mem_of_getElem? (i := 349) (by decide +kernel)), rfl⟩
theorem tw_350 : (Jvm.Cond.instanceMethod ({ cls := "BlockVault$Copy", name := "isNewerThan", desc := "(LBlockVault$Copy;)Z" } : Jvm.MethodName)) ∈ lw_gt := List.mem_filter.mpr ⟨List.mem_append_right _ (List.mem_of_getElem? (i := 350) (by decide +kernel)), rfl⟩
theorem tw_351 : (Jvm.Cond.selects "BlockVault$Copy" ({ cls := "BlockVault$Copy", name := "isNewerThan", desc := "(LBlockVault$Copy;)Z" } : Jvm.MethodName) ({ cls := "BlockVault$Copy", name := "isNewerThan", desc := "(LBlockVault$Copy;)Z" } : Jvm.MethodName)) ∈ lw_gt := List.mem_filter.mpr ⟨List.mem_append_right _ (List.mem_of_getElem? (i := 351) (by decide +kernel)), rfl⟩
theorem tw_352 : (Jvm.Cond.code ({ cls := "BlockVault$Copy", name := "isNewerThan", desc := "(LBlockVault$Copy;)Z" } : Jvm.MethodName) prog_3_method_3_code (2 : Nat) (Option.some Jvm.ClassFile.FieldType.boolean)) ∈ lw_gt := List.mem_filter.mpr ⟨List.mem_append_right _ (List.mem_of_getElem? (i := 352) (by decide +kernel)), rfl⟩
theorem tw_353 : (Jvm.Cond.methodLink "BlockVault" (133 : Nat) ({ cls := "BlockVault", name := "dropExpiredFound", desc := "()V" } : Jvm.MethodName)) ∈ lw_gt := List.mem_filter.mpr ⟨List.mem_append_right _ (List.mem_of_getElem? (i := 353) (by decide +kernel)), rfl⟩
theorem tw_355 : (Jvm.Cond.instanceMethod ({ cls := "BlockVault", name := "dropExpiredFound", desc := "()V" } : Jvm.MethodName)) ∈ lw_gt := List.mem_filter.mpr ⟨List.mem_append_right _ (List.mem_of_getElem? (i := 355) (by decide +kernel)), rfl⟩
theorem tw_356 : (Jvm.Cond.code ({ cls := "BlockVault", name := "dropExpiredFound", desc := "()V" } : Jvm.MethodName) prog_1_method_44_code (3 : Nat) (Option.none : Option Jvm.ClassFile.FieldType)) ∈ lw_gt := List.mem_filter.mpr ⟨List.mem_append_right _ (List.mem_of_getElem? (i := 356) (by decide +kernel)), rfl⟩
theorem tw_357 : (Jvm.Cond.methodLink "BlockVault" (136 : Nat) ({ cls := "BlockVault", name := "reopenBlocks", desc := "()V" } : Jvm.MethodName)) ∈ lw_gt := List.mem_filter.mpr ⟨List.mem_append_right _ (List.mem_of_getElem? (i := 357) (by decide +kernel)), rfl⟩
theorem tw_359 : (Jvm.Cond.instanceMethod ({ cls := "BlockVault", name := "reopenBlocks", desc := "()V" } : Jvm.MethodName)) ∈ lw_gt := List.mem_filter.mpr ⟨List.mem_append_right _ (List.mem_of_getElem? (i := 359) (by decide +kernel)), rfl⟩
theorem tw_360 : (Jvm.Cond.code ({ cls := "BlockVault", name := "reopenBlocks", desc := "()V" } : Jvm.MethodName) prog_1_method_45_code (2 : Nat) (Option.none : Option Jvm.ClassFile.FieldType)) ∈ lw_gt := List.mem_filter.mpr ⟨List.mem_append_right _ (List.mem_of_getElem? (i := 360) (by decide +kernel)), rfl⟩
theorem tw_361 : (Jvm.Cond.methodLink "BlockVault" (139 : Nat) ({ cls := "BlockVault", name := "greatestStamp", desc := "()I" } : Jvm.MethodName)) ∈ lw_gt := List.mem_filter.mpr ⟨List.mem_append_right _ (List.mem_of_getElem? (i := 361) (by decide +kernel)), rfl⟩
theorem tw_363 : (Jvm.Cond.instanceMethod ({ cls := "BlockVault", name := "greatestStamp", desc := "()I" } : Jvm.MethodName)) ∈ lw_gt := List.mem_filter.mpr ⟨List.mem_append_right _ (List.mem_of_getElem? (i := 363) (by decide +kernel)), rfl⟩
theorem tw_364 : (Jvm.Cond.code ({ cls := "BlockVault", name := "greatestStamp", desc := "()I" } : Jvm.MethodName) prog_1_method_46_code (3 : Nat) (Option.some Jvm.ClassFile.FieldType.int)) ∈ lw_gt := List.mem_filter.mpr ⟨List.mem_append_right _ (List.mem_of_getElem? (i := 364) (by decide +kernel)), rfl⟩
theorem tw_365 : (Jvm.Cond.methodLink "BlockVault" (258 : Nat) ({ cls := "BlockVault$Row", name := "greatestStamp", desc := "()I" } : Jvm.MethodName)) ∈ lw_gt := List.mem_filter.mpr ⟨List.mem_append_right _ (List.mem_of_getElem? (i := 365) (by decide +kernel)), rfl⟩
theorem tw_366 : (Jvm.Cond.instanceMethod ({ cls := "BlockVault$Row", name := "greatestStamp", desc := "()I" } : Jvm.MethodName)) ∈ lw_gt := List.mem_filter.mpr ⟨List.mem_append_right _ (List.mem_of_getElem? (i := 366) (by decide +kernel)), rfl⟩
theorem tw_367 : (Jvm.Cond.selects "BlockVault$Row" ({ cls := "BlockVault$Row", name := "greatestStamp", desc := "()I" } : Jvm.MethodName) ({ cls := "BlockVault$Row", name := "greatestStamp", desc := "()I" } : Jvm.MethodName)) ∈ lw_gt := List.mem_filter.mpr ⟨List.mem_append_right _ (List.mem_of_getElem? (i := 367) (by decide +kernel)), rfl⟩
theorem tw_368 : (Jvm.Cond.code ({ cls := "BlockVault$Row", name := "greatestStamp", desc := "()I" } : Jvm.MethodName) prog_5_method_7_code (3 : Nat) (Option.some Jvm.ClassFile.FieldType.int)) ∈ lw_gt := List.mem_filter.mpr ⟨List.mem_append_right _ (List.mem_of_getElem? (i := 368) (by decide +kernel)), rfl⟩
theorem tw_369 : (Jvm.Cond.methodLink "BlockVault$Row" (34 : Nat) ({ cls := "java/lang/Math", name := "max", desc := "(II)I" } : Jvm.MethodName)) ∈ lw_gt := List.mem_filter.mpr ⟨List.mem_append_right _ (List.mem_of_getElem? (i := 369) (by decide +kernel)), rfl⟩
theorem tw_370 : (Jvm.Cond.static ({ cls := "java/lang/Math", name := "max", desc := "(II)I" } : Jvm.MethodName)) ∈ lw_gt := List.mem_filter.mpr ⟨List.mem_append_right _ (List.mem_of_getElem? (i := 370) (by decide +kernel)), rfl⟩
theorem tw_371 : (Jvm.Cond.code ({ cls := "java/lang/Math", name := "max", desc := "(II)I" } : Jvm.MethodName) prog_9_method_65_code (2 : Nat) (Option.some Jvm.ClassFile.FieldType.int)) ∈ lw_gt := List.mem_filter.mpr ⟨List.mem_append_right _ (List.mem_of_getElem? (i := 371) (by decide +kernel)), rfl⟩
theorem tw_372 : (Jvm.Cond.methodLink "BlockVault" (259 : Nat) ({ cls := "java/lang/Math", name := "max", desc := "(II)I" } : Jvm.MethodName)) ∈ lw_gt := List.mem_filter.mpr ⟨List.mem_append_right _ (List.mem_of_getElem? (i := 372) (by decide +kernel)), rfl⟩
theorem tw_373 : (Jvm.Cond.methodLink "BlockVault" (142 : Nat) ({ cls := "BlockVault", name := "countThere", desc := "()I" } : Jvm.MethodName)) ∈ lw_gt := List.mem_filter.mpr ⟨List.mem_append_right _ (List.mem_of_getElem? (i := 373) (by decide +kernel)), rfl⟩
theorem tw_375 : (Jvm.Cond.instanceMethod ({ cls := "BlockVault", name := "countThere", desc := "()I" } : Jvm.MethodName)) ∈ lw_gt := List.mem_filter.mpr ⟨List.mem_append_right _ (List.mem_of_getElem? (i := 375) (by decide +kernel)), rfl⟩
theorem tw_376 : (Jvm.Cond.code ({ cls := "BlockVault", name := "countThere", desc := "()I" } : Jvm.MethodName) prog_1_method_53_code (3 : Nat) (Option.some Jvm.ClassFile.FieldType.int)) ∈ lw_gt := List.mem_filter.mpr ⟨List.mem_append_right _ (List.mem_of_getElem? (i := 376) (by decide +kernel)), rfl⟩
theorem tw_377 : (Jvm.Cond.methodLink "BlockVaultLaw" (67 : Nat) ({ cls := "BlockVault", name := "entry", desc := "(II)I" } : Jvm.MethodName)) ∈ lw_gt := List.mem_filter.mpr ⟨List.mem_append_right _ (List.mem_of_getElem? (i := 377) (by decide +kernel)), rfl⟩
theorem tw_378 : (Jvm.Cond.instanceMethod ({ cls := "BlockVault", name := "entry", desc := "(II)I" } : Jvm.MethodName)) ∈ lw_gt := List.mem_filter.mpr ⟨List.mem_append_right _ (List.mem_of_getElem? (i := 378) (by decide +kernel)), rfl⟩
theorem tw_379 : (Jvm.Cond.selects "BlockVault" ({ cls := "BlockVault", name := "entry", desc := "(II)I" } : Jvm.MethodName) ({ cls := "BlockVault", name := "entry", desc := "(II)I" } : Jvm.MethodName)) ∈ lw_gt := List.mem_filter.mpr ⟨List.mem_append_right _ (List.mem_of_getElem? (i := 379) (by decide +kernel)), rfl⟩
theorem tw_380 : (Jvm.Cond.code ({ cls := "BlockVault", name := "entry", desc := "(II)I" } : Jvm.MethodName) prog_1_method_14_code (4 : Nat) (Option.some Jvm.ClassFile.FieldType.int)) ∈ lw_gt := List.mem_filter.mpr ⟨List.mem_append_right _ (List.mem_of_getElem? (i := 380) (by decide +kernel)), rfl⟩
theorem tw_381 : (Jvm.Cond.methodLink "BlockVaultLaw" (71 : Nat) ({ cls := "BlockVault", name := "next", desc := "(I)I" } : Jvm.MethodName)) ∈ lw_gt := List.mem_filter.mpr ⟨List.mem_append_right _ (List.mem_of_getElem? (i := 381) (by decide +kernel)), rfl⟩
theorem tw_382 : (Jvm.Cond.instanceMethod ({ cls := "BlockVault", name := "next", desc := "(I)I" } : Jvm.MethodName)) ∈ lw_gt := List.mem_filter.mpr ⟨List.mem_append_right _ (List.mem_of_getElem? (i := 382) (by decide +kernel)), rfl⟩
theorem tw_383 : (Jvm.Cond.selects "BlockVault" ({ cls := "BlockVault", name := "next", desc := "(I)I" } : Jvm.MethodName) ({ cls := "BlockVault", name := "next", desc := "(I)I" } : Jvm.MethodName)) ∈ lw_gt := List.mem_filter.mpr ⟨List.mem_append_right _ (List.mem_of_getElem? (i := 383) (by decide +kernel)), rfl⟩
theorem tw_384 : (Jvm.Cond.code ({ cls := "BlockVault", name := "next", desc := "(I)I" } : Jvm.MethodName) prog_1_method_15_code (3 : Nat) (Option.some Jvm.ClassFile.FieldType.int)) ∈ lw_gt := List.mem_filter.mpr ⟨List.mem_append_right _ (List.mem_of_getElem? (i := 384) (by decide +kernel)), rfl⟩
theorem tw_385 : (Jvm.Cond.methodLink "BlockVaultLaw" (75 : Nat) ({ cls := "BlockVault", name := "rank", desc := "(I)I" } : Jvm.MethodName)) ∈ lw_gt := List.mem_filter.mpr ⟨List.mem_append_right _ (List.mem_of_getElem? (i := 385) (by decide +kernel)), rfl⟩
theorem tw_386 : (Jvm.Cond.instanceMethod ({ cls := "BlockVault", name := "rank", desc := "(I)I" } : Jvm.MethodName)) ∈ lw_gt := List.mem_filter.mpr ⟨List.mem_append_right _ (List.mem_of_getElem? (i := 386) (by decide +kernel)), rfl⟩
theorem tw_387 : (Jvm.Cond.selects "BlockVault" ({ cls := "BlockVault", name := "rank", desc := "(I)I" } : Jvm.MethodName) ({ cls := "BlockVault", name := "rank", desc := "(I)I" } : Jvm.MethodName)) ∈ lw_gt := List.mem_filter.mpr ⟨List.mem_append_right _ (List.mem_of_getElem? (i := 387) (by decide +kernel)), rfl⟩
theorem tw_388 : (Jvm.Cond.code ({ cls := "BlockVault", name := "rank", desc := "(I)I" } : Jvm.MethodName) prog_1_method_16_code (4 : Nat) (Option.some Jvm.ClassFile.FieldType.int)) ∈ lw_gt := List.mem_filter.mpr ⟨List.mem_append_right _ (List.mem_of_getElem? (i := 388) (by decide +kernel)), rfl⟩
theorem tw_389 : (Jvm.Cond.methodLink "BlockVaultLaw" (79 : Nat) ({ cls := "BlockVault", name := "block", desc := "(II)I" } : Jvm.MethodName)) ∈ lw_gt := List.mem_filter.mpr ⟨List.mem_append_right _ (List.mem_of_getElem? (i := 389) (by decide +kernel)), rfl⟩
theorem tw_390 : (Jvm.Cond.instanceMethod ({ cls := "BlockVault", name := "block", desc := "(II)I" } : Jvm.MethodName)) ∈ lw_gt := List.mem_filter.mpr ⟨List.mem_append_right _ (List.mem_of_getElem? (i := 390) (by decide +kernel)), rfl⟩
theorem tw_391 : (Jvm.Cond.selects "BlockVault" ({ cls := "BlockVault", name := "block", desc := "(II)I" } : Jvm.MethodName) ({ cls := "BlockVault", name := "block", desc := "(II)I" } : Jvm.MethodName)) ∈ lw_gt := List.mem_filter.mpr ⟨List.mem_append_right _ (List.mem_of_getElem? (i := 391) (by decide +kernel)), rfl⟩
theorem tw_392 : (Jvm.Cond.code ({ cls := "BlockVault", name := "block", desc := "(II)I" } : Jvm.MethodName) prog_1_method_17_code (3 : Nat) (Option.some Jvm.ClassFile.FieldType.int)) ∈ lw_gt := List.mem_filter.mpr ⟨List.mem_append_right _ (List.mem_of_getElem? (i := 392) (by decide +kernel)), rfl⟩
theorem tw_393 : (Jvm.Cond.methodLink "BlockVault" (178 : Nat) ({ cls := "java/lang/Integer", name := "bitCount", desc := "(I)I" } : Jvm.MethodName)) ∈ lw_gt := List.mem_filter.mpr ⟨List.mem_append_right _ (List.mem_of_getElem? (i := 393) (by decide +kernel)), rfl⟩
theorem tw_394 : (Jvm.Cond.static ({ cls := "java/lang/Integer", name := "bitCount", desc := "(I)I" } : Jvm.MethodName)) ∈ lw_gt := List.mem_filter.mpr ⟨List.mem_append_right _ (List.mem_of_getElem? (i := 394) (by decide +kernel)), rfl⟩
theorem tw_395 : (Jvm.Cond.code ({ cls := "java/lang/Integer", name := "bitCount", desc := "(I)I" } : Jvm.MethodName) prog_8_method_49_code (1 : Nat) (Option.some Jvm.ClassFile.FieldType.int)) ∈ lw_gt := List.mem_filter.mpr ⟨List.mem_append_right _ (List.mem_of_getElem? (i := 395) (by decide +kernel)), rfl⟩
theorem tw_396 : (Jvm.Cond.constant "java/lang/Integer" (265 : Nat) (1431655765 : Int32)) ∈ lw_gt := List.mem_filter.mpr ⟨List.mem_append_right _ (List.mem_of_getElem? (i := 396) (by decide +kernel)), rfl⟩
theorem tw_397 : (Jvm.Cond.constant "java/lang/Integer" (266 : Nat) (858993459 : Int32)) ∈ lw_gt := List.mem_filter.mpr ⟨List.mem_append_right _ (List.mem_of_getElem? (i := 397) (by decide +kernel)), rfl⟩
theorem tw_398 : (Jvm.Cond.constant "java/lang/Integer" (267 : Nat) (252645135 : Int32)) ∈ lw_gt := List.mem_filter.mpr ⟨List.mem_append_right _ (List.mem_of_getElem? (i := 398) (by decide +kernel)), rfl⟩
theorem tw_399 : (Jvm.Cond.methodLink "BlockVaultLaw" (83 : Nat) ({ cls := "BlockVault", name := "image", desc := "(II)I" } : Jvm.MethodName)) ∈ lw_gt := List.mem_filter.mpr ⟨List.mem_append_right _ (List.mem_of_getElem? (i := 399) (by decide +kernel)), rfl⟩
theorem tw_400 : (Jvm.Cond.instanceMethod ({ cls := "BlockVault", name := "image", desc := "(II)I" } : Jvm.MethodName)) ∈ lw_gt := List.mem_filter.mpr ⟨List.mem_append_right _ (List.mem_of_getElem? (i := 400) (by decide +kernel)), rfl⟩
theorem tw_401 : (Jvm.Cond.selects "BlockVault" ({ cls := "BlockVault", name := "image", desc := "(II)I" } : Jvm.MethodName) ({ cls := "BlockVault", name := "image", desc := "(II)I" } : Jvm.MethodName)) ∈ lw_gt := List.mem_filter.mpr ⟨List.mem_append_right _ (List.mem_of_getElem? (i := 401) (by decide +kernel)), rfl⟩
theorem tw_402 : (Jvm.Cond.code ({ cls := "BlockVault", name := "image", desc := "(II)I" } : Jvm.MethodName) prog_1_method_18_code (4 : Nat) (Option.some Jvm.ClassFile.FieldType.int)) ∈ lw_gt := List.mem_filter.mpr ⟨List.mem_append_right _ (List.mem_of_getElem? (i := 402) (by decide +kernel)), rfl⟩
theorem tw_403 : (Jvm.Cond.methodLink "BlockVaultLaw" (87 : Nat) ({ cls := "BlockVault", name := "count", desc := "(I)I" } : Jvm.MethodName)) ∈ lw_gt := List.mem_filter.mpr ⟨List.mem_append_right _ (List.mem_of_getElem? (i := 403) (by decide +kernel)), rfl⟩
theorem tw_404 : (Jvm.Cond.instanceMethod ({ cls := "BlockVault", name := "count", desc := "(I)I" } : Jvm.MethodName)) ∈ lw_gt := List.mem_filter.mpr ⟨List.mem_append_right _ (List.mem_of_getElem? (i := 404) (by decide +kernel)), rfl⟩
theorem tw_405 : (Jvm.Cond.selects "BlockVault" ({ cls := "BlockVault", name := "count", desc := "(I)I" } : Jvm.MethodName) ({ cls := "BlockVault", name := "count", desc := "(I)I" } : Jvm.MethodName)) ∈ lw_gt := List.mem_filter.mpr ⟨List.mem_append_right _ (List.mem_of_getElem? (i := 405) (by decide +kernel)), rfl⟩
theorem tw_406 : (Jvm.Cond.code ({ cls := "BlockVault", name := "count", desc := "(I)I" } : Jvm.MethodName) prog_1_method_19_code (2 : Nat) (Option.some Jvm.ClassFile.FieldType.int)) ∈ lw_gt := List.mem_filter.mpr ⟨List.mem_append_right _ (List.mem_of_getElem? (i := 406) (by decide +kernel)), rfl⟩
theorem tw_407 : (Jvm.Cond.methodLink "BlockVault" (187 : Nat) ({ cls := "BlockVault", name := "countEntries", desc := "()I" } : Jvm.MethodName)) ∈ lw_gt := List.mem_filter.mpr ⟨List.mem_append_right _ (List.mem_of_getElem? (i := 407) (by decide +kernel)), rfl⟩
theorem tw_409 : (Jvm.Cond.instanceMethod ({ cls := "BlockVault", name := "countEntries", desc := "()I" } : Jvm.MethodName)) ∈ lw_gt := List.mem_filter.mpr ⟨List.mem_append_right _ (List.mem_of_getElem? (i := 409) (by decide +kernel)), rfl⟩
theorem tw_410 : (Jvm.Cond.code ({ cls := "BlockVault", name := "countEntries", desc := "()I" } : Jvm.MethodName) prog_1_method_54_code (3 : Nat) (Option.some Jvm.ClassFile.FieldType.int)) ∈ lw_gt := List.mem_filter.mpr ⟨List.mem_append_right _ (List.mem_of_getElem? (i := 410) (by decide +kernel)), rfl⟩
theorem tw_411 : (Jvm.Cond.methodLink "BlockVault" (190 : Nat) ({ cls := "BlockVault", name := "countTombstones", desc := "()I" } : Jvm.MethodName)) ∈ lw_gt := List.mem_filter.mpr ⟨List.mem_append_right _ (List.mem_of_getElem? (i := 411) (by decide +kernel)), rfl⟩
theorem tw_413 : (Jvm.Cond.instanceMethod ({ cls := "BlockVault", name := "countTombstones", desc := "()I" } : Jvm.MethodName)) ∈ lw_gt := List.mem_filter.mpr ⟨List.mem_append_right _ (List.mem_of_getElem? (i := 413) (by decide +kernel)), rfl⟩
theorem tw_414 : (Jvm.Cond.code ({ cls := "BlockVault", name := "countTombstones", desc := "()I" } : Jvm.MethodName) prog_1_method_55_code (3 : Nat) (Option.some Jvm.ClassFile.FieldType.int)) ∈ lw_gt := List.mem_filter.mpr ⟨List.mem_append_right _ (List.mem_of_getElem? (i := 414) (by decide +kernel)), rfl⟩
theorem tw_415 : (Jvm.Cond.classLink "BlockVaultLaw" (10 : Nat) "BlockVaultModel") ∈ lw_gt := List.mem_filter.mpr ⟨List.mem_append_right _ (List.mem_of_getElem? (i := 415) (by decide +kernel)), rfl⟩
theorem tw_416 : (Jvm.Cond.instantiable "BlockVaultModel" (18 : Nat)) ∈ lw_gt := List.mem_filter.mpr ⟨List.mem_append_right _ (List.mem_of_getElem? (i := 416) (by decide +kernel)), rfl⟩
theorem tw_417 : (Jvm.Cond.methodLink "BlockVaultLaw" (12 : Nat) ({ cls := "BlockVaultModel", name := "<init>", desc := "()V" } : Jvm.MethodName)) ∈ lw_gt := List.mem_filter.mpr ⟨List.mem_append_right _ (List.mem_of_getElem? (i := 417) (by decide +kernel)), rfl⟩
theorem tw_418 : (Jvm.Cond.instanceMethod ({ cls := "BlockVaultModel", name := "<init>", desc := "()V" } : Jvm.MethodName)) ∈ lw_gt := List.mem_filter.mpr ⟨List.mem_append_right _ (List.mem_of_getElem? (i := 418) (by decide +kernel)), rfl⟩
theorem tw_419 : (Jvm.Cond.code ({ cls := "BlockVaultModel", name := "<init>", desc := "()V" } : Jvm.MethodName) prog_7_method_1_code (2 : Nat) (Option.none : Option Jvm.ClassFile.FieldType)) ∈ lw_gt := List.mem_filter.mpr ⟨List.mem_append_right _ (List.mem_of_getElem? (i := 419) (by decide +kernel)), rfl⟩
theorem tw_420 : (Jvm.Cond.methodLink "BlockVaultModel" (1 : Nat) ({ cls := "java/lang/Object", name := "<init>", desc := "()V" } : Jvm.MethodName)) ∈ lw_gt := List.mem_filter.mpr ⟨List.mem_append_right _ (List.mem_of_getElem? (i := 420) (by decide +kernel)), rfl⟩
theorem tw_421 : (Jvm.Cond.fieldLink "BlockVaultModel" (7 : Nat) "BlockVaultModel" "tomb" "[Z") ∈ lw_gt := List.mem_filter.mpr ⟨List.mem_append_right _ (List.mem_of_getElem? (i := 421) (by decide +kernel)), rfl⟩
theorem tw_422 : (Jvm.Cond.fieldLink "BlockVaultModel" (13 : Nat) "BlockVaultModel" "key" "[I") ∈ lw_gt := List.mem_filter.mpr ⟨List.mem_append_right _ (List.mem_of_getElem? (i := 422) (by decide +kernel)), rfl⟩
theorem tw_423 : (Jvm.Cond.fieldLink "BlockVaultModel" (17 : Nat) "BlockVaultModel" "value" "[I") ∈ lw_gt := List.mem_filter.mpr ⟨List.mem_append_right _ (List.mem_of_getElem? (i := 423) (by decide +kernel)), rfl⟩
theorem tw_424 : (Jvm.Cond.fieldLink "BlockVaultModel" (20 : Nat) "BlockVaultModel" "size" "[I") ∈ lw_gt := List.mem_filter.mpr ⟨List.mem_append_right _ (List.mem_of_getElem? (i := 424) (by decide +kernel)), rfl⟩
theorem tw_425 : (Jvm.Cond.fieldLink "BlockVaultModel" (23 : Nat) "BlockVaultModel" "generation" "[I") ∈ lw_gt := List.mem_filter.mpr ⟨List.mem_append_right _ (List.mem_of_getElem? (i := 425) (by decide +kernel)), rfl⟩
theorem tw_426 : (Jvm.Cond.fieldLink "BlockVaultModel" (26 : Nat) "BlockVaultModel" "end" "[I") ∈ lw_gt := List.mem_filter.mpr ⟨List.mem_append_right _ (List.mem_of_getElem? (i := 426) (by decide +kernel)), rfl⟩
theorem tw_427 : (Jvm.Cond.fieldLink "BlockVaultModel" (29 : Nat) "BlockVaultModel" "stamp" "[I") ∈ lw_gt := List.mem_filter.mpr ⟨List.mem_append_right _ (List.mem_of_getElem? (i := 427) (by decide +kernel)), rfl⟩
theorem tw_428 : (Jvm.Cond.fieldLink "BlockVaultModel" (32 : Nat) "BlockVaultModel" "many" "[I") ∈ lw_gt := List.mem_filter.mpr ⟨List.mem_append_right _ (List.mem_of_getElem? (i := 428) (by decide +kernel)), rfl⟩
theorem tw_429 : (Jvm.Cond.fieldLink "BlockVaultModel" (35 : Nat) "BlockVaultModel" "state" "[I") ∈ lw_gt := List.mem_filter.mpr ⟨List.mem_append_right _ (List.mem_of_getElem? (i := 429) (by decide +kernel)), rfl⟩
theorem tw_430 : (Jvm.Cond.fieldLink "BlockVaultModel" (38 : Nat) "BlockVaultModel" "since" "[I") ∈ lw_gt := List.mem_filter.mpr ⟨List.mem_append_right _ (List.mem_of_getElem? (i := 430) (by decide +kernel)), rfl⟩
theorem tw_431 : (Jvm.Cond.fieldLink "BlockVaultModel" (41 : Nat) "BlockVaultModel" "waits" "[I") ∈ lw_gt := List.mem_filter.mpr ⟨List.mem_append_right _ (List.mem_of_getElem? (i := 431) (by decide +kernel)), rfl⟩
theorem tw_432 : (Jvm.Cond.fieldLink "BlockVaultModel" (44 : Nat) "BlockVaultModel" "entry" "[I") ∈ lw_gt := List.mem_filter.mpr ⟨List.mem_append_right _ (List.mem_of_getElem? (i := 432) (by decide +kernel)), rfl⟩
theorem tw_433 : (Jvm.Cond.fieldLink "BlockVaultModel" (51 : Nat) "BlockVaultModel" "clock" "I") ∈ lw_gt := List.mem_filter.mpr ⟨List.mem_append_right _ (List.mem_of_getElem? (i := 433) (by decide +kernel)), rfl⟩
theorem tw_434 : (Jvm.Cond.fieldLink "BlockVaultModel" (47 : Nat) "BlockVaultModel" "next" "I") ∈ lw_gt := List.mem_filter.mpr ⟨List.mem_append_right _ (List.mem_of_getElem? (i := 434) (by decide +kernel)), rfl⟩
theorem tw_435 : (Jvm.Cond.fieldLink "BlockVaultModel" (62 : Nat) "BlockVaultModel" "turn" "I") ∈ lw_gt := List.mem_filter.mpr ⟨List.mem_append_right _ (List.mem_of_getElem? (i := 435) (by decide +kernel)), rfl⟩
theorem tw_436 : (Jvm.Cond.fieldLink "BlockVaultModel" (118 : Nat) "BlockVaultModel" "written" "I") ∈ lw_gt := List.mem_filter.mpr ⟨List.mem_append_right _ (List.mem_of_getElem? (i := 436) (by decide +kernel)), rfl⟩
theorem tw_437 : (Jvm.Cond.fieldLink "BlockVaultModel" (121 : Nat) "BlockVaultModel" "moved" "I") ∈ lw_gt := List.mem_filter.mpr ⟨List.mem_append_right _ (List.mem_of_getElem? (i := 437) (by decide +kernel)), rfl⟩
theorem tw_438 : (Jvm.Cond.fieldLink "BlockVaultModel" (96 : Nat) "BlockVaultModel" "down" "Z") ∈ lw_gt := List.mem_filter.mpr ⟨List.mem_append_right _ (List.mem_of_getElem? (i := 438) (by decide +kernel)), rfl⟩
theorem tw_439 : (Jvm.Cond.laysFinal "BlockVaultModel" "BlockVaultModel" "tomb" "[Z") ∈ lw_gt := List.mem_filter.mpr ⟨List.mem_append_right _ (List.mem_of_getElem? (i := 439) (by decide +kernel)), rfl⟩
theorem tw_441 : (Jvm.Cond.laysFinal "BlockVaultModel" "BlockVaultModel" "key" "[I") ∈ lw_gt := List.mem_filter.mpr ⟨List.mem_append_right _ (List.mem_of_getElem? (i := 441) (by decide +kernel)), rfl⟩
theorem tw_443 : (Jvm.Cond.laysFinal "BlockVaultModel" "BlockVaultModel" "value" "[I") ∈ lw_gt := List.mem_filter.mpr ⟨List.mem_append_right _ (List.mem_of_getElem? (i := 443) (by decide +kernel)), rfl⟩
theorem tw_445 : (Jvm.Cond.laysFinal "BlockVaultModel" "BlockVaultModel" "size" "[I") ∈ lw_gt := List.mem_filter.mpr ⟨List.mem_append_right _ (List.mem_of_getElem? (i := 445) (by decide +kernel)), rfl⟩
theorem tw_447 : (Jvm.Cond.laysFinal "BlockVaultModel" "BlockVaultModel" "generation" "[I") ∈ lw_gt := List.mem_filter.mpr ⟨List.mem_append_right _ (List.mem_of_getElem? (i := 447) (by decide +kernel)), rfl⟩
theorem tw_449 : (Jvm.Cond.laysFinal "BlockVaultModel" "BlockVaultModel" "end" "[I") ∈ lw_gt := List.mem_filter.mpr ⟨List.mem_append_right _ (List.mem_of_getElem? (i := 449) (by decide +kernel)), rfl⟩
theorem tw_451 : (Jvm.Cond.laysFinal "BlockVaultModel" "BlockVaultModel" "stamp" "[I") ∈ lw_gt := List.mem_filter.mpr ⟨List.mem_append_right _ (List.mem_of_getElem? (i := 451) (by decide +kernel)), rfl⟩
theorem tw_453 : (Jvm.Cond.laysFinal "BlockVaultModel" "BlockVaultModel" "many" "[I") ∈ lw_gt := List.mem_filter.mpr ⟨List.mem_append_right _ (List.mem_of_getElem? (i := 453) (by decide +kernel)), rfl⟩
theorem tw_455 : (Jvm.Cond.laysFinal "BlockVaultModel" "BlockVaultModel" "state" "[I") ∈ lw_gt := List.mem_filter.mpr ⟨List.mem_append_right _ (List.mem_of_getElem? (i := 455) (by decide +kernel)), rfl⟩
theorem tw_457 : (Jvm.Cond.laysFinal "BlockVaultModel" "BlockVaultModel" "since" "[I") ∈ lw_gt := List.mem_filter.mpr ⟨List.mem_append_right _ (List.mem_of_getElem? (i := 457) (by decide +kernel)), rfl⟩
theorem tw_459 : (Jvm.Cond.laysFinal "BlockVaultModel" "BlockVaultModel" "waits" "[I") ∈ lw_gt := List.mem_filter.mpr ⟨List.mem_append_right _ (List.mem_of_getElem? (i := 459) (by decide +kernel)), rfl⟩
theorem tw_461 : (Jvm.Cond.laysFinal "BlockVaultModel" "BlockVaultModel" "entry" "[I") ∈ lw_gt := List.mem_filter.mpr ⟨List.mem_append_right _ (List.mem_of_getElem? (i := 461) (by decide +kernel)), rfl⟩
theorem tw_463 : (Jvm.Cond.lays "BlockVaultModel" "BlockVaultModel" "clock" "I") ∈ lw_gt := List.mem_filter.mpr ⟨List.mem_append_right _ (List.mem_of_getElem? (i := 463) (by decide +kernel)), rfl⟩
theorem tw_465 : (Jvm.Cond.lays "BlockVaultModel" "BlockVaultModel" "next" "I") ∈ lw_gt := List.mem_filter.mpr ⟨List.mem_append_right _ (List.mem_of_getElem? (i := 465) (by decide +kernel)), rfl⟩
theorem tw_467 : (Jvm.Cond.lays "BlockVaultModel" "BlockVaultModel" "turn" "I") ∈ lw_gt := List.mem_filter.mpr ⟨List.mem_append_right _ (List.mem_of_getElem? (i := 467) (by decide +kernel)), rfl⟩
theorem tw_469 : (Jvm.Cond.lays "BlockVaultModel" "BlockVaultModel" "written" "I") ∈ lw_gt := List.mem_filter.mpr ⟨List.mem_append_right _ (List.mem_of_getElem? (i := 469) (by decide +kernel)), rfl⟩
theorem tw_471 : (Jvm.Cond.lays "BlockVaultModel" "BlockVaultModel" "moved" "I") ∈ lw_gt := List.mem_filter.mpr ⟨List.mem_append_right _ (List.mem_of_getElem? (i := 471) (by decide +kernel)), rfl⟩
theorem tw_473 : (Jvm.Cond.lays "BlockVaultModel" "BlockVaultModel" "down" "Z") ∈ lw_gt := List.mem_filter.mpr ⟨List.mem_append_right _ (List.mem_of_getElem? (i := 473) (by decide +kernel)), rfl⟩
theorem tw_476 : (Jvm.Cond.arrayClass Jvm.ClassFile.FieldType.boolean) ∈ lw_gt := List.mem_filter.mpr ⟨List.mem_append_right _ (List.mem_of_getElem? (i := 476) (by decide +kernel)), rfl⟩
theorem tw_477 : (Jvm.Cond.arrayClass Jvm.ClassFile.FieldType.int) ∈ lw_gt := List.mem_filter.mpr ⟨List.mem_append_right _ (List.mem_of_getElem? (i := 477) (by decide +kernel)), rfl⟩
theorem tw_478 : (Jvm.Cond.methodLink "BlockVaultLaw" (17 : Nat) ({ cls := "BlockVaultModel", name := "put", desc := "(IIIII)I" } : Jvm.MethodName)) ∈ lw_gt := List.mem_filter.mpr ⟨List.mem_append_right _ (List.mem_of_getElem? (i := 478) (by decide +kernel)), rfl⟩
theorem tw_479 : (Jvm.Cond.instanceMethod ({ cls := "BlockVaultModel", name := "put", desc := "(IIIII)I" } : Jvm.MethodName)) ∈ lw_gt := List.mem_filter.mpr ⟨List.mem_append_right _ (List.mem_of_getElem? (i := 479) (by decide +kernel)), rfl⟩
theorem tw_480 : (Jvm.Cond.selects "BlockVaultModel" ({ cls := "BlockVaultModel", name := "put", desc := "(IIIII)I" } : Jvm.MethodName) ({ cls := "BlockVaultModel", name := "put", desc := "(IIIII)I" } : Jvm.MethodName)) ∈ lw_gt := List.mem_filter.mpr ⟨List.mem_append_right _ (List.mem_of_getElem? (i := 480) (by decide +kernel)), rfl⟩
theorem tw_481 : (Jvm.Cond.code ({ cls := "BlockVaultModel", name := "put", desc := "(IIIII)I" } : Jvm.MethodName) prog_7_method_16_code (8 : Nat) (Option.some Jvm.ClassFile.FieldType.int)) ∈ lw_gt := List.mem_filter.mpr ⟨List.mem_append_right _ (List.mem_of_getElem? (i := 481) (by decide +kernel)), rfl⟩
theorem tw_482 : (Jvm.Cond.methodLink "BlockVaultModel" (92 : Nat) ({ cls := "BlockVaultModel", name := "in", desc := "(III)Z" } : Jvm.MethodName)) ∈ lw_gt := List.mem_filter.mpr ⟨List.mem_append_right _ (List.mem_of_getElem? (i := 482) (by decide +kernel)), rfl⟩
theorem tw_483 : (Jvm.Cond.static ({ cls := "BlockVaultModel", name := "in", desc := "(III)Z" } : Jvm.MethodName)) ∈ lw_gt := List.mem_filter.mpr ⟨List.mem_append_right _ (List.mem_of_getElem? (i := 483) (by decide +kernel)), rfl⟩
theorem tw_484 : (Jvm.Cond.code ({ cls := "BlockVaultModel", name := "in", desc := "(III)Z" } : Jvm.MethodName) prog_7_method_2_code (3 : Nat) (Option.some Jvm.ClassFile.FieldType.boolean)) ∈ lw_gt := List.mem_filter.mpr ⟨List.mem_append_right _ (List.mem_of_getElem? (i := 484) (by decide +kernel)), rfl⟩
theorem tw_485 : (Jvm.Cond.methodLink "BlockVaultModel" (100 : Nat) ({ cls := "BlockVaultModel", name := "isThere", desc := "(I)Z" } : Jvm.MethodName)) ∈ lw_gt := List.mem_filter.mpr ⟨List.mem_append_right _ (List.mem_of_getElem? (i := 485) (by decide +kernel)), rfl⟩
theorem tw_487 : (Jvm.Cond.instanceMethod ({ cls := "BlockVaultModel", name := "isThere", desc := "(I)Z" } : Jvm.MethodName)) ∈ lw_gt := List.mem_filter.mpr ⟨List.mem_append_right _ (List.mem_of_getElem? (i := 487) (by decide +kernel)), rfl⟩
theorem tw_488 : (Jvm.Cond.code ({ cls := "BlockVaultModel", name := "isThere", desc := "(I)Z" } : Jvm.MethodName) prog_7_method_5_code (2 : Nat) (Option.some Jvm.ClassFile.FieldType.boolean)) ∈ lw_gt := List.mem_filter.mpr ⟨List.mem_append_right _ (List.mem_of_getElem? (i := 488) (by decide +kernel)), rfl⟩
theorem tw_489 : (Jvm.Cond.methodLink "BlockVaultModel" (54 : Nat) ({ cls := "BlockVaultModel", name := "expired", desc := "(I)Z" } : Jvm.MethodName)) ∈ lw_gt := List.mem_filter.mpr ⟨List.mem_append_right _ (List.mem_of_getElem? (i := 489) (by decide +kernel)), rfl⟩
theorem tw_491 : (Jvm.Cond.instanceMethod ({ cls := "BlockVaultModel", name := "expired", desc := "(I)Z" } : Jvm.MethodName)) ∈ lw_gt := List.mem_filter.mpr ⟨List.mem_append_right _ (List.mem_of_getElem? (i := 491) (by decide +kernel)), rfl⟩
theorem tw_492 : (Jvm.Cond.code ({ cls := "BlockVaultModel", name := "expired", desc := "(I)Z" } : Jvm.MethodName) prog_7_method_4_code (2 : Nat) (Option.some Jvm.ClassFile.FieldType.boolean)) ∈ lw_gt := List.mem_filter.mpr ⟨List.mem_append_right _ (List.mem_of_getElem? (i := 492) (by decide +kernel)), rfl⟩
theorem tw_493 : (Jvm.Cond.methodLink "BlockVaultModel" (103 : Nat) ({ cls := "BlockVaultModel", name := "writeRecord", desc := "(IIIII)I" } : Jvm.MethodName)) ∈ lw_gt := List.mem_filter.mpr ⟨List.mem_append_right _ (List.mem_of_getElem? (i := 493) (by decide +kernel)), rfl⟩
theorem tw_495 : (Jvm.Cond.instanceMethod ({ cls := "BlockVaultModel", name := "writeRecord", desc := "(IIIII)I" } : Jvm.MethodName)) ∈ lw_gt := List.mem_filter.mpr ⟨List.mem_append_right _ (List.mem_of_getElem? (i := 495) (by decide +kernel)), rfl⟩
theorem tw_496 : (Jvm.Cond.code ({ cls := "BlockVaultModel", name := "writeRecord", desc := "(IIIII)I" } : Jvm.MethodName) prog_7_method_14_code (7 : Nat) (Option.some Jvm.ClassFile.FieldType.int)) ∈ lw_gt := List.mem_filter.mpr ⟨List.mem_append_right _ (List.mem_of_getElem? (i := 496) (by decide +kernel)), rfl⟩
theorem tw_497 : (Jvm.Cond.methodLink "BlockVaultModel" (89 : Nat) ({ cls := "BlockVaultModel", name := "write", desc := "()I" } : Jvm.MethodName)) ∈ lw_gt := List.mem_filter.mpr ⟨List.mem_append_right _ (List.mem_of_getElem? (i := 497) (by decide +kernel)), rfl⟩
theorem tw_499 : (Jvm.Cond.instanceMethod ({ cls := "BlockVaultModel", name := "write", desc := "()I" } : Jvm.MethodName)) ∈ lw_gt := List.mem_filter.mpr ⟨List.mem_append_right _ (List.mem_of_getElem? (i := 499) (by decide +kernel)), rfl⟩
theorem tw_500 : (Jvm.Cond.code ({ cls := "BlockVaultModel", name := "write", desc := "()I" } : Jvm.MethodName) prog_7_method_13_code (2 : Nat) (Option.some Jvm.ClassFile.FieldType.int)) ∈ lw_gt := List.mem_filter.mpr ⟨List.mem_append_right _ (List.mem_of_getElem? (i := 500) (by decide +kernel)), rfl⟩
theorem tw_501 : (Jvm.Cond.methodLink "BlockVaultModel" (86 : Nat) ({ cls := "BlockVaultModel", name := "append", desc := "()I" } : Jvm.MethodName)) ∈ lw_gt := List.mem_filter.mpr ⟨List.mem_append_right _ (List.mem_of_getElem? (i := 501) (by decide +kernel)), rfl⟩
theorem tw_503 : (Jvm.Cond.instanceMethod ({ cls := "BlockVaultModel", name := "append", desc := "()I" } : Jvm.MethodName)) ∈ lw_gt := List.mem_filter.mpr ⟨List.mem_append_right _ (List.mem_of_getElem? (i := 503) (by decide +kernel)), rfl⟩
theorem tw_504 : (Jvm.Cond.code ({ cls := "BlockVaultModel", name := "append", desc := "()I" } : Jvm.MethodName) prog_7_method_12_code (3 : Nat) (Option.some Jvm.ClassFile.FieldType.int)) ∈ lw_gt := List.mem_filter.mpr ⟨List.mem_append_right _ (List.mem_of_getElem? (i := 504) (by decide +kernel)), rfl⟩
theorem tw_505 : (Jvm.Cond.methodLink "BlockVaultModel" (65 : Nat) ({ cls := "BlockVaultModel", name := "first", desc := "(I)I" } : Jvm.MethodName)) ∈ lw_gt := List.mem_filter.mpr ⟨List.mem_append_right _ (List.mem_of_getElem? (i := 505) (by decide +kernel)), rfl⟩
theorem tw_507 : (Jvm.Cond.instanceMethod ({ cls := "BlockVaultModel", name := "first", desc := "(I)I" } : Jvm.MethodName)) ∈ lw_gt := List.mem_filter.mpr ⟨List.mem_append_right _ (List.mem_of_getElem? (i := 507) (by decide +kernel)), rfl⟩
theorem tw_508 : (Jvm.Cond.code ({ cls := "BlockVaultModel", name := "first", desc := "(I)I" } : Jvm.MethodName) prog_7_method_7_code (4 : Nat) (Option.some Jvm.ClassFile.FieldType.int)) ∈ lw_gt := List.mem_filter.mpr ⟨List.mem_append_right _ (List.mem_of_getElem? (i := 508) (by decide +kernel)), rfl⟩
theorem tw_509 : (Jvm.Cond.methodLink "BlockVaultModel" (68 : Nat) ({ cls := "BlockVaultModel", name := "room", desc := "(I)I" } : Jvm.MethodName)) ∈ lw_gt := List.mem_filter.mpr ⟨List.mem_append_right _ (List.mem_of_getElem? (i := 509) (by decide +kernel)), rfl⟩
theorem tw_511 : (Jvm.Cond.instanceMethod ({ cls := "BlockVaultModel", name := "room", desc := "(I)I" } : Jvm.MethodName)) ∈ lw_gt := List.mem_filter.mpr ⟨List.mem_append_right _ (List.mem_of_getElem? (i := 511) (by decide +kernel)), rfl⟩
theorem tw_512 : (Jvm.Cond.code ({ cls := "BlockVaultModel", name := "room", desc := "(I)I" } : Jvm.MethodName) prog_7_method_8_code (4 : Nat) (Option.some Jvm.ClassFile.FieldType.int)) ∈ lw_gt := List.mem_filter.mpr ⟨List.mem_append_right _ (List.mem_of_getElem? (i := 512) (by decide +kernel)), rfl⟩
theorem tw_513 : (Jvm.Cond.methodLink "BlockVaultModel" (71 : Nat) ({ cls := "BlockVaultModel", name := "sealed", desc := "()I" } : Jvm.MethodName)) ∈ lw_gt := List.mem_filter.mpr ⟨List.mem_append_right _ (List.mem_of_getElem? (i := 513) (by decide +kernel)), rfl⟩
theorem tw_515 : (Jvm.Cond.instanceMethod ({ cls := "BlockVaultModel", name := "sealed", desc := "()I" } : Jvm.MethodName)) ∈ lw_gt := List.mem_filter.mpr ⟨List.mem_append_right _ (List.mem_of_getElem? (i := 515) (by decide +kernel)), rfl⟩
theorem tw_516 : (Jvm.Cond.code ({ cls := "BlockVaultModel", name := "sealed", desc := "()I" } : Jvm.MethodName) prog_7_method_6_code (3 : Nat) (Option.some Jvm.ClassFile.FieldType.int)) ∈ lw_gt := List.mem_filter.mpr ⟨List.mem_append_right _ (List.mem_of_getElem? (i := 516) (by decide +kernel)), rfl⟩
theorem tw_517 : (Jvm.Cond.methodLink "BlockVaultModel" (75 : Nat) ({ cls := "BlockVaultModel", name := "close", desc := "(I)V" } : Jvm.MethodName)) ∈ lw_gt := List.mem_filter.mpr ⟨List.mem_append_right _ (List.mem_of_getElem? (i := 517) (by decide +kernel)), rfl⟩
theorem tw_519 : (Jvm.Cond.instanceMethod ({ cls := "BlockVaultModel", name := "close", desc := "(I)V" } : Jvm.MethodName)) ∈ lw_gt := List.mem_filter.mpr ⟨List.mem_append_right _ (List.mem_of_getElem? (i := 519) (by decide +kernel)), rfl⟩
theorem tw_520 : (Jvm.Cond.code ({ cls := "BlockVaultModel", name := "close", desc := "(I)V" } : Jvm.MethodName) prog_7_method_11_code (2 : Nat) (Option.none : Option Jvm.ClassFile.FieldType)) ∈ lw_gt := List.mem_filter.mpr ⟨List.mem_append_right _ (List.mem_of_getElem? (i := 520) (by decide +kernel)), rfl⟩
theorem tw_521 : (Jvm.Cond.methodLink "BlockVaultModel" (79 : Nat) ({ cls := "BlockVaultModel", name := "copy", desc := "(II)V" } : Jvm.MethodName)) ∈ lw_gt := List.mem_filter.mpr ⟨List.mem_append_right _ (List.mem_of_getElem? (i := 521) (by decide +kernel)), rfl⟩
theorem tw_523 : (Jvm.Cond.instanceMethod ({ cls := "BlockVaultModel", name := "copy", desc := "(II)V" } : Jvm.MethodName)) ∈ lw_gt := List.mem_filter.mpr ⟨List.mem_append_right _ (List.mem_of_getElem? (i := 523) (by decide +kernel)), rfl⟩
theorem tw_524 : (Jvm.Cond.code ({ cls := "BlockVaultModel", name := "copy", desc := "(II)V" } : Jvm.MethodName) prog_7_method_3_code (3 : Nat) (Option.none : Option Jvm.ClassFile.FieldType)) ∈ lw_gt := List.mem_filter.mpr ⟨List.mem_append_right _ (List.mem_of_getElem? (i := 524) (by decide +kernel)), rfl⟩
theorem tw_525 : (Jvm.Cond.methodLink "BlockVaultModel" (83 : Nat) ({ cls := "BlockVaultModel", name := "settle", desc := "()V" } : Jvm.MethodName)) ∈ lw_gt := List.mem_filter.mpr ⟨List.mem_append_right _ (List.mem_of_getElem? (i := 525) (by decide +kernel)), rfl⟩
theorem tw_527 : (Jvm.Cond.instanceMethod ({ cls := "BlockVaultModel", name := "settle", desc := "()V" } : Jvm.MethodName)) ∈ lw_gt := List.mem_filter.mpr ⟨List.mem_append_right _ (List.mem_of_getElem? (i := 527) (by decide +kernel)), rfl⟩
theorem tw_528 : (Jvm.Cond.code ({ cls := "BlockVaultModel", name := "settle", desc := "()V" } : Jvm.MethodName) prog_7_method_10_code (3 : Nat) (Option.none : Option Jvm.ClassFile.FieldType)) ∈ lw_gt := List.mem_filter.mpr ⟨List.mem_append_right _ (List.mem_of_getElem? (i := 528) (by decide +kernel)), rfl⟩
theorem tw_529 : (Jvm.Cond.methodLink "BlockVaultModel" (58 : Nat) ({ cls := "BlockVaultModel", name := "used", desc := "(I)I" } : Jvm.MethodName)) ∈ lw_gt := List.mem_filter.mpr ⟨List.mem_append_right _ (List.mem_of_getElem? (i := 529) (by decide +kernel)), rfl⟩
theorem tw_531 : (Jvm.Cond.instanceMethod ({ cls := "BlockVaultModel", name := "used", desc := "(I)I" } : Jvm.MethodName)) ∈ lw_gt := List.mem_filter.mpr ⟨List.mem_append_right _ (List.mem_of_getElem? (i := 531) (by decide +kernel)), rfl⟩
theorem tw_532 : (Jvm.Cond.code ({ cls := "BlockVaultModel", name := "used", desc := "(I)I" } : Jvm.MethodName) prog_7_method_9_code (4 : Nat) (Option.some Jvm.ClassFile.FieldType.int)) ∈ lw_gt := List.mem_filter.mpr ⟨List.mem_append_right _ (List.mem_of_getElem? (i := 532) (by decide +kernel)), rfl⟩
theorem tw_533 : (Jvm.Cond.methodLink "BlockVaultLaw" (22 : Nat) ({ cls := "BlockVaultModel", name := "get", desc := "(I)J" } : Jvm.MethodName)) ∈ lw_gt := List.mem_filter.mpr ⟨List.mem_append_right _ (List.mem_of_getElem? (i := 533) (by decide +kernel)), rfl⟩
theorem tw_534 : (Jvm.Cond.instanceMethod ({ cls := "BlockVaultModel", name := "get", desc := "(I)J" } : Jvm.MethodName)) ∈ lw_gt := List.mem_filter.mpr ⟨List.mem_append_right _ (List.mem_of_getElem? (i := 534) (by decide +kernel)), rfl⟩
theorem tw_535 : (Jvm.Cond.selects "BlockVaultModel" ({ cls := "BlockVaultModel", name := "get", desc := "(I)J" } : Jvm.MethodName) ({ cls := "BlockVaultModel", name := "get", desc := "(I)J" } : Jvm.MethodName)) ∈ lw_gt := List.mem_filter.mpr ⟨List.mem_append_right _ (List.mem_of_getElem? (i := 535) (by decide +kernel)), rfl⟩
theorem tw_536 : (Jvm.Cond.code ({ cls := "BlockVaultModel", name := "get", desc := "(I)J" } : Jvm.MethodName) prog_7_method_17_code (2 : Nat) (Option.some Jvm.ClassFile.FieldType.long)) ∈ lw_gt := List.mem_filter.mpr ⟨List.mem_append_right _ (List.mem_of_getElem? (i := 536) (by decide +kernel)), rfl⟩
theorem tw_537 : (Jvm.Cond.constantLong "BlockVaultModel" (107 : Nat) (1099511627776 : Int64)) ∈ lw_gt := List.mem_filter.mpr ⟨List.mem_append_right _ (List.mem_of_getElem? (i := 537) (by decide +kernel)), rfl⟩
theorem tw_538 : (Jvm.Cond.methodLink "BlockVaultLaw" (27 : Nat) ({ cls := "BlockVaultModel", name := "touch", desc := "(II)I" } : Jvm.MethodName)) ∈ lw_gt := List.mem_filter.mpr ⟨List.mem_append_right _ (List.mem_of_getElem? (i := 538) (by decide +kernel)), rfl⟩
theorem tw_539 : (Jvm.Cond.instanceMethod ({ cls := "BlockVaultModel", name := "touch", desc := "(II)I" } : Jvm.MethodName)) ∈ lw_gt := List.mem_filter.mpr ⟨List.mem_append_right _ (List.mem_of_getElem? (i := 539) (by decide +kernel)), rfl⟩
theorem tw_540 : (Jvm.Cond.selects "BlockVaultModel" ({ cls := "BlockVaultModel", name := "touch", desc := "(II)I" } : Jvm.MethodName) ({ cls := "BlockVaultModel", name := "touch", desc := "(II)I" } : Jvm.MethodName)) ∈ lw_gt := List.mem_filter.mpr ⟨List.mem_append_right _ (List.mem_of_getElem? (i := 540) (by decide +kernel)), rfl⟩
theorem tw_541 : (Jvm.Cond.code ({ cls := "BlockVaultModel", name := "touch", desc := "(II)I" } : Jvm.MethodName) prog_7_method_18_code (4 : Nat) (Option.some Jvm.ClassFile.FieldType.int)) ∈ lw_gt := List.mem_filter.mpr ⟨List.mem_append_right _ (List.mem_of_getElem? (i := 541) (by decide +kernel)), rfl⟩
theorem tw_542 : (Jvm.Cond.methodLink "BlockVaultLaw" (32 : Nat) ({ cls := "BlockVaultModel", name := "remove", desc := "(IZ)I" } : Jvm.MethodName)) ∈ lw_gt := List.mem_filter.mpr ⟨List.mem_append_right _ (List.mem_of_getElem? (i := 542) (by decide +kernel)), rfl⟩
theorem tw_543 : (Jvm.Cond.instanceMethod ({ cls := "BlockVaultModel", name := "remove", desc := "(IZ)I" } : Jvm.MethodName)) ∈ lw_gt := List.mem_filter.mpr ⟨List.mem_append_right _ (List.mem_of_getElem? (i := 543) (by decide +kernel)), rfl⟩
theorem tw_544 : (Jvm.Cond.selects "BlockVaultModel" ({ cls := "BlockVaultModel", name := "remove", desc := "(IZ)I" } : Jvm.MethodName) ({ cls := "BlockVaultModel", name := "remove", desc := "(IZ)I" } : Jvm.MethodName)) ∈ lw_gt := List.mem_filter.mpr ⟨List.mem_append_right _ (List.mem_of_getElem? (i := 544) (by decide +kernel)), rfl⟩
theorem tw_545 : (Jvm.Cond.code ({ cls := "BlockVaultModel", name := "remove", desc := "(IZ)I" } : Jvm.MethodName) prog_7_method_19_code (3 : Nat) (Option.some Jvm.ClassFile.FieldType.int)) ∈ lw_gt := List.mem_filter.mpr ⟨List.mem_append_right _ (List.mem_of_getElem? (i := 545) (by decide +kernel)), rfl⟩
theorem tw_546 : (Jvm.Cond.methodLink "BlockVaultModel" (109 : Nat) ({ cls := "BlockVaultModel", name := "writeTombstone", desc := "(I)I" } : Jvm.MethodName)) ∈ lw_gt := List.mem_filter.mpr ⟨List.mem_append_right _ (List.mem_of_getElem? (i := 546) (by decide +kernel)), rfl⟩
theorem tw_548 : (Jvm.Cond.instanceMethod ({ cls := "BlockVaultModel", name := "writeTombstone", desc := "(I)I" } : Jvm.MethodName)) ∈ lw_gt := List.mem_filter.mpr ⟨List.mem_append_right _ (List.mem_of_getElem? (i := 548) (by decide +kernel)), rfl⟩
theorem tw_549 : (Jvm.Cond.code ({ cls := "BlockVaultModel", name := "writeTombstone", desc := "(I)I" } : Jvm.MethodName) prog_7_method_15_code (3 : Nat) (Option.some Jvm.ClassFile.FieldType.int)) ∈ lw_gt := List.mem_filter.mpr ⟨List.mem_append_right _ (List.mem_of_getElem? (i := 549) (by decide +kernel)), rfl⟩
theorem tw_550 : (Jvm.Cond.methodLink "BlockVaultLaw" (37 : Nat) ({ cls := "BlockVaultModel", name := "evict", desc := "(I)I" } : Jvm.MethodName)) ∈ lw_gt := List.mem_filter.mpr ⟨List.mem_append_right _ (List.mem_of_getElem? (i := 550) (by decide +kernel)), rfl⟩
theorem tw_551 : (Jvm.Cond.instanceMethod ({ cls := "BlockVaultModel", name := "evict", desc := "(I)I" } : Jvm.MethodName)) ∈ lw_gt := List.mem_filter.mpr ⟨List.mem_append_right _ (List.mem_of_getElem? (i := 551) (by decide +kernel)), rfl⟩
theorem tw_552 : (Jvm.Cond.selects "BlockVaultModel" ({ cls := "BlockVaultModel", name := "evict", desc := "(I)I" } : Jvm.MethodName) ({ cls := "BlockVaultModel", name := "evict", desc := "(I)I" } : Jvm.MethodName)) ∈ lw_gt := List.mem_filter.mpr ⟨List.mem_append_right _ (List.mem_of_getElem? (i := 552) (by decide +kernel)), rfl⟩
theorem tw_553 : (Jvm.Cond.code ({ cls := "BlockVaultModel", name := "evict", desc := "(I)I" } : Jvm.MethodName) prog_7_method_20_code (5 : Nat) (Option.some Jvm.ClassFile.FieldType.int)) ∈ lw_gt := List.mem_filter.mpr ⟨List.mem_append_right _ (List.mem_of_getElem? (i := 553) (by decide +kernel)), rfl⟩
theorem tw_554 : (Jvm.Cond.methodLink "BlockVaultLaw" (41 : Nat) ({ cls := "BlockVaultModel", name := "tick", desc := "(I)I" } : Jvm.MethodName)) ∈ lw_gt := List.mem_filter.mpr ⟨List.mem_append_right _ (List.mem_of_getElem? (i := 554) (by decide +kernel)), rfl⟩
theorem tw_555 : (Jvm.Cond.instanceMethod ({ cls := "BlockVaultModel", name := "tick", desc := "(I)I" } : Jvm.MethodName)) ∈ lw_gt := List.mem_filter.mpr ⟨List.mem_append_right _ (List.mem_of_getElem? (i := 555) (by decide +kernel)), rfl⟩
theorem tw_556 : (Jvm.Cond.selects "BlockVaultModel" ({ cls := "BlockVaultModel", name := "tick", desc := "(I)I" } : Jvm.MethodName) ({ cls := "BlockVaultModel", name := "tick", desc := "(I)I" } : Jvm.MethodName)) ∈ lw_gt := List.mem_filter.mpr ⟨List.mem_append_right _ (List.mem_of_getElem? (i := 556) (by decide +kernel)), rfl⟩
theorem tw_557 : (Jvm.Cond.code ({ cls := "BlockVaultModel", name := "tick", desc := "(I)I" } : Jvm.MethodName) prog_7_method_21_code (2 : Nat) (Option.some Jvm.ClassFile.FieldType.int)) ∈ lw_gt := List.mem_filter.mpr ⟨List.mem_append_right _ (List.mem_of_getElem? (i := 557) (by decide +kernel)), rfl⟩
theorem tw_558 : (Jvm.Cond.methodLink "BlockVaultLaw" (46 : Nat) ({ cls := "BlockVaultModel", name := "sweep", desc := "()I" } : Jvm.MethodName)) ∈ lw_gt := List.mem_filter.mpr ⟨List.mem_append_right _ (List.mem_of_getElem? (i := 558) (by decide +kernel)), rfl⟩
theorem tw_559 : (Jvm.Cond.instanceMethod ({ cls := "BlockVaultModel", name := "sweep", desc := "()I" } : Jvm.MethodName)) ∈ lw_gt := List.mem_filter.mpr ⟨List.mem_append_right _ (List.mem_of_getElem? (i := 559) (by decide +kernel)), rfl⟩
theorem tw_560 : (Jvm.Cond.selects "BlockVaultModel" ({ cls := "BlockVaultModel", name := "sweep", desc := "()I" } : Jvm.MethodName) ({ cls := "BlockVaultModel", name := "sweep", desc := "()I" } : Jvm.MethodName)) ∈ lw_gt := List.mem_filter.mpr ⟨List.mem_append_right _ (List.mem_of_getElem? (i := 560) (by decide +kernel)), rfl⟩
theorem tw_561 : (Jvm.Cond.code ({ cls := "BlockVaultModel", name := "sweep", desc := "()I" } : Jvm.MethodName) prog_7_method_23_code (4 : Nat) (Option.some Jvm.ClassFile.FieldType.int)) ∈ lw_gt := List.mem_filter.mpr ⟨List.mem_append_right _ (List.mem_of_getElem? (i := 561) (by decide +kernel)), rfl⟩
theorem tw_562 : (Jvm.Cond.methodLink "BlockVaultModel" (112 : Nat) ({ cls := "BlockVaultModel", name := "hasOther", desc := "(I)Z" } : Jvm.MethodName)) ∈ lw_gt := List.mem_filter.mpr ⟨List.mem_append_right _ (List.mem_of_getElem? (i := 562) (by decide +kernel)), rfl⟩
theorem tw_564 : (Jvm.Cond.instanceMethod ({ cls := "BlockVaultModel", name := "hasOther", desc := "(I)Z" } : Jvm.MethodName)) ∈ lw_gt := List.mem_filter.mpr ⟨List.mem_append_right _ (List.mem_of_getElem? (i := 564) (by decide +kernel)), rfl⟩
theorem tw_565 : (Jvm.Cond.code ({ cls := "BlockVaultModel", name := "hasOther", desc := "(I)Z" } : Jvm.MethodName) prog_7_method_22_code (3 : Nat) (Option.some Jvm.ClassFile.FieldType.boolean)) ∈ lw_gt := List.mem_filter.mpr ⟨List.mem_append_right _ (List.mem_of_getElem? (i := 565) (by decide +kernel)), rfl⟩
theorem tw_566 : (Jvm.Cond.methodLink "BlockVaultLaw" (50 : Nat) ({ cls := "BlockVaultModel", name := "seal", desc := "()I" } : Jvm.MethodName)) ∈ lw_gt := List.mem_filter.mpr ⟨List.mem_append_right _ (List.mem_of_getElem? (i := 566) (by decide +kernel)), rfl⟩
theorem tw_567 : (Jvm.Cond.instanceMethod ({ cls := "BlockVaultModel", name := "seal", desc := "()I" } : Jvm.MethodName)) ∈ lw_gt := List.mem_filter.mpr ⟨List.mem_append_right _ (List.mem_of_getElem? (i := 567) (by decide +kernel)), rfl⟩
theorem tw_568 : (Jvm.Cond.selects "BlockVaultModel" ({ cls := "BlockVaultModel", name := "seal", desc := "()I" } : Jvm.MethodName) ({ cls := "BlockVaultModel", name := "seal", desc := "()I" } : Jvm.MethodName)) ∈ lw_gt := List.mem_filter.mpr ⟨List.mem_append_right _ (List.mem_of_getElem? (i := 568) (by decide +kernel)), rfl⟩
theorem tw_569 : (Jvm.Cond.code ({ cls := "BlockVaultModel", name := "seal", desc := "()I" } : Jvm.MethodName) prog_7_method_24_code (2 : Nat) (Option.some Jvm.ClassFile.FieldType.int)) ∈ lw_gt := List.mem_filter.mpr ⟨List.mem_append_right _ (List.mem_of_getElem? (i := 569) (by decide +kernel)), rfl⟩
theorem tw_570 : (Jvm.Cond.methodLink "BlockVaultLaw" (54 : Nat) ({ cls := "BlockVaultModel", name := "flush", desc := "(I)I" } : Jvm.MethodName)) ∈ lw_gt := List.mem_filter.mpr ⟨List.mem_append_right _ (List.mem_of_getElem? (i := 570) (by decide +kernel)), rfl⟩
theorem tw_571 : (Jvm.Cond.instanceMethod ({ cls := "BlockVaultModel", name := "flush", desc := "(I)I" } : Jvm.MethodName)) ∈ lw_gt := List.mem_filter.mpr ⟨List.mem_append_right _ (List.mem_of_getElem? (i := 571) (by decide +kernel)), rfl⟩
theorem tw_572 : (Jvm.Cond.selects "BlockVaultModel" ({ cls := "BlockVaultModel", name := "flush", desc := "(I)I" } : Jvm.MethodName) ({ cls := "BlockVaultModel", name := "flush", desc := "(I)I" } : Jvm.MethodName)) ∈ lw_gt := List.mem_filter.mpr ⟨List.mem_append_right _ (List.mem_of_getElem? (i := 572) (by decide +kernel)), rfl⟩
theorem tw_573 : (Jvm.Cond.code ({ cls := "BlockVaultModel", name := "flush", desc := "(I)I" } : Jvm.MethodName) prog_7_method_26_code (5 : Nat) (Option.some Jvm.ClassFile.FieldType.int)) ∈ lw_gt := List.mem_filter.mpr ⟨List.mem_append_right _ (List.mem_of_getElem? (i := 573) (by decide +kernel)), rfl⟩
theorem tw_574 : (Jvm.Cond.methodLink "BlockVaultModel" (115 : Nat) ({ cls := "BlockVaultModel", name := "store", desc := "(II)V" } : Jvm.MethodName)) ∈ lw_gt := List.mem_filter.mpr ⟨List.mem_append_right _ (List.mem_of_getElem? (i := 574) (by decide +kernel)), rfl⟩
theorem tw_576 : (Jvm.Cond.instanceMethod ({ cls := "BlockVaultModel", name := "store", desc := "(II)V" } : Jvm.MethodName)) ∈ lw_gt := List.mem_filter.mpr ⟨List.mem_append_right _ (List.mem_of_getElem? (i := 576) (by decide +kernel)), rfl⟩
theorem tw_577 : (Jvm.Cond.code ({ cls := "BlockVaultModel", name := "store", desc := "(II)V" } : Jvm.MethodName) prog_7_method_25_code (4 : Nat) (Option.none : Option Jvm.ClassFile.FieldType)) ∈ lw_gt := List.mem_filter.mpr ⟨List.mem_append_right _ (List.mem_of_getElem? (i := 577) (by decide +kernel)), rfl⟩
theorem tw_578 : (Jvm.Cond.methodLink "BlockVaultLaw" (58 : Nat) ({ cls := "BlockVaultModel", name := "compact", desc := "(I)I" } : Jvm.MethodName)) ∈ lw_gt := List.mem_filter.mpr ⟨List.mem_append_right _ (List.mem_of_getElem? (i := 578) (by decide +kernel)), rfl⟩
theorem tw_579 : (Jvm.Cond.instanceMethod ({ cls := "BlockVaultModel", name := "compact", desc := "(I)I" } : Jvm.MethodName)) ∈ lw_gt := List.mem_filter.mpr ⟨List.mem_append_right _ (List.mem_of_getElem? (i := 579) (by decide +kernel)), rfl⟩
theorem tw_580 : (Jvm.Cond.selects "BlockVaultModel" ({ cls := "BlockVaultModel", name := "compact", desc := "(I)I" } : Jvm.MethodName) ({ cls := "BlockVaultModel", name := "compact", desc := "(I)I" } : Jvm.MethodName)) ∈ lw_gt := List.mem_filter.mpr ⟨List.mem_append_right _ (List.mem_of_getElem? (i := 580) (by decide +kernel)), rfl⟩
theorem tw_581 : (Jvm.Cond.code ({ cls := "BlockVaultModel", name := "compact", desc := "(I)I" } : Jvm.MethodName) prog_7_method_27_code (7 : Nat) (Option.some Jvm.ClassFile.FieldType.int)) ∈ lw_gt := List.mem_filter.mpr ⟨List.mem_append_right _ (List.mem_of_getElem? (i := 581) (by decide +kernel)), rfl⟩
theorem tw_582 : (Jvm.Cond.methodLink "BlockVaultLaw" (62 : Nat) ({ cls := "BlockVaultModel", name := "crash", desc := "(I)I" } : Jvm.MethodName)) ∈ lw_gt := List.mem_filter.mpr ⟨List.mem_append_right _ (List.mem_of_getElem? (i := 582) (by decide +kernel)), rfl⟩
theorem tw_583 : (Jvm.Cond.instanceMethod ({ cls := "BlockVaultModel", name := "crash", desc := "(I)I" } : Jvm.MethodName)) ∈ lw_gt := List.mem_filter.mpr ⟨List.mem_append_right _ (List.mem_of_getElem? (i := 583) (by decide +kernel)), rfl⟩
theorem tw_584 : (Jvm.Cond.selects "BlockVaultModel" ({ cls := "BlockVaultModel", name := "crash", desc := "(I)I" } : Jvm.MethodName) ({ cls := "BlockVaultModel", name := "crash", desc := "(I)I" } : Jvm.MethodName)) ∈ lw_gt := List.mem_filter.mpr ⟨List.mem_append_right _ (List.mem_of_getElem? (i := 584) (by decide +kernel)), rfl⟩
theorem tw_585 : (Jvm.Cond.code ({ cls := "BlockVaultModel", name := "crash", desc := "(I)I" } : Jvm.MethodName) prog_7_method_28_code (4 : Nat) (Option.some Jvm.ClassFile.FieldType.int)) ∈ lw_gt := List.mem_filter.mpr ⟨List.mem_append_right _ (List.mem_of_getElem? (i := 585) (by decide +kernel)), rfl⟩
theorem tw_586 : (Jvm.Cond.methodLink "BlockVaultLaw" (66 : Nat) ({ cls := "BlockVaultModel", name := "start", desc := "()I" } : Jvm.MethodName)) ∈ lw_gt := List.mem_filter.mpr ⟨List.mem_append_right _ (List.mem_of_getElem? (i := 586) (by decide +kernel)), rfl⟩
theorem tw_587 : (Jvm.Cond.instanceMethod ({ cls := "BlockVaultModel", name := "start", desc := "()I" } : Jvm.MethodName)) ∈ lw_gt := List.mem_filter.mpr ⟨List.mem_append_right _ (List.mem_of_getElem? (i := 587) (by decide +kernel)), rfl⟩
theorem tw_588 : (Jvm.Cond.selects "BlockVaultModel" ({ cls := "BlockVaultModel", name := "start", desc := "()I" } : Jvm.MethodName) ({ cls := "BlockVaultModel", name := "start", desc := "()I" } : Jvm.MethodName)) ∈ lw_gt := List.mem_filter.mpr ⟨List.mem_append_right _ (List.mem_of_getElem? (i := 588) (by decide +kernel)), rfl⟩
theorem tw_589 : (Jvm.Cond.code ({ cls := "BlockVaultModel", name := "start", desc := "()I" } : Jvm.MethodName) prog_7_method_29_code (3 : Nat) (Option.some Jvm.ClassFile.FieldType.int)) ∈ lw_gt := List.mem_filter.mpr ⟨List.mem_append_right _ (List.mem_of_getElem? (i := 589) (by decide +kernel)), rfl⟩
theorem tw_590 : (Jvm.Cond.methodLink "BlockVaultModel" (124 : Nat) ({ cls := "BlockVaultModel", name := "count", desc := "(I)I" } : Jvm.MethodName)) ∈ lw_gt := List.mem_filter.mpr ⟨List.mem_append_right _ (List.mem_of_getElem? (i := 590) (by decide +kernel)), rfl⟩
theorem tw_591 : (Jvm.Cond.instanceMethod ({ cls := "BlockVaultModel", name := "count", desc := "(I)I" } : Jvm.MethodName)) ∈ lw_gt := List.mem_filter.mpr ⟨List.mem_append_right _ (List.mem_of_getElem? (i := 591) (by decide +kernel)), rfl⟩
theorem tw_592 : (Jvm.Cond.selects "BlockVaultModel" ({ cls := "BlockVaultModel", name := "count", desc := "(I)I" } : Jvm.MethodName) ({ cls := "BlockVaultModel", name := "count", desc := "(I)I" } : Jvm.MethodName)) ∈ lw_gt := List.mem_filter.mpr ⟨List.mem_append_right _ (List.mem_of_getElem? (i := 592) (by decide +kernel)), rfl⟩
theorem tw_593 : (Jvm.Cond.code ({ cls := "BlockVaultModel", name := "count", desc := "(I)I" } : Jvm.MethodName) prog_7_method_35_code (6 : Nat) (Option.some Jvm.ClassFile.FieldType.int)) ∈ lw_gt := List.mem_filter.mpr ⟨List.mem_append_right _ (List.mem_of_getElem? (i := 593) (by decide +kernel)), rfl⟩
theorem tw_594 : (Jvm.Cond.methodLink "BlockVaultLaw" (70 : Nat) ({ cls := "BlockVaultModel", name := "entry", desc := "(II)I" } : Jvm.MethodName)) ∈ lw_gt := List.mem_filter.mpr ⟨List.mem_append_right _ (List.mem_of_getElem? (i := 594) (by decide +kernel)), rfl⟩
theorem tw_595 : (Jvm.Cond.instanceMethod ({ cls := "BlockVaultModel", name := "entry", desc := "(II)I" } : Jvm.MethodName)) ∈ lw_gt := List.mem_filter.mpr ⟨List.mem_append_right _ (List.mem_of_getElem? (i := 595) (by decide +kernel)), rfl⟩
theorem tw_596 : (Jvm.Cond.selects "BlockVaultModel" ({ cls := "BlockVaultModel", name := "entry", desc := "(II)I" } : Jvm.MethodName) ({ cls := "BlockVaultModel", name := "entry", desc := "(II)I" } : Jvm.MethodName)) ∈ lw_gt := List.mem_filter.mpr ⟨List.mem_append_right _ (List.mem_of_getElem? (i := 596) (by decide +kernel)), rfl⟩
theorem tw_597 : (Jvm.Cond.code ({ cls := "BlockVaultModel", name := "entry", desc := "(II)I" } : Jvm.MethodName) prog_7_method_30_code (4 : Nat) (Option.some Jvm.ClassFile.FieldType.int)) ∈ lw_gt := List.mem_filter.mpr ⟨List.mem_append_right _ (List.mem_of_getElem? (i := 597) (by decide +kernel)), rfl⟩
theorem tw_598 : (Jvm.Cond.methodLink "BlockVaultLaw" (74 : Nat) ({ cls := "BlockVaultModel", name := "next", desc := "(I)I" } : Jvm.MethodName)) ∈ lw_gt := List.mem_filter.mpr ⟨List.mem_append_right _ (List.mem_of_getElem? (i := 598) (by decide +kernel)), rfl⟩
theorem tw_599 : (Jvm.Cond.instanceMethod ({ cls := "BlockVaultModel", name := "next", desc := "(I)I" } : Jvm.MethodName)) ∈ lw_gt := List.mem_filter.mpr ⟨List.mem_append_right _ (List.mem_of_getElem? (i := 599) (by decide +kernel)), rfl⟩
theorem tw_600 : (Jvm.Cond.selects "BlockVaultModel" ({ cls := "BlockVaultModel", name := "next", desc := "(I)I" } : Jvm.MethodName) ({ cls := "BlockVaultModel", name := "next", desc := "(I)I" } : Jvm.MethodName)) ∈ lw_gt := List.mem_filter.mpr ⟨List.mem_append_right _ (List.mem_of_getElem? (i := 600) (by decide +kernel)), rfl⟩
theorem tw_601 : (Jvm.Cond.code ({ cls := "BlockVaultModel", name := "next", desc := "(I)I" } : Jvm.MethodName) prog_7_method_31_code (3 : Nat) (Option.some Jvm.ClassFile.FieldType.int)) ∈ lw_gt := List.mem_filter.mpr ⟨List.mem_append_right _ (List.mem_of_getElem? (i := 601) (by decide +kernel)), rfl⟩
theorem tw_602 : (Jvm.Cond.methodLink "BlockVaultLaw" (78 : Nat) ({ cls := "BlockVaultModel", name := "rank", desc := "(I)I" } : Jvm.MethodName)) ∈ lw_gt := List.mem_filter.mpr ⟨List.mem_append_right _ (List.mem_of_getElem? (i := 602) (by decide +kernel)), rfl⟩
theorem tw_603 : (Jvm.Cond.instanceMethod ({ cls := "BlockVaultModel", name := "rank", desc := "(I)I" } : Jvm.MethodName)) ∈ lw_gt := List.mem_filter.mpr ⟨List.mem_append_right _ (List.mem_of_getElem? (i := 603) (by decide +kernel)), rfl⟩
theorem tw_604 : (Jvm.Cond.selects "BlockVaultModel" ({ cls := "BlockVaultModel", name := "rank", desc := "(I)I" } : Jvm.MethodName) ({ cls := "BlockVaultModel", name := "rank", desc := "(I)I" } : Jvm.MethodName)) ∈ lw_gt := List.mem_filter.mpr ⟨List.mem_append_right _ (List.mem_of_getElem? (i := 604) (by decide +kernel)), rfl⟩
theorem tw_605 : (Jvm.Cond.code ({ cls := "BlockVaultModel", name := "rank", desc := "(I)I" } : Jvm.MethodName) prog_7_method_32_code (4 : Nat) (Option.some Jvm.ClassFile.FieldType.int)) ∈ lw_gt := List.mem_filter.mpr ⟨List.mem_append_right _ (List.mem_of_getElem? (i := 605) (by decide +kernel)), rfl⟩
theorem tw_606 : (Jvm.Cond.methodLink "BlockVaultLaw" (82 : Nat) ({ cls := "BlockVaultModel", name := "block", desc := "(II)I" } : Jvm.MethodName)) ∈ lw_gt := List.mem_filter.mpr ⟨List.mem_append_right _ (List.mem_of_getElem? (i := 606) (by decide +kernel)), rfl⟩
theorem tw_607 : (Jvm.Cond.instanceMethod ({ cls := "BlockVaultModel", name := "block", desc := "(II)I" } : Jvm.MethodName)) ∈ lw_gt := List.mem_filter.mpr ⟨List.mem_append_right _ (List.mem_of_getElem? (i := 607) (by decide +kernel)), rfl⟩
theorem tw_608 : (Jvm.Cond.selects "BlockVaultModel" ({ cls := "BlockVaultModel", name := "block", desc := "(II)I" } : Jvm.MethodName) ({ cls := "BlockVaultModel", name := "block", desc := "(II)I" } : Jvm.MethodName)) ∈ lw_gt := List.mem_filter.mpr ⟨List.mem_append_right _ (List.mem_of_getElem? (i := 608) (by decide +kernel)), rfl⟩
theorem tw_609 : (Jvm.Cond.code ({ cls := "BlockVaultModel", name := "block", desc := "(II)I" } : Jvm.MethodName) prog_7_method_33_code (5 : Nat) (Option.some Jvm.ClassFile.FieldType.int)) ∈ lw_gt := List.mem_filter.mpr ⟨List.mem_append_right _ (List.mem_of_getElem? (i := 609) (by decide +kernel)), rfl⟩
theorem tw_610 : (Jvm.Cond.methodLink "BlockVaultLaw" (86 : Nat) ({ cls := "BlockVaultModel", name := "image", desc := "(II)I" } : Jvm.MethodName)) ∈ lw_gt := List.mem_filter.mpr ⟨List.mem_append_right _ (List.mem_of_getElem? (i := 610) (by decide +kernel)), rfl⟩
theorem tw_611 : (Jvm.Cond.instanceMethod ({ cls := "BlockVaultModel", name := "image", desc := "(II)I" } : Jvm.MethodName)) ∈ lw_gt := List.mem_filter.mpr ⟨List.mem_append_right _ (List.mem_of_getElem? (i := 611) (by decide +kernel)), rfl⟩
theorem tw_612 : (Jvm.Cond.selects "BlockVaultModel" ({ cls := "BlockVaultModel", name := "image", desc := "(II)I" } : Jvm.MethodName) ({ cls := "BlockVaultModel", name := "image", desc := "(II)I" } : Jvm.MethodName)) ∈ lw_gt := List.mem_filter.mpr ⟨List.mem_append_right _ (List.mem_of_getElem? (i := 612) (by decide +kernel)), rfl⟩
theorem tw_613 : (Jvm.Cond.code ({ cls := "BlockVaultModel", name := "image", desc := "(II)I" } : Jvm.MethodName) prog_7_method_34_code (3 : Nat) (Option.some Jvm.ClassFile.FieldType.int)) ∈ lw_gt := List.mem_filter.mpr ⟨List.mem_append_right _ (List.mem_of_getElem? (i := 613) (by decide +kernel)), rfl⟩
theorem tw_614 : (Jvm.Cond.methodLink "BlockVaultLaw" (90 : Nat) ({ cls := "BlockVaultModel", name := "count", desc := "(I)I" } : Jvm.MethodName)) ∈ lw_gt := List.mem_filter.mpr ⟨List.mem_append_right _ (List.mem_of_getElem? (i := 614) (by decide +kernel)), rfl⟩
theorem ts_0 : Jvm.Cond.selects "BlockVault" ⟨"BlockVault", "ruleHolds", "(II)Z"⟩ ⟨"BlockVault", "ruleHolds", "(II)Z"⟩ ∈ lw_gt := List.mem_filter.mpr ⟨List.mem_append_left _ (List.mem_of_getElem? (i := 0) (by decide +kernel)), rfl⟩
theorem ts_1 : Jvm.Cond.selects "BlockVault" ⟨"BlockVault", "isThere", "(I)Z"⟩ ⟨"BlockVault", "isThere", "(I)Z"⟩ ∈ lw_gt := List.mem_filter.mpr ⟨List.mem_append_left _ (List.mem_of_getElem? (i := 1) (by decide +kernel)), rfl⟩
theorem ts_2 : Jvm.Cond.selects "BlockVault" ⟨"BlockVault", "writeRecord", "(IIII)I"⟩ ⟨"BlockVault", "writeRecord", "(IIII)I"⟩ ∈ lw_gt := List.mem_filter.mpr ⟨List.mem_append_left _ (List.mem_of_getElem? (i := 2) (by decide +kernel)), rfl⟩
theorem ts_3 : Jvm.Cond.selects "BlockVault" ⟨"BlockVault", "write", "(LBlockVault$Copy;)I"⟩ ⟨"BlockVault", "write", "(LBlockVault$Copy;)I"⟩ ∈ lw_gt := List.mem_filter.mpr ⟨List.mem_append_left _ (List.mem_of_getElem? (i := 3) (by decide +kernel)), rfl⟩
theorem ts_4 : Jvm.Cond.selects "BlockVault" ⟨"BlockVault", "append", "(LBlockVault$Copy;)I"⟩ ⟨"BlockVault", "append", "(LBlockVault$Copy;)I"⟩ ∈ lw_gt := List.mem_filter.mpr ⟨List.mem_append_left _ (List.mem_of_getElem? (i := 4) (by decide +kernel)), rfl⟩
theorem ts_5 : Jvm.Cond.selects "BlockVault" ⟨"BlockVault", "currentWithRoom", "(I)I"⟩ ⟨"BlockVault", "currentWithRoom", "(I)I"⟩ ∈ lw_gt := List.mem_filter.mpr ⟨List.mem_append_left _ (List.mem_of_getElem? (i := 5) (by decide +kernel)), rfl⟩
theorem ts_6 : Jvm.Cond.selects "BlockVault" ⟨"BlockVault", "leastInState", "(I)I"⟩ ⟨"BlockVault", "leastInState", "(I)I"⟩ ∈ lw_gt := List.mem_filter.mpr ⟨List.mem_append_left _ (List.mem_of_getElem? (i := 6) (by decide +kernel)), rfl⟩
theorem ts_7 : Jvm.Cond.selects "BlockVault" ⟨"BlockVault", "countInState", "(I)I"⟩ ⟨"BlockVault", "countInState", "(I)I"⟩ ∈ lw_gt := List.mem_filter.mpr ⟨List.mem_append_left _ (List.mem_of_getElem? (i := 7) (by decide +kernel)), rfl⟩
theorem ts_8 : Jvm.Cond.selects "BlockVault" ⟨"BlockVault", "sealBlock", "(I)V"⟩ ⟨"BlockVault", "sealBlock", "(I)V"⟩ ∈ lw_gt := List.mem_filter.mpr ⟨List.mem_append_left _ (List.mem_of_getElem? (i := 8) (by decide +kernel)), rfl⟩
theorem ts_9 : Jvm.Cond.selects "BlockVault" ⟨"BlockVault", "emptyIfDead", "(I)V"⟩ ⟨"BlockVault", "emptyIfDead", "(I)V"⟩ ∈ lw_gt := List.mem_filter.mpr ⟨List.mem_append_left _ (List.mem_of_getElem? (i := 9) (by decide +kernel)), rfl⟩
theorem ts_10 : Jvm.Cond.selects "BlockVault" ⟨"BlockVault", "hasLiveCopy", "(I)Z"⟩ ⟨"BlockVault", "hasLiveCopy", "(I)Z"⟩ ∈ lw_gt := List.mem_filter.mpr ⟨List.mem_append_left _ (List.mem_of_getElem? (i := 10) (by decide +kernel)), rfl⟩
theorem ts_11 : Jvm.Cond.selects "BlockVault" ⟨"BlockVault", "unwrittenBlocks", "()I"⟩ ⟨"BlockVault", "unwrittenBlocks", "()I"⟩ ∈ lw_gt := List.mem_filter.mpr ⟨List.mem_append_left _ (List.mem_of_getElem? (i := 11) (by decide +kernel)), rfl⟩
theorem ts_12 : Jvm.Cond.selects "BlockVault" ⟨"BlockVault", "freeIfWaitIsOver", "(I)V"⟩ ⟨"BlockVault", "freeIfWaitIsOver", "(I)V"⟩ ∈ lw_gt := List.mem_filter.mpr ⟨List.mem_append_left _ (List.mem_of_getElem? (i := 12) (by decide +kernel)), rfl⟩
theorem ts_13 : Jvm.Cond.selects "BlockVault" ⟨"BlockVault", "dropEntry", "(I)V"⟩ ⟨"BlockVault", "dropEntry", "(I)V"⟩ ∈ lw_gt := List.mem_filter.mpr ⟨List.mem_append_left _ (List.mem_of_getElem? (i := 13) (by decide +kernel)), rfl⟩
theorem ts_14 : Jvm.Cond.selects "BlockVault" ⟨"BlockVault", "writeTombstone", "(I)I"⟩ ⟨"BlockVault", "writeTombstone", "(I)I"⟩ ∈ lw_gt := List.mem_filter.mpr ⟨List.mem_append_left _ (List.mem_of_getElem? (i := 14) (by decide +kernel)), rfl⟩
theorem ts_15 : Jvm.Cond.selects "BlockVault" ⟨"BlockVault", "firstToExpire", "()I"⟩ ⟨"BlockVault", "firstToExpire", "()I"⟩ ∈ lw_gt := List.mem_filter.mpr ⟨List.mem_append_left _ (List.mem_of_getElem? (i := 15) (by decide +kernel)), rfl⟩
theorem ts_16 : Jvm.Cond.selects "BlockVault" ⟨"BlockVault", "isNeedless", "(I)Z"⟩ ⟨"BlockVault", "isNeedless", "(I)Z"⟩ ∈ lw_gt := List.mem_filter.mpr ⟨List.mem_append_left _ (List.mem_of_getElem? (i := 16) (by decide +kernel)), rfl⟩
theorem ts_17 : Jvm.Cond.selects "BlockVault" ⟨"BlockVault", "hidesAnother", "(LBlockVault$Copy;)Z"⟩ ⟨"BlockVault", "hidesAnother", "(LBlockVault$Copy;)Z"⟩ ∈ lw_gt := List.mem_filter.mpr ⟨List.mem_append_left _ (List.mem_of_getElem? (i := 17) (by decide +kernel)), rfl⟩
theorem ts_18 : Jvm.Cond.selects "BlockVault" ⟨"BlockVault", "longestSealed", "()I"⟩ ⟨"BlockVault", "longestSealed", "()I"⟩ ∈ lw_gt := List.mem_filter.mpr ⟨List.mem_append_left _ (List.mem_of_getElem? (i := 18) (by decide +kernel)), rfl⟩
theorem ts_19 : Jvm.Cond.selects "BlockVault" ⟨"BlockVault", "writeBlock", "(I)V"⟩ ⟨"BlockVault", "writeBlock", "(I)V"⟩ ∈ lw_gt := List.mem_filter.mpr ⟨List.mem_append_left _ (List.mem_of_getElem? (i := 19) (by decide +kernel)), rfl⟩
theorem ts_20 : Jvm.Cond.selects "BlockVault" ⟨"BlockVault", "endWaitsFor", "(I)V"⟩ ⟨"BlockVault", "endWaitsFor", "(I)V"⟩ ∈ lw_gt := List.mem_filter.mpr ⟨List.mem_append_left _ (List.mem_of_getElem? (i := 20) (by decide +kernel)), rfl⟩
theorem ts_21 : Jvm.Cond.selects "BlockVault" ⟨"BlockVault", "sparsestWritten", "(I)I"⟩ ⟨"BlockVault", "sparsestWritten", "(I)I"⟩ ∈ lw_gt := List.mem_filter.mpr ⟨List.mem_append_left _ (List.mem_of_getElem? (i := 21) (by decide +kernel)), rfl⟩
theorem ts_22 : Jvm.Cond.selects "BlockVault" ⟨"BlockVault", "used", "(I)I"⟩ ⟨"BlockVault", "used", "(I)I"⟩ ∈ lw_gt := List.mem_filter.mpr ⟨List.mem_append_left _ (List.mem_of_getElem? (i := 22) (by decide +kernel)), rfl⟩
theorem ts_23 : Jvm.Cond.selects "BlockVault" ⟨"BlockVault", "moveLiveCopies", "(I)I"⟩ ⟨"BlockVault", "moveLiveCopies", "(I)I"⟩ ∈ lw_gt := List.mem_filter.mpr ⟨List.mem_append_left _ (List.mem_of_getElem? (i := 23) (by decide +kernel)), rfl⟩
theorem ts_24 : Jvm.Cond.selects "BlockVault" ⟨"BlockVault", "isLiveAt", "(LBlockVault$Copy;II)Z"⟩ ⟨"BlockVault", "isLiveAt", "(LBlockVault$Copy;II)Z"⟩ ∈ lw_gt := List.mem_filter.mpr ⟨List.mem_append_left _ (List.mem_of_getElem? (i := 24) (by decide +kernel)), rfl⟩
theorem ts_25 : Jvm.Cond.selects "BlockVault" ⟨"BlockVault", "loseMemory", "()V"⟩ ⟨"BlockVault", "loseMemory", "()V"⟩ ∈ lw_gt := List.mem_filter.mpr ⟨List.mem_append_left _ (List.mem_of_getElem? (i := 25) (by decide +kernel)), rfl⟩
theorem ts_26 : Jvm.Cond.selects "BlockVault" ⟨"BlockVault", "nameNewestCopies", "()V"⟩ ⟨"BlockVault", "nameNewestCopies", "()V"⟩ ∈ lw_gt := List.mem_filter.mpr ⟨List.mem_append_left _ (List.mem_of_getElem? (i := 26) (by decide +kernel)), rfl⟩
theorem ts_27 : Jvm.Cond.selects "BlockVault" ⟨"BlockVault", "dropExpiredFound", "()V"⟩ ⟨"BlockVault", "dropExpiredFound", "()V"⟩ ∈ lw_gt := List.mem_filter.mpr ⟨List.mem_append_left _ (List.mem_of_getElem? (i := 27) (by decide +kernel)), rfl⟩
theorem ts_28 : Jvm.Cond.selects "BlockVault" ⟨"BlockVault", "reopenBlocks", "()V"⟩ ⟨"BlockVault", "reopenBlocks", "()V"⟩ ∈ lw_gt := List.mem_filter.mpr ⟨List.mem_append_left _ (List.mem_of_getElem? (i := 28) (by decide +kernel)), rfl⟩
theorem ts_29 : Jvm.Cond.selects "BlockVault" ⟨"BlockVault", "greatestStamp", "()I"⟩ ⟨"BlockVault", "greatestStamp", "()I"⟩ ∈ lw_gt := List.mem_filter.mpr ⟨List.mem_append_left _ (List.mem_of_getElem? (i := 29) (by decide +kernel)), rfl⟩
theorem ts_30 : Jvm.Cond.selects "BlockVault" ⟨"BlockVault", "countThere", "()I"⟩ ⟨"BlockVault", "countThere", "()I"⟩ ∈ lw_gt := List.mem_filter.mpr ⟨List.mem_append_left _ (List.mem_of_getElem? (i := 30) (by decide +kernel)), rfl⟩
theorem ts_31 : Jvm.Cond.selects "BlockVault" ⟨"BlockVault", "countEntries", "()I"⟩ ⟨"BlockVault", "countEntries", "()I"⟩ ∈ lw_gt := List.mem_filter.mpr ⟨List.mem_append_left _ (List.mem_of_getElem? (i := 31) (by decide +kernel)), rfl⟩
theorem ts_32 : Jvm.Cond.selects "BlockVault" ⟨"BlockVault", "countTombstones", "()I"⟩ ⟨"BlockVault", "countTombstones", "()I"⟩ ∈ lw_gt := List.mem_filter.mpr ⟨List.mem_append_left _ (List.mem_of_getElem? (i := 32) (by decide +kernel)), rfl⟩
theorem ts_33 : Jvm.Cond.selects "BlockVaultModel" ⟨"BlockVaultModel", "isThere", "(I)Z"⟩ ⟨"BlockVaultModel", "isThere", "(I)Z"⟩ ∈ lw_gt := List.mem_filter.mpr ⟨List.mem_append_left _ (List.mem_of_getElem? (i := 33) (by decide +kernel)), rfl⟩
theorem ts_34 : Jvm.Cond.selects "BlockVaultModel" ⟨"BlockVaultModel", "expired", "(I)Z"⟩ ⟨"BlockVaultModel", "expired", "(I)Z"⟩ ∈ lw_gt := List.mem_filter.mpr ⟨List.mem_append_left _ (List.mem_of_getElem? (i := 34) (by decide +kernel)), rfl⟩
theorem ts_35 : Jvm.Cond.selects "BlockVaultModel" ⟨"BlockVaultModel", "writeRecord", "(IIIII)I"⟩ ⟨"BlockVaultModel", "writeRecord", "(IIIII)I"⟩ ∈ lw_gt := List.mem_filter.mpr ⟨List.mem_append_left _ (List.mem_of_getElem? (i := 35) (by decide +kernel)), rfl⟩
theorem ts_36 : Jvm.Cond.selects "BlockVaultModel" ⟨"BlockVaultModel", "write", "()I"⟩ ⟨"BlockVaultModel", "write", "()I"⟩ ∈ lw_gt := List.mem_filter.mpr ⟨List.mem_append_left _ (List.mem_of_getElem? (i := 36) (by decide +kernel)), rfl⟩
theorem ts_37 : Jvm.Cond.selects "BlockVaultModel" ⟨"BlockVaultModel", "append", "()I"⟩ ⟨"BlockVaultModel", "append", "()I"⟩ ∈ lw_gt := List.mem_filter.mpr ⟨List.mem_append_left _ (List.mem_of_getElem? (i := 37) (by decide +kernel)), rfl⟩
theorem ts_38 : Jvm.Cond.selects "BlockVaultModel" ⟨"BlockVaultModel", "first", "(I)I"⟩ ⟨"BlockVaultModel", "first", "(I)I"⟩ ∈ lw_gt := List.mem_filter.mpr ⟨List.mem_append_left _ (List.mem_of_getElem? (i := 38) (by decide +kernel)), rfl⟩
theorem ts_39 : Jvm.Cond.selects "BlockVaultModel" ⟨"BlockVaultModel", "room", "(I)I"⟩ ⟨"BlockVaultModel", "room", "(I)I"⟩ ∈ lw_gt := List.mem_filter.mpr ⟨List.mem_append_left _ (List.mem_of_getElem? (i := 39) (by decide +kernel)), rfl⟩
theorem ts_40 : Jvm.Cond.selects "BlockVaultModel" ⟨"BlockVaultModel", "sealed", "()I"⟩ ⟨"BlockVaultModel", "sealed", "()I"⟩ ∈ lw_gt := List.mem_filter.mpr ⟨List.mem_append_left _ (List.mem_of_getElem? (i := 40) (by decide +kernel)), rfl⟩
theorem ts_41 : Jvm.Cond.selects "BlockVaultModel" ⟨"BlockVaultModel", "close", "(I)V"⟩ ⟨"BlockVaultModel", "close", "(I)V"⟩ ∈ lw_gt := List.mem_filter.mpr ⟨List.mem_append_left _ (List.mem_of_getElem? (i := 41) (by decide +kernel)), rfl⟩
theorem ts_42 : Jvm.Cond.selects "BlockVaultModel" ⟨"BlockVaultModel", "copy", "(II)V"⟩ ⟨"BlockVaultModel", "copy", "(II)V"⟩ ∈ lw_gt := List.mem_filter.mpr ⟨List.mem_append_left _ (List.mem_of_getElem? (i := 42) (by decide +kernel)), rfl⟩
theorem ts_43 : Jvm.Cond.selects "BlockVaultModel" ⟨"BlockVaultModel", "settle", "()V"⟩ ⟨"BlockVaultModel", "settle", "()V"⟩ ∈ lw_gt := List.mem_filter.mpr ⟨List.mem_append_left _ (List.mem_of_getElem? (i := 43) (by decide +kernel)), rfl⟩
theorem ts_44 : Jvm.Cond.selects "BlockVaultModel" ⟨"BlockVaultModel", "used", "(I)I"⟩ ⟨"BlockVaultModel", "used", "(I)I"⟩ ∈ lw_gt := List.mem_filter.mpr ⟨List.mem_append_left _ (List.mem_of_getElem? (i := 44) (by decide +kernel)), rfl⟩
theorem ts_45 : Jvm.Cond.selects "BlockVaultModel" ⟨"BlockVaultModel", "writeTombstone", "(I)I"⟩ ⟨"BlockVaultModel", "writeTombstone", "(I)I"⟩ ∈ lw_gt := List.mem_filter.mpr ⟨List.mem_append_left _ (List.mem_of_getElem? (i := 45) (by decide +kernel)), rfl⟩
theorem ts_46 : Jvm.Cond.selects "BlockVaultModel" ⟨"BlockVaultModel", "hasOther", "(I)Z"⟩ ⟨"BlockVaultModel", "hasOther", "(I)Z"⟩ ∈ lw_gt := List.mem_filter.mpr ⟨List.mem_append_left _ (List.mem_of_getElem? (i := 46) (by decide +kernel)), rfl⟩
theorem ts_47 : Jvm.Cond.selects "BlockVaultModel" ⟨"BlockVaultModel", "store", "(II)V"⟩ ⟨"BlockVaultModel", "store", "(II)V"⟩ ∈ lw_gt := List.mem_filter.mpr ⟨List.mem_append_left _ (List.mem_of_getElem? (i := 47) (by decide +kernel)), rfl⟩
theorem hL_V : ∀ w ∈ u_ws R_V F_V 8, w ∈ lw_gt := by
  intro w hw
  obtain ⟨k, hk, rfl⟩ := List.mem_map.mp hw
  rw [List.mem_range] at hk
  rcases (show k = 0 ∨ k = 1 ∨ k = 2 ∨ k = 3 ∨ k = 4 ∨ k = 5 ∨ k = 6 ∨ k = 7 by omega) with rfl | rfl | rfl | rfl | rfl | rfl | rfl | rfl
  · exact tw_89
  · exact tw_91
  · exact tw_93
  · exact tw_95
  · exact tw_97
  · exact tw_99
  · exact tw_101
  · exact tw_103
theorem h_V {x : Cond} : ∀ w ∈ u_ws R_V F_V 8, w ∈ x :: lw_gt := fun w h => List.mem_cons_of_mem _ (hL_V w h)
theorem hL_C : ∀ w ∈ u_ws R_C F_C 7, w ∈ lw_gt := by
  intro w hw
  obtain ⟨k, hk, rfl⟩ := List.mem_map.mp hw
  rw [List.mem_range] at hk
  rcases (show k = 0 ∨ k = 1 ∨ k = 2 ∨ k = 3 ∨ k = 4 ∨ k = 5 ∨ k = 6 by omega) with rfl | rfl | rfl | rfl | rfl | rfl | rfl
  · exact tw_155
  · exact tw_157
  · exact tw_159
  · exact tw_161
  · exact tw_163
  · exact tw_165
  · exact tw_167
theorem h_C {x : Cond} : ∀ w ∈ u_ws R_C F_C 7, w ∈ x :: lw_gt := fun w h => List.mem_cons_of_mem _ (hL_C w h)
theorem hL_R : ∀ w ∈ u_ws R_R F_R 2, w ∈ lw_gt := by
  intro w hw
  obtain ⟨k, hk, rfl⟩ := List.mem_map.mp hw
  rw [List.mem_range] at hk
  rcases (show k = 0 ∨ k = 1 by omega) with rfl | rfl
  · exact tw_37
  · exact tw_39
theorem h_R {x : Cond} : ∀ w ∈ u_ws R_R F_R 2, w ∈ x :: lw_gt := fun w h => List.mem_cons_of_mem _ (hL_R w h)
theorem hL_B : ∀ w ∈ u_ws R_B F_B 5, w ∈ lw_gt := by
  intro w hw
  obtain ⟨k, hk, rfl⟩ := List.mem_map.mp hw
  rw [List.mem_range] at hk
  rcases (show k = 0 ∨ k = 1 ∨ k = 2 ∨ k = 3 ∨ k = 4 by omega) with rfl | rfl | rfl | rfl | rfl
  · exact tw_52
  · exact tw_54
  · exact tw_56
  · exact tw_58
  · exact tw_60
theorem h_B {x : Cond} : ∀ w ∈ u_ws R_B F_B 5, w ∈ x :: lw_gt := fun w h => List.mem_cons_of_mem _ (hL_B w h)
theorem hL_E : ∀ w ∈ u_ws R_E F_E 3, w ∈ lw_gt := by
  intro w hw
  obtain ⟨k, hk, rfl⟩ := List.mem_map.mp hw
  rw [List.mem_range] at hk
  rcases (show k = 0 ∨ k = 1 ∨ k = 2 by omega) with rfl | rfl | rfl
  · exact tw_74
  · exact tw_76
  · exact tw_78
theorem h_E {x : Cond} : ∀ w ∈ u_ws R_E F_E 3, w ∈ x :: lw_gt := fun w h => List.mem_cons_of_mem _ (hL_E w h)
theorem hL_M : ∀ w ∈ u_ws R_M F_M 18, w ∈ lw_gt := by
  intro w hw
  obtain ⟨k, hk, rfl⟩ := List.mem_map.mp hw
  rw [List.mem_range] at hk
  rcases (show k = 0 ∨ k = 1 ∨ k = 2 ∨ k = 3 ∨ k = 4 ∨ k = 5 ∨ k = 6 ∨ k = 7 ∨ k = 8 ∨ k = 9 ∨ k = 10 ∨ k = 11 ∨ k = 12 ∨ k = 13 ∨ k = 14 ∨ k = 15 ∨ k = 16 ∨ k = 17 by omega) with rfl | rfl | rfl | rfl | rfl | rfl | rfl | rfl | rfl | rfl | rfl | rfl | rfl | rfl | rfl | rfl | rfl | rfl
  · exact tw_439
  · exact tw_441
  · exact tw_443
  · exact tw_445
  · exact tw_447
  · exact tw_449
  · exact tw_451
  · exact tw_453
  · exact tw_455
  · exact tw_457
  · exact tw_459
  · exact tw_461
  · exact tw_463
  · exact tw_465
  · exact tw_467
  · exact tw_469
  · exact tw_471
  · exact tw_473
theorem h_M {x : Cond} : ∀ w ∈ u_ws R_M F_M 18, w ∈ x :: lw_gt := fun w h => List.mem_cons_of_mem _ (hL_M w h)
theorem gG_l {y : Cond} (hy : y ∈ lw_gt) : GoodIn lw_gt (y :: lw_gt) := fun w h => by
  have hw : w ∈ lw_gt := (List.mem_cons.mp h).elim (fun e => by rw [e]; exact hy) id
  exact ⟨hw, good_of_word (List.mem_filter.mp hw).2⟩
theorem gG_m {x y : Cond} (hy : y ∈ lw_gt) : GoodIn (x :: lw_gt) (y :: lw_gt) := fun w h => ⟨List.mem_cons_of_mem _ (gG_l hy w h).1, (gG_l hy w h).2⟩
end
section
theorem d_R_init_0 : decode b_R_init 0 = .ok (.aload_n 0, 1) := by decide +kernel
theorem d_R_init_1 : decode b_R_init 1 = .ok (.invokespecial 3, 3) := by decide +kernel
theorem d_R_init_4 : decode b_R_init 4 = .ok (.aload_n 0, 1) := by decide +kernel
theorem d_R_init_5 : decode b_R_init 5 = .ok (.bipush 12, 2) := by decide +kernel
theorem d_R_init_7 : decode b_R_init 7 = .ok (.anewarray 9, 3) := by decide +kernel
theorem d_R_init_10 : decode b_R_init 10 = .ok (.putfield 11, 3) := by decide +kernel
theorem d_R_init_13 : decode b_R_init 13 = .ok (.aload_n 0, 1) := by decide +kernel
theorem d_R_init_14 : decode b_R_init 14 = .ok (.iconst 0, 1) := by decide +kernel
theorem d_R_init_15 : decode b_R_init 15 = .ok (.putfield 17, 3) := by decide +kernel
theorem d_R_init_18 : decode b_R_init 18 = .ok (.return_, 1) := by decide +kernel
-- BlockVault$Row.<init>()V: labels [0], loops []
abbrev rm_R_init : Room := { frames := 1, cells := 1, slots := 12, locals := 20 }
def cR_init_0 (X : Nat → xm_PT) (Rh : Option Value → xm_M → Prop) : xm_PT := (xo_aload 0 (xo_drop (xo_aload 0 (xo_push (.int (nI 12)) (xo_anew 2 (xo_put 2 0 (.array (.object "BlockVault$Copy")) (xo_aload 0 (xo_push (.int 0) (xo_put 2 1 .int (xo_vret Rh))))))))))
def fR_init : xm_F := fun X Rh lb => if lb = 0 then cR_init_0 X Rh else fun _ _ _ _ _ => False
def cp_R_init : xm_CP := fun as m Rh => (lg_sl as).length ≤ 1 ∧ xm_cp fR_init 1 12 as m Rh
theorem eR_init_0 {X : Nat → xm_PT} {Rh : Option Value → xm_M → Prop} (hX : ∀ lb, xm_le (fR_init X Rh lb) (X lb)) {ls : xm_L} {st : List Value} {m : xm_M} {bc bs : Nat} (h : cR_init_0 X Rh ls st m bc bs) : X 0 ls st m bc bs := hX 0 ls st m bc bs h
set_option maxRecDepth 20000 in
set_option maxHeartbeats 4000000 in
theorem sR_init_0 {p : Program} {l : Launch} {e : Env} {s : State} {mm : MethodId} {args : Array Value} {below : List Frame} {meth : Method} {c : Code} {D : va_G} {A : Nat → Prop} {Rh : Option Value → xm_M → Prop} (C : xm_C p s mm args c b_R_init 1 "BlockVault$Row" w_R_init D classes ats A) (hr : meth.sig.returnType = none) (hlk : meth.locks = false) (hnm : meth.name = "<init>") : xm_le (cR_init_0 (xm_A p l e rm_R_init s mm args below meth c 1 D classes A (MQ below (xm_Q D classes Rh A) args s 1 12 A)) Rh) ((xm_A p l e rm_R_init s mm args below meth c 1 D classes A (MQ below (xm_Q D classes Rh A) args s 1 12 A)) 0) :=
  (xs_aload_n C d_R_init_0 rfl (xs_obj C d_R_init_1 (List.mem_cons_of_mem _ tw_31) (List.mem_cons_of_mem _ tw_15) (List.mem_cons_of_mem _ tw_16) (by decide) (by decide) (xs_aload_n C d_R_init_4 rfl (xs_bipush C d_R_init_5 (by decide) (xs_anew C (t := 2) d_R_init_7 rfl (List.mem_cons_of_mem _ tw_32) (by decide +kernel) (xs_putF C (k := 0) d_R_init_10 h_R t_R t_R_ok n_R (ci := 2) rfl (by decide) (List.mem_cons_of_mem _ tw_34) rfl rfl hnm rfl (by decide +kernel) (xs_aload_n C d_R_init_13 rfl (xs_iconst C d_R_init_14 (by decide) (xs_put C (k := 1) d_R_init_15 h_R t_R t_R_ok n_R (ci := 2) rfl (by decide) (List.mem_cons_of_mem _ tw_35) rfl rfl (by decide +kernel) (xs_vret C d_R_init_18 hr hlk rfl rfl))))))))))
theorem met_R_init (l : Launch) (D : va_G) : xm_Met l D classes ats y_R_init w_R_init rm_R_init 1 12 cp_R_init := by
  refine xm_met 0 (by decide) rfl rfl rfl (fun p e s mm args below meth c A Rh C hr hlk hnm lb => ?_)
  unfold fR_init
  split
  · rename_i h; subst h; exact sR_init_0 C hr hlk hnm
  · exact fun _ _ _ _ _ h => h.elim
theorem d_B_init_0 : decode b_B_init 0 = .ok (.aload_n 0, 1) := by decide +kernel
theorem d_B_init_1 : decode b_B_init 1 = .ok (.invokespecial 3, 3) := by decide +kernel
theorem d_B_init_4 : decode b_B_init 4 = .ok (.aload_n 0, 1) := by decide +kernel
theorem d_B_init_5 : decode b_B_init 5 = .ok (.new 9, 3) := by decide +kernel
theorem d_B_init_8 : decode b_B_init 8 = .ok (.dup, 1) := by decide +kernel
theorem d_B_init_9 : decode b_B_init 9 = .ok (.invokespecial 11, 3) := by decide +kernel
theorem d_B_init_12 : decode b_B_init 12 = .ok (.putfield 12, 3) := by decide +kernel
theorem d_B_init_15 : decode b_B_init 15 = .ok (.aload_n 0, 1) := by decide +kernel
theorem d_B_init_16 : decode b_B_init 16 = .ok (.new 9, 3) := by decide +kernel
theorem d_B_init_19 : decode b_B_init 19 = .ok (.dup, 1) := by decide +kernel
theorem d_B_init_20 : decode b_B_init 20 = .ok (.invokespecial 11, 3) := by decide +kernel
theorem d_B_init_23 : decode b_B_init 23 = .ok (.putfield 18, 3) := by decide +kernel
theorem d_B_init_26 : decode b_B_init 26 = .ok (.aload_n 0, 1) := by decide +kernel
theorem d_B_init_27 : decode b_B_init 27 = .ok (.iconst 0, 1) := by decide +kernel
theorem d_B_init_28 : decode b_B_init 28 = .ok (.putfield 21, 3) := by decide +kernel
theorem d_B_init_31 : decode b_B_init 31 = .ok (.aload_n 0, 1) := by decide +kernel
theorem d_B_init_32 : decode b_B_init 32 = .ok (.iconst 0, 1) := by decide +kernel
theorem d_B_init_33 : decode b_B_init 33 = .ok (.putfield 25, 3) := by decide +kernel
theorem d_B_init_36 : decode b_B_init 36 = .ok (.aload_n 0, 1) := by decide +kernel
theorem d_B_init_37 : decode b_B_init 37 = .ok (.iconst 0, 1) := by decide +kernel
theorem d_B_init_38 : decode b_B_init 38 = .ok (.putfield 28, 3) := by decide +kernel
theorem d_B_init_41 : decode b_B_init 41 = .ok (.return_, 1) := by decide +kernel
-- BlockVault$Block.<init>()V: labels [0], loops []
abbrev rm_B_init : Room := { frames := 2, cells := 4, slots := 28, locals := 40 }
def cB_init_0 (X : Nat → xm_PT) (Rh : Option Value → xm_M → Prop) : xm_PT := (xo_aload 0 (xo_drop (xo_aload 0 (xo_new 2 2 [.null, .int 0] (xo_dup (xo_callI 0 1 12 cp_R_init (xo_put 3 0 (.object "BlockVault$Row") (xo_aload 0 (xo_new 2 2 [.null, .int 0] (xo_dup (xo_callI 0 1 12 cp_R_init (xo_put 3 1 (.object "BlockVault$Row") (xo_aload 0 (xo_push (.int 0) (xo_put 3 2 .int (xo_aload 0 (xo_push (.int 0) (xo_put 3 3 .int (xo_aload 0 (xo_push (.int 0) (xo_put 3 4 .int (xo_vret Rh))))))))))))))))))))))
def fB_init : xm_F := fun X Rh lb => if lb = 0 then cB_init_0 X Rh else fun _ _ _ _ _ => False
def cp_B_init : xm_CP := fun as m Rh => (lg_sl as).length ≤ 1 ∧ xm_cp fB_init 4 28 as m Rh
theorem eB_init_0 {X : Nat → xm_PT} {Rh : Option Value → xm_M → Prop} (hX : ∀ lb, xm_le (fB_init X Rh lb) (X lb)) {ls : xm_L} {st : List Value} {m : xm_M} {bc bs : Nat} (h : cB_init_0 X Rh ls st m bc bs) : X 0 ls st m bc bs := hX 0 ls st m bc bs h
set_option maxRecDepth 20000 in
set_option maxHeartbeats 4000000 in
theorem sB_init_0 {p : Program} {l : Launch} {e : Env} {s : State} {mm : MethodId} {args : Array Value} {below : List Frame} {meth : Method} {c : Code} {D : va_G} {A : Nat → Prop} {Rh : Option Value → xm_M → Prop} (C : xm_C p s mm args c b_B_init 1 "BlockVault$Block" w_B_init D classes ats A) (hr : meth.sig.returnType = none) (hlk : meth.locks = false) (hnm : meth.name = "<init>") : xm_le (cB_init_0 (xm_A p l e rm_B_init s mm args below meth c 1 D classes A (MQ below (xm_Q D classes Rh A) args s 4 28 A)) Rh) ((xm_A p l e rm_B_init s mm args below meth c 1 D classes A (MQ below (xm_Q D classes Rh A) args s 4 28 A)) 0) :=
  (xs_aload_n C d_B_init_0 rfl (xs_obj C d_B_init_1 (List.mem_cons_of_mem _ tw_25) (List.mem_cons_of_mem _ tw_15) (List.mem_cons_of_mem _ tw_16) (by decide) (by decide) (xs_aload_n C d_B_init_4 rfl (xs_new C d_B_init_5 h_R t_R t_R_ok (ci := 2) rfl (List.mem_cons_of_mem _ tw_26) (List.mem_cons_of_mem _ tw_27) (List.mem_cons_of_mem _ tw_3) (by decide +kernel) (xs_dup C d_B_init_8 (xs_callIN C d_B_init_9 (met_R_init l D) ⟨va_cnB (ws := w_R_init) (rm := rm_R_init) 0 C.1.2.2.2.2 (gG_m tw_30) rfl rfl rfl (C.2.2.2.1 ("BlockVault$Block", 11, y_R_init, "BlockVault") (by decide +kernel)) (C.1.2.2.2.2 _ (List.mem_cons_of_mem _ tw_3)) ⟨by decide, by decide, by decide +kernel⟩ ⟨Nat.le_of_ble_eq_true rfl, Nat.le_of_ble_eq_true rfl⟩, rfl, (C.1.2.2.2.2 _ (List.mem_cons_of_mem _ tw_29))⟩ (xs_putF C (k := 0) d_B_init_12 h_B t_B t_B_ok n_B (ci := 3) rfl (by decide) (List.mem_cons_of_mem _ tw_42) rfl rfl hnm rfl (by decide +kernel) (xs_aload_n C d_B_init_15 rfl (xs_new C d_B_init_16 h_R t_R t_R_ok (ci := 2) rfl (List.mem_cons_of_mem _ tw_26) (List.mem_cons_of_mem _ tw_27) (List.mem_cons_of_mem _ tw_3) (by decide +kernel) (xs_dup C d_B_init_19 (xs_callIN C d_B_init_20 (met_R_init l D) ⟨va_cnB (ws := w_R_init) (rm := rm_R_init) 0 C.1.2.2.2.2 (gG_m tw_30) rfl rfl rfl (C.2.2.2.1 ("BlockVault$Block", 11, y_R_init, "BlockVault") (by decide +kernel)) (C.1.2.2.2.2 _ (List.mem_cons_of_mem _ tw_3)) ⟨by decide, by decide, by decide +kernel⟩ ⟨Nat.le_of_ble_eq_true rfl, Nat.le_of_ble_eq_true rfl⟩, rfl, (C.1.2.2.2.2 _ (List.mem_cons_of_mem _ tw_29))⟩ (xs_putF C (k := 1) d_B_init_23 h_B t_B t_B_ok n_B (ci := 3) rfl (by decide) (List.mem_cons_of_mem _ tw_44) rfl rfl hnm rfl (by decide +kernel) (xs_aload_n C d_B_init_26 rfl (xs_iconst C d_B_init_27 (by decide) (xs_put C (k := 2) d_B_init_28 h_B t_B t_B_ok n_B (ci := 3) rfl (by decide) (List.mem_cons_of_mem _ tw_46) rfl rfl (by decide +kernel) (xs_aload_n C d_B_init_31 rfl (xs_iconst C d_B_init_32 (by decide) (xs_put C (k := 3) d_B_init_33 h_B t_B t_B_ok n_B (ci := 3) rfl (by decide) (List.mem_cons_of_mem _ tw_48) rfl rfl (by decide +kernel) (xs_aload_n C d_B_init_36 rfl (xs_iconst C d_B_init_37 (by decide) (xs_put C (k := 4) d_B_init_38 h_B t_B t_B_ok n_B (ci := 3) rfl (by decide) (List.mem_cons_of_mem _ tw_50) rfl rfl (by decide +kernel) (xs_vret C d_B_init_41 hr hlk rfl rfl))))))))))))))))))))))
theorem met_B_init (l : Launch) (D : va_G) : xm_Met l D classes ats y_B_init w_B_init rm_B_init 4 28 cp_B_init := by
  refine xm_met 0 (by decide) rfl rfl rfl (fun p e s mm args below meth c A Rh C hr hlk hnm lb => ?_)
  unfold fB_init
  split
  · rename_i h; subst h; exact sB_init_0 C hr hlk hnm
  · exact fun _ _ _ _ _ h => h.elim
theorem d_E_init_0 : decode b_E_init 0 = .ok (.aload_n 0, 1) := by decide +kernel
theorem d_E_init_1 : decode b_E_init 1 = .ok (.invokespecial 3, 3) := by decide +kernel
theorem d_E_init_4 : decode b_E_init 4 = .ok (.aload_n 0, 1) := by decide +kernel
theorem d_E_init_5 : decode b_E_init 5 = .ok (.aconst_null, 1) := by decide +kernel
theorem d_E_init_6 : decode b_E_init 6 = .ok (.putfield 9, 3) := by decide +kernel
theorem d_E_init_9 : decode b_E_init 9 = .ok (.aload_n 0, 1) := by decide +kernel
theorem d_E_init_10 : decode b_E_init 10 = .ok (.iconst (-1), 1) := by decide +kernel
theorem d_E_init_11 : decode b_E_init 11 = .ok (.putfield 15, 3) := by decide +kernel
theorem d_E_init_14 : decode b_E_init 14 = .ok (.aload_n 0, 1) := by decide +kernel
theorem d_E_init_15 : decode b_E_init 15 = .ok (.iconst 0, 1) := by decide +kernel
theorem d_E_init_16 : decode b_E_init 16 = .ok (.putfield 19, 3) := by decide +kernel
theorem d_E_init_19 : decode b_E_init 19 = .ok (.return_, 1) := by decide +kernel
-- BlockVault$Entry.<init>()V: labels [0], loops []
abbrev rm_E_init : Room := { frames := 1, cells := 0, slots := 0, locals := 20 }
def cE_init_0 (X : Nat → xm_PT) (Rh : Option Value → xm_M → Prop) : xm_PT := (xo_aload 0 (xo_drop (xo_aload 0 (xo_push .null (xo_put 4 0 (.object "BlockVault$Copy") (xo_aload 0 (xo_push (.int (-1)) (xo_put 4 1 .int (xo_aload 0 (xo_push (.int 0) (xo_put 4 2 .int (xo_vret Rh))))))))))))
def fE_init : xm_F := fun X Rh lb => if lb = 0 then cE_init_0 X Rh else fun _ _ _ _ _ => False
def cp_E_init : xm_CP := fun as m Rh => (lg_sl as).length ≤ 1 ∧ xm_cp fE_init 0 0 as m Rh
theorem eE_init_0 {X : Nat → xm_PT} {Rh : Option Value → xm_M → Prop} (hX : ∀ lb, xm_le (fE_init X Rh lb) (X lb)) {ls : xm_L} {st : List Value} {m : xm_M} {bc bs : Nat} (h : cE_init_0 X Rh ls st m bc bs) : X 0 ls st m bc bs := hX 0 ls st m bc bs h
set_option maxRecDepth 20000 in
set_option maxHeartbeats 4000000 in
theorem sE_init_0 {p : Program} {l : Launch} {e : Env} {s : State} {mm : MethodId} {args : Array Value} {below : List Frame} {meth : Method} {c : Code} {D : va_G} {A : Nat → Prop} {Rh : Option Value → xm_M → Prop} (C : xm_C p s mm args c b_E_init 1 "BlockVault$Entry" w_E_init D classes ats A) (hr : meth.sig.returnType = none) (hlk : meth.locks = false) (hnm : meth.name = "<init>") : xm_le (cE_init_0 (xm_A p l e rm_E_init s mm args below meth c 1 D classes A (MQ below (xm_Q D classes Rh A) args s 0 0 A)) Rh) ((xm_A p l e rm_E_init s mm args below meth c 1 D classes A (MQ below (xm_Q D classes Rh A) args s 0 0 A)) 0) :=
  (xs_aload_n C d_E_init_0 rfl (xs_obj C d_E_init_1 (List.mem_cons_of_mem _ tw_67) (List.mem_cons_of_mem _ tw_15) (List.mem_cons_of_mem _ tw_16) (by decide) (by decide) (xs_aload_n C d_E_init_4 rfl (xs_null C d_E_init_5 (xs_put C (k := 0) d_E_init_6 h_E t_E t_E_ok n_E (ci := 4) rfl (by decide) (List.mem_cons_of_mem _ tw_68) rfl rfl (by decide +kernel) (xs_aload_n C d_E_init_9 rfl (xs_iconst C d_E_init_10 (by decide) (xs_put C (k := 1) d_E_init_11 h_E t_E t_E_ok n_E (ci := 4) rfl (by decide) (List.mem_cons_of_mem _ tw_70) rfl rfl (by decide +kernel) (xs_aload_n C d_E_init_14 rfl (xs_iconst C d_E_init_15 (by decide) (xs_put C (k := 2) d_E_init_16 h_E t_E t_E_ok n_E (ci := 4) rfl (by decide) (List.mem_cons_of_mem _ tw_72) rfl rfl (by decide +kernel) (xs_vret C d_E_init_19 hr hlk rfl rfl))))))))))))
theorem met_E_init (l : Launch) (D : va_G) : xm_Met l D classes ats y_E_init w_E_init rm_E_init 0 0 cp_E_init := by
  refine xm_met 0 (by decide) rfl rfl rfl (fun p e s mm args below meth c A Rh C hr hlk hnm lb => ?_)
  unfold fE_init
  split
  · rename_i h; subst h; exact sE_init_0 C hr hlk hnm
  · exact fun _ _ _ _ _ h => h.elim
theorem d_V_init_0 : decode b_V_init 0 = .ok (.aload_n 0, 1) := by decide +kernel
theorem d_V_init_1 : decode b_V_init 1 = .ok (.invokespecial 1, 3) := by decide +kernel
theorem d_V_init_4 : decode b_V_init 4 = .ok (.aload_n 0, 1) := by decide +kernel
theorem d_V_init_5 : decode b_V_init 5 = .ok (.bipush 8, 2) := by decide +kernel
theorem d_V_init_7 : decode b_V_init 7 = .ok (.anewarray 9, 3) := by decide +kernel
theorem d_V_init_10 : decode b_V_init 10 = .ok (.putfield 11, 3) := by decide +kernel
theorem d_V_init_13 : decode b_V_init 13 = .ok (.aload_n 0, 1) := by decide +kernel
theorem d_V_init_14 : decode b_V_init 14 = .ok (.bipush 16, 2) := by decide +kernel
theorem d_V_init_16 : decode b_V_init 16 = .ok (.anewarray 15, 3) := by decide +kernel
theorem d_V_init_19 : decode b_V_init 19 = .ok (.putfield 17, 3) := by decide +kernel
theorem d_V_init_22 : decode b_V_init 22 = .ok (.aload_n 0, 1) := by decide +kernel
theorem d_V_init_23 : decode b_V_init 23 = .ok (.iconst 0, 1) := by decide +kernel
theorem d_V_init_24 : decode b_V_init 24 = .ok (.putfield 21, 3) := by decide +kernel
theorem d_V_init_27 : decode b_V_init 27 = .ok (.aload_n 0, 1) := by decide +kernel
theorem d_V_init_28 : decode b_V_init 28 = .ok (.iconst 1, 1) := by decide +kernel
theorem d_V_init_29 : decode b_V_init 29 = .ok (.putfield 25, 3) := by decide +kernel
theorem d_V_init_32 : decode b_V_init 32 = .ok (.aload_n 0, 1) := by decide +kernel
theorem d_V_init_33 : decode b_V_init 33 = .ok (.iconst 0, 1) := by decide +kernel
theorem d_V_init_34 : decode b_V_init 34 = .ok (.putfield 28, 3) := by decide +kernel
theorem d_V_init_37 : decode b_V_init 37 = .ok (.aload_n 0, 1) := by decide +kernel
theorem d_V_init_38 : decode b_V_init 38 = .ok (.iconst 0, 1) := by decide +kernel
theorem d_V_init_39 : decode b_V_init 39 = .ok (.putfield 31, 3) := by decide +kernel
theorem d_V_init_42 : decode b_V_init 42 = .ok (.aload_n 0, 1) := by decide +kernel
theorem d_V_init_43 : decode b_V_init 43 = .ok (.iconst 0, 1) := by decide +kernel
theorem d_V_init_44 : decode b_V_init 44 = .ok (.putfield 34, 3) := by decide +kernel
theorem d_V_init_47 : decode b_V_init 47 = .ok (.aload_n 0, 1) := by decide +kernel
theorem d_V_init_48 : decode b_V_init 48 = .ok (.iconst 0, 1) := by decide +kernel
theorem d_V_init_49 : decode b_V_init 49 = .ok (.putfield 37, 3) := by decide +kernel
theorem d_V_init_52 : decode b_V_init 52 = .ok (.iconst 0, 1) := by decide +kernel
theorem d_V_init_53 : decode b_V_init 53 = .ok (.istore_n 1, 1) := by decide +kernel
theorem d_V_init_54 : decode b_V_init 54 = .ok (.iload_n 1, 1) := by decide +kernel
theorem d_V_init_55 : decode b_V_init 55 = .ok (.bipush 8, 2) := by decide +kernel
theorem d_V_init_57 : decode b_V_init 57 = .ok (.if_icmp .ge 22, 3) := by decide +kernel
theorem d_V_init_60 : decode b_V_init 60 = .ok (.aload_n 0, 1) := by decide +kernel
theorem d_V_init_61 : decode b_V_init 61 = .ok (.getfield 11, 3) := by decide +kernel
theorem d_V_init_64 : decode b_V_init 64 = .ok (.iload_n 1, 1) := by decide +kernel
theorem d_V_init_65 : decode b_V_init 65 = .ok (.new 9, 3) := by decide +kernel
theorem d_V_init_68 : decode b_V_init 68 = .ok (.dup, 1) := by decide +kernel
theorem d_V_init_69 : decode b_V_init 69 = .ok (.invokespecial 41, 3) := by decide +kernel
theorem d_V_init_72 : decode b_V_init 72 = .ok (.aastore, 1) := by decide +kernel
theorem d_V_init_73 : decode b_V_init 73 = .ok (.iinc 1 1, 3) := by decide +kernel
theorem d_V_init_76 : decode b_V_init 76 = .ok (.goto (-22), 3) := by decide +kernel
theorem d_V_init_79 : decode b_V_init 79 = .ok (.iconst 0, 1) := by decide +kernel
theorem d_V_init_80 : decode b_V_init 80 = .ok (.istore_n 1, 1) := by decide +kernel
theorem d_V_init_81 : decode b_V_init 81 = .ok (.iload_n 1, 1) := by decide +kernel
theorem d_V_init_82 : decode b_V_init 82 = .ok (.bipush 16, 2) := by decide +kernel
theorem d_V_init_84 : decode b_V_init 84 = .ok (.if_icmp .ge 22, 3) := by decide +kernel
theorem d_V_init_87 : decode b_V_init 87 = .ok (.aload_n 0, 1) := by decide +kernel
theorem d_V_init_88 : decode b_V_init 88 = .ok (.getfield 17, 3) := by decide +kernel
theorem d_V_init_91 : decode b_V_init 91 = .ok (.iload_n 1, 1) := by decide +kernel
theorem d_V_init_92 : decode b_V_init 92 = .ok (.new 15, 3) := by decide +kernel
theorem d_V_init_95 : decode b_V_init 95 = .ok (.dup, 1) := by decide +kernel
theorem d_V_init_96 : decode b_V_init 96 = .ok (.invokespecial 42, 3) := by decide +kernel
theorem d_V_init_99 : decode b_V_init 99 = .ok (.aastore, 1) := by decide +kernel
theorem d_V_init_100 : decode b_V_init 100 = .ok (.iinc 1 1, 3) := by decide +kernel
theorem d_V_init_103 : decode b_V_init 103 = .ok (.goto (-22), 3) := by decide +kernel
theorem d_V_init_106 : decode b_V_init 106 = .ok (.return_, 1) := by decide +kernel
-- BlockVault.<init>()V: labels [0, 54, 81], loops [54, 81]
abbrev rm_V_init : Room := { frames := 3, cells := 58, slots := 336, locals := 60 }
def cV_init_81 (X : Nat → xm_PT) (Rh : Option Value → xm_M → Prop) : xm_PT := (xo_iload 1 (xo_push (.int (nI 16)) (xo_icmp (fun x y => y ≤ x) (xo_vret Rh) (xo_aload 0 (xo_get 0 1 (xo_iload 1 (xo_new 4 3 [.null, .int 0, .int 0] (xo_dup (xo_callI 0 0 0 cp_E_init (xo_aast ats classes (xo_iinc 1 1 (xo_jmp [0, 1] (X 81)))))))))))))
def cV_init_54 (X : Nat → xm_PT) (Rh : Option Value → xm_M → Prop) : xm_PT := (xo_iload 1 (xo_push (.int (nI 8)) (xo_icmp (fun x y => y ≤ x) (xo_push (.int 0) (xo_istore 1 (xo_jmp [0, 1] (X 81)))) (xo_aload 0 (xo_get 0 0 (xo_iload 1 (xo_new 3 5 [.null, .null, .int 0, .int 0, .int 0] (xo_dup (xo_callI 0 4 28 cp_B_init (xo_aast ats classes (xo_iinc 1 1 (xo_jmp [0, 1] (X 54)))))))))))))
def cV_init_0 (X : Nat → xm_PT) (Rh : Option Value → xm_M → Prop) : xm_PT := (xo_aload 0 (xo_drop (xo_aload 0 (xo_push (.int (nI 8)) (xo_anew 0 (xo_put 0 0 (.array (.object "BlockVault$Block")) (xo_aload 0 (xo_push (.int (nI 16)) (xo_anew 1 (xo_put 0 1 (.array (.object "BlockVault$Entry")) (xo_aload 0 (xo_push (.int 0) (xo_put 0 2 .int (xo_aload 0 (xo_push (.int 1) (xo_put 0 3 .int (xo_aload 0 (xo_push (.int 0) (xo_put 0 4 .int (xo_aload 0 (xo_push (.int 0) (xo_put 0 5 .int (xo_aload 0 (xo_push (.int 0) (xo_put 0 6 .int (xo_aload 0 (xo_push (.int 0) (xo_put 0 7 .boolean (xo_push (.int 0) (xo_istore 1 (xo_jmp [0, 1] (X 54))))))))))))))))))))))))))))))))
def fV_init : xm_F := fun X Rh lb => if lb = 0 then cV_init_0 X Rh else (if lb = 54 then cV_init_54 X Rh else (if lb = 81 then cV_init_81 X Rh else fun _ _ _ _ _ => False))
def cp_V_init : xm_CP := fun as m Rh => (lg_sl as).length ≤ 2 ∧ xm_cp fV_init 58 336 as m Rh
theorem eV_init_0 {X : Nat → xm_PT} {Rh : Option Value → xm_M → Prop} (hX : ∀ lb, xm_le (fV_init X Rh lb) (X lb)) {ls : xm_L} {st : List Value} {m : xm_M} {bc bs : Nat} (h : cV_init_0 X Rh ls st m bc bs) : X 0 ls st m bc bs := hX 0 ls st m bc bs h
theorem eV_init_54 {X : Nat → xm_PT} {Rh : Option Value → xm_M → Prop} (hX : ∀ lb, xm_le (fV_init X Rh lb) (X lb)) {ls : xm_L} {st : List Value} {m : xm_M} {bc bs : Nat} (h : cV_init_54 X Rh ls st m bc bs) : X 54 ls st m bc bs := hX 54 ls st m bc bs h
theorem eV_init_81 {X : Nat → xm_PT} {Rh : Option Value → xm_M → Prop} (hX : ∀ lb, xm_le (fV_init X Rh lb) (X lb)) {ls : xm_L} {st : List Value} {m : xm_M} {bc bs : Nat} (h : cV_init_81 X Rh ls st m bc bs) : X 81 ls st m bc bs := hX 81 ls st m bc bs h
set_option maxRecDepth 20000 in
set_option maxHeartbeats 4000000 in
theorem sV_init_81 {p : Program} {l : Launch} {e : Env} {s : State} {mm : MethodId} {args : Array Value} {below : List Frame} {meth : Method} {c : Code} {D : va_G} {A : Nat → Prop} {Rh : Option Value → xm_M → Prop} (C : xm_C p s mm args c b_V_init 2 "BlockVault" w_V_init D classes ats A) (hr : meth.sig.returnType = none) (hlk : meth.locks = false) (hnm : meth.name = "<init>") : xm_le (cV_init_81 (xm_A p l e rm_V_init s mm args below meth c 2 D classes A (MQ below (xm_Q D classes Rh A) args s 58 336 A)) Rh) ((xm_A p l e rm_V_init s mm args below meth c 2 D classes A (MQ below (xm_Q D classes Rh A) args s 58 336 A)) 81) :=
  (xs_iload_n C d_V_init_81 rfl (xs_bipush C d_V_init_82 (by decide) (xs_icmp_ge C d_V_init_84 (by decide) (xs_vret C d_V_init_106 hr hlk rfl rfl) (xs_aload_n C d_V_init_87 rfl (xs_get C (k := 1) d_V_init_88 h_V (ci := 0) rfl (by decide) (List.mem_cons_of_mem _ tw_82) rfl (xs_iload_n C d_V_init_91 rfl (xs_new C d_V_init_92 h_E t_E t_E_ok (ci := 4) rfl (List.mem_cons_of_mem _ tw_19) (List.mem_cons_of_mem _ tw_63) (List.mem_cons_of_mem _ tw_4) (by decide +kernel) (xs_dup C d_V_init_95 (xs_callIN C d_V_init_96 (met_E_init l D) ⟨va_cnB (ws := w_E_init) (rm := rm_E_init) 0 C.1.2.2.2.2 (gG_m tw_66) rfl rfl rfl (C.2.2.2.1 ("BlockVault", 42, y_E_init, "BlockVault") (by decide +kernel)) (C.1.2.2.2.2 _ (List.mem_cons_of_mem _ tw_4)) ⟨by decide, by decide, by decide +kernel⟩ ⟨Nat.le_of_ble_eq_true rfl, Nat.le_of_ble_eq_true rfl⟩, rfl, (C.1.2.2.2.2 _ (List.mem_cons_of_mem _ tw_65))⟩ (xs_aast C d_V_init_99 (xs_iinc C d_V_init_100 (by decide) (by decide) (xs_goto C d_V_init_103 (by decide) (xs_jmp (fun _ _ _ _ _ h => h))))))))))))))
set_option maxRecDepth 20000 in
set_option maxHeartbeats 4000000 in
theorem sV_init_54 {p : Program} {l : Launch} {e : Env} {s : State} {mm : MethodId} {args : Array Value} {below : List Frame} {meth : Method} {c : Code} {D : va_G} {A : Nat → Prop} {Rh : Option Value → xm_M → Prop} (C : xm_C p s mm args c b_V_init 2 "BlockVault" w_V_init D classes ats A) (hr : meth.sig.returnType = none) (hlk : meth.locks = false) (hnm : meth.name = "<init>") : xm_le (cV_init_54 (xm_A p l e rm_V_init s mm args below meth c 2 D classes A (MQ below (xm_Q D classes Rh A) args s 58 336 A)) Rh) ((xm_A p l e rm_V_init s mm args below meth c 2 D classes A (MQ below (xm_Q D classes Rh A) args s 58 336 A)) 54) :=
  (xs_iload_n C d_V_init_54 rfl (xs_bipush C d_V_init_55 (by decide) (xs_icmp_ge C d_V_init_57 (by decide) (xs_iconst C d_V_init_79 (by decide) (xs_istore_n C d_V_init_80 rfl (by decide) (xs_jmp (fun _ _ _ _ _ h => h)))) (xs_aload_n C d_V_init_60 rfl (xs_get C (k := 0) d_V_init_61 h_V (ci := 0) rfl (by decide) (List.mem_cons_of_mem _ tw_81) rfl (xs_iload_n C d_V_init_64 rfl (xs_new C d_V_init_65 h_B t_B t_B_ok (ci := 3) rfl (List.mem_cons_of_mem _ tw_17) (List.mem_cons_of_mem _ tw_21) (List.mem_cons_of_mem _ tw_2) (by decide +kernel) (xs_dup C d_V_init_68 (xs_callIN C d_V_init_69 (met_B_init l D) ⟨va_cnB (ws := w_B_init) (rm := rm_B_init) 0 C.1.2.2.2.2 (gG_m tw_24) rfl rfl rfl (C.2.2.2.1 ("BlockVault", 41, y_B_init, "BlockVault") (by decide +kernel)) (C.1.2.2.2.2 _ (List.mem_cons_of_mem _ tw_2)) ⟨by decide, by decide, by decide +kernel⟩ ⟨Nat.le_of_ble_eq_true rfl, Nat.le_of_ble_eq_true rfl⟩, rfl, (C.1.2.2.2.2 _ (List.mem_cons_of_mem _ tw_23))⟩ (xs_aast C d_V_init_72 (xs_iinc C d_V_init_73 (by decide) (by decide) (xs_goto C d_V_init_76 (by decide) (xs_jmp (fun _ _ _ _ _ h => h))))))))))))))
set_option maxRecDepth 20000 in
set_option maxHeartbeats 4000000 in
theorem sV_init_0 {p : Program} {l : Launch} {e : Env} {s : State} {mm : MethodId} {args : Array Value} {below : List Frame} {meth : Method} {c : Code} {D : va_G} {A : Nat → Prop} {Rh : Option Value → xm_M → Prop} (C : xm_C p s mm args c b_V_init 2 "BlockVault" w_V_init D classes ats A) (hr : meth.sig.returnType = none) (hlk : meth.locks = false) (hnm : meth.name = "<init>") : xm_le (cV_init_0 (xm_A p l e rm_V_init s mm args below meth c 2 D classes A (MQ below (xm_Q D classes Rh A) args s 58 336 A)) Rh) ((xm_A p l e rm_V_init s mm args below meth c 2 D classes A (MQ below (xm_Q D classes Rh A) args s 58 336 A)) 0) :=
  (xs_aload_n C d_V_init_0 rfl (xs_obj C d_V_init_1 (List.mem_cons_of_mem _ tw_14) (List.mem_cons_of_mem _ tw_15) (List.mem_cons_of_mem _ tw_16) (by decide) (by decide) (xs_aload_n C d_V_init_4 rfl (xs_bipush C d_V_init_5 (by decide) (xs_anew C (t := 0) d_V_init_7 rfl (List.mem_cons_of_mem _ tw_17) (by decide +kernel) (xs_putF C (k := 0) d_V_init_10 h_V t_V t_V_ok n_V (ci := 0) rfl (by decide) (List.mem_cons_of_mem _ tw_81) rfl rfl hnm rfl (by decide +kernel) (xs_aload_n C d_V_init_13 rfl (xs_bipush C d_V_init_14 (by decide) (xs_anew C (t := 1) d_V_init_16 rfl (List.mem_cons_of_mem _ tw_19) (by decide +kernel) (xs_putF C (k := 1) d_V_init_19 h_V t_V t_V_ok n_V (ci := 0) rfl (by decide) (List.mem_cons_of_mem _ tw_82) rfl rfl hnm rfl (by decide +kernel) (xs_aload_n C d_V_init_22 rfl (xs_iconst C d_V_init_23 (by decide) (xs_put C (k := 2) d_V_init_24 h_V t_V t_V_ok n_V (ci := 0) rfl (by decide) (List.mem_cons_of_mem _ tw_83) rfl rfl (by decide +kernel) (xs_aload_n C d_V_init_27 rfl (xs_iconst C d_V_init_28 (by decide) (xs_put C (k := 3) d_V_init_29 h_V t_V t_V_ok n_V (ci := 0) rfl (by decide) (List.mem_cons_of_mem _ tw_84) rfl rfl (by decide +kernel) (xs_aload_n C d_V_init_32 rfl (xs_iconst C d_V_init_33 (by decide) (xs_put C (k := 4) d_V_init_34 h_V t_V t_V_ok n_V (ci := 0) rfl (by decide) (List.mem_cons_of_mem _ tw_85) rfl rfl (by decide +kernel) (xs_aload_n C d_V_init_37 rfl (xs_iconst C d_V_init_38 (by decide) (xs_put C (k := 5) d_V_init_39 h_V t_V t_V_ok n_V (ci := 0) rfl (by decide) (List.mem_cons_of_mem _ tw_86) rfl rfl (by decide +kernel) (xs_aload_n C d_V_init_42 rfl (xs_iconst C d_V_init_43 (by decide) (xs_put C (k := 6) d_V_init_44 h_V t_V t_V_ok n_V (ci := 0) rfl (by decide) (List.mem_cons_of_mem _ tw_87) rfl rfl (by decide +kernel) (xs_aload_n C d_V_init_47 rfl (xs_iconst C d_V_init_48 (by decide) (xs_put C (k := 7) d_V_init_49 h_V t_V t_V_ok n_V (ci := 0) rfl (by decide) (List.mem_cons_of_mem _ tw_88) rfl rfl (by decide +kernel) (xs_iconst C d_V_init_52 (by decide) (xs_istore_n C d_V_init_53 rfl (by decide) (xs_jmp (fun _ _ _ _ _ h => h))))))))))))))))))))))))))))))))
theorem met_V_init (l : Launch) (D : va_G) : xm_Met l D classes ats y_V_init w_V_init rm_V_init 58 336 cp_V_init := by
  refine xm_met 0 (by decide) rfl rfl rfl (fun p e s mm args below meth c A Rh C hr hlk hnm lb => ?_)
  unfold fV_init
  split
  · rename_i h; subst h; exact sV_init_0 C hr hlk hnm
  split
  · rename_i h; subst h; exact sV_init_54 C hr hlk hnm
  split
  · rename_i h; subst h; exact sV_init_81 C hr hlk hnm
  · exact fun _ _ _ _ _ h => h.elim
theorem d_V_isKey_0 : decode b_V_isKey 0 = .ok (.iload_n 0, 1) := by decide +kernel
theorem d_V_isKey_1 : decode b_V_isKey 1 = .ok (.ifCond .lt 13, 3) := by decide +kernel
theorem d_V_isKey_4 : decode b_V_isKey 4 = .ok (.iload_n 0, 1) := by decide +kernel
theorem d_V_isKey_5 : decode b_V_isKey 5 = .ok (.bipush 16, 2) := by decide +kernel
theorem d_V_isKey_7 : decode b_V_isKey 7 = .ok (.if_icmp .ge 7, 3) := by decide +kernel
theorem d_V_isKey_10 : decode b_V_isKey 10 = .ok (.iconst 1, 1) := by decide +kernel
theorem d_V_isKey_11 : decode b_V_isKey 11 = .ok (.goto 4, 3) := by decide +kernel
theorem d_V_isKey_14 : decode b_V_isKey 14 = .ok (.iconst 0, 1) := by decide +kernel
theorem d_V_isKey_15 : decode b_V_isKey 15 = .ok (.ireturn, 1) := by decide +kernel
-- BlockVault.isKey(I)Z: labels [0], loops []
abbrev rm_V_isKey : Room := { frames := 0, cells := 0, slots := 0, locals := 0 }
def cV_isKey_0 (X : Nat → xm_PT) (Rh : Option Value → xm_M → Prop) : xm_PT := (xo_iload 0 (xo_if (fun x => x < 0) (xo_push (.int 0) (xo_zret Rh)) (xo_iload 0 (xo_push (.int (nI 16)) (xo_icmp (fun x y => y ≤ x) (xo_push (.int 0) (xo_zret Rh)) (xo_push (.int 1) (xo_zret Rh)))))))
def fV_isKey : xm_F := fun X Rh lb => if lb = 0 then cV_isKey_0 X Rh else fun _ _ _ _ _ => False
def cp_V_isKey : xm_CP := fun as m Rh => (lg_sl as).length ≤ 1 ∧ xm_cp fV_isKey 0 0 as m Rh
theorem eV_isKey_0 {X : Nat → xm_PT} {Rh : Option Value → xm_M → Prop} (hX : ∀ lb, xm_le (fV_isKey X Rh lb) (X lb)) {ls : xm_L} {st : List Value} {m : xm_M} {bc bs : Nat} (h : cV_isKey_0 X Rh ls st m bc bs) : X 0 ls st m bc bs := hX 0 ls st m bc bs h
set_option maxRecDepth 20000 in
set_option maxHeartbeats 4000000 in
theorem sV_isKey_0 {p : Program} {l : Launch} {e : Env} {s : State} {mm : MethodId} {args : Array Value} {below : List Frame} {meth : Method} {c : Code} {D : va_G} {A : Nat → Prop} {Rh : Option Value → xm_M → Prop} (C : xm_C p s mm args c b_V_isKey 1 "BlockVault" w_V_isKey D classes ats A) (hr : meth.sig.returnType = (some .boolean)) (hlk : meth.locks = false) (hnm : meth.name = "isKey") : xm_le (cV_isKey_0 (xm_A p l e rm_V_isKey s mm args below meth c 1 D classes A (MQ below (xm_Q D classes Rh A) args s 0 0 A)) Rh) ((xm_A p l e rm_V_isKey s mm args below meth c 1 D classes A (MQ below (xm_Q D classes Rh A) args s 0 0 A)) 0) :=
  (xs_iload_n C d_V_isKey_0 rfl (xs_if_lt C d_V_isKey_1 (by decide) (xs_iconst C d_V_isKey_14 (by decide) (xs_zret C d_V_isKey_15 hr hlk rfl rfl)) (xs_iload_n C d_V_isKey_4 rfl (xs_bipush C d_V_isKey_5 (by decide) (xs_icmp_ge C d_V_isKey_7 (by decide) (xs_iconst C d_V_isKey_14 (by decide) (xs_zret C d_V_isKey_15 hr hlk rfl rfl)) (xs_iconst C d_V_isKey_10 (by decide) (xs_goto C d_V_isKey_11 (by decide) (xs_zret C d_V_isKey_15 hr hlk rfl rfl))))))))
theorem met_V_isKey (l : Launch) (D : va_G) : xm_Met l D classes ats y_V_isKey w_V_isKey rm_V_isKey 0 0 cp_V_isKey := by
  refine xm_met 0 (by decide) rfl rfl rfl (fun p e s mm args below meth c A Rh C hr hlk hnm lb => ?_)
  unfold fV_isKey
  split
  · rename_i h; subst h; exact sV_isKey_0 C hr hlk hnm
  · exact fun _ _ _ _ _ h => h.elim
theorem d_V_isLife_0 : decode b_V_isLife 0 = .ok (.iload_n 0, 1) := by decide +kernel
theorem d_V_isLife_1 : decode b_V_isLife 1 = .ok (.ifCond .lt 14, 3) := by decide +kernel
theorem d_V_isLife_4 : decode b_V_isLife 4 = .ok (.iload_n 0, 1) := by decide +kernel
theorem d_V_isLife_5 : decode b_V_isLife 5 = .ok (.sipush 1000, 3) := by decide +kernel
theorem d_V_isLife_8 : decode b_V_isLife 8 = .ok (.if_icmp .gt 7, 3) := by decide +kernel
theorem d_V_isLife_11 : decode b_V_isLife 11 = .ok (.iconst 1, 1) := by decide +kernel
theorem d_V_isLife_12 : decode b_V_isLife 12 = .ok (.goto 4, 3) := by decide +kernel
theorem d_V_isLife_15 : decode b_V_isLife 15 = .ok (.iconst 0, 1) := by decide +kernel
theorem d_V_isLife_16 : decode b_V_isLife 16 = .ok (.ireturn, 1) := by decide +kernel
-- BlockVault.isLife(I)Z: labels [0], loops []
abbrev rm_V_isLife : Room := { frames := 0, cells := 0, slots := 0, locals := 0 }
def cV_isLife_0 (X : Nat → xm_PT) (Rh : Option Value → xm_M → Prop) : xm_PT := (xo_iload 0 (xo_if (fun x => x < 0) (xo_push (.int 0) (xo_zret Rh)) (xo_iload 0 (xo_push (.int (nI 1000)) (xo_icmp (fun x y => y < x) (xo_push (.int 0) (xo_zret Rh)) (xo_push (.int 1) (xo_zret Rh)))))))
def fV_isLife : xm_F := fun X Rh lb => if lb = 0 then cV_isLife_0 X Rh else fun _ _ _ _ _ => False
def cp_V_isLife : xm_CP := fun as m Rh => (lg_sl as).length ≤ 1 ∧ xm_cp fV_isLife 0 0 as m Rh
theorem eV_isLife_0 {X : Nat → xm_PT} {Rh : Option Value → xm_M → Prop} (hX : ∀ lb, xm_le (fV_isLife X Rh lb) (X lb)) {ls : xm_L} {st : List Value} {m : xm_M} {bc bs : Nat} (h : cV_isLife_0 X Rh ls st m bc bs) : X 0 ls st m bc bs := hX 0 ls st m bc bs h
set_option maxRecDepth 20000 in
set_option maxHeartbeats 4000000 in
theorem sV_isLife_0 {p : Program} {l : Launch} {e : Env} {s : State} {mm : MethodId} {args : Array Value} {below : List Frame} {meth : Method} {c : Code} {D : va_G} {A : Nat → Prop} {Rh : Option Value → xm_M → Prop} (C : xm_C p s mm args c b_V_isLife 1 "BlockVault" w_V_isLife D classes ats A) (hr : meth.sig.returnType = (some .boolean)) (hlk : meth.locks = false) (hnm : meth.name = "isLife") : xm_le (cV_isLife_0 (xm_A p l e rm_V_isLife s mm args below meth c 1 D classes A (MQ below (xm_Q D classes Rh A) args s 0 0 A)) Rh) ((xm_A p l e rm_V_isLife s mm args below meth c 1 D classes A (MQ below (xm_Q D classes Rh A) args s 0 0 A)) 0) :=
  (xs_iload_n C d_V_isLife_0 rfl (xs_if_lt C d_V_isLife_1 (by decide) (xs_iconst C d_V_isLife_15 (by decide) (xs_zret C d_V_isLife_16 hr hlk rfl rfl)) (xs_iload_n C d_V_isLife_4 rfl (xs_sipush C d_V_isLife_5 (by decide) (xs_icmp_gt C d_V_isLife_8 (by decide) (xs_iconst C d_V_isLife_15 (by decide) (xs_zret C d_V_isLife_16 hr hlk rfl rfl)) (xs_iconst C d_V_isLife_11 (by decide) (xs_goto C d_V_isLife_12 (by decide) (xs_zret C d_V_isLife_16 hr hlk rfl rfl))))))))
theorem met_V_isLife (l : Launch) (D : va_G) : xm_Met l D classes ats y_V_isLife w_V_isLife rm_V_isLife 0 0 cp_V_isLife := by
  refine xm_met 0 (by decide) rfl rfl rfl (fun p e s mm args below meth c A Rh C hr hlk hnm lb => ?_)
  unfold fV_isLife
  split
  · rename_i h; subst h; exact sV_isLife_0 C hr hlk hnm
  · exact fun _ _ _ _ _ h => h.elim
theorem d_C_isExpired_0 : decode b_C_isExpired 0 = .ok (.aload_n 0, 1) := by decide +kernel
theorem d_C_isExpired_1 : decode b_C_isExpired 1 = .ok (.getfield 22, 3) := by decide +kernel
theorem d_C_isExpired_4 : decode b_C_isExpired 4 = .ok (.ifCond .eq 15, 3) := by decide +kernel
theorem d_C_isExpired_7 : decode b_C_isExpired 7 = .ok (.aload_n 0, 1) := by decide +kernel
theorem d_C_isExpired_8 : decode b_C_isExpired 8 = .ok (.getfield 22, 3) := by decide +kernel
theorem d_C_isExpired_11 : decode b_C_isExpired 11 = .ok (.iload_n 1, 1) := by decide +kernel
theorem d_C_isExpired_12 : decode b_C_isExpired 12 = .ok (.if_icmp .gt 7, 3) := by decide +kernel
theorem d_C_isExpired_15 : decode b_C_isExpired 15 = .ok (.iconst 1, 1) := by decide +kernel
theorem d_C_isExpired_16 : decode b_C_isExpired 16 = .ok (.goto 4, 3) := by decide +kernel
theorem d_C_isExpired_19 : decode b_C_isExpired 19 = .ok (.iconst 0, 1) := by decide +kernel
theorem d_C_isExpired_20 : decode b_C_isExpired 20 = .ok (.ireturn, 1) := by decide +kernel
-- BlockVault$Copy.isExpired(I)Z: labels [0], loops []
abbrev rm_C_isExpired : Room := { frames := 0, cells := 0, slots := 0, locals := 0 }
def cC_isExpired_0 (X : Nat → xm_PT) (Rh : Option Value → xm_M → Prop) : xm_PT := (xo_aload 0 (xo_get 1 4 (xo_if (fun x => x = 0) (xo_push (.int 0) (xo_zret Rh)) (xo_aload 0 (xo_get 1 4 (xo_iload 1 (xo_icmp (fun x y => y < x) (xo_push (.int 0) (xo_zret Rh)) (xo_push (.int 1) (xo_zret Rh)))))))))
def fC_isExpired : xm_F := fun X Rh lb => if lb = 0 then cC_isExpired_0 X Rh else fun _ _ _ _ _ => False
def cp_C_isExpired : xm_CP := fun as m Rh => (lg_sl as).length ≤ 2 ∧ xm_cp fC_isExpired 0 0 as m Rh
theorem eC_isExpired_0 {X : Nat → xm_PT} {Rh : Option Value → xm_M → Prop} (hX : ∀ lb, xm_le (fC_isExpired X Rh lb) (X lb)) {ls : xm_L} {st : List Value} {m : xm_M} {bc bs : Nat} (h : cC_isExpired_0 X Rh ls st m bc bs) : X 0 ls st m bc bs := hX 0 ls st m bc bs h
set_option maxRecDepth 20000 in
set_option maxHeartbeats 4000000 in
theorem sC_isExpired_0 {p : Program} {l : Launch} {e : Env} {s : State} {mm : MethodId} {args : Array Value} {below : List Frame} {meth : Method} {c : Code} {D : va_G} {A : Nat → Prop} {Rh : Option Value → xm_M → Prop} (C : xm_C p s mm args c b_C_isExpired 2 "BlockVault$Copy" w_C_isExpired D classes ats A) (hr : meth.sig.returnType = (some .boolean)) (hlk : meth.locks = false) (hnm : meth.name = "isExpired") : xm_le (cC_isExpired_0 (xm_A p l e rm_C_isExpired s mm args below meth c 2 D classes A (MQ below (xm_Q D classes Rh A) args s 0 0 A)) Rh) ((xm_A p l e rm_C_isExpired s mm args below meth c 2 D classes A (MQ below (xm_Q D classes Rh A) args s 0 0 A)) 0) :=
  (xs_aload_n C d_C_isExpired_0 rfl (xs_get C (k := 4) d_C_isExpired_1 h_C (ci := 1) rfl (by decide) (List.mem_cons_of_mem _ tw_148) rfl (xs_if_eq C d_C_isExpired_4 (by decide) (xs_iconst C d_C_isExpired_19 (by decide) (xs_zret C d_C_isExpired_20 hr hlk rfl rfl)) (xs_aload_n C d_C_isExpired_7 rfl (xs_get C (k := 4) d_C_isExpired_8 h_C (ci := 1) rfl (by decide) (List.mem_cons_of_mem _ tw_148) rfl (xs_iload_n C d_C_isExpired_11 rfl (xs_icmp_gt C d_C_isExpired_12 (by decide) (xs_iconst C d_C_isExpired_19 (by decide) (xs_zret C d_C_isExpired_20 hr hlk rfl rfl)) (xs_iconst C d_C_isExpired_15 (by decide) (xs_goto C d_C_isExpired_16 (by decide) (xs_zret C d_C_isExpired_20 hr hlk rfl rfl))))))))))
theorem met_C_isExpired (l : Launch) (D : va_G) : xm_Met l D classes ats y_C_isExpired w_C_isExpired rm_C_isExpired 0 0 cp_C_isExpired := by
  refine xm_met 0 (by decide) rfl rfl rfl (fun p e s mm args below meth c A Rh C hr hlk hnm lb => ?_)
  unfold fC_isExpired
  split
  · rename_i h; subst h; exact sC_isExpired_0 C hr hlk hnm
  · exact fun _ _ _ _ _ h => h.elim
theorem d_V_isThere_0 : decode b_V_isThere 0 = .ok (.aload_n 0, 1) := by decide +kernel
theorem d_V_isThere_1 : decode b_V_isThere 1 = .ok (.getfield 17, 3) := by decide +kernel
theorem d_V_isThere_4 : decode b_V_isThere 4 = .ok (.iload_n 1, 1) := by decide +kernel
theorem d_V_isThere_5 : decode b_V_isThere 5 = .ok (.aaload, 1) := by decide +kernel
theorem d_V_isThere_6 : decode b_V_isThere 6 = .ok (.getfield 63, 3) := by decide +kernel
theorem d_V_isThere_9 : decode b_V_isThere 9 = .ok (.astore_n 2, 1) := by decide +kernel
theorem d_V_isThere_10 : decode b_V_isThere 10 = .ok (.aload_n 2, 1) := by decide +kernel
theorem d_V_isThere_11 : decode b_V_isThere 11 = .ok (.ifnull 25, 3) := by decide +kernel
theorem d_V_isThere_14 : decode b_V_isThere 14 = .ok (.aload_n 2, 1) := by decide +kernel
theorem d_V_isThere_15 : decode b_V_isThere 15 = .ok (.getfield 145, 3) := by decide +kernel
theorem d_V_isThere_18 : decode b_V_isThere 18 = .ok (.ifCond .ne 18, 3) := by decide +kernel
theorem d_V_isThere_21 : decode b_V_isThere 21 = .ok (.aload_n 2, 1) := by decide +kernel
theorem d_V_isThere_22 : decode b_V_isThere 22 = .ok (.aload_n 0, 1) := by decide +kernel
theorem d_V_isThere_23 : decode b_V_isThere 23 = .ok (.getfield 21, 3) := by decide +kernel
theorem d_V_isThere_26 : decode b_V_isThere 26 = .ok (.invokevirtual 193, 3) := by decide +kernel
theorem d_V_isThere_29 : decode b_V_isThere 29 = .ok (.ifCond .ne 7, 3) := by decide +kernel
theorem d_V_isThere_32 : decode b_V_isThere 32 = .ok (.iconst 1, 1) := by decide +kernel
theorem d_V_isThere_33 : decode b_V_isThere 33 = .ok (.goto 4, 3) := by decide +kernel
theorem d_V_isThere_36 : decode b_V_isThere 36 = .ok (.iconst 0, 1) := by decide +kernel
theorem d_V_isThere_37 : decode b_V_isThere 37 = .ok (.ireturn, 1) := by decide +kernel
-- BlockVault.isThere(I)Z: labels [0], loops []
abbrev rm_V_isThere : Room := { frames := 1, cells := 0, slots := 0, locals := 21 }
def cV_isThere_0 (X : Nat → xm_PT) (Rh : Option Value → xm_M → Prop) : xm_PT := (xo_aload 0 (xo_get 0 1 (xo_iload 1 (xo_aald ats (xo_get 4 0 (xo_astore 2 (xo_aload 2 (xo_null (xo_push (.int 0) (xo_zret Rh)) (xo_aload 2 (xo_get 1 6 (xo_if (fun x => x = 0) (xo_aload 2 (xo_aload 0 (xo_get 0 2 (xo_callV 1 1 0 0 cp_C_isExpired (xo_if (fun x => x = 0) (xo_push (.int 1) (xo_zret Rh)) (xo_push (.int 0) (xo_zret Rh))))))) (xo_push (.int 0) (xo_zret Rh)))))))))))))
def fV_isThere : xm_F := fun X Rh lb => if lb = 0 then cV_isThere_0 X Rh else fun _ _ _ _ _ => False
def cp_V_isThere : xm_CP := fun as m Rh => (lg_sl as).length ≤ 3 ∧ xm_cp fV_isThere 0 0 as m Rh
theorem eV_isThere_0 {X : Nat → xm_PT} {Rh : Option Value → xm_M → Prop} (hX : ∀ lb, xm_le (fV_isThere X Rh lb) (X lb)) {ls : xm_L} {st : List Value} {m : xm_M} {bc bs : Nat} (h : cV_isThere_0 X Rh ls st m bc bs) : X 0 ls st m bc bs := hX 0 ls st m bc bs h
set_option maxRecDepth 20000 in
set_option maxHeartbeats 4000000 in
theorem sV_isThere_0 {p : Program} {l : Launch} {e : Env} {s : State} {mm : MethodId} {args : Array Value} {below : List Frame} {meth : Method} {c : Code} {D : va_G} {A : Nat → Prop} {Rh : Option Value → xm_M → Prop} (C : xm_C p s mm args c b_V_isThere 3 "BlockVault" w_V_isThere D classes ats A) (hr : meth.sig.returnType = (some .boolean)) (hlk : meth.locks = false) (hnm : meth.name = "isThere") : xm_le (cV_isThere_0 (xm_A p l e rm_V_isThere s mm args below meth c 3 D classes A (MQ below (xm_Q D classes Rh A) args s 0 0 A)) Rh) ((xm_A p l e rm_V_isThere s mm args below meth c 3 D classes A (MQ below (xm_Q D classes Rh A) args s 0 0 A)) 0) :=
  (xs_aload_n C d_V_isThere_0 rfl (xs_get C (k := 1) d_V_isThere_1 h_V (ci := 0) rfl (by decide) (List.mem_cons_of_mem _ tw_82) rfl (xs_iload_n C d_V_isThere_4 rfl (xs_aald C d_V_isThere_5 (xs_get C (k := 0) d_V_isThere_6 h_E (ci := 4) rfl (by decide) (List.mem_cons_of_mem _ tw_69) rfl (xs_astore_n C d_V_isThere_9 rfl (by decide) (xs_aload_n C d_V_isThere_10 rfl (xs_ifnull C d_V_isThere_11 (by decide) (xs_iconst C d_V_isThere_36 (by decide) (xs_zret C d_V_isThere_37 hr hlk rfl rfl)) (xs_aload_n C d_V_isThere_14 rfl (xs_get C (k := 6) d_V_isThere_15 h_C (ci := 1) rfl (by decide) (List.mem_cons_of_mem _ tw_154) rfl (xs_if_ne C d_V_isThere_18 (by decide) (xs_aload_n C d_V_isThere_21 rfl (xs_aload_n C d_V_isThere_22 rfl (xs_get C (k := 2) d_V_isThere_23 h_V (ci := 0) rfl (by decide) (List.mem_cons_of_mem _ tw_83) rfl (xs_callV C (CN := "BlockVault$Copy") (T := F_C) (N := 7) d_V_isThere_26 (met_C_isExpired l D) ⟨callB_of (ws := w_C_isExpired) (rm := rm_C_isExpired) 1 C.1.2.2.2.2 (gG_m tw_127) rfl rfl rfl (C.1.2.2.2.2 _ (List.mem_cons_of_mem _ tw_6)) (C.1.2.2.2.2 _ (List.mem_cons_of_mem _ tw_124)) ⟨by decide, by decide, by decide +kernel⟩ ⟨Nat.le_of_ble_eq_true rfl, Nat.le_of_ble_eq_true rfl⟩, (C.1.2.2.2.2 _ (List.mem_cons_of_mem _ tw_125)), (C.1.2.2.2.2 _ (List.mem_cons_of_mem _ tw_126))⟩ (ci := 1) rfl (xs_if_ne C d_V_isThere_29 (by decide) (xs_iconst C d_V_isThere_32 (by decide) (xs_goto C d_V_isThere_33 (by decide) (xs_zret C d_V_isThere_37 hr hlk rfl rfl))) (xs_iconst C d_V_isThere_36 (by decide) (xs_zret C d_V_isThere_37 hr hlk rfl rfl))))))) (xs_iconst C d_V_isThere_36 (by decide) (xs_zret C d_V_isThere_37 hr hlk rfl rfl)))))))))))))
theorem met_V_isThere (l : Launch) (D : va_G) : xm_Met l D classes ats y_V_isThere w_V_isThere rm_V_isThere 0 0 cp_V_isThere := by
  refine xm_met 0 (by decide) rfl rfl rfl (fun p e s mm args below meth c A Rh C hr hlk hnm lb => ?_)
  unfold fV_isThere
  split
  · rename_i h; subst h; exact sV_isThere_0 C hr hlk hnm
  · exact fun _ _ _ _ _ h => h.elim
theorem d_V_ruleHolds_0 : decode b_V_ruleHolds 0 = .ok (.aload_n 0, 1) := by decide +kernel
theorem d_V_ruleHolds_1 : decode b_V_ruleHolds 1 = .ok (.iload_n 1, 1) := by decide +kernel
theorem d_V_ruleHolds_2 : decode b_V_ruleHolds 2 = .ok (.invokevirtual 58, 3) := by decide +kernel
theorem d_V_ruleHolds_5 : decode b_V_ruleHolds 5 = .ok (.istore_n 3, 1) := by decide +kernel
theorem d_V_ruleHolds_6 : decode b_V_ruleHolds 6 = .ok (.iload_n 2, 1) := by decide +kernel
theorem d_V_ruleHolds_7 : decode b_V_ruleHolds 7 = .ok (.tableswitch 39 (-3) (-1) #[37, 27, 25], 25) := by decide +kernel
theorem d_V_ruleHolds_32 : decode b_V_ruleHolds 32 = .ok (.iconst 1, 1) := by decide +kernel
theorem d_V_ruleHolds_33 : decode b_V_ruleHolds 33 = .ok (.ireturn, 1) := by decide +kernel
theorem d_V_ruleHolds_34 : decode b_V_ruleHolds 34 = .ok (.iload_n 3, 1) := by decide +kernel
theorem d_V_ruleHolds_35 : decode b_V_ruleHolds 35 = .ok (.ifCond .ne 7, 3) := by decide +kernel
theorem d_V_ruleHolds_38 : decode b_V_ruleHolds 38 = .ok (.iconst 1, 1) := by decide +kernel
theorem d_V_ruleHolds_39 : decode b_V_ruleHolds 39 = .ok (.goto 4, 3) := by decide +kernel
theorem d_V_ruleHolds_42 : decode b_V_ruleHolds 42 = .ok (.iconst 0, 1) := by decide +kernel
theorem d_V_ruleHolds_43 : decode b_V_ruleHolds 43 = .ok (.ireturn, 1) := by decide +kernel
theorem d_V_ruleHolds_44 : decode b_V_ruleHolds 44 = .ok (.iload_n 3, 1) := by decide +kernel
theorem d_V_ruleHolds_45 : decode b_V_ruleHolds 45 = .ok (.ireturn, 1) := by decide +kernel
theorem d_V_ruleHolds_46 : decode b_V_ruleHolds 46 = .ok (.iload_n 3, 1) := by decide +kernel
theorem d_V_ruleHolds_47 : decode b_V_ruleHolds 47 = .ok (.ifCond .eq 23, 3) := by decide +kernel
theorem d_V_ruleHolds_50 : decode b_V_ruleHolds 50 = .ok (.aload_n 0, 1) := by decide +kernel
theorem d_V_ruleHolds_51 : decode b_V_ruleHolds 51 = .ok (.getfield 17, 3) := by decide +kernel
theorem d_V_ruleHolds_54 : decode b_V_ruleHolds 54 = .ok (.iload_n 1, 1) := by decide +kernel
theorem d_V_ruleHolds_55 : decode b_V_ruleHolds 55 = .ok (.aaload, 1) := by decide +kernel
theorem d_V_ruleHolds_56 : decode b_V_ruleHolds 56 = .ok (.getfield 63, 3) := by decide +kernel
theorem d_V_ruleHolds_59 : decode b_V_ruleHolds 59 = .ok (.getfield 148, 3) := by decide +kernel
theorem d_V_ruleHolds_62 : decode b_V_ruleHolds 62 = .ok (.iload_n 2, 1) := by decide +kernel
theorem d_V_ruleHolds_63 : decode b_V_ruleHolds 63 = .ok (.if_icmp .ne 7, 3) := by decide +kernel
theorem d_V_ruleHolds_66 : decode b_V_ruleHolds 66 = .ok (.iconst 1, 1) := by decide +kernel
theorem d_V_ruleHolds_67 : decode b_V_ruleHolds 67 = .ok (.goto 4, 3) := by decide +kernel
theorem d_V_ruleHolds_70 : decode b_V_ruleHolds 70 = .ok (.iconst 0, 1) := by decide +kernel
theorem d_V_ruleHolds_71 : decode b_V_ruleHolds 71 = .ok (.ireturn, 1) := by decide +kernel
-- BlockVault.ruleHolds(II)Z: labels [0], loops []
abbrev rm_V_ruleHolds : Room := { frames := 2, cells := 0, slots := 0, locals := 43 }
def cV_ruleHolds_0 (X : Nat → xm_PT) (Rh : Option Value → xm_M → Prop) : xm_PT := (xo_aload 0 (xo_iload 1 (xo_callV 0 1 0 0 cp_V_isThere (xo_istore 3 (xo_iload 2 (xo_tsw (-3) [(xo_iload 3 (xo_zret Rh)), (xo_iload 3 (xo_if (fun x => x = 0) (xo_push (.int 1) (xo_zret Rh)) (xo_push (.int 0) (xo_zret Rh)))), (xo_push (.int 1) (xo_zret Rh))] (xo_iload 3 (xo_if (fun x => x = 0) (xo_push (.int 0) (xo_zret Rh)) (xo_aload 0 (xo_get 0 1 (xo_iload 1 (xo_aald ats (xo_get 4 0 (xo_get 1 3 (xo_iload 2 (xo_icmp (fun x y => x = y) (xo_push (.int 1) (xo_zret Rh)) (xo_push (.int 0) (xo_zret Rh))))))))))))))))))
def fV_ruleHolds : xm_F := fun X Rh lb => if lb = 0 then cV_ruleHolds_0 X Rh else fun _ _ _ _ _ => False
def cp_V_ruleHolds : xm_CP := fun as m Rh => (lg_sl as).length ≤ 4 ∧ xm_cp fV_ruleHolds 0 0 as m Rh
theorem eV_ruleHolds_0 {X : Nat → xm_PT} {Rh : Option Value → xm_M → Prop} (hX : ∀ lb, xm_le (fV_ruleHolds X Rh lb) (X lb)) {ls : xm_L} {st : List Value} {m : xm_M} {bc bs : Nat} (h : cV_ruleHolds_0 X Rh ls st m bc bs) : X 0 ls st m bc bs := hX 0 ls st m bc bs h
set_option maxRecDepth 20000 in
set_option maxHeartbeats 4000000 in
theorem sV_ruleHolds_0 {p : Program} {l : Launch} {e : Env} {s : State} {mm : MethodId} {args : Array Value} {below : List Frame} {meth : Method} {c : Code} {D : va_G} {A : Nat → Prop} {Rh : Option Value → xm_M → Prop} (C : xm_C p s mm args c b_V_ruleHolds 4 "BlockVault" w_V_ruleHolds D classes ats A) (hr : meth.sig.returnType = (some .boolean)) (hlk : meth.locks = false) (hnm : meth.name = "ruleHolds") : xm_le (cV_ruleHolds_0 (xm_A p l e rm_V_ruleHolds s mm args below meth c 4 D classes A (MQ below (xm_Q D classes Rh A) args s 0 0 A)) Rh) ((xm_A p l e rm_V_ruleHolds s mm args below meth c 4 D classes A (MQ below (xm_Q D classes Rh A) args s 0 0 A)) 0) :=
  (xs_aload_n C d_V_ruleHolds_0 rfl (xs_iload_n C d_V_ruleHolds_1 rfl (xs_callV C (CN := "BlockVault") (T := F_V) (N := 8) d_V_ruleHolds_2 (met_V_isThere l D) ⟨callB_of (ws := w_V_isThere) (rm := rm_V_isThere) 1 C.1.2.2.2.2 (gG_m tw_123) rfl rfl rfl (C.1.2.2.2.2 _ (List.mem_cons_of_mem _ tw_1)) (C.1.2.2.2.2 _ (List.mem_cons_of_mem _ tw_120)) ⟨by decide, by decide, by decide +kernel⟩ ⟨Nat.le_of_ble_eq_true rfl, Nat.le_of_ble_eq_true rfl⟩, (C.1.2.2.2.2 _ (List.mem_cons_of_mem _ tw_122)), (C.1.2.2.2.2 _ (List.mem_cons_of_mem _ ts_1))⟩ (ci := 0) rfl (xs_istore_n C d_V_ruleHolds_5 rfl (by decide) (xs_iload_n C d_V_ruleHolds_6 rfl (xs_tsw C d_V_ruleHolds_7 (by decide) ⟨⟨44, by decide, (xs_iload_n C d_V_ruleHolds_44 rfl (xs_zret C d_V_ruleHolds_45 hr hlk rfl rfl))⟩, ⟨⟨34, by decide, (xs_iload_n C d_V_ruleHolds_34 rfl (xs_if_ne C d_V_ruleHolds_35 (by decide) (xs_iconst C d_V_ruleHolds_38 (by decide) (xs_goto C d_V_ruleHolds_39 (by decide) (xs_zret C d_V_ruleHolds_43 hr hlk rfl rfl))) (xs_iconst C d_V_ruleHolds_42 (by decide) (xs_zret C d_V_ruleHolds_43 hr hlk rfl rfl))))⟩, ⟨⟨32, by decide, (xs_iconst C d_V_ruleHolds_32 (by decide) (xs_zret C d_V_ruleHolds_33 hr hlk rfl rfl))⟩, trivial⟩⟩⟩ (tgd := 46) (by decide) (xs_iload_n C d_V_ruleHolds_46 rfl (xs_if_eq C d_V_ruleHolds_47 (by decide) (xs_iconst C d_V_ruleHolds_70 (by decide) (xs_zret C d_V_ruleHolds_71 hr hlk rfl rfl)) (xs_aload_n C d_V_ruleHolds_50 rfl (xs_get C (k := 1) d_V_ruleHolds_51 h_V (ci := 0) rfl (by decide) (List.mem_cons_of_mem _ tw_82) rfl (xs_iload_n C d_V_ruleHolds_54 rfl (xs_aald C d_V_ruleHolds_55 (xs_get C (k := 0) d_V_ruleHolds_56 h_E (ci := 4) rfl (by decide) (List.mem_cons_of_mem _ tw_69) rfl (xs_get C (k := 3) d_V_ruleHolds_59 h_C (ci := 1) rfl (by decide) (List.mem_cons_of_mem _ tw_147) rfl (xs_iload_n C d_V_ruleHolds_62 rfl (xs_icmp_ne C d_V_ruleHolds_63 (by decide) (xs_iconst C d_V_ruleHolds_66 (by decide) (xs_goto C d_V_ruleHolds_67 (by decide) (xs_zret C d_V_ruleHolds_71 hr hlk rfl rfl))) (xs_iconst C d_V_ruleHolds_70 (by decide) (xs_zret C d_V_ruleHolds_71 hr hlk rfl rfl))))))))))))))))))
theorem met_V_ruleHolds (l : Launch) (D : va_G) : xm_Met l D classes ats y_V_ruleHolds w_V_ruleHolds rm_V_ruleHolds 0 0 cp_V_ruleHolds := by
  refine xm_met 0 (by decide) rfl rfl rfl (fun p e s mm args below meth c A Rh C hr hlk hnm lb => ?_)
  unfold fV_ruleHolds
  split
  · rename_i h; subst h; exact sV_ruleHolds_0 C hr hlk hnm
  · exact fun _ _ _ _ _ h => h.elim
theorem d_C_init_0 : decode b_C_init 0 = .ok (.aload_n 0, 1) := by decide +kernel
theorem d_C_init_1 : decode b_C_init 1 = .ok (.invokespecial 1, 3) := by decide +kernel
theorem d_C_init_4 : decode b_C_init 4 = .ok (.aload_n 0, 1) := by decide +kernel
theorem d_C_init_5 : decode b_C_init 5 = .ok (.iload_n 1, 1) := by decide +kernel
theorem d_C_init_6 : decode b_C_init 6 = .ok (.putfield 7, 3) := by decide +kernel
theorem d_C_init_9 : decode b_C_init 9 = .ok (.aload_n 0, 1) := by decide +kernel
theorem d_C_init_10 : decode b_C_init 10 = .ok (.iload_n 2, 1) := by decide +kernel
theorem d_C_init_11 : decode b_C_init 11 = .ok (.putfield 13, 3) := by decide +kernel
theorem d_C_init_14 : decode b_C_init 14 = .ok (.aload_n 0, 1) := by decide +kernel
theorem d_C_init_15 : decode b_C_init 15 = .ok (.iload_n 3, 1) := by decide +kernel
theorem d_C_init_16 : decode b_C_init 16 = .ok (.putfield 16, 3) := by decide +kernel
theorem d_C_init_19 : decode b_C_init 19 = .ok (.aload_n 0, 1) := by decide +kernel
theorem d_C_init_20 : decode b_C_init 20 = .ok (.iload 4, 2) := by decide +kernel
theorem d_C_init_22 : decode b_C_init 22 = .ok (.putfield 19, 3) := by decide +kernel
theorem d_C_init_25 : decode b_C_init 25 = .ok (.aload_n 0, 1) := by decide +kernel
theorem d_C_init_26 : decode b_C_init 26 = .ok (.iload 5, 2) := by decide +kernel
theorem d_C_init_28 : decode b_C_init 28 = .ok (.putfield 22, 3) := by decide +kernel
theorem d_C_init_31 : decode b_C_init 31 = .ok (.aload_n 0, 1) := by decide +kernel
theorem d_C_init_32 : decode b_C_init 32 = .ok (.iload 6, 2) := by decide +kernel
theorem d_C_init_34 : decode b_C_init 34 = .ok (.putfield 25, 3) := by decide +kernel
theorem d_C_init_37 : decode b_C_init 37 = .ok (.aload_n 0, 1) := by decide +kernel
theorem d_C_init_38 : decode b_C_init 38 = .ok (.iload 7, 2) := by decide +kernel
theorem d_C_init_40 : decode b_C_init 40 = .ok (.putfield 28, 3) := by decide +kernel
theorem d_C_init_43 : decode b_C_init 43 = .ok (.return_, 1) := by decide +kernel
-- BlockVault$Copy.<init>(IIIIIIZ)V: labels [0], loops []
abbrev rm_C_init : Room := { frames := 1, cells := 0, slots := 0, locals := 20 }
def cC_init_0 (X : Nat → xm_PT) (Rh : Option Value → xm_M → Prop) : xm_PT := (xo_aload 0 (xo_drop (xo_aload 0 (xo_iload 1 (xo_put 1 0 .int (xo_aload 0 (xo_iload 2 (xo_put 1 1 .int (xo_aload 0 (xo_iload 3 (xo_put 1 2 .int (xo_aload 0 (xo_iload 4 (xo_put 1 3 .int (xo_aload 0 (xo_iload 5 (xo_put 1 4 .int (xo_aload 0 (xo_iload 6 (xo_put 1 5 .int (xo_aload 0 (xo_iload 7 (xo_put 1 6 .boolean (xo_vret Rh))))))))))))))))))))))))
def fC_init : xm_F := fun X Rh lb => if lb = 0 then cC_init_0 X Rh else fun _ _ _ _ _ => False
def cp_C_init : xm_CP := fun as m Rh => (lg_sl as).length ≤ 8 ∧ xm_cp fC_init 0 0 as m Rh
theorem eC_init_0 {X : Nat → xm_PT} {Rh : Option Value → xm_M → Prop} (hX : ∀ lb, xm_le (fC_init X Rh lb) (X lb)) {ls : xm_L} {st : List Value} {m : xm_M} {bc bs : Nat} (h : cC_init_0 X Rh ls st m bc bs) : X 0 ls st m bc bs := hX 0 ls st m bc bs h
set_option maxRecDepth 20000 in
set_option maxHeartbeats 4000000 in
theorem sC_init_0 {p : Program} {l : Launch} {e : Env} {s : State} {mm : MethodId} {args : Array Value} {below : List Frame} {meth : Method} {c : Code} {D : va_G} {A : Nat → Prop} {Rh : Option Value → xm_M → Prop} (C : xm_C p s mm args c b_C_init 8 "BlockVault$Copy" w_C_init D classes ats A) (hr : meth.sig.returnType = none) (hlk : meth.locks = false) (hnm : meth.name = "<init>") : xm_le (cC_init_0 (xm_A p l e rm_C_init s mm args below meth c 8 D classes A (MQ below (xm_Q D classes Rh A) args s 0 0 A)) Rh) ((xm_A p l e rm_C_init s mm args below meth c 8 D classes A (MQ below (xm_Q D classes Rh A) args s 0 0 A)) 0) :=
  (xs_aload_n C d_C_init_0 rfl (xs_obj C d_C_init_1 (List.mem_cons_of_mem _ tw_137) (List.mem_cons_of_mem _ tw_15) (List.mem_cons_of_mem _ tw_16) (by decide) (by decide) (xs_aload_n C d_C_init_4 rfl (xs_iload_n C d_C_init_5 rfl (xs_putF C (k := 0) d_C_init_6 h_C t_C t_C_ok n_C (ci := 1) rfl (by decide) (List.mem_cons_of_mem _ tw_138) rfl rfl hnm rfl (by decide +kernel) (xs_aload_n C d_C_init_9 rfl (xs_iload_n C d_C_init_10 rfl (xs_putF C (k := 1) d_C_init_11 h_C t_C t_C_ok n_C (ci := 1) rfl (by decide) (List.mem_cons_of_mem _ tw_141) rfl rfl hnm rfl (by decide +kernel) (xs_aload_n C d_C_init_14 rfl (xs_iload_n C d_C_init_15 rfl (xs_putF C (k := 2) d_C_init_16 h_C t_C t_C_ok n_C (ci := 1) rfl (by decide) (List.mem_cons_of_mem _ tw_143) rfl rfl hnm rfl (by decide +kernel) (xs_aload_n C d_C_init_19 rfl (xs_iload C d_C_init_20 (xs_putF C (k := 3) d_C_init_22 h_C t_C t_C_ok n_C (ci := 1) rfl (by decide) (List.mem_cons_of_mem _ tw_146) rfl rfl hnm rfl (by decide +kernel) (xs_aload_n C d_C_init_25 rfl (xs_iload C d_C_init_26 (xs_putF C (k := 4) d_C_init_28 h_C t_C t_C_ok n_C (ci := 1) rfl (by decide) (List.mem_cons_of_mem _ tw_148) rfl rfl hnm rfl (by decide +kernel) (xs_aload_n C d_C_init_31 rfl (xs_iload C d_C_init_32 (xs_putF C (k := 5) d_C_init_34 h_C t_C t_C_ok n_C (ci := 1) rfl (by decide) (List.mem_cons_of_mem _ tw_150) rfl rfl hnm rfl (by decide +kernel) (xs_aload_n C d_C_init_37 rfl (xs_iload C d_C_init_38 (xs_putF C (k := 6) d_C_init_40 h_C t_C t_C_ok n_C (ci := 1) rfl (by decide) (List.mem_cons_of_mem _ tw_153) rfl rfl hnm rfl (by decide +kernel) (xs_vret C d_C_init_43 hr hlk rfl rfl))))))))))))))))))))))))
theorem met_C_init (l : Launch) (D : va_G) : xm_Met l D classes ats y_C_init w_C_init rm_C_init 0 0 cp_C_init := by
  refine xm_met 0 (by decide) rfl rfl rfl (fun p e s mm args below meth c A Rh C hr hlk hnm lb => ?_)
  unfold fC_init
  split
  · rename_i h; subst h; exact sC_init_0 C hr hlk hnm
  · exact fun _ _ _ _ _ h => h.elim
theorem d_V_leastInState_0 : decode b_V_leastInState 0 = .ok (.iconst 0, 1) := by decide +kernel
theorem d_V_leastInState_1 : decode b_V_leastInState 1 = .ok (.istore_n 2, 1) := by decide +kernel
theorem d_V_leastInState_2 : decode b_V_leastInState 2 = .ok (.iload_n 2, 1) := by decide +kernel
theorem d_V_leastInState_3 : decode b_V_leastInState 3 = .ok (.bipush 8, 2) := by decide +kernel
theorem d_V_leastInState_5 : decode b_V_leastInState 5 = .ok (.if_icmp .ge 24, 3) := by decide +kernel
theorem d_V_leastInState_8 : decode b_V_leastInState 8 = .ok (.aload_n 0, 1) := by decide +kernel
theorem d_V_leastInState_9 : decode b_V_leastInState 9 = .ok (.getfield 11, 3) := by decide +kernel
theorem d_V_leastInState_12 : decode b_V_leastInState 12 = .ok (.iload_n 2, 1) := by decide +kernel
theorem d_V_leastInState_13 : decode b_V_leastInState 13 = .ok (.aaload, 1) := by decide +kernel
theorem d_V_leastInState_14 : decode b_V_leastInState 14 = .ok (.getfield 166, 3) := by decide +kernel
theorem d_V_leastInState_17 : decode b_V_leastInState 17 = .ok (.iload_n 1, 1) := by decide +kernel
theorem d_V_leastInState_18 : decode b_V_leastInState 18 = .ok (.if_icmp .ne 5, 3) := by decide +kernel
theorem d_V_leastInState_21 : decode b_V_leastInState 21 = .ok (.iload_n 2, 1) := by decide +kernel
theorem d_V_leastInState_22 : decode b_V_leastInState 22 = .ok (.ireturn, 1) := by decide +kernel
theorem d_V_leastInState_23 : decode b_V_leastInState 23 = .ok (.iinc 2 1, 3) := by decide +kernel
theorem d_V_leastInState_26 : decode b_V_leastInState 26 = .ok (.goto (-24), 3) := by decide +kernel
theorem d_V_leastInState_29 : decode b_V_leastInState 29 = .ok (.iconst (-1), 1) := by decide +kernel
theorem d_V_leastInState_30 : decode b_V_leastInState 30 = .ok (.ireturn, 1) := by decide +kernel
-- BlockVault.leastInState(I)I: labels [0, 2], loops [2]
abbrev rm_V_leastInState : Room := { frames := 0, cells := 0, slots := 0, locals := 0 }
def cV_leastInState_2 (X : Nat → xm_PT) (Rh : Option Value → xm_M → Prop) : xm_PT := (xo_iload 2 (xo_push (.int (nI 8)) (xo_icmp (fun x y => y ≤ x) (xo_push (.int (-1)) (xo_iret Rh)) (xo_aload 0 (xo_get 0 0 (xo_iload 2 (xo_aald ats (xo_get 3 2 (xo_iload 1 (xo_icmp (fun x y => x = y) (xo_iload 2 (xo_iret Rh)) (xo_iinc 2 1 (xo_jmp [0, 1, 2] (X 2)))))))))))))
def cV_leastInState_0 (X : Nat → xm_PT) (Rh : Option Value → xm_M → Prop) : xm_PT := (xo_push (.int 0) (xo_istore 2 (xo_jmp [0, 1, 2] (X 2))))
def fV_leastInState : xm_F := fun X Rh lb => if lb = 0 then cV_leastInState_0 X Rh else (if lb = 2 then cV_leastInState_2 X Rh else fun _ _ _ _ _ => False)
def cp_V_leastInState : xm_CP := fun as m Rh => (lg_sl as).length ≤ 3 ∧ xm_cp fV_leastInState 0 0 as m Rh
theorem eV_leastInState_0 {X : Nat → xm_PT} {Rh : Option Value → xm_M → Prop} (hX : ∀ lb, xm_le (fV_leastInState X Rh lb) (X lb)) {ls : xm_L} {st : List Value} {m : xm_M} {bc bs : Nat} (h : cV_leastInState_0 X Rh ls st m bc bs) : X 0 ls st m bc bs := hX 0 ls st m bc bs h
theorem eV_leastInState_2 {X : Nat → xm_PT} {Rh : Option Value → xm_M → Prop} (hX : ∀ lb, xm_le (fV_leastInState X Rh lb) (X lb)) {ls : xm_L} {st : List Value} {m : xm_M} {bc bs : Nat} (h : cV_leastInState_2 X Rh ls st m bc bs) : X 2 ls st m bc bs := hX 2 ls st m bc bs h
set_option maxRecDepth 20000 in
set_option maxHeartbeats 4000000 in
theorem sV_leastInState_2 {p : Program} {l : Launch} {e : Env} {s : State} {mm : MethodId} {args : Array Value} {below : List Frame} {meth : Method} {c : Code} {D : va_G} {A : Nat → Prop} {Rh : Option Value → xm_M → Prop} (C : xm_C p s mm args c b_V_leastInState 3 "BlockVault" w_V_leastInState D classes ats A) (hr : meth.sig.returnType = (some .int)) (hlk : meth.locks = false) (hnm : meth.name = "leastInState") : xm_le (cV_leastInState_2 (xm_A p l e rm_V_leastInState s mm args below meth c 3 D classes A (MQ below (xm_Q D classes Rh A) args s 0 0 A)) Rh) ((xm_A p l e rm_V_leastInState s mm args below meth c 3 D classes A (MQ below (xm_Q D classes Rh A) args s 0 0 A)) 2) :=
  (xs_iload_n C d_V_leastInState_2 rfl (xs_bipush C d_V_leastInState_3 (by decide) (xs_icmp_ge C d_V_leastInState_5 (by decide) (xs_iconst C d_V_leastInState_29 (by decide) (xs_iret C d_V_leastInState_30 hr hlk rfl rfl)) (xs_aload_n C d_V_leastInState_8 rfl (xs_get C (k := 0) d_V_leastInState_9 h_V (ci := 0) rfl (by decide) (List.mem_cons_of_mem _ tw_81) rfl (xs_iload_n C d_V_leastInState_12 rfl (xs_aald C d_V_leastInState_13 (xs_get C (k := 2) d_V_leastInState_14 h_B (ci := 3) rfl (by decide) (List.mem_cons_of_mem _ tw_47) rfl (xs_iload_n C d_V_leastInState_17 rfl (xs_icmp_ne C d_V_leastInState_18 (by decide) (xs_iload_n C d_V_leastInState_21 rfl (xs_iret C d_V_leastInState_22 hr hlk rfl rfl)) (xs_iinc C d_V_leastInState_23 (by decide) (by decide) (xs_goto C d_V_leastInState_26 (by decide) (xs_jmp (fun _ _ _ _ _ h => h))))))))))))))
set_option maxRecDepth 20000 in
set_option maxHeartbeats 4000000 in
theorem sV_leastInState_0 {p : Program} {l : Launch} {e : Env} {s : State} {mm : MethodId} {args : Array Value} {below : List Frame} {meth : Method} {c : Code} {D : va_G} {A : Nat → Prop} {Rh : Option Value → xm_M → Prop} (C : xm_C p s mm args c b_V_leastInState 3 "BlockVault" w_V_leastInState D classes ats A) (hr : meth.sig.returnType = (some .int)) (hlk : meth.locks = false) (hnm : meth.name = "leastInState") : xm_le (cV_leastInState_0 (xm_A p l e rm_V_leastInState s mm args below meth c 3 D classes A (MQ below (xm_Q D classes Rh A) args s 0 0 A)) Rh) ((xm_A p l e rm_V_leastInState s mm args below meth c 3 D classes A (MQ below (xm_Q D classes Rh A) args s 0 0 A)) 0) :=
  (xs_iconst C d_V_leastInState_0 (by decide) (xs_istore_n C d_V_leastInState_1 rfl (by decide) (xs_jmp (fun _ _ _ _ _ h => h))))
theorem met_V_leastInState (l : Launch) (D : va_G) : xm_Met l D classes ats y_V_leastInState w_V_leastInState rm_V_leastInState 0 0 cp_V_leastInState := by
  refine xm_met 0 (by decide) rfl rfl rfl (fun p e s mm args below meth c A Rh C hr hlk hnm lb => ?_)
  unfold fV_leastInState
  split
  · rename_i h; subst h; exact sV_leastInState_0 C hr hlk hnm
  split
  · rename_i h; subst h; exact sV_leastInState_2 C hr hlk hnm
  · exact fun _ _ _ _ _ h => h.elim
theorem d_R_sizes_0 : decode b_R_sizes 0 = .ok (.iconst 0, 1) := by decide +kernel
theorem d_R_sizes_1 : decode b_R_sizes 1 = .ok (.istore_n 1, 1) := by decide +kernel
theorem d_R_sizes_2 : decode b_R_sizes 2 = .ok (.iconst 0, 1) := by decide +kernel
theorem d_R_sizes_3 : decode b_R_sizes 3 = .ok (.istore_n 2, 1) := by decide +kernel
theorem d_R_sizes_4 : decode b_R_sizes 4 = .ok (.iload_n 2, 1) := by decide +kernel
theorem d_R_sizes_5 : decode b_R_sizes 5 = .ok (.aload_n 0, 1) := by decide +kernel
theorem d_R_sizes_6 : decode b_R_sizes 6 = .ok (.getfield 17, 3) := by decide +kernel
theorem d_R_sizes_9 : decode b_R_sizes 9 = .ok (.if_icmp .ge 21, 3) := by decide +kernel
theorem d_R_sizes_12 : decode b_R_sizes 12 = .ok (.iload_n 1, 1) := by decide +kernel
theorem d_R_sizes_13 : decode b_R_sizes 13 = .ok (.aload_n 0, 1) := by decide +kernel
theorem d_R_sizes_14 : decode b_R_sizes 14 = .ok (.getfield 11, 3) := by decide +kernel
theorem d_R_sizes_17 : decode b_R_sizes 17 = .ok (.iload_n 2, 1) := by decide +kernel
theorem d_R_sizes_18 : decode b_R_sizes 18 = .ok (.aaload, 1) := by decide +kernel
theorem d_R_sizes_19 : decode b_R_sizes 19 = .ok (.getfield 28, 3) := by decide +kernel
theorem d_R_sizes_22 : decode b_R_sizes 22 = .ok (.iadd, 1) := by decide +kernel
theorem d_R_sizes_23 : decode b_R_sizes 23 = .ok (.istore_n 1, 1) := by decide +kernel
theorem d_R_sizes_24 : decode b_R_sizes 24 = .ok (.iinc 2 1, 3) := by decide +kernel
theorem d_R_sizes_27 : decode b_R_sizes 27 = .ok (.goto (-23), 3) := by decide +kernel
theorem d_R_sizes_30 : decode b_R_sizes 30 = .ok (.iload_n 1, 1) := by decide +kernel
theorem d_R_sizes_31 : decode b_R_sizes 31 = .ok (.ireturn, 1) := by decide +kernel
-- BlockVault$Row.sizes()I: labels [0, 4], loops [4]
abbrev rm_R_sizes : Room := { frames := 0, cells := 0, slots := 0, locals := 0 }
def cR_sizes_4 (X : Nat → xm_PT) (Rh : Option Value → xm_M → Prop) : xm_PT := (xo_iload 2 (xo_aload 0 (xo_get 2 1 (xo_icmp (fun x y => y ≤ x) (xo_iload 1 (xo_iret Rh)) (xo_iload 1 (xo_aload 0 (xo_get 2 0 (xo_iload 2 (xo_aald ats (xo_get 1 2 (xo_ibin (fun x y => x + y) (xo_istore 1 (xo_iinc 2 1 (xo_jmp [0, 1, 2] (X 4)))))))))))))))
def cR_sizes_0 (X : Nat → xm_PT) (Rh : Option Value → xm_M → Prop) : xm_PT := (xo_push (.int 0) (xo_istore 1 (xo_push (.int 0) (xo_istore 2 (xo_jmp [0, 1, 2] (X 4))))))
def fR_sizes : xm_F := fun X Rh lb => if lb = 0 then cR_sizes_0 X Rh else (if lb = 4 then cR_sizes_4 X Rh else fun _ _ _ _ _ => False)
def cp_R_sizes : xm_CP := fun as m Rh => (lg_sl as).length ≤ 3 ∧ xm_cp fR_sizes 0 0 as m Rh
theorem eR_sizes_0 {X : Nat → xm_PT} {Rh : Option Value → xm_M → Prop} (hX : ∀ lb, xm_le (fR_sizes X Rh lb) (X lb)) {ls : xm_L} {st : List Value} {m : xm_M} {bc bs : Nat} (h : cR_sizes_0 X Rh ls st m bc bs) : X 0 ls st m bc bs := hX 0 ls st m bc bs h
theorem eR_sizes_4 {X : Nat → xm_PT} {Rh : Option Value → xm_M → Prop} (hX : ∀ lb, xm_le (fR_sizes X Rh lb) (X lb)) {ls : xm_L} {st : List Value} {m : xm_M} {bc bs : Nat} (h : cR_sizes_4 X Rh ls st m bc bs) : X 4 ls st m bc bs := hX 4 ls st m bc bs h
set_option maxRecDepth 20000 in
set_option maxHeartbeats 4000000 in
theorem sR_sizes_4 {p : Program} {l : Launch} {e : Env} {s : State} {mm : MethodId} {args : Array Value} {below : List Frame} {meth : Method} {c : Code} {D : va_G} {A : Nat → Prop} {Rh : Option Value → xm_M → Prop} (C : xm_C p s mm args c b_R_sizes 3 "BlockVault$Row" w_R_sizes D classes ats A) (hr : meth.sig.returnType = (some .int)) (hlk : meth.locks = false) (hnm : meth.name = "sizes") : xm_le (cR_sizes_4 (xm_A p l e rm_R_sizes s mm args below meth c 3 D classes A (MQ below (xm_Q D classes Rh A) args s 0 0 A)) Rh) ((xm_A p l e rm_R_sizes s mm args below meth c 3 D classes A (MQ below (xm_Q D classes Rh A) args s 0 0 A)) 4) :=
  (xs_iload_n C d_R_sizes_4 rfl (xs_aload_n C d_R_sizes_5 rfl (xs_get C (k := 1) d_R_sizes_6 h_R (ci := 2) rfl (by decide) (List.mem_cons_of_mem _ tw_35) rfl (xs_icmp_ge C d_R_sizes_9 (by decide) (xs_iload_n C d_R_sizes_30 rfl (xs_iret C d_R_sizes_31 hr hlk rfl rfl)) (xs_iload_n C d_R_sizes_12 rfl (xs_aload_n C d_R_sizes_13 rfl (xs_get C (k := 0) d_R_sizes_14 h_R (ci := 2) rfl (by decide) (List.mem_cons_of_mem _ tw_34) rfl (xs_iload_n C d_R_sizes_17 rfl (xs_aald C d_R_sizes_18 (xs_get C (k := 2) d_R_sizes_19 h_C (ci := 1) rfl (by decide) (List.mem_cons_of_mem _ tw_145) rfl (xs_iadd C d_R_sizes_22 (xs_istore_n C d_R_sizes_23 rfl (by decide) (xs_iinc C d_R_sizes_24 (by decide) (by decide) (xs_goto C d_R_sizes_27 (by decide) (xs_jmp (fun _ _ _ _ _ h => h))))))))))))))))
set_option maxRecDepth 20000 in
set_option maxHeartbeats 4000000 in
theorem sR_sizes_0 {p : Program} {l : Launch} {e : Env} {s : State} {mm : MethodId} {args : Array Value} {below : List Frame} {meth : Method} {c : Code} {D : va_G} {A : Nat → Prop} {Rh : Option Value → xm_M → Prop} (C : xm_C p s mm args c b_R_sizes 3 "BlockVault$Row" w_R_sizes D classes ats A) (hr : meth.sig.returnType = (some .int)) (hlk : meth.locks = false) (hnm : meth.name = "sizes") : xm_le (cR_sizes_0 (xm_A p l e rm_R_sizes s mm args below meth c 3 D classes A (MQ below (xm_Q D classes Rh A) args s 0 0 A)) Rh) ((xm_A p l e rm_R_sizes s mm args below meth c 3 D classes A (MQ below (xm_Q D classes Rh A) args s 0 0 A)) 0) :=
  (xs_iconst C d_R_sizes_0 (by decide) (xs_istore_n C d_R_sizes_1 rfl (by decide) (xs_iconst C d_R_sizes_2 (by decide) (xs_istore_n C d_R_sizes_3 rfl (by decide) (xs_jmp (fun _ _ _ _ _ h => h))))))
theorem met_R_sizes (l : Launch) (D : va_G) : xm_Met l D classes ats y_R_sizes w_R_sizes rm_R_sizes 0 0 cp_R_sizes := by
  refine xm_met 0 (by decide) rfl rfl rfl (fun p e s mm args below meth c A Rh C hr hlk hnm lb => ?_)
  unfold fR_sizes
  split
  · rename_i h; subst h; exact sR_sizes_0 C hr hlk hnm
  split
  · rename_i h; subst h; exact sR_sizes_4 C hr hlk hnm
  · exact fun _ _ _ _ _ h => h.elim
theorem d_V_countInState_0 : decode b_V_countInState 0 = .ok (.iconst 0, 1) := by decide +kernel
theorem d_V_countInState_1 : decode b_V_countInState 1 = .ok (.istore_n 2, 1) := by decide +kernel
theorem d_V_countInState_2 : decode b_V_countInState 2 = .ok (.iconst 0, 1) := by decide +kernel
theorem d_V_countInState_3 : decode b_V_countInState 3 = .ok (.istore_n 3, 1) := by decide +kernel
theorem d_V_countInState_4 : decode b_V_countInState 4 = .ok (.iload_n 3, 1) := by decide +kernel
theorem d_V_countInState_5 : decode b_V_countInState 5 = .ok (.bipush 8, 2) := by decide +kernel
theorem d_V_countInState_7 : decode b_V_countInState 7 = .ok (.if_icmp .ge 25, 3) := by decide +kernel
theorem d_V_countInState_10 : decode b_V_countInState 10 = .ok (.aload_n 0, 1) := by decide +kernel
theorem d_V_countInState_11 : decode b_V_countInState 11 = .ok (.getfield 11, 3) := by decide +kernel
theorem d_V_countInState_14 : decode b_V_countInState 14 = .ok (.iload_n 3, 1) := by decide +kernel
theorem d_V_countInState_15 : decode b_V_countInState 15 = .ok (.aaload, 1) := by decide +kernel
theorem d_V_countInState_16 : decode b_V_countInState 16 = .ok (.getfield 166, 3) := by decide +kernel
theorem d_V_countInState_19 : decode b_V_countInState 19 = .ok (.iload_n 1, 1) := by decide +kernel
theorem d_V_countInState_20 : decode b_V_countInState 20 = .ok (.if_icmp .ne 6, 3) := by decide +kernel
theorem d_V_countInState_23 : decode b_V_countInState 23 = .ok (.iinc 2 1, 3) := by decide +kernel
theorem d_V_countInState_26 : decode b_V_countInState 26 = .ok (.iinc 3 1, 3) := by decide +kernel
theorem d_V_countInState_29 : decode b_V_countInState 29 = .ok (.goto (-25), 3) := by decide +kernel
theorem d_V_countInState_32 : decode b_V_countInState 32 = .ok (.iload_n 2, 1) := by decide +kernel
theorem d_V_countInState_33 : decode b_V_countInState 33 = .ok (.ireturn, 1) := by decide +kernel
-- BlockVault.countInState(I)I: labels [0, 4], loops [4]
abbrev rm_V_countInState : Room := { frames := 0, cells := 0, slots := 0, locals := 0 }
def cV_countInState_4 (X : Nat → xm_PT) (Rh : Option Value → xm_M → Prop) : xm_PT := (xo_iload 3 (xo_push (.int (nI 8)) (xo_icmp (fun x y => y ≤ x) (xo_iload 2 (xo_iret Rh)) (xo_aload 0 (xo_get 0 0 (xo_iload 3 (xo_aald ats (xo_get 3 2 (xo_iload 1 (xo_icmp (fun x y => x = y) (xo_iinc 2 1 (xo_iinc 3 1 (xo_jmp [0, 1, 2, 3] (X 4)))) (xo_iinc 3 1 (xo_jmp [0, 1, 2, 3] (X 4)))))))))))))
def cV_countInState_0 (X : Nat → xm_PT) (Rh : Option Value → xm_M → Prop) : xm_PT := (xo_push (.int 0) (xo_istore 2 (xo_push (.int 0) (xo_istore 3 (xo_jmp [0, 1, 2, 3] (X 4))))))
def fV_countInState : xm_F := fun X Rh lb => if lb = 0 then cV_countInState_0 X Rh else (if lb = 4 then cV_countInState_4 X Rh else fun _ _ _ _ _ => False)
def cp_V_countInState : xm_CP := fun as m Rh => (lg_sl as).length ≤ 4 ∧ xm_cp fV_countInState 0 0 as m Rh
theorem eV_countInState_0 {X : Nat → xm_PT} {Rh : Option Value → xm_M → Prop} (hX : ∀ lb, xm_le (fV_countInState X Rh lb) (X lb)) {ls : xm_L} {st : List Value} {m : xm_M} {bc bs : Nat} (h : cV_countInState_0 X Rh ls st m bc bs) : X 0 ls st m bc bs := hX 0 ls st m bc bs h
theorem eV_countInState_4 {X : Nat → xm_PT} {Rh : Option Value → xm_M → Prop} (hX : ∀ lb, xm_le (fV_countInState X Rh lb) (X lb)) {ls : xm_L} {st : List Value} {m : xm_M} {bc bs : Nat} (h : cV_countInState_4 X Rh ls st m bc bs) : X 4 ls st m bc bs := hX 4 ls st m bc bs h
set_option maxRecDepth 20000 in
set_option maxHeartbeats 4000000 in
theorem sV_countInState_4 {p : Program} {l : Launch} {e : Env} {s : State} {mm : MethodId} {args : Array Value} {below : List Frame} {meth : Method} {c : Code} {D : va_G} {A : Nat → Prop} {Rh : Option Value → xm_M → Prop} (C : xm_C p s mm args c b_V_countInState 4 "BlockVault" w_V_countInState D classes ats A) (hr : meth.sig.returnType = (some .int)) (hlk : meth.locks = false) (hnm : meth.name = "countInState") : xm_le (cV_countInState_4 (xm_A p l e rm_V_countInState s mm args below meth c 4 D classes A (MQ below (xm_Q D classes Rh A) args s 0 0 A)) Rh) ((xm_A p l e rm_V_countInState s mm args below meth c 4 D classes A (MQ below (xm_Q D classes Rh A) args s 0 0 A)) 4) :=
  (xs_iload_n C d_V_countInState_4 rfl (xs_bipush C d_V_countInState_5 (by decide) (xs_icmp_ge C d_V_countInState_7 (by decide) (xs_iload_n C d_V_countInState_32 rfl (xs_iret C d_V_countInState_33 hr hlk rfl rfl)) (xs_aload_n C d_V_countInState_10 rfl (xs_get C (k := 0) d_V_countInState_11 h_V (ci := 0) rfl (by decide) (List.mem_cons_of_mem _ tw_81) rfl (xs_iload_n C d_V_countInState_14 rfl (xs_aald C d_V_countInState_15 (xs_get C (k := 2) d_V_countInState_16 h_B (ci := 3) rfl (by decide) (List.mem_cons_of_mem _ tw_47) rfl (xs_iload_n C d_V_countInState_19 rfl (xs_icmp_ne C d_V_countInState_20 (by decide) (xs_iinc C d_V_countInState_23 (by decide) (by decide) (xs_iinc C d_V_countInState_26 (by decide) (by decide) (xs_goto C d_V_countInState_29 (by decide) (xs_jmp (fun _ _ _ _ _ h => h))))) (xs_iinc C d_V_countInState_26 (by decide) (by decide) (xs_goto C d_V_countInState_29 (by decide) (xs_jmp (fun _ _ _ _ _ h => h))))))))))))))
set_option maxRecDepth 20000 in
set_option maxHeartbeats 4000000 in
theorem sV_countInState_0 {p : Program} {l : Launch} {e : Env} {s : State} {mm : MethodId} {args : Array Value} {below : List Frame} {meth : Method} {c : Code} {D : va_G} {A : Nat → Prop} {Rh : Option Value → xm_M → Prop} (C : xm_C p s mm args c b_V_countInState 4 "BlockVault" w_V_countInState D classes ats A) (hr : meth.sig.returnType = (some .int)) (hlk : meth.locks = false) (hnm : meth.name = "countInState") : xm_le (cV_countInState_0 (xm_A p l e rm_V_countInState s mm args below meth c 4 D classes A (MQ below (xm_Q D classes Rh A) args s 0 0 A)) Rh) ((xm_A p l e rm_V_countInState s mm args below meth c 4 D classes A (MQ below (xm_Q D classes Rh A) args s 0 0 A)) 0) :=
  (xs_iconst C d_V_countInState_0 (by decide) (xs_istore_n C d_V_countInState_1 rfl (by decide) (xs_iconst C d_V_countInState_2 (by decide) (xs_istore_n C d_V_countInState_3 rfl (by decide) (xs_jmp (fun _ _ _ _ _ h => h))))))
theorem met_V_countInState (l : Launch) (D : va_G) : xm_Met l D classes ats y_V_countInState w_V_countInState rm_V_countInState 0 0 cp_V_countInState := by
  refine xm_met 0 (by decide) rfl rfl rfl (fun p e s mm args below meth c A Rh C hr hlk hnm lb => ?_)
  unfold fV_countInState
  split
  · rename_i h; subst h; exact sV_countInState_0 C hr hlk hnm
  split
  · rename_i h; subst h; exact sV_countInState_4 C hr hlk hnm
  · exact fun _ _ _ _ _ h => h.elim
theorem d_V_sealBlock_0 : decode b_V_sealBlock 0 = .ok (.aload_n 0, 1) := by decide +kernel
theorem d_V_sealBlock_1 : decode b_V_sealBlock 1 = .ok (.getfield 11, 3) := by decide +kernel
theorem d_V_sealBlock_4 : decode b_V_sealBlock 4 = .ok (.iload_n 1, 1) := by decide +kernel
theorem d_V_sealBlock_5 : decode b_V_sealBlock 5 = .ok (.aaload, 1) := by decide +kernel
theorem d_V_sealBlock_6 : decode b_V_sealBlock 6 = .ok (.iconst 2, 1) := by decide +kernel
theorem d_V_sealBlock_7 : decode b_V_sealBlock 7 = .ok (.putfield 166, 3) := by decide +kernel
theorem d_V_sealBlock_10 : decode b_V_sealBlock 10 = .ok (.aload_n 0, 1) := by decide +kernel
theorem d_V_sealBlock_11 : decode b_V_sealBlock 11 = .ok (.getfield 11, 3) := by decide +kernel
theorem d_V_sealBlock_14 : decode b_V_sealBlock 14 = .ok (.iload_n 1, 1) := by decide +kernel
theorem d_V_sealBlock_15 : decode b_V_sealBlock 15 = .ok (.aaload, 1) := by decide +kernel
theorem d_V_sealBlock_16 : decode b_V_sealBlock 16 = .ok (.aload_n 0, 1) := by decide +kernel
theorem d_V_sealBlock_17 : decode b_V_sealBlock 17 = .ok (.getfield 28, 3) := by decide +kernel
theorem d_V_sealBlock_20 : decode b_V_sealBlock 20 = .ok (.putfield 223, 3) := by decide +kernel
theorem d_V_sealBlock_23 : decode b_V_sealBlock 23 = .ok (.aload_n 0, 1) := by decide +kernel
theorem d_V_sealBlock_24 : decode b_V_sealBlock 24 = .ok (.dup, 1) := by decide +kernel
theorem d_V_sealBlock_25 : decode b_V_sealBlock 25 = .ok (.getfield 28, 3) := by decide +kernel
theorem d_V_sealBlock_28 : decode b_V_sealBlock 28 = .ok (.iconst 1, 1) := by decide +kernel
theorem d_V_sealBlock_29 : decode b_V_sealBlock 29 = .ok (.iadd, 1) := by decide +kernel
theorem d_V_sealBlock_30 : decode b_V_sealBlock 30 = .ok (.putfield 28, 3) := by decide +kernel
theorem d_V_sealBlock_33 : decode b_V_sealBlock 33 = .ok (.return_, 1) := by decide +kernel
-- BlockVault.sealBlock(I)V: labels [0], loops []
abbrev rm_V_sealBlock : Room := { frames := 0, cells := 0, slots := 0, locals := 0 }
def cV_sealBlock_0 (X : Nat → xm_PT) (Rh : Option Value → xm_M → Prop) : xm_PT := (xo_aload 0 (xo_get 0 0 (xo_iload 1 (xo_aald ats (xo_push (.int (nI 2)) (xo_put 3 2 .int (xo_aload 0 (xo_get 0 0 (xo_iload 1 (xo_aald ats (xo_aload 0 (xo_get 0 4 (xo_put 3 3 .int (xo_aload 0 (xo_dup (xo_get 0 4 (xo_push (.int 1) (xo_ibin (fun x y => x + y) (xo_put 0 4 .int (xo_vret Rh))))))))))))))))))))
def fV_sealBlock : xm_F := fun X Rh lb => if lb = 0 then cV_sealBlock_0 X Rh else fun _ _ _ _ _ => False
def cp_V_sealBlock : xm_CP := fun as m Rh => (lg_sl as).length ≤ 2 ∧ xm_cp fV_sealBlock 0 0 as m Rh
theorem eV_sealBlock_0 {X : Nat → xm_PT} {Rh : Option Value → xm_M → Prop} (hX : ∀ lb, xm_le (fV_sealBlock X Rh lb) (X lb)) {ls : xm_L} {st : List Value} {m : xm_M} {bc bs : Nat} (h : cV_sealBlock_0 X Rh ls st m bc bs) : X 0 ls st m bc bs := hX 0 ls st m bc bs h
set_option maxRecDepth 20000 in
set_option maxHeartbeats 4000000 in
theorem sV_sealBlock_0 {p : Program} {l : Launch} {e : Env} {s : State} {mm : MethodId} {args : Array Value} {below : List Frame} {meth : Method} {c : Code} {D : va_G} {A : Nat → Prop} {Rh : Option Value → xm_M → Prop} (C : xm_C p s mm args c b_V_sealBlock 2 "BlockVault" w_V_sealBlock D classes ats A) (hr : meth.sig.returnType = none) (hlk : meth.locks = false) (hnm : meth.name = "sealBlock") : xm_le (cV_sealBlock_0 (xm_A p l e rm_V_sealBlock s mm args below meth c 2 D classes A (MQ below (xm_Q D classes Rh A) args s 0 0 A)) Rh) ((xm_A p l e rm_V_sealBlock s mm args below meth c 2 D classes A (MQ below (xm_Q D classes Rh A) args s 0 0 A)) 0) :=
  (xs_aload_n C d_V_sealBlock_0 rfl (xs_get C (k := 0) d_V_sealBlock_1 h_V (ci := 0) rfl (by decide) (List.mem_cons_of_mem _ tw_81) rfl (xs_iload_n C d_V_sealBlock_4 rfl (xs_aald C d_V_sealBlock_5 (xs_iconst C d_V_sealBlock_6 (by decide) (xs_put C (k := 2) d_V_sealBlock_7 h_B t_B t_B_ok n_B (ci := 3) rfl (by decide) (List.mem_cons_of_mem _ tw_47) rfl rfl (by decide +kernel) (xs_aload_n C d_V_sealBlock_10 rfl (xs_get C (k := 0) d_V_sealBlock_11 h_V (ci := 0) rfl (by decide) (List.mem_cons_of_mem _ tw_81) rfl (xs_iload_n C d_V_sealBlock_14 rfl (xs_aald C d_V_sealBlock_15 (xs_aload_n C d_V_sealBlock_16 rfl (xs_get C (k := 4) d_V_sealBlock_17 h_V (ci := 0) rfl (by decide) (List.mem_cons_of_mem _ tw_85) rfl (xs_put C (k := 3) d_V_sealBlock_20 h_B t_B t_B_ok n_B (ci := 3) rfl (by decide) (List.mem_cons_of_mem _ tw_49) rfl rfl (by decide +kernel) (xs_aload_n C d_V_sealBlock_23 rfl (xs_dup C d_V_sealBlock_24 (xs_get C (k := 4) d_V_sealBlock_25 h_V (ci := 0) rfl (by decide) (List.mem_cons_of_mem _ tw_85) rfl (xs_iconst C d_V_sealBlock_28 (by decide) (xs_iadd C d_V_sealBlock_29 (xs_put C (k := 4) d_V_sealBlock_30 h_V t_V t_V_ok n_V (ci := 0) rfl (by decide) (List.mem_cons_of_mem _ tw_85) rfl rfl (by decide +kernel) (xs_vret C d_V_sealBlock_33 hr hlk rfl rfl))))))))))))))))))))
theorem met_V_sealBlock (l : Launch) (D : va_G) : xm_Met l D classes ats y_V_sealBlock w_V_sealBlock rm_V_sealBlock 0 0 cp_V_sealBlock := by
  refine xm_met 0 (by decide) rfl rfl rfl (fun p e s mm args below meth c A Rh C hr hlk hnm lb => ?_)
  unfold fV_sealBlock
  split
  · rename_i h; subst h; exact sV_sealBlock_0 C hr hlk hnm
  · exact fun _ _ _ _ _ h => h.elim
theorem d_V_currentWithRoom_0 : decode b_V_currentWithRoom 0 = .ok (.aload_n 0, 1) := by decide +kernel
theorem d_V_currentWithRoom_1 : decode b_V_currentWithRoom 1 = .ok (.iconst 1, 1) := by decide +kernel
theorem d_V_currentWithRoom_2 : decode b_V_currentWithRoom 2 = .ok (.invokevirtual 90, 3) := by decide +kernel
theorem d_V_currentWithRoom_5 : decode b_V_currentWithRoom 5 = .ok (.istore_n 2, 1) := by decide +kernel
theorem d_V_currentWithRoom_6 : decode b_V_currentWithRoom 6 = .ok (.iload_n 2, 1) := by decide +kernel
theorem d_V_currentWithRoom_7 : decode b_V_currentWithRoom 7 = .ok (.iconst (-1), 1) := by decide +kernel
theorem d_V_currentWithRoom_8 : decode b_V_currentWithRoom 8 = .ok (.if_icmp .eq 24, 3) := by decide +kernel
theorem d_V_currentWithRoom_11 : decode b_V_currentWithRoom 11 = .ok (.aload_n 0, 1) := by decide +kernel
theorem d_V_currentWithRoom_12 : decode b_V_currentWithRoom 12 = .ok (.getfield 11, 3) := by decide +kernel
theorem d_V_currentWithRoom_15 : decode b_V_currentWithRoom 15 = .ok (.iload_n 2, 1) := by decide +kernel
theorem d_V_currentWithRoom_16 : decode b_V_currentWithRoom 16 = .ok (.aaload, 1) := by decide +kernel
theorem d_V_currentWithRoom_17 : decode b_V_currentWithRoom 17 = .ok (.getfield 111, 3) := by decide +kernel
theorem d_V_currentWithRoom_20 : decode b_V_currentWithRoom 20 = .ok (.invokevirtual 172, 3) := by decide +kernel
theorem d_V_currentWithRoom_23 : decode b_V_currentWithRoom 23 = .ok (.iload_n 1, 1) := by decide +kernel
theorem d_V_currentWithRoom_24 : decode b_V_currentWithRoom 24 = .ok (.iadd, 1) := by decide +kernel
theorem d_V_currentWithRoom_25 : decode b_V_currentWithRoom 25 = .ok (.bipush 12, 2) := by decide +kernel
theorem d_V_currentWithRoom_27 : decode b_V_currentWithRoom 27 = .ok (.if_icmp .gt 5, 3) := by decide +kernel
theorem d_V_currentWithRoom_30 : decode b_V_currentWithRoom 30 = .ok (.iload_n 2, 1) := by decide +kernel
theorem d_V_currentWithRoom_31 : decode b_V_currentWithRoom 31 = .ok (.ireturn, 1) := by decide +kernel
theorem d_V_currentWithRoom_32 : decode b_V_currentWithRoom 32 = .ok (.iload_n 2, 1) := by decide +kernel
theorem d_V_currentWithRoom_33 : decode b_V_currentWithRoom 33 = .ok (.iconst (-1), 1) := by decide +kernel
theorem d_V_currentWithRoom_34 : decode b_V_currentWithRoom 34 = .ok (.if_icmp .eq 15, 3) := by decide +kernel
theorem d_V_currentWithRoom_37 : decode b_V_currentWithRoom 37 = .ok (.aload_n 0, 1) := by decide +kernel
theorem d_V_currentWithRoom_38 : decode b_V_currentWithRoom 38 = .ok (.iconst 2, 1) := by decide +kernel
theorem d_V_currentWithRoom_39 : decode b_V_currentWithRoom 39 = .ok (.invokevirtual 93, 3) := by decide +kernel
theorem d_V_currentWithRoom_42 : decode b_V_currentWithRoom 42 = .ok (.iconst 3, 1) := by decide +kernel
theorem d_V_currentWithRoom_43 : decode b_V_currentWithRoom 43 = .ok (.if_icmp .lt 6, 3) := by decide +kernel
theorem d_V_currentWithRoom_46 : decode b_V_currentWithRoom 46 = .ok (.bipush (-5), 2) := by decide +kernel
theorem d_V_currentWithRoom_48 : decode b_V_currentWithRoom 48 = .ok (.ireturn, 1) := by decide +kernel
theorem d_V_currentWithRoom_49 : decode b_V_currentWithRoom 49 = .ok (.aload_n 0, 1) := by decide +kernel
theorem d_V_currentWithRoom_50 : decode b_V_currentWithRoom 50 = .ok (.iconst 0, 1) := by decide +kernel
theorem d_V_currentWithRoom_51 : decode b_V_currentWithRoom 51 = .ok (.invokevirtual 90, 3) := by decide +kernel
theorem d_V_currentWithRoom_54 : decode b_V_currentWithRoom 54 = .ok (.istore_n 3, 1) := by decide +kernel
theorem d_V_currentWithRoom_55 : decode b_V_currentWithRoom 55 = .ok (.iload_n 3, 1) := by decide +kernel
theorem d_V_currentWithRoom_56 : decode b_V_currentWithRoom 56 = .ok (.iconst (-1), 1) := by decide +kernel
theorem d_V_currentWithRoom_57 : decode b_V_currentWithRoom 57 = .ok (.if_icmp .ne 6, 3) := by decide +kernel
theorem d_V_currentWithRoom_60 : decode b_V_currentWithRoom 60 = .ok (.bipush (-6), 2) := by decide +kernel
theorem d_V_currentWithRoom_62 : decode b_V_currentWithRoom 62 = .ok (.ireturn, 1) := by decide +kernel
theorem d_V_currentWithRoom_63 : decode b_V_currentWithRoom 63 = .ok (.iload_n 2, 1) := by decide +kernel
theorem d_V_currentWithRoom_64 : decode b_V_currentWithRoom 64 = .ok (.iconst (-1), 1) := by decide +kernel
theorem d_V_currentWithRoom_65 : decode b_V_currentWithRoom 65 = .ok (.if_icmp .eq 8, 3) := by decide +kernel
theorem d_V_currentWithRoom_68 : decode b_V_currentWithRoom 68 = .ok (.aload_n 0, 1) := by decide +kernel
theorem d_V_currentWithRoom_69 : decode b_V_currentWithRoom 69 = .ok (.iload_n 2, 1) := by decide +kernel
theorem d_V_currentWithRoom_70 : decode b_V_currentWithRoom 70 = .ok (.invokevirtual 96, 3) := by decide +kernel
theorem d_V_currentWithRoom_73 : decode b_V_currentWithRoom 73 = .ok (.aload_n 0, 1) := by decide +kernel
theorem d_V_currentWithRoom_74 : decode b_V_currentWithRoom 74 = .ok (.getfield 11, 3) := by decide +kernel
theorem d_V_currentWithRoom_77 : decode b_V_currentWithRoom 77 = .ok (.iload_n 3, 1) := by decide +kernel
theorem d_V_currentWithRoom_78 : decode b_V_currentWithRoom 78 = .ok (.aaload, 1) := by decide +kernel
theorem d_V_currentWithRoom_79 : decode b_V_currentWithRoom 79 = .ok (.iconst 1, 1) := by decide +kernel
theorem d_V_currentWithRoom_80 : decode b_V_currentWithRoom 80 = .ok (.putfield 166, 3) := by decide +kernel
theorem d_V_currentWithRoom_83 : decode b_V_currentWithRoom 83 = .ok (.iload_n 3, 1) := by decide +kernel
theorem d_V_currentWithRoom_84 : decode b_V_currentWithRoom 84 = .ok (.ireturn, 1) := by decide +kernel
-- BlockVault.currentWithRoom(I)I: labels [0, 32, 49, 73], loops []
abbrev rm_V_currentWithRoom : Room := { frames := 1, cells := 0, slots := 0, locals := 23 }
def cV_currentWithRoom_73 (X : Nat → xm_PT) (Rh : Option Value → xm_M → Prop) : xm_PT := (xo_aload 0 (xo_get 0 0 (xo_iload 3 (xo_aald ats (xo_push (.int 1) (xo_put 3 2 .int (xo_iload 3 (xo_iret Rh))))))))
def cV_currentWithRoom_49 (X : Nat → xm_PT) (Rh : Option Value → xm_M → Prop) : xm_PT := (xo_aload 0 (xo_push (.int 0) (xo_callV 0 1 0 0 cp_V_leastInState (xo_istore 3 (xo_iload 3 (xo_push (.int (-1)) (xo_icmp (fun x y => x = y) (xo_push (.int (-6)) (xo_iret Rh)) (xo_iload 2 (xo_push (.int (-1)) (xo_icmp (fun x y => x = y) (xo_jmp [0, 3] (cV_currentWithRoom_73 X Rh)) (xo_aload 0 (xo_iload 2 (xo_callV 0 1 0 0 cp_V_sealBlock (xo_jmp [0, 3] (cV_currentWithRoom_73 X Rh)))))))))))))))
def cV_currentWithRoom_32 (X : Nat → xm_PT) (Rh : Option Value → xm_M → Prop) : xm_PT := (xo_iload 2 (xo_push (.int (-1)) (xo_icmp (fun x y => x = y) (xo_jmp [0, 2] (cV_currentWithRoom_49 X Rh)) (xo_aload 0 (xo_push (.int (nI 2)) (xo_callV 0 1 0 0 cp_V_countInState (xo_push (.int (nI 3)) (xo_icmp (fun x y => x < y) (xo_jmp [0, 2] (cV_currentWithRoom_49 X Rh)) (xo_push (.int (-5)) (xo_iret Rh))))))))))
def cV_currentWithRoom_0 (X : Nat → xm_PT) (Rh : Option Value → xm_M → Prop) : xm_PT := (xo_aload 0 (xo_push (.int 1) (xo_callV 0 1 0 0 cp_V_leastInState (xo_istore 2 (xo_iload 2 (xo_push (.int (-1)) (xo_icmp (fun x y => x = y) (xo_jmp [0, 2] (cV_currentWithRoom_32 X Rh)) (xo_aload 0 (xo_get 0 0 (xo_iload 2 (xo_aald ats (xo_get 3 0 (xo_callV 2 0 0 0 cp_R_sizes (xo_iload 1 (xo_ibin (fun x y => x + y) (xo_push (.int (nI 12)) (xo_icmp (fun x y => y < x) (xo_jmp [0, 2] (cV_currentWithRoom_32 X Rh)) (xo_iload 2 (xo_iret Rh)))))))))))))))))))
def fV_currentWithRoom : xm_F := fun X Rh lb => if lb = 0 then cV_currentWithRoom_0 X Rh else fun _ _ _ _ _ => False
def cp_V_currentWithRoom : xm_CP := fun as m Rh => (lg_sl as).length ≤ 4 ∧ xm_cp fV_currentWithRoom 0 0 as m Rh
theorem eV_currentWithRoom_0 {X : Nat → xm_PT} {Rh : Option Value → xm_M → Prop} (hX : ∀ lb, xm_le (fV_currentWithRoom X Rh lb) (X lb)) {ls : xm_L} {st : List Value} {m : xm_M} {bc bs : Nat} (h : cV_currentWithRoom_0 X Rh ls st m bc bs) : X 0 ls st m bc bs := hX 0 ls st m bc bs h
set_option maxRecDepth 20000 in
set_option maxHeartbeats 4000000 in
theorem sV_currentWithRoom_73 {p : Program} {l : Launch} {e : Env} {s : State} {mm : MethodId} {args : Array Value} {below : List Frame} {meth : Method} {c : Code} {D : va_G} {A : Nat → Prop} {Rh : Option Value → xm_M → Prop} (C : xm_C p s mm args c b_V_currentWithRoom 4 "BlockVault" w_V_currentWithRoom D classes ats A) (hr : meth.sig.returnType = (some .int)) (hlk : meth.locks = false) (hnm : meth.name = "currentWithRoom") : xm_le (cV_currentWithRoom_73 (xm_A p l e rm_V_currentWithRoom s mm args below meth c 4 D classes A (MQ below (xm_Q D classes Rh A) args s 0 0 A)) Rh) ((xm_A p l e rm_V_currentWithRoom s mm args below meth c 4 D classes A (MQ below (xm_Q D classes Rh A) args s 0 0 A)) 73) :=
  (xs_aload_n C d_V_currentWithRoom_73 rfl (xs_get C (k := 0) d_V_currentWithRoom_74 h_V (ci := 0) rfl (by decide) (List.mem_cons_of_mem _ tw_81) rfl (xs_iload_n C d_V_currentWithRoom_77 rfl (xs_aald C d_V_currentWithRoom_78 (xs_iconst C d_V_currentWithRoom_79 (by decide) (xs_put C (k := 2) d_V_currentWithRoom_80 h_B t_B t_B_ok n_B (ci := 3) rfl (by decide) (List.mem_cons_of_mem _ tw_47) rfl rfl (by decide +kernel) (xs_iload_n C d_V_currentWithRoom_83 rfl (xs_iret C d_V_currentWithRoom_84 hr hlk rfl rfl))))))))
set_option maxRecDepth 20000 in
set_option maxHeartbeats 4000000 in
theorem sV_currentWithRoom_49 {p : Program} {l : Launch} {e : Env} {s : State} {mm : MethodId} {args : Array Value} {below : List Frame} {meth : Method} {c : Code} {D : va_G} {A : Nat → Prop} {Rh : Option Value → xm_M → Prop} (C : xm_C p s mm args c b_V_currentWithRoom 4 "BlockVault" w_V_currentWithRoom D classes ats A) (hr : meth.sig.returnType = (some .int)) (hlk : meth.locks = false) (hnm : meth.name = "currentWithRoom") : xm_le (cV_currentWithRoom_49 (xm_A p l e rm_V_currentWithRoom s mm args below meth c 4 D classes A (MQ below (xm_Q D classes Rh A) args s 0 0 A)) Rh) ((xm_A p l e rm_V_currentWithRoom s mm args below meth c 4 D classes A (MQ below (xm_Q D classes Rh A) args s 0 0 A)) 49) :=
  (xs_aload_n C d_V_currentWithRoom_49 rfl (xs_iconst C d_V_currentWithRoom_50 (by decide) (xs_callV C (CN := "BlockVault") (T := F_V) (N := 8) d_V_currentWithRoom_51 (met_V_leastInState l D) ⟨callB_of (ws := w_V_leastInState) (rm := rm_V_leastInState) 1 C.1.2.2.2.2 (gG_m tw_185) rfl rfl rfl (C.1.2.2.2.2 _ (List.mem_cons_of_mem _ tw_1)) (C.1.2.2.2.2 _ (List.mem_cons_of_mem _ tw_182)) ⟨by decide, by decide, by decide +kernel⟩ ⟨Nat.le_of_ble_eq_true rfl, Nat.le_of_ble_eq_true rfl⟩, (C.1.2.2.2.2 _ (List.mem_cons_of_mem _ tw_184)), (C.1.2.2.2.2 _ (List.mem_cons_of_mem _ ts_6))⟩ (ci := 0) rfl (xs_istore_n C d_V_currentWithRoom_54 rfl (by decide) (xs_iload_n C d_V_currentWithRoom_55 rfl (xs_iconst C d_V_currentWithRoom_56 (by decide) (xs_icmp_ne C d_V_currentWithRoom_57 (by decide) (xs_bipush C d_V_currentWithRoom_60 (by decide) (xs_iret C d_V_currentWithRoom_62 hr hlk rfl rfl)) (xs_iload_n C d_V_currentWithRoom_63 rfl (xs_iconst C d_V_currentWithRoom_64 (by decide) (xs_icmp_eq C d_V_currentWithRoom_65 (by decide) (xs_jmp (sV_currentWithRoom_73 C hr hlk hnm)) (xs_aload_n C d_V_currentWithRoom_68 rfl (xs_iload_n C d_V_currentWithRoom_69 rfl (xs_callV C (CN := "BlockVault") (T := F_V) (N := 8) d_V_currentWithRoom_70 (met_V_sealBlock l D) ⟨callB_of (ws := w_V_sealBlock) (rm := rm_V_sealBlock) 1 C.1.2.2.2.2 (gG_m tw_197) rfl rfl rfl (C.1.2.2.2.2 _ (List.mem_cons_of_mem _ tw_1)) (C.1.2.2.2.2 _ (List.mem_cons_of_mem _ tw_194)) ⟨by decide, by decide, by decide +kernel⟩ ⟨Nat.le_of_ble_eq_true rfl, Nat.le_of_ble_eq_true rfl⟩, (C.1.2.2.2.2 _ (List.mem_cons_of_mem _ tw_196)), (C.1.2.2.2.2 _ (List.mem_cons_of_mem _ ts_8))⟩ (ci := 0) rfl (xs_jmp (sV_currentWithRoom_73 C hr hlk hnm)))))))))))))))
set_option maxRecDepth 20000 in
set_option maxHeartbeats 4000000 in
theorem sV_currentWithRoom_32 {p : Program} {l : Launch} {e : Env} {s : State} {mm : MethodId} {args : Array Value} {below : List Frame} {meth : Method} {c : Code} {D : va_G} {A : Nat → Prop} {Rh : Option Value → xm_M → Prop} (C : xm_C p s mm args c b_V_currentWithRoom 4 "BlockVault" w_V_currentWithRoom D classes ats A) (hr : meth.sig.returnType = (some .int)) (hlk : meth.locks = false) (hnm : meth.name = "currentWithRoom") : xm_le (cV_currentWithRoom_32 (xm_A p l e rm_V_currentWithRoom s mm args below meth c 4 D classes A (MQ below (xm_Q D classes Rh A) args s 0 0 A)) Rh) ((xm_A p l e rm_V_currentWithRoom s mm args below meth c 4 D classes A (MQ below (xm_Q D classes Rh A) args s 0 0 A)) 32) :=
  (xs_iload_n C d_V_currentWithRoom_32 rfl (xs_iconst C d_V_currentWithRoom_33 (by decide) (xs_icmp_eq C d_V_currentWithRoom_34 (by decide) (xs_jmp (sV_currentWithRoom_49 C hr hlk hnm)) (xs_aload_n C d_V_currentWithRoom_37 rfl (xs_iconst C d_V_currentWithRoom_38 (by decide) (xs_callV C (CN := "BlockVault") (T := F_V) (N := 8) d_V_currentWithRoom_39 (met_V_countInState l D) ⟨callB_of (ws := w_V_countInState) (rm := rm_V_countInState) 1 C.1.2.2.2.2 (gG_m tw_193) rfl rfl rfl (C.1.2.2.2.2 _ (List.mem_cons_of_mem _ tw_1)) (C.1.2.2.2.2 _ (List.mem_cons_of_mem _ tw_190)) ⟨by decide, by decide, by decide +kernel⟩ ⟨Nat.le_of_ble_eq_true rfl, Nat.le_of_ble_eq_true rfl⟩, (C.1.2.2.2.2 _ (List.mem_cons_of_mem _ tw_192)), (C.1.2.2.2.2 _ (List.mem_cons_of_mem _ ts_7))⟩ (ci := 0) rfl (xs_iconst C d_V_currentWithRoom_42 (by decide) (xs_icmp_lt C d_V_currentWithRoom_43 (by decide) (xs_jmp (sV_currentWithRoom_49 C hr hlk hnm)) (xs_bipush C d_V_currentWithRoom_46 (by decide) (xs_iret C d_V_currentWithRoom_48 hr hlk rfl rfl))))))))))
set_option maxRecDepth 20000 in
set_option maxHeartbeats 4000000 in
theorem sV_currentWithRoom_0 {p : Program} {l : Launch} {e : Env} {s : State} {mm : MethodId} {args : Array Value} {below : List Frame} {meth : Method} {c : Code} {D : va_G} {A : Nat → Prop} {Rh : Option Value → xm_M → Prop} (C : xm_C p s mm args c b_V_currentWithRoom 4 "BlockVault" w_V_currentWithRoom D classes ats A) (hr : meth.sig.returnType = (some .int)) (hlk : meth.locks = false) (hnm : meth.name = "currentWithRoom") : xm_le (cV_currentWithRoom_0 (xm_A p l e rm_V_currentWithRoom s mm args below meth c 4 D classes A (MQ below (xm_Q D classes Rh A) args s 0 0 A)) Rh) ((xm_A p l e rm_V_currentWithRoom s mm args below meth c 4 D classes A (MQ below (xm_Q D classes Rh A) args s 0 0 A)) 0) :=
  (xs_aload_n C d_V_currentWithRoom_0 rfl (xs_iconst C d_V_currentWithRoom_1 (by decide) (xs_callV C (CN := "BlockVault") (T := F_V) (N := 8) d_V_currentWithRoom_2 (met_V_leastInState l D) ⟨callB_of (ws := w_V_leastInState) (rm := rm_V_leastInState) 1 C.1.2.2.2.2 (gG_m tw_185) rfl rfl rfl (C.1.2.2.2.2 _ (List.mem_cons_of_mem _ tw_1)) (C.1.2.2.2.2 _ (List.mem_cons_of_mem _ tw_182)) ⟨by decide, by decide, by decide +kernel⟩ ⟨Nat.le_of_ble_eq_true rfl, Nat.le_of_ble_eq_true rfl⟩, (C.1.2.2.2.2 _ (List.mem_cons_of_mem _ tw_184)), (C.1.2.2.2.2 _ (List.mem_cons_of_mem _ ts_6))⟩ (ci := 0) rfl (xs_istore_n C d_V_currentWithRoom_5 rfl (by decide) (xs_iload_n C d_V_currentWithRoom_6 rfl (xs_iconst C d_V_currentWithRoom_7 (by decide) (xs_icmp_eq C d_V_currentWithRoom_8 (by decide) (xs_jmp (sV_currentWithRoom_32 C hr hlk hnm)) (xs_aload_n C d_V_currentWithRoom_11 rfl (xs_get C (k := 0) d_V_currentWithRoom_12 h_V (ci := 0) rfl (by decide) (List.mem_cons_of_mem _ tw_81) rfl (xs_iload_n C d_V_currentWithRoom_15 rfl (xs_aald C d_V_currentWithRoom_16 (xs_get C (k := 0) d_V_currentWithRoom_17 h_B (ci := 3) rfl (by decide) (List.mem_cons_of_mem _ tw_43) rfl (xs_callV C (CN := "BlockVault$Row") (T := F_R) (N := 2) d_V_currentWithRoom_20 (met_R_sizes l D) ⟨callB_of (ws := w_R_sizes) (rm := rm_R_sizes) 0 C.1.2.2.2.2 (gG_m tw_189) rfl rfl rfl (C.1.2.2.2.2 _ (List.mem_cons_of_mem _ tw_3)) (C.1.2.2.2.2 _ (List.mem_cons_of_mem _ tw_186)) ⟨by decide, by decide, by decide +kernel⟩ ⟨Nat.le_of_ble_eq_true rfl, Nat.le_of_ble_eq_true rfl⟩, (C.1.2.2.2.2 _ (List.mem_cons_of_mem _ tw_187)), (C.1.2.2.2.2 _ (List.mem_cons_of_mem _ tw_188))⟩ (ci := 2) rfl (xs_iload_n C d_V_currentWithRoom_23 rfl (xs_iadd C d_V_currentWithRoom_24 (xs_bipush C d_V_currentWithRoom_25 (by decide) (xs_icmp_gt C d_V_currentWithRoom_27 (by decide) (xs_jmp (sV_currentWithRoom_32 C hr hlk hnm)) (xs_iload_n C d_V_currentWithRoom_30 rfl (xs_iret C d_V_currentWithRoom_31 hr hlk rfl rfl)))))))))))))))))))
theorem met_V_currentWithRoom (l : Launch) (D : va_G) : xm_Met l D classes ats y_V_currentWithRoom w_V_currentWithRoom rm_V_currentWithRoom 0 0 cp_V_currentWithRoom := by
  refine xm_met 0 (by decide) rfl rfl rfl (fun p e s mm args below meth c A Rh C hr hlk hnm lb => ?_)
  unfold fV_currentWithRoom
  split
  · rename_i h; subst h; exact sV_currentWithRoom_0 C hr hlk hnm
  · exact fun _ _ _ _ _ h => h.elim
theorem d_R_add_0 : decode b_R_add 0 = .ok (.aload_n 1, 1) := by decide +kernel
theorem d_R_add_1 : decode b_R_add 1 = .ok (.ifnull 32, 3) := by decide +kernel
theorem d_R_add_4 : decode b_R_add 4 = .ok (.aload_n 0, 1) := by decide +kernel
theorem d_R_add_5 : decode b_R_add 5 = .ok (.getfield 17, 3) := by decide +kernel
theorem d_R_add_8 : decode b_R_add 8 = .ok (.bipush 12, 2) := by decide +kernel
theorem d_R_add_10 : decode b_R_add 10 = .ok (.if_icmp .ge 23, 3) := by decide +kernel
theorem d_R_add_13 : decode b_R_add 13 = .ok (.aload_n 0, 1) := by decide +kernel
theorem d_R_add_14 : decode b_R_add 14 = .ok (.getfield 11, 3) := by decide +kernel
theorem d_R_add_17 : decode b_R_add 17 = .ok (.aload_n 0, 1) := by decide +kernel
theorem d_R_add_18 : decode b_R_add 18 = .ok (.getfield 17, 3) := by decide +kernel
theorem d_R_add_21 : decode b_R_add 21 = .ok (.aload_n 1, 1) := by decide +kernel
theorem d_R_add_22 : decode b_R_add 22 = .ok (.aastore, 1) := by decide +kernel
theorem d_R_add_23 : decode b_R_add 23 = .ok (.aload_n 0, 1) := by decide +kernel
theorem d_R_add_24 : decode b_R_add 24 = .ok (.dup, 1) := by decide +kernel
theorem d_R_add_25 : decode b_R_add 25 = .ok (.getfield 17, 3) := by decide +kernel
theorem d_R_add_28 : decode b_R_add 28 = .ok (.iconst 1, 1) := by decide +kernel
theorem d_R_add_29 : decode b_R_add 29 = .ok (.iadd, 1) := by decide +kernel
theorem d_R_add_30 : decode b_R_add 30 = .ok (.putfield 17, 3) := by decide +kernel
theorem d_R_add_33 : decode b_R_add 33 = .ok (.return_, 1) := by decide +kernel
-- BlockVault$Row.add(LBlockVault$Copy;)V: labels [0], loops []
abbrev rm_R_add : Room := { frames := 0, cells := 0, slots := 0, locals := 0 }
def cR_add_0 (X : Nat → xm_PT) (Rh : Option Value → xm_M → Prop) : xm_PT := (xo_aload 1 (xo_null (xo_vret Rh) (xo_aload 0 (xo_get 2 1 (xo_push (.int (nI 12)) (xo_icmp (fun x y => y ≤ x) (xo_vret Rh) (xo_aload 0 (xo_get 2 0 (xo_aload 0 (xo_get 2 1 (xo_aload 1 (xo_aast ats classes (xo_aload 0 (xo_dup (xo_get 2 1 (xo_push (.int 1) (xo_ibin (fun x y => x + y) (xo_put 2 1 .int (xo_vret Rh)))))))))))))))))))
def fR_add : xm_F := fun X Rh lb => if lb = 0 then cR_add_0 X Rh else fun _ _ _ _ _ => False
def cp_R_add : xm_CP := fun as m Rh => (lg_sl as).length ≤ 2 ∧ xm_cp fR_add 0 0 as m Rh
theorem eR_add_0 {X : Nat → xm_PT} {Rh : Option Value → xm_M → Prop} (hX : ∀ lb, xm_le (fR_add X Rh lb) (X lb)) {ls : xm_L} {st : List Value} {m : xm_M} {bc bs : Nat} (h : cR_add_0 X Rh ls st m bc bs) : X 0 ls st m bc bs := hX 0 ls st m bc bs h
set_option maxRecDepth 20000 in
set_option maxHeartbeats 4000000 in
theorem sR_add_0 {p : Program} {l : Launch} {e : Env} {s : State} {mm : MethodId} {args : Array Value} {below : List Frame} {meth : Method} {c : Code} {D : va_G} {A : Nat → Prop} {Rh : Option Value → xm_M → Prop} (C : xm_C p s mm args c b_R_add 2 "BlockVault$Row" w_R_add D classes ats A) (hr : meth.sig.returnType = none) (hlk : meth.locks = false) (hnm : meth.name = "add") : xm_le (cR_add_0 (xm_A p l e rm_R_add s mm args below meth c 2 D classes A (MQ below (xm_Q D classes Rh A) args s 0 0 A)) Rh) ((xm_A p l e rm_R_add s mm args below meth c 2 D classes A (MQ below (xm_Q D classes Rh A) args s 0 0 A)) 0) :=
  (xs_aload_n C d_R_add_0 rfl (xs_ifnull C d_R_add_1 (by decide) (xs_vret C d_R_add_33 hr hlk rfl rfl) (xs_aload_n C d_R_add_4 rfl (xs_get C (k := 1) d_R_add_5 h_R (ci := 2) rfl (by decide) (List.mem_cons_of_mem _ tw_35) rfl (xs_bipush C d_R_add_8 (by decide) (xs_icmp_ge C d_R_add_10 (by decide) (xs_vret C d_R_add_33 hr hlk rfl rfl) (xs_aload_n C d_R_add_13 rfl (xs_get C (k := 0) d_R_add_14 h_R (ci := 2) rfl (by decide) (List.mem_cons_of_mem _ tw_34) rfl (xs_aload_n C d_R_add_17 rfl (xs_get C (k := 1) d_R_add_18 h_R (ci := 2) rfl (by decide) (List.mem_cons_of_mem _ tw_35) rfl (xs_aload_n C d_R_add_21 rfl (xs_aast C d_R_add_22 (xs_aload_n C d_R_add_23 rfl (xs_dup C d_R_add_24 (xs_get C (k := 1) d_R_add_25 h_R (ci := 2) rfl (by decide) (List.mem_cons_of_mem _ tw_35) rfl (xs_iconst C d_R_add_28 (by decide) (xs_iadd C d_R_add_29 (xs_put C (k := 1) d_R_add_30 h_R t_R t_R_ok n_R (ci := 2) rfl (by decide) (List.mem_cons_of_mem _ tw_35) rfl rfl (by decide +kernel) (xs_vret C d_R_add_33 hr hlk rfl rfl)))))))))))))))))))
theorem met_R_add (l : Launch) (D : va_G) : xm_Met l D classes ats y_R_add w_R_add rm_R_add 0 0 cp_R_add := by
  refine xm_met 0 (by decide) rfl rfl rfl (fun p e s mm args below meth c A Rh C hr hlk hnm lb => ?_)
  unfold fR_add
  split
  · rename_i h; subst h; exact sR_add_0 C hr hlk hnm
  · exact fun _ _ _ _ _ h => h.elim
theorem d_E_point_0 : decode b_E_point 0 = .ok (.aload_n 0, 1) := by decide +kernel
theorem d_E_point_1 : decode b_E_point 1 = .ok (.aload_n 1, 1) := by decide +kernel
theorem d_E_point_2 : decode b_E_point 2 = .ok (.putfield 9, 3) := by decide +kernel
theorem d_E_point_5 : decode b_E_point 5 = .ok (.aload_n 0, 1) := by decide +kernel
theorem d_E_point_6 : decode b_E_point 6 = .ok (.iload_n 2, 1) := by decide +kernel
theorem d_E_point_7 : decode b_E_point 7 = .ok (.putfield 15, 3) := by decide +kernel
theorem d_E_point_10 : decode b_E_point 10 = .ok (.aload_n 0, 1) := by decide +kernel
theorem d_E_point_11 : decode b_E_point 11 = .ok (.iload_n 3, 1) := by decide +kernel
theorem d_E_point_12 : decode b_E_point 12 = .ok (.putfield 19, 3) := by decide +kernel
theorem d_E_point_15 : decode b_E_point 15 = .ok (.return_, 1) := by decide +kernel
-- BlockVault$Entry.point(LBlockVault$Copy;II)V: labels [0], loops []
abbrev rm_E_point : Room := { frames := 0, cells := 0, slots := 0, locals := 0 }
def cE_point_0 (X : Nat → xm_PT) (Rh : Option Value → xm_M → Prop) : xm_PT := (xo_aload 0 (xo_aload 1 (xo_put 4 0 (.object "BlockVault$Copy") (xo_aload 0 (xo_iload 2 (xo_put 4 1 .int (xo_aload 0 (xo_iload 3 (xo_put 4 2 .int (xo_vret Rh))))))))))
def fE_point : xm_F := fun X Rh lb => if lb = 0 then cE_point_0 X Rh else fun _ _ _ _ _ => False
def cp_E_point : xm_CP := fun as m Rh => (lg_sl as).length ≤ 4 ∧ xm_cp fE_point 0 0 as m Rh
theorem eE_point_0 {X : Nat → xm_PT} {Rh : Option Value → xm_M → Prop} (hX : ∀ lb, xm_le (fE_point X Rh lb) (X lb)) {ls : xm_L} {st : List Value} {m : xm_M} {bc bs : Nat} (h : cE_point_0 X Rh ls st m bc bs) : X 0 ls st m bc bs := hX 0 ls st m bc bs h
set_option maxRecDepth 20000 in
set_option maxHeartbeats 4000000 in
theorem sE_point_0 {p : Program} {l : Launch} {e : Env} {s : State} {mm : MethodId} {args : Array Value} {below : List Frame} {meth : Method} {c : Code} {D : va_G} {A : Nat → Prop} {Rh : Option Value → xm_M → Prop} (C : xm_C p s mm args c b_E_point 4 "BlockVault$Entry" w_E_point D classes ats A) (hr : meth.sig.returnType = none) (hlk : meth.locks = false) (hnm : meth.name = "point") : xm_le (cE_point_0 (xm_A p l e rm_E_point s mm args below meth c 4 D classes A (MQ below (xm_Q D classes Rh A) args s 0 0 A)) Rh) ((xm_A p l e rm_E_point s mm args below meth c 4 D classes A (MQ below (xm_Q D classes Rh A) args s 0 0 A)) 0) :=
  (xs_aload_n C d_E_point_0 rfl (xs_aload_n C d_E_point_1 rfl (xs_put C (k := 0) d_E_point_2 h_E t_E t_E_ok n_E (ci := 4) rfl (by decide) (List.mem_cons_of_mem _ tw_68) rfl rfl (by decide +kernel) (xs_aload_n C d_E_point_5 rfl (xs_iload_n C d_E_point_6 rfl (xs_put C (k := 1) d_E_point_7 h_E t_E t_E_ok n_E (ci := 4) rfl (by decide) (List.mem_cons_of_mem _ tw_70) rfl rfl (by decide +kernel) (xs_aload_n C d_E_point_10 rfl (xs_iload_n C d_E_point_11 rfl (xs_put C (k := 2) d_E_point_12 h_E t_E t_E_ok n_E (ci := 4) rfl (by decide) (List.mem_cons_of_mem _ tw_72) rfl rfl (by decide +kernel) (xs_vret C d_E_point_15 hr hlk rfl rfl))))))))))
theorem met_E_point (l : Launch) (D : va_G) : xm_Met l D classes ats y_E_point w_E_point rm_E_point 0 0 cp_E_point := by
  refine xm_met 0 (by decide) rfl rfl rfl (fun p e s mm args below meth c A Rh C hr hlk hnm lb => ?_)
  unfold fE_point
  split
  · rename_i h; subst h; exact sE_point_0 C hr hlk hnm
  · exact fun _ _ _ _ _ h => h.elim
theorem d_V_isBlock_0 : decode b_V_isBlock 0 = .ok (.iload_n 0, 1) := by decide +kernel
theorem d_V_isBlock_1 : decode b_V_isBlock 1 = .ok (.ifCond .lt 13, 3) := by decide +kernel
theorem d_V_isBlock_4 : decode b_V_isBlock 4 = .ok (.iload_n 0, 1) := by decide +kernel
theorem d_V_isBlock_5 : decode b_V_isBlock 5 = .ok (.bipush 8, 2) := by decide +kernel
theorem d_V_isBlock_7 : decode b_V_isBlock 7 = .ok (.if_icmp .ge 7, 3) := by decide +kernel
theorem d_V_isBlock_10 : decode b_V_isBlock 10 = .ok (.iconst 1, 1) := by decide +kernel
theorem d_V_isBlock_11 : decode b_V_isBlock 11 = .ok (.goto 4, 3) := by decide +kernel
theorem d_V_isBlock_14 : decode b_V_isBlock 14 = .ok (.iconst 0, 1) := by decide +kernel
theorem d_V_isBlock_15 : decode b_V_isBlock 15 = .ok (.ireturn, 1) := by decide +kernel
-- BlockVault.isBlock(I)Z: labels [0], loops []
abbrev rm_V_isBlock : Room := { frames := 0, cells := 0, slots := 0, locals := 0 }
def cV_isBlock_0 (X : Nat → xm_PT) (Rh : Option Value → xm_M → Prop) : xm_PT := (xo_iload 0 (xo_if (fun x => x < 0) (xo_push (.int 0) (xo_zret Rh)) (xo_iload 0 (xo_push (.int (nI 8)) (xo_icmp (fun x y => y ≤ x) (xo_push (.int 0) (xo_zret Rh)) (xo_push (.int 1) (xo_zret Rh)))))))
def fV_isBlock : xm_F := fun X Rh lb => if lb = 0 then cV_isBlock_0 X Rh else fun _ _ _ _ _ => False
def cp_V_isBlock : xm_CP := fun as m Rh => (lg_sl as).length ≤ 1 ∧ xm_cp fV_isBlock 0 0 as m Rh
theorem eV_isBlock_0 {X : Nat → xm_PT} {Rh : Option Value → xm_M → Prop} (hX : ∀ lb, xm_le (fV_isBlock X Rh lb) (X lb)) {ls : xm_L} {st : List Value} {m : xm_M} {bc bs : Nat} (h : cV_isBlock_0 X Rh ls st m bc bs) : X 0 ls st m bc bs := hX 0 ls st m bc bs h
set_option maxRecDepth 20000 in
set_option maxHeartbeats 4000000 in
theorem sV_isBlock_0 {p : Program} {l : Launch} {e : Env} {s : State} {mm : MethodId} {args : Array Value} {below : List Frame} {meth : Method} {c : Code} {D : va_G} {A : Nat → Prop} {Rh : Option Value → xm_M → Prop} (C : xm_C p s mm args c b_V_isBlock 1 "BlockVault" w_V_isBlock D classes ats A) (hr : meth.sig.returnType = (some .boolean)) (hlk : meth.locks = false) (hnm : meth.name = "isBlock") : xm_le (cV_isBlock_0 (xm_A p l e rm_V_isBlock s mm args below meth c 1 D classes A (MQ below (xm_Q D classes Rh A) args s 0 0 A)) Rh) ((xm_A p l e rm_V_isBlock s mm args below meth c 1 D classes A (MQ below (xm_Q D classes Rh A) args s 0 0 A)) 0) :=
  (xs_iload_n C d_V_isBlock_0 rfl (xs_if_lt C d_V_isBlock_1 (by decide) (xs_iconst C d_V_isBlock_14 (by decide) (xs_zret C d_V_isBlock_15 hr hlk rfl rfl)) (xs_iload_n C d_V_isBlock_4 rfl (xs_bipush C d_V_isBlock_5 (by decide) (xs_icmp_ge C d_V_isBlock_7 (by decide) (xs_iconst C d_V_isBlock_14 (by decide) (xs_zret C d_V_isBlock_15 hr hlk rfl rfl)) (xs_iconst C d_V_isBlock_10 (by decide) (xs_goto C d_V_isBlock_11 (by decide) (xs_zret C d_V_isBlock_15 hr hlk rfl rfl))))))))
theorem met_V_isBlock (l : Launch) (D : va_G) : xm_Met l D classes ats y_V_isBlock w_V_isBlock rm_V_isBlock 0 0 cp_V_isBlock := by
  refine xm_met 0 (by decide) rfl rfl rfl (fun p e s mm args below meth c A Rh C hr hlk hnm lb => ?_)
  unfold fV_isBlock
  split
  · rename_i h; subst h; exact sV_isBlock_0 C hr hlk hnm
  · exact fun _ _ _ _ _ h => h.elim
theorem d_V_hasLiveCopy_0 : decode b_V_hasLiveCopy 0 = .ok (.iconst 0, 1) := by decide +kernel
theorem d_V_hasLiveCopy_1 : decode b_V_hasLiveCopy 1 = .ok (.istore_n 2, 1) := by decide +kernel
theorem d_V_hasLiveCopy_2 : decode b_V_hasLiveCopy 2 = .ok (.iload_n 2, 1) := by decide +kernel
theorem d_V_hasLiveCopy_3 : decode b_V_hasLiveCopy 3 = .ok (.bipush 16, 2) := by decide +kernel
theorem d_V_hasLiveCopy_5 : decode b_V_hasLiveCopy 5 = .ok (.if_icmp .ge 24, 3) := by decide +kernel
theorem d_V_hasLiveCopy_8 : decode b_V_hasLiveCopy 8 = .ok (.aload_n 0, 1) := by decide +kernel
theorem d_V_hasLiveCopy_9 : decode b_V_hasLiveCopy 9 = .ok (.getfield 17, 3) := by decide +kernel
theorem d_V_hasLiveCopy_12 : decode b_V_hasLiveCopy 12 = .ok (.iload_n 2, 1) := by decide +kernel
theorem d_V_hasLiveCopy_13 : decode b_V_hasLiveCopy 13 = .ok (.aaload, 1) := by decide +kernel
theorem d_V_hasLiveCopy_14 : decode b_V_hasLiveCopy 14 = .ok (.getfield 157, 3) := by decide +kernel
theorem d_V_hasLiveCopy_17 : decode b_V_hasLiveCopy 17 = .ok (.iload_n 1, 1) := by decide +kernel
theorem d_V_hasLiveCopy_18 : decode b_V_hasLiveCopy 18 = .ok (.if_icmp .ne 5, 3) := by decide +kernel
theorem d_V_hasLiveCopy_21 : decode b_V_hasLiveCopy 21 = .ok (.iconst 1, 1) := by decide +kernel
theorem d_V_hasLiveCopy_22 : decode b_V_hasLiveCopy 22 = .ok (.ireturn, 1) := by decide +kernel
theorem d_V_hasLiveCopy_23 : decode b_V_hasLiveCopy 23 = .ok (.iinc 2 1, 3) := by decide +kernel
theorem d_V_hasLiveCopy_26 : decode b_V_hasLiveCopy 26 = .ok (.goto (-24), 3) := by decide +kernel
theorem d_V_hasLiveCopy_29 : decode b_V_hasLiveCopy 29 = .ok (.iconst 0, 1) := by decide +kernel
theorem d_V_hasLiveCopy_30 : decode b_V_hasLiveCopy 30 = .ok (.ireturn, 1) := by decide +kernel
-- BlockVault.hasLiveCopy(I)Z: labels [0, 2], loops [2]
abbrev rm_V_hasLiveCopy : Room := { frames := 0, cells := 0, slots := 0, locals := 0 }
def cV_hasLiveCopy_2 (X : Nat → xm_PT) (Rh : Option Value → xm_M → Prop) : xm_PT := (xo_iload 2 (xo_push (.int (nI 16)) (xo_icmp (fun x y => y ≤ x) (xo_push (.int 0) (xo_zret Rh)) (xo_aload 0 (xo_get 0 1 (xo_iload 2 (xo_aald ats (xo_get 4 1 (xo_iload 1 (xo_icmp (fun x y => x = y) (xo_push (.int 1) (xo_zret Rh)) (xo_iinc 2 1 (xo_jmp [0, 1, 2] (X 2)))))))))))))
def cV_hasLiveCopy_0 (X : Nat → xm_PT) (Rh : Option Value → xm_M → Prop) : xm_PT := (xo_push (.int 0) (xo_istore 2 (xo_jmp [0, 1, 2] (X 2))))
def fV_hasLiveCopy : xm_F := fun X Rh lb => if lb = 0 then cV_hasLiveCopy_0 X Rh else (if lb = 2 then cV_hasLiveCopy_2 X Rh else fun _ _ _ _ _ => False)
def cp_V_hasLiveCopy : xm_CP := fun as m Rh => (lg_sl as).length ≤ 3 ∧ xm_cp fV_hasLiveCopy 0 0 as m Rh
theorem eV_hasLiveCopy_0 {X : Nat → xm_PT} {Rh : Option Value → xm_M → Prop} (hX : ∀ lb, xm_le (fV_hasLiveCopy X Rh lb) (X lb)) {ls : xm_L} {st : List Value} {m : xm_M} {bc bs : Nat} (h : cV_hasLiveCopy_0 X Rh ls st m bc bs) : X 0 ls st m bc bs := hX 0 ls st m bc bs h
theorem eV_hasLiveCopy_2 {X : Nat → xm_PT} {Rh : Option Value → xm_M → Prop} (hX : ∀ lb, xm_le (fV_hasLiveCopy X Rh lb) (X lb)) {ls : xm_L} {st : List Value} {m : xm_M} {bc bs : Nat} (h : cV_hasLiveCopy_2 X Rh ls st m bc bs) : X 2 ls st m bc bs := hX 2 ls st m bc bs h
set_option maxRecDepth 20000 in
set_option maxHeartbeats 4000000 in
theorem sV_hasLiveCopy_2 {p : Program} {l : Launch} {e : Env} {s : State} {mm : MethodId} {args : Array Value} {below : List Frame} {meth : Method} {c : Code} {D : va_G} {A : Nat → Prop} {Rh : Option Value → xm_M → Prop} (C : xm_C p s mm args c b_V_hasLiveCopy 3 "BlockVault" w_V_hasLiveCopy D classes ats A) (hr : meth.sig.returnType = (some .boolean)) (hlk : meth.locks = false) (hnm : meth.name = "hasLiveCopy") : xm_le (cV_hasLiveCopy_2 (xm_A p l e rm_V_hasLiveCopy s mm args below meth c 3 D classes A (MQ below (xm_Q D classes Rh A) args s 0 0 A)) Rh) ((xm_A p l e rm_V_hasLiveCopy s mm args below meth c 3 D classes A (MQ below (xm_Q D classes Rh A) args s 0 0 A)) 2) :=
  (xs_iload_n C d_V_hasLiveCopy_2 rfl (xs_bipush C d_V_hasLiveCopy_3 (by decide) (xs_icmp_ge C d_V_hasLiveCopy_5 (by decide) (xs_iconst C d_V_hasLiveCopy_29 (by decide) (xs_zret C d_V_hasLiveCopy_30 hr hlk rfl rfl)) (xs_aload_n C d_V_hasLiveCopy_8 rfl (xs_get C (k := 1) d_V_hasLiveCopy_9 h_V (ci := 0) rfl (by decide) (List.mem_cons_of_mem _ tw_82) rfl (xs_iload_n C d_V_hasLiveCopy_12 rfl (xs_aald C d_V_hasLiveCopy_13 (xs_get C (k := 1) d_V_hasLiveCopy_14 h_E (ci := 4) rfl (by decide) (List.mem_cons_of_mem _ tw_71) rfl (xs_iload_n C d_V_hasLiveCopy_17 rfl (xs_icmp_ne C d_V_hasLiveCopy_18 (by decide) (xs_iconst C d_V_hasLiveCopy_21 (by decide) (xs_zret C d_V_hasLiveCopy_22 hr hlk rfl rfl)) (xs_iinc C d_V_hasLiveCopy_23 (by decide) (by decide) (xs_goto C d_V_hasLiveCopy_26 (by decide) (xs_jmp (fun _ _ _ _ _ h => h))))))))))))))
set_option maxRecDepth 20000 in
set_option maxHeartbeats 4000000 in
theorem sV_hasLiveCopy_0 {p : Program} {l : Launch} {e : Env} {s : State} {mm : MethodId} {args : Array Value} {below : List Frame} {meth : Method} {c : Code} {D : va_G} {A : Nat → Prop} {Rh : Option Value → xm_M → Prop} (C : xm_C p s mm args c b_V_hasLiveCopy 3 "BlockVault" w_V_hasLiveCopy D classes ats A) (hr : meth.sig.returnType = (some .boolean)) (hlk : meth.locks = false) (hnm : meth.name = "hasLiveCopy") : xm_le (cV_hasLiveCopy_0 (xm_A p l e rm_V_hasLiveCopy s mm args below meth c 3 D classes A (MQ below (xm_Q D classes Rh A) args s 0 0 A)) Rh) ((xm_A p l e rm_V_hasLiveCopy s mm args below meth c 3 D classes A (MQ below (xm_Q D classes Rh A) args s 0 0 A)) 0) :=
  (xs_iconst C d_V_hasLiveCopy_0 (by decide) (xs_istore_n C d_V_hasLiveCopy_1 rfl (by decide) (xs_jmp (fun _ _ _ _ _ h => h))))
theorem met_V_hasLiveCopy (l : Launch) (D : va_G) : xm_Met l D classes ats y_V_hasLiveCopy w_V_hasLiveCopy rm_V_hasLiveCopy 0 0 cp_V_hasLiveCopy := by
  refine xm_met 0 (by decide) rfl rfl rfl (fun p e s mm args below meth c A Rh C hr hlk hnm lb => ?_)
  unfold fV_hasLiveCopy
  split
  · rename_i h; subst h; exact sV_hasLiveCopy_0 C hr hlk hnm
  split
  · rename_i h; subst h; exact sV_hasLiveCopy_2 C hr hlk hnm
  · exact fun _ _ _ _ _ h => h.elim
theorem d_R_clear_0 : decode b_R_clear 0 = .ok (.aload_n 0, 1) := by decide +kernel
theorem d_R_clear_1 : decode b_R_clear 1 = .ok (.iconst 0, 1) := by decide +kernel
theorem d_R_clear_2 : decode b_R_clear 2 = .ok (.putfield 17, 3) := by decide +kernel
theorem d_R_clear_5 : decode b_R_clear 5 = .ok (.return_, 1) := by decide +kernel
-- BlockVault$Row.clear()V: labels [0], loops []
abbrev rm_R_clear : Room := { frames := 0, cells := 0, slots := 0, locals := 0 }
def cR_clear_0 (X : Nat → xm_PT) (Rh : Option Value → xm_M → Prop) : xm_PT := (xo_aload 0 (xo_push (.int 0) (xo_put 2 1 .int (xo_vret Rh))))
def fR_clear : xm_F := fun X Rh lb => if lb = 0 then cR_clear_0 X Rh else fun _ _ _ _ _ => False
def cp_R_clear : xm_CP := fun as m Rh => (lg_sl as).length ≤ 1 ∧ xm_cp fR_clear 0 0 as m Rh
theorem eR_clear_0 {X : Nat → xm_PT} {Rh : Option Value → xm_M → Prop} (hX : ∀ lb, xm_le (fR_clear X Rh lb) (X lb)) {ls : xm_L} {st : List Value} {m : xm_M} {bc bs : Nat} (h : cR_clear_0 X Rh ls st m bc bs) : X 0 ls st m bc bs := hX 0 ls st m bc bs h
set_option maxRecDepth 20000 in
set_option maxHeartbeats 4000000 in
theorem sR_clear_0 {p : Program} {l : Launch} {e : Env} {s : State} {mm : MethodId} {args : Array Value} {below : List Frame} {meth : Method} {c : Code} {D : va_G} {A : Nat → Prop} {Rh : Option Value → xm_M → Prop} (C : xm_C p s mm args c b_R_clear 1 "BlockVault$Row" w_R_clear D classes ats A) (hr : meth.sig.returnType = none) (hlk : meth.locks = false) (hnm : meth.name = "clear") : xm_le (cR_clear_0 (xm_A p l e rm_R_clear s mm args below meth c 1 D classes A (MQ below (xm_Q D classes Rh A) args s 0 0 A)) Rh) ((xm_A p l e rm_R_clear s mm args below meth c 1 D classes A (MQ below (xm_Q D classes Rh A) args s 0 0 A)) 0) :=
  (xs_aload_n C d_R_clear_0 rfl (xs_iconst C d_R_clear_1 (by decide) (xs_put C (k := 1) d_R_clear_2 h_R t_R t_R_ok n_R (ci := 2) rfl (by decide) (List.mem_cons_of_mem _ tw_35) rfl rfl (by decide +kernel) (xs_vret C d_R_clear_5 hr hlk rfl rfl))))
theorem met_R_clear (l : Launch) (D : va_G) : xm_Met l D classes ats y_R_clear w_R_clear rm_R_clear 0 0 cp_R_clear := by
  refine xm_met 0 (by decide) rfl rfl rfl (fun p e s mm args below meth c A Rh C hr hlk hnm lb => ?_)
  unfold fR_clear
  split
  · rename_i h; subst h; exact sR_clear_0 C hr hlk hnm
  · exact fun _ _ _ _ _ h => h.elim
end
