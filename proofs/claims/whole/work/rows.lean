section
-- ===== PART A: goes FIRST, ahead of the names: the tables' words, and 'selects' of the private methods out of them =====
/-- a private method of a class that the tables say can be made, by its rows of tables_1 -/
def lw_okq (q : MethodName × Nat) : Prop := (q.1.cls ≠ "java/lang/invoke/MethodHandle" ∧ q.1.cls ≠ "java/lang/invoke/VarHandle") ∧ Cond.instantiable q.1.cls q.2 ∈ tables_1 ∧ Cond.privateMethod q.1 ∈ tables_1 ∧ Cond.instanceMethod q.1 ∈ tables_1
theorem lw_p0 : lw_okq (⟨"AliasStreams$Models", "makeAll", "([I)V"⟩, 3) := ⟨⟨by decide +kernel, by decide +kernel⟩, List.mem_of_getElem? (i := 68) (by decide +kernel), List.mem_of_getElem? (i := 314) (by decide +kernel), List.mem_of_getElem? (i := 315) (by decide +kernel)⟩
theorem lw_p1 : lw_okq (⟨"AliasStreams$Model", "make", "([II)V"⟩, 9) := ⟨⟨by decide +kernel, by decide +kernel⟩, List.mem_of_getElem? (i := 75) (by decide +kernel), List.mem_of_getElem? (i := 318) (by decide +kernel), List.mem_of_getElem? (i := 319) (by decide +kernel)⟩
theorem lw_p2 : lw_okq (⟨"AliasStreams$Model", "shareOut", "([III)I"⟩, 9) := ⟨⟨by decide +kernel, by decide +kernel⟩, List.mem_of_getElem? (i := 75) (by decide +kernel), List.mem_of_getElem? (i := 328) (by decide +kernel), List.mem_of_getElem? (i := 329) (by decide +kernel)⟩
theorem lw_p3 : lw_okq (⟨"AliasStreams$Model", "giveOne", "()V"⟩, 9) := ⟨⟨by decide +kernel, by decide +kernel⟩, List.mem_of_getElem? (i := 75) (by decide +kernel), List.mem_of_getElem? (i := 335) (by decide +kernel), List.mem_of_getElem? (i := 336) (by decide +kernel)⟩
theorem lw_p4 : lw_okq (⟨"AliasStreams$Model", "takeOne", "()V"⟩, 9) := ⟨⟨by decide +kernel, by decide +kernel⟩, List.mem_of_getElem? (i := 75) (by decide +kernel), List.mem_of_getElem? (i := 339) (by decide +kernel), List.mem_of_getElem? (i := 340) (by decide +kernel)⟩
theorem lw_p5 : lw_okq (⟨"AliasStreams$Model", "closeBuckets", "()V"⟩, 9) := ⟨⟨by decide +kernel, by decide +kernel⟩, List.mem_of_getElem? (i := 75) (by decide +kernel), List.mem_of_getElem? (i := 343) (by decide +kernel), List.mem_of_getElem? (i := 344) (by decide +kernel)⟩
theorem lw_p6 : lw_okq (⟨"AliasStreams$Model", "closeOne", "()V"⟩, 9) := ⟨⟨by decide +kernel, by decide +kernel⟩, List.mem_of_getElem? (i := 75) (by decide +kernel), List.mem_of_getElem? (i := 347) (by decide +kernel), List.mem_of_getElem? (i := 348) (by decide +kernel)⟩
theorem lw_p7 : lw_okq (⟨"AliasStreams$Model", "firstToClose", "()I"⟩, 9) := ⟨⟨by decide +kernel, by decide +kernel⟩, List.mem_of_getElem? (i := 75) (by decide +kernel), List.mem_of_getElem? (i := 351) (by decide +kernel), List.mem_of_getElem? (i := 352) (by decide +kernel)⟩
theorem lw_p8 : lw_okq (⟨"AliasStreams$Model", "fullestOpen", "()I"⟩, 9) := ⟨⟨by decide +kernel, by decide +kernel⟩, List.mem_of_getElem? (i := 75) (by decide +kernel), List.mem_of_getElem? (i := 355) (by decide +kernel), List.mem_of_getElem? (i := 356) (by decide +kernel)⟩
theorem lw_p9 : lw_okq (⟨"AliasStreams$Model", "numberSlots", "()V"⟩, 9) := ⟨⟨by decide +kernel, by decide +kernel⟩, List.mem_of_getElem? (i := 75) (by decide +kernel), List.mem_of_getElem? (i := 359) (by decide +kernel), List.mem_of_getElem? (i := 360) (by decide +kernel)⟩
theorem lw_p10 : lw_okq (⟨"AliasStreams$Model", "enterSlot", "(III)V"⟩, 9) := ⟨⟨by decide +kernel, by decide +kernel⟩, List.mem_of_getElem? (i := 75) (by decide +kernel), List.mem_of_getElem? (i := 363) (by decide +kernel), List.mem_of_getElem? (i := 364) (by decide +kernel)⟩
theorem lw_p11 : lw_okq (⟨"AliasStreams$Text", "read", "()I"⟩, 8) := ⟨⟨by decide +kernel, by decide +kernel⟩, List.mem_of_getElem? (i := 30) (by decide +kernel), List.mem_of_getElem? (i := 406) (by decide +kernel), List.mem_of_getElem? (i := 407) (by decide +kernel)⟩
theorem lw_p12 : lw_okq (⟨"AliasStreams$Text", "readSize", "()Z"⟩, 8) := ⟨⟨by decide +kernel, by decide +kernel⟩, List.mem_of_getElem? (i := 30) (by decide +kernel), List.mem_of_getElem? (i := 410) (by decide +kernel), List.mem_of_getElem? (i := 411) (by decide +kernel)⟩
theorem lw_p13 : lw_okq (⟨"AliasStreams$Text", "here", "()I"⟩, 8) := ⟨⟨by decide +kernel, by decide +kernel⟩, List.mem_of_getElem? (i := 30) (by decide +kernel), List.mem_of_getElem? (i := 414) (by decide +kernel), List.mem_of_getElem? (i := 415) (by decide +kernel)⟩
theorem lw_p14 : lw_okq (⟨"AliasStreams$Text", "digitHere", "()I"⟩, 8) := ⟨⟨by decide +kernel, by decide +kernel⟩, List.mem_of_getElem? (i := 30) (by decide +kernel), List.mem_of_getElem? (i := 418) (by decide +kernel), List.mem_of_getElem? (i := 419) (by decide +kernel)⟩
theorem lw_p15 : lw_okq (⟨"AliasStreams$Text", "readModels", "()Z"⟩, 8) := ⟨⟨by decide +kernel, by decide +kernel⟩, List.mem_of_getElem? (i := 30) (by decide +kernel), List.mem_of_getElem? (i := 422) (by decide +kernel), List.mem_of_getElem? (i := 423) (by decide +kernel)⟩
def lw_privs_1 : List (MethodName × Nat) := [(⟨"AliasStreams$Models", "makeAll", "([I)V"⟩, 3), (⟨"AliasStreams$Model", "make", "([II)V"⟩, 9), (⟨"AliasStreams$Model", "shareOut", "([III)I"⟩, 9), (⟨"AliasStreams$Model", "giveOne", "()V"⟩, 9), (⟨"AliasStreams$Model", "takeOne", "()V"⟩, 9), (⟨"AliasStreams$Model", "closeBuckets", "()V"⟩, 9), (⟨"AliasStreams$Model", "closeOne", "()V"⟩, 9), (⟨"AliasStreams$Model", "firstToClose", "()I"⟩, 9), (⟨"AliasStreams$Model", "fullestOpen", "()I"⟩, 9), (⟨"AliasStreams$Model", "numberSlots", "()V"⟩, 9), (⟨"AliasStreams$Model", "enterSlot", "(III)V"⟩, 9), (⟨"AliasStreams$Text", "read", "()I"⟩, 8), (⟨"AliasStreams$Text", "readSize", "()Z"⟩, 8), (⟨"AliasStreams$Text", "here", "()I"⟩, 8), (⟨"AliasStreams$Text", "digitHere", "()I"⟩, 8), (⟨"AliasStreams$Text", "readModels", "()Z"⟩, 8)]
theorem lw_r1 : ∀ q ∈ lw_privs_1, lw_okq q := List.forall_mem_cons.mpr ⟨lw_p0, List.forall_mem_cons.mpr ⟨lw_p1, List.forall_mem_cons.mpr ⟨lw_p2, List.forall_mem_cons.mpr ⟨lw_p3, List.forall_mem_cons.mpr ⟨lw_p4, List.forall_mem_cons.mpr ⟨lw_p5, List.forall_mem_cons.mpr ⟨lw_p6, List.forall_mem_cons.mpr ⟨lw_p7, List.forall_mem_cons.mpr ⟨lw_p8, List.forall_mem_cons.mpr ⟨lw_p9, List.forall_mem_cons.mpr ⟨lw_p10, List.forall_mem_cons.mpr ⟨lw_p11, List.forall_mem_cons.mpr ⟨lw_p12, List.forall_mem_cons.mpr ⟨lw_p13, List.forall_mem_cons.mpr ⟨lw_p14, List.forall_mem_cons.mpr ⟨lw_p15, fun _ h => absurd h List.not_mem_nil⟩⟩⟩⟩⟩⟩⟩⟩⟩⟩⟩⟩⟩⟩⟩⟩
theorem lw_p16 : lw_okq (⟨"AliasStreams$Text", "readCounts", "(I)Z"⟩, 8) := ⟨⟨by decide +kernel, by decide +kernel⟩, List.mem_of_getElem? (i := 30) (by decide +kernel), List.mem_of_getElem? (i := 426) (by decide +kernel), List.mem_of_getElem? (i := 427) (by decide +kernel)⟩
theorem lw_p17 : lw_okq (⟨"AliasStreams$Text", "readItems", "()Z"⟩, 8) := ⟨⟨by decide +kernel, by decide +kernel⟩, List.mem_of_getElem? (i := 30) (by decide +kernel), List.mem_of_getElem? (i := 430) (by decide +kernel), List.mem_of_getElem? (i := 431) (by decide +kernel)⟩
theorem lw_p18 : lw_okq (⟨"AliasStreams$Text", "itemHere", "()I"⟩, 8) := ⟨⟨by decide +kernel, by decide +kernel⟩, List.mem_of_getElem? (i := 30) (by decide +kernel), List.mem_of_getElem? (i := 434) (by decide +kernel), List.mem_of_getElem? (i := 435) (by decide +kernel)⟩
theorem lw_p19 : lw_okq (⟨"AliasStreams$Taking", "takeAll", "(LAliasStreams$Tape;LAliasStreams$Models;)V"⟩, 8) := ⟨⟨by decide +kernel, by decide +kernel⟩, List.mem_of_getElem? (i := 249) (by decide +kernel), List.mem_of_getElem? (i := 442) (by decide +kernel), List.mem_of_getElem? (i := 443) (by decide +kernel)⟩
theorem lw_p20 : lw_okq (⟨"AliasStreams$Models", "of", "(I)LAliasStreams$Model;"⟩, 3) := ⟨⟨by decide +kernel, by decide +kernel⟩, List.mem_of_getElem? (i := 68) (by decide +kernel), List.mem_of_getElem? (i := 446) (by decide +kernel), List.mem_of_getElem? (i := 447) (by decide +kernel)⟩
theorem lw_p21 : lw_okq (⟨"AliasStreams$Taking", "takeSymbol", "(LAliasStreams$Tape;LAliasStreams$Model;I)V"⟩, 8) := ⟨⟨by decide +kernel, by decide +kernel⟩, List.mem_of_getElem? (i := 249) (by decide +kernel), List.mem_of_getElem? (i := 450) (by decide +kernel), List.mem_of_getElem? (i := 451) (by decide +kernel)⟩
theorem lw_p22 : lw_okq (⟨"AliasStreams$Model", "frequencyOf", "(I)I"⟩, 9) := ⟨⟨by decide +kernel, by decide +kernel⟩, List.mem_of_getElem? (i := 75) (by decide +kernel), List.mem_of_getElem? (i := 454) (by decide +kernel), List.mem_of_getElem? (i := 455) (by decide +kernel)⟩
theorem lw_p23 : lw_okq (⟨"AliasStreams$Tape", "hasDigit", "(I)Z"⟩, 5) := ⟨⟨by decide +kernel, by decide +kernel⟩, List.mem_of_getElem? (i := 134) (by decide +kernel), List.mem_of_getElem? (i := 458) (by decide +kernel), List.mem_of_getElem? (i := 459) (by decide +kernel)⟩
theorem lw_p24 : lw_okq (⟨"AliasStreams$Symbols", "list", "(LAliasStreams$State;)V"⟩, 3) := ⟨⟨by decide +kernel, by decide +kernel⟩, List.mem_of_getElem? (i := 228) (by decide +kernel), List.mem_of_getElem? (i := 466) (by decide +kernel), List.mem_of_getElem? (i := 467) (by decide +kernel)⟩
theorem lw_p25 : lw_okq (⟨"AliasStreams$Symbols", "firstUnfit", "(LAliasStreams$Models;)I"⟩, 3) := ⟨⟨by decide +kernel, by decide +kernel⟩, List.mem_of_getElem? (i := 228) (by decide +kernel), List.mem_of_getElem? (i := 470) (by decide +kernel), List.mem_of_getElem? (i := 471) (by decide +kernel)⟩
theorem lw_p26 : lw_okq (⟨"AliasStreams$Symbols", "has", "(I)Z"⟩, 3) := ⟨⟨by decide +kernel, by decide +kernel⟩, List.mem_of_getElem? (i := 228) (by decide +kernel), List.mem_of_getElem? (i := 480) (by decide +kernel), List.mem_of_getElem? (i := 481) (by decide +kernel)⟩
theorem lw_p27 : lw_okq (⟨"java/lang/Throwable", "fillInStackTrace", "(I)Ljava/lang/Throwable;"⟩, 6) := ⟨⟨by decide +kernel, by decide +kernel⟩, List.mem_of_getElem? (i := 531) (by decide +kernel), List.mem_of_getElem? (i := 529) (by decide +kernel), List.mem_of_getElem? (i := 530) (by decide +kernel)⟩
theorem lw_p28 : lw_okq (⟨"AliasStreams$Text", "add", "(I)V"⟩, 8) := ⟨⟨by decide +kernel, by decide +kernel⟩, List.mem_of_getElem? (i := 30) (by decide +kernel), List.mem_of_getElem? (i := 577) (by decide +kernel), List.mem_of_getElem? (i := 578) (by decide +kernel)⟩
theorem lw_p29 : lw_okq (⟨"AliasStreams$State", "begin", "(LAliasStreams$Text;)V"⟩, 4) := ⟨⟨by decide +kernel, by decide +kernel⟩, List.mem_of_getElem? (i := 128) (by decide +kernel), List.mem_of_getElem? (i := 589) (by decide +kernel), List.mem_of_getElem? (i := 590) (by decide +kernel)⟩
theorem lw_p30 : lw_okq (⟨"AliasStreams$Tape", "becomeEmpty", "()V"⟩, 5) := ⟨⟨by decide +kernel, by decide +kernel⟩, List.mem_of_getElem? (i := 134) (by decide +kernel), List.mem_of_getElem? (i := 596) (by decide +kernel), List.mem_of_getElem? (i := 597) (by decide +kernel)⟩
theorem lw_p31 : lw_okq (⟨"AliasStreams$History", "forget", "()V"⟩, 3) := ⟨⟨by decide +kernel, by decide +kernel⟩, List.mem_of_getElem? (i := 191) (by decide +kernel), List.mem_of_getElem? (i := 600) (by decide +kernel), List.mem_of_getElem? (i := 601) (by decide +kernel)⟩
def lw_privs_2 : List (MethodName × Nat) := [(⟨"AliasStreams$Text", "readCounts", "(I)Z"⟩, 8), (⟨"AliasStreams$Text", "readItems", "()Z"⟩, 8), (⟨"AliasStreams$Text", "itemHere", "()I"⟩, 8), (⟨"AliasStreams$Taking", "takeAll", "(LAliasStreams$Tape;LAliasStreams$Models;)V"⟩, 8), (⟨"AliasStreams$Models", "of", "(I)LAliasStreams$Model;"⟩, 3), (⟨"AliasStreams$Taking", "takeSymbol", "(LAliasStreams$Tape;LAliasStreams$Model;I)V"⟩, 8), (⟨"AliasStreams$Model", "frequencyOf", "(I)I"⟩, 9), (⟨"AliasStreams$Tape", "hasDigit", "(I)Z"⟩, 5), (⟨"AliasStreams$Symbols", "list", "(LAliasStreams$State;)V"⟩, 3), (⟨"AliasStreams$Symbols", "firstUnfit", "(LAliasStreams$Models;)I"⟩, 3), (⟨"AliasStreams$Symbols", "has", "(I)Z"⟩, 3), (⟨"java/lang/Throwable", "fillInStackTrace", "(I)Ljava/lang/Throwable;"⟩, 6), (⟨"AliasStreams$Text", "add", "(I)V"⟩, 8), (⟨"AliasStreams$State", "begin", "(LAliasStreams$Text;)V"⟩, 4), (⟨"AliasStreams$Tape", "becomeEmpty", "()V"⟩, 5), (⟨"AliasStreams$History", "forget", "()V"⟩, 3)]
theorem lw_r2 : ∀ q ∈ lw_privs_2, lw_okq q := List.forall_mem_cons.mpr ⟨lw_p16, List.forall_mem_cons.mpr ⟨lw_p17, List.forall_mem_cons.mpr ⟨lw_p18, List.forall_mem_cons.mpr ⟨lw_p19, List.forall_mem_cons.mpr ⟨lw_p20, List.forall_mem_cons.mpr ⟨lw_p21, List.forall_mem_cons.mpr ⟨lw_p22, List.forall_mem_cons.mpr ⟨lw_p23, List.forall_mem_cons.mpr ⟨lw_p24, List.forall_mem_cons.mpr ⟨lw_p25, List.forall_mem_cons.mpr ⟨lw_p26, List.forall_mem_cons.mpr ⟨lw_p27, List.forall_mem_cons.mpr ⟨lw_p28, List.forall_mem_cons.mpr ⟨lw_p29, List.forall_mem_cons.mpr ⟨lw_p30, List.forall_mem_cons.mpr ⟨lw_p31, fun _ h => absurd h List.not_mem_nil⟩⟩⟩⟩⟩⟩⟩⟩⟩⟩⟩⟩⟩⟩⟩⟩
theorem lw_p32 : lw_okq (⟨"AliasStreams$Saves", "empty", "()V"⟩, 2) := ⟨⟨by decide +kernel, by decide +kernel⟩, List.mem_of_getElem? (i := 211) (by decide +kernel), List.mem_of_getElem? (i := 604) (by decide +kernel), List.mem_of_getElem? (i := 605) (by decide +kernel)⟩
theorem lw_p33 : lw_okq (⟨"AliasStreams$Models", "hasModel", "(I)Z"⟩, 3) := ⟨⟨by decide +kernel, by decide +kernel⟩, List.mem_of_getElem? (i := 68) (by decide +kernel), List.mem_of_getElem? (i := 624) (by decide +kernel), List.mem_of_getElem? (i := 625) (by decide +kernel)⟩
theorem lw_p34 : lw_okq (⟨"AliasStreams$Models", "hasSymbol", "(I)Z"⟩, 3) := ⟨⟨by decide +kernel, by decide +kernel⟩, List.mem_of_getElem? (i := 68) (by decide +kernel), List.mem_of_getElem? (i := 628) (by decide +kernel), List.mem_of_getElem? (i := 629) (by decide +kernel)⟩
theorem lw_p35 : lw_okq (⟨"AliasStreams$State", "countOf", "(II)I"⟩, 4) := ⟨⟨by decide +kernel, by decide +kernel⟩, List.mem_of_getElem? (i := 128) (by decide +kernel), List.mem_of_getElem? (i := 649) (by decide +kernel), List.mem_of_getElem? (i := 650) (by decide +kernel)⟩
theorem lw_p36 : lw_okq (⟨"AliasStreams$State", "hasItem", "(I)Z"⟩, 4) := ⟨⟨by decide +kernel, by decide +kernel⟩, List.mem_of_getElem? (i := 128) (by decide +kernel), List.mem_of_getElem? (i := 679) (by decide +kernel), List.mem_of_getElem? (i := 680) (by decide +kernel)⟩
theorem lw_p37 : lw_okq (⟨"AliasStreams$Tape", "hasPlanned", "(I)Z"⟩, 5) := ⟨⟨by decide +kernel, by decide +kernel⟩, List.mem_of_getElem? (i := 134) (by decide +kernel), List.mem_of_getElem? (i := 693) (by decide +kernel), List.mem_of_getElem? (i := 694) (by decide +kernel)⟩
theorem lw_p38 : lw_okq (⟨"AliasStreams$State", "sumOfCounts", "(I)I"⟩, 4) := ⟨⟨by decide +kernel, by decide +kernel⟩, List.mem_of_getElem? (i := 128) (by decide +kernel), List.mem_of_getElem? (i := 709) (by decide +kernel), List.mem_of_getElem? (i := 710) (by decide +kernel)⟩
theorem lw_p39 : lw_okq (⟨"AliasStreams$History", "remember", "(LAliasStreams$State;)V"⟩, 3) := ⟨⟨by decide +kernel, by decide +kernel⟩, List.mem_of_getElem? (i := 191) (by decide +kernel), List.mem_of_getElem? (i := 714) (by decide +kernel), List.mem_of_getElem? (i := 715) (by decide +kernel)⟩
theorem lw_p40 : lw_okq (⟨"AliasStreams$State", "copyFrom", "(LAliasStreams$State;)V"⟩, 4) := ⟨⟨by decide +kernel, by decide +kernel⟩, List.mem_of_getElem? (i := 128) (by decide +kernel), List.mem_of_getElem? (i := 724) (by decide +kernel), List.mem_of_getElem? (i := 725) (by decide +kernel)⟩
theorem lw_p41 : lw_okq (⟨"AliasStreams$Tape", "copyFrom", "(LAliasStreams$Tape;)V"⟩, 5) := ⟨⟨by decide +kernel, by decide +kernel⟩, List.mem_of_getElem? (i := 134) (by decide +kernel), List.mem_of_getElem? (i := 728) (by decide +kernel), List.mem_of_getElem? (i := 729) (by decide +kernel)⟩
theorem lw_p42 : lw_okq (⟨"AliasStreams$State", "changeCount", "(III)V"⟩, 4) := ⟨⟨by decide +kernel, by decide +kernel⟩, List.mem_of_getElem? (i := 128) (by decide +kernel), List.mem_of_getElem? (i := 736) (by decide +kernel), List.mem_of_getElem? (i := 737) (by decide +kernel)⟩
theorem lw_p43 : lw_okq (⟨"AliasStreams$Models", "allowItem", "(I)Z"⟩, 3) := ⟨⟨by decide +kernel, by decide +kernel⟩, List.mem_of_getElem? (i := 68) (by decide +kernel), List.mem_of_getElem? (i := 749) (by decide +kernel), List.mem_of_getElem? (i := 750) (by decide +kernel)⟩
theorem lw_p44 : lw_okq (⟨"AliasStreams$State", "addItem", "(II)V"⟩, 4) := ⟨⟨by decide +kernel, by decide +kernel⟩, List.mem_of_getElem? (i := 128) (by decide +kernel), List.mem_of_getElem? (i := 757) (by decide +kernel), List.mem_of_getElem? (i := 758) (by decide +kernel)⟩
theorem lw_p45 : lw_okq (⟨"AliasStreams$State", "dropItem", "(I)V"⟩, 4) := ⟨⟨by decide +kernel, by decide +kernel⟩, List.mem_of_getElem? (i := 128) (by decide +kernel), List.mem_of_getElem? (i := 768) (by decide +kernel), List.mem_of_getElem? (i := 769) (by decide +kernel)⟩
theorem lw_p46 : lw_okq (⟨"AliasStreams$Tape", "fill", "(LAliasStreams$Symbols;LAliasStreams$Models;)V"⟩, 5) := ⟨⟨by decide +kernel, by decide +kernel⟩, List.mem_of_getElem? (i := 134) (by decide +kernel), List.mem_of_getElem? (i := 781) (by decide +kernel), List.mem_of_getElem? (i := 782) (by decide +kernel)⟩
theorem lw_p47 : lw_okq (⟨"AliasStreams$Tape", "putSymbol", "(LAliasStreams$Model;II)V"⟩, 5) := ⟨⟨by decide +kernel, by decide +kernel⟩, List.mem_of_getElem? (i := 134) (by decide +kernel), List.mem_of_getElem? (i := 788) (by decide +kernel), List.mem_of_getElem? (i := 789) (by decide +kernel)⟩
def lw_privs_3 : List (MethodName × Nat) := [(⟨"AliasStreams$Saves", "empty", "()V"⟩, 2), (⟨"AliasStreams$Models", "hasModel", "(I)Z"⟩, 3), (⟨"AliasStreams$Models", "hasSymbol", "(I)Z"⟩, 3), (⟨"AliasStreams$State", "countOf", "(II)I"⟩, 4), (⟨"AliasStreams$State", "hasItem", "(I)Z"⟩, 4), (⟨"AliasStreams$Tape", "hasPlanned", "(I)Z"⟩, 5), (⟨"AliasStreams$State", "sumOfCounts", "(I)I"⟩, 4), (⟨"AliasStreams$History", "remember", "(LAliasStreams$State;)V"⟩, 3), (⟨"AliasStreams$State", "copyFrom", "(LAliasStreams$State;)V"⟩, 4), (⟨"AliasStreams$Tape", "copyFrom", "(LAliasStreams$Tape;)V"⟩, 5), (⟨"AliasStreams$State", "changeCount", "(III)V"⟩, 4), (⟨"AliasStreams$Models", "allowItem", "(I)Z"⟩, 3), (⟨"AliasStreams$State", "addItem", "(II)V"⟩, 4), (⟨"AliasStreams$State", "dropItem", "(I)V"⟩, 4), (⟨"AliasStreams$Tape", "fill", "(LAliasStreams$Symbols;LAliasStreams$Models;)V"⟩, 5), (⟨"AliasStreams$Tape", "putSymbol", "(LAliasStreams$Model;II)V"⟩, 5)]
theorem lw_r3 : ∀ q ∈ lw_privs_3, lw_okq q := List.forall_mem_cons.mpr ⟨lw_p32, List.forall_mem_cons.mpr ⟨lw_p33, List.forall_mem_cons.mpr ⟨lw_p34, List.forall_mem_cons.mpr ⟨lw_p35, List.forall_mem_cons.mpr ⟨lw_p36, List.forall_mem_cons.mpr ⟨lw_p37, List.forall_mem_cons.mpr ⟨lw_p38, List.forall_mem_cons.mpr ⟨lw_p39, List.forall_mem_cons.mpr ⟨lw_p40, List.forall_mem_cons.mpr ⟨lw_p41, List.forall_mem_cons.mpr ⟨lw_p42, List.forall_mem_cons.mpr ⟨lw_p43, List.forall_mem_cons.mpr ⟨lw_p44, List.forall_mem_cons.mpr ⟨lw_p45, List.forall_mem_cons.mpr ⟨lw_p46, List.forall_mem_cons.mpr ⟨lw_p47, fun _ h => absurd h List.not_mem_nil⟩⟩⟩⟩⟩⟩⟩⟩⟩⟩⟩⟩⟩⟩⟩⟩
theorem lw_p48 : lw_okq (⟨"AliasStreams$Tape", "writeDigit", "(I)V"⟩, 5) := ⟨⟨by decide +kernel, by decide +kernel⟩, List.mem_of_getElem? (i := 134) (by decide +kernel), List.mem_of_getElem? (i := 794) (by decide +kernel), List.mem_of_getElem? (i := 795) (by decide +kernel)⟩
theorem lw_p49 : lw_okq (⟨"AliasStreams$Model", "slotOf", "(II)I"⟩, 9) := ⟨⟨by decide +kernel, by decide +kernel⟩, List.mem_of_getElem? (i := 75) (by decide +kernel), List.mem_of_getElem? (i := 798) (by decide +kernel), List.mem_of_getElem? (i := 799) (by decide +kernel)⟩
theorem lw_p50 : lw_okq (⟨"AliasStreams$Tape", "itemsNeeded", "()I"⟩, 5) := ⟨⟨by decide +kernel, by decide +kernel⟩, List.mem_of_getElem? (i := 134) (by decide +kernel), List.mem_of_getElem? (i := 809) (by decide +kernel), List.mem_of_getElem? (i := 810) (by decide +kernel)⟩
theorem lw_p51 : lw_okq (⟨"AliasStreams$State", "takeMessage", "(LAliasStreams$Taking;)V"⟩, 4) := ⟨⟨by decide +kernel, by decide +kernel⟩, List.mem_of_getElem? (i := 128) (by decide +kernel), List.mem_of_getElem? (i := 814) (by decide +kernel), List.mem_of_getElem? (i := 815) (by decide +kernel)⟩
theorem lw_p52 : lw_okq (⟨"AliasStreams$History", "giveBack", "(LAliasStreams$State;)V"⟩, 3) := ⟨⟨by decide +kernel, by decide +kernel⟩, List.mem_of_getElem? (i := 191) (by decide +kernel), List.mem_of_getElem? (i := 856) (by decide +kernel), List.mem_of_getElem? (i := 857) (by decide +kernel)⟩
theorem lw_p53 : lw_okq (⟨"AliasStreams$Symbols", "useOneModel", "(I)V"⟩, 3) := ⟨⟨by decide +kernel, by decide +kernel⟩, List.mem_of_getElem? (i := 228) (by decide +kernel), List.mem_of_getElem? (i := 877) (by decide +kernel), List.mem_of_getElem? (i := 878) (by decide +kernel)⟩
theorem lw_p54 : lw_okq (⟨"AliasStreams$Symbols", "multiply", "(LAliasStreams$Model;II)J"⟩, 3) := ⟨⟨by decide +kernel, by decide +kernel⟩, List.mem_of_getElem? (i := 228) (by decide +kernel), List.mem_of_getElem? (i := 890) (by decide +kernel), List.mem_of_getElem? (i := 891) (by decide +kernel)⟩
theorem lw_p55 : lw_okq (⟨"AliasStreams$Taking", "countOtherSymbols", "(LAliasStreams$Taking;)I"⟩, 8) := ⟨⟨by decide +kernel, by decide +kernel⟩, List.mem_of_getElem? (i := 249) (by decide +kernel), List.mem_of_getElem? (i := 912) (by decide +kernel), List.mem_of_getElem? (i := 913) (by decide +kernel)⟩
theorem lw_p56 : lw_okq (⟨"AliasStreams$Script", "run", "(LAliasStreams$State;LAliasStreams$Models;IJ)I"⟩, 3) := ⟨⟨by decide +kernel, by decide +kernel⟩, List.mem_of_getElem? (i := 292) (by decide +kernel), List.mem_of_getElem? (i := 927) (by decide +kernel), List.mem_of_getElem? (i := 928) (by decide +kernel)⟩
theorem lw_p57 : lw_okq (⟨"AliasStreams$Script", "execute", "(ILAliasStreams$Models;)Z"⟩, 3) := ⟨⟨by decide +kernel, by decide +kernel⟩, List.mem_of_getElem? (i := 292) (by decide +kernel), List.mem_of_getElem? (i := 937) (by decide +kernel), List.mem_of_getElem? (i := 938) (by decide +kernel)⟩
theorem lw_p58 : lw_okq (⟨"AliasStreams$Script", "addLast", "(ILAliasStreams$Models;)Z"⟩, 3) := ⟨⟨by decide +kernel, by decide +kernel⟩, List.mem_of_getElem? (i := 292) (by decide +kernel), List.mem_of_getElem? (i := 941) (by decide +kernel), List.mem_of_getElem? (i := 942) (by decide +kernel)⟩
theorem lw_p59 : lw_okq (⟨"AliasStreams$Script", "dropOne", "(I)Z"⟩, 3) := ⟨⟨by decide +kernel, by decide +kernel⟩, List.mem_of_getElem? (i := 292) (by decide +kernel), List.mem_of_getElem? (i := 947) (by decide +kernel), List.mem_of_getElem? (i := 948) (by decide +kernel)⟩
theorem lw_p60 : lw_okq (⟨"AliasStreams$Script", "fillTape", "(LAliasStreams$Models;)Z"⟩, 3) := ⟨⟨by decide +kernel, by decide +kernel⟩, List.mem_of_getElem? (i := 292) (by decide +kernel), List.mem_of_getElem? (i := 953) (by decide +kernel), List.mem_of_getElem? (i := 954) (by decide +kernel)⟩
theorem lw_p61 : lw_okq (⟨"AliasStreams$Script", "takeMessage", "(LAliasStreams$Models;)Z"⟩, 3) := ⟨⟨by decide +kernel, by decide +kernel⟩, List.mem_of_getElem? (i := 292) (by decide +kernel), List.mem_of_getElem? (i := 960) (by decide +kernel), List.mem_of_getElem? (i := 961) (by decide +kernel)⟩
theorem lw_p62 : lw_okq (⟨"AliasStreams$Script", "changeDigit", "(II)Z"⟩, 3) := ⟨⟨by decide +kernel, by decide +kernel⟩, List.mem_of_getElem? (i := 292) (by decide +kernel), List.mem_of_getElem? (i := 967) (by decide +kernel), List.mem_of_getElem? (i := 968) (by decide +kernel)⟩
theorem lw_p63 : lw_okq (⟨"AliasStreams$Script", "isIntact", "(LAliasStreams$Models;)Z"⟩, 3) := ⟨⟨by decide +kernel, by decide +kernel⟩, List.mem_of_getElem? (i := 292) (by decide +kernel), List.mem_of_getElem? (i := 972) (by decide +kernel), List.mem_of_getElem? (i := 973) (by decide +kernel)⟩
def lw_privs_4 : List (MethodName × Nat) := [(⟨"AliasStreams$Tape", "writeDigit", "(I)V"⟩, 5), (⟨"AliasStreams$Model", "slotOf", "(II)I"⟩, 9), (⟨"AliasStreams$Tape", "itemsNeeded", "()I"⟩, 5), (⟨"AliasStreams$State", "takeMessage", "(LAliasStreams$Taking;)V"⟩, 4), (⟨"AliasStreams$History", "giveBack", "(LAliasStreams$State;)V"⟩, 3), (⟨"AliasStreams$Symbols", "useOneModel", "(I)V"⟩, 3), (⟨"AliasStreams$Symbols", "multiply", "(LAliasStreams$Model;II)J"⟩, 3), (⟨"AliasStreams$Taking", "countOtherSymbols", "(LAliasStreams$Taking;)I"⟩, 8), (⟨"AliasStreams$Script", "run", "(LAliasStreams$State;LAliasStreams$Models;IJ)I"⟩, 3), (⟨"AliasStreams$Script", "execute", "(ILAliasStreams$Models;)Z"⟩, 3), (⟨"AliasStreams$Script", "addLast", "(ILAliasStreams$Models;)Z"⟩, 3), (⟨"AliasStreams$Script", "dropOne", "(I)Z"⟩, 3), (⟨"AliasStreams$Script", "fillTape", "(LAliasStreams$Models;)Z"⟩, 3), (⟨"AliasStreams$Script", "takeMessage", "(LAliasStreams$Models;)Z"⟩, 3), (⟨"AliasStreams$Script", "changeDigit", "(II)Z"⟩, 3), (⟨"AliasStreams$Script", "isIntact", "(LAliasStreams$Models;)Z"⟩, 3)]
theorem lw_r4 : ∀ q ∈ lw_privs_4, lw_okq q := List.forall_mem_cons.mpr ⟨lw_p48, List.forall_mem_cons.mpr ⟨lw_p49, List.forall_mem_cons.mpr ⟨lw_p50, List.forall_mem_cons.mpr ⟨lw_p51, List.forall_mem_cons.mpr ⟨lw_p52, List.forall_mem_cons.mpr ⟨lw_p53, List.forall_mem_cons.mpr ⟨lw_p54, List.forall_mem_cons.mpr ⟨lw_p55, List.forall_mem_cons.mpr ⟨lw_p56, List.forall_mem_cons.mpr ⟨lw_p57, List.forall_mem_cons.mpr ⟨lw_p58, List.forall_mem_cons.mpr ⟨lw_p59, List.forall_mem_cons.mpr ⟨lw_p60, List.forall_mem_cons.mpr ⟨lw_p61, List.forall_mem_cons.mpr ⟨lw_p62, List.forall_mem_cons.mpr ⟨lw_p63, fun _ h => absurd h List.not_mem_nil⟩⟩⟩⟩⟩⟩⟩⟩⟩⟩⟩⟩⟩⟩⟩⟩
theorem lw_p64 : lw_okq (⟨"AliasStreams$Script", "takes", "(IILAliasStreams$Models;)Z"⟩, 3) := ⟨⟨by decide +kernel, by decide +kernel⟩, List.mem_of_getElem? (i := 292) (by decide +kernel), List.mem_of_getElem? (i := 976) (by decide +kernel), List.mem_of_getElem? (i := 977) (by decide +kernel)⟩
theorem lw_p65 : lw_okq (⟨"AliasStreams$Tape", "disturb", "(I)V"⟩, 5) := ⟨⟨by decide +kernel, by decide +kernel⟩, List.mem_of_getElem? (i := 134) (by decide +kernel), List.mem_of_getElem? (i := 991) (by decide +kernel), List.mem_of_getElem? (i := 992) (by decide +kernel)⟩
theorem lw_p66 : lw_okq (⟨"AliasStreamsModel", "refused", "(I)Z"⟩, 32) := ⟨⟨by decide +kernel, by decide +kernel⟩, List.mem_of_getElem? (i := 1016) (by decide +kernel), List.mem_of_getElem? (i := 1131) (by decide +kernel), List.mem_of_getElem? (i := 1132) (by decide +kernel)⟩
theorem lw_p67 : lw_okq (⟨"AliasStreamsModel", "readAll", "()Z"⟩, 32) := ⟨⟨by decide +kernel, by decide +kernel⟩, List.mem_of_getElem? (i := 1016) (by decide +kernel), List.mem_of_getElem? (i := 1143) (by decide +kernel), List.mem_of_getElem? (i := 1144) (by decide +kernel)⟩
theorem lw_p68 : lw_okq (⟨"AliasStreamsModel", "next", "(I)I"⟩, 32) := ⟨⟨by decide +kernel, by decide +kernel⟩, List.mem_of_getElem? (i := 1016) (by decide +kernel), List.mem_of_getElem? (i := 1147) (by decide +kernel), List.mem_of_getElem? (i := 1148) (by decide +kernel)⟩
theorem lw_p69 : lw_okq (⟨"AliasStreamsModel", "accepts", "(Z)Z"⟩, 32) := ⟨⟨by decide +kernel, by decide +kernel⟩, List.mem_of_getElem? (i := 1016) (by decide +kernel), List.mem_of_getElem? (i := 1151) (by decide +kernel), List.mem_of_getElem? (i := 1152) (by decide +kernel)⟩
theorem lw_p70 : lw_okq (⟨"AliasStreamsModel", "readCounts", "()Z"⟩, 32) := ⟨⟨by decide +kernel, by decide +kernel⟩, List.mem_of_getElem? (i := 1016) (by decide +kernel), List.mem_of_getElem? (i := 1157) (by decide +kernel), List.mem_of_getElem? (i := 1158) (by decide +kernel)⟩
theorem lw_p71 : lw_okq (⟨"AliasStreamsModel", "readItems", "()Z"⟩, 32) := ⟨⟨by decide +kernel, by decide +kernel⟩, List.mem_of_getElem? (i := 1016) (by decide +kernel), List.mem_of_getElem? (i := 1162) (by decide +kernel), List.mem_of_getElem? (i := 1163) (by decide +kernel)⟩
theorem lw_p72 : lw_okq (⟨"AliasStreamsModel", "layMessage", "([I)V"⟩, 32) := ⟨⟨by decide +kernel, by decide +kernel⟩, List.mem_of_getElem? (i := 1016) (by decide +kernel), List.mem_of_getElem? (i := 1178) (by decide +kernel), List.mem_of_getElem? (i := 1179) (by decide +kernel)⟩
theorem lw_p73 : lw_okq (⟨"AliasStreamsModel", "layTables", "([I)V"⟩, 32) := ⟨⟨by decide +kernel, by decide +kernel⟩, List.mem_of_getElem? (i := 1016) (by decide +kernel), List.mem_of_getElem? (i := 1182) (by decide +kernel), List.mem_of_getElem? (i := 1183) (by decide +kernel)⟩
theorem lw_p74 : lw_okq (⟨"AliasStreamsModel", "layFrequencies", "([II)V"⟩, 32) := ⟨⟨by decide +kernel, by decide +kernel⟩, List.mem_of_getElem? (i := 1016) (by decide +kernel), List.mem_of_getElem? (i := 1186) (by decide +kernel), List.mem_of_getElem? (i := 1187) (by decide +kernel)⟩
theorem lw_p75 : lw_okq (⟨"AliasStreamsModel", "laySlots", "(I)V"⟩, 32) := ⟨⟨by decide +kernel, by decide +kernel⟩, List.mem_of_getElem? (i := 1016) (by decide +kernel), List.mem_of_getElem? (i := 1190) (by decide +kernel), List.mem_of_getElem? (i := 1191) (by decide +kernel)⟩
theorem lw_p76 : lw_okq (⟨"AliasStreamsModel", "take", "([I)Z"⟩, 32) := ⟨⟨by decide +kernel, by decide +kernel⟩, List.mem_of_getElem? (i := 1016) (by decide +kernel), List.mem_of_getElem? (i := 1194) (by decide +kernel), List.mem_of_getElem? (i := 1195) (by decide +kernel)⟩
theorem lw_p77 : lw_okq (⟨"AliasStreamsModel", "isModel", "(I)Z"⟩, 32) := ⟨⟨by decide +kernel, by decide +kernel⟩, List.mem_of_getElem? (i := 1016) (by decide +kernel), List.mem_of_getElem? (i := 1202) (by decide +kernel), List.mem_of_getElem? (i := 1203) (by decide +kernel)⟩
theorem lw_p78 : lw_okq (⟨"AliasStreamsModel", "isSymbol", "(I)Z"⟩, 32) := ⟨⟨by decide +kernel, by decide +kernel⟩, List.mem_of_getElem? (i := 1016) (by decide +kernel), List.mem_of_getElem? (i := 1206) (by decide +kernel), List.mem_of_getElem? (i := 1207) (by decide +kernel)⟩
theorem lw_p79 : lw_okq (⟨"AliasStreamsModel", "isItem", "(I)Z"⟩, 32) := ⟨⟨by decide +kernel, by decide +kernel⟩, List.mem_of_getElem? (i := 1016) (by decide +kernel), List.mem_of_getElem? (i := 1224) (by decide +kernel), List.mem_of_getElem? (i := 1225) (by decide +kernel)⟩
def lw_privs_5 : List (MethodName × Nat) := [(⟨"AliasStreams$Script", "takes", "(IILAliasStreams$Models;)Z"⟩, 3), (⟨"AliasStreams$Tape", "disturb", "(I)V"⟩, 5), (⟨"AliasStreamsModel", "refused", "(I)Z"⟩, 32), (⟨"AliasStreamsModel", "readAll", "()Z"⟩, 32), (⟨"AliasStreamsModel", "next", "(I)I"⟩, 32), (⟨"AliasStreamsModel", "accepts", "(Z)Z"⟩, 32), (⟨"AliasStreamsModel", "readCounts", "()Z"⟩, 32), (⟨"AliasStreamsModel", "readItems", "()Z"⟩, 32), (⟨"AliasStreamsModel", "layMessage", "([I)V"⟩, 32), (⟨"AliasStreamsModel", "layTables", "([I)V"⟩, 32), (⟨"AliasStreamsModel", "layFrequencies", "([II)V"⟩, 32), (⟨"AliasStreamsModel", "laySlots", "(I)V"⟩, 32), (⟨"AliasStreamsModel", "take", "([I)Z"⟩, 32), (⟨"AliasStreamsModel", "isModel", "(I)Z"⟩, 32), (⟨"AliasStreamsModel", "isSymbol", "(I)Z"⟩, 32), (⟨"AliasStreamsModel", "isItem", "(I)Z"⟩, 32)]
theorem lw_r5 : ∀ q ∈ lw_privs_5, lw_okq q := List.forall_mem_cons.mpr ⟨lw_p64, List.forall_mem_cons.mpr ⟨lw_p65, List.forall_mem_cons.mpr ⟨lw_p66, List.forall_mem_cons.mpr ⟨lw_p67, List.forall_mem_cons.mpr ⟨lw_p68, List.forall_mem_cons.mpr ⟨lw_p69, List.forall_mem_cons.mpr ⟨lw_p70, List.forall_mem_cons.mpr ⟨lw_p71, List.forall_mem_cons.mpr ⟨lw_p72, List.forall_mem_cons.mpr ⟨lw_p73, List.forall_mem_cons.mpr ⟨lw_p74, List.forall_mem_cons.mpr ⟨lw_p75, List.forall_mem_cons.mpr ⟨lw_p76, List.forall_mem_cons.mpr ⟨lw_p77, List.forall_mem_cons.mpr ⟨lw_p78, List.forall_mem_cons.mpr ⟨lw_p79, fun _ h => absurd h List.not_mem_nil⟩⟩⟩⟩⟩⟩⟩⟩⟩⟩⟩⟩⟩⟩⟩⟩
theorem lw_p80 : lw_okq (⟨"AliasStreamsModel", "note", "()V"⟩, 32) := ⟨⟨by decide +kernel, by decide +kernel⟩, List.mem_of_getElem? (i := 1016) (by decide +kernel), List.mem_of_getElem? (i := 1237) (by decide +kernel), List.mem_of_getElem? (i := 1238) (by decide +kernel)⟩
theorem lw_p81 : lw_okq (⟨"AliasStreamsModel", "isThing", "(I)Z"⟩, 32) := ⟨⟨by decide +kernel, by decide +kernel⟩, List.mem_of_getElem? (i := 1016) (by decide +kernel), List.mem_of_getElem? (i := 1245) (by decide +kernel), List.mem_of_getElem? (i := 1246) (by decide +kernel)⟩
theorem lw_p82 : lw_okq (⟨"AliasStreamsModel", "canEncode", "([I)Z"⟩, 32) := ⟨⟨by decide +kernel, by decide +kernel⟩, List.mem_of_getElem? (i := 1016) (by decide +kernel), List.mem_of_getElem? (i := 1263) (by decide +kernel), List.mem_of_getElem? (i := 1264) (by decide +kernel)⟩
theorem lw_p83 : lw_okq (⟨"AliasStreamsModel", "unfitOf", "()I"⟩, 32) := ⟨⟨by decide +kernel, by decide +kernel⟩, List.mem_of_getElem? (i := 1016) (by decide +kernel), List.mem_of_getElem? (i := 1267) (by decide +kernel), List.mem_of_getElem? (i := 1268) (by decide +kernel)⟩
theorem lw_p84 : lw_okq (⟨"AliasStreamsModel", "encodeTo", "([I)V"⟩, 32) := ⟨⟨by decide +kernel, by decide +kernel⟩, List.mem_of_getElem? (i := 1016) (by decide +kernel), List.mem_of_getElem? (i := 1271) (by decide +kernel), List.mem_of_getElem? (i := 1272) (by decide +kernel)⟩
theorem lw_p85 : lw_okq (⟨"AliasStreamsModel", "canDecode", "([I)Z"⟩, 32) := ⟨⟨by decide +kernel, by decide +kernel⟩, List.mem_of_getElem? (i := 1016) (by decide +kernel), List.mem_of_getElem? (i := 1279) (by decide +kernel), List.mem_of_getElem? (i := 1280) (by decide +kernel)⟩
theorem lw_p86 : lw_okq (⟨"AliasStreamsModel", "fails", "([I)Z"⟩, 32) := ⟨⟨by decide +kernel, by decide +kernel⟩, List.mem_of_getElem? (i := 1016) (by decide +kernel), List.mem_of_getElem? (i := 1283) (by decide +kernel), List.mem_of_getElem? (i := 1284) (by decide +kernel)⟩
theorem lw_p87 : lw_okq (⟨"AliasStreamsModel", "itemsOf", "([I)I"⟩, 32) := ⟨⟨by decide +kernel, by decide +kernel⟩, List.mem_of_getElem? (i := 1016) (by decide +kernel), List.mem_of_getElem? (i := 1287) (by decide +kernel), List.mem_of_getElem? (i := 1288) (by decide +kernel)⟩
theorem lw_p88 : lw_okq (⟨"AliasStreamsModel", "decodeTo", "([I)V"⟩, 32) := ⟨⟨by decide +kernel, by decide +kernel⟩, List.mem_of_getElem? (i := 1016) (by decide +kernel), List.mem_of_getElem? (i := 1291) (by decide +kernel), List.mem_of_getElem? (i := 1292) (by decide +kernel)⟩
theorem lw_p89 : lw_okq (⟨"AliasStreamsModel", "isDigit", "(I)Z"⟩, 32) := ⟨⟨by decide +kernel, by decide +kernel⟩, List.mem_of_getElem? (i := 1016) (by decide +kernel), List.mem_of_getElem? (i := 1299) (by decide +kernel), List.mem_of_getElem? (i := 1300) (by decide +kernel)⟩
theorem lw_p90 : lw_okq (⟨"AliasStreamsModel", "isPlanned", "(I)Z"⟩, 32) := ⟨⟨by decide +kernel, by decide +kernel⟩, List.mem_of_getElem? (i := 1016) (by decide +kernel), List.mem_of_getElem? (i := 1314) (by decide +kernel), List.mem_of_getElem? (i := 1315) (by decide +kernel)⟩
theorem lw_p91 : lw_okq (⟨"AliasStreamsModel", "isSequenced", "(I)Z"⟩, 32) := ⟨⟨by decide +kernel, by decide +kernel⟩, List.mem_of_getElem? (i := 1016) (by decide +kernel), List.mem_of_getElem? (i := 1343) (by decide +kernel), List.mem_of_getElem? (i := 1344) (by decide +kernel)⟩
theorem lw_p92 : lw_okq (⟨"AliasStreamsModel", "productOf", "(III)J"⟩, 32) := ⟨⟨by decide +kernel, by decide +kernel⟩, List.mem_of_getElem? (i := 1016) (by decide +kernel), List.mem_of_getElem? (i := 1348) (by decide +kernel), List.mem_of_getElem? (i := 1349) (by decide +kernel)⟩
theorem lw_p93 : lw_okq (⟨"AliasStreamsModel", "does", "(III)Z"⟩, 32) := ⟨⟨by decide +kernel, by decide +kernel⟩, List.mem_of_getElem? (i := 1016) (by decide +kernel), List.mem_of_getElem? (i := 1374) (by decide +kernel), List.mem_of_getElem? (i := 1375) (by decide +kernel)⟩
def lw_privs_6 : List (MethodName × Nat) := [(⟨"AliasStreamsModel", "note", "()V"⟩, 32), (⟨"AliasStreamsModel", "isThing", "(I)Z"⟩, 32), (⟨"AliasStreamsModel", "canEncode", "([I)Z"⟩, 32), (⟨"AliasStreamsModel", "unfitOf", "()I"⟩, 32), (⟨"AliasStreamsModel", "encodeTo", "([I)V"⟩, 32), (⟨"AliasStreamsModel", "canDecode", "([I)Z"⟩, 32), (⟨"AliasStreamsModel", "fails", "([I)Z"⟩, 32), (⟨"AliasStreamsModel", "itemsOf", "([I)I"⟩, 32), (⟨"AliasStreamsModel", "decodeTo", "([I)V"⟩, 32), (⟨"AliasStreamsModel", "isDigit", "(I)Z"⟩, 32), (⟨"AliasStreamsModel", "isPlanned", "(I)Z"⟩, 32), (⟨"AliasStreamsModel", "isSequenced", "(I)Z"⟩, 32), (⟨"AliasStreamsModel", "productOf", "(III)J"⟩, 32), (⟨"AliasStreamsModel", "does", "(III)Z"⟩, 32)]
theorem lw_r6 : ∀ q ∈ lw_privs_6, lw_okq q := List.forall_mem_cons.mpr ⟨lw_p80, List.forall_mem_cons.mpr ⟨lw_p81, List.forall_mem_cons.mpr ⟨lw_p82, List.forall_mem_cons.mpr ⟨lw_p83, List.forall_mem_cons.mpr ⟨lw_p84, List.forall_mem_cons.mpr ⟨lw_p85, List.forall_mem_cons.mpr ⟨lw_p86, List.forall_mem_cons.mpr ⟨lw_p87, List.forall_mem_cons.mpr ⟨lw_p88, List.forall_mem_cons.mpr ⟨lw_p89, List.forall_mem_cons.mpr ⟨lw_p90, List.forall_mem_cons.mpr ⟨lw_p91, List.forall_mem_cons.mpr ⟨lw_p92, List.forall_mem_cons.mpr ⟨lw_p93, fun _ h => absurd h List.not_mem_nil⟩⟩⟩⟩⟩⟩⟩⟩⟩⟩⟩⟩⟩⟩
def lw_privs : List (MethodName × Nat) := lw_privs_1 ++ (lw_privs_2 ++ (lw_privs_3 ++ (lw_privs_4 ++ (lw_privs_5 ++ (lw_privs_6)))))
def lw_tbl : List Cond := k2_sels lw_privs ++ tables_1
theorem lw_privs_ok : ∀ q ∈ lw_privs, lw_okq q := by
  show ∀ q ∈ lw_privs_1 ++ (lw_privs_2 ++ (lw_privs_3 ++ (lw_privs_4 ++ (lw_privs_5 ++ (lw_privs_6))))), lw_okq q
  exact List.forall_mem_append.mpr ⟨lw_r1, List.forall_mem_append.mpr ⟨lw_r2, List.forall_mem_append.mpr ⟨lw_r3, List.forall_mem_append.mpr ⟨lw_r4, List.forall_mem_append.mpr ⟨lw_r5, lw_r6⟩⟩⟩⟩⟩
-- ===== end of PART A; then your names; then what follows =====
end
section
/-! names: classes, their fields, the methods, the words of the tables by their places (printed by wip/whole/names.py) -/
def R_History : String := "AliasStreams$History"
def T_History : u_T := fun k => match k with
  | 0 => ("AliasStreams$History", "states", "[LAliasStreams$State;", true)
  | 1 => ("AliasStreams$History", "next", "I", false)
  | _ => ("AliasStreams$History", "count", "I", false)
def ty_History : Nat → FieldType := fun k => match k with
  | 0 => .array (.object "AliasStreams$State")
  | 1 => .int
  | _ => .int
theorem nm_History : ∀ a, a < 3 → ∀ b, b < 3 → a ≠ b → (T_History a).2.1 ≠ (T_History b).2.1 := by decide +kernel
theorem ty_History_ok : ∀ k, k < 3 → parseFieldDescriptor (T_History k).2.2.1 = some (ty_History k) := by decide +kernel
def R_Model : String := "AliasStreams$Model"
def T_Model : u_T := fun k => match k with
  | 0 => ("AliasStreams$Model", "frequency", "[I", true)
  | 1 => ("AliasStreams$Model", "remainder", "[I", true)
  | 2 => ("AliasStreams$Model", "rest", "[I", true)
  | 3 => ("AliasStreams$Model", "alias", "[I", true)
  | 4 => ("AliasStreams$Model", "open", "[Z", true)
  | 5 => ("AliasStreams$Model", "slotSymbol", "[I", true)
  | 6 => ("AliasStreams$Model", "slotIndex", "[I", true)
  | 7 => ("AliasStreams$Model", "slotOfIndex", "[I", true)
  | _ => ("AliasStreams$Model", "slotsSeen", "[I", true)
def ty_Model : Nat → FieldType := fun k => match k with
  | 0 => .array .int
  | 1 => .array .int
  | 2 => .array .int
  | 3 => .array .int
  | 4 => .array .boolean
  | 5 => .array .int
  | 6 => .array .int
  | 7 => .array .int
  | _ => .array .int
theorem nm_Model : ∀ a, a < 9 → ∀ b, b < 9 → a ≠ b → (T_Model a).2.1 ≠ (T_Model b).2.1 := by decide +kernel
theorem ty_Model_ok : ∀ k, k < 9 → parseFieldDescriptor (T_Model k).2.2.1 = some (ty_Model k) := by decide +kernel
def R_Models : String := "AliasStreams$Models"
def T_Models : u_T := fun k => match k with
  | 0 => ("AliasStreams$Models", "tables", "[LAliasStreams$Model;", true)
  | 1 => ("AliasStreams$Models", "symbolCount", "I", false)
  | _ => ("AliasStreams$Models", "modelCount", "I", false)
def ty_Models : Nat → FieldType := fun k => match k with
  | 0 => .array (.object "AliasStreams$Model")
  | 1 => .int
  | _ => .int
theorem nm_Models : ∀ a, a < 3 → ∀ b, b < 3 → a ≠ b → (T_Models a).2.1 ≠ (T_Models b).2.1 := by decide +kernel
theorem ty_Models_ok : ∀ k, k < 3 → parseFieldDescriptor (T_Models k).2.2.1 = some (ty_Models k) := by decide +kernel
def R_Saves : String := "AliasStreams$Saves"
def T_Saves : u_T := fun k => match k with
  | 0 => ("AliasStreams$Saves", "states", "[LAliasStreams$State;", true)
  | _ => ("AliasStreams$Saves", "used", "[Z", true)
def ty_Saves : Nat → FieldType := fun k => match k with
  | 0 => .array (.object "AliasStreams$State")
  | _ => .array .boolean
theorem nm_Saves : ∀ a, a < 2 → ∀ b, b < 2 → a ≠ b → (T_Saves a).2.1 ≠ (T_Saves b).2.1 := by decide +kernel
theorem ty_Saves_ok : ∀ k, k < 2 → parseFieldDescriptor (T_Saves k).2.2.1 = some (ty_Saves k) := by decide +kernel
def R_Script : String := "AliasStreams$Script"
def T_Script : u_T := fun k => match k with
  | 0 => ("AliasStreams$Script", "copy", "LAliasStreams$State;", true)
  | 1 => ("AliasStreams$Script", "symbols", "LAliasStreams$Symbols;", true)
  | _ => ("AliasStreams$Script", "taking", "LAliasStreams$Taking;", true)
def ty_Script : Nat → FieldType := fun k => match k with
  | 0 => .object "AliasStreams$State"
  | 1 => .object "AliasStreams$Symbols"
  | _ => .object "AliasStreams$Taking"
theorem nm_Script : ∀ a, a < 3 → ∀ b, b < 3 → a ≠ b → (T_Script a).2.1 ≠ (T_Script b).2.1 := by decide +kernel
theorem ty_Script_ok : ∀ k, k < 3 → parseFieldDescriptor (T_Script k).2.2.1 = some (ty_Script k) := by decide +kernel
def R_State : String := "AliasStreams$State"
def T_State : u_T := fun k => match k with
  | 0 => ("AliasStreams$State", "counts", "[I", true)
  | 1 => ("AliasStreams$State", "items", "[I", true)
  | 2 => ("AliasStreams$State", "tape", "LAliasStreams$Tape;", true)
  | _ => ("AliasStreams$State", "itemCount", "I", false)
def ty_State : Nat → FieldType := fun k => match k with
  | 0 => .array .int
  | 1 => .array .int
  | 2 => .object "AliasStreams$Tape"
  | _ => .int
theorem nm_State : ∀ a, a < 4 → ∀ b, b < 4 → a ≠ b → (T_State a).2.1 ≠ (T_State b).2.1 := by decide +kernel
theorem ty_State_ok : ∀ k, k < 4 → parseFieldDescriptor (T_State k).2.2.1 = some (ty_State k) := by decide +kernel
def R_Symbols : String := "AliasStreams$Symbols"
def T_Symbols : u_T := fun k => match k with
  | 0 => ("AliasStreams$Symbols", "symbols", "[I", true)
  | 1 => ("AliasStreams$Symbols", "models", "[I", true)
  | _ => ("AliasStreams$Symbols", "count", "I", false)
def ty_Symbols : Nat → FieldType := fun k => match k with
  | 0 => .array .int
  | 1 => .array .int
  | _ => .int
theorem nm_Symbols : ∀ a, a < 3 → ∀ b, b < 3 → a ≠ b → (T_Symbols a).2.1 ≠ (T_Symbols b).2.1 := by decide +kernel
theorem ty_Symbols_ok : ∀ k, k < 3 → parseFieldDescriptor (T_Symbols k).2.2.1 = some (ty_Symbols k) := by decide +kernel
def R_Taking : String := "AliasStreams$Taking"
def T_Taking : u_T := fun k => match k with
  | 0 => ("AliasStreams$Taking", "symbols", "[I", true)
  | 1 => ("AliasStreams$Taking", "statesBefore", "[I", true)
  | 2 => ("AliasStreams$Taking", "digitsBefore", "[I", true)
  | 3 => ("AliasStreams$Taking", "digitsRemoved", "[I", true)
  | 4 => ("AliasStreams$Taking", "heads", "[I", true)
  | 5 => ("AliasStreams$Taking", "digitsLeft", "I", false)
  | 6 => ("AliasStreams$Taking", "failedAt", "I", false)
  | _ => ("AliasStreams$Taking", "intact", "Z", false)
def ty_Taking : Nat → FieldType := fun k => match k with
  | 0 => .array .int
  | 1 => .array .int
  | 2 => .array .int
  | 3 => .array .int
  | 4 => .array .int
  | 5 => .int
  | 6 => .int
  | _ => .boolean
theorem nm_Taking : ∀ a, a < 8 → ∀ b, b < 8 → a ≠ b → (T_Taking a).2.1 ≠ (T_Taking b).2.1 := by decide +kernel
theorem ty_Taking_ok : ∀ k, k < 8 → parseFieldDescriptor (T_Taking k).2.2.1 = some (ty_Taking k) := by decide +kernel
def R_Tape : String := "AliasStreams$Tape"
def T_Tape : u_T := fun k => match k with
  | 0 => ("AliasStreams$Tape", "plan", "[I", true)
  | 1 => ("AliasStreams$Tape", "digits", "[I", true)
  | 2 => ("AliasStreams$Tape", "heads", "[I", true)
  | 3 => ("AliasStreams$Tape", "planLength", "I", false)
  | _ => ("AliasStreams$Tape", "digitCount", "I", false)
def ty_Tape : Nat → FieldType := fun k => match k with
  | 0 => .array .int
  | 1 => .array .int
  | 2 => .array .int
  | 3 => .int
  | _ => .int
theorem nm_Tape : ∀ a, a < 5 → ∀ b, b < 5 → a ≠ b → (T_Tape a).2.1 ≠ (T_Tape b).2.1 := by decide +kernel
theorem ty_Tape_ok : ∀ k, k < 5 → parseFieldDescriptor (T_Tape k).2.2.1 = some (ty_Tape k) := by decide +kernel
def R_Text : String := "AliasStreams$Text"
def T_Text : u_T := fun k => match k with
  | 0 => ("AliasStreams$Text", "characters", "[I", true)
  | 1 => ("AliasStreams$Text", "counts", "[I", true)
  | 2 => ("AliasStreams$Text", "items", "[I", true)
  | 3 => ("AliasStreams$Text", "length", "I", false)
  | 4 => ("AliasStreams$Text", "symbolCount", "I", false)
  | 5 => ("AliasStreams$Text", "modelCount", "I", false)
  | 6 => ("AliasStreams$Text", "itemCount", "I", false)
  | _ => ("AliasStreams$Text", "place", "I", false)
def ty_Text : Nat → FieldType := fun k => match k with
  | 0 => .array .int
  | 1 => .array .int
  | 2 => .array .int
  | 3 => .int
  | 4 => .int
  | 5 => .int
  | 6 => .int
  | _ => .int
theorem nm_Text : ∀ a, a < 8 → ∀ b, b < 8 → a ≠ b → (T_Text a).2.1 ≠ (T_Text b).2.1 := by decide +kernel
theorem ty_Text_ok : ∀ k, k < 8 → parseFieldDescriptor (T_Text k).2.2.1 = some (ty_Text k) := by decide +kernel
def R_AS : String := "AliasStreams"
def T_AS : u_T := fun k => match k with
  | 0 => ("AliasStreams", "text", "LAliasStreams$Text;", true)
  | 1 => ("AliasStreams", "models", "LAliasStreams$Models;", true)
  | 2 => ("AliasStreams", "now", "LAliasStreams$State;", true)
  | 3 => ("AliasStreams", "history", "LAliasStreams$History;", true)
  | 4 => ("AliasStreams", "saves", "LAliasStreams$Saves;", true)
  | 5 => ("AliasStreams", "symbols", "LAliasStreams$Symbols;", true)
  | 6 => ("AliasStreams", "taking", "LAliasStreams$Taking;", true)
  | 7 => ("AliasStreams", "otherTaking", "LAliasStreams$Taking;", true)
  | 8 => ("AliasStreams", "trialTape", "LAliasStreams$Tape;", true)
  | _ => ("AliasStreams", "commands", "LAliasStreams$Script;", true)
def ty_AS : Nat → FieldType := fun k => match k with
  | 0 => .object "AliasStreams$Text"
  | 1 => .object "AliasStreams$Models"
  | 2 => .object "AliasStreams$State"
  | 3 => .object "AliasStreams$History"
  | 4 => .object "AliasStreams$Saves"
  | 5 => .object "AliasStreams$Symbols"
  | 6 => .object "AliasStreams$Taking"
  | 7 => .object "AliasStreams$Taking"
  | 8 => .object "AliasStreams$Tape"
  | _ => .object "AliasStreams$Script"
theorem nm_AS : ∀ a, a < 10 → ∀ b, b < 10 → a ≠ b → (T_AS a).2.1 ≠ (T_AS b).2.1 := by decide +kernel
theorem ty_AS_ok : ∀ k, k < 10 → parseFieldDescriptor (T_AS k).2.2.1 = some (ty_AS k) := by decide +kernel
def R_RM : String := "AliasStreamsModel"
def T_RM : u_T := fun k => match k with
  | 0 => ("AliasStreamsModel", "refusal", "I", false)
  | 1 => ("AliasStreamsModel", "text", "[I", true)
  | 2 => ("AliasStreamsModel", "textSize", "I", false)
  | 3 => ("AliasStreamsModel", "spot", "I", false)
  | 4 => ("AliasStreamsModel", "symbols", "I", false)
  | 5 => ("AliasStreamsModel", "models", "I", false)
  | 6 => ("AliasStreamsModel", "readSymbols", "I", false)
  | 7 => ("AliasStreamsModel", "readModels", "I", false)
  | 8 => ("AliasStreamsModel", "read", "[I", true)
  | 9 => ("AliasStreamsModel", "now", "[I", true)
  | 10 => ("AliasStreamsModel", "trial", "[I", true)
  | 11 => ("AliasStreamsModel", "other", "[I", true)
  | 12 => ("AliasStreamsModel", "diary", "[I", true)
  | 13 => ("AliasStreamsModel", "acts", "I", false)
  | 14 => ("AliasStreamsModel", "kept", "[I", true)
  | 15 => ("AliasStreamsModel", "isKept", "[Z", true)
  | 16 => ("AliasStreamsModel", "frequency", "[I", true)
  | 17 => ("AliasStreamsModel", "closed", "[I", true)
  | 18 => ("AliasStreamsModel", "alias", "[I", true)
  | 19 => ("AliasStreamsModel", "symbolOf", "[I", true)
  | 20 => ("AliasStreamsModel", "indexOf", "[I", true)
  | 21 => ("AliasStreamsModel", "slotOf", "[I", true)
  | 22 => ("AliasStreamsModel", "rests", "[I", true)
  | 23 => ("AliasStreamsModel", "isOpen", "[Z", true)
  | 24 => ("AliasStreamsModel", "took", "[I", true)
  | 25 => ("AliasStreamsModel", "stateAhead", "[I", true)
  | 26 => ("AliasStreamsModel", "digitsAhead", "[I", true)
  | 27 => ("AliasStreamsModel", "taken", "I", false)
  | 28 => ("AliasStreamsModel", "tookNow", "[I", true)
  | 29 => ("AliasStreamsModel", "sequence", "[I", true)
  | 30 => ("AliasStreamsModel", "modelOf", "[I", true)
  | _ => ("AliasStreamsModel", "sequenced", "I", false)
def ty_RM : Nat → FieldType := fun k => match k with
  | 0 => .int
  | 1 => .array .int
  | 2 => .int
  | 3 => .int
  | 4 => .int
  | 5 => .int
  | 6 => .int
  | 7 => .int
  | 8 => .array .int
  | 9 => .array .int
  | 10 => .array .int
  | 11 => .array .int
  | 12 => .array .int
  | 13 => .int
  | 14 => .array .int
  | 15 => .array .boolean
  | 16 => .array .int
  | 17 => .array .int
  | 18 => .array .int
  | 19 => .array .int
  | 20 => .array .int
  | 21 => .array .int
  | 22 => .array .int
  | 23 => .array .boolean
  | 24 => .array .int
  | 25 => .array .int
  | 26 => .array .int
  | 27 => .int
  | 28 => .array .int
  | 29 => .array .int
  | 30 => .array .int
  | _ => .int
theorem nm_RM : ∀ a, a < 32 → ∀ b, b < 32 → a ≠ b → (T_RM a).2.1 ≠ (T_RM b).2.1 := by decide +kernel
theorem ty_RM_ok : ∀ k, k < 32 → parseFieldDescriptor (T_RM k).2.2.1 = some (ty_RM k) := by decide +kernel
abbrev zCl : List vw_C := [(R_History, T_History, 3), (R_Model, T_Model, 9), (R_Models, T_Models, 3), (R_Saves, T_Saves, 2), (R_Script, T_Script, 3), (R_State, T_State, 4), (R_Symbols, T_Symbols, 3), (R_Taking, T_Taking, 8), (R_Tape, T_Tape, 5), (R_Text, T_Text, 8), (R_AS, T_AS, 10), (R_RM, T_RM, 32)]
/-- the good words of the tables, and those of nest mates -/
def zWd : List Cond := lw_tbl.filter goodWord
def zisN : Cond → Bool
  | .methodLinkNest _ _ _ _ => true
  | .fieldLinkNest _ _ _ _ _ _ => true
  | _ => false
def zNs : List Cond := lw_tbl.filter zisN
theorem zmem {w : Cond} (i : Nat) (h : tables_1[i]? = some w) (hg : goodWord w = true) : w ∈ zWd := List.mem_filter.mpr ⟨List.mem_append_right _ (List.mem_of_getElem? h), hg⟩
theorem zmemN {w : Cond} (i : Nat) (h : tables_1[i]? = some w) (hg : zisN w = true) : w ∈ zNs := List.mem_filter.mpr ⟨List.mem_append_right _ (List.mem_of_getElem? h), hg⟩
theorem zmemS {w : Cond} (i : Nat) (h : (k2_sels lw_privs)[i]? = some w) (hg : goodWord w = true) : w ∈ zWd := List.mem_filter.mpr ⟨List.mem_append_left _ (List.mem_of_getElem? h), hg⟩
theorem in_History : ∀ w ∈ u_ws R_History T_History 3, w ∈ zWd := by
  have h1 : ∀ w ∈ u_ws R_History T_History 3, w ∈ tables_1 := by decide +kernel
  have h2 : (u_ws R_History T_History 3).all goodWord = true := by decide +kernel
  exact fun w hw => List.mem_filter.mpr ⟨List.mem_append_right _ (h1 w hw), List.all_eq_true.mp h2 w hw⟩
theorem in_Model : ∀ w ∈ u_ws R_Model T_Model 9, w ∈ zWd := by
  have h1 : ∀ w ∈ u_ws R_Model T_Model 9, w ∈ tables_1 := by decide +kernel
  have h2 : (u_ws R_Model T_Model 9).all goodWord = true := by decide +kernel
  exact fun w hw => List.mem_filter.mpr ⟨List.mem_append_right _ (h1 w hw), List.all_eq_true.mp h2 w hw⟩
theorem in_Models : ∀ w ∈ u_ws R_Models T_Models 3, w ∈ zWd := by
  have h1 : ∀ w ∈ u_ws R_Models T_Models 3, w ∈ tables_1 := by decide +kernel
  have h2 : (u_ws R_Models T_Models 3).all goodWord = true := by decide +kernel
  exact fun w hw => List.mem_filter.mpr ⟨List.mem_append_right _ (h1 w hw), List.all_eq_true.mp h2 w hw⟩
theorem in_Saves : ∀ w ∈ u_ws R_Saves T_Saves 2, w ∈ zWd := by
  have h1 : ∀ w ∈ u_ws R_Saves T_Saves 2, w ∈ tables_1 := by decide +kernel
  have h2 : (u_ws R_Saves T_Saves 2).all goodWord = true := by decide +kernel
  exact fun w hw => List.mem_filter.mpr ⟨List.mem_append_right _ (h1 w hw), List.all_eq_true.mp h2 w hw⟩
theorem in_Script : ∀ w ∈ u_ws R_Script T_Script 3, w ∈ zWd := by
  have h1 : ∀ w ∈ u_ws R_Script T_Script 3, w ∈ tables_1 := by decide +kernel
  have h2 : (u_ws R_Script T_Script 3).all goodWord = true := by decide +kernel
  exact fun w hw => List.mem_filter.mpr ⟨List.mem_append_right _ (h1 w hw), List.all_eq_true.mp h2 w hw⟩
theorem in_State : ∀ w ∈ u_ws R_State T_State 4, w ∈ zWd := by
  have h1 : ∀ w ∈ u_ws R_State T_State 4, w ∈ tables_1 := by decide +kernel
  have h2 : (u_ws R_State T_State 4).all goodWord = true := by decide +kernel
  exact fun w hw => List.mem_filter.mpr ⟨List.mem_append_right _ (h1 w hw), List.all_eq_true.mp h2 w hw⟩
theorem in_Symbols : ∀ w ∈ u_ws R_Symbols T_Symbols 3, w ∈ zWd := by
  have h1 : ∀ w ∈ u_ws R_Symbols T_Symbols 3, w ∈ tables_1 := by decide +kernel
  have h2 : (u_ws R_Symbols T_Symbols 3).all goodWord = true := by decide +kernel
  exact fun w hw => List.mem_filter.mpr ⟨List.mem_append_right _ (h1 w hw), List.all_eq_true.mp h2 w hw⟩
theorem in_Taking : ∀ w ∈ u_ws R_Taking T_Taking 8, w ∈ zWd := by
  have h1 : ∀ w ∈ u_ws R_Taking T_Taking 8, w ∈ tables_1 := by decide +kernel
  have h2 : (u_ws R_Taking T_Taking 8).all goodWord = true := by decide +kernel
  exact fun w hw => List.mem_filter.mpr ⟨List.mem_append_right _ (h1 w hw), List.all_eq_true.mp h2 w hw⟩
theorem in_Tape : ∀ w ∈ u_ws R_Tape T_Tape 5, w ∈ zWd := by
  have h1 : ∀ w ∈ u_ws R_Tape T_Tape 5, w ∈ tables_1 := by decide +kernel
  have h2 : (u_ws R_Tape T_Tape 5).all goodWord = true := by decide +kernel
  exact fun w hw => List.mem_filter.mpr ⟨List.mem_append_right _ (h1 w hw), List.all_eq_true.mp h2 w hw⟩
theorem in_Text : ∀ w ∈ u_ws R_Text T_Text 8, w ∈ zWd := by
  have h1 : ∀ w ∈ u_ws R_Text T_Text 8, w ∈ tables_1 := by decide +kernel
  have h2 : (u_ws R_Text T_Text 8).all goodWord = true := by decide +kernel
  exact fun w hw => List.mem_filter.mpr ⟨List.mem_append_right _ (h1 w hw), List.all_eq_true.mp h2 w hw⟩
theorem in_AS : ∀ w ∈ u_ws R_AS T_AS 10, w ∈ zWd := by
  have h1 : ∀ w ∈ u_ws R_AS T_AS 10, w ∈ tables_1 := by decide +kernel
  have h2 : (u_ws R_AS T_AS 10).all goodWord = true := by decide +kernel
  exact fun w hw => List.mem_filter.mpr ⟨List.mem_append_right _ (h1 w hw), List.all_eq_true.mp h2 w hw⟩
theorem in_RM : ∀ w ∈ u_ws R_RM T_RM 32, w ∈ zWd := by
  have h1 : ∀ w ∈ u_ws R_RM T_RM 32, w ∈ tables_1 := by decide +kernel
  have h2 : (u_ws R_RM T_RM 32).all goodWord = true := by decide +kernel
  exact fun w hw => List.mem_filter.mpr ⟨List.mem_append_right _ (h1 w hw), List.all_eq_true.mp h2 w hw⟩
def y_History_init : MethodName := ⟨"AliasStreams$History", "<init>", "()V"⟩
abbrev b_History_init : ByteArray := prog_2_method_1_code
def y_History_forget : MethodName := ⟨"AliasStreams$History", "forget", "()V"⟩
abbrev b_History_forget : ByteArray := prog_2_method_2_code
def y_History_remember : MethodName := ⟨"AliasStreams$History", "remember", "(LAliasStreams$State;)V"⟩
abbrev b_History_remember : ByteArray := prog_2_method_3_code
def y_History_giveBack : MethodName := ⟨"AliasStreams$History", "giveBack", "(LAliasStreams$State;)V"⟩
abbrev b_History_giveBack : ByteArray := prog_2_method_4_code
def y_History_placeInRing : MethodName := ⟨"AliasStreams$History", "placeInRing", "(I)I"⟩
abbrev b_History_placeInRing : ByteArray := prog_2_method_5_code
def y_Model_init : MethodName := ⟨"AliasStreams$Model", "<init>", "()V"⟩
abbrev b_Model_init : ByteArray := prog_3_method_1_code
def y_Model_frequencyOf : MethodName := ⟨"AliasStreams$Model", "frequencyOf", "(I)I"⟩
abbrev b_Model_frequencyOf : ByteArray := prog_3_method_2_code
def y_Model_slotOf : MethodName := ⟨"AliasStreams$Model", "slotOf", "(II)I"⟩
abbrev b_Model_slotOf : ByteArray := prog_3_method_3_code
def y_Model_make : MethodName := ⟨"AliasStreams$Model", "make", "([II)V"⟩
abbrev b_Model_make : ByteArray := prog_3_method_4_code
def y_Model_shareOut : MethodName := ⟨"AliasStreams$Model", "shareOut", "([III)I"⟩
abbrev b_Model_shareOut : ByteArray := prog_3_method_5_code
def y_Model_giveOne : MethodName := ⟨"AliasStreams$Model", "giveOne", "()V"⟩
abbrev b_Model_giveOne : ByteArray := prog_3_method_6_code
def y_Model_takeOne : MethodName := ⟨"AliasStreams$Model", "takeOne", "()V"⟩
abbrev b_Model_takeOne : ByteArray := prog_3_method_7_code
def y_Model_closeBuckets : MethodName := ⟨"AliasStreams$Model", "closeBuckets", "()V"⟩
abbrev b_Model_closeBuckets : ByteArray := prog_3_method_8_code
def y_Model_closeOne : MethodName := ⟨"AliasStreams$Model", "closeOne", "()V"⟩
abbrev b_Model_closeOne : ByteArray := prog_3_method_9_code
def y_Model_firstToClose : MethodName := ⟨"AliasStreams$Model", "firstToClose", "()I"⟩
abbrev b_Model_firstToClose : ByteArray := prog_3_method_10_code
def y_Model_fullestOpen : MethodName := ⟨"AliasStreams$Model", "fullestOpen", "()I"⟩
abbrev b_Model_fullestOpen : ByteArray := prog_3_method_11_code
def y_Model_numberSlots : MethodName := ⟨"AliasStreams$Model", "numberSlots", "()V"⟩
abbrev b_Model_numberSlots : ByteArray := prog_3_method_12_code
def y_Model_enterSlot : MethodName := ⟨"AliasStreams$Model", "enterSlot", "(III)V"⟩
abbrev b_Model_enterSlot : ByteArray := prog_3_method_13_code
def y_Models_init : MethodName := ⟨"AliasStreams$Models", "<init>", "()V"⟩
abbrev b_Models_init : ByteArray := prog_4_method_1_code
def y_Models_hasSymbol : MethodName := ⟨"AliasStreams$Models", "hasSymbol", "(I)Z"⟩
abbrev b_Models_hasSymbol : ByteArray := prog_4_method_2_code
def y_Models_hasModel : MethodName := ⟨"AliasStreams$Models", "hasModel", "(I)Z"⟩
abbrev b_Models_hasModel : ByteArray := prog_4_method_3_code
def y_Models_allowItem : MethodName := ⟨"AliasStreams$Models", "allowItem", "(I)Z"⟩
abbrev b_Models_allowItem : ByteArray := prog_4_method_4_code
def y_Models_of : MethodName := ⟨"AliasStreams$Models", "of", "(I)LAliasStreams$Model;"⟩
abbrev b_Models_of : ByteArray := prog_4_method_5_code
def y_Models_makeAll : MethodName := ⟨"AliasStreams$Models", "makeAll", "([I)V"⟩
abbrev b_Models_makeAll : ByteArray := prog_4_method_6_code
def y_Saves_init : MethodName := ⟨"AliasStreams$Saves", "<init>", "()V"⟩
abbrev b_Saves_init : ByteArray := prog_5_method_1_code
def y_Saves_empty : MethodName := ⟨"AliasStreams$Saves", "empty", "()V"⟩
abbrev b_Saves_empty : ByteArray := prog_5_method_2_code
def y_Script_init : MethodName := ⟨"AliasStreams$Script", "<init>", "()V"⟩
abbrev b_Script_init : ByteArray := prog_6_method_1_code
def y_Script_run : MethodName := ⟨"AliasStreams$Script", "run", "(LAliasStreams$State;LAliasStreams$Models;IJ)I"⟩
abbrev b_Script_run : ByteArray := prog_6_method_2_code
def y_Script_groupOf : MethodName := ⟨"AliasStreams$Script", "groupOf", "(JI)I"⟩
abbrev b_Script_groupOf : ByteArray := prog_6_method_3_code
def y_Script_execute : MethodName := ⟨"AliasStreams$Script", "execute", "(ILAliasStreams$Models;)Z"⟩
abbrev b_Script_execute : ByteArray := prog_6_method_4_code
def y_Script_addLast : MethodName := ⟨"AliasStreams$Script", "addLast", "(ILAliasStreams$Models;)Z"⟩
abbrev b_Script_addLast : ByteArray := prog_6_method_5_code
def y_Script_dropOne : MethodName := ⟨"AliasStreams$Script", "dropOne", "(I)Z"⟩
abbrev b_Script_dropOne : ByteArray := prog_6_method_6_code
def y_Script_fillTape : MethodName := ⟨"AliasStreams$Script", "fillTape", "(LAliasStreams$Models;)Z"⟩
abbrev b_Script_fillTape : ByteArray := prog_6_method_7_code
def y_Script_takeMessage : MethodName := ⟨"AliasStreams$Script", "takeMessage", "(LAliasStreams$Models;)Z"⟩
abbrev b_Script_takeMessage : ByteArray := prog_6_method_8_code
def y_Script_changeDigit : MethodName := ⟨"AliasStreams$Script", "changeDigit", "(II)Z"⟩
abbrev b_Script_changeDigit : ByteArray := prog_6_method_9_code
def y_Script_isIntact : MethodName := ⟨"AliasStreams$Script", "isIntact", "(LAliasStreams$Models;)Z"⟩
abbrev b_Script_isIntact : ByteArray := prog_6_method_10_code
def y_Script_takes : MethodName := ⟨"AliasStreams$Script", "takes", "(IILAliasStreams$Models;)Z"⟩
abbrev b_Script_takes : ByteArray := prog_6_method_11_code
def y_State_init : MethodName := ⟨"AliasStreams$State", "<init>", "()V"⟩
abbrev b_State_init : ByteArray := prog_7_method_1_code
def y_State_copyFrom : MethodName := ⟨"AliasStreams$State", "copyFrom", "(LAliasStreams$State;)V"⟩
abbrev b_State_copyFrom : ByteArray := prog_7_method_2_code
def y_State_begin : MethodName := ⟨"AliasStreams$State", "begin", "(LAliasStreams$Text;)V"⟩
abbrev b_State_begin : ByteArray := prog_7_method_3_code
def y_State_countOf : MethodName := ⟨"AliasStreams$State", "countOf", "(II)I"⟩
abbrev b_State_countOf : ByteArray := prog_7_method_4_code
def y_State_sumOfCounts : MethodName := ⟨"AliasStreams$State", "sumOfCounts", "(I)I"⟩
abbrev b_State_sumOfCounts : ByteArray := prog_7_method_5_code
def y_State_changeCount : MethodName := ⟨"AliasStreams$State", "changeCount", "(III)V"⟩
abbrev b_State_changeCount : ByteArray := prog_7_method_6_code
def y_State_hasItem : MethodName := ⟨"AliasStreams$State", "hasItem", "(I)Z"⟩
abbrev b_State_hasItem : ByteArray := prog_7_method_7_code
def y_State_addItem : MethodName := ⟨"AliasStreams$State", "addItem", "(II)V"⟩
abbrev b_State_addItem : ByteArray := prog_7_method_8_code
def y_State_dropItem : MethodName := ⟨"AliasStreams$State", "dropItem", "(I)V"⟩
abbrev b_State_dropItem : ByteArray := prog_7_method_9_code
def y_State_takeMessage : MethodName := ⟨"AliasStreams$State", "takeMessage", "(LAliasStreams$Taking;)V"⟩
abbrev b_State_takeMessage : ByteArray := prog_7_method_10_code
def y_Symbols_init : MethodName := ⟨"AliasStreams$Symbols", "<init>", "()V"⟩
abbrev b_Symbols_init : ByteArray := prog_8_method_1_code
def y_Symbols_list : MethodName := ⟨"AliasStreams$Symbols", "list", "(LAliasStreams$State;)V"⟩
abbrev b_Symbols_list : ByteArray := prog_8_method_2_code
def y_Symbols_has : MethodName := ⟨"AliasStreams$Symbols", "has", "(I)Z"⟩
abbrev b_Symbols_has : ByteArray := prog_8_method_3_code
def y_Symbols_useOneModel : MethodName := ⟨"AliasStreams$Symbols", "useOneModel", "(I)V"⟩
abbrev b_Symbols_useOneModel : ByteArray := prog_8_method_4_code
def y_Symbols_firstUnfit : MethodName := ⟨"AliasStreams$Symbols", "firstUnfit", "(LAliasStreams$Models;)I"⟩
abbrev b_Symbols_firstUnfit : ByteArray := prog_8_method_5_code
def y_Symbols_multiply : MethodName := ⟨"AliasStreams$Symbols", "multiply", "(LAliasStreams$Model;II)J"⟩
abbrev b_Symbols_multiply : ByteArray := prog_8_method_6_code
def y_Taking_init : MethodName := ⟨"AliasStreams$Taking", "<init>", "()V"⟩
abbrev b_Taking_init : ByteArray := prog_9_method_1_code
def y_Taking_takeAll : MethodName := ⟨"AliasStreams$Taking", "takeAll", "(LAliasStreams$Tape;LAliasStreams$Models;)V"⟩
abbrev b_Taking_takeAll : ByteArray := prog_9_method_2_code
def y_Taking_takeSymbol : MethodName := ⟨"AliasStreams$Taking", "takeSymbol", "(LAliasStreams$Tape;LAliasStreams$Model;I)V"⟩
abbrev b_Taking_takeSymbol : ByteArray := prog_9_method_3_code
def y_Taking_countOtherSymbols : MethodName := ⟨"AliasStreams$Taking", "countOtherSymbols", "(LAliasStreams$Taking;)I"⟩
abbrev b_Taking_countOtherSymbols : ByteArray := prog_9_method_4_code
def y_Tape_init : MethodName := ⟨"AliasStreams$Tape", "<init>", "()V"⟩
abbrev b_Tape_init : ByteArray := prog_10_method_1_code
def y_Tape_hasPlanned : MethodName := ⟨"AliasStreams$Tape", "hasPlanned", "(I)Z"⟩
abbrev b_Tape_hasPlanned : ByteArray := prog_10_method_2_code
def y_Tape_hasDigit : MethodName := ⟨"AliasStreams$Tape", "hasDigit", "(I)Z"⟩
abbrev b_Tape_hasDigit : ByteArray := prog_10_method_3_code
def y_Tape_becomeEmpty : MethodName := ⟨"AliasStreams$Tape", "becomeEmpty", "()V"⟩
abbrev b_Tape_becomeEmpty : ByteArray := prog_10_method_4_code
def y_Tape_copyFrom : MethodName := ⟨"AliasStreams$Tape", "copyFrom", "(LAliasStreams$Tape;)V"⟩
abbrev b_Tape_copyFrom : ByteArray := prog_10_method_5_code
def y_Tape_fill : MethodName := ⟨"AliasStreams$Tape", "fill", "(LAliasStreams$Symbols;LAliasStreams$Models;)V"⟩
abbrev b_Tape_fill : ByteArray := prog_10_method_6_code
def y_Tape_putSymbol : MethodName := ⟨"AliasStreams$Tape", "putSymbol", "(LAliasStreams$Model;II)V"⟩
abbrev b_Tape_putSymbol : ByteArray := prog_10_method_7_code
def y_Tape_writeDigit : MethodName := ⟨"AliasStreams$Tape", "writeDigit", "(I)V"⟩
abbrev b_Tape_writeDigit : ByteArray := prog_10_method_8_code
def y_Tape_itemsNeeded : MethodName := ⟨"AliasStreams$Tape", "itemsNeeded", "()I"⟩
abbrev b_Tape_itemsNeeded : ByteArray := prog_10_method_9_code
def y_Tape_disturb : MethodName := ⟨"AliasStreams$Tape", "disturb", "(I)V"⟩
abbrev b_Tape_disturb : ByteArray := prog_10_method_10_code
def y_Text_init : MethodName := ⟨"AliasStreams$Text", "<init>", "()V"⟩
abbrev b_Text_init : ByteArray := prog_11_method_1_code
def y_Text_add : MethodName := ⟨"AliasStreams$Text", "add", "(I)V"⟩
abbrev b_Text_add : ByteArray := prog_11_method_2_code
def y_Text_read : MethodName := ⟨"AliasStreams$Text", "read", "()I"⟩
abbrev b_Text_read : ByteArray := prog_11_method_3_code
def y_Text_here : MethodName := ⟨"AliasStreams$Text", "here", "()I"⟩
abbrev b_Text_here : ByteArray := prog_11_method_4_code
def y_Text_digitHere : MethodName := ⟨"AliasStreams$Text", "digitHere", "()I"⟩
abbrev b_Text_digitHere : ByteArray := prog_11_method_5_code
def y_Text_readSize : MethodName := ⟨"AliasStreams$Text", "readSize", "()Z"⟩
abbrev b_Text_readSize : ByteArray := prog_11_method_6_code
def y_Text_readModels : MethodName := ⟨"AliasStreams$Text", "readModels", "()Z"⟩
abbrev b_Text_readModels : ByteArray := prog_11_method_7_code
def y_Text_readCounts : MethodName := ⟨"AliasStreams$Text", "readCounts", "(I)Z"⟩
abbrev b_Text_readCounts : ByteArray := prog_11_method_8_code
def y_Text_readItems : MethodName := ⟨"AliasStreams$Text", "readItems", "()Z"⟩
abbrev b_Text_readItems : ByteArray := prog_11_method_9_code
def y_Text_itemHere : MethodName := ⟨"AliasStreams$Text", "itemHere", "()I"⟩
abbrev b_Text_itemHere : ByteArray := prog_11_method_10_code
def y_AS_init : MethodName := ⟨"AliasStreams", "<init>", "()V"⟩
abbrev b_AS_init : ByteArray := prog_1_method_1_code
def y_AS_append : MethodName := ⟨"AliasStreams", "append", "(I)I"⟩
abbrev b_AS_append : ByteArray := prog_1_method_2_code
def y_AS_clearText : MethodName := ⟨"AliasStreams", "clearText", "()I"⟩
abbrev b_AS_clearText : ByteArray := prog_1_method_3_code
def y_AS_errorPosition : MethodName := ⟨"AliasStreams", "errorPosition", "()I"⟩
abbrev b_AS_errorPosition : ByteArray := prog_1_method_4_code
def y_AS_load : MethodName := ⟨"AliasStreams", "load", "()I"⟩
abbrev b_AS_load : ByteArray := prog_1_method_5_code
def y_AS_about : MethodName := ⟨"AliasStreams", "about", "(I)I"⟩
abbrev b_AS_about : ByteArray := prog_1_method_6_code
def y_AS_symbol : MethodName := ⟨"AliasStreams", "symbol", "(III)I"⟩
abbrev b_AS_symbol : ByteArray := prog_1_method_7_code
def y_AS_bucket : MethodName := ⟨"AliasStreams", "bucket", "(III)I"⟩
abbrev b_AS_bucket : ByteArray := prog_1_method_8_code
def y_AS_slot : MethodName := ⟨"AliasStreams", "slot", "(III)I"⟩
abbrev b_AS_slot : ByteArray := prog_1_method_9_code
def y_AS_item : MethodName := ⟨"AliasStreams", "item", "(I)I"⟩
abbrev b_AS_item : ByteArray := prog_1_method_10_code
def y_AS_tape : MethodName := ⟨"AliasStreams", "tape", "(II)I"⟩
abbrev b_AS_tape : ByteArray := prog_1_method_11_code
def y_AS_setCount : MethodName := ⟨"AliasStreams", "setCount", "(III)I"⟩
abbrev b_AS_setCount : ByteArray := prog_1_method_12_code
def y_AS_insert : MethodName := ⟨"AliasStreams", "insert", "(II)I"⟩
abbrev b_AS_insert : ByteArray := prog_1_method_13_code
def y_AS_remove : MethodName := ⟨"AliasStreams", "remove", "(I)I"⟩
abbrev b_AS_remove : ByteArray := prog_1_method_14_code
def y_AS_encode : MethodName := ⟨"AliasStreams", "encode", "()I"⟩
abbrev b_AS_encode : ByteArray := prog_1_method_15_code
def y_AS_decode : MethodName := ⟨"AliasStreams", "decode", "()I"⟩
abbrev b_AS_decode : ByteArray := prog_1_method_16_code
def y_AS_setDigit : MethodName := ⟨"AliasStreams", "setDigit", "(II)I"⟩
abbrev b_AS_setDigit : ByteArray := prog_1_method_17_code
def y_AS_setHead : MethodName := ⟨"AliasStreams", "setHead", "(II)I"⟩
abbrev b_AS_setHead : ByteArray := prog_1_method_18_code
def y_AS_setPlan : MethodName := ⟨"AliasStreams", "setPlan", "(II)I"⟩
abbrev b_AS_setPlan : ByteArray := prog_1_method_19_code
def y_AS_undo : MethodName := ⟨"AliasStreams", "undo", "()I"⟩
abbrev b_AS_undo : ByteArray := prog_1_method_20_code
def y_AS_taken : MethodName := ⟨"AliasStreams", "taken", "(II)I"⟩
abbrev b_AS_taken : ByteArray := prog_1_method_21_code
def y_AS_failure : MethodName := ⟨"AliasStreams", "failure", "()I"⟩
abbrev b_AS_failure : ByteArray := prog_1_method_22_code
def y_AS_unfit : MethodName := ⟨"AliasStreams", "unfit", "()I"⟩
abbrev b_AS_unfit : ByteArray := prog_1_method_23_code
def y_AS_digitsWith : MethodName := ⟨"AliasStreams", "digitsWith", "(I)I"⟩
abbrev b_AS_digitsWith : ByteArray := prog_1_method_24_code
def y_AS_product : MethodName := ⟨"AliasStreams", "product", "(III)J"⟩
abbrev b_AS_product : ByteArray := prog_1_method_25_code
def y_AS_bestModel : MethodName := ⟨"AliasStreams", "bestModel", "(II)I"⟩
abbrev b_AS_bestModel : ByteArray := prog_1_method_26_code
def y_AS_difference : MethodName := ⟨"AliasStreams", "difference", "()I"⟩
abbrev b_AS_difference : ByteArray := prog_1_method_27_code
def y_AS_effect : MethodName := ⟨"AliasStreams", "effect", "(III)I"⟩
abbrev b_AS_effect : ByteArray := prog_1_method_28_code
def y_AS_runScript : MethodName := ⟨"AliasStreams", "runScript", "(IJ)I"⟩
abbrev b_AS_runScript : ByteArray := prog_1_method_29_code
def y_AS_simulate : MethodName := ⟨"AliasStreams", "simulate", "(JI)I"⟩
abbrev b_AS_simulate : ByteArray := prog_1_method_30_code
def y_AS_save : MethodName := ⟨"AliasStreams", "save", "(I)I"⟩
abbrev b_AS_save : ByteArray := prog_1_method_31_code
def y_AS_restore : MethodName := ⟨"AliasStreams", "restore", "(I)I"⟩
abbrev b_AS_restore : ByteArray := prog_1_method_32_code
def y_AS_isHead : MethodName := ⟨"AliasStreams", "isHead", "(I)Z"⟩
abbrev b_AS_isHead : ByteArray := prog_1_method_33_code
def y_AS_isDigit : MethodName := ⟨"AliasStreams", "isDigit", "(I)Z"⟩
abbrev b_AS_isDigit : ByteArray := prog_1_method_34_code
def y_AS_isSaveSlot : MethodName := ⟨"AliasStreams", "isSaveSlot", "(I)Z"⟩
abbrev b_AS_isSaveSlot : ByteArray := prog_1_method_35_code
def y_AS_isCountPlace : MethodName := ⟨"AliasStreams", "isCountPlace", "(II)Z"⟩
abbrev b_AS_isCountPlace : ByteArray := prog_1_method_36_code
def y_AS_countIn : MethodName := ⟨"AliasStreams", "countIn", "([III)I"⟩
abbrev b_AS_countIn : ByteArray := prog_1_method_37_code
def y_RM_init : MethodName := ⟨"AliasStreamsModel", "<init>", "()V"⟩
abbrev b_RM_init : ByteArray := prog_13_method_1_code
def y_RM_thrown : MethodName := ⟨"AliasStreamsModel", "thrown", "()I"⟩
abbrev b_RM_thrown : ByteArray := prog_13_method_2_code
def y_RM_refused : MethodName := ⟨"AliasStreamsModel", "refused", "(I)Z"⟩
abbrev b_RM_refused : ByteArray := prog_13_method_3_code
def y_RM_in : MethodName := ⟨"AliasStreamsModel", "in", "(JJJ)Z"⟩
abbrev b_RM_in : ByteArray := prog_13_method_4_code
def y_RM_copyPage : MethodName := ⟨"AliasStreamsModel", "copyPage", "([II[II)V"⟩
abbrev b_RM_copyPage : ByteArray := prog_13_method_5_code
def y_RM_isModel : MethodName := ⟨"AliasStreamsModel", "isModel", "(I)Z"⟩
abbrev b_RM_isModel : ByteArray := prog_13_method_6_code
def y_RM_isSymbol : MethodName := ⟨"AliasStreamsModel", "isSymbol", "(I)Z"⟩
abbrev b_RM_isSymbol : ByteArray := prog_13_method_7_code
def y_RM_layFrequencies : MethodName := ⟨"AliasStreamsModel", "layFrequencies", "([II)V"⟩
abbrev b_RM_layFrequencies : ByteArray := prog_13_method_8_code
def y_RM_laySlots : MethodName := ⟨"AliasStreamsModel", "laySlots", "(I)V"⟩
abbrev b_RM_laySlots : ByteArray := prog_13_method_9_code
def y_RM_layTables : MethodName := ⟨"AliasStreamsModel", "layTables", "([I)V"⟩
abbrev b_RM_layTables : ByteArray := prog_13_method_10_code
def y_RM_layMessage : MethodName := ⟨"AliasStreamsModel", "layMessage", "([I)V"⟩
abbrev b_RM_layMessage : ByteArray := prog_13_method_11_code
def y_RM_unfitOf : MethodName := ⟨"AliasStreamsModel", "unfitOf", "()I"⟩
abbrev b_RM_unfitOf : ByteArray := prog_13_method_12_code
def y_RM_encodeTo : MethodName := ⟨"AliasStreamsModel", "encodeTo", "([I)V"⟩
abbrev b_RM_encodeTo : ByteArray := prog_13_method_13_code
def y_RM_take : MethodName := ⟨"AliasStreamsModel", "take", "([I)Z"⟩
abbrev b_RM_take : ByteArray := prog_13_method_14_code
def y_RM_fails : MethodName := ⟨"AliasStreamsModel", "fails", "([I)Z"⟩
abbrev b_RM_fails : ByteArray := prog_13_method_15_code
def y_RM_append : MethodName := ⟨"AliasStreamsModel", "append", "(I)I"⟩
abbrev b_RM_append : ByteArray := prog_13_method_16_code
def y_RM_clearText : MethodName := ⟨"AliasStreamsModel", "clearText", "()I"⟩
abbrev b_RM_clearText : ByteArray := prog_13_method_17_code
def y_RM_next : MethodName := ⟨"AliasStreamsModel", "next", "(I)I"⟩
abbrev b_RM_next : ByteArray := prog_13_method_18_code
def y_RM_accepts : MethodName := ⟨"AliasStreamsModel", "accepts", "(Z)Z"⟩
abbrev b_RM_accepts : ByteArray := prog_13_method_19_code
def y_RM_readCounts : MethodName := ⟨"AliasStreamsModel", "readCounts", "()Z"⟩
abbrev b_RM_readCounts : ByteArray := prog_13_method_20_code
def y_RM_readItems : MethodName := ⟨"AliasStreamsModel", "readItems", "()Z"⟩
abbrev b_RM_readItems : ByteArray := prog_13_method_21_code
def y_RM_readAll : MethodName := ⟨"AliasStreamsModel", "readAll", "()Z"⟩
abbrev b_RM_readAll : ByteArray := prog_13_method_22_code
def y_RM_errorPosition : MethodName := ⟨"AliasStreamsModel", "errorPosition", "()I"⟩
abbrev b_RM_errorPosition : ByteArray := prog_13_method_23_code
def y_RM_load : MethodName := ⟨"AliasStreamsModel", "load", "()I"⟩
abbrev b_RM_load : ByteArray := prog_13_method_24_code
def y_RM_about : MethodName := ⟨"AliasStreamsModel", "about", "(I)I"⟩
abbrev b_RM_about : ByteArray := prog_13_method_25_code
def y_RM_symbol : MethodName := ⟨"AliasStreamsModel", "symbol", "(III)I"⟩
abbrev b_RM_symbol : ByteArray := prog_13_method_26_code
def y_RM_bucket : MethodName := ⟨"AliasStreamsModel", "bucket", "(III)I"⟩
abbrev b_RM_bucket : ByteArray := prog_13_method_27_code
def y_RM_slot : MethodName := ⟨"AliasStreamsModel", "slot", "(III)I"⟩
abbrev b_RM_slot : ByteArray := prog_13_method_28_code
def y_RM_isItem : MethodName := ⟨"AliasStreamsModel", "isItem", "(I)Z"⟩
abbrev b_RM_isItem : ByteArray := prog_13_method_29_code
def y_RM_item : MethodName := ⟨"AliasStreamsModel", "item", "(I)I"⟩
abbrev b_RM_item : ByteArray := prog_13_method_30_code
def y_RM_tape : MethodName := ⟨"AliasStreamsModel", "tape", "(II)I"⟩
abbrev b_RM_tape : ByteArray := prog_13_method_31_code
def y_RM_note : MethodName := ⟨"AliasStreamsModel", "note", "()V"⟩
abbrev b_RM_note : ByteArray := prog_13_method_32_code
def y_RM_setCount : MethodName := ⟨"AliasStreamsModel", "setCount", "(III)I"⟩
abbrev b_RM_setCount : ByteArray := prog_13_method_33_code
def y_RM_isThing : MethodName := ⟨"AliasStreamsModel", "isThing", "(I)Z"⟩
abbrev b_RM_isThing : ByteArray := prog_13_method_34_code
def y_RM_put : MethodName := ⟨"AliasStreamsModel", "put", "([III)V"⟩
abbrev b_RM_put : ByteArray := prog_13_method_35_code
def y_RM_drop : MethodName := ⟨"AliasStreamsModel", "drop", "([II)I"⟩
abbrev b_RM_drop : ByteArray := prog_13_method_36_code
def y_RM_insert : MethodName := ⟨"AliasStreamsModel", "insert", "(II)I"⟩
abbrev b_RM_insert : ByteArray := prog_13_method_37_code
def y_RM_remove : MethodName := ⟨"AliasStreamsModel", "remove", "(I)I"⟩
abbrev b_RM_remove : ByteArray := prog_13_method_38_code
def y_RM_canEncode : MethodName := ⟨"AliasStreamsModel", "canEncode", "([I)Z"⟩
abbrev b_RM_canEncode : ByteArray := prog_13_method_39_code
def y_RM_encode : MethodName := ⟨"AliasStreamsModel", "encode", "()I"⟩
abbrev b_RM_encode : ByteArray := prog_13_method_40_code
def y_RM_itemsOf : MethodName := ⟨"AliasStreamsModel", "itemsOf", "([I)I"⟩
abbrev b_RM_itemsOf : ByteArray := prog_13_method_41_code
def y_RM_canDecode : MethodName := ⟨"AliasStreamsModel", "canDecode", "([I)Z"⟩
abbrev b_RM_canDecode : ByteArray := prog_13_method_42_code
def y_RM_decodeTo : MethodName := ⟨"AliasStreamsModel", "decodeTo", "([I)V"⟩
abbrev b_RM_decodeTo : ByteArray := prog_13_method_43_code
def y_RM_decode : MethodName := ⟨"AliasStreamsModel", "decode", "()I"⟩
abbrev b_RM_decode : ByteArray := prog_13_method_44_code
def y_RM_isDigit : MethodName := ⟨"AliasStreamsModel", "isDigit", "(I)Z"⟩
abbrev b_RM_isDigit : ByteArray := prog_13_method_45_code
def y_RM_setDigit : MethodName := ⟨"AliasStreamsModel", "setDigit", "(II)I"⟩
abbrev b_RM_setDigit : ByteArray := prog_13_method_46_code
def y_RM_setHead : MethodName := ⟨"AliasStreamsModel", "setHead", "(II)I"⟩
abbrev b_RM_setHead : ByteArray := prog_13_method_47_code
def y_RM_isPlanned : MethodName := ⟨"AliasStreamsModel", "isPlanned", "(I)Z"⟩
abbrev b_RM_isPlanned : ByteArray := prog_13_method_48_code
def y_RM_setPlan : MethodName := ⟨"AliasStreamsModel", "setPlan", "(II)I"⟩
abbrev b_RM_setPlan : ByteArray := prog_13_method_49_code
def y_RM_undo : MethodName := ⟨"AliasStreamsModel", "undo", "()I"⟩
abbrev b_RM_undo : ByteArray := prog_13_method_50_code
def y_RM_taken : MethodName := ⟨"AliasStreamsModel", "taken", "(II)I"⟩
abbrev b_RM_taken : ByteArray := prog_13_method_51_code
def y_RM_failure : MethodName := ⟨"AliasStreamsModel", "failure", "()I"⟩
abbrev b_RM_failure : ByteArray := prog_13_method_52_code
def y_RM_unfit : MethodName := ⟨"AliasStreamsModel", "unfit", "()I"⟩
abbrev b_RM_unfit : ByteArray := prog_13_method_53_code
def y_RM_digitsWith : MethodName := ⟨"AliasStreamsModel", "digitsWith", "(I)I"⟩
abbrev b_RM_digitsWith : ByteArray := prog_13_method_54_code
def y_RM_productOf : MethodName := ⟨"AliasStreamsModel", "productOf", "(III)J"⟩
abbrev b_RM_productOf : ByteArray := prog_13_method_55_code
def y_RM_isSequenced : MethodName := ⟨"AliasStreamsModel", "isSequenced", "(I)Z"⟩
abbrev b_RM_isSequenced : ByteArray := prog_13_method_56_code
def y_RM_product : MethodName := ⟨"AliasStreamsModel", "product", "(III)J"⟩
abbrev b_RM_product : ByteArray := prog_13_method_57_code
def y_RM_bestModel : MethodName := ⟨"AliasStreamsModel", "bestModel", "(II)I"⟩
abbrev b_RM_bestModel : ByteArray := prog_13_method_58_code
def y_RM_difference : MethodName := ⟨"AliasStreamsModel", "difference", "()I"⟩
abbrev b_RM_difference : ByteArray := prog_13_method_59_code
def y_RM_effect : MethodName := ⟨"AliasStreamsModel", "effect", "(III)I"⟩
abbrev b_RM_effect : ByteArray := prog_13_method_60_code
def y_RM_does : MethodName := ⟨"AliasStreamsModel", "does", "(III)Z"⟩
abbrev b_RM_does : ByteArray := prog_13_method_61_code
def y_RM_tenTo : MethodName := ⟨"AliasStreamsModel", "tenTo", "(I)J"⟩
abbrev b_RM_tenTo : ByteArray := prog_13_method_62_code
def y_RM_runScript : MethodName := ⟨"AliasStreamsModel", "runScript", "(IJ)I"⟩
abbrev b_RM_runScript : ByteArray := prog_13_method_63_code
def y_RM_simulate : MethodName := ⟨"AliasStreamsModel", "simulate", "(JI)I"⟩
abbrev b_RM_simulate : ByteArray := prog_13_method_64_code
def y_RM_save : MethodName := ⟨"AliasStreamsModel", "save", "(I)I"⟩
abbrev b_RM_save : ByteArray := prog_13_method_65_code
def y_RM_restore : MethodName := ⟨"AliasStreamsModel", "restore", "(I)I"⟩
abbrev b_RM_restore : ByteArray := prog_13_method_66_code
def y_LW_append : MethodName := ⟨"AliasStreamsLaw", "append", "(LAliasStreams;I[J)I"⟩
abbrev b_LW_append : ByteArray := method_3_code
def y_LW_load : MethodName := ⟨"AliasStreamsLaw", "load", "(LAliasStreams;[J)I"⟩
abbrev b_LW_load : ByteArray := method_4_code
def y_LW_about : MethodName := ⟨"AliasStreamsLaw", "about", "(LAliasStreams;I[J)I"⟩
abbrev b_LW_about : ByteArray := method_5_code
def y_LW_symbol : MethodName := ⟨"AliasStreamsLaw", "symbol", "(LAliasStreams;III[J)I"⟩
abbrev b_LW_symbol : ByteArray := method_6_code
def y_LW_bucket : MethodName := ⟨"AliasStreamsLaw", "bucket", "(LAliasStreams;III[J)I"⟩
abbrev b_LW_bucket : ByteArray := method_7_code
def y_LW_slot : MethodName := ⟨"AliasStreamsLaw", "slot", "(LAliasStreams;III[J)I"⟩
abbrev b_LW_slot : ByteArray := method_8_code
def y_LW_item : MethodName := ⟨"AliasStreamsLaw", "item", "(LAliasStreams;I[J)I"⟩
abbrev b_LW_item : ByteArray := method_9_code
def y_LW_tape : MethodName := ⟨"AliasStreamsLaw", "tape", "(LAliasStreams;II[J)I"⟩
abbrev b_LW_tape : ByteArray := method_10_code
def y_LW_setCount : MethodName := ⟨"AliasStreamsLaw", "setCount", "(LAliasStreams;III[J)I"⟩
abbrev b_LW_setCount : ByteArray := method_11_code
def y_LW_insert : MethodName := ⟨"AliasStreamsLaw", "insert", "(LAliasStreams;II[J)I"⟩
abbrev b_LW_insert : ByteArray := method_12_code
def y_LW_remove : MethodName := ⟨"AliasStreamsLaw", "remove", "(LAliasStreams;I[J)I"⟩
abbrev b_LW_remove : ByteArray := method_13_code
def y_LW_encode : MethodName := ⟨"AliasStreamsLaw", "encode", "(LAliasStreams;[J)I"⟩
abbrev b_LW_encode : ByteArray := method_14_code
def y_LW_decode : MethodName := ⟨"AliasStreamsLaw", "decode", "(LAliasStreams;[J)I"⟩
abbrev b_LW_decode : ByteArray := method_15_code
def y_LW_setDigit : MethodName := ⟨"AliasStreamsLaw", "setDigit", "(LAliasStreams;II[J)I"⟩
abbrev b_LW_setDigit : ByteArray := method_16_code
def y_LW_setHead : MethodName := ⟨"AliasStreamsLaw", "setHead", "(LAliasStreams;II[J)I"⟩
abbrev b_LW_setHead : ByteArray := method_17_code
def y_LW_setPlan : MethodName := ⟨"AliasStreamsLaw", "setPlan", "(LAliasStreams;II[J)I"⟩
abbrev b_LW_setPlan : ByteArray := method_18_code
def y_LW_undo : MethodName := ⟨"AliasStreamsLaw", "undo", "(LAliasStreams;[J)I"⟩
abbrev b_LW_undo : ByteArray := method_19_code
def y_LW_taken : MethodName := ⟨"AliasStreamsLaw", "taken", "(LAliasStreams;II[J)I"⟩
abbrev b_LW_taken : ByteArray := method_20_code
def y_LW_digitsWith : MethodName := ⟨"AliasStreamsLaw", "digitsWith", "(LAliasStreams;I[J)I"⟩
abbrev b_LW_digitsWith : ByteArray := method_21_code
def y_LW_product : MethodName := ⟨"AliasStreamsLaw", "product", "(LAliasStreams;III[J)I"⟩
abbrev b_LW_product : ByteArray := method_22_code
def y_LW_bestModel : MethodName := ⟨"AliasStreamsLaw", "bestModel", "(LAliasStreams;II[J)I"⟩
abbrev b_LW_bestModel : ByteArray := method_23_code
def y_LW_effect : MethodName := ⟨"AliasStreamsLaw", "effect", "(LAliasStreams;III[J)I"⟩
abbrev b_LW_effect : ByteArray := method_24_code
def y_LW_runScript : MethodName := ⟨"AliasStreamsLaw", "runScript", "(LAliasStreams;IJ[J)I"⟩
abbrev b_LW_runScript : ByteArray := method_25_code
def y_LW_simulate : MethodName := ⟨"AliasStreamsLaw", "simulate", "(LAliasStreams;JI[J)I"⟩
abbrev b_LW_simulate : ByteArray := method_26_code
def y_LW_save : MethodName := ⟨"AliasStreamsLaw", "save", "(LAliasStreams;I[J)I"⟩
abbrev b_LW_save : ByteArray := method_27_code
def y_LW_restore : MethodName := ⟨"AliasStreamsLaw", "restore", "(LAliasStreams;I[J)I"⟩
abbrev b_LW_restore : ByteArray := method_28_code
def y_LW_law : MethodName := ⟨"AliasStreamsLaw", "law", "([I)Z"⟩
abbrev b_LW_law : ByteArray := code
def y_Math_floorMod : MethodName := ⟨"java/lang/Math", "floorMod", "(II)I"⟩
abbrev b_Math_floorMod : ByteArray := prog_18_method_50_code
end
section
/-! the words by their places -/
theorem q0 : (Jvm.Cond.initialized "AliasStreamsLaw") ∈ zWd := zmem 0 (by decide +kernel) rfl
theorem q1 : (Jvm.Cond.initialized "AliasStreams") ∈ zWd := zmem 1 (by decide +kernel) rfl
theorem q2 : (Jvm.Cond.initialized "AliasStreams$Text") ∈ zWd := zmem 2 (by decide +kernel) rfl
theorem q3 : (Jvm.Cond.initialized "AliasStreams$Models") ∈ zWd := zmem 3 (by decide +kernel) rfl
theorem q4 : (Jvm.Cond.initialized "AliasStreams$Model") ∈ zWd := zmem 4 (by decide +kernel) rfl
theorem q5 : (Jvm.Cond.initialized "AliasStreams$State") ∈ zWd := zmem 5 (by decide +kernel) rfl
theorem q6 : (Jvm.Cond.initialized "AliasStreams$Tape") ∈ zWd := zmem 6 (by decide +kernel) rfl
theorem q7 : (Jvm.Cond.initialized "AliasStreams$History") ∈ zWd := zmem 7 (by decide +kernel) rfl
theorem q8 : (Jvm.Cond.initialized "AliasStreams$Saves") ∈ zWd := zmem 8 (by decide +kernel) rfl
theorem q9 : (Jvm.Cond.initialized "AliasStreams$Symbols") ∈ zWd := zmem 9 (by decide +kernel) rfl
theorem q10 : (Jvm.Cond.initialized "AliasStreams$Taking") ∈ zWd := zmem 10 (by decide +kernel) rfl
theorem q11 : (Jvm.Cond.initialized "AliasStreams$Script") ∈ zWd := zmem 11 (by decide +kernel) rfl
theorem q12 : (Jvm.Cond.initialized "java/lang/Math") ∈ zWd := zmem 12 (by decide +kernel) rfl
theorem q13 : (Jvm.Cond.initialized "AliasStreamsModel") ∈ zWd := zmem 13 (by decide +kernel) rfl
theorem q14 : (Jvm.Cond.initialized "java/lang/Throwable") ∈ zWd := zmem 14 (by decide +kernel) rfl
theorem q15 : (Jvm.Cond.initialized "java/lang/Exception") ∈ zWd := zmem 15 (by decide +kernel) rfl
theorem q16 : (Jvm.Cond.initialized "java/lang/RuntimeException") ∈ zWd := zmem 16 (by decide +kernel) rfl
theorem q17 : (Jvm.Cond.initialized "java/lang/IllegalArgumentException") ∈ zWd := zmem 17 (by decide +kernel) rfl
theorem q18 : (Jvm.Cond.initialized "java/lang/IllegalStateException") ∈ zWd := zmem 18 (by decide +kernel) rfl
theorem q19 : (Jvm.Cond.initialized "java/lang/System") ∈ zWd := zmem 19 (by decide +kernel) rfl
theorem q20 : (Jvm.Cond.initialized "java/lang/IndexOutOfBoundsException") ∈ zWd := zmem 20 (by decide +kernel) rfl
theorem q21 : (Jvm.Cond.classLink "AliasStreamsLaw" (8 : Nat) "AliasStreams") ∈ zWd := zmem 21 (by decide +kernel) rfl
theorem q22 : (Jvm.Cond.instantiable "AliasStreams" (10 : Nat)) ∈ zWd := zmem 22 (by decide +kernel) rfl
theorem q23 : (Jvm.Cond.methodLink "AliasStreamsLaw" (100 : Nat) ({ cls := "AliasStreams", name := "<init>", desc := "()V" } : Jvm.MethodName)) ∈ zWd := zmem 23 (by decide +kernel) rfl
theorem q24 : (Jvm.Cond.instanceMethod ({ cls := "AliasStreams", name := "<init>", desc := "()V" } : Jvm.MethodName)) ∈ zWd := zmem 24 (by decide +kernel) rfl
theorem q25 : (Jvm.Cond.code ({ cls := "AliasStreams", name := "<init>", desc := "()V" } : Jvm.MethodName) prog_1_method_1_code (1 : Nat) (Option.none : Option Jvm.ClassFile.FieldType)) ∈ zWd := zmem 25 (by decide +kernel) rfl
theorem q26 : (Jvm.Cond.methodLink "AliasStreams" (3 : Nat) ({ cls := "java/lang/Object", name := "<init>", desc := "()V" } : Jvm.MethodName)) ∈ zWd := zmem 26 (by decide +kernel) rfl
theorem q27 : (Jvm.Cond.instanceMethod ({ cls := "java/lang/Object", name := "<init>", desc := "()V" } : Jvm.MethodName)) ∈ zWd := zmem 27 (by decide +kernel) rfl
theorem q28 : (Jvm.Cond.code ({ cls := "java/lang/Object", name := "<init>", desc := "()V" } : Jvm.MethodName) object_method_1_code (1 : Nat) (Option.none : Option Jvm.ClassFile.FieldType)) ∈ zWd := zmem 28 (by decide +kernel) rfl
theorem q29 : (Jvm.Cond.classLink "AliasStreams" (9 : Nat) "AliasStreams$Text") ∈ zWd := zmem 29 (by decide +kernel) rfl
theorem q30 : (Jvm.Cond.instantiable "AliasStreams$Text" (8 : Nat)) ∈ zWd := zmem 30 (by decide +kernel) rfl
theorem q31 : (Jvm.Cond.methodLinkNest "AliasStreams" (11 : Nat) ({ cls := "AliasStreams$Text", name := "<init>", desc := "()V" } : Jvm.MethodName) "AliasStreams") ∈ zNs := zmemN 31 (by decide +kernel) rfl
theorem q32 : (Jvm.Cond.instanceMethod ({ cls := "AliasStreams$Text", name := "<init>", desc := "()V" } : Jvm.MethodName)) ∈ zWd := zmem 32 (by decide +kernel) rfl
theorem q33 : (Jvm.Cond.code ({ cls := "AliasStreams$Text", name := "<init>", desc := "()V" } : Jvm.MethodName) prog_11_method_1_code (1 : Nat) (Option.none : Option Jvm.ClassFile.FieldType)) ∈ zWd := zmem 33 (by decide +kernel) rfl
theorem q34 : (Jvm.Cond.methodLink "AliasStreams$Text" (3 : Nat) ({ cls := "java/lang/Object", name := "<init>", desc := "()V" } : Jvm.MethodName)) ∈ zWd := zmem 34 (by decide +kernel) rfl
theorem q35 : (Jvm.Cond.fieldLink "AliasStreams$Text" (9 : Nat) "AliasStreams$Text" "characters" "[I") ∈ zWd := zmem 35 (by decide +kernel) rfl
theorem q36 : (Jvm.Cond.fieldLink "AliasStreams$Text" (15 : Nat) "AliasStreams$Text" "counts" "[I") ∈ zWd := zmem 36 (by decide +kernel) rfl
theorem q37 : (Jvm.Cond.fieldLinkNest "AliasStreams$State" (39 : Nat) "AliasStreams$Text" "counts" "[I" "AliasStreams") ∈ zNs := zmemN 37 (by decide +kernel) rfl
theorem q38 : (Jvm.Cond.fieldLink "AliasStreams$Text" (18 : Nat) "AliasStreams$Text" "items" "[I") ∈ zWd := zmem 38 (by decide +kernel) rfl
theorem q39 : (Jvm.Cond.fieldLinkNest "AliasStreams$State" (42 : Nat) "AliasStreams$Text" "items" "[I" "AliasStreams") ∈ zNs := zmemN 39 (by decide +kernel) rfl
theorem q40 : (Jvm.Cond.fieldLink "AliasStreams$Text" (21 : Nat) "AliasStreams$Text" "length" "I") ∈ zWd := zmem 40 (by decide +kernel) rfl
theorem q41 : (Jvm.Cond.fieldLinkNest "AliasStreams" (90 : Nat) "AliasStreams$Text" "length" "I" "AliasStreams") ∈ zNs := zmemN 41 (by decide +kernel) rfl
theorem q42 : (Jvm.Cond.fieldLink "AliasStreams$Text" (28 : Nat) "AliasStreams$Text" "symbolCount" "I") ∈ zWd := zmem 42 (by decide +kernel) rfl
theorem q43 : (Jvm.Cond.fieldLinkNest "AliasStreams" (109 : Nat) "AliasStreams$Text" "symbolCount" "I" "AliasStreams") ∈ zNs := zmemN 43 (by decide +kernel) rfl
theorem q44 : (Jvm.Cond.fieldLink "AliasStreams$Text" (31 : Nat) "AliasStreams$Text" "modelCount" "I") ∈ zWd := zmem 44 (by decide +kernel) rfl
theorem q45 : (Jvm.Cond.fieldLinkNest "AliasStreams" (113 : Nat) "AliasStreams$Text" "modelCount" "I" "AliasStreams") ∈ zNs := zmemN 45 (by decide +kernel) rfl
theorem q46 : (Jvm.Cond.fieldLink "AliasStreams$Text" (34 : Nat) "AliasStreams$Text" "itemCount" "I") ∈ zWd := zmem 46 (by decide +kernel) rfl
theorem q47 : (Jvm.Cond.fieldLinkNest "AliasStreams$State" (43 : Nat) "AliasStreams$Text" "itemCount" "I" "AliasStreams") ∈ zNs := zmemN 47 (by decide +kernel) rfl
theorem q48 : (Jvm.Cond.fieldLink "AliasStreams$Text" (25 : Nat) "AliasStreams$Text" "place" "I") ∈ zWd := zmem 48 (by decide +kernel) rfl
theorem q66 : (Jvm.Cond.arrayClass Jvm.ClassFile.FieldType.int) ∈ zWd := zmem 66 (by decide +kernel) rfl
theorem q67 : (Jvm.Cond.classLink "AliasStreams" (16 : Nat) "AliasStreams$Models") ∈ zWd := zmem 67 (by decide +kernel) rfl
theorem q68 : (Jvm.Cond.instantiable "AliasStreams$Models" (3 : Nat)) ∈ zWd := zmem 68 (by decide +kernel) rfl
theorem q69 : (Jvm.Cond.methodLinkNest "AliasStreams" (18 : Nat) ({ cls := "AliasStreams$Models", name := "<init>", desc := "()V" } : Jvm.MethodName) "AliasStreams") ∈ zNs := zmemN 69 (by decide +kernel) rfl
theorem q70 : (Jvm.Cond.instanceMethod ({ cls := "AliasStreams$Models", name := "<init>", desc := "()V" } : Jvm.MethodName)) ∈ zWd := zmem 70 (by decide +kernel) rfl
theorem q71 : (Jvm.Cond.code ({ cls := "AliasStreams$Models", name := "<init>", desc := "()V" } : Jvm.MethodName) prog_4_method_1_code (2 : Nat) (Option.none : Option Jvm.ClassFile.FieldType)) ∈ zWd := zmem 71 (by decide +kernel) rfl
theorem q72 : (Jvm.Cond.methodLink "AliasStreams$Models" (3 : Nat) ({ cls := "java/lang/Object", name := "<init>", desc := "()V" } : Jvm.MethodName)) ∈ zWd := zmem 72 (by decide +kernel) rfl
theorem q73 : (Jvm.Cond.classLink "AliasStreams$Models" (9 : Nat) "AliasStreams$Model") ∈ zWd := zmem 73 (by decide +kernel) rfl
theorem q75 : (Jvm.Cond.instantiable "AliasStreams$Model" (9 : Nat)) ∈ zWd := zmem 75 (by decide +kernel) rfl
theorem q76 : (Jvm.Cond.methodLinkNest "AliasStreams$Models" (24 : Nat) ({ cls := "AliasStreams$Model", name := "<init>", desc := "()V" } : Jvm.MethodName) "AliasStreams") ∈ zNs := zmemN 76 (by decide +kernel) rfl
theorem q77 : (Jvm.Cond.instanceMethod ({ cls := "AliasStreams$Model", name := "<init>", desc := "()V" } : Jvm.MethodName)) ∈ zWd := zmem 77 (by decide +kernel) rfl
theorem q78 : (Jvm.Cond.code ({ cls := "AliasStreams$Model", name := "<init>", desc := "()V" } : Jvm.MethodName) prog_3_method_1_code (1 : Nat) (Option.none : Option Jvm.ClassFile.FieldType)) ∈ zWd := zmem 78 (by decide +kernel) rfl
theorem q79 : (Jvm.Cond.methodLink "AliasStreams$Model" (3 : Nat) ({ cls := "java/lang/Object", name := "<init>", desc := "()V" } : Jvm.MethodName)) ∈ zWd := zmem 79 (by decide +kernel) rfl
theorem q80 : (Jvm.Cond.fieldLink "AliasStreams$Model" (9 : Nat) "AliasStreams$Model" "frequency" "[I") ∈ zWd := zmem 80 (by decide +kernel) rfl
theorem q81 : (Jvm.Cond.fieldLink "AliasStreams$Model" (15 : Nat) "AliasStreams$Model" "remainder" "[I") ∈ zWd := zmem 81 (by decide +kernel) rfl
theorem q82 : (Jvm.Cond.fieldLink "AliasStreams$Model" (18 : Nat) "AliasStreams$Model" "rest" "[I") ∈ zWd := zmem 82 (by decide +kernel) rfl
theorem q83 : (Jvm.Cond.fieldLinkNest "AliasStreams" (186 : Nat) "AliasStreams$Model" "rest" "[I" "AliasStreams") ∈ zNs := zmemN 83 (by decide +kernel) rfl
theorem q84 : (Jvm.Cond.fieldLink "AliasStreams$Model" (21 : Nat) "AliasStreams$Model" "alias" "[I") ∈ zWd := zmem 84 (by decide +kernel) rfl
theorem q85 : (Jvm.Cond.fieldLinkNest "AliasStreams" (189 : Nat) "AliasStreams$Model" "alias" "[I" "AliasStreams") ∈ zNs := zmemN 85 (by decide +kernel) rfl
theorem q86 : (Jvm.Cond.fieldLink "AliasStreams$Model" (24 : Nat) "AliasStreams$Model" "open" "[Z") ∈ zWd := zmem 86 (by decide +kernel) rfl
theorem q87 : (Jvm.Cond.fieldLink "AliasStreams$Model" (28 : Nat) "AliasStreams$Model" "slotSymbol" "[I") ∈ zWd := zmem 87 (by decide +kernel) rfl
theorem q88 : (Jvm.Cond.fieldLinkNest "AliasStreams$Taking" (60 : Nat) "AliasStreams$Model" "slotSymbol" "[I" "AliasStreams") ∈ zNs := zmemN 88 (by decide +kernel) rfl
theorem q89 : (Jvm.Cond.fieldLinkNest "AliasStreams" (194 : Nat) "AliasStreams$Model" "slotSymbol" "[I" "AliasStreams") ∈ zNs := zmemN 89 (by decide +kernel) rfl
theorem q90 : (Jvm.Cond.fieldLink "AliasStreams$Model" (31 : Nat) "AliasStreams$Model" "slotIndex" "[I") ∈ zWd := zmem 90 (by decide +kernel) rfl
theorem q91 : (Jvm.Cond.fieldLinkNest "AliasStreams$Taking" (69 : Nat) "AliasStreams$Model" "slotIndex" "[I" "AliasStreams") ∈ zNs := zmemN 91 (by decide +kernel) rfl
theorem q92 : (Jvm.Cond.fieldLinkNest "AliasStreams" (197 : Nat) "AliasStreams$Model" "slotIndex" "[I" "AliasStreams") ∈ zNs := zmemN 92 (by decide +kernel) rfl
theorem q93 : (Jvm.Cond.fieldLink "AliasStreams$Model" (34 : Nat) "AliasStreams$Model" "slotOfIndex" "[I") ∈ zWd := zmem 93 (by decide +kernel) rfl
theorem q94 : (Jvm.Cond.fieldLink "AliasStreams$Model" (37 : Nat) "AliasStreams$Model" "slotsSeen" "[I") ∈ zWd := zmem 94 (by decide +kernel) rfl
theorem q114 : (Jvm.Cond.arrayClass Jvm.ClassFile.FieldType.boolean) ∈ zWd := zmem 114 (by decide +kernel) rfl
theorem q115 : (Jvm.Cond.fieldLink "AliasStreams$Models" (11 : Nat) "AliasStreams$Models" "tables" "[LAliasStreams$Model;") ∈ zWd := zmem 115 (by decide +kernel) rfl
theorem q116 : (Jvm.Cond.fieldLink "AliasStreams$Models" (17 : Nat) "AliasStreams$Models" "symbolCount" "I") ∈ zWd := zmem 116 (by decide +kernel) rfl
theorem q117 : (Jvm.Cond.fieldLinkNest "AliasStreams" (112 : Nat) "AliasStreams$Models" "symbolCount" "I" "AliasStreams") ∈ zNs := zmemN 117 (by decide +kernel) rfl
theorem q118 : (Jvm.Cond.fieldLink "AliasStreams$Models" (21 : Nat) "AliasStreams$Models" "modelCount" "I") ∈ zWd := zmem 118 (by decide +kernel) rfl
theorem q119 : (Jvm.Cond.fieldLinkNest "AliasStreams" (116 : Nat) "AliasStreams$Models" "modelCount" "I" "AliasStreams") ∈ zNs := zmemN 119 (by decide +kernel) rfl
theorem q127 : (Jvm.Cond.classLink "AliasStreams" (23 : Nat) "AliasStreams$State") ∈ zWd := zmem 127 (by decide +kernel) rfl
theorem q128 : (Jvm.Cond.instantiable "AliasStreams$State" (4 : Nat)) ∈ zWd := zmem 128 (by decide +kernel) rfl
theorem q129 : (Jvm.Cond.methodLinkNest "AliasStreams" (25 : Nat) ({ cls := "AliasStreams$State", name := "<init>", desc := "()V" } : Jvm.MethodName) "AliasStreams") ∈ zNs := zmemN 129 (by decide +kernel) rfl
theorem q130 : (Jvm.Cond.instanceMethod ({ cls := "AliasStreams$State", name := "<init>", desc := "()V" } : Jvm.MethodName)) ∈ zWd := zmem 130 (by decide +kernel) rfl
theorem q131 : (Jvm.Cond.code ({ cls := "AliasStreams$State", name := "<init>", desc := "()V" } : Jvm.MethodName) prog_7_method_1_code (1 : Nat) (Option.none : Option Jvm.ClassFile.FieldType)) ∈ zWd := zmem 131 (by decide +kernel) rfl
theorem q132 : (Jvm.Cond.methodLink "AliasStreams$State" (3 : Nat) ({ cls := "java/lang/Object", name := "<init>", desc := "()V" } : Jvm.MethodName)) ∈ zWd := zmem 132 (by decide +kernel) rfl
theorem q133 : (Jvm.Cond.classLink "AliasStreams$State" (18 : Nat) "AliasStreams$Tape") ∈ zWd := zmem 133 (by decide +kernel) rfl
theorem q134 : (Jvm.Cond.instantiable "AliasStreams$Tape" (5 : Nat)) ∈ zWd := zmem 134 (by decide +kernel) rfl
theorem q135 : (Jvm.Cond.methodLinkNest "AliasStreams$State" (20 : Nat) ({ cls := "AliasStreams$Tape", name := "<init>", desc := "()V" } : Jvm.MethodName) "AliasStreams") ∈ zNs := zmemN 135 (by decide +kernel) rfl
theorem q136 : (Jvm.Cond.instanceMethod ({ cls := "AliasStreams$Tape", name := "<init>", desc := "()V" } : Jvm.MethodName)) ∈ zWd := zmem 136 (by decide +kernel) rfl
theorem q137 : (Jvm.Cond.code ({ cls := "AliasStreams$Tape", name := "<init>", desc := "()V" } : Jvm.MethodName) prog_10_method_1_code (1 : Nat) (Option.none : Option Jvm.ClassFile.FieldType)) ∈ zWd := zmem 137 (by decide +kernel) rfl
theorem q138 : (Jvm.Cond.methodLink "AliasStreams$Tape" (3 : Nat) ({ cls := "java/lang/Object", name := "<init>", desc := "()V" } : Jvm.MethodName)) ∈ zWd := zmem 138 (by decide +kernel) rfl
theorem q139 : (Jvm.Cond.fieldLink "AliasStreams$Tape" (9 : Nat) "AliasStreams$Tape" "plan" "[I") ∈ zWd := zmem 139 (by decide +kernel) rfl
theorem q140 : (Jvm.Cond.fieldLinkNest "AliasStreams$Taking" (43 : Nat) "AliasStreams$Tape" "plan" "[I" "AliasStreams") ∈ zNs := zmemN 140 (by decide +kernel) rfl
theorem q141 : (Jvm.Cond.fieldLinkNest "AliasStreams$State" (62 : Nat) "AliasStreams$Tape" "plan" "[I" "AliasStreams") ∈ zNs := zmemN 141 (by decide +kernel) rfl
theorem q142 : (Jvm.Cond.fieldLinkNest "AliasStreams" (219 : Nat) "AliasStreams$Tape" "plan" "[I" "AliasStreams") ∈ zNs := zmemN 142 (by decide +kernel) rfl
theorem q143 : (Jvm.Cond.fieldLink "AliasStreams$Tape" (15 : Nat) "AliasStreams$Tape" "digits" "[I") ∈ zWd := zmem 143 (by decide +kernel) rfl
theorem q144 : (Jvm.Cond.fieldLinkNest "AliasStreams$Taking" (76 : Nat) "AliasStreams$Tape" "digits" "[I" "AliasStreams") ∈ zNs := zmemN 144 (by decide +kernel) rfl
theorem q145 : (Jvm.Cond.fieldLinkNest "AliasStreams$Script" (132 : Nat) "AliasStreams$Tape" "digits" "[I" "AliasStreams") ∈ zNs := zmemN 145 (by decide +kernel) rfl
theorem q146 : (Jvm.Cond.fieldLinkNest "AliasStreams" (213 : Nat) "AliasStreams$Tape" "digits" "[I" "AliasStreams") ∈ zNs := zmemN 146 (by decide +kernel) rfl
theorem q147 : (Jvm.Cond.fieldLink "AliasStreams$Tape" (18 : Nat) "AliasStreams$Tape" "heads" "[I") ∈ zWd := zmem 147 (by decide +kernel) rfl
theorem q148 : (Jvm.Cond.fieldLinkNest "AliasStreams$Taking" (27 : Nat) "AliasStreams$Tape" "heads" "[I" "AliasStreams") ∈ zNs := zmemN 148 (by decide +kernel) rfl
theorem q149 : (Jvm.Cond.fieldLinkNest "AliasStreams" (225 : Nat) "AliasStreams$Tape" "heads" "[I" "AliasStreams") ∈ zNs := zmemN 149 (by decide +kernel) rfl
theorem q150 : (Jvm.Cond.fieldLink "AliasStreams$Tape" (21 : Nat) "AliasStreams$Tape" "planLength" "I") ∈ zWd := zmem 150 (by decide +kernel) rfl
theorem q151 : (Jvm.Cond.fieldLinkNest "AliasStreams$Taking" (40 : Nat) "AliasStreams$Tape" "planLength" "I" "AliasStreams") ∈ zNs := zmemN 151 (by decide +kernel) rfl
theorem q152 : (Jvm.Cond.fieldLinkNest "AliasStreams" (143 : Nat) "AliasStreams$Tape" "planLength" "I" "AliasStreams") ∈ zNs := zmemN 152 (by decide +kernel) rfl
theorem q153 : (Jvm.Cond.fieldLinkNest "AliasStreams$State" (59 : Nat) "AliasStreams$Tape" "planLength" "I" "AliasStreams") ∈ zNs := zmemN 153 (by decide +kernel) rfl
theorem q154 : (Jvm.Cond.fieldLinkNest "AliasStreams$Taking" (30 : Nat) "AliasStreams$Tape" "digitCount" "I" "AliasStreams") ∈ zNs := zmemN 154 (by decide +kernel) rfl
theorem q155 : (Jvm.Cond.fieldLink "AliasStreams$Tape" (25 : Nat) "AliasStreams$Tape" "digitCount" "I") ∈ zWd := zmem 155 (by decide +kernel) rfl
theorem q156 : (Jvm.Cond.fieldLinkNest "AliasStreams$Script" (72 : Nat) "AliasStreams$Tape" "digitCount" "I" "AliasStreams") ∈ zNs := zmemN 156 (by decide +kernel) rfl
theorem q157 : (Jvm.Cond.fieldLinkNest "AliasStreams" (140 : Nat) "AliasStreams$Tape" "digitCount" "I" "AliasStreams") ∈ zNs := zmemN 157 (by decide +kernel) rfl
theorem q169 : (Jvm.Cond.fieldLink "AliasStreams$State" (9 : Nat) "AliasStreams$State" "counts" "[I") ∈ zWd := zmem 169 (by decide +kernel) rfl
theorem q170 : (Jvm.Cond.fieldLinkNest "AliasStreams" (75 : Nat) "AliasStreams$State" "counts" "[I" "AliasStreams") ∈ zNs := zmemN 170 (by decide +kernel) rfl
theorem q171 : (Jvm.Cond.fieldLink "AliasStreams$State" (15 : Nat) "AliasStreams$State" "items" "[I") ∈ zWd := zmem 171 (by decide +kernel) rfl
theorem q172 : (Jvm.Cond.fieldLinkNest "AliasStreams$Symbols" (27 : Nat) "AliasStreams$State" "items" "[I" "AliasStreams") ∈ zNs := zmemN 172 (by decide +kernel) rfl
theorem q173 : (Jvm.Cond.fieldLinkNest "AliasStreams" (205 : Nat) "AliasStreams$State" "items" "[I" "AliasStreams") ∈ zNs := zmemN 173 (by decide +kernel) rfl
theorem q174 : (Jvm.Cond.fieldLink "AliasStreams$State" (21 : Nat) "AliasStreams$State" "tape" "LAliasStreams$Tape;") ∈ zWd := zmem 174 (by decide +kernel) rfl
theorem q175 : (Jvm.Cond.fieldLinkNest "AliasStreams$Script" (68 : Nat) "AliasStreams$State" "tape" "LAliasStreams$Tape;" "AliasStreams") ∈ zNs := zmemN 175 (by decide +kernel) rfl
theorem q176 : (Jvm.Cond.fieldLinkNest "AliasStreams" (137 : Nat) "AliasStreams$State" "tape" "LAliasStreams$Tape;" "AliasStreams") ∈ zNs := zmemN 176 (by decide +kernel) rfl
theorem q177 : (Jvm.Cond.fieldLinkNest "AliasStreams$Symbols" (22 : Nat) "AliasStreams$State" "itemCount" "I" "AliasStreams") ∈ zNs := zmemN 177 (by decide +kernel) rfl
theorem q178 : (Jvm.Cond.fieldLink "AliasStreams$State" (31 : Nat) "AliasStreams$State" "itemCount" "I") ∈ zWd := zmem 178 (by decide +kernel) rfl
theorem q179 : (Jvm.Cond.fieldLinkNest "AliasStreams$Script" (90 : Nat) "AliasStreams$State" "itemCount" "I" "AliasStreams") ∈ zNs := zmemN 179 (by decide +kernel) rfl
theorem q180 : (Jvm.Cond.fieldLinkNest "AliasStreams" (127 : Nat) "AliasStreams$State" "itemCount" "I" "AliasStreams") ∈ zNs := zmemN 180 (by decide +kernel) rfl
theorem q190 : (Jvm.Cond.classLink "AliasStreams" (30 : Nat) "AliasStreams$History") ∈ zWd := zmem 190 (by decide +kernel) rfl
theorem q191 : (Jvm.Cond.instantiable "AliasStreams$History" (3 : Nat)) ∈ zWd := zmem 191 (by decide +kernel) rfl
theorem q192 : (Jvm.Cond.methodLinkNest "AliasStreams" (32 : Nat) ({ cls := "AliasStreams$History", name := "<init>", desc := "()V" } : Jvm.MethodName) "AliasStreams") ∈ zNs := zmemN 192 (by decide +kernel) rfl
theorem q193 : (Jvm.Cond.instanceMethod ({ cls := "AliasStreams$History", name := "<init>", desc := "()V" } : Jvm.MethodName)) ∈ zWd := zmem 193 (by decide +kernel) rfl
theorem q194 : (Jvm.Cond.code ({ cls := "AliasStreams$History", name := "<init>", desc := "()V" } : Jvm.MethodName) prog_2_method_1_code (2 : Nat) (Option.none : Option Jvm.ClassFile.FieldType)) ∈ zWd := zmem 194 (by decide +kernel) rfl
theorem q195 : (Jvm.Cond.methodLink "AliasStreams$History" (3 : Nat) ({ cls := "java/lang/Object", name := "<init>", desc := "()V" } : Jvm.MethodName)) ∈ zWd := zmem 195 (by decide +kernel) rfl
theorem q196 : (Jvm.Cond.classLink "AliasStreams$History" (9 : Nat) "AliasStreams$State") ∈ zWd := zmem 196 (by decide +kernel) rfl
theorem q198 : (Jvm.Cond.methodLinkNest "AliasStreams$History" (17 : Nat) ({ cls := "AliasStreams$State", name := "<init>", desc := "()V" } : Jvm.MethodName) "AliasStreams") ∈ zNs := zmemN 198 (by decide +kernel) rfl
theorem q199 : (Jvm.Cond.fieldLink "AliasStreams$History" (11 : Nat) "AliasStreams$History" "states" "[LAliasStreams$State;") ∈ zWd := zmem 199 (by decide +kernel) rfl
theorem q200 : (Jvm.Cond.fieldLink "AliasStreams$History" (22 : Nat) "AliasStreams$History" "next" "I") ∈ zWd := zmem 200 (by decide +kernel) rfl
theorem q201 : (Jvm.Cond.fieldLink "AliasStreams$History" (18 : Nat) "AliasStreams$History" "count" "I") ∈ zWd := zmem 201 (by decide +kernel) rfl
theorem q202 : (Jvm.Cond.fieldLinkNest "AliasStreams" (295 : Nat) "AliasStreams$History" "count" "I" "AliasStreams") ∈ zNs := zmemN 202 (by decide +kernel) rfl
theorem q210 : (Jvm.Cond.classLink "AliasStreams" (37 : Nat) "AliasStreams$Saves") ∈ zWd := zmem 210 (by decide +kernel) rfl
theorem q211 : (Jvm.Cond.instantiable "AliasStreams$Saves" (2 : Nat)) ∈ zWd := zmem 211 (by decide +kernel) rfl
theorem q212 : (Jvm.Cond.methodLinkNest "AliasStreams" (39 : Nat) ({ cls := "AliasStreams$Saves", name := "<init>", desc := "()V" } : Jvm.MethodName) "AliasStreams") ∈ zNs := zmemN 212 (by decide +kernel) rfl
theorem q213 : (Jvm.Cond.instanceMethod ({ cls := "AliasStreams$Saves", name := "<init>", desc := "()V" } : Jvm.MethodName)) ∈ zWd := zmem 213 (by decide +kernel) rfl
theorem q214 : (Jvm.Cond.code ({ cls := "AliasStreams$Saves", name := "<init>", desc := "()V" } : Jvm.MethodName) prog_5_method_1_code (1 : Nat) (Option.none : Option Jvm.ClassFile.FieldType)) ∈ zWd := zmem 214 (by decide +kernel) rfl
theorem q215 : (Jvm.Cond.methodLink "AliasStreams$Saves" (3 : Nat) ({ cls := "java/lang/Object", name := "<init>", desc := "()V" } : Jvm.MethodName)) ∈ zWd := zmem 215 (by decide +kernel) rfl
theorem q216 : (Jvm.Cond.classLink "AliasStreams$Saves" (9 : Nat) "AliasStreams$State") ∈ zWd := zmem 216 (by decide +kernel) rfl
theorem q217 : (Jvm.Cond.methodLinkNest "AliasStreams$Saves" (11 : Nat) ({ cls := "AliasStreams$State", name := "<init>", desc := "()V" } : Jvm.MethodName) "AliasStreams") ∈ zNs := zmemN 217 (by decide +kernel) rfl
theorem q218 : (Jvm.Cond.fieldLink "AliasStreams$Saves" (12 : Nat) "AliasStreams$Saves" "states" "[LAliasStreams$State;") ∈ zWd := zmem 218 (by decide +kernel) rfl
theorem q219 : (Jvm.Cond.fieldLinkNest "AliasStreams" (371 : Nat) "AliasStreams$Saves" "states" "[LAliasStreams$State;" "AliasStreams") ∈ zNs := zmemN 219 (by decide +kernel) rfl
theorem q220 : (Jvm.Cond.fieldLink "AliasStreams$Saves" (18 : Nat) "AliasStreams$Saves" "used" "[Z") ∈ zWd := zmem 220 (by decide +kernel) rfl
theorem q221 : (Jvm.Cond.fieldLinkNest "AliasStreams" (377 : Nat) "AliasStreams$Saves" "used" "[Z" "AliasStreams") ∈ zNs := zmemN 221 (by decide +kernel) rfl
theorem q227 : (Jvm.Cond.classLink "AliasStreams" (44 : Nat) "AliasStreams$Symbols") ∈ zWd := zmem 227 (by decide +kernel) rfl
theorem q228 : (Jvm.Cond.instantiable "AliasStreams$Symbols" (3 : Nat)) ∈ zWd := zmem 228 (by decide +kernel) rfl
theorem q229 : (Jvm.Cond.methodLinkNest "AliasStreams" (46 : Nat) ({ cls := "AliasStreams$Symbols", name := "<init>", desc := "()V" } : Jvm.MethodName) "AliasStreams") ∈ zNs := zmemN 229 (by decide +kernel) rfl
theorem q230 : (Jvm.Cond.instanceMethod ({ cls := "AliasStreams$Symbols", name := "<init>", desc := "()V" } : Jvm.MethodName)) ∈ zWd := zmem 230 (by decide +kernel) rfl
theorem q231 : (Jvm.Cond.code ({ cls := "AliasStreams$Symbols", name := "<init>", desc := "()V" } : Jvm.MethodName) prog_8_method_1_code (1 : Nat) (Option.none : Option Jvm.ClassFile.FieldType)) ∈ zWd := zmem 231 (by decide +kernel) rfl
theorem q232 : (Jvm.Cond.methodLink "AliasStreams$Symbols" (3 : Nat) ({ cls := "java/lang/Object", name := "<init>", desc := "()V" } : Jvm.MethodName)) ∈ zWd := zmem 232 (by decide +kernel) rfl
theorem q233 : (Jvm.Cond.fieldLink "AliasStreams$Symbols" (9 : Nat) "AliasStreams$Symbols" "symbols" "[I") ∈ zWd := zmem 233 (by decide +kernel) rfl
theorem q234 : (Jvm.Cond.fieldLinkNest "AliasStreams$Tape" (57 : Nat) "AliasStreams$Symbols" "symbols" "[I" "AliasStreams") ∈ zNs := zmemN 234 (by decide +kernel) rfl
theorem q235 : (Jvm.Cond.fieldLinkNest "AliasStreams" (334 : Nat) "AliasStreams$Symbols" "symbols" "[I" "AliasStreams") ∈ zNs := zmemN 235 (by decide +kernel) rfl
theorem q236 : (Jvm.Cond.fieldLink "AliasStreams$Symbols" (15 : Nat) "AliasStreams$Symbols" "models" "[I") ∈ zWd := zmem 236 (by decide +kernel) rfl
theorem q237 : (Jvm.Cond.fieldLinkNest "AliasStreams$Tape" (48 : Nat) "AliasStreams$Symbols" "models" "[I" "AliasStreams") ∈ zNs := zmemN 237 (by decide +kernel) rfl
theorem q238 : (Jvm.Cond.fieldLink "AliasStreams$Symbols" (18 : Nat) "AliasStreams$Symbols" "count" "I") ∈ zWd := zmem 238 (by decide +kernel) rfl
theorem q239 : (Jvm.Cond.fieldLinkNest "AliasStreams$Tape" (37 : Nat) "AliasStreams$Symbols" "count" "I" "AliasStreams") ∈ zNs := zmemN 239 (by decide +kernel) rfl
theorem q240 : (Jvm.Cond.fieldLinkNest "AliasStreams" (134 : Nat) "AliasStreams$Symbols" "count" "I" "AliasStreams") ∈ zNs := zmemN 240 (by decide +kernel) rfl
theorem q248 : (Jvm.Cond.classLink "AliasStreams" (51 : Nat) "AliasStreams$Taking") ∈ zWd := zmem 248 (by decide +kernel) rfl
theorem q249 : (Jvm.Cond.instantiable "AliasStreams$Taking" (8 : Nat)) ∈ zWd := zmem 249 (by decide +kernel) rfl
theorem q250 : (Jvm.Cond.methodLinkNest "AliasStreams" (53 : Nat) ({ cls := "AliasStreams$Taking", name := "<init>", desc := "()V" } : Jvm.MethodName) "AliasStreams") ∈ zNs := zmemN 250 (by decide +kernel) rfl
theorem q251 : (Jvm.Cond.instanceMethod ({ cls := "AliasStreams$Taking", name := "<init>", desc := "()V" } : Jvm.MethodName)) ∈ zWd := zmem 251 (by decide +kernel) rfl
theorem q252 : (Jvm.Cond.code ({ cls := "AliasStreams$Taking", name := "<init>", desc := "()V" } : Jvm.MethodName) prog_9_method_1_code (1 : Nat) (Option.none : Option Jvm.ClassFile.FieldType)) ∈ zWd := zmem 252 (by decide +kernel) rfl
theorem q253 : (Jvm.Cond.methodLink "AliasStreams$Taking" (3 : Nat) ({ cls := "java/lang/Object", name := "<init>", desc := "()V" } : Jvm.MethodName)) ∈ zWd := zmem 253 (by decide +kernel) rfl
theorem q254 : (Jvm.Cond.fieldLink "AliasStreams$Taking" (9 : Nat) "AliasStreams$Taking" "symbols" "[I") ∈ zWd := zmem 254 (by decide +kernel) rfl
theorem q255 : (Jvm.Cond.fieldLinkNest "AliasStreams$State" (69 : Nat) "AliasStreams$Taking" "symbols" "[I" "AliasStreams") ∈ zNs := zmemN 255 (by decide +kernel) rfl
theorem q256 : (Jvm.Cond.fieldLinkNest "AliasStreams$Script" (143 : Nat) "AliasStreams$Taking" "symbols" "[I" "AliasStreams") ∈ zNs := zmemN 256 (by decide +kernel) rfl
theorem q257 : (Jvm.Cond.fieldLinkNest "AliasStreams" (305 : Nat) "AliasStreams$Taking" "symbols" "[I" "AliasStreams") ∈ zNs := zmemN 257 (by decide +kernel) rfl
theorem q258 : (Jvm.Cond.fieldLink "AliasStreams$Taking" (15 : Nat) "AliasStreams$Taking" "statesBefore" "[I") ∈ zWd := zmem 258 (by decide +kernel) rfl
theorem q259 : (Jvm.Cond.fieldLinkNest "AliasStreams" (307 : Nat) "AliasStreams$Taking" "statesBefore" "[I" "AliasStreams") ∈ zNs := zmemN 259 (by decide +kernel) rfl
theorem q260 : (Jvm.Cond.fieldLink "AliasStreams$Taking" (18 : Nat) "AliasStreams$Taking" "digitsBefore" "[I") ∈ zWd := zmem 260 (by decide +kernel) rfl
theorem q261 : (Jvm.Cond.fieldLinkNest "AliasStreams" (310 : Nat) "AliasStreams$Taking" "digitsBefore" "[I" "AliasStreams") ∈ zNs := zmemN 261 (by decide +kernel) rfl
theorem q262 : (Jvm.Cond.fieldLink "AliasStreams$Taking" (21 : Nat) "AliasStreams$Taking" "digitsRemoved" "[I") ∈ zWd := zmem 262 (by decide +kernel) rfl
theorem q263 : (Jvm.Cond.fieldLinkNest "AliasStreams" (313 : Nat) "AliasStreams$Taking" "digitsRemoved" "[I" "AliasStreams") ∈ zNs := zmemN 263 (by decide +kernel) rfl
theorem q264 : (Jvm.Cond.fieldLink "AliasStreams$Taking" (24 : Nat) "AliasStreams$Taking" "heads" "[I") ∈ zWd := zmem 264 (by decide +kernel) rfl
theorem q265 : (Jvm.Cond.fieldLink "AliasStreams$Taking" (34 : Nat) "AliasStreams$Taking" "digitsLeft" "I") ∈ zWd := zmem 265 (by decide +kernel) rfl
theorem q266 : (Jvm.Cond.fieldLink "AliasStreams$Taking" (37 : Nat) "AliasStreams$Taking" "failedAt" "I") ∈ zWd := zmem 266 (by decide +kernel) rfl
theorem q267 : (Jvm.Cond.fieldLinkNest "AliasStreams$Script" (119 : Nat) "AliasStreams$Taking" "failedAt" "I" "AliasStreams") ∈ zNs := zmemN 267 (by decide +kernel) rfl
theorem q268 : (Jvm.Cond.fieldLinkNest "AliasStreams" (270 : Nat) "AliasStreams$Taking" "failedAt" "I" "AliasStreams") ∈ zNs := zmemN 268 (by decide +kernel) rfl
theorem q269 : (Jvm.Cond.fieldLink "AliasStreams$Taking" (56 : Nat) "AliasStreams$Taking" "intact" "Z") ∈ zWd := zmem 269 (by decide +kernel) rfl
theorem q270 : (Jvm.Cond.fieldLinkNest "AliasStreams" (150 : Nat) "AliasStreams$Taking" "intact" "Z" "AliasStreams") ∈ zNs := zmemN 270 (by decide +kernel) rfl
theorem q271 : (Jvm.Cond.fieldLinkNest "AliasStreams$Script" (136 : Nat) "AliasStreams$Taking" "intact" "Z" "AliasStreams") ∈ zNs := zmemN 271 (by decide +kernel) rfl
theorem q289 : (Jvm.Cond.classLink "AliasStreams" (61 : Nat) "AliasStreams$Tape") ∈ zWd := zmem 289 (by decide +kernel) rfl
theorem q290 : (Jvm.Cond.methodLinkNest "AliasStreams" (63 : Nat) ({ cls := "AliasStreams$Tape", name := "<init>", desc := "()V" } : Jvm.MethodName) "AliasStreams") ∈ zNs := zmemN 290 (by decide +kernel) rfl
theorem q291 : (Jvm.Cond.classLink "AliasStreams" (68 : Nat) "AliasStreams$Script") ∈ zWd := zmem 291 (by decide +kernel) rfl
theorem q292 : (Jvm.Cond.instantiable "AliasStreams$Script" (3 : Nat)) ∈ zWd := zmem 292 (by decide +kernel) rfl
theorem q293 : (Jvm.Cond.methodLinkNest "AliasStreams" (70 : Nat) ({ cls := "AliasStreams$Script", name := "<init>", desc := "()V" } : Jvm.MethodName) "AliasStreams") ∈ zNs := zmemN 293 (by decide +kernel) rfl
theorem q294 : (Jvm.Cond.instanceMethod ({ cls := "AliasStreams$Script", name := "<init>", desc := "()V" } : Jvm.MethodName)) ∈ zWd := zmem 294 (by decide +kernel) rfl
theorem q295 : (Jvm.Cond.code ({ cls := "AliasStreams$Script", name := "<init>", desc := "()V" } : Jvm.MethodName) prog_6_method_1_code (1 : Nat) (Option.none : Option Jvm.ClassFile.FieldType)) ∈ zWd := zmem 295 (by decide +kernel) rfl
theorem q296 : (Jvm.Cond.methodLink "AliasStreams$Script" (3 : Nat) ({ cls := "java/lang/Object", name := "<init>", desc := "()V" } : Jvm.MethodName)) ∈ zWd := zmem 296 (by decide +kernel) rfl
theorem q297 : (Jvm.Cond.classLink "AliasStreams$Script" (9 : Nat) "AliasStreams$State") ∈ zWd := zmem 297 (by decide +kernel) rfl
theorem q298 : (Jvm.Cond.methodLinkNest "AliasStreams$Script" (11 : Nat) ({ cls := "AliasStreams$State", name := "<init>", desc := "()V" } : Jvm.MethodName) "AliasStreams") ∈ zNs := zmemN 298 (by decide +kernel) rfl
theorem q299 : (Jvm.Cond.classLink "AliasStreams$Script" (18 : Nat) "AliasStreams$Symbols") ∈ zWd := zmem 299 (by decide +kernel) rfl
theorem q300 : (Jvm.Cond.methodLinkNest "AliasStreams$Script" (20 : Nat) ({ cls := "AliasStreams$Symbols", name := "<init>", desc := "()V" } : Jvm.MethodName) "AliasStreams") ∈ zNs := zmemN 300 (by decide +kernel) rfl
theorem q301 : (Jvm.Cond.classLink "AliasStreams$Script" (25 : Nat) "AliasStreams$Taking") ∈ zWd := zmem 301 (by decide +kernel) rfl
theorem q302 : (Jvm.Cond.methodLinkNest "AliasStreams$Script" (27 : Nat) ({ cls := "AliasStreams$Taking", name := "<init>", desc := "()V" } : Jvm.MethodName) "AliasStreams") ∈ zNs := zmemN 302 (by decide +kernel) rfl
theorem q303 : (Jvm.Cond.fieldLink "AliasStreams$Script" (12 : Nat) "AliasStreams$Script" "copy" "LAliasStreams$State;") ∈ zWd := zmem 303 (by decide +kernel) rfl
theorem q304 : (Jvm.Cond.fieldLink "AliasStreams$Script" (21 : Nat) "AliasStreams$Script" "symbols" "LAliasStreams$Symbols;") ∈ zWd := zmem 304 (by decide +kernel) rfl
theorem q305 : (Jvm.Cond.fieldLink "AliasStreams$Script" (28 : Nat) "AliasStreams$Script" "taking" "LAliasStreams$Taking;") ∈ zWd := zmem 305 (by decide +kernel) rfl
theorem q313 : (Jvm.Cond.methodLinkNest "AliasStreams" (79 : Nat) ({ cls := "AliasStreams$Models", name := "makeAll", desc := "([I)V" } : Jvm.MethodName) "AliasStreams") ∈ zNs := zmemN 313 (by decide +kernel) rfl
theorem q315 : (Jvm.Cond.instanceMethod ({ cls := "AliasStreams$Models", name := "makeAll", desc := "([I)V" } : Jvm.MethodName)) ∈ zWd := zmem 315 (by decide +kernel) rfl
theorem q316 : (Jvm.Cond.code ({ cls := "AliasStreams$Models", name := "makeAll", desc := "([I)V" } : Jvm.MethodName) prog_4_method_6_code (3 : Nat) (Option.none : Option Jvm.ClassFile.FieldType)) ∈ zWd := zmem 316 (by decide +kernel) rfl
theorem q317 : (Jvm.Cond.methodLinkNest "AliasStreams$Models" (32 : Nat) ({ cls := "AliasStreams$Model", name := "make", desc := "([II)V" } : Jvm.MethodName) "AliasStreams") ∈ zNs := zmemN 317 (by decide +kernel) rfl
theorem q319 : (Jvm.Cond.instanceMethod ({ cls := "AliasStreams$Model", name := "make", desc := "([II)V" } : Jvm.MethodName)) ∈ zWd := zmem 319 (by decide +kernel) rfl
theorem q320 : (Jvm.Cond.code ({ cls := "AliasStreams$Model", name := "make", desc := "([II)V" } : Jvm.MethodName) prog_3_method_4_code (6 : Nat) (Option.none : Option Jvm.ClassFile.FieldType)) ∈ zWd := zmem 320 (by decide +kernel) rfl
theorem q321 : (Jvm.Cond.methodLinkNest "AliasStreams$Model" (40 : Nat) ({ cls := "AliasStreams", name := "countIn", desc := "([III)I" } : Jvm.MethodName) "AliasStreams") ∈ zNs := zmemN 321 (by decide +kernel) rfl
theorem q322 : (Jvm.Cond.static ({ cls := "AliasStreams", name := "countIn", desc := "([III)I" } : Jvm.MethodName)) ∈ zWd := zmem 322 (by decide +kernel) rfl
theorem q323 : (Jvm.Cond.code ({ cls := "AliasStreams", name := "countIn", desc := "([III)I" } : Jvm.MethodName) prog_1_method_37_code (4 : Nat) (Option.some Jvm.ClassFile.FieldType.int)) ∈ zWd := zmem 323 (by decide +kernel) rfl
theorem q324 : (Jvm.Cond.methodLink "AliasStreams" (383 : Nat) ({ cls := "AliasStreams", name := "isCountPlace", desc := "(II)Z" } : Jvm.MethodName)) ∈ zWd := zmem 324 (by decide +kernel) rfl
theorem q325 : (Jvm.Cond.static ({ cls := "AliasStreams", name := "isCountPlace", desc := "(II)Z" } : Jvm.MethodName)) ∈ zWd := zmem 325 (by decide +kernel) rfl
theorem q326 : (Jvm.Cond.code ({ cls := "AliasStreams", name := "isCountPlace", desc := "(II)Z" } : Jvm.MethodName) prog_1_method_36_code (2 : Nat) (Option.some Jvm.ClassFile.FieldType.boolean)) ∈ zWd := zmem 326 (by decide +kernel) rfl
theorem q327 : (Jvm.Cond.methodLink "AliasStreams$Model" (44 : Nat) ({ cls := "AliasStreams$Model", name := "shareOut", desc := "([III)I" } : Jvm.MethodName)) ∈ zWd := zmem 327 (by decide +kernel) rfl
theorem q329 : (Jvm.Cond.instanceMethod ({ cls := "AliasStreams$Model", name := "shareOut", desc := "([III)I" } : Jvm.MethodName)) ∈ zWd := zmem 329 (by decide +kernel) rfl
theorem q330 : (Jvm.Cond.code ({ cls := "AliasStreams$Model", name := "shareOut", desc := "([III)I" } : Jvm.MethodName) prog_3_method_5_code (7 : Nat) (Option.some Jvm.ClassFile.FieldType.int)) ∈ zWd := zmem 330 (by decide +kernel) rfl
theorem q331 : (Jvm.Cond.methodLink "AliasStreams$Model" (59 : Nat) ({ cls := "java/lang/Math", name := "max", desc := "(II)I" } : Jvm.MethodName)) ∈ zWd := zmem 331 (by decide +kernel) rfl
theorem q332 : (Jvm.Cond.static ({ cls := "java/lang/Math", name := "max", desc := "(II)I" } : Jvm.MethodName)) ∈ zWd := zmem 332 (by decide +kernel) rfl
theorem q333 : (Jvm.Cond.code ({ cls := "java/lang/Math", name := "max", desc := "(II)I" } : Jvm.MethodName) prog_18_method_65_code (2 : Nat) (Option.some Jvm.ClassFile.FieldType.int)) ∈ zWd := zmem 333 (by decide +kernel) rfl
theorem q334 : (Jvm.Cond.methodLink "AliasStreams$Model" (47 : Nat) ({ cls := "AliasStreams$Model", name := "giveOne", desc := "()V" } : Jvm.MethodName)) ∈ zWd := zmem 334 (by decide +kernel) rfl
theorem q336 : (Jvm.Cond.instanceMethod ({ cls := "AliasStreams$Model", name := "giveOne", desc := "()V" } : Jvm.MethodName)) ∈ zWd := zmem 336 (by decide +kernel) rfl
theorem q337 : (Jvm.Cond.code ({ cls := "AliasStreams$Model", name := "giveOne", desc := "()V" } : Jvm.MethodName) prog_3_method_6_code (4 : Nat) (Option.none : Option Jvm.ClassFile.FieldType)) ∈ zWd := zmem 337 (by decide +kernel) rfl
theorem q338 : (Jvm.Cond.methodLink "AliasStreams$Model" (50 : Nat) ({ cls := "AliasStreams$Model", name := "takeOne", desc := "()V" } : Jvm.MethodName)) ∈ zWd := zmem 338 (by decide +kernel) rfl
theorem q340 : (Jvm.Cond.instanceMethod ({ cls := "AliasStreams$Model", name := "takeOne", desc := "()V" } : Jvm.MethodName)) ∈ zWd := zmem 340 (by decide +kernel) rfl
theorem q341 : (Jvm.Cond.code ({ cls := "AliasStreams$Model", name := "takeOne", desc := "()V" } : Jvm.MethodName) prog_3_method_7_code (3 : Nat) (Option.none : Option Jvm.ClassFile.FieldType)) ∈ zWd := zmem 341 (by decide +kernel) rfl
theorem q342 : (Jvm.Cond.methodLink "AliasStreams$Model" (53 : Nat) ({ cls := "AliasStreams$Model", name := "closeBuckets", desc := "()V" } : Jvm.MethodName)) ∈ zWd := zmem 342 (by decide +kernel) rfl
theorem q344 : (Jvm.Cond.instanceMethod ({ cls := "AliasStreams$Model", name := "closeBuckets", desc := "()V" } : Jvm.MethodName)) ∈ zWd := zmem 344 (by decide +kernel) rfl
theorem q345 : (Jvm.Cond.code ({ cls := "AliasStreams$Model", name := "closeBuckets", desc := "()V" } : Jvm.MethodName) prog_3_method_8_code (2 : Nat) (Option.none : Option Jvm.ClassFile.FieldType)) ∈ zWd := zmem 345 (by decide +kernel) rfl
theorem q346 : (Jvm.Cond.methodLink "AliasStreams$Model" (65 : Nat) ({ cls := "AliasStreams$Model", name := "closeOne", desc := "()V" } : Jvm.MethodName)) ∈ zWd := zmem 346 (by decide +kernel) rfl
theorem q348 : (Jvm.Cond.instanceMethod ({ cls := "AliasStreams$Model", name := "closeOne", desc := "()V" } : Jvm.MethodName)) ∈ zWd := zmem 348 (by decide +kernel) rfl
theorem q349 : (Jvm.Cond.code ({ cls := "AliasStreams$Model", name := "closeOne", desc := "()V" } : Jvm.MethodName) prog_3_method_9_code (4 : Nat) (Option.none : Option Jvm.ClassFile.FieldType)) ∈ zWd := zmem 349 (by decide +kernel) rfl
theorem q350 : (Jvm.Cond.methodLink "AliasStreams$Model" (68 : Nat) ({ cls := "AliasStreams$Model", name := "firstToClose", desc := "()I" } : Jvm.MethodName)) ∈ zWd := zmem 350 (by decide +kernel) rfl
theorem q352 : (Jvm.Cond.instanceMethod ({ cls := "AliasStreams$Model", name := "firstToClose", desc := "()I" } : Jvm.MethodName)) ∈ zWd := zmem 352 (by decide +kernel) rfl
theorem q353 : (Jvm.Cond.code ({ cls := "AliasStreams$Model", name := "firstToClose", desc := "()I" } : Jvm.MethodName) prog_3_method_10_code (2 : Nat) (Option.some Jvm.ClassFile.FieldType.int)) ∈ zWd := zmem 353 (by decide +kernel) rfl
theorem q354 : (Jvm.Cond.methodLink "AliasStreams$Model" (72 : Nat) ({ cls := "AliasStreams$Model", name := "fullestOpen", desc := "()I" } : Jvm.MethodName)) ∈ zWd := zmem 354 (by decide +kernel) rfl
theorem q356 : (Jvm.Cond.instanceMethod ({ cls := "AliasStreams$Model", name := "fullestOpen", desc := "()I" } : Jvm.MethodName)) ∈ zWd := zmem 356 (by decide +kernel) rfl
theorem q357 : (Jvm.Cond.code ({ cls := "AliasStreams$Model", name := "fullestOpen", desc := "()I" } : Jvm.MethodName) prog_3_method_11_code (4 : Nat) (Option.some Jvm.ClassFile.FieldType.int)) ∈ zWd := zmem 357 (by decide +kernel) rfl
theorem q358 : (Jvm.Cond.methodLink "AliasStreams$Model" (56 : Nat) ({ cls := "AliasStreams$Model", name := "numberSlots", desc := "()V" } : Jvm.MethodName)) ∈ zWd := zmem 358 (by decide +kernel) rfl
theorem q360 : (Jvm.Cond.instanceMethod ({ cls := "AliasStreams$Model", name := "numberSlots", desc := "()V" } : Jvm.MethodName)) ∈ zWd := zmem 360 (by decide +kernel) rfl
theorem q361 : (Jvm.Cond.code ({ cls := "AliasStreams$Model", name := "numberSlots", desc := "()V" } : Jvm.MethodName) prog_3_method_12_code (5 : Nat) (Option.none : Option Jvm.ClassFile.FieldType)) ∈ zWd := zmem 361 (by decide +kernel) rfl
theorem q362 : (Jvm.Cond.methodLink "AliasStreams$Model" (75 : Nat) ({ cls := "AliasStreams$Model", name := "enterSlot", desc := "(III)V" } : Jvm.MethodName)) ∈ zWd := zmem 362 (by decide +kernel) rfl
theorem q364 : (Jvm.Cond.instanceMethod ({ cls := "AliasStreams$Model", name := "enterSlot", desc := "(III)V" } : Jvm.MethodName)) ∈ zWd := zmem 364 (by decide +kernel) rfl
theorem q365 : (Jvm.Cond.code ({ cls := "AliasStreams$Model", name := "enterSlot", desc := "(III)V" } : Jvm.MethodName) prog_3_method_13_code (4 : Nat) (Option.none : Option Jvm.ClassFile.FieldType)) ∈ zWd := zmem 365 (by decide +kernel) rfl
theorem q366 : (Jvm.Cond.fieldLink "AliasStreams" (12 : Nat) "AliasStreams" "text" "LAliasStreams$Text;") ∈ zWd := zmem 366 (by decide +kernel) rfl
theorem q367 : (Jvm.Cond.fieldLink "AliasStreams" (19 : Nat) "AliasStreams" "models" "LAliasStreams$Models;") ∈ zWd := zmem 367 (by decide +kernel) rfl
theorem q368 : (Jvm.Cond.fieldLink "AliasStreams" (26 : Nat) "AliasStreams" "now" "LAliasStreams$State;") ∈ zWd := zmem 368 (by decide +kernel) rfl
theorem q369 : (Jvm.Cond.fieldLink "AliasStreams" (33 : Nat) "AliasStreams" "history" "LAliasStreams$History;") ∈ zWd := zmem 369 (by decide +kernel) rfl
theorem q370 : (Jvm.Cond.fieldLink "AliasStreams" (40 : Nat) "AliasStreams" "saves" "LAliasStreams$Saves;") ∈ zWd := zmem 370 (by decide +kernel) rfl
theorem q371 : (Jvm.Cond.fieldLink "AliasStreams" (47 : Nat) "AliasStreams" "symbols" "LAliasStreams$Symbols;") ∈ zWd := zmem 371 (by decide +kernel) rfl
theorem q372 : (Jvm.Cond.fieldLink "AliasStreams" (54 : Nat) "AliasStreams" "taking" "LAliasStreams$Taking;") ∈ zWd := zmem 372 (by decide +kernel) rfl
theorem q373 : (Jvm.Cond.fieldLink "AliasStreams" (58 : Nat) "AliasStreams" "otherTaking" "LAliasStreams$Taking;") ∈ zWd := zmem 373 (by decide +kernel) rfl
theorem q374 : (Jvm.Cond.fieldLink "AliasStreams" (64 : Nat) "AliasStreams" "trialTape" "LAliasStreams$Tape;") ∈ zWd := zmem 374 (by decide +kernel) rfl
theorem q375 : (Jvm.Cond.fieldLink "AliasStreams" (71 : Nat) "AliasStreams" "commands" "LAliasStreams$Script;") ∈ zWd := zmem 375 (by decide +kernel) rfl
theorem q397 : (Jvm.Cond.methodLink "AliasStreamsLaw" (113 : Nat) ({ cls := "AliasStreams", name := "clearText", desc := "()I" } : Jvm.MethodName)) ∈ zWd := zmem 397 (by decide +kernel) rfl
theorem q398 : (Jvm.Cond.instanceMethod ({ cls := "AliasStreams", name := "clearText", desc := "()I" } : Jvm.MethodName)) ∈ zWd := zmem 398 (by decide +kernel) rfl
theorem q399 : (Jvm.Cond.selects "AliasStreams" ({ cls := "AliasStreams", name := "clearText", desc := "()I" } : Jvm.MethodName) ({ cls := "AliasStreams", name := "clearText", desc := "()I" } : Jvm.MethodName)) ∈ zWd := zmem 399 (by decide +kernel) rfl
theorem q400 : (Jvm.Cond.code ({ cls := "AliasStreams", name := "clearText", desc := "()I" } : Jvm.MethodName) prog_1_method_3_code (2 : Nat) (Option.some Jvm.ClassFile.FieldType.int)) ∈ zWd := zmem 400 (by decide +kernel) rfl
theorem q401 : (Jvm.Cond.methodLink "AliasStreamsLaw" (117 : Nat) ({ cls := "AliasStreams", name := "errorPosition", desc := "()I" } : Jvm.MethodName)) ∈ zWd := zmem 401 (by decide +kernel) rfl
theorem q402 : (Jvm.Cond.instanceMethod ({ cls := "AliasStreams", name := "errorPosition", desc := "()I" } : Jvm.MethodName)) ∈ zWd := zmem 402 (by decide +kernel) rfl
theorem q403 : (Jvm.Cond.selects "AliasStreams" ({ cls := "AliasStreams", name := "errorPosition", desc := "()I" } : Jvm.MethodName) ({ cls := "AliasStreams", name := "errorPosition", desc := "()I" } : Jvm.MethodName)) ∈ zWd := zmem 403 (by decide +kernel) rfl
theorem q404 : (Jvm.Cond.code ({ cls := "AliasStreams", name := "errorPosition", desc := "()I" } : Jvm.MethodName) prog_1_method_4_code (1 : Nat) (Option.some Jvm.ClassFile.FieldType.int)) ∈ zWd := zmem 404 (by decide +kernel) rfl
theorem q405 : (Jvm.Cond.methodLinkNest "AliasStreams" (103 : Nat) ({ cls := "AliasStreams$Text", name := "read", desc := "()I" } : Jvm.MethodName) "AliasStreams") ∈ zNs := zmemN 405 (by decide +kernel) rfl
theorem q407 : (Jvm.Cond.instanceMethod ({ cls := "AliasStreams$Text", name := "read", desc := "()I" } : Jvm.MethodName)) ∈ zWd := zmem 407 (by decide +kernel) rfl
theorem q408 : (Jvm.Cond.code ({ cls := "AliasStreams$Text", name := "read", desc := "()I" } : Jvm.MethodName) prog_11_method_3_code (2 : Nat) (Option.some Jvm.ClassFile.FieldType.int)) ∈ zWd := zmem 408 (by decide +kernel) rfl
theorem q409 : (Jvm.Cond.methodLink "AliasStreams$Text" (37 : Nat) ({ cls := "AliasStreams$Text", name := "readSize", desc := "()Z" } : Jvm.MethodName)) ∈ zWd := zmem 409 (by decide +kernel) rfl
theorem q411 : (Jvm.Cond.instanceMethod ({ cls := "AliasStreams$Text", name := "readSize", desc := "()Z" } : Jvm.MethodName)) ∈ zWd := zmem 411 (by decide +kernel) rfl
theorem q412 : (Jvm.Cond.code ({ cls := "AliasStreams$Text", name := "readSize", desc := "()Z" } : Jvm.MethodName) prog_11_method_6_code (1 : Nat) (Option.some Jvm.ClassFile.FieldType.boolean)) ∈ zWd := zmem 412 (by decide +kernel) rfl
theorem q413 : (Jvm.Cond.methodLink "AliasStreams$Text" (47 : Nat) ({ cls := "AliasStreams$Text", name := "here", desc := "()I" } : Jvm.MethodName)) ∈ zWd := zmem 413 (by decide +kernel) rfl
theorem q415 : (Jvm.Cond.instanceMethod ({ cls := "AliasStreams$Text", name := "here", desc := "()I" } : Jvm.MethodName)) ∈ zWd := zmem 415 (by decide +kernel) rfl
theorem q416 : (Jvm.Cond.code ({ cls := "AliasStreams$Text", name := "here", desc := "()I" } : Jvm.MethodName) prog_11_method_4_code (1 : Nat) (Option.some Jvm.ClassFile.FieldType.int)) ∈ zWd := zmem 416 (by decide +kernel) rfl
theorem q417 : (Jvm.Cond.methodLink "AliasStreams$Text" (51 : Nat) ({ cls := "AliasStreams$Text", name := "digitHere", desc := "()I" } : Jvm.MethodName)) ∈ zWd := zmem 417 (by decide +kernel) rfl
theorem q419 : (Jvm.Cond.instanceMethod ({ cls := "AliasStreams$Text", name := "digitHere", desc := "()I" } : Jvm.MethodName)) ∈ zWd := zmem 419 (by decide +kernel) rfl
theorem q420 : (Jvm.Cond.code ({ cls := "AliasStreams$Text", name := "digitHere", desc := "()I" } : Jvm.MethodName) prog_11_method_5_code (2 : Nat) (Option.some Jvm.ClassFile.FieldType.int)) ∈ zWd := zmem 420 (by decide +kernel) rfl
theorem q421 : (Jvm.Cond.methodLink "AliasStreams$Text" (41 : Nat) ({ cls := "AliasStreams$Text", name := "readModels", desc := "()Z" } : Jvm.MethodName)) ∈ zWd := zmem 421 (by decide +kernel) rfl
theorem q423 : (Jvm.Cond.instanceMethod ({ cls := "AliasStreams$Text", name := "readModels", desc := "()Z" } : Jvm.MethodName)) ∈ zWd := zmem 423 (by decide +kernel) rfl
theorem q424 : (Jvm.Cond.code ({ cls := "AliasStreams$Text", name := "readModels", desc := "()Z" } : Jvm.MethodName) prog_11_method_7_code (2 : Nat) (Option.some Jvm.ClassFile.FieldType.boolean)) ∈ zWd := zmem 424 (by decide +kernel) rfl
theorem q425 : (Jvm.Cond.methodLink "AliasStreams$Text" (54 : Nat) ({ cls := "AliasStreams$Text", name := "readCounts", desc := "(I)Z" } : Jvm.MethodName)) ∈ zWd := zmem 425 (by decide +kernel) rfl
theorem q427 : (Jvm.Cond.instanceMethod ({ cls := "AliasStreams$Text", name := "readCounts", desc := "(I)Z" } : Jvm.MethodName)) ∈ zWd := zmem 427 (by decide +kernel) rfl
theorem q428 : (Jvm.Cond.code ({ cls := "AliasStreams$Text", name := "readCounts", desc := "(I)Z" } : Jvm.MethodName) prog_11_method_8_code (7 : Nat) (Option.some Jvm.ClassFile.FieldType.boolean)) ∈ zWd := zmem 428 (by decide +kernel) rfl
theorem q429 : (Jvm.Cond.methodLink "AliasStreams$Text" (44 : Nat) ({ cls := "AliasStreams$Text", name := "readItems", desc := "()Z" } : Jvm.MethodName)) ∈ zWd := zmem 429 (by decide +kernel) rfl
theorem q431 : (Jvm.Cond.instanceMethod ({ cls := "AliasStreams$Text", name := "readItems", desc := "()Z" } : Jvm.MethodName)) ∈ zWd := zmem 431 (by decide +kernel) rfl
theorem q432 : (Jvm.Cond.code ({ cls := "AliasStreams$Text", name := "readItems", desc := "()Z" } : Jvm.MethodName) prog_11_method_9_code (3 : Nat) (Option.some Jvm.ClassFile.FieldType.boolean)) ∈ zWd := zmem 432 (by decide +kernel) rfl
theorem q433 : (Jvm.Cond.methodLink "AliasStreams$Text" (58 : Nat) ({ cls := "AliasStreams$Text", name := "itemHere", desc := "()I" } : Jvm.MethodName)) ∈ zWd := zmem 433 (by decide +kernel) rfl
theorem q435 : (Jvm.Cond.instanceMethod ({ cls := "AliasStreams$Text", name := "itemHere", desc := "()I" } : Jvm.MethodName)) ∈ zWd := zmem 435 (by decide +kernel) rfl
theorem q436 : (Jvm.Cond.code ({ cls := "AliasStreams$Text", name := "itemHere", desc := "()I" } : Jvm.MethodName) prog_11_method_10_code (2 : Nat) (Option.some Jvm.ClassFile.FieldType.int)) ∈ zWd := zmem 436 (by decide +kernel) rfl
theorem q437 : (Jvm.Cond.methodLink "AliasStreamsLaw" (175 : Nat) ({ cls := "AliasStreams", name := "failure", desc := "()I" } : Jvm.MethodName)) ∈ zWd := zmem 437 (by decide +kernel) rfl
theorem q438 : (Jvm.Cond.instanceMethod ({ cls := "AliasStreams", name := "failure", desc := "()I" } : Jvm.MethodName)) ∈ zWd := zmem 438 (by decide +kernel) rfl
theorem q439 : (Jvm.Cond.selects "AliasStreams" ({ cls := "AliasStreams", name := "failure", desc := "()I" } : Jvm.MethodName) ({ cls := "AliasStreams", name := "failure", desc := "()I" } : Jvm.MethodName)) ∈ zWd := zmem 439 (by decide +kernel) rfl
theorem q440 : (Jvm.Cond.code ({ cls := "AliasStreams", name := "failure", desc := "()I" } : Jvm.MethodName) prog_1_method_22_code (1 : Nat) (Option.some Jvm.ClassFile.FieldType.int)) ∈ zWd := zmem 440 (by decide +kernel) rfl
theorem q441 : (Jvm.Cond.methodLinkNest "AliasStreams" (146 : Nat) ({ cls := "AliasStreams$Taking", name := "takeAll", desc := "(LAliasStreams$Tape;LAliasStreams$Models;)V" } : Jvm.MethodName) "AliasStreams") ∈ zNs := zmemN 441 (by decide +kernel) rfl
theorem q443 : (Jvm.Cond.instanceMethod ({ cls := "AliasStreams$Taking", name := "takeAll", desc := "(LAliasStreams$Tape;LAliasStreams$Models;)V" } : Jvm.MethodName)) ∈ zWd := zmem 443 (by decide +kernel) rfl
theorem q444 : (Jvm.Cond.code ({ cls := "AliasStreams$Taking", name := "takeAll", desc := "(LAliasStreams$Tape;LAliasStreams$Models;)V" } : Jvm.MethodName) prog_9_method_2_code (4 : Nat) (Option.none : Option Jvm.ClassFile.FieldType)) ∈ zWd := zmem 444 (by decide +kernel) rfl
theorem q445 : (Jvm.Cond.methodLinkNest "AliasStreams$Taking" (46 : Nat) ({ cls := "AliasStreams$Models", name := "of", desc := "(I)LAliasStreams$Model;" } : Jvm.MethodName) "AliasStreams") ∈ zNs := zmemN 445 (by decide +kernel) rfl
theorem q447 : (Jvm.Cond.instanceMethod ({ cls := "AliasStreams$Models", name := "of", desc := "(I)LAliasStreams$Model;" } : Jvm.MethodName)) ∈ zWd := zmem 447 (by decide +kernel) rfl
theorem q448 : (Jvm.Cond.code ({ cls := "AliasStreams$Models", name := "of", desc := "(I)LAliasStreams$Model;" } : Jvm.MethodName) prog_4_method_5_code (2 : Nat) (Option.some (Jvm.ClassFile.FieldType.object "AliasStreams$Model"))) ∈ zWd := zmem 448 (by decide +kernel) rfl
theorem q449 : (Jvm.Cond.methodLink "AliasStreams$Taking" (52 : Nat) ({ cls := "AliasStreams$Taking", name := "takeSymbol", desc := "(LAliasStreams$Tape;LAliasStreams$Model;I)V" } : Jvm.MethodName)) ∈ zWd := zmem 449 (by decide +kernel) rfl
theorem q451 : (Jvm.Cond.instanceMethod ({ cls := "AliasStreams$Taking", name := "takeSymbol", desc := "(LAliasStreams$Tape;LAliasStreams$Model;I)V" } : Jvm.MethodName)) ∈ zWd := zmem 451 (by decide +kernel) rfl
theorem q452 : (Jvm.Cond.code ({ cls := "AliasStreams$Taking", name := "takeSymbol", desc := "(LAliasStreams$Tape;LAliasStreams$Model;I)V" } : Jvm.MethodName) prog_9_method_3_code (8 : Nat) (Option.none : Option Jvm.ClassFile.FieldType)) ∈ zWd := zmem 452 (by decide +kernel) rfl
theorem q453 : (Jvm.Cond.methodLinkNest "AliasStreams$Taking" (65 : Nat) ({ cls := "AliasStreams$Model", name := "frequencyOf", desc := "(I)I" } : Jvm.MethodName) "AliasStreams") ∈ zNs := zmemN 453 (by decide +kernel) rfl
theorem q455 : (Jvm.Cond.instanceMethod ({ cls := "AliasStreams$Model", name := "frequencyOf", desc := "(I)I" } : Jvm.MethodName)) ∈ zWd := zmem 455 (by decide +kernel) rfl
theorem q456 : (Jvm.Cond.code ({ cls := "AliasStreams$Model", name := "frequencyOf", desc := "(I)I" } : Jvm.MethodName) prog_3_method_2_code (2 : Nat) (Option.some Jvm.ClassFile.FieldType.int)) ∈ zWd := zmem 456 (by decide +kernel) rfl
theorem q457 : (Jvm.Cond.methodLinkNest "AliasStreams$Taking" (72 : Nat) ({ cls := "AliasStreams$Tape", name := "hasDigit", desc := "(I)Z" } : Jvm.MethodName) "AliasStreams") ∈ zNs := zmemN 457 (by decide +kernel) rfl
theorem q459 : (Jvm.Cond.instanceMethod ({ cls := "AliasStreams$Tape", name := "hasDigit", desc := "(I)Z" } : Jvm.MethodName)) ∈ zWd := zmem 459 (by decide +kernel) rfl
theorem q460 : (Jvm.Cond.code ({ cls := "AliasStreams$Tape", name := "hasDigit", desc := "(I)Z" } : Jvm.MethodName) prog_10_method_3_code (2 : Nat) (Option.some Jvm.ClassFile.FieldType.boolean)) ∈ zWd := zmem 460 (by decide +kernel) rfl
theorem q461 : (Jvm.Cond.methodLink "AliasStreamsLaw" (179 : Nat) ({ cls := "AliasStreams", name := "unfit", desc := "()I" } : Jvm.MethodName)) ∈ zWd := zmem 461 (by decide +kernel) rfl
theorem q462 : (Jvm.Cond.instanceMethod ({ cls := "AliasStreams", name := "unfit", desc := "()I" } : Jvm.MethodName)) ∈ zWd := zmem 462 (by decide +kernel) rfl
theorem q463 : (Jvm.Cond.selects "AliasStreams" ({ cls := "AliasStreams", name := "unfit", desc := "()I" } : Jvm.MethodName) ({ cls := "AliasStreams", name := "unfit", desc := "()I" } : Jvm.MethodName)) ∈ zWd := zmem 463 (by decide +kernel) rfl
theorem q464 : (Jvm.Cond.code ({ cls := "AliasStreams", name := "unfit", desc := "()I" } : Jvm.MethodName) prog_1_method_23_code (1 : Nat) (Option.some Jvm.ClassFile.FieldType.int)) ∈ zWd := zmem 464 (by decide +kernel) rfl
theorem q465 : (Jvm.Cond.methodLinkNest "AliasStreams" (130 : Nat) ({ cls := "AliasStreams$Symbols", name := "list", desc := "(LAliasStreams$State;)V" } : Jvm.MethodName) "AliasStreams") ∈ zNs := zmemN 465 (by decide +kernel) rfl
theorem q467 : (Jvm.Cond.instanceMethod ({ cls := "AliasStreams$Symbols", name := "list", desc := "(LAliasStreams$State;)V" } : Jvm.MethodName)) ∈ zWd := zmem 467 (by decide +kernel) rfl
theorem q468 : (Jvm.Cond.code ({ cls := "AliasStreams$Symbols", name := "list", desc := "(LAliasStreams$State;)V" } : Jvm.MethodName) prog_8_method_2_code (6 : Nat) (Option.none : Option Jvm.ClassFile.FieldType)) ∈ zWd := zmem 468 (by decide +kernel) rfl
theorem q469 : (Jvm.Cond.methodLinkNest "AliasStreams" (260 : Nat) ({ cls := "AliasStreams$Symbols", name := "firstUnfit", desc := "(LAliasStreams$Models;)I" } : Jvm.MethodName) "AliasStreams") ∈ zNs := zmemN 469 (by decide +kernel) rfl
theorem q471 : (Jvm.Cond.instanceMethod ({ cls := "AliasStreams$Symbols", name := "firstUnfit", desc := "(LAliasStreams$Models;)I" } : Jvm.MethodName)) ∈ zWd := zmem 471 (by decide +kernel) rfl
theorem q472 : (Jvm.Cond.code ({ cls := "AliasStreams$Symbols", name := "firstUnfit", desc := "(LAliasStreams$Models;)I" } : Jvm.MethodName) prog_8_method_5_code (3 : Nat) (Option.some Jvm.ClassFile.FieldType.int)) ∈ zWd := zmem 472 (by decide +kernel) rfl
theorem q473 : (Jvm.Cond.methodLinkNest "AliasStreams$Symbols" (30 : Nat) ({ cls := "AliasStreams$Models", name := "of", desc := "(I)LAliasStreams$Model;" } : Jvm.MethodName) "AliasStreams") ∈ zNs := zmemN 473 (by decide +kernel) rfl
theorem q474 : (Jvm.Cond.methodLinkNest "AliasStreams$Symbols" (36 : Nat) ({ cls := "AliasStreams$Model", name := "frequencyOf", desc := "(I)I" } : Jvm.MethodName) "AliasStreams") ∈ zNs := zmemN 474 (by decide +kernel) rfl
theorem q475 : (Jvm.Cond.methodLink "AliasStreamsLaw" (192 : Nat) ({ cls := "AliasStreams", name := "difference", desc := "()I" } : Jvm.MethodName)) ∈ zWd := zmem 475 (by decide +kernel) rfl
theorem q476 : (Jvm.Cond.instanceMethod ({ cls := "AliasStreams", name := "difference", desc := "()I" } : Jvm.MethodName)) ∈ zWd := zmem 476 (by decide +kernel) rfl
theorem q477 : (Jvm.Cond.selects "AliasStreams" ({ cls := "AliasStreams", name := "difference", desc := "()I" } : Jvm.MethodName) ({ cls := "AliasStreams", name := "difference", desc := "()I" } : Jvm.MethodName)) ∈ zWd := zmem 477 (by decide +kernel) rfl
theorem q478 : (Jvm.Cond.code ({ cls := "AliasStreams", name := "difference", desc := "()I" } : Jvm.MethodName) prog_1_method_27_code (3 : Nat) (Option.some Jvm.ClassFile.FieldType.int)) ∈ zWd := zmem 478 (by decide +kernel) rfl
theorem q479 : (Jvm.Cond.methodLinkNest "AliasStreams" (321 : Nat) ({ cls := "AliasStreams$Symbols", name := "has", desc := "(I)Z" } : Jvm.MethodName) "AliasStreams") ∈ zNs := zmemN 479 (by decide +kernel) rfl
theorem q481 : (Jvm.Cond.instanceMethod ({ cls := "AliasStreams$Symbols", name := "has", desc := "(I)Z" } : Jvm.MethodName)) ∈ zWd := zmem 481 (by decide +kernel) rfl
theorem q482 : (Jvm.Cond.code ({ cls := "AliasStreams$Symbols", name := "has", desc := "(I)Z" } : Jvm.MethodName) prog_8_method_3_code (2 : Nat) (Option.some Jvm.ClassFile.FieldType.boolean)) ∈ zWd := zmem 482 (by decide +kernel) rfl
theorem q483 : (Jvm.Cond.methodLink "AliasStreamsLaw" (104 : Nat) ({ cls := "AliasStreamsLaw", name := "append", desc := "(LAliasStreams;I[J)I" } : Jvm.MethodName)) ∈ zWd := zmem 483 (by decide +kernel) rfl
theorem q484 : (Jvm.Cond.static ({ cls := "AliasStreamsLaw", name := "append", desc := "(LAliasStreams;I[J)I" } : Jvm.MethodName)) ∈ zWd := zmem 484 (by decide +kernel) rfl
theorem q486 : (Jvm.Cond.classLink "AliasStreamsLaw" (13 : Nat) "java/lang/IllegalArgumentException") ∈ zWd := zmem 486 (by decide +kernel) rfl
theorem q487 : (Jvm.Cond.classLink "AliasStreamsLaw" (15 : Nat) "java/lang/IllegalStateException") ∈ zWd := zmem 487 (by decide +kernel) rfl
theorem q488 : (Jvm.Cond.methodLink "AliasStreamsLaw" (7 : Nat) ({ cls := "AliasStreams", name := "append", desc := "(I)I" } : Jvm.MethodName)) ∈ zWd := zmem 488 (by decide +kernel) rfl
theorem q489 : (Jvm.Cond.instanceMethod ({ cls := "AliasStreams", name := "append", desc := "(I)I" } : Jvm.MethodName)) ∈ zWd := zmem 489 (by decide +kernel) rfl
theorem q490 : (Jvm.Cond.selects "AliasStreams" ({ cls := "AliasStreams", name := "append", desc := "(I)I" } : Jvm.MethodName) ({ cls := "AliasStreams", name := "append", desc := "(I)I" } : Jvm.MethodName)) ∈ zWd := zmem 490 (by decide +kernel) rfl
theorem q491 : (Jvm.Cond.code ({ cls := "AliasStreams", name := "append", desc := "(I)I" } : Jvm.MethodName) prog_1_method_2_code (2 : Nat) (Option.some Jvm.ClassFile.FieldType.int)) ∈ zWd := zmem 491 (by decide +kernel) rfl
theorem q492 : (Jvm.Cond.classLink "AliasStreams" (83 : Nat) "java/lang/IllegalArgumentException") ∈ zWd := zmem 492 (by decide +kernel) rfl
theorem q493 : (Jvm.Cond.instantiable "java/lang/IllegalArgumentException" (6 : Nat)) ∈ zWd := zmem 493 (by decide +kernel) rfl
theorem q501 : (Jvm.Cond.selects "java/lang/IllegalArgumentException" ({ cls := "java/lang/Throwable", name := "fillInStackTrace", desc := "(I)Ljava/lang/Throwable;" } : Jvm.MethodName) ({ cls := "java/lang/Throwable", name := "fillInStackTrace", desc := "(I)Ljava/lang/Throwable;" } : Jvm.MethodName)) ∈ zWd := zmem 501 (by decide +kernel) rfl
theorem q502 : (Jvm.Cond.selects "java/lang/IllegalArgumentException" ({ cls := "java/lang/Throwable", name := "fillInStackTrace", desc := "()Ljava/lang/Throwable;" } : Jvm.MethodName) ({ cls := "java/lang/Throwable", name := "fillInStackTrace", desc := "()Ljava/lang/Throwable;" } : Jvm.MethodName)) ∈ zWd := zmem 502 (by decide +kernel) rfl
theorem q513 : (Jvm.Cond.fieldLink "java/lang/Throwable" (198 : Nat) "java/lang/Throwable" "backtrace" "Ljava/lang/Object;") ∈ zWd := zmem 513 (by decide +kernel) rfl
theorem q515 : (Jvm.Cond.instanceMethod ({ cls := "java/lang/Throwable", name := "<init>", desc := "()V" } : Jvm.MethodName)) ∈ zWd := zmem 515 (by decide +kernel) rfl
theorem q516 : (Jvm.Cond.code ({ cls := "java/lang/Throwable", name := "<init>", desc := "()V" } : Jvm.MethodName) prog_22_method_1_code (1 : Nat) (Option.none : Option Jvm.ClassFile.FieldType)) ∈ zWd := zmem 516 (by decide +kernel) rfl
theorem q517 : (Jvm.Cond.methodLink "java/lang/Throwable" (1 : Nat) ({ cls := "java/lang/Object", name := "<init>", desc := "()V" } : Jvm.MethodName)) ∈ zWd := zmem 517 (by decide +kernel) rfl
theorem q518 : (Jvm.Cond.fieldLink "java/lang/Throwable" (13 : Nat) "java/lang/Throwable" "UNASSIGNED_STACK" "[Ljava/lang/StackTraceElement;") ∈ zWd := zmem 518 (by decide +kernel) rfl
theorem q520 : (Jvm.Cond.fieldLink "java/lang/Throwable" (20 : Nat) "java/lang/Throwable" "SUPPRESSED_SENTINEL" "Ljava/util/List;") ∈ zWd := zmem 520 (by decide +kernel) rfl
theorem q522 : (Jvm.Cond.methodLink "java/lang/Throwable" (27 : Nat) ({ cls := "java/lang/Throwable", name := "fillInStackTrace", desc := "()Ljava/lang/Throwable;" } : Jvm.MethodName)) ∈ zWd := zmem 522 (by decide +kernel) rfl
theorem q523 : (Jvm.Cond.instanceMethod ({ cls := "java/lang/Throwable", name := "fillInStackTrace", desc := "()Ljava/lang/Throwable;" } : Jvm.MethodName)) ∈ zWd := zmem 523 (by decide +kernel) rfl
theorem q525 : (Jvm.Cond.selects "java/lang/IllegalStateException" ({ cls := "java/lang/Throwable", name := "fillInStackTrace", desc := "()Ljava/lang/Throwable;" } : Jvm.MethodName) ({ cls := "java/lang/Throwable", name := "fillInStackTrace", desc := "()Ljava/lang/Throwable;" } : Jvm.MethodName)) ∈ zWd := zmem 525 (by decide +kernel) rfl
theorem q526 : (Jvm.Cond.selects "java/lang/IndexOutOfBoundsException" ({ cls := "java/lang/Throwable", name := "fillInStackTrace", desc := "()Ljava/lang/Throwable;" } : Jvm.MethodName) ({ cls := "java/lang/Throwable", name := "fillInStackTrace", desc := "()Ljava/lang/Throwable;" } : Jvm.MethodName)) ∈ zWd := zmem 526 (by decide +kernel) rfl
theorem q528 : (Jvm.Cond.methodLink "java/lang/Throwable" (202 : Nat) ({ cls := "java/lang/Throwable", name := "fillInStackTrace", desc := "(I)Ljava/lang/Throwable;" } : Jvm.MethodName)) ∈ zWd := zmem 528 (by decide +kernel) rfl
theorem q530 : (Jvm.Cond.instanceMethod ({ cls := "java/lang/Throwable", name := "fillInStackTrace", desc := "(I)Ljava/lang/Throwable;" } : Jvm.MethodName)) ∈ zWd := zmem 530 (by decide +kernel) rfl
theorem q531 : (Jvm.Cond.instantiable "java/lang/Throwable" (6 : Nat)) ∈ zWd := zmem 531 (by decide +kernel) rfl
theorem q532 : (Jvm.Cond.native ({ cls := "java/lang/Throwable", name := "fillInStackTrace", desc := "(I)Ljava/lang/Throwable;" } : Jvm.MethodName)) ∈ zWd := zmem 532 (by decide +kernel) rfl
theorem q534 : (Jvm.Cond.methodLink "AliasStreams" (87 : Nat) ({ cls := "java/lang/IllegalArgumentException", name := "<init>", desc := "(Ljava/lang/String;)V" } : Jvm.MethodName)) ∈ zWd := zmem 534 (by decide +kernel) rfl
theorem q535 : (Jvm.Cond.instanceMethod ({ cls := "java/lang/IllegalArgumentException", name := "<init>", desc := "(Ljava/lang/String;)V" } : Jvm.MethodName)) ∈ zWd := zmem 535 (by decide +kernel) rfl
theorem q536 : (Jvm.Cond.code ({ cls := "java/lang/IllegalArgumentException", name := "<init>", desc := "(Ljava/lang/String;)V" } : Jvm.MethodName) prog_15_method_2_code (2 : Nat) (Option.none : Option Jvm.ClassFile.FieldType)) ∈ zWd := zmem 536 (by decide +kernel) rfl
theorem q537 : (Jvm.Cond.methodLink "java/lang/IllegalArgumentException" (7 : Nat) ({ cls := "java/lang/RuntimeException", name := "<init>", desc := "(Ljava/lang/String;)V" } : Jvm.MethodName)) ∈ zWd := zmem 537 (by decide +kernel) rfl
theorem q538 : (Jvm.Cond.instanceMethod ({ cls := "java/lang/RuntimeException", name := "<init>", desc := "(Ljava/lang/String;)V" } : Jvm.MethodName)) ∈ zWd := zmem 538 (by decide +kernel) rfl
theorem q539 : (Jvm.Cond.code ({ cls := "java/lang/RuntimeException", name := "<init>", desc := "(Ljava/lang/String;)V" } : Jvm.MethodName) prog_19_method_2_code (2 : Nat) (Option.none : Option Jvm.ClassFile.FieldType)) ∈ zWd := zmem 539 (by decide +kernel) rfl
theorem q540 : (Jvm.Cond.methodLink "java/lang/RuntimeException" (7 : Nat) ({ cls := "java/lang/Exception", name := "<init>", desc := "(Ljava/lang/String;)V" } : Jvm.MethodName)) ∈ zWd := zmem 540 (by decide +kernel) rfl
theorem q541 : (Jvm.Cond.instanceMethod ({ cls := "java/lang/Exception", name := "<init>", desc := "(Ljava/lang/String;)V" } : Jvm.MethodName)) ∈ zWd := zmem 541 (by decide +kernel) rfl
theorem q542 : (Jvm.Cond.code ({ cls := "java/lang/Exception", name := "<init>", desc := "(Ljava/lang/String;)V" } : Jvm.MethodName) prog_14_method_2_code (2 : Nat) (Option.none : Option Jvm.ClassFile.FieldType)) ∈ zWd := zmem 542 (by decide +kernel) rfl
theorem q543 : (Jvm.Cond.methodLink "java/lang/Exception" (7 : Nat) ({ cls := "java/lang/Throwable", name := "<init>", desc := "(Ljava/lang/String;)V" } : Jvm.MethodName)) ∈ zWd := zmem 543 (by decide +kernel) rfl
theorem q544 : (Jvm.Cond.instanceMethod ({ cls := "java/lang/Throwable", name := "<init>", desc := "(Ljava/lang/String;)V" } : Jvm.MethodName)) ∈ zWd := zmem 544 (by decide +kernel) rfl
theorem q545 : (Jvm.Cond.code ({ cls := "java/lang/Throwable", name := "<init>", desc := "(Ljava/lang/String;)V" } : Jvm.MethodName) prog_22_method_2_code (2 : Nat) (Option.none : Option Jvm.ClassFile.FieldType)) ∈ zWd := zmem 545 (by decide +kernel) rfl
theorem q547 : (Jvm.Cond.fieldLink "java/lang/Throwable" (31 : Nat) "java/lang/Throwable" "detailMessage" "Ljava/lang/String;") ∈ zWd := zmem 547 (by decide +kernel) rfl
theorem q548 : (Jvm.Cond.fieldLink "java/lang/Throwable" (7 : Nat) "java/lang/Throwable" "cause" "Ljava/lang/Throwable;") ∈ zWd := zmem 548 (by decide +kernel) rfl
theorem q549 : (Jvm.Cond.fieldLink "java/lang/Throwable" (17 : Nat) "java/lang/Throwable" "stackTrace" "[Ljava/lang/StackTraceElement;") ∈ zWd := zmem 549 (by decide +kernel) rfl
theorem q550 : (Jvm.Cond.fieldLink "java/lang/Throwable" (24 : Nat) "java/lang/Throwable" "suppressedExceptions" "Ljava/util/List;") ∈ zWd := zmem 550 (by decide +kernel) rfl
theorem q559 : (Jvm.Cond.arrayClass Jvm.ClassFile.FieldType.byte) ∈ zWd := zmem 559 (by decide +kernel) rfl
theorem q560 : (Jvm.Cond.classLink "AliasStreams" (94 : Nat) "java/lang/IllegalStateException") ∈ zWd := zmem 560 (by decide +kernel) rfl
theorem q561 : (Jvm.Cond.instantiable "java/lang/IllegalStateException" (6 : Nat)) ∈ zWd := zmem 561 (by decide +kernel) rfl
theorem q563 : (Jvm.Cond.selects "java/lang/IllegalStateException" ({ cls := "java/lang/Throwable", name := "fillInStackTrace", desc := "(I)Ljava/lang/Throwable;" } : Jvm.MethodName) ({ cls := "java/lang/Throwable", name := "fillInStackTrace", desc := "(I)Ljava/lang/Throwable;" } : Jvm.MethodName)) ∈ zWd := zmem 563 (by decide +kernel) rfl
theorem q570 : (Jvm.Cond.methodLink "AliasStreams" (98 : Nat) ({ cls := "java/lang/IllegalStateException", name := "<init>", desc := "(Ljava/lang/String;)V" } : Jvm.MethodName)) ∈ zWd := zmem 570 (by decide +kernel) rfl
theorem q571 : (Jvm.Cond.instanceMethod ({ cls := "java/lang/IllegalStateException", name := "<init>", desc := "(Ljava/lang/String;)V" } : Jvm.MethodName)) ∈ zWd := zmem 571 (by decide +kernel) rfl
theorem q572 : (Jvm.Cond.code ({ cls := "java/lang/IllegalStateException", name := "<init>", desc := "(Ljava/lang/String;)V" } : Jvm.MethodName) prog_16_method_2_code (2 : Nat) (Option.none : Option Jvm.ClassFile.FieldType)) ∈ zWd := zmem 572 (by decide +kernel) rfl
theorem q573 : (Jvm.Cond.methodLink "java/lang/IllegalStateException" (7 : Nat) ({ cls := "java/lang/RuntimeException", name := "<init>", desc := "(Ljava/lang/String;)V" } : Jvm.MethodName)) ∈ zWd := zmem 573 (by decide +kernel) rfl
theorem q576 : (Jvm.Cond.methodLinkNest "AliasStreams" (99 : Nat) ({ cls := "AliasStreams$Text", name := "add", desc := "(I)V" } : Jvm.MethodName) "AliasStreams") ∈ zNs := zmemN 576 (by decide +kernel) rfl
theorem q578 : (Jvm.Cond.instanceMethod ({ cls := "AliasStreams$Text", name := "add", desc := "(I)V" } : Jvm.MethodName)) ∈ zWd := zmem 578 (by decide +kernel) rfl
theorem q579 : (Jvm.Cond.code ({ cls := "AliasStreams$Text", name := "add", desc := "(I)V" } : Jvm.MethodName) prog_11_method_2_code (2 : Nat) (Option.none : Option Jvm.ClassFile.FieldType)) ∈ zWd := zmem 579 (by decide +kernel) rfl
theorem q580 : (Jvm.Cond.methodLink "AliasStreamsLaw" (121 : Nat) ({ cls := "AliasStreamsLaw", name := "load", desc := "(LAliasStreams;[J)I" } : Jvm.MethodName)) ∈ zWd := zmem 580 (by decide +kernel) rfl
theorem q581 : (Jvm.Cond.static ({ cls := "AliasStreamsLaw", name := "load", desc := "(LAliasStreams;[J)I" } : Jvm.MethodName)) ∈ zWd := zmem 581 (by decide +kernel) rfl
theorem q583 : (Jvm.Cond.methodLink "AliasStreamsLaw" (17 : Nat) ({ cls := "AliasStreams", name := "load", desc := "()I" } : Jvm.MethodName)) ∈ zWd := zmem 583 (by decide +kernel) rfl
theorem q584 : (Jvm.Cond.instanceMethod ({ cls := "AliasStreams", name := "load", desc := "()I" } : Jvm.MethodName)) ∈ zWd := zmem 584 (by decide +kernel) rfl
theorem q585 : (Jvm.Cond.selects "AliasStreams" ({ cls := "AliasStreams", name := "load", desc := "()I" } : Jvm.MethodName) ({ cls := "AliasStreams", name := "load", desc := "()I" } : Jvm.MethodName)) ∈ zWd := zmem 585 (by decide +kernel) rfl
theorem q586 : (Jvm.Cond.code ({ cls := "AliasStreams", name := "load", desc := "()I" } : Jvm.MethodName) prog_1_method_5_code (1 : Nat) (Option.some Jvm.ClassFile.FieldType.int)) ∈ zWd := zmem 586 (by decide +kernel) rfl
theorem q588 : (Jvm.Cond.methodLinkNest "AliasStreams" (117 : Nat) ({ cls := "AliasStreams$State", name := "begin", desc := "(LAliasStreams$Text;)V" } : Jvm.MethodName) "AliasStreams") ∈ zNs := zmemN 588 (by decide +kernel) rfl
theorem q590 : (Jvm.Cond.instanceMethod ({ cls := "AliasStreams$State", name := "begin", desc := "(LAliasStreams$Text;)V" } : Jvm.MethodName)) ∈ zWd := zmem 590 (by decide +kernel) rfl
theorem q591 : (Jvm.Cond.code ({ cls := "AliasStreams$State", name := "begin", desc := "(LAliasStreams$Text;)V" } : Jvm.MethodName) prog_7_method_3_code (2 : Nat) (Option.none : Option Jvm.ClassFile.FieldType)) ∈ zWd := zmem 591 (by decide +kernel) rfl
theorem q592 : (Jvm.Cond.methodLink "AliasStreams$State" (25 : Nat) ({ cls := "java/lang/System", name := "arraycopy", desc := "(Ljava/lang/Object;ILjava/lang/Object;II)V" } : Jvm.MethodName)) ∈ zWd := zmem 592 (by decide +kernel) rfl
theorem q593 : (Jvm.Cond.static ({ cls := "java/lang/System", name := "arraycopy", desc := "(Ljava/lang/Object;ILjava/lang/Object;II)V" } : Jvm.MethodName)) ∈ zWd := zmem 593 (by decide +kernel) rfl
theorem q594 : (Jvm.Cond.native ({ cls := "java/lang/System", name := "arraycopy", desc := "(Ljava/lang/Object;ILjava/lang/Object;II)V" } : Jvm.MethodName)) ∈ zWd := zmem 594 (by decide +kernel) rfl
theorem q595 : (Jvm.Cond.methodLinkNest "AliasStreams$State" (44 : Nat) ({ cls := "AliasStreams$Tape", name := "becomeEmpty", desc := "()V" } : Jvm.MethodName) "AliasStreams") ∈ zNs := zmemN 595 (by decide +kernel) rfl
theorem q597 : (Jvm.Cond.instanceMethod ({ cls := "AliasStreams$Tape", name := "becomeEmpty", desc := "()V" } : Jvm.MethodName)) ∈ zWd := zmem 597 (by decide +kernel) rfl
theorem q598 : (Jvm.Cond.code ({ cls := "AliasStreams$Tape", name := "becomeEmpty", desc := "()V" } : Jvm.MethodName) prog_10_method_4_code (1 : Nat) (Option.none : Option Jvm.ClassFile.FieldType)) ∈ zWd := zmem 598 (by decide +kernel) rfl
theorem q599 : (Jvm.Cond.methodLinkNest "AliasStreams" (121 : Nat) ({ cls := "AliasStreams$History", name := "forget", desc := "()V" } : Jvm.MethodName) "AliasStreams") ∈ zNs := zmemN 599 (by decide +kernel) rfl
theorem q601 : (Jvm.Cond.instanceMethod ({ cls := "AliasStreams$History", name := "forget", desc := "()V" } : Jvm.MethodName)) ∈ zWd := zmem 601 (by decide +kernel) rfl
theorem q602 : (Jvm.Cond.code ({ cls := "AliasStreams$History", name := "forget", desc := "()V" } : Jvm.MethodName) prog_2_method_2_code (1 : Nat) (Option.none : Option Jvm.ClassFile.FieldType)) ∈ zWd := zmem 602 (by decide +kernel) rfl
theorem q603 : (Jvm.Cond.methodLinkNest "AliasStreams" (124 : Nat) ({ cls := "AliasStreams$Saves", name := "empty", desc := "()V" } : Jvm.MethodName) "AliasStreams") ∈ zNs := zmemN 603 (by decide +kernel) rfl
theorem q605 : (Jvm.Cond.instanceMethod ({ cls := "AliasStreams$Saves", name := "empty", desc := "()V" } : Jvm.MethodName)) ∈ zWd := zmem 605 (by decide +kernel) rfl
theorem q606 : (Jvm.Cond.code ({ cls := "AliasStreams$Saves", name := "empty", desc := "()V" } : Jvm.MethodName) prog_5_method_2_code (1 : Nat) (Option.none : Option Jvm.ClassFile.FieldType)) ∈ zWd := zmem 606 (by decide +kernel) rfl
theorem q607 : (Jvm.Cond.methodLink "AliasStreamsLaw" (125 : Nat) ({ cls := "AliasStreamsLaw", name := "about", desc := "(LAliasStreams;I[J)I" } : Jvm.MethodName)) ∈ zWd := zmem 607 (by decide +kernel) rfl
theorem q608 : (Jvm.Cond.static ({ cls := "AliasStreamsLaw", name := "about", desc := "(LAliasStreams;I[J)I" } : Jvm.MethodName)) ∈ zWd := zmem 608 (by decide +kernel) rfl
theorem q610 : (Jvm.Cond.methodLink "AliasStreamsLaw" (21 : Nat) ({ cls := "AliasStreams", name := "about", desc := "(I)I" } : Jvm.MethodName)) ∈ zWd := zmem 610 (by decide +kernel) rfl
theorem q611 : (Jvm.Cond.instanceMethod ({ cls := "AliasStreams", name := "about", desc := "(I)I" } : Jvm.MethodName)) ∈ zWd := zmem 611 (by decide +kernel) rfl
theorem q612 : (Jvm.Cond.selects "AliasStreams" ({ cls := "AliasStreams", name := "about", desc := "(I)I" } : Jvm.MethodName) ({ cls := "AliasStreams", name := "about", desc := "(I)I" } : Jvm.MethodName)) ∈ zWd := zmem 612 (by decide +kernel) rfl
theorem q613 : (Jvm.Cond.code ({ cls := "AliasStreams", name := "about", desc := "(I)I" } : Jvm.MethodName) prog_1_method_6_code (2 : Nat) (Option.some Jvm.ClassFile.FieldType.int)) ∈ zWd := zmem 613 (by decide +kernel) rfl
theorem q615 : (Jvm.Cond.methodLink "AliasStreamsLaw" (128 : Nat) ({ cls := "AliasStreamsLaw", name := "symbol", desc := "(LAliasStreams;III[J)I" } : Jvm.MethodName)) ∈ zWd := zmem 615 (by decide +kernel) rfl
theorem q616 : (Jvm.Cond.static ({ cls := "AliasStreamsLaw", name := "symbol", desc := "(LAliasStreams;III[J)I" } : Jvm.MethodName)) ∈ zWd := zmem 616 (by decide +kernel) rfl
theorem q618 : (Jvm.Cond.classLink "AliasStreamsLaw" (28 : Nat) "java/lang/IndexOutOfBoundsException") ∈ zWd := zmem 618 (by decide +kernel) rfl
theorem q619 : (Jvm.Cond.methodLink "AliasStreamsLaw" (24 : Nat) ({ cls := "AliasStreams", name := "symbol", desc := "(III)I" } : Jvm.MethodName)) ∈ zWd := zmem 619 (by decide +kernel) rfl
theorem q620 : (Jvm.Cond.instanceMethod ({ cls := "AliasStreams", name := "symbol", desc := "(III)I" } : Jvm.MethodName)) ∈ zWd := zmem 620 (by decide +kernel) rfl
theorem q621 : (Jvm.Cond.selects "AliasStreams" ({ cls := "AliasStreams", name := "symbol", desc := "(III)I" } : Jvm.MethodName) ({ cls := "AliasStreams", name := "symbol", desc := "(III)I" } : Jvm.MethodName)) ∈ zWd := zmem 621 (by decide +kernel) rfl
theorem q622 : (Jvm.Cond.code ({ cls := "AliasStreams", name := "symbol", desc := "(III)I" } : Jvm.MethodName) prog_1_method_7_code (4 : Nat) (Option.some Jvm.ClassFile.FieldType.int)) ∈ zWd := zmem 622 (by decide +kernel) rfl
theorem q623 : (Jvm.Cond.methodLinkNest "AliasStreams" (156 : Nat) ({ cls := "AliasStreams$Models", name := "hasModel", desc := "(I)Z" } : Jvm.MethodName) "AliasStreams") ∈ zNs := zmemN 623 (by decide +kernel) rfl
theorem q625 : (Jvm.Cond.instanceMethod ({ cls := "AliasStreams$Models", name := "hasModel", desc := "(I)Z" } : Jvm.MethodName)) ∈ zWd := zmem 625 (by decide +kernel) rfl
theorem q626 : (Jvm.Cond.code ({ cls := "AliasStreams$Models", name := "hasModel", desc := "(I)Z" } : Jvm.MethodName) prog_4_method_3_code (2 : Nat) (Option.some Jvm.ClassFile.FieldType.boolean)) ∈ zWd := zmem 626 (by decide +kernel) rfl
theorem q627 : (Jvm.Cond.methodLinkNest "AliasStreams" (160 : Nat) ({ cls := "AliasStreams$Models", name := "hasSymbol", desc := "(I)Z" } : Jvm.MethodName) "AliasStreams") ∈ zNs := zmemN 627 (by decide +kernel) rfl
theorem q629 : (Jvm.Cond.instanceMethod ({ cls := "AliasStreams$Models", name := "hasSymbol", desc := "(I)Z" } : Jvm.MethodName)) ∈ zWd := zmem 629 (by decide +kernel) rfl
theorem q630 : (Jvm.Cond.code ({ cls := "AliasStreams$Models", name := "hasSymbol", desc := "(I)Z" } : Jvm.MethodName) prog_4_method_2_code (2 : Nat) (Option.some Jvm.ClassFile.FieldType.boolean)) ∈ zWd := zmem 630 (by decide +kernel) rfl
theorem q631 : (Jvm.Cond.classLink "AliasStreams" (163 : Nat) "java/lang/IndexOutOfBoundsException") ∈ zWd := zmem 631 (by decide +kernel) rfl
theorem q632 : (Jvm.Cond.instantiable "java/lang/IndexOutOfBoundsException" (6 : Nat)) ∈ zWd := zmem 632 (by decide +kernel) rfl
theorem q634 : (Jvm.Cond.selects "java/lang/IndexOutOfBoundsException" ({ cls := "java/lang/Throwable", name := "fillInStackTrace", desc := "(I)Ljava/lang/Throwable;" } : Jvm.MethodName) ({ cls := "java/lang/Throwable", name := "fillInStackTrace", desc := "(I)Ljava/lang/Throwable;" } : Jvm.MethodName)) ∈ zWd := zmem 634 (by decide +kernel) rfl
theorem q641 : (Jvm.Cond.methodLink "AliasStreams" (167 : Nat) ({ cls := "java/lang/IndexOutOfBoundsException", name := "<init>", desc := "(Ljava/lang/String;)V" } : Jvm.MethodName)) ∈ zWd := zmem 641 (by decide +kernel) rfl
theorem q642 : (Jvm.Cond.instanceMethod ({ cls := "java/lang/IndexOutOfBoundsException", name := "<init>", desc := "(Ljava/lang/String;)V" } : Jvm.MethodName)) ∈ zWd := zmem 642 (by decide +kernel) rfl
theorem q643 : (Jvm.Cond.code ({ cls := "java/lang/IndexOutOfBoundsException", name := "<init>", desc := "(Ljava/lang/String;)V" } : Jvm.MethodName) prog_17_method_2_code (2 : Nat) (Option.none : Option Jvm.ClassFile.FieldType)) ∈ zWd := zmem 643 (by decide +kernel) rfl
theorem q644 : (Jvm.Cond.methodLink "java/lang/IndexOutOfBoundsException" (7 : Nat) ({ cls := "java/lang/RuntimeException", name := "<init>", desc := "(Ljava/lang/String;)V" } : Jvm.MethodName)) ∈ zWd := zmem 644 (by decide +kernel) rfl
theorem q648 : (Jvm.Cond.methodLinkNest "AliasStreams" (170 : Nat) ({ cls := "AliasStreams$State", name := "countOf", desc := "(II)I" } : Jvm.MethodName) "AliasStreams") ∈ zNs := zmemN 648 (by decide +kernel) rfl
theorem q650 : (Jvm.Cond.instanceMethod ({ cls := "AliasStreams$State", name := "countOf", desc := "(II)I" } : Jvm.MethodName)) ∈ zWd := zmem 650 (by decide +kernel) rfl
theorem q651 : (Jvm.Cond.code ({ cls := "AliasStreams$State", name := "countOf", desc := "(II)I" } : Jvm.MethodName) prog_7_method_4_code (3 : Nat) (Option.some Jvm.ClassFile.FieldType.int)) ∈ zWd := zmem 651 (by decide +kernel) rfl
theorem q652 : (Jvm.Cond.methodLinkNest "AliasStreams$State" (47 : Nat) ({ cls := "AliasStreams", name := "countIn", desc := "([III)I" } : Jvm.MethodName) "AliasStreams") ∈ zNs := zmemN 652 (by decide +kernel) rfl
theorem q653 : (Jvm.Cond.methodLinkNest "AliasStreams" (174 : Nat) ({ cls := "AliasStreams$Models", name := "of", desc := "(I)LAliasStreams$Model;" } : Jvm.MethodName) "AliasStreams") ∈ zNs := zmemN 653 (by decide +kernel) rfl
theorem q654 : (Jvm.Cond.methodLinkNest "AliasStreams" (178 : Nat) ({ cls := "AliasStreams$Model", name := "frequencyOf", desc := "(I)I" } : Jvm.MethodName) "AliasStreams") ∈ zNs := zmemN 654 (by decide +kernel) rfl
theorem q655 : (Jvm.Cond.methodLink "AliasStreamsLaw" (132 : Nat) ({ cls := "AliasStreamsLaw", name := "bucket", desc := "(LAliasStreams;III[J)I" } : Jvm.MethodName)) ∈ zWd := zmem 655 (by decide +kernel) rfl
theorem q656 : (Jvm.Cond.static ({ cls := "AliasStreamsLaw", name := "bucket", desc := "(LAliasStreams;III[J)I" } : Jvm.MethodName)) ∈ zWd := zmem 656 (by decide +kernel) rfl
theorem q658 : (Jvm.Cond.methodLink "AliasStreamsLaw" (30 : Nat) ({ cls := "AliasStreams", name := "bucket", desc := "(III)I" } : Jvm.MethodName)) ∈ zWd := zmem 658 (by decide +kernel) rfl
theorem q659 : (Jvm.Cond.instanceMethod ({ cls := "AliasStreams", name := "bucket", desc := "(III)I" } : Jvm.MethodName)) ∈ zWd := zmem 659 (by decide +kernel) rfl
theorem q660 : (Jvm.Cond.selects "AliasStreams" ({ cls := "AliasStreams", name := "bucket", desc := "(III)I" } : Jvm.MethodName) ({ cls := "AliasStreams", name := "bucket", desc := "(III)I" } : Jvm.MethodName)) ∈ zWd := zmem 660 (by decide +kernel) rfl
theorem q661 : (Jvm.Cond.code ({ cls := "AliasStreams", name := "bucket", desc := "(III)I" } : Jvm.MethodName) prog_1_method_8_code (5 : Nat) (Option.some Jvm.ClassFile.FieldType.int)) ∈ zWd := zmem 661 (by decide +kernel) rfl
theorem q663 : (Jvm.Cond.methodLink "AliasStreamsLaw" (135 : Nat) ({ cls := "AliasStreamsLaw", name := "slot", desc := "(LAliasStreams;III[J)I" } : Jvm.MethodName)) ∈ zWd := zmem 663 (by decide +kernel) rfl
theorem q664 : (Jvm.Cond.static ({ cls := "AliasStreamsLaw", name := "slot", desc := "(LAliasStreams;III[J)I" } : Jvm.MethodName)) ∈ zWd := zmem 664 (by decide +kernel) rfl
theorem q666 : (Jvm.Cond.methodLink "AliasStreamsLaw" (33 : Nat) ({ cls := "AliasStreams", name := "slot", desc := "(III)I" } : Jvm.MethodName)) ∈ zWd := zmem 666 (by decide +kernel) rfl
theorem q667 : (Jvm.Cond.instanceMethod ({ cls := "AliasStreams", name := "slot", desc := "(III)I" } : Jvm.MethodName)) ∈ zWd := zmem 667 (by decide +kernel) rfl
theorem q668 : (Jvm.Cond.selects "AliasStreams" ({ cls := "AliasStreams", name := "slot", desc := "(III)I" } : Jvm.MethodName) ({ cls := "AliasStreams", name := "slot", desc := "(III)I" } : Jvm.MethodName)) ∈ zWd := zmem 668 (by decide +kernel) rfl
theorem q669 : (Jvm.Cond.code ({ cls := "AliasStreams", name := "slot", desc := "(III)I" } : Jvm.MethodName) prog_1_method_9_code (5 : Nat) (Option.some Jvm.ClassFile.FieldType.int)) ∈ zWd := zmem 669 (by decide +kernel) rfl
theorem q671 : (Jvm.Cond.methodLink "AliasStreamsLaw" (138 : Nat) ({ cls := "AliasStreamsLaw", name := "item", desc := "(LAliasStreams;I[J)I" } : Jvm.MethodName)) ∈ zWd := zmem 671 (by decide +kernel) rfl
theorem q672 : (Jvm.Cond.static ({ cls := "AliasStreamsLaw", name := "item", desc := "(LAliasStreams;I[J)I" } : Jvm.MethodName)) ∈ zWd := zmem 672 (by decide +kernel) rfl
theorem q674 : (Jvm.Cond.methodLink "AliasStreamsLaw" (36 : Nat) ({ cls := "AliasStreams", name := "item", desc := "(I)I" } : Jvm.MethodName)) ∈ zWd := zmem 674 (by decide +kernel) rfl
theorem q675 : (Jvm.Cond.instanceMethod ({ cls := "AliasStreams", name := "item", desc := "(I)I" } : Jvm.MethodName)) ∈ zWd := zmem 675 (by decide +kernel) rfl
theorem q676 : (Jvm.Cond.selects "AliasStreams" ({ cls := "AliasStreams", name := "item", desc := "(I)I" } : Jvm.MethodName) ({ cls := "AliasStreams", name := "item", desc := "(I)I" } : Jvm.MethodName)) ∈ zWd := zmem 676 (by decide +kernel) rfl
theorem q677 : (Jvm.Cond.code ({ cls := "AliasStreams", name := "item", desc := "(I)I" } : Jvm.MethodName) prog_1_method_10_code (2 : Nat) (Option.some Jvm.ClassFile.FieldType.int)) ∈ zWd := zmem 677 (by decide +kernel) rfl
theorem q678 : (Jvm.Cond.methodLinkNest "AliasStreams" (200 : Nat) ({ cls := "AliasStreams$State", name := "hasItem", desc := "(I)Z" } : Jvm.MethodName) "AliasStreams") ∈ zNs := zmemN 678 (by decide +kernel) rfl
theorem q680 : (Jvm.Cond.instanceMethod ({ cls := "AliasStreams$State", name := "hasItem", desc := "(I)Z" } : Jvm.MethodName)) ∈ zWd := zmem 680 (by decide +kernel) rfl
theorem q681 : (Jvm.Cond.code ({ cls := "AliasStreams$State", name := "hasItem", desc := "(I)Z" } : Jvm.MethodName) prog_7_method_7_code (2 : Nat) (Option.some Jvm.ClassFile.FieldType.boolean)) ∈ zWd := zmem 681 (by decide +kernel) rfl
theorem q683 : (Jvm.Cond.methodLink "AliasStreamsLaw" (141 : Nat) ({ cls := "AliasStreamsLaw", name := "tape", desc := "(LAliasStreams;II[J)I" } : Jvm.MethodName)) ∈ zWd := zmem 683 (by decide +kernel) rfl
theorem q684 : (Jvm.Cond.static ({ cls := "AliasStreamsLaw", name := "tape", desc := "(LAliasStreams;II[J)I" } : Jvm.MethodName)) ∈ zWd := zmem 684 (by decide +kernel) rfl
theorem q686 : (Jvm.Cond.methodLink "AliasStreamsLaw" (39 : Nat) ({ cls := "AliasStreams", name := "tape", desc := "(II)I" } : Jvm.MethodName)) ∈ zWd := zmem 686 (by decide +kernel) rfl
theorem q687 : (Jvm.Cond.instanceMethod ({ cls := "AliasStreams", name := "tape", desc := "(II)I" } : Jvm.MethodName)) ∈ zWd := zmem 687 (by decide +kernel) rfl
theorem q688 : (Jvm.Cond.selects "AliasStreams" ({ cls := "AliasStreams", name := "tape", desc := "(II)I" } : Jvm.MethodName) ({ cls := "AliasStreams", name := "tape", desc := "(II)I" } : Jvm.MethodName)) ∈ zWd := zmem 688 (by decide +kernel) rfl
theorem q689 : (Jvm.Cond.code ({ cls := "AliasStreams", name := "tape", desc := "(II)I" } : Jvm.MethodName) prog_1_method_11_code (4 : Nat) (Option.some Jvm.ClassFile.FieldType.int)) ∈ zWd := zmem 689 (by decide +kernel) rfl
theorem q691 : (Jvm.Cond.methodLinkNest "AliasStreams" (210 : Nat) ({ cls := "AliasStreams$Tape", name := "hasDigit", desc := "(I)Z" } : Jvm.MethodName) "AliasStreams") ∈ zNs := zmemN 691 (by decide +kernel) rfl
theorem q692 : (Jvm.Cond.methodLinkNest "AliasStreams" (216 : Nat) ({ cls := "AliasStreams$Tape", name := "hasPlanned", desc := "(I)Z" } : Jvm.MethodName) "AliasStreams") ∈ zNs := zmemN 692 (by decide +kernel) rfl
theorem q694 : (Jvm.Cond.instanceMethod ({ cls := "AliasStreams$Tape", name := "hasPlanned", desc := "(I)Z" } : Jvm.MethodName)) ∈ zWd := zmem 694 (by decide +kernel) rfl
theorem q695 : (Jvm.Cond.code ({ cls := "AliasStreams$Tape", name := "hasPlanned", desc := "(I)Z" } : Jvm.MethodName) prog_10_method_2_code (2 : Nat) (Option.some Jvm.ClassFile.FieldType.boolean)) ∈ zWd := zmem 695 (by decide +kernel) rfl
theorem q696 : (Jvm.Cond.methodLink "AliasStreams" (222 : Nat) ({ cls := "AliasStreams", name := "isHead", desc := "(I)Z" } : Jvm.MethodName)) ∈ zWd := zmem 696 (by decide +kernel) rfl
theorem q697 : (Jvm.Cond.static ({ cls := "AliasStreams", name := "isHead", desc := "(I)Z" } : Jvm.MethodName)) ∈ zWd := zmem 697 (by decide +kernel) rfl
theorem q698 : (Jvm.Cond.code ({ cls := "AliasStreams", name := "isHead", desc := "(I)Z" } : Jvm.MethodName) prog_1_method_33_code (1 : Nat) (Option.some Jvm.ClassFile.FieldType.boolean)) ∈ zWd := zmem 698 (by decide +kernel) rfl
theorem q700 : (Jvm.Cond.methodLink "AliasStreamsLaw" (145 : Nat) ({ cls := "AliasStreamsLaw", name := "setCount", desc := "(LAliasStreams;III[J)I" } : Jvm.MethodName)) ∈ zWd := zmem 700 (by decide +kernel) rfl
theorem q701 : (Jvm.Cond.static ({ cls := "AliasStreamsLaw", name := "setCount", desc := "(LAliasStreams;III[J)I" } : Jvm.MethodName)) ∈ zWd := zmem 701 (by decide +kernel) rfl
theorem q703 : (Jvm.Cond.methodLink "AliasStreamsLaw" (43 : Nat) ({ cls := "AliasStreams", name := "setCount", desc := "(III)I" } : Jvm.MethodName)) ∈ zWd := zmem 703 (by decide +kernel) rfl
theorem q704 : (Jvm.Cond.instanceMethod ({ cls := "AliasStreams", name := "setCount", desc := "(III)I" } : Jvm.MethodName)) ∈ zWd := zmem 704 (by decide +kernel) rfl
theorem q705 : (Jvm.Cond.selects "AliasStreams" ({ cls := "AliasStreams", name := "setCount", desc := "(III)I" } : Jvm.MethodName) ({ cls := "AliasStreams", name := "setCount", desc := "(III)I" } : Jvm.MethodName)) ∈ zWd := zmem 705 (by decide +kernel) rfl
theorem q706 : (Jvm.Cond.code ({ cls := "AliasStreams", name := "setCount", desc := "(III)I" } : Jvm.MethodName) prog_1_method_12_code (5 : Nat) (Option.some Jvm.ClassFile.FieldType.int)) ∈ zWd := zmem 706 (by decide +kernel) rfl
theorem q708 : (Jvm.Cond.methodLinkNest "AliasStreams" (232 : Nat) ({ cls := "AliasStreams$State", name := "sumOfCounts", desc := "(I)I" } : Jvm.MethodName) "AliasStreams") ∈ zNs := zmemN 708 (by decide +kernel) rfl
theorem q710 : (Jvm.Cond.instanceMethod ({ cls := "AliasStreams$State", name := "sumOfCounts", desc := "(I)I" } : Jvm.MethodName)) ∈ zWd := zmem 710 (by decide +kernel) rfl
theorem q711 : (Jvm.Cond.code ({ cls := "AliasStreams$State", name := "sumOfCounts", desc := "(I)I" } : Jvm.MethodName) prog_7_method_5_code (4 : Nat) (Option.some Jvm.ClassFile.FieldType.int)) ∈ zWd := zmem 711 (by decide +kernel) rfl
theorem q713 : (Jvm.Cond.methodLinkNest "AliasStreams" (237 : Nat) ({ cls := "AliasStreams$History", name := "remember", desc := "(LAliasStreams$State;)V" } : Jvm.MethodName) "AliasStreams") ∈ zNs := zmemN 713 (by decide +kernel) rfl
theorem q715 : (Jvm.Cond.instanceMethod ({ cls := "AliasStreams$History", name := "remember", desc := "(LAliasStreams$State;)V" } : Jvm.MethodName)) ∈ zWd := zmem 715 (by decide +kernel) rfl
theorem q716 : (Jvm.Cond.code ({ cls := "AliasStreams$History", name := "remember", desc := "(LAliasStreams$State;)V" } : Jvm.MethodName) prog_2_method_3_code (2 : Nat) (Option.none : Option Jvm.ClassFile.FieldType)) ∈ zWd := zmem 716 (by decide +kernel) rfl
theorem q717 : (Jvm.Cond.methodLink "AliasStreams$History" (25 : Nat) ({ cls := "AliasStreams$History", name := "placeInRing", desc := "(I)I" } : Jvm.MethodName)) ∈ zWd := zmem 717 (by decide +kernel) rfl
theorem q718 : (Jvm.Cond.static ({ cls := "AliasStreams$History", name := "placeInRing", desc := "(I)I" } : Jvm.MethodName)) ∈ zWd := zmem 718 (by decide +kernel) rfl
theorem q719 : (Jvm.Cond.code ({ cls := "AliasStreams$History", name := "placeInRing", desc := "(I)I" } : Jvm.MethodName) prog_2_method_5_code (1 : Nat) (Option.some Jvm.ClassFile.FieldType.int)) ∈ zWd := zmem 719 (by decide +kernel) rfl
theorem q720 : (Jvm.Cond.methodLink "AliasStreams$History" (39 : Nat) ({ cls := "java/lang/Math", name := "floorMod", desc := "(II)I" } : Jvm.MethodName)) ∈ zWd := zmem 720 (by decide +kernel) rfl
theorem q721 : (Jvm.Cond.static ({ cls := "java/lang/Math", name := "floorMod", desc := "(II)I" } : Jvm.MethodName)) ∈ zWd := zmem 721 (by decide +kernel) rfl
theorem q722 : (Jvm.Cond.code ({ cls := "java/lang/Math", name := "floorMod", desc := "(II)I" } : Jvm.MethodName) prog_18_method_50_code (3 : Nat) (Option.some Jvm.ClassFile.FieldType.int)) ∈ zWd := zmem 722 (by decide +kernel) rfl
theorem q723 : (Jvm.Cond.methodLinkNest "AliasStreams$History" (29 : Nat) ({ cls := "AliasStreams$State", name := "copyFrom", desc := "(LAliasStreams$State;)V" } : Jvm.MethodName) "AliasStreams") ∈ zNs := zmemN 723 (by decide +kernel) rfl
theorem q725 : (Jvm.Cond.instanceMethod ({ cls := "AliasStreams$State", name := "copyFrom", desc := "(LAliasStreams$State;)V" } : Jvm.MethodName)) ∈ zWd := zmem 725 (by decide +kernel) rfl
theorem q726 : (Jvm.Cond.code ({ cls := "AliasStreams$State", name := "copyFrom", desc := "(LAliasStreams$State;)V" } : Jvm.MethodName) prog_7_method_2_code (2 : Nat) (Option.none : Option Jvm.ClassFile.FieldType)) ∈ zWd := zmem 726 (by decide +kernel) rfl
theorem q727 : (Jvm.Cond.methodLinkNest "AliasStreams$State" (35 : Nat) ({ cls := "AliasStreams$Tape", name := "copyFrom", desc := "(LAliasStreams$Tape;)V" } : Jvm.MethodName) "AliasStreams") ∈ zNs := zmemN 727 (by decide +kernel) rfl
theorem q729 : (Jvm.Cond.instanceMethod ({ cls := "AliasStreams$Tape", name := "copyFrom", desc := "(LAliasStreams$Tape;)V" } : Jvm.MethodName)) ∈ zWd := zmem 729 (by decide +kernel) rfl
theorem q730 : (Jvm.Cond.code ({ cls := "AliasStreams$Tape", name := "copyFrom", desc := "(LAliasStreams$Tape;)V" } : Jvm.MethodName) prog_10_method_5_code (2 : Nat) (Option.none : Option Jvm.ClassFile.FieldType)) ∈ zWd := zmem 730 (by decide +kernel) rfl
theorem q731 : (Jvm.Cond.methodLink "AliasStreams$Tape" (28 : Nat) ({ cls := "java/lang/System", name := "arraycopy", desc := "(Ljava/lang/Object;ILjava/lang/Object;II)V" } : Jvm.MethodName)) ∈ zWd := zmem 731 (by decide +kernel) rfl
theorem q732 : (Jvm.Cond.methodLink "AliasStreams$History" (33 : Nat) ({ cls := "java/lang/Math", name := "min", desc := "(II)I" } : Jvm.MethodName)) ∈ zWd := zmem 732 (by decide +kernel) rfl
theorem q733 : (Jvm.Cond.static ({ cls := "java/lang/Math", name := "min", desc := "(II)I" } : Jvm.MethodName)) ∈ zWd := zmem 733 (by decide +kernel) rfl
theorem q734 : (Jvm.Cond.code ({ cls := "java/lang/Math", name := "min", desc := "(II)I" } : Jvm.MethodName) prog_18_method_69_code (2 : Nat) (Option.some Jvm.ClassFile.FieldType.int)) ∈ zWd := zmem 734 (by decide +kernel) rfl
theorem q735 : (Jvm.Cond.methodLinkNest "AliasStreams" (240 : Nat) ({ cls := "AliasStreams$State", name := "changeCount", desc := "(III)V" } : Jvm.MethodName) "AliasStreams") ∈ zNs := zmemN 735 (by decide +kernel) rfl
theorem q737 : (Jvm.Cond.instanceMethod ({ cls := "AliasStreams$State", name := "changeCount", desc := "(III)V" } : Jvm.MethodName)) ∈ zWd := zmem 737 (by decide +kernel) rfl
theorem q738 : (Jvm.Cond.code ({ cls := "AliasStreams$State", name := "changeCount", desc := "(III)V" } : Jvm.MethodName) prog_7_method_6_code (4 : Nat) (Option.none : Option Jvm.ClassFile.FieldType)) ∈ zWd := zmem 738 (by decide +kernel) rfl
theorem q739 : (Jvm.Cond.methodLinkNest "AliasStreams$State" (51 : Nat) ({ cls := "AliasStreams", name := "isCountPlace", desc := "(II)Z" } : Jvm.MethodName) "AliasStreams") ∈ zNs := zmemN 739 (by decide +kernel) rfl
theorem q740 : (Jvm.Cond.methodLink "AliasStreamsLaw" (148 : Nat) ({ cls := "AliasStreamsLaw", name := "insert", desc := "(LAliasStreams;II[J)I" } : Jvm.MethodName)) ∈ zWd := zmem 740 (by decide +kernel) rfl
theorem q741 : (Jvm.Cond.static ({ cls := "AliasStreamsLaw", name := "insert", desc := "(LAliasStreams;II[J)I" } : Jvm.MethodName)) ∈ zWd := zmem 741 (by decide +kernel) rfl
theorem q743 : (Jvm.Cond.methodLink "AliasStreamsLaw" (46 : Nat) ({ cls := "AliasStreams", name := "insert", desc := "(II)I" } : Jvm.MethodName)) ∈ zWd := zmem 743 (by decide +kernel) rfl
theorem q744 : (Jvm.Cond.instanceMethod ({ cls := "AliasStreams", name := "insert", desc := "(II)I" } : Jvm.MethodName)) ∈ zWd := zmem 744 (by decide +kernel) rfl
theorem q745 : (Jvm.Cond.selects "AliasStreams" ({ cls := "AliasStreams", name := "insert", desc := "(II)I" } : Jvm.MethodName) ({ cls := "AliasStreams", name := "insert", desc := "(II)I" } : Jvm.MethodName)) ∈ zWd := zmem 745 (by decide +kernel) rfl
theorem q746 : (Jvm.Cond.code ({ cls := "AliasStreams", name := "insert", desc := "(II)I" } : Jvm.MethodName) prog_1_method_13_code (3 : Nat) (Option.some Jvm.ClassFile.FieldType.int)) ∈ zWd := zmem 746 (by decide +kernel) rfl
theorem q748 : (Jvm.Cond.methodLinkNest "AliasStreams" (246 : Nat) ({ cls := "AliasStreams$Models", name := "allowItem", desc := "(I)Z" } : Jvm.MethodName) "AliasStreams") ∈ zNs := zmemN 748 (by decide +kernel) rfl
theorem q750 : (Jvm.Cond.instanceMethod ({ cls := "AliasStreams$Models", name := "allowItem", desc := "(I)Z" } : Jvm.MethodName)) ∈ zWd := zmem 750 (by decide +kernel) rfl
theorem q751 : (Jvm.Cond.code ({ cls := "AliasStreams$Models", name := "allowItem", desc := "(I)Z" } : Jvm.MethodName) prog_4_method_4_code (2 : Nat) (Option.some Jvm.ClassFile.FieldType.boolean)) ∈ zWd := zmem 751 (by decide +kernel) rfl
theorem q752 : (Jvm.Cond.methodLink "AliasStreams$Models" (25 : Nat) ({ cls := "AliasStreams$Models", name := "hasSymbol", desc := "(I)Z" } : Jvm.MethodName)) ∈ zWd := zmem 752 (by decide +kernel) rfl
theorem q753 : (Jvm.Cond.methodLink "AliasStreams$Models" (29 : Nat) ({ cls := "AliasStreams$Models", name := "hasModel", desc := "(I)Z" } : Jvm.MethodName)) ∈ zWd := zmem 753 (by decide +kernel) rfl
theorem q756 : (Jvm.Cond.methodLinkNest "AliasStreams" (253 : Nat) ({ cls := "AliasStreams$State", name := "addItem", desc := "(II)V" } : Jvm.MethodName) "AliasStreams") ∈ zNs := zmemN 756 (by decide +kernel) rfl
theorem q758 : (Jvm.Cond.instanceMethod ({ cls := "AliasStreams$State", name := "addItem", desc := "(II)V" } : Jvm.MethodName)) ∈ zWd := zmem 758 (by decide +kernel) rfl
theorem q759 : (Jvm.Cond.code ({ cls := "AliasStreams$State", name := "addItem", desc := "(II)V" } : Jvm.MethodName) prog_7_method_8_code (4 : Nat) (Option.none : Option Jvm.ClassFile.FieldType)) ∈ zWd := zmem 759 (by decide +kernel) rfl
theorem q760 : (Jvm.Cond.methodLink "AliasStreamsLaw" (151 : Nat) ({ cls := "AliasStreamsLaw", name := "remove", desc := "(LAliasStreams;I[J)I" } : Jvm.MethodName)) ∈ zWd := zmem 760 (by decide +kernel) rfl
theorem q761 : (Jvm.Cond.static ({ cls := "AliasStreamsLaw", name := "remove", desc := "(LAliasStreams;I[J)I" } : Jvm.MethodName)) ∈ zWd := zmem 761 (by decide +kernel) rfl
theorem q763 : (Jvm.Cond.methodLink "AliasStreamsLaw" (49 : Nat) ({ cls := "AliasStreams", name := "remove", desc := "(I)I" } : Jvm.MethodName)) ∈ zWd := zmem 763 (by decide +kernel) rfl
theorem q764 : (Jvm.Cond.instanceMethod ({ cls := "AliasStreams", name := "remove", desc := "(I)I" } : Jvm.MethodName)) ∈ zWd := zmem 764 (by decide +kernel) rfl
theorem q765 : (Jvm.Cond.selects "AliasStreams" ({ cls := "AliasStreams", name := "remove", desc := "(I)I" } : Jvm.MethodName) ({ cls := "AliasStreams", name := "remove", desc := "(I)I" } : Jvm.MethodName)) ∈ zWd := zmem 765 (by decide +kernel) rfl
theorem q766 : (Jvm.Cond.code ({ cls := "AliasStreams", name := "remove", desc := "(I)I" } : Jvm.MethodName) prog_1_method_14_code (3 : Nat) (Option.some Jvm.ClassFile.FieldType.int)) ∈ zWd := zmem 766 (by decide +kernel) rfl
theorem q767 : (Jvm.Cond.methodLinkNest "AliasStreams" (257 : Nat) ({ cls := "AliasStreams$State", name := "dropItem", desc := "(I)V" } : Jvm.MethodName) "AliasStreams") ∈ zNs := zmemN 767 (by decide +kernel) rfl
theorem q769 : (Jvm.Cond.instanceMethod ({ cls := "AliasStreams$State", name := "dropItem", desc := "(I)V" } : Jvm.MethodName)) ∈ zWd := zmem 769 (by decide +kernel) rfl
theorem q770 : (Jvm.Cond.code ({ cls := "AliasStreams$State", name := "dropItem", desc := "(I)V" } : Jvm.MethodName) prog_7_method_9_code (3 : Nat) (Option.none : Option Jvm.ClassFile.FieldType)) ∈ zWd := zmem 770 (by decide +kernel) rfl
theorem q771 : (Jvm.Cond.methodLink "AliasStreams$State" (55 : Nat) ({ cls := "AliasStreams$State", name := "hasItem", desc := "(I)Z" } : Jvm.MethodName)) ∈ zWd := zmem 771 (by decide +kernel) rfl
theorem q772 : (Jvm.Cond.methodLink "AliasStreamsLaw" (154 : Nat) ({ cls := "AliasStreamsLaw", name := "encode", desc := "(LAliasStreams;[J)I" } : Jvm.MethodName)) ∈ zWd := zmem 772 (by decide +kernel) rfl
theorem q773 : (Jvm.Cond.static ({ cls := "AliasStreamsLaw", name := "encode", desc := "(LAliasStreams;[J)I" } : Jvm.MethodName)) ∈ zWd := zmem 773 (by decide +kernel) rfl
theorem q775 : (Jvm.Cond.methodLink "AliasStreamsLaw" (52 : Nat) ({ cls := "AliasStreams", name := "encode", desc := "()I" } : Jvm.MethodName)) ∈ zWd := zmem 775 (by decide +kernel) rfl
theorem q776 : (Jvm.Cond.instanceMethod ({ cls := "AliasStreams", name := "encode", desc := "()I" } : Jvm.MethodName)) ∈ zWd := zmem 776 (by decide +kernel) rfl
theorem q777 : (Jvm.Cond.selects "AliasStreams" ({ cls := "AliasStreams", name := "encode", desc := "()I" } : Jvm.MethodName) ({ cls := "AliasStreams", name := "encode", desc := "()I" } : Jvm.MethodName)) ∈ zWd := zmem 777 (by decide +kernel) rfl
theorem q778 : (Jvm.Cond.code ({ cls := "AliasStreams", name := "encode", desc := "()I" } : Jvm.MethodName) prog_1_method_15_code (1 : Nat) (Option.some Jvm.ClassFile.FieldType.int)) ∈ zWd := zmem 778 (by decide +kernel) rfl
theorem q780 : (Jvm.Cond.methodLinkNest "AliasStreams" (266 : Nat) ({ cls := "AliasStreams$Tape", name := "fill", desc := "(LAliasStreams$Symbols;LAliasStreams$Models;)V" } : Jvm.MethodName) "AliasStreams") ∈ zNs := zmemN 780 (by decide +kernel) rfl
theorem q782 : (Jvm.Cond.instanceMethod ({ cls := "AliasStreams$Tape", name := "fill", desc := "(LAliasStreams$Symbols;LAliasStreams$Models;)V" } : Jvm.MethodName)) ∈ zWd := zmem 782 (by decide +kernel) rfl
theorem q783 : (Jvm.Cond.code ({ cls := "AliasStreams$Tape", name := "fill", desc := "(LAliasStreams$Symbols;LAliasStreams$Models;)V" } : Jvm.MethodName) prog_10_method_6_code (4 : Nat) (Option.none : Option Jvm.ClassFile.FieldType)) ∈ zWd := zmem 783 (by decide +kernel) rfl
theorem q784 : (Jvm.Cond.methodLink "AliasStreams$Tape" (34 : Nat) ({ cls := "AliasStreams$Tape", name := "becomeEmpty", desc := "()V" } : Jvm.MethodName)) ∈ zWd := zmem 784 (by decide +kernel) rfl
theorem q785 : (Jvm.Cond.methodLink "AliasStreams$Tape" (42 : Nat) ({ cls := "java/lang/Math", name := "min", desc := "(II)I" } : Jvm.MethodName)) ∈ zWd := zmem 785 (by decide +kernel) rfl
theorem q786 : (Jvm.Cond.methodLinkNest "AliasStreams$Tape" (51 : Nat) ({ cls := "AliasStreams$Models", name := "of", desc := "(I)LAliasStreams$Model;" } : Jvm.MethodName) "AliasStreams") ∈ zNs := zmemN 786 (by decide +kernel) rfl
theorem q787 : (Jvm.Cond.methodLink "AliasStreams$Tape" (60 : Nat) ({ cls := "AliasStreams$Tape", name := "putSymbol", desc := "(LAliasStreams$Model;II)V" } : Jvm.MethodName)) ∈ zWd := zmem 787 (by decide +kernel) rfl
theorem q789 : (Jvm.Cond.instanceMethod ({ cls := "AliasStreams$Tape", name := "putSymbol", desc := "(LAliasStreams$Model;II)V" } : Jvm.MethodName)) ∈ zWd := zmem 789 (by decide +kernel) rfl
theorem q790 : (Jvm.Cond.code ({ cls := "AliasStreams$Tape", name := "putSymbol", desc := "(LAliasStreams$Model;II)V" } : Jvm.MethodName) prog_10_method_7_code (7 : Nat) (Option.none : Option Jvm.ClassFile.FieldType)) ∈ zWd := zmem 790 (by decide +kernel) rfl
theorem q791 : (Jvm.Cond.methodLinkNest "AliasStreams$Tape" (64 : Nat) ({ cls := "AliasStreams$Model", name := "frequencyOf", desc := "(I)I" } : Jvm.MethodName) "AliasStreams") ∈ zNs := zmemN 791 (by decide +kernel) rfl
theorem q792 : (Jvm.Cond.methodLinkNest "AliasStreams$Tape" (70 : Nat) ({ cls := "AliasStreams", name := "isHead", desc := "(I)Z" } : Jvm.MethodName) "AliasStreams") ∈ zNs := zmemN 792 (by decide +kernel) rfl
theorem q793 : (Jvm.Cond.methodLink "AliasStreams$Tape" (74 : Nat) ({ cls := "AliasStreams$Tape", name := "writeDigit", desc := "(I)V" } : Jvm.MethodName)) ∈ zWd := zmem 793 (by decide +kernel) rfl
theorem q795 : (Jvm.Cond.instanceMethod ({ cls := "AliasStreams$Tape", name := "writeDigit", desc := "(I)V" } : Jvm.MethodName)) ∈ zWd := zmem 795 (by decide +kernel) rfl
theorem q796 : (Jvm.Cond.code ({ cls := "AliasStreams$Tape", name := "writeDigit", desc := "(I)V" } : Jvm.MethodName) prog_10_method_8_code (2 : Nat) (Option.none : Option Jvm.ClassFile.FieldType)) ∈ zWd := zmem 796 (by decide +kernel) rfl
theorem q797 : (Jvm.Cond.methodLinkNest "AliasStreams$Tape" (78 : Nat) ({ cls := "AliasStreams$Model", name := "slotOf", desc := "(II)I" } : Jvm.MethodName) "AliasStreams") ∈ zNs := zmemN 797 (by decide +kernel) rfl
theorem q799 : (Jvm.Cond.instanceMethod ({ cls := "AliasStreams$Model", name := "slotOf", desc := "(II)I" } : Jvm.MethodName)) ∈ zWd := zmem 799 (by decide +kernel) rfl
theorem q800 : (Jvm.Cond.code ({ cls := "AliasStreams$Model", name := "slotOf", desc := "(II)I" } : Jvm.MethodName) prog_3_method_3_code (4 : Nat) (Option.some Jvm.ClassFile.FieldType.int)) ∈ zWd := zmem 800 (by decide +kernel) rfl
theorem q801 : (Jvm.Cond.methodLink "AliasStreamsLaw" (157 : Nat) ({ cls := "AliasStreamsLaw", name := "decode", desc := "(LAliasStreams;[J)I" } : Jvm.MethodName)) ∈ zWd := zmem 801 (by decide +kernel) rfl
theorem q802 : (Jvm.Cond.static ({ cls := "AliasStreamsLaw", name := "decode", desc := "(LAliasStreams;[J)I" } : Jvm.MethodName)) ∈ zWd := zmem 802 (by decide +kernel) rfl
theorem q804 : (Jvm.Cond.methodLink "AliasStreamsLaw" (55 : Nat) ({ cls := "AliasStreams", name := "decode", desc := "()I" } : Jvm.MethodName)) ∈ zWd := zmem 804 (by decide +kernel) rfl
theorem q805 : (Jvm.Cond.instanceMethod ({ cls := "AliasStreams", name := "decode", desc := "()I" } : Jvm.MethodName)) ∈ zWd := zmem 805 (by decide +kernel) rfl
theorem q806 : (Jvm.Cond.selects "AliasStreams" ({ cls := "AliasStreams", name := "decode", desc := "()I" } : Jvm.MethodName) ({ cls := "AliasStreams", name := "decode", desc := "()I" } : Jvm.MethodName)) ∈ zWd := zmem 806 (by decide +kernel) rfl
theorem q807 : (Jvm.Cond.code ({ cls := "AliasStreams", name := "decode", desc := "()I" } : Jvm.MethodName) prog_1_method_16_code (1 : Nat) (Option.some Jvm.ClassFile.FieldType.int)) ∈ zWd := zmem 807 (by decide +kernel) rfl
theorem q808 : (Jvm.Cond.methodLinkNest "AliasStreams" (273 : Nat) ({ cls := "AliasStreams$Tape", name := "itemsNeeded", desc := "()I" } : Jvm.MethodName) "AliasStreams") ∈ zNs := zmemN 808 (by decide +kernel) rfl
theorem q810 : (Jvm.Cond.instanceMethod ({ cls := "AliasStreams$Tape", name := "itemsNeeded", desc := "()I" } : Jvm.MethodName)) ∈ zWd := zmem 810 (by decide +kernel) rfl
theorem q811 : (Jvm.Cond.code ({ cls := "AliasStreams$Tape", name := "itemsNeeded", desc := "()I" } : Jvm.MethodName) prog_10_method_9_code (4 : Nat) (Option.some Jvm.ClassFile.FieldType.int)) ∈ zWd := zmem 811 (by decide +kernel) rfl
theorem q813 : (Jvm.Cond.methodLinkNest "AliasStreams" (278 : Nat) ({ cls := "AliasStreams$State", name := "takeMessage", desc := "(LAliasStreams$Taking;)V" } : Jvm.MethodName) "AliasStreams") ∈ zNs := zmemN 813 (by decide +kernel) rfl
theorem q815 : (Jvm.Cond.instanceMethod ({ cls := "AliasStreams$State", name := "takeMessage", desc := "(LAliasStreams$Taking;)V" } : Jvm.MethodName)) ∈ zWd := zmem 815 (by decide +kernel) rfl
theorem q816 : (Jvm.Cond.code ({ cls := "AliasStreams$State", name := "takeMessage", desc := "(LAliasStreams$Taking;)V" } : Jvm.MethodName) prog_7_method_10_code (4 : Nat) (Option.none : Option Jvm.ClassFile.FieldType)) ∈ zWd := zmem 816 (by decide +kernel) rfl
theorem q817 : (Jvm.Cond.methodLink "AliasStreams$State" (65 : Nat) ({ cls := "AliasStreams$State", name := "addItem", desc := "(II)V" } : Jvm.MethodName)) ∈ zWd := zmem 817 (by decide +kernel) rfl
theorem q818 : (Jvm.Cond.methodLink "AliasStreamsLaw" (160 : Nat) ({ cls := "AliasStreamsLaw", name := "setDigit", desc := "(LAliasStreams;II[J)I" } : Jvm.MethodName)) ∈ zWd := zmem 818 (by decide +kernel) rfl
theorem q819 : (Jvm.Cond.static ({ cls := "AliasStreamsLaw", name := "setDigit", desc := "(LAliasStreams;II[J)I" } : Jvm.MethodName)) ∈ zWd := zmem 819 (by decide +kernel) rfl
theorem q821 : (Jvm.Cond.methodLink "AliasStreamsLaw" (58 : Nat) ({ cls := "AliasStreams", name := "setDigit", desc := "(II)I" } : Jvm.MethodName)) ∈ zWd := zmem 821 (by decide +kernel) rfl
theorem q822 : (Jvm.Cond.instanceMethod ({ cls := "AliasStreams", name := "setDigit", desc := "(II)I" } : Jvm.MethodName)) ∈ zWd := zmem 822 (by decide +kernel) rfl
theorem q823 : (Jvm.Cond.selects "AliasStreams" ({ cls := "AliasStreams", name := "setDigit", desc := "(II)I" } : Jvm.MethodName) ({ cls := "AliasStreams", name := "setDigit", desc := "(II)I" } : Jvm.MethodName)) ∈ zWd := zmem 823 (by decide +kernel) rfl
theorem q824 : (Jvm.Cond.code ({ cls := "AliasStreams", name := "setDigit", desc := "(II)I" } : Jvm.MethodName) prog_1_method_17_code (4 : Nat) (Option.some Jvm.ClassFile.FieldType.int)) ∈ zWd := zmem 824 (by decide +kernel) rfl
theorem q826 : (Jvm.Cond.methodLink "AliasStreams" (284 : Nat) ({ cls := "AliasStreams", name := "isDigit", desc := "(I)Z" } : Jvm.MethodName)) ∈ zWd := zmem 826 (by decide +kernel) rfl
theorem q827 : (Jvm.Cond.static ({ cls := "AliasStreams", name := "isDigit", desc := "(I)Z" } : Jvm.MethodName)) ∈ zWd := zmem 827 (by decide +kernel) rfl
theorem q828 : (Jvm.Cond.code ({ cls := "AliasStreams", name := "isDigit", desc := "(I)Z" } : Jvm.MethodName) prog_1_method_34_code (1 : Nat) (Option.some Jvm.ClassFile.FieldType.boolean)) ∈ zWd := zmem 828 (by decide +kernel) rfl
theorem q830 : (Jvm.Cond.methodLink "AliasStreamsLaw" (163 : Nat) ({ cls := "AliasStreamsLaw", name := "setHead", desc := "(LAliasStreams;II[J)I" } : Jvm.MethodName)) ∈ zWd := zmem 830 (by decide +kernel) rfl
theorem q831 : (Jvm.Cond.static ({ cls := "AliasStreamsLaw", name := "setHead", desc := "(LAliasStreams;II[J)I" } : Jvm.MethodName)) ∈ zWd := zmem 831 (by decide +kernel) rfl
theorem q833 : (Jvm.Cond.methodLink "AliasStreamsLaw" (61 : Nat) ({ cls := "AliasStreams", name := "setHead", desc := "(II)I" } : Jvm.MethodName)) ∈ zWd := zmem 833 (by decide +kernel) rfl
theorem q834 : (Jvm.Cond.instanceMethod ({ cls := "AliasStreams", name := "setHead", desc := "(II)I" } : Jvm.MethodName)) ∈ zWd := zmem 834 (by decide +kernel) rfl
theorem q835 : (Jvm.Cond.selects "AliasStreams" ({ cls := "AliasStreams", name := "setHead", desc := "(II)I" } : Jvm.MethodName) ({ cls := "AliasStreams", name := "setHead", desc := "(II)I" } : Jvm.MethodName)) ∈ zWd := zmem 835 (by decide +kernel) rfl
theorem q836 : (Jvm.Cond.code ({ cls := "AliasStreams", name := "setHead", desc := "(II)I" } : Jvm.MethodName) prog_1_method_18_code (4 : Nat) (Option.some Jvm.ClassFile.FieldType.int)) ∈ zWd := zmem 836 (by decide +kernel) rfl
theorem q839 : (Jvm.Cond.methodLink "AliasStreamsLaw" (166 : Nat) ({ cls := "AliasStreamsLaw", name := "setPlan", desc := "(LAliasStreams;II[J)I" } : Jvm.MethodName)) ∈ zWd := zmem 839 (by decide +kernel) rfl
theorem q840 : (Jvm.Cond.static ({ cls := "AliasStreamsLaw", name := "setPlan", desc := "(LAliasStreams;II[J)I" } : Jvm.MethodName)) ∈ zWd := zmem 840 (by decide +kernel) rfl
theorem q842 : (Jvm.Cond.methodLink "AliasStreamsLaw" (64 : Nat) ({ cls := "AliasStreams", name := "setPlan", desc := "(II)I" } : Jvm.MethodName)) ∈ zWd := zmem 842 (by decide +kernel) rfl
theorem q843 : (Jvm.Cond.instanceMethod ({ cls := "AliasStreams", name := "setPlan", desc := "(II)I" } : Jvm.MethodName)) ∈ zWd := zmem 843 (by decide +kernel) rfl
theorem q844 : (Jvm.Cond.selects "AliasStreams" ({ cls := "AliasStreams", name := "setPlan", desc := "(II)I" } : Jvm.MethodName) ({ cls := "AliasStreams", name := "setPlan", desc := "(II)I" } : Jvm.MethodName)) ∈ zWd := zmem 844 (by decide +kernel) rfl
theorem q845 : (Jvm.Cond.code ({ cls := "AliasStreams", name := "setPlan", desc := "(II)I" } : Jvm.MethodName) prog_1_method_19_code (4 : Nat) (Option.some Jvm.ClassFile.FieldType.int)) ∈ zWd := zmem 845 (by decide +kernel) rfl
theorem q847 : (Jvm.Cond.methodLink "AliasStreamsLaw" (169 : Nat) ({ cls := "AliasStreamsLaw", name := "undo", desc := "(LAliasStreams;[J)I" } : Jvm.MethodName)) ∈ zWd := zmem 847 (by decide +kernel) rfl
theorem q848 : (Jvm.Cond.static ({ cls := "AliasStreamsLaw", name := "undo", desc := "(LAliasStreams;[J)I" } : Jvm.MethodName)) ∈ zWd := zmem 848 (by decide +kernel) rfl
theorem q850 : (Jvm.Cond.methodLink "AliasStreamsLaw" (67 : Nat) ({ cls := "AliasStreams", name := "undo", desc := "()I" } : Jvm.MethodName)) ∈ zWd := zmem 850 (by decide +kernel) rfl
theorem q851 : (Jvm.Cond.instanceMethod ({ cls := "AliasStreams", name := "undo", desc := "()I" } : Jvm.MethodName)) ∈ zWd := zmem 851 (by decide +kernel) rfl
theorem q852 : (Jvm.Cond.selects "AliasStreams" ({ cls := "AliasStreams", name := "undo", desc := "()I" } : Jvm.MethodName) ({ cls := "AliasStreams", name := "undo", desc := "()I" } : Jvm.MethodName)) ∈ zWd := zmem 852 (by decide +kernel) rfl
theorem q853 : (Jvm.Cond.code ({ cls := "AliasStreams", name := "undo", desc := "()I" } : Jvm.MethodName) prog_1_method_20_code (1 : Nat) (Option.some Jvm.ClassFile.FieldType.int)) ∈ zWd := zmem 853 (by decide +kernel) rfl
theorem q855 : (Jvm.Cond.methodLinkNest "AliasStreams" (298 : Nat) ({ cls := "AliasStreams$History", name := "giveBack", desc := "(LAliasStreams$State;)V" } : Jvm.MethodName) "AliasStreams") ∈ zNs := zmemN 855 (by decide +kernel) rfl
theorem q857 : (Jvm.Cond.instanceMethod ({ cls := "AliasStreams$History", name := "giveBack", desc := "(LAliasStreams$State;)V" } : Jvm.MethodName)) ∈ zWd := zmem 857 (by decide +kernel) rfl
theorem q858 : (Jvm.Cond.code ({ cls := "AliasStreams$History", name := "giveBack", desc := "(LAliasStreams$State;)V" } : Jvm.MethodName) prog_2_method_4_code (2 : Nat) (Option.none : Option Jvm.ClassFile.FieldType)) ∈ zWd := zmem 858 (by decide +kernel) rfl
theorem q859 : (Jvm.Cond.methodLink "AliasStreamsLaw" (172 : Nat) ({ cls := "AliasStreamsLaw", name := "taken", desc := "(LAliasStreams;II[J)I" } : Jvm.MethodName)) ∈ zWd := zmem 859 (by decide +kernel) rfl
theorem q860 : (Jvm.Cond.static ({ cls := "AliasStreamsLaw", name := "taken", desc := "(LAliasStreams;II[J)I" } : Jvm.MethodName)) ∈ zWd := zmem 860 (by decide +kernel) rfl
theorem q862 : (Jvm.Cond.methodLink "AliasStreamsLaw" (70 : Nat) ({ cls := "AliasStreams", name := "taken", desc := "(II)I" } : Jvm.MethodName)) ∈ zWd := zmem 862 (by decide +kernel) rfl
theorem q863 : (Jvm.Cond.instanceMethod ({ cls := "AliasStreams", name := "taken", desc := "(II)I" } : Jvm.MethodName)) ∈ zWd := zmem 863 (by decide +kernel) rfl
theorem q864 : (Jvm.Cond.selects "AliasStreams" ({ cls := "AliasStreams", name := "taken", desc := "(II)I" } : Jvm.MethodName) ({ cls := "AliasStreams", name := "taken", desc := "(II)I" } : Jvm.MethodName)) ∈ zWd := zmem 864 (by decide +kernel) rfl
theorem q865 : (Jvm.Cond.code ({ cls := "AliasStreams", name := "taken", desc := "(II)I" } : Jvm.MethodName) prog_1_method_21_code (3 : Nat) (Option.some Jvm.ClassFile.FieldType.int)) ∈ zWd := zmem 865 (by decide +kernel) rfl
theorem q868 : (Jvm.Cond.methodLink "AliasStreamsLaw" (183 : Nat) ({ cls := "AliasStreamsLaw", name := "digitsWith", desc := "(LAliasStreams;I[J)I" } : Jvm.MethodName)) ∈ zWd := zmem 868 (by decide +kernel) rfl
theorem q869 : (Jvm.Cond.static ({ cls := "AliasStreamsLaw", name := "digitsWith", desc := "(LAliasStreams;I[J)I" } : Jvm.MethodName)) ∈ zWd := zmem 869 (by decide +kernel) rfl
theorem q871 : (Jvm.Cond.methodLink "AliasStreamsLaw" (73 : Nat) ({ cls := "AliasStreams", name := "digitsWith", desc := "(I)I" } : Jvm.MethodName)) ∈ zWd := zmem 871 (by decide +kernel) rfl
theorem q872 : (Jvm.Cond.instanceMethod ({ cls := "AliasStreams", name := "digitsWith", desc := "(I)I" } : Jvm.MethodName)) ∈ zWd := zmem 872 (by decide +kernel) rfl
theorem q873 : (Jvm.Cond.selects "AliasStreams" ({ cls := "AliasStreams", name := "digitsWith", desc := "(I)I" } : Jvm.MethodName) ({ cls := "AliasStreams", name := "digitsWith", desc := "(I)I" } : Jvm.MethodName)) ∈ zWd := zmem 873 (by decide +kernel) rfl
theorem q874 : (Jvm.Cond.code ({ cls := "AliasStreams", name := "digitsWith", desc := "(I)I" } : Jvm.MethodName) prog_1_method_24_code (2 : Nat) (Option.some Jvm.ClassFile.FieldType.int)) ∈ zWd := zmem 874 (by decide +kernel) rfl
theorem q876 : (Jvm.Cond.methodLinkNest "AliasStreams" (318 : Nat) ({ cls := "AliasStreams$Symbols", name := "useOneModel", desc := "(I)V" } : Jvm.MethodName) "AliasStreams") ∈ zNs := zmemN 876 (by decide +kernel) rfl
theorem q878 : (Jvm.Cond.instanceMethod ({ cls := "AliasStreams$Symbols", name := "useOneModel", desc := "(I)V" } : Jvm.MethodName)) ∈ zWd := zmem 878 (by decide +kernel) rfl
theorem q879 : (Jvm.Cond.code ({ cls := "AliasStreams$Symbols", name := "useOneModel", desc := "(I)V" } : Jvm.MethodName) prog_8_method_4_code (3 : Nat) (Option.none : Option Jvm.ClassFile.FieldType)) ∈ zWd := zmem 879 (by decide +kernel) rfl
theorem q880 : (Jvm.Cond.methodLink "AliasStreamsLaw" (186 : Nat) ({ cls := "AliasStreamsLaw", name := "product", desc := "(LAliasStreams;III[J)I" } : Jvm.MethodName)) ∈ zWd := zmem 880 (by decide +kernel) rfl
theorem q881 : (Jvm.Cond.static ({ cls := "AliasStreamsLaw", name := "product", desc := "(LAliasStreams;III[J)I" } : Jvm.MethodName)) ∈ zWd := zmem 881 (by decide +kernel) rfl
theorem q883 : (Jvm.Cond.methodLink "AliasStreamsLaw" (76 : Nat) ({ cls := "AliasStreams", name := "product", desc := "(III)J" } : Jvm.MethodName)) ∈ zWd := zmem 883 (by decide +kernel) rfl
theorem q884 : (Jvm.Cond.instanceMethod ({ cls := "AliasStreams", name := "product", desc := "(III)J" } : Jvm.MethodName)) ∈ zWd := zmem 884 (by decide +kernel) rfl
theorem q885 : (Jvm.Cond.selects "AliasStreams" ({ cls := "AliasStreams", name := "product", desc := "(III)J" } : Jvm.MethodName) ({ cls := "AliasStreams", name := "product", desc := "(III)J" } : Jvm.MethodName)) ∈ zWd := zmem 885 (by decide +kernel) rfl
theorem q886 : (Jvm.Cond.code ({ cls := "AliasStreams", name := "product", desc := "(III)J" } : Jvm.MethodName) prog_1_method_25_code (4 : Nat) (Option.some Jvm.ClassFile.FieldType.long)) ∈ zWd := zmem 886 (by decide +kernel) rfl
theorem q889 : (Jvm.Cond.methodLinkNest "AliasStreams" (328 : Nat) ({ cls := "AliasStreams$Symbols", name := "multiply", desc := "(LAliasStreams$Model;II)J" } : Jvm.MethodName) "AliasStreams") ∈ zNs := zmemN 889 (by decide +kernel) rfl
theorem q891 : (Jvm.Cond.instanceMethod ({ cls := "AliasStreams$Symbols", name := "multiply", desc := "(LAliasStreams$Model;II)J" } : Jvm.MethodName)) ∈ zWd := zmem 891 (by decide +kernel) rfl
theorem q892 : (Jvm.Cond.code ({ cls := "AliasStreams$Symbols", name := "multiply", desc := "(LAliasStreams$Model;II)J" } : Jvm.MethodName) prog_8_method_6_code (7 : Nat) (Option.some Jvm.ClassFile.FieldType.long)) ∈ zWd := zmem 892 (by decide +kernel) rfl
theorem q893 : (Jvm.Cond.methodLink "AliasStreams$Symbols" (42 : Nat) ({ cls := "AliasStreams$Symbols", name := "has", desc := "(I)Z" } : Jvm.MethodName)) ∈ zWd := zmem 893 (by decide +kernel) rfl
theorem q894 : (Jvm.Cond.methodLink "AliasStreamsLaw" (189 : Nat) ({ cls := "AliasStreamsLaw", name := "bestModel", desc := "(LAliasStreams;II[J)I" } : Jvm.MethodName)) ∈ zWd := zmem 894 (by decide +kernel) rfl
theorem q895 : (Jvm.Cond.static ({ cls := "AliasStreamsLaw", name := "bestModel", desc := "(LAliasStreams;II[J)I" } : Jvm.MethodName)) ∈ zWd := zmem 895 (by decide +kernel) rfl
theorem q897 : (Jvm.Cond.methodLink "AliasStreamsLaw" (80 : Nat) ({ cls := "AliasStreams", name := "bestModel", desc := "(II)I" } : Jvm.MethodName)) ∈ zWd := zmem 897 (by decide +kernel) rfl
theorem q898 : (Jvm.Cond.instanceMethod ({ cls := "AliasStreams", name := "bestModel", desc := "(II)I" } : Jvm.MethodName)) ∈ zWd := zmem 898 (by decide +kernel) rfl
theorem q899 : (Jvm.Cond.selects "AliasStreams" ({ cls := "AliasStreams", name := "bestModel", desc := "(II)I" } : Jvm.MethodName) ({ cls := "AliasStreams", name := "bestModel", desc := "(II)I" } : Jvm.MethodName)) ∈ zWd := zmem 899 (by decide +kernel) rfl
theorem q900 : (Jvm.Cond.code ({ cls := "AliasStreams", name := "bestModel", desc := "(II)I" } : Jvm.MethodName) prog_1_method_26_code (9 : Nat) (Option.some Jvm.ClassFile.FieldType.int)) ∈ zWd := zmem 900 (by decide +kernel) rfl
theorem q902 : (Jvm.Cond.methodLink "AliasStreamsLaw" (196 : Nat) ({ cls := "AliasStreamsLaw", name := "effect", desc := "(LAliasStreams;III[J)I" } : Jvm.MethodName)) ∈ zWd := zmem 902 (by decide +kernel) rfl
theorem q903 : (Jvm.Cond.static ({ cls := "AliasStreamsLaw", name := "effect", desc := "(LAliasStreams;III[J)I" } : Jvm.MethodName)) ∈ zWd := zmem 903 (by decide +kernel) rfl
theorem q905 : (Jvm.Cond.methodLink "AliasStreamsLaw" (83 : Nat) ({ cls := "AliasStreams", name := "effect", desc := "(III)I" } : Jvm.MethodName)) ∈ zWd := zmem 905 (by decide +kernel) rfl
theorem q906 : (Jvm.Cond.instanceMethod ({ cls := "AliasStreams", name := "effect", desc := "(III)I" } : Jvm.MethodName)) ∈ zWd := zmem 906 (by decide +kernel) rfl
theorem q907 : (Jvm.Cond.selects "AliasStreams" ({ cls := "AliasStreams", name := "effect", desc := "(III)I" } : Jvm.MethodName) ({ cls := "AliasStreams", name := "effect", desc := "(III)I" } : Jvm.MethodName)) ∈ zWd := zmem 907 (by decide +kernel) rfl
theorem q908 : (Jvm.Cond.code ({ cls := "AliasStreams", name := "effect", desc := "(III)I" } : Jvm.MethodName) prog_1_method_28_code (4 : Nat) (Option.some Jvm.ClassFile.FieldType.int)) ∈ zWd := zmem 908 (by decide +kernel) rfl
theorem q910 : (Jvm.Cond.methodLinkNest "AliasStreams" (337 : Nat) ({ cls := "AliasStreams$Tape", name := "copyFrom", desc := "(LAliasStreams$Tape;)V" } : Jvm.MethodName) "AliasStreams") ∈ zNs := zmemN 910 (by decide +kernel) rfl
theorem q911 : (Jvm.Cond.methodLinkNest "AliasStreams" (341 : Nat) ({ cls := "AliasStreams$Taking", name := "countOtherSymbols", desc := "(LAliasStreams$Taking;)I" } : Jvm.MethodName) "AliasStreams") ∈ zNs := zmemN 911 (by decide +kernel) rfl
theorem q913 : (Jvm.Cond.instanceMethod ({ cls := "AliasStreams$Taking", name := "countOtherSymbols", desc := "(LAliasStreams$Taking;)I" } : Jvm.MethodName)) ∈ zWd := zmem 913 (by decide +kernel) rfl
theorem q914 : (Jvm.Cond.code ({ cls := "AliasStreams$Taking", name := "countOtherSymbols", desc := "(LAliasStreams$Taking;)I" } : Jvm.MethodName) prog_9_method_4_code (4 : Nat) (Option.some Jvm.ClassFile.FieldType.int)) ∈ zWd := zmem 914 (by decide +kernel) rfl
theorem q915 : (Jvm.Cond.methodLink "AliasStreamsLaw" (201 : Nat) ({ cls := "AliasStreamsLaw", name := "runScript", desc := "(LAliasStreams;IJ[J)I" } : Jvm.MethodName)) ∈ zWd := zmem 915 (by decide +kernel) rfl
theorem q916 : (Jvm.Cond.static ({ cls := "AliasStreamsLaw", name := "runScript", desc := "(LAliasStreams;IJ[J)I" } : Jvm.MethodName)) ∈ zWd := zmem 916 (by decide +kernel) rfl
theorem q918 : (Jvm.Cond.methodLink "AliasStreamsLaw" (86 : Nat) ({ cls := "AliasStreams", name := "runScript", desc := "(IJ)I" } : Jvm.MethodName)) ∈ zWd := zmem 918 (by decide +kernel) rfl
theorem q919 : (Jvm.Cond.instanceMethod ({ cls := "AliasStreams", name := "runScript", desc := "(IJ)I" } : Jvm.MethodName)) ∈ zWd := zmem 919 (by decide +kernel) rfl
theorem q920 : (Jvm.Cond.selects "AliasStreams" ({ cls := "AliasStreams", name := "runScript", desc := "(IJ)I" } : Jvm.MethodName) ({ cls := "AliasStreams", name := "runScript", desc := "(IJ)I" } : Jvm.MethodName)) ∈ zWd := zmem 920 (by decide +kernel) rfl
theorem q921 : (Jvm.Cond.code ({ cls := "AliasStreams", name := "runScript", desc := "(IJ)I" } : Jvm.MethodName) prog_1_method_29_code (4 : Nat) (Option.some Jvm.ClassFile.FieldType.int)) ∈ zWd := zmem 921 (by decide +kernel) rfl
theorem q923 : (Jvm.Cond.fieldLinkNest "AliasStreams" (347 : Nat) "AliasStreams$Script" "GROUP_VALUES" "[J" "AliasStreams") ∈ zNs := zmemN 923 (by decide +kernel) rfl
theorem q926 : (Jvm.Cond.methodLinkNest "AliasStreams" (353 : Nat) ({ cls := "AliasStreams$Script", name := "run", desc := "(LAliasStreams$State;LAliasStreams$Models;IJ)I" } : Jvm.MethodName) "AliasStreams") ∈ zNs := zmemN 926 (by decide +kernel) rfl
theorem q928 : (Jvm.Cond.instanceMethod ({ cls := "AliasStreams$Script", name := "run", desc := "(LAliasStreams$State;LAliasStreams$Models;IJ)I" } : Jvm.MethodName)) ∈ zWd := zmem 928 (by decide +kernel) rfl
theorem q929 : (Jvm.Cond.code ({ cls := "AliasStreams$Script", name := "run", desc := "(LAliasStreams$State;LAliasStreams$Models;IJ)I" } : Jvm.MethodName) prog_6_method_2_code (8 : Nat) (Option.some Jvm.ClassFile.FieldType.int)) ∈ zWd := zmem 929 (by decide +kernel) rfl
theorem q930 : (Jvm.Cond.methodLinkNest "AliasStreams$Script" (32 : Nat) ({ cls := "AliasStreams$State", name := "copyFrom", desc := "(LAliasStreams$State;)V" } : Jvm.MethodName) "AliasStreams") ∈ zNs := zmemN 930 (by decide +kernel) rfl
theorem q931 : (Jvm.Cond.methodLink "AliasStreams$Script" (36 : Nat) ({ cls := "AliasStreams$Script", name := "groupOf", desc := "(JI)I" } : Jvm.MethodName)) ∈ zWd := zmem 931 (by decide +kernel) rfl
theorem q932 : (Jvm.Cond.static ({ cls := "AliasStreams$Script", name := "groupOf", desc := "(JI)I" } : Jvm.MethodName)) ∈ zWd := zmem 932 (by decide +kernel) rfl
theorem q933 : (Jvm.Cond.code ({ cls := "AliasStreams$Script", name := "groupOf", desc := "(JI)I" } : Jvm.MethodName) prog_6_method_3_code (5 : Nat) (Option.some Jvm.ClassFile.FieldType.int)) ∈ zWd := zmem 933 (by decide +kernel) rfl
theorem q934 : (Jvm.Cond.fieldLink "AliasStreams$Script" (44 : Nat) "AliasStreams$Script" "GROUP_VALUES" "[J") ∈ zWd := zmem 934 (by decide +kernel) rfl
theorem q935 : (Jvm.Cond.constantLong "AliasStreams$Script" (48 : Nat) (10000 : Int64)) ∈ zWd := zmem 935 (by decide +kernel) rfl
theorem q936 : (Jvm.Cond.methodLink "AliasStreams$Script" (40 : Nat) ({ cls := "AliasStreams$Script", name := "execute", desc := "(ILAliasStreams$Models;)Z" } : Jvm.MethodName)) ∈ zWd := zmem 936 (by decide +kernel) rfl
theorem q938 : (Jvm.Cond.instanceMethod ({ cls := "AliasStreams$Script", name := "execute", desc := "(ILAliasStreams$Models;)Z" } : Jvm.MethodName)) ∈ zWd := zmem 938 (by decide +kernel) rfl
theorem q939 : (Jvm.Cond.code ({ cls := "AliasStreams$Script", name := "execute", desc := "(ILAliasStreams$Models;)Z" } : Jvm.MethodName) prog_6_method_4_code (5 : Nat) (Option.some Jvm.ClassFile.FieldType.boolean)) ∈ zWd := zmem 939 (by decide +kernel) rfl
theorem q940 : (Jvm.Cond.methodLink "AliasStreams$Script" (50 : Nat) ({ cls := "AliasStreams$Script", name := "addLast", desc := "(ILAliasStreams$Models;)Z" } : Jvm.MethodName)) ∈ zWd := zmem 940 (by decide +kernel) rfl
theorem q942 : (Jvm.Cond.instanceMethod ({ cls := "AliasStreams$Script", name := "addLast", desc := "(ILAliasStreams$Models;)Z" } : Jvm.MethodName)) ∈ zWd := zmem 942 (by decide +kernel) rfl
theorem q943 : (Jvm.Cond.code ({ cls := "AliasStreams$Script", name := "addLast", desc := "(ILAliasStreams$Models;)Z" } : Jvm.MethodName) prog_6_method_5_code (3 : Nat) (Option.some Jvm.ClassFile.FieldType.boolean)) ∈ zWd := zmem 943 (by decide +kernel) rfl
theorem q944 : (Jvm.Cond.methodLinkNest "AliasStreams$Script" (85 : Nat) ({ cls := "AliasStreams$Models", name := "allowItem", desc := "(I)Z" } : Jvm.MethodName) "AliasStreams") ∈ zNs := zmemN 944 (by decide +kernel) rfl
theorem q945 : (Jvm.Cond.methodLinkNest "AliasStreams$Script" (93 : Nat) ({ cls := "AliasStreams$State", name := "addItem", desc := "(II)V" } : Jvm.MethodName) "AliasStreams") ∈ zNs := zmemN 945 (by decide +kernel) rfl
theorem q946 : (Jvm.Cond.methodLink "AliasStreams$Script" (53 : Nat) ({ cls := "AliasStreams$Script", name := "dropOne", desc := "(I)Z" } : Jvm.MethodName)) ∈ zWd := zmem 946 (by decide +kernel) rfl
theorem q948 : (Jvm.Cond.instanceMethod ({ cls := "AliasStreams$Script", name := "dropOne", desc := "(I)Z" } : Jvm.MethodName)) ∈ zWd := zmem 948 (by decide +kernel) rfl
theorem q949 : (Jvm.Cond.code ({ cls := "AliasStreams$Script", name := "dropOne", desc := "(I)Z" } : Jvm.MethodName) prog_6_method_6_code (2 : Nat) (Option.some Jvm.ClassFile.FieldType.boolean)) ∈ zWd := zmem 949 (by decide +kernel) rfl
theorem q950 : (Jvm.Cond.methodLinkNest "AliasStreams$Script" (97 : Nat) ({ cls := "AliasStreams$State", name := "hasItem", desc := "(I)Z" } : Jvm.MethodName) "AliasStreams") ∈ zNs := zmemN 950 (by decide +kernel) rfl
theorem q951 : (Jvm.Cond.methodLinkNest "AliasStreams$Script" (100 : Nat) ({ cls := "AliasStreams$State", name := "dropItem", desc := "(I)V" } : Jvm.MethodName) "AliasStreams") ∈ zNs := zmemN 951 (by decide +kernel) rfl
theorem q952 : (Jvm.Cond.methodLink "AliasStreams$Script" (57 : Nat) ({ cls := "AliasStreams$Script", name := "fillTape", desc := "(LAliasStreams$Models;)Z" } : Jvm.MethodName)) ∈ zWd := zmem 952 (by decide +kernel) rfl
theorem q954 : (Jvm.Cond.instanceMethod ({ cls := "AliasStreams$Script", name := "fillTape", desc := "(LAliasStreams$Models;)Z" } : Jvm.MethodName)) ∈ zWd := zmem 954 (by decide +kernel) rfl
theorem q955 : (Jvm.Cond.code ({ cls := "AliasStreams$Script", name := "fillTape", desc := "(LAliasStreams$Models;)Z" } : Jvm.MethodName) prog_6_method_7_code (2 : Nat) (Option.some Jvm.ClassFile.FieldType.boolean)) ∈ zWd := zmem 955 (by decide +kernel) rfl
theorem q956 : (Jvm.Cond.methodLinkNest "AliasStreams$Script" (104 : Nat) ({ cls := "AliasStreams$Symbols", name := "list", desc := "(LAliasStreams$State;)V" } : Jvm.MethodName) "AliasStreams") ∈ zNs := zmemN 956 (by decide +kernel) rfl
theorem q957 : (Jvm.Cond.methodLinkNest "AliasStreams$Script" (107 : Nat) ({ cls := "AliasStreams$Symbols", name := "firstUnfit", desc := "(LAliasStreams$Models;)I" } : Jvm.MethodName) "AliasStreams") ∈ zNs := zmemN 957 (by decide +kernel) rfl
theorem q958 : (Jvm.Cond.methodLinkNest "AliasStreams$Script" (111 : Nat) ({ cls := "AliasStreams$Tape", name := "fill", desc := "(LAliasStreams$Symbols;LAliasStreams$Models;)V" } : Jvm.MethodName) "AliasStreams") ∈ zNs := zmemN 958 (by decide +kernel) rfl
theorem q959 : (Jvm.Cond.methodLink "AliasStreams$Script" (61 : Nat) ({ cls := "AliasStreams$Script", name := "takeMessage", desc := "(LAliasStreams$Models;)Z" } : Jvm.MethodName)) ∈ zWd := zmem 959 (by decide +kernel) rfl
theorem q961 : (Jvm.Cond.instanceMethod ({ cls := "AliasStreams$Script", name := "takeMessage", desc := "(LAliasStreams$Models;)Z" } : Jvm.MethodName)) ∈ zWd := zmem 961 (by decide +kernel) rfl
theorem q962 : (Jvm.Cond.code ({ cls := "AliasStreams$Script", name := "takeMessage", desc := "(LAliasStreams$Models;)Z" } : Jvm.MethodName) prog_6_method_8_code (2 : Nat) (Option.some Jvm.ClassFile.FieldType.boolean)) ∈ zWd := zmem 962 (by decide +kernel) rfl
theorem q963 : (Jvm.Cond.methodLinkNest "AliasStreams$Script" (115 : Nat) ({ cls := "AliasStreams$Taking", name := "takeAll", desc := "(LAliasStreams$Tape;LAliasStreams$Models;)V" } : Jvm.MethodName) "AliasStreams") ∈ zNs := zmemN 963 (by decide +kernel) rfl
theorem q964 : (Jvm.Cond.methodLinkNest "AliasStreams$Script" (122 : Nat) ({ cls := "AliasStreams$Tape", name := "itemsNeeded", desc := "()I" } : Jvm.MethodName) "AliasStreams") ∈ zNs := zmemN 964 (by decide +kernel) rfl
theorem q965 : (Jvm.Cond.methodLinkNest "AliasStreams$Script" (126 : Nat) ({ cls := "AliasStreams$State", name := "takeMessage", desc := "(LAliasStreams$Taking;)V" } : Jvm.MethodName) "AliasStreams") ∈ zNs := zmemN 965 (by decide +kernel) rfl
theorem q966 : (Jvm.Cond.methodLink "AliasStreams$Script" (64 : Nat) ({ cls := "AliasStreams$Script", name := "changeDigit", desc := "(II)Z" } : Jvm.MethodName)) ∈ zWd := zmem 966 (by decide +kernel) rfl
theorem q968 : (Jvm.Cond.instanceMethod ({ cls := "AliasStreams$Script", name := "changeDigit", desc := "(II)Z" } : Jvm.MethodName)) ∈ zWd := zmem 968 (by decide +kernel) rfl
theorem q969 : (Jvm.Cond.code ({ cls := "AliasStreams$Script", name := "changeDigit", desc := "(II)Z" } : Jvm.MethodName) prog_6_method_9_code (3 : Nat) (Option.some Jvm.ClassFile.FieldType.boolean)) ∈ zWd := zmem 969 (by decide +kernel) rfl
theorem q970 : (Jvm.Cond.methodLinkNest "AliasStreams$Script" (129 : Nat) ({ cls := "AliasStreams$Tape", name := "hasDigit", desc := "(I)Z" } : Jvm.MethodName) "AliasStreams") ∈ zNs := zmemN 970 (by decide +kernel) rfl
theorem q971 : (Jvm.Cond.methodLink "AliasStreams$Script" (78 : Nat) ({ cls := "AliasStreams$Script", name := "isIntact", desc := "(LAliasStreams$Models;)Z" } : Jvm.MethodName)) ∈ zWd := zmem 971 (by decide +kernel) rfl
theorem q973 : (Jvm.Cond.instanceMethod ({ cls := "AliasStreams$Script", name := "isIntact", desc := "(LAliasStreams$Models;)Z" } : Jvm.MethodName)) ∈ zWd := zmem 973 (by decide +kernel) rfl
theorem q974 : (Jvm.Cond.code ({ cls := "AliasStreams$Script", name := "isIntact", desc := "(LAliasStreams$Models;)Z" } : Jvm.MethodName) prog_6_method_10_code (2 : Nat) (Option.some Jvm.ClassFile.FieldType.boolean)) ∈ zWd := zmem 974 (by decide +kernel) rfl
theorem q975 : (Jvm.Cond.methodLink "AliasStreams$Script" (81 : Nat) ({ cls := "AliasStreams$Script", name := "takes", desc := "(IILAliasStreams$Models;)Z" } : Jvm.MethodName)) ∈ zWd := zmem 975 (by decide +kernel) rfl
theorem q977 : (Jvm.Cond.instanceMethod ({ cls := "AliasStreams$Script", name := "takes", desc := "(IILAliasStreams$Models;)Z" } : Jvm.MethodName)) ∈ zWd := zmem 977 (by decide +kernel) rfl
theorem q978 : (Jvm.Cond.code ({ cls := "AliasStreams$Script", name := "takes", desc := "(IILAliasStreams$Models;)Z" } : Jvm.MethodName) prog_6_method_11_code (4 : Nat) (Option.some Jvm.ClassFile.FieldType.boolean)) ∈ zWd := zmem 978 (by decide +kernel) rfl
theorem q979 : (Jvm.Cond.methodLinkNest "AliasStreams$Script" (140 : Nat) ({ cls := "AliasStreams$Tape", name := "hasPlanned", desc := "(I)Z" } : Jvm.MethodName) "AliasStreams") ∈ zNs := zmemN 979 (by decide +kernel) rfl
theorem q980 : (Jvm.Cond.methodLink "AliasStreamsLaw" (205 : Nat) ({ cls := "AliasStreamsLaw", name := "simulate", desc := "(LAliasStreams;JI[J)I" } : Jvm.MethodName)) ∈ zWd := zmem 980 (by decide +kernel) rfl
theorem q981 : (Jvm.Cond.static ({ cls := "AliasStreamsLaw", name := "simulate", desc := "(LAliasStreams;JI[J)I" } : Jvm.MethodName)) ∈ zWd := zmem 981 (by decide +kernel) rfl
theorem q983 : (Jvm.Cond.methodLink "AliasStreamsLaw" (90 : Nat) ({ cls := "AliasStreams", name := "simulate", desc := "(JI)I" } : Jvm.MethodName)) ∈ zWd := zmem 983 (by decide +kernel) rfl
theorem q984 : (Jvm.Cond.instanceMethod ({ cls := "AliasStreams", name := "simulate", desc := "(JI)I" } : Jvm.MethodName)) ∈ zWd := zmem 984 (by decide +kernel) rfl
theorem q985 : (Jvm.Cond.selects "AliasStreams" ({ cls := "AliasStreams", name := "simulate", desc := "(JI)I" } : Jvm.MethodName) ({ cls := "AliasStreams", name := "simulate", desc := "(JI)I" } : Jvm.MethodName)) ∈ zWd := zmem 985 (by decide +kernel) rfl
theorem q986 : (Jvm.Cond.code ({ cls := "AliasStreams", name := "simulate", desc := "(JI)I" } : Jvm.MethodName) prog_1_method_30_code (8 : Nat) (Option.some Jvm.ClassFile.FieldType.int)) ∈ zWd := zmem 986 (by decide +kernel) rfl
theorem q988 : (Jvm.Cond.constantLong "AliasStreams" (359 : Nat) (6364136223846793005 : Int64)) ∈ zWd := zmem 988 (by decide +kernel) rfl
theorem q989 : (Jvm.Cond.constantLong "AliasStreams" (361 : Nat) (1442695040888963407 : Int64)) ∈ zWd := zmem 989 (by decide +kernel) rfl
theorem q990 : (Jvm.Cond.methodLinkNest "AliasStreams" (363 : Nat) ({ cls := "AliasStreams$Tape", name := "disturb", desc := "(I)V" } : Jvm.MethodName) "AliasStreams") ∈ zNs := zmemN 990 (by decide +kernel) rfl
theorem q992 : (Jvm.Cond.instanceMethod ({ cls := "AliasStreams$Tape", name := "disturb", desc := "(I)V" } : Jvm.MethodName)) ∈ zWd := zmem 992 (by decide +kernel) rfl
theorem q993 : (Jvm.Cond.code ({ cls := "AliasStreams$Tape", name := "disturb", desc := "(I)V" } : Jvm.MethodName) prog_10_method_10_code (3 : Nat) (Option.none : Option Jvm.ClassFile.FieldType)) ∈ zWd := zmem 993 (by decide +kernel) rfl
theorem q994 : (Jvm.Cond.methodLink "AliasStreams$Tape" (81 : Nat) ({ cls := "AliasStreams$Tape", name := "hasDigit", desc := "(I)Z" } : Jvm.MethodName)) ∈ zWd := zmem 994 (by decide +kernel) rfl
theorem q995 : (Jvm.Cond.methodLink "AliasStreamsLaw" (209 : Nat) ({ cls := "AliasStreamsLaw", name := "save", desc := "(LAliasStreams;I[J)I" } : Jvm.MethodName)) ∈ zWd := zmem 995 (by decide +kernel) rfl
theorem q996 : (Jvm.Cond.static ({ cls := "AliasStreamsLaw", name := "save", desc := "(LAliasStreams;I[J)I" } : Jvm.MethodName)) ∈ zWd := zmem 996 (by decide +kernel) rfl
theorem q998 : (Jvm.Cond.methodLink "AliasStreamsLaw" (94 : Nat) ({ cls := "AliasStreams", name := "save", desc := "(I)I" } : Jvm.MethodName)) ∈ zWd := zmem 998 (by decide +kernel) rfl
theorem q999 : (Jvm.Cond.instanceMethod ({ cls := "AliasStreams", name := "save", desc := "(I)I" } : Jvm.MethodName)) ∈ zWd := zmem 999 (by decide +kernel) rfl
theorem q1000 : (Jvm.Cond.selects "AliasStreams" ({ cls := "AliasStreams", name := "save", desc := "(I)I" } : Jvm.MethodName) ({ cls := "AliasStreams", name := "save", desc := "(I)I" } : Jvm.MethodName)) ∈ zWd := zmem 1000 (by decide +kernel) rfl
theorem q1001 : (Jvm.Cond.code ({ cls := "AliasStreams", name := "save", desc := "(I)I" } : Jvm.MethodName) prog_1_method_31_code (2 : Nat) (Option.some Jvm.ClassFile.FieldType.int)) ∈ zWd := zmem 1001 (by decide +kernel) rfl
theorem q1002 : (Jvm.Cond.methodLink "AliasStreams" (366 : Nat) ({ cls := "AliasStreams", name := "isSaveSlot", desc := "(I)Z" } : Jvm.MethodName)) ∈ zWd := zmem 1002 (by decide +kernel) rfl
theorem q1003 : (Jvm.Cond.static ({ cls := "AliasStreams", name := "isSaveSlot", desc := "(I)Z" } : Jvm.MethodName)) ∈ zWd := zmem 1003 (by decide +kernel) rfl
theorem q1004 : (Jvm.Cond.code ({ cls := "AliasStreams", name := "isSaveSlot", desc := "(I)Z" } : Jvm.MethodName) prog_1_method_35_code (1 : Nat) (Option.some Jvm.ClassFile.FieldType.boolean)) ∈ zWd := zmem 1004 (by decide +kernel) rfl
theorem q1006 : (Jvm.Cond.methodLinkNest "AliasStreams" (375 : Nat) ({ cls := "AliasStreams$State", name := "copyFrom", desc := "(LAliasStreams$State;)V" } : Jvm.MethodName) "AliasStreams") ∈ zNs := zmemN 1006 (by decide +kernel) rfl
theorem q1007 : (Jvm.Cond.methodLink "AliasStreamsLaw" (212 : Nat) ({ cls := "AliasStreamsLaw", name := "restore", desc := "(LAliasStreams;I[J)I" } : Jvm.MethodName)) ∈ zWd := zmem 1007 (by decide +kernel) rfl
theorem q1008 : (Jvm.Cond.static ({ cls := "AliasStreamsLaw", name := "restore", desc := "(LAliasStreams;I[J)I" } : Jvm.MethodName)) ∈ zWd := zmem 1008 (by decide +kernel) rfl
theorem q1010 : (Jvm.Cond.methodLink "AliasStreamsLaw" (97 : Nat) ({ cls := "AliasStreams", name := "restore", desc := "(I)I" } : Jvm.MethodName)) ∈ zWd := zmem 1010 (by decide +kernel) rfl
theorem q1011 : (Jvm.Cond.instanceMethod ({ cls := "AliasStreams", name := "restore", desc := "(I)I" } : Jvm.MethodName)) ∈ zWd := zmem 1011 (by decide +kernel) rfl
theorem q1012 : (Jvm.Cond.selects "AliasStreams" ({ cls := "AliasStreams", name := "restore", desc := "(I)I" } : Jvm.MethodName) ({ cls := "AliasStreams", name := "restore", desc := "(I)I" } : Jvm.MethodName)) ∈ zWd := zmem 1012 (by decide +kernel) rfl
theorem q1013 : (Jvm.Cond.code ({ cls := "AliasStreams", name := "restore", desc := "(I)I" } : Jvm.MethodName) prog_1_method_32_code (2 : Nat) (Option.some Jvm.ClassFile.FieldType.int)) ∈ zWd := zmem 1013 (by decide +kernel) rfl
theorem q1015 : (Jvm.Cond.classLink "AliasStreamsLaw" (101 : Nat) "AliasStreamsModel") ∈ zWd := zmem 1015 (by decide +kernel) rfl
theorem q1016 : (Jvm.Cond.instantiable "AliasStreamsModel" (32 : Nat)) ∈ zWd := zmem 1016 (by decide +kernel) rfl
theorem q1017 : (Jvm.Cond.methodLink "AliasStreamsLaw" (103 : Nat) ({ cls := "AliasStreamsModel", name := "<init>", desc := "()V" } : Jvm.MethodName)) ∈ zWd := zmem 1017 (by decide +kernel) rfl
theorem q1018 : (Jvm.Cond.instanceMethod ({ cls := "AliasStreamsModel", name := "<init>", desc := "()V" } : Jvm.MethodName)) ∈ zWd := zmem 1018 (by decide +kernel) rfl
theorem q1019 : (Jvm.Cond.code ({ cls := "AliasStreamsModel", name := "<init>", desc := "()V" } : Jvm.MethodName) prog_13_method_1_code (1 : Nat) (Option.none : Option Jvm.ClassFile.FieldType)) ∈ zWd := zmem 1019 (by decide +kernel) rfl
theorem q1020 : (Jvm.Cond.methodLink "AliasStreamsModel" (1 : Nat) ({ cls := "java/lang/Object", name := "<init>", desc := "()V" } : Jvm.MethodName)) ∈ zWd := zmem 1020 (by decide +kernel) rfl
theorem q1021 : (Jvm.Cond.fieldLink "AliasStreamsModel" (84 : Nat) "AliasStreamsModel" "refusal" "I") ∈ zWd := zmem 1021 (by decide +kernel) rfl
theorem q1022 : (Jvm.Cond.fieldLink "AliasStreamsModel" (7 : Nat) "AliasStreamsModel" "text" "[I") ∈ zWd := zmem 1022 (by decide +kernel) rfl
theorem q1023 : (Jvm.Cond.fieldLink "AliasStreamsModel" (111 : Nat) "AliasStreamsModel" "textSize" "I") ∈ zWd := zmem 1023 (by decide +kernel) rfl
theorem q1024 : (Jvm.Cond.fieldLink "AliasStreamsModel" (118 : Nat) "AliasStreamsModel" "spot" "I") ∈ zWd := zmem 1024 (by decide +kernel) rfl
theorem q1025 : (Jvm.Cond.fieldLink "AliasStreamsModel" (13 : Nat) "AliasStreamsModel" "symbols" "I") ∈ zWd := zmem 1025 (by decide +kernel) rfl
theorem q1026 : (Jvm.Cond.fieldLink "AliasStreamsModel" (17 : Nat) "AliasStreamsModel" "models" "I") ∈ zWd := zmem 1026 (by decide +kernel) rfl
theorem q1027 : (Jvm.Cond.fieldLink "AliasStreamsModel" (121 : Nat) "AliasStreamsModel" "readSymbols" "I") ∈ zWd := zmem 1027 (by decide +kernel) rfl
theorem q1028 : (Jvm.Cond.fieldLink "AliasStreamsModel" (134 : Nat) "AliasStreamsModel" "readModels" "I") ∈ zWd := zmem 1028 (by decide +kernel) rfl
theorem q1029 : (Jvm.Cond.fieldLink "AliasStreamsModel" (20 : Nat) "AliasStreamsModel" "read" "[I") ∈ zWd := zmem 1029 (by decide +kernel) rfl
theorem q1030 : (Jvm.Cond.fieldLink "AliasStreamsModel" (23 : Nat) "AliasStreamsModel" "now" "[I") ∈ zWd := zmem 1030 (by decide +kernel) rfl
theorem q1031 : (Jvm.Cond.fieldLink "AliasStreamsModel" (26 : Nat) "AliasStreamsModel" "trial" "[I") ∈ zWd := zmem 1031 (by decide +kernel) rfl
theorem q1032 : (Jvm.Cond.fieldLink "AliasStreamsModel" (29 : Nat) "AliasStreamsModel" "other" "[I") ∈ zWd := zmem 1032 (by decide +kernel) rfl
theorem q1033 : (Jvm.Cond.fieldLink "AliasStreamsModel" (32 : Nat) "AliasStreamsModel" "diary" "[I") ∈ zWd := zmem 1033 (by decide +kernel) rfl
theorem q1034 : (Jvm.Cond.fieldLink "AliasStreamsModel" (155 : Nat) "AliasStreamsModel" "acts" "I") ∈ zWd := zmem 1034 (by decide +kernel) rfl
theorem q1035 : (Jvm.Cond.fieldLink "AliasStreamsModel" (35 : Nat) "AliasStreamsModel" "kept" "[I") ∈ zWd := zmem 1035 (by decide +kernel) rfl
theorem q1036 : (Jvm.Cond.fieldLink "AliasStreamsModel" (38 : Nat) "AliasStreamsModel" "isKept" "[Z") ∈ zWd := zmem 1036 (by decide +kernel) rfl
theorem q1037 : (Jvm.Cond.fieldLink "AliasStreamsModel" (42 : Nat) "AliasStreamsModel" "frequency" "[I") ∈ zWd := zmem 1037 (by decide +kernel) rfl
theorem q1038 : (Jvm.Cond.fieldLink "AliasStreamsModel" (45 : Nat) "AliasStreamsModel" "closed" "[I") ∈ zWd := zmem 1038 (by decide +kernel) rfl
theorem q1039 : (Jvm.Cond.fieldLink "AliasStreamsModel" (48 : Nat) "AliasStreamsModel" "alias" "[I") ∈ zWd := zmem 1039 (by decide +kernel) rfl
theorem q1040 : (Jvm.Cond.fieldLink "AliasStreamsModel" (51 : Nat) "AliasStreamsModel" "symbolOf" "[I") ∈ zWd := zmem 1040 (by decide +kernel) rfl
theorem q1041 : (Jvm.Cond.fieldLink "AliasStreamsModel" (54 : Nat) "AliasStreamsModel" "indexOf" "[I") ∈ zWd := zmem 1041 (by decide +kernel) rfl
theorem q1042 : (Jvm.Cond.fieldLink "AliasStreamsModel" (57 : Nat) "AliasStreamsModel" "slotOf" "[I") ∈ zWd := zmem 1042 (by decide +kernel) rfl
theorem q1043 : (Jvm.Cond.fieldLink "AliasStreamsModel" (60 : Nat) "AliasStreamsModel" "rests" "[I") ∈ zWd := zmem 1043 (by decide +kernel) rfl
theorem q1044 : (Jvm.Cond.fieldLink "AliasStreamsModel" (63 : Nat) "AliasStreamsModel" "isOpen" "[Z") ∈ zWd := zmem 1044 (by decide +kernel) rfl
theorem q1045 : (Jvm.Cond.fieldLink "AliasStreamsModel" (66 : Nat) "AliasStreamsModel" "took" "[I") ∈ zWd := zmem 1045 (by decide +kernel) rfl
theorem q1046 : (Jvm.Cond.fieldLink "AliasStreamsModel" (69 : Nat) "AliasStreamsModel" "stateAhead" "[I") ∈ zWd := zmem 1046 (by decide +kernel) rfl
theorem q1047 : (Jvm.Cond.fieldLink "AliasStreamsModel" (72 : Nat) "AliasStreamsModel" "digitsAhead" "[I") ∈ zWd := zmem 1047 (by decide +kernel) rfl
theorem q1048 : (Jvm.Cond.fieldLink "AliasStreamsModel" (102 : Nat) "AliasStreamsModel" "taken" "I") ∈ zWd := zmem 1048 (by decide +kernel) rfl
theorem q1049 : (Jvm.Cond.fieldLink "AliasStreamsModel" (75 : Nat) "AliasStreamsModel" "tookNow" "[I") ∈ zWd := zmem 1049 (by decide +kernel) rfl
theorem q1050 : (Jvm.Cond.fieldLink "AliasStreamsModel" (78 : Nat) "AliasStreamsModel" "sequence" "[I") ∈ zWd := zmem 1050 (by decide +kernel) rfl
theorem q1051 : (Jvm.Cond.fieldLink "AliasStreamsModel" (81 : Nat) "AliasStreamsModel" "modelOf" "[I") ∈ zWd := zmem 1051 (by decide +kernel) rfl
theorem q1052 : (Jvm.Cond.fieldLink "AliasStreamsModel" (99 : Nat) "AliasStreamsModel" "sequenced" "I") ∈ zWd := zmem 1052 (by decide +kernel) rfl
theorem q1118 : (Jvm.Cond.methodLink "AliasStreamsLaw" (110 : Nat) ({ cls := "AliasStreamsModel", name := "thrown", desc := "()I" } : Jvm.MethodName)) ∈ zWd := zmem 1118 (by decide +kernel) rfl
theorem q1119 : (Jvm.Cond.instanceMethod ({ cls := "AliasStreamsModel", name := "thrown", desc := "()I" } : Jvm.MethodName)) ∈ zWd := zmem 1119 (by decide +kernel) rfl
theorem q1120 : (Jvm.Cond.selects "AliasStreamsModel" ({ cls := "AliasStreamsModel", name := "thrown", desc := "()I" } : Jvm.MethodName) ({ cls := "AliasStreamsModel", name := "thrown", desc := "()I" } : Jvm.MethodName)) ∈ zWd := zmem 1120 (by decide +kernel) rfl
theorem q1121 : (Jvm.Cond.code ({ cls := "AliasStreamsModel", name := "thrown", desc := "()I" } : Jvm.MethodName) prog_13_method_2_code (1 : Nat) (Option.some Jvm.ClassFile.FieldType.int)) ∈ zWd := zmem 1121 (by decide +kernel) rfl
theorem q1122 : (Jvm.Cond.methodLink "AliasStreamsLaw" (109 : Nat) ({ cls := "AliasStreamsModel", name := "append", desc := "(I)I" } : Jvm.MethodName)) ∈ zWd := zmem 1122 (by decide +kernel) rfl
theorem q1123 : (Jvm.Cond.instanceMethod ({ cls := "AliasStreamsModel", name := "append", desc := "(I)I" } : Jvm.MethodName)) ∈ zWd := zmem 1123 (by decide +kernel) rfl
theorem q1124 : (Jvm.Cond.selects "AliasStreamsModel" ({ cls := "AliasStreamsModel", name := "append", desc := "(I)I" } : Jvm.MethodName) ({ cls := "AliasStreamsModel", name := "append", desc := "(I)I" } : Jvm.MethodName)) ∈ zWd := zmem 1124 (by decide +kernel) rfl
theorem q1125 : (Jvm.Cond.code ({ cls := "AliasStreamsModel", name := "append", desc := "(I)I" } : Jvm.MethodName) prog_13_method_16_code (2 : Nat) (Option.some Jvm.ClassFile.FieldType.int)) ∈ zWd := zmem 1125 (by decide +kernel) rfl
theorem q1126 : (Jvm.Cond.constantLong "AliasStreamsModel" (109 : Nat) (255 : Int64)) ∈ zWd := zmem 1126 (by decide +kernel) rfl
theorem q1127 : (Jvm.Cond.methodLink "AliasStreamsModel" (87 : Nat) ({ cls := "AliasStreamsModel", name := "in", desc := "(JJJ)Z" } : Jvm.MethodName)) ∈ zWd := zmem 1127 (by decide +kernel) rfl
theorem q1128 : (Jvm.Cond.static ({ cls := "AliasStreamsModel", name := "in", desc := "(JJJ)Z" } : Jvm.MethodName)) ∈ zWd := zmem 1128 (by decide +kernel) rfl
theorem q1129 : (Jvm.Cond.code ({ cls := "AliasStreamsModel", name := "in", desc := "(JJJ)Z" } : Jvm.MethodName) prog_13_method_4_code (6 : Nat) (Option.some Jvm.ClassFile.FieldType.boolean)) ∈ zWd := zmem 1129 (by decide +kernel) rfl
theorem q1130 : (Jvm.Cond.methodLink "AliasStreamsModel" (114 : Nat) ({ cls := "AliasStreamsModel", name := "refused", desc := "(I)Z" } : Jvm.MethodName)) ∈ zWd := zmem 1130 (by decide +kernel) rfl
theorem q1132 : (Jvm.Cond.instanceMethod ({ cls := "AliasStreamsModel", name := "refused", desc := "(I)Z" } : Jvm.MethodName)) ∈ zWd := zmem 1132 (by decide +kernel) rfl
theorem q1133 : (Jvm.Cond.code ({ cls := "AliasStreamsModel", name := "refused", desc := "(I)Z" } : Jvm.MethodName) prog_13_method_3_code (2 : Nat) (Option.some Jvm.ClassFile.FieldType.boolean)) ∈ zWd := zmem 1133 (by decide +kernel) rfl
theorem q1134 : (Jvm.Cond.methodLink "AliasStreamsLaw" (116 : Nat) ({ cls := "AliasStreamsModel", name := "clearText", desc := "()I" } : Jvm.MethodName)) ∈ zWd := zmem 1134 (by decide +kernel) rfl
theorem q1135 : (Jvm.Cond.instanceMethod ({ cls := "AliasStreamsModel", name := "clearText", desc := "()I" } : Jvm.MethodName)) ∈ zWd := zmem 1135 (by decide +kernel) rfl
theorem q1136 : (Jvm.Cond.selects "AliasStreamsModel" ({ cls := "AliasStreamsModel", name := "clearText", desc := "()I" } : Jvm.MethodName) ({ cls := "AliasStreamsModel", name := "clearText", desc := "()I" } : Jvm.MethodName)) ∈ zWd := zmem 1136 (by decide +kernel) rfl
theorem q1137 : (Jvm.Cond.code ({ cls := "AliasStreamsModel", name := "clearText", desc := "()I" } : Jvm.MethodName) prog_13_method_17_code (2 : Nat) (Option.some Jvm.ClassFile.FieldType.int)) ∈ zWd := zmem 1137 (by decide +kernel) rfl
theorem q1138 : (Jvm.Cond.methodLink "AliasStreamsLaw" (120 : Nat) ({ cls := "AliasStreamsModel", name := "errorPosition", desc := "()I" } : Jvm.MethodName)) ∈ zWd := zmem 1138 (by decide +kernel) rfl
theorem q1139 : (Jvm.Cond.instanceMethod ({ cls := "AliasStreamsModel", name := "errorPosition", desc := "()I" } : Jvm.MethodName)) ∈ zWd := zmem 1139 (by decide +kernel) rfl
theorem q1140 : (Jvm.Cond.selects "AliasStreamsModel" ({ cls := "AliasStreamsModel", name := "errorPosition", desc := "()I" } : Jvm.MethodName) ({ cls := "AliasStreamsModel", name := "errorPosition", desc := "()I" } : Jvm.MethodName)) ∈ zWd := zmem 1140 (by decide +kernel) rfl
theorem q1141 : (Jvm.Cond.code ({ cls := "AliasStreamsModel", name := "errorPosition", desc := "()I" } : Jvm.MethodName) prog_13_method_23_code (1 : Nat) (Option.some Jvm.ClassFile.FieldType.int)) ∈ zWd := zmem 1141 (by decide +kernel) rfl
theorem q1142 : (Jvm.Cond.methodLink "AliasStreamsModel" (148 : Nat) ({ cls := "AliasStreamsModel", name := "readAll", desc := "()Z" } : Jvm.MethodName)) ∈ zWd := zmem 1142 (by decide +kernel) rfl
theorem q1144 : (Jvm.Cond.instanceMethod ({ cls := "AliasStreamsModel", name := "readAll", desc := "()Z" } : Jvm.MethodName)) ∈ zWd := zmem 1144 (by decide +kernel) rfl
theorem q1145 : (Jvm.Cond.code ({ cls := "AliasStreamsModel", name := "readAll", desc := "()Z" } : Jvm.MethodName) prog_13_method_22_code (2 : Nat) (Option.some Jvm.ClassFile.FieldType.boolean)) ∈ zWd := zmem 1145 (by decide +kernel) rfl
theorem q1146 : (Jvm.Cond.methodLink "AliasStreamsModel" (124 : Nat) ({ cls := "AliasStreamsModel", name := "next", desc := "(I)I" } : Jvm.MethodName)) ∈ zWd := zmem 1146 (by decide +kernel) rfl
theorem q1148 : (Jvm.Cond.instanceMethod ({ cls := "AliasStreamsModel", name := "next", desc := "(I)I" } : Jvm.MethodName)) ∈ zWd := zmem 1148 (by decide +kernel) rfl
theorem q1149 : (Jvm.Cond.code ({ cls := "AliasStreamsModel", name := "next", desc := "(I)I" } : Jvm.MethodName) prog_13_method_18_code (2 : Nat) (Option.some Jvm.ClassFile.FieldType.int)) ∈ zWd := zmem 1149 (by decide +kernel) rfl
theorem q1150 : (Jvm.Cond.methodLink "AliasStreamsModel" (130 : Nat) ({ cls := "AliasStreamsModel", name := "accepts", desc := "(Z)Z" } : Jvm.MethodName)) ∈ zWd := zmem 1150 (by decide +kernel) rfl
theorem q1152 : (Jvm.Cond.instanceMethod ({ cls := "AliasStreamsModel", name := "accepts", desc := "(Z)Z" } : Jvm.MethodName)) ∈ zWd := zmem 1152 (by decide +kernel) rfl
theorem q1153 : (Jvm.Cond.code ({ cls := "AliasStreamsModel", name := "accepts", desc := "(Z)Z" } : Jvm.MethodName) prog_13_method_19_code (2 : Nat) (Option.some Jvm.ClassFile.FieldType.boolean)) ∈ zWd := zmem 1153 (by decide +kernel) rfl
theorem q1154 : (Jvm.Cond.constantLong "AliasStreamsModel" (137 : Nat) (2 : Int64)) ∈ zWd := zmem 1154 (by decide +kernel) rfl
theorem q1155 : (Jvm.Cond.constantLong "AliasStreamsModel" (139 : Nat) (8 : Int64)) ∈ zWd := zmem 1155 (by decide +kernel) rfl
theorem q1156 : (Jvm.Cond.methodLink "AliasStreamsModel" (141 : Nat) ({ cls := "AliasStreamsModel", name := "readCounts", desc := "()Z" } : Jvm.MethodName)) ∈ zWd := zmem 1156 (by decide +kernel) rfl
theorem q1158 : (Jvm.Cond.instanceMethod ({ cls := "AliasStreamsModel", name := "readCounts", desc := "()Z" } : Jvm.MethodName)) ∈ zWd := zmem 1158 (by decide +kernel) rfl
theorem q1159 : (Jvm.Cond.code ({ cls := "AliasStreamsModel", name := "readCounts", desc := "()Z" } : Jvm.MethodName) prog_13_method_20_code (6 : Nat) (Option.some Jvm.ClassFile.FieldType.boolean)) ∈ zWd := zmem 1159 (by decide +kernel) rfl
theorem q1160 : (Jvm.Cond.constantLong "AliasStreamsModel" (128 : Nat) (9 : Int64)) ∈ zWd := zmem 1160 (by decide +kernel) rfl
theorem q1161 : (Jvm.Cond.methodLink "AliasStreamsModel" (145 : Nat) ({ cls := "AliasStreamsModel", name := "readItems", desc := "()Z" } : Jvm.MethodName)) ∈ zWd := zmem 1161 (by decide +kernel) rfl
theorem q1163 : (Jvm.Cond.instanceMethod ({ cls := "AliasStreamsModel", name := "readItems", desc := "()Z" } : Jvm.MethodName)) ∈ zWd := zmem 1163 (by decide +kernel) rfl
theorem q1164 : (Jvm.Cond.code ({ cls := "AliasStreamsModel", name := "readItems", desc := "()Z" } : Jvm.MethodName) prog_13_method_21_code (4 : Nat) (Option.some Jvm.ClassFile.FieldType.boolean)) ∈ zWd := zmem 1164 (by decide +kernel) rfl
theorem q1165 : (Jvm.Cond.methodLink "AliasStreamsLaw" (124 : Nat) ({ cls := "AliasStreamsModel", name := "load", desc := "()I" } : Jvm.MethodName)) ∈ zWd := zmem 1165 (by decide +kernel) rfl
theorem q1166 : (Jvm.Cond.instanceMethod ({ cls := "AliasStreamsModel", name := "load", desc := "()I" } : Jvm.MethodName)) ∈ zWd := zmem 1166 (by decide +kernel) rfl
theorem q1167 : (Jvm.Cond.selects "AliasStreamsModel" ({ cls := "AliasStreamsModel", name := "load", desc := "()I" } : Jvm.MethodName) ({ cls := "AliasStreamsModel", name := "load", desc := "()I" } : Jvm.MethodName)) ∈ zWd := zmem 1167 (by decide +kernel) rfl
theorem q1168 : (Jvm.Cond.code ({ cls := "AliasStreamsModel", name := "load", desc := "()I" } : Jvm.MethodName) prog_13_method_24_code (1 : Nat) (Option.some Jvm.ClassFile.FieldType.int)) ∈ zWd := zmem 1168 (by decide +kernel) rfl
theorem q1169 : (Jvm.Cond.methodLink "AliasStreamsModel" (151 : Nat) ({ cls := "AliasStreamsModel", name := "copyPage", desc := "([II[II)V" } : Jvm.MethodName)) ∈ zWd := zmem 1169 (by decide +kernel) rfl
theorem q1170 : (Jvm.Cond.static ({ cls := "AliasStreamsModel", name := "copyPage", desc := "([II[II)V" } : Jvm.MethodName)) ∈ zWd := zmem 1170 (by decide +kernel) rfl
theorem q1171 : (Jvm.Cond.code ({ cls := "AliasStreamsModel", name := "copyPage", desc := "([II[II)V" } : Jvm.MethodName) prog_13_method_5_code (5 : Nat) (Option.none : Option Jvm.ClassFile.FieldType)) ∈ zWd := zmem 1171 (by decide +kernel) rfl
theorem q1172 : (Jvm.Cond.methodLink "AliasStreamsLaw" (127 : Nat) ({ cls := "AliasStreamsModel", name := "about", desc := "(I)I" } : Jvm.MethodName)) ∈ zWd := zmem 1172 (by decide +kernel) rfl
theorem q1173 : (Jvm.Cond.instanceMethod ({ cls := "AliasStreamsModel", name := "about", desc := "(I)I" } : Jvm.MethodName)) ∈ zWd := zmem 1173 (by decide +kernel) rfl
theorem q1174 : (Jvm.Cond.selects "AliasStreamsModel" ({ cls := "AliasStreamsModel", name := "about", desc := "(I)I" } : Jvm.MethodName) ({ cls := "AliasStreamsModel", name := "about", desc := "(I)I" } : Jvm.MethodName)) ∈ zWd := zmem 1174 (by decide +kernel) rfl
theorem q1175 : (Jvm.Cond.code ({ cls := "AliasStreamsModel", name := "about", desc := "(I)I" } : Jvm.MethodName) prog_13_method_25_code (2 : Nat) (Option.some Jvm.ClassFile.FieldType.int)) ∈ zWd := zmem 1175 (by decide +kernel) rfl
theorem q1176 : (Jvm.Cond.constantLong "AliasStreamsModel" (158 : Nat) (6 : Int64)) ∈ zWd := zmem 1176 (by decide +kernel) rfl
theorem q1177 : (Jvm.Cond.methodLink "AliasStreamsModel" (160 : Nat) ({ cls := "AliasStreamsModel", name := "layMessage", desc := "([I)V" } : Jvm.MethodName)) ∈ zWd := zmem 1177 (by decide +kernel) rfl
theorem q1179 : (Jvm.Cond.instanceMethod ({ cls := "AliasStreamsModel", name := "layMessage", desc := "([I)V" } : Jvm.MethodName)) ∈ zWd := zmem 1179 (by decide +kernel) rfl
theorem q1180 : (Jvm.Cond.code ({ cls := "AliasStreamsModel", name := "layMessage", desc := "([I)V" } : Jvm.MethodName) prog_13_method_11_code (5 : Nat) (Option.none : Option Jvm.ClassFile.FieldType)) ∈ zWd := zmem 1180 (by decide +kernel) rfl
theorem q1181 : (Jvm.Cond.methodLink "AliasStreamsModel" (164 : Nat) ({ cls := "AliasStreamsModel", name := "layTables", desc := "([I)V" } : Jvm.MethodName)) ∈ zWd := zmem 1181 (by decide +kernel) rfl
theorem q1183 : (Jvm.Cond.instanceMethod ({ cls := "AliasStreamsModel", name := "layTables", desc := "([I)V" } : Jvm.MethodName)) ∈ zWd := zmem 1183 (by decide +kernel) rfl
theorem q1184 : (Jvm.Cond.code ({ cls := "AliasStreamsModel", name := "layTables", desc := "([I)V" } : Jvm.MethodName) prog_13_method_10_code (3 : Nat) (Option.none : Option Jvm.ClassFile.FieldType)) ∈ zWd := zmem 1184 (by decide +kernel) rfl
theorem q1185 : (Jvm.Cond.methodLink "AliasStreamsModel" (91 : Nat) ({ cls := "AliasStreamsModel", name := "layFrequencies", desc := "([II)V" } : Jvm.MethodName)) ∈ zWd := zmem 1185 (by decide +kernel) rfl
theorem q1187 : (Jvm.Cond.instanceMethod ({ cls := "AliasStreamsModel", name := "layFrequencies", desc := "([II)V" } : Jvm.MethodName)) ∈ zWd := zmem 1187 (by decide +kernel) rfl
theorem q1188 : (Jvm.Cond.code ({ cls := "AliasStreamsModel", name := "layFrequencies", desc := "([II)V" } : Jvm.MethodName) prog_13_method_8_code (9 : Nat) (Option.none : Option Jvm.ClassFile.FieldType)) ∈ zWd := zmem 1188 (by decide +kernel) rfl
theorem q1189 : (Jvm.Cond.methodLink "AliasStreamsModel" (95 : Nat) ({ cls := "AliasStreamsModel", name := "laySlots", desc := "(I)V" } : Jvm.MethodName)) ∈ zWd := zmem 1189 (by decide +kernel) rfl
theorem q1191 : (Jvm.Cond.instanceMethod ({ cls := "AliasStreamsModel", name := "laySlots", desc := "(I)V" } : Jvm.MethodName)) ∈ zWd := zmem 1191 (by decide +kernel) rfl
theorem q1192 : (Jvm.Cond.code ({ cls := "AliasStreamsModel", name := "laySlots", desc := "(I)V" } : Jvm.MethodName) prog_13_method_9_code (7 : Nat) (Option.none : Option Jvm.ClassFile.FieldType)) ∈ zWd := zmem 1192 (by decide +kernel) rfl
theorem q1193 : (Jvm.Cond.methodLink "AliasStreamsModel" (105 : Nat) ({ cls := "AliasStreamsModel", name := "take", desc := "([I)Z" } : Jvm.MethodName)) ∈ zWd := zmem 1193 (by decide +kernel) rfl
theorem q1195 : (Jvm.Cond.instanceMethod ({ cls := "AliasStreamsModel", name := "take", desc := "([I)Z" } : Jvm.MethodName)) ∈ zWd := zmem 1195 (by decide +kernel) rfl
theorem q1196 : (Jvm.Cond.code ({ cls := "AliasStreamsModel", name := "take", desc := "([I)Z" } : Jvm.MethodName) prog_13_method_14_code (10 : Nat) (Option.some Jvm.ClassFile.FieldType.boolean)) ∈ zWd := zmem 1196 (by decide +kernel) rfl
theorem q1197 : (Jvm.Cond.methodLink "AliasStreamsLaw" (131 : Nat) ({ cls := "AliasStreamsModel", name := "symbol", desc := "(III)I" } : Jvm.MethodName)) ∈ zWd := zmem 1197 (by decide +kernel) rfl
theorem q1198 : (Jvm.Cond.instanceMethod ({ cls := "AliasStreamsModel", name := "symbol", desc := "(III)I" } : Jvm.MethodName)) ∈ zWd := zmem 1198 (by decide +kernel) rfl
theorem q1199 : (Jvm.Cond.selects "AliasStreamsModel" ({ cls := "AliasStreamsModel", name := "symbol", desc := "(III)I" } : Jvm.MethodName) ({ cls := "AliasStreamsModel", name := "symbol", desc := "(III)I" } : Jvm.MethodName)) ∈ zWd := zmem 1199 (by decide +kernel) rfl
theorem q1200 : (Jvm.Cond.code ({ cls := "AliasStreamsModel", name := "symbol", desc := "(III)I" } : Jvm.MethodName) prog_13_method_26_code (4 : Nat) (Option.some Jvm.ClassFile.FieldType.int)) ∈ zWd := zmem 1200 (by decide +kernel) rfl
theorem q1201 : (Jvm.Cond.methodLink "AliasStreamsModel" (167 : Nat) ({ cls := "AliasStreamsModel", name := "isModel", desc := "(I)Z" } : Jvm.MethodName)) ∈ zWd := zmem 1201 (by decide +kernel) rfl
theorem q1203 : (Jvm.Cond.instanceMethod ({ cls := "AliasStreamsModel", name := "isModel", desc := "(I)Z" } : Jvm.MethodName)) ∈ zWd := zmem 1203 (by decide +kernel) rfl
theorem q1204 : (Jvm.Cond.code ({ cls := "AliasStreamsModel", name := "isModel", desc := "(I)Z" } : Jvm.MethodName) prog_13_method_6_code (2 : Nat) (Option.some Jvm.ClassFile.FieldType.boolean)) ∈ zWd := zmem 1204 (by decide +kernel) rfl
theorem q1205 : (Jvm.Cond.methodLink "AliasStreamsModel" (170 : Nat) ({ cls := "AliasStreamsModel", name := "isSymbol", desc := "(I)Z" } : Jvm.MethodName)) ∈ zWd := zmem 1205 (by decide +kernel) rfl
theorem q1207 : (Jvm.Cond.instanceMethod ({ cls := "AliasStreamsModel", name := "isSymbol", desc := "(I)Z" } : Jvm.MethodName)) ∈ zWd := zmem 1207 (by decide +kernel) rfl
theorem q1208 : (Jvm.Cond.code ({ cls := "AliasStreamsModel", name := "isSymbol", desc := "(I)Z" } : Jvm.MethodName) prog_13_method_7_code (2 : Nat) (Option.some Jvm.ClassFile.FieldType.boolean)) ∈ zWd := zmem 1208 (by decide +kernel) rfl
theorem q1209 : (Jvm.Cond.methodLink "AliasStreamsLaw" (134 : Nat) ({ cls := "AliasStreamsModel", name := "bucket", desc := "(III)I" } : Jvm.MethodName)) ∈ zWd := zmem 1209 (by decide +kernel) rfl
theorem q1210 : (Jvm.Cond.instanceMethod ({ cls := "AliasStreamsModel", name := "bucket", desc := "(III)I" } : Jvm.MethodName)) ∈ zWd := zmem 1210 (by decide +kernel) rfl
theorem q1211 : (Jvm.Cond.selects "AliasStreamsModel" ({ cls := "AliasStreamsModel", name := "bucket", desc := "(III)I" } : Jvm.MethodName) ({ cls := "AliasStreamsModel", name := "bucket", desc := "(III)I" } : Jvm.MethodName)) ∈ zWd := zmem 1211 (by decide +kernel) rfl
theorem q1212 : (Jvm.Cond.code ({ cls := "AliasStreamsModel", name := "bucket", desc := "(III)I" } : Jvm.MethodName) prog_13_method_27_code (4 : Nat) (Option.some Jvm.ClassFile.FieldType.int)) ∈ zWd := zmem 1212 (by decide +kernel) rfl
theorem q1213 : (Jvm.Cond.constantLong "AliasStreamsModel" (173 : Nat) (7 : Int64)) ∈ zWd := zmem 1213 (by decide +kernel) rfl
theorem q1214 : (Jvm.Cond.methodLink "AliasStreamsLaw" (137 : Nat) ({ cls := "AliasStreamsModel", name := "slot", desc := "(III)I" } : Jvm.MethodName)) ∈ zWd := zmem 1214 (by decide +kernel) rfl
theorem q1215 : (Jvm.Cond.instanceMethod ({ cls := "AliasStreamsModel", name := "slot", desc := "(III)I" } : Jvm.MethodName)) ∈ zWd := zmem 1215 (by decide +kernel) rfl
theorem q1216 : (Jvm.Cond.selects "AliasStreamsModel" ({ cls := "AliasStreamsModel", name := "slot", desc := "(III)I" } : Jvm.MethodName) ({ cls := "AliasStreamsModel", name := "slot", desc := "(III)I" } : Jvm.MethodName)) ∈ zWd := zmem 1216 (by decide +kernel) rfl
theorem q1217 : (Jvm.Cond.code ({ cls := "AliasStreamsModel", name := "slot", desc := "(III)I" } : Jvm.MethodName) prog_13_method_28_code (4 : Nat) (Option.some Jvm.ClassFile.FieldType.int)) ∈ zWd := zmem 1217 (by decide +kernel) rfl
theorem q1218 : (Jvm.Cond.constantLong "AliasStreamsModel" (175 : Nat) (31 : Int64)) ∈ zWd := zmem 1218 (by decide +kernel) rfl
theorem q1219 : (Jvm.Cond.methodLink "AliasStreamsLaw" (140 : Nat) ({ cls := "AliasStreamsModel", name := "item", desc := "(I)I" } : Jvm.MethodName)) ∈ zWd := zmem 1219 (by decide +kernel) rfl
theorem q1220 : (Jvm.Cond.instanceMethod ({ cls := "AliasStreamsModel", name := "item", desc := "(I)I" } : Jvm.MethodName)) ∈ zWd := zmem 1220 (by decide +kernel) rfl
theorem q1221 : (Jvm.Cond.selects "AliasStreamsModel" ({ cls := "AliasStreamsModel", name := "item", desc := "(I)I" } : Jvm.MethodName) ({ cls := "AliasStreamsModel", name := "item", desc := "(I)I" } : Jvm.MethodName)) ∈ zWd := zmem 1221 (by decide +kernel) rfl
theorem q1222 : (Jvm.Cond.code ({ cls := "AliasStreamsModel", name := "item", desc := "(I)I" } : Jvm.MethodName) prog_13_method_30_code (2 : Nat) (Option.some Jvm.ClassFile.FieldType.int)) ∈ zWd := zmem 1222 (by decide +kernel) rfl
theorem q1223 : (Jvm.Cond.methodLink "AliasStreamsModel" (177 : Nat) ({ cls := "AliasStreamsModel", name := "isItem", desc := "(I)Z" } : Jvm.MethodName)) ∈ zWd := zmem 1223 (by decide +kernel) rfl
theorem q1225 : (Jvm.Cond.instanceMethod ({ cls := "AliasStreamsModel", name := "isItem", desc := "(I)Z" } : Jvm.MethodName)) ∈ zWd := zmem 1225 (by decide +kernel) rfl
theorem q1226 : (Jvm.Cond.code ({ cls := "AliasStreamsModel", name := "isItem", desc := "(I)Z" } : Jvm.MethodName) prog_13_method_29_code (2 : Nat) (Option.some Jvm.ClassFile.FieldType.boolean)) ∈ zWd := zmem 1226 (by decide +kernel) rfl
theorem q1227 : (Jvm.Cond.methodLink "AliasStreamsLaw" (144 : Nat) ({ cls := "AliasStreamsModel", name := "tape", desc := "(II)I" } : Jvm.MethodName)) ∈ zWd := zmem 1227 (by decide +kernel) rfl
theorem q1228 : (Jvm.Cond.instanceMethod ({ cls := "AliasStreamsModel", name := "tape", desc := "(II)I" } : Jvm.MethodName)) ∈ zWd := zmem 1228 (by decide +kernel) rfl
theorem q1229 : (Jvm.Cond.selects "AliasStreamsModel" ({ cls := "AliasStreamsModel", name := "tape", desc := "(II)I" } : Jvm.MethodName) ({ cls := "AliasStreamsModel", name := "tape", desc := "(II)I" } : Jvm.MethodName)) ∈ zWd := zmem 1229 (by decide +kernel) rfl
theorem q1230 : (Jvm.Cond.code ({ cls := "AliasStreamsModel", name := "tape", desc := "(II)I" } : Jvm.MethodName) prog_13_method_31_code (4 : Nat) (Option.some Jvm.ClassFile.FieldType.int)) ∈ zWd := zmem 1230 (by decide +kernel) rfl
theorem q1231 : (Jvm.Cond.methodLink "AliasStreamsLaw" (147 : Nat) ({ cls := "AliasStreamsModel", name := "setCount", desc := "(III)I" } : Jvm.MethodName)) ∈ zWd := zmem 1231 (by decide +kernel) rfl
theorem q1232 : (Jvm.Cond.instanceMethod ({ cls := "AliasStreamsModel", name := "setCount", desc := "(III)I" } : Jvm.MethodName)) ∈ zWd := zmem 1232 (by decide +kernel) rfl
theorem q1233 : (Jvm.Cond.selects "AliasStreamsModel" ({ cls := "AliasStreamsModel", name := "setCount", desc := "(III)I" } : Jvm.MethodName) ({ cls := "AliasStreamsModel", name := "setCount", desc := "(III)I" } : Jvm.MethodName)) ∈ zWd := zmem 1233 (by decide +kernel) rfl
theorem q1234 : (Jvm.Cond.code ({ cls := "AliasStreamsModel", name := "setCount", desc := "(III)I" } : Jvm.MethodName) prog_13_method_33_code (7 : Nat) (Option.some Jvm.ClassFile.FieldType.int)) ∈ zWd := zmem 1234 (by decide +kernel) rfl
theorem q1235 : (Jvm.Cond.constantLong "AliasStreamsModel" (180 : Nat) (99 : Int64)) ∈ zWd := zmem 1235 (by decide +kernel) rfl
theorem q1236 : (Jvm.Cond.methodLink "AliasStreamsModel" (182 : Nat) ({ cls := "AliasStreamsModel", name := "note", desc := "()V" } : Jvm.MethodName)) ∈ zWd := zmem 1236 (by decide +kernel) rfl
theorem q1238 : (Jvm.Cond.instanceMethod ({ cls := "AliasStreamsModel", name := "note", desc := "()V" } : Jvm.MethodName)) ∈ zWd := zmem 1238 (by decide +kernel) rfl
theorem q1239 : (Jvm.Cond.code ({ cls := "AliasStreamsModel", name := "note", desc := "()V" } : Jvm.MethodName) prog_13_method_32_code (2 : Nat) (Option.none : Option Jvm.ClassFile.FieldType)) ∈ zWd := zmem 1239 (by decide +kernel) rfl
theorem q1240 : (Jvm.Cond.methodLink "AliasStreamsLaw" (150 : Nat) ({ cls := "AliasStreamsModel", name := "insert", desc := "(II)I" } : Jvm.MethodName)) ∈ zWd := zmem 1240 (by decide +kernel) rfl
theorem q1241 : (Jvm.Cond.instanceMethod ({ cls := "AliasStreamsModel", name := "insert", desc := "(II)I" } : Jvm.MethodName)) ∈ zWd := zmem 1241 (by decide +kernel) rfl
theorem q1242 : (Jvm.Cond.selects "AliasStreamsModel" ({ cls := "AliasStreamsModel", name := "insert", desc := "(II)I" } : Jvm.MethodName) ({ cls := "AliasStreamsModel", name := "insert", desc := "(II)I" } : Jvm.MethodName)) ∈ zWd := zmem 1242 (by decide +kernel) rfl
theorem q1243 : (Jvm.Cond.code ({ cls := "AliasStreamsModel", name := "insert", desc := "(II)I" } : Jvm.MethodName) prog_13_method_37_code (3 : Nat) (Option.some Jvm.ClassFile.FieldType.int)) ∈ zWd := zmem 1243 (by decide +kernel) rfl
theorem q1244 : (Jvm.Cond.methodLink "AliasStreamsModel" (185 : Nat) ({ cls := "AliasStreamsModel", name := "isThing", desc := "(I)Z" } : Jvm.MethodName)) ∈ zWd := zmem 1244 (by decide +kernel) rfl
theorem q1246 : (Jvm.Cond.instanceMethod ({ cls := "AliasStreamsModel", name := "isThing", desc := "(I)Z" } : Jvm.MethodName)) ∈ zWd := zmem 1246 (by decide +kernel) rfl
theorem q1247 : (Jvm.Cond.code ({ cls := "AliasStreamsModel", name := "isThing", desc := "(I)Z" } : Jvm.MethodName) prog_13_method_34_code (2 : Nat) (Option.some Jvm.ClassFile.FieldType.boolean)) ∈ zWd := zmem 1247 (by decide +kernel) rfl
theorem q1248 : (Jvm.Cond.methodLink "AliasStreamsModel" (188 : Nat) ({ cls := "AliasStreamsModel", name := "put", desc := "([III)V" } : Jvm.MethodName)) ∈ zWd := zmem 1248 (by decide +kernel) rfl
theorem q1249 : (Jvm.Cond.static ({ cls := "AliasStreamsModel", name := "put", desc := "([III)V" } : Jvm.MethodName)) ∈ zWd := zmem 1249 (by decide +kernel) rfl
theorem q1250 : (Jvm.Cond.code ({ cls := "AliasStreamsModel", name := "put", desc := "([III)V" } : Jvm.MethodName) prog_13_method_35_code (4 : Nat) (Option.none : Option Jvm.ClassFile.FieldType)) ∈ zWd := zmem 1250 (by decide +kernel) rfl
theorem q1251 : (Jvm.Cond.methodLink "AliasStreamsLaw" (153 : Nat) ({ cls := "AliasStreamsModel", name := "remove", desc := "(I)I" } : Jvm.MethodName)) ∈ zWd := zmem 1251 (by decide +kernel) rfl
theorem q1252 : (Jvm.Cond.instanceMethod ({ cls := "AliasStreamsModel", name := "remove", desc := "(I)I" } : Jvm.MethodName)) ∈ zWd := zmem 1252 (by decide +kernel) rfl
theorem q1253 : (Jvm.Cond.selects "AliasStreamsModel" ({ cls := "AliasStreamsModel", name := "remove", desc := "(I)I" } : Jvm.MethodName) ({ cls := "AliasStreamsModel", name := "remove", desc := "(I)I" } : Jvm.MethodName)) ∈ zWd := zmem 1253 (by decide +kernel) rfl
theorem q1254 : (Jvm.Cond.code ({ cls := "AliasStreamsModel", name := "remove", desc := "(I)I" } : Jvm.MethodName) prog_13_method_38_code (2 : Nat) (Option.some Jvm.ClassFile.FieldType.int)) ∈ zWd := zmem 1254 (by decide +kernel) rfl
theorem q1255 : (Jvm.Cond.methodLink "AliasStreamsModel" (192 : Nat) ({ cls := "AliasStreamsModel", name := "drop", desc := "([II)I" } : Jvm.MethodName)) ∈ zWd := zmem 1255 (by decide +kernel) rfl
theorem q1256 : (Jvm.Cond.static ({ cls := "AliasStreamsModel", name := "drop", desc := "([II)I" } : Jvm.MethodName)) ∈ zWd := zmem 1256 (by decide +kernel) rfl
theorem q1257 : (Jvm.Cond.code ({ cls := "AliasStreamsModel", name := "drop", desc := "([II)I" } : Jvm.MethodName) prog_13_method_36_code (4 : Nat) (Option.some Jvm.ClassFile.FieldType.int)) ∈ zWd := zmem 1257 (by decide +kernel) rfl
theorem q1258 : (Jvm.Cond.methodLink "AliasStreamsLaw" (156 : Nat) ({ cls := "AliasStreamsModel", name := "encode", desc := "()I" } : Jvm.MethodName)) ∈ zWd := zmem 1258 (by decide +kernel) rfl
theorem q1259 : (Jvm.Cond.instanceMethod ({ cls := "AliasStreamsModel", name := "encode", desc := "()I" } : Jvm.MethodName)) ∈ zWd := zmem 1259 (by decide +kernel) rfl
theorem q1260 : (Jvm.Cond.selects "AliasStreamsModel" ({ cls := "AliasStreamsModel", name := "encode", desc := "()I" } : Jvm.MethodName) ({ cls := "AliasStreamsModel", name := "encode", desc := "()I" } : Jvm.MethodName)) ∈ zWd := zmem 1260 (by decide +kernel) rfl
theorem q1261 : (Jvm.Cond.code ({ cls := "AliasStreamsModel", name := "encode", desc := "()I" } : Jvm.MethodName) prog_13_method_40_code (1 : Nat) (Option.some Jvm.ClassFile.FieldType.int)) ∈ zWd := zmem 1261 (by decide +kernel) rfl
theorem q1262 : (Jvm.Cond.methodLink "AliasStreamsModel" (200 : Nat) ({ cls := "AliasStreamsModel", name := "canEncode", desc := "([I)Z" } : Jvm.MethodName)) ∈ zWd := zmem 1262 (by decide +kernel) rfl
theorem q1264 : (Jvm.Cond.instanceMethod ({ cls := "AliasStreamsModel", name := "canEncode", desc := "([I)Z" } : Jvm.MethodName)) ∈ zWd := zmem 1264 (by decide +kernel) rfl
theorem q1265 : (Jvm.Cond.code ({ cls := "AliasStreamsModel", name := "canEncode", desc := "([I)Z" } : Jvm.MethodName) prog_13_method_39_code (2 : Nat) (Option.some Jvm.ClassFile.FieldType.boolean)) ∈ zWd := zmem 1265 (by decide +kernel) rfl
theorem q1266 : (Jvm.Cond.methodLink "AliasStreamsModel" (196 : Nat) ({ cls := "AliasStreamsModel", name := "unfitOf", desc := "()I" } : Jvm.MethodName)) ∈ zWd := zmem 1266 (by decide +kernel) rfl
theorem q1268 : (Jvm.Cond.instanceMethod ({ cls := "AliasStreamsModel", name := "unfitOf", desc := "()I" } : Jvm.MethodName)) ∈ zWd := zmem 1268 (by decide +kernel) rfl
theorem q1269 : (Jvm.Cond.code ({ cls := "AliasStreamsModel", name := "unfitOf", desc := "()I" } : Jvm.MethodName) prog_13_method_12_code (2 : Nat) (Option.some Jvm.ClassFile.FieldType.int)) ∈ zWd := zmem 1269 (by decide +kernel) rfl
theorem q1270 : (Jvm.Cond.methodLink "AliasStreamsModel" (203 : Nat) ({ cls := "AliasStreamsModel", name := "encodeTo", desc := "([I)V" } : Jvm.MethodName)) ∈ zWd := zmem 1270 (by decide +kernel) rfl
theorem q1272 : (Jvm.Cond.instanceMethod ({ cls := "AliasStreamsModel", name := "encodeTo", desc := "([I)V" } : Jvm.MethodName)) ∈ zWd := zmem 1272 (by decide +kernel) rfl
theorem q1273 : (Jvm.Cond.code ({ cls := "AliasStreamsModel", name := "encodeTo", desc := "([I)V" } : Jvm.MethodName) prog_13_method_13_code (7 : Nat) (Option.none : Option Jvm.ClassFile.FieldType)) ∈ zWd := zmem 1273 (by decide +kernel) rfl
theorem q1274 : (Jvm.Cond.methodLink "AliasStreamsLaw" (159 : Nat) ({ cls := "AliasStreamsModel", name := "decode", desc := "()I" } : Jvm.MethodName)) ∈ zWd := zmem 1274 (by decide +kernel) rfl
theorem q1275 : (Jvm.Cond.instanceMethod ({ cls := "AliasStreamsModel", name := "decode", desc := "()I" } : Jvm.MethodName)) ∈ zWd := zmem 1275 (by decide +kernel) rfl
theorem q1276 : (Jvm.Cond.selects "AliasStreamsModel" ({ cls := "AliasStreamsModel", name := "decode", desc := "()I" } : Jvm.MethodName) ({ cls := "AliasStreamsModel", name := "decode", desc := "()I" } : Jvm.MethodName)) ∈ zWd := zmem 1276 (by decide +kernel) rfl
theorem q1277 : (Jvm.Cond.code ({ cls := "AliasStreamsModel", name := "decode", desc := "()I" } : Jvm.MethodName) prog_13_method_44_code (1 : Nat) (Option.some Jvm.ClassFile.FieldType.int)) ∈ zWd := zmem 1277 (by decide +kernel) rfl
theorem q1278 : (Jvm.Cond.methodLink "AliasStreamsModel" (213 : Nat) ({ cls := "AliasStreamsModel", name := "canDecode", desc := "([I)Z" } : Jvm.MethodName)) ∈ zWd := zmem 1278 (by decide +kernel) rfl
theorem q1280 : (Jvm.Cond.instanceMethod ({ cls := "AliasStreamsModel", name := "canDecode", desc := "([I)Z" } : Jvm.MethodName)) ∈ zWd := zmem 1280 (by decide +kernel) rfl
theorem q1281 : (Jvm.Cond.code ({ cls := "AliasStreamsModel", name := "canDecode", desc := "([I)Z" } : Jvm.MethodName) prog_13_method_42_code (2 : Nat) (Option.some Jvm.ClassFile.FieldType.boolean)) ∈ zWd := zmem 1281 (by decide +kernel) rfl
theorem q1282 : (Jvm.Cond.methodLink "AliasStreamsModel" (206 : Nat) ({ cls := "AliasStreamsModel", name := "fails", desc := "([I)Z" } : Jvm.MethodName)) ∈ zWd := zmem 1282 (by decide +kernel) rfl
theorem q1284 : (Jvm.Cond.instanceMethod ({ cls := "AliasStreamsModel", name := "fails", desc := "([I)Z" } : Jvm.MethodName)) ∈ zWd := zmem 1284 (by decide +kernel) rfl
theorem q1285 : (Jvm.Cond.code ({ cls := "AliasStreamsModel", name := "fails", desc := "([I)Z" } : Jvm.MethodName) prog_13_method_15_code (2 : Nat) (Option.some Jvm.ClassFile.FieldType.boolean)) ∈ zWd := zmem 1285 (by decide +kernel) rfl
theorem q1286 : (Jvm.Cond.methodLink "AliasStreamsModel" (209 : Nat) ({ cls := "AliasStreamsModel", name := "itemsOf", desc := "([I)I" } : Jvm.MethodName)) ∈ zWd := zmem 1286 (by decide +kernel) rfl
theorem q1288 : (Jvm.Cond.instanceMethod ({ cls := "AliasStreamsModel", name := "itemsOf", desc := "([I)I" } : Jvm.MethodName)) ∈ zWd := zmem 1288 (by decide +kernel) rfl
theorem q1289 : (Jvm.Cond.code ({ cls := "AliasStreamsModel", name := "itemsOf", desc := "([I)I" } : Jvm.MethodName) prog_13_method_41_code (4 : Nat) (Option.some Jvm.ClassFile.FieldType.int)) ∈ zWd := zmem 1289 (by decide +kernel) rfl
theorem q1290 : (Jvm.Cond.methodLink "AliasStreamsModel" (216 : Nat) ({ cls := "AliasStreamsModel", name := "decodeTo", desc := "([I)V" } : Jvm.MethodName)) ∈ zWd := zmem 1290 (by decide +kernel) rfl
theorem q1292 : (Jvm.Cond.instanceMethod ({ cls := "AliasStreamsModel", name := "decodeTo", desc := "([I)V" } : Jvm.MethodName)) ∈ zWd := zmem 1292 (by decide +kernel) rfl
theorem q1293 : (Jvm.Cond.code ({ cls := "AliasStreamsModel", name := "decodeTo", desc := "([I)V" } : Jvm.MethodName) prog_13_method_43_code (4 : Nat) (Option.none : Option Jvm.ClassFile.FieldType)) ∈ zWd := zmem 1293 (by decide +kernel) rfl
theorem q1294 : (Jvm.Cond.methodLink "AliasStreamsLaw" (162 : Nat) ({ cls := "AliasStreamsModel", name := "setDigit", desc := "(II)I" } : Jvm.MethodName)) ∈ zWd := zmem 1294 (by decide +kernel) rfl
theorem q1295 : (Jvm.Cond.instanceMethod ({ cls := "AliasStreamsModel", name := "setDigit", desc := "(II)I" } : Jvm.MethodName)) ∈ zWd := zmem 1295 (by decide +kernel) rfl
theorem q1296 : (Jvm.Cond.selects "AliasStreamsModel" ({ cls := "AliasStreamsModel", name := "setDigit", desc := "(II)I" } : Jvm.MethodName) ({ cls := "AliasStreamsModel", name := "setDigit", desc := "(II)I" } : Jvm.MethodName)) ∈ zWd := zmem 1296 (by decide +kernel) rfl
theorem q1297 : (Jvm.Cond.code ({ cls := "AliasStreamsModel", name := "setDigit", desc := "(II)I" } : Jvm.MethodName) prog_13_method_46_code (4 : Nat) (Option.some Jvm.ClassFile.FieldType.int)) ∈ zWd := zmem 1297 (by decide +kernel) rfl
theorem q1298 : (Jvm.Cond.methodLink "AliasStreamsModel" (219 : Nat) ({ cls := "AliasStreamsModel", name := "isDigit", desc := "(I)Z" } : Jvm.MethodName)) ∈ zWd := zmem 1298 (by decide +kernel) rfl
theorem q1300 : (Jvm.Cond.instanceMethod ({ cls := "AliasStreamsModel", name := "isDigit", desc := "(I)Z" } : Jvm.MethodName)) ∈ zWd := zmem 1300 (by decide +kernel) rfl
theorem q1301 : (Jvm.Cond.code ({ cls := "AliasStreamsModel", name := "isDigit", desc := "(I)Z" } : Jvm.MethodName) prog_13_method_45_code (2 : Nat) (Option.some Jvm.ClassFile.FieldType.boolean)) ∈ zWd := zmem 1301 (by decide +kernel) rfl
theorem q1302 : (Jvm.Cond.constantLong "AliasStreamsModel" (222 : Nat) (15 : Int64)) ∈ zWd := zmem 1302 (by decide +kernel) rfl
theorem q1303 : (Jvm.Cond.methodLink "AliasStreamsLaw" (165 : Nat) ({ cls := "AliasStreamsModel", name := "setHead", desc := "(II)I" } : Jvm.MethodName)) ∈ zWd := zmem 1303 (by decide +kernel) rfl
theorem q1304 : (Jvm.Cond.instanceMethod ({ cls := "AliasStreamsModel", name := "setHead", desc := "(II)I" } : Jvm.MethodName)) ∈ zWd := zmem 1304 (by decide +kernel) rfl
theorem q1305 : (Jvm.Cond.selects "AliasStreamsModel" ({ cls := "AliasStreamsModel", name := "setHead", desc := "(II)I" } : Jvm.MethodName) ({ cls := "AliasStreamsModel", name := "setHead", desc := "(II)I" } : Jvm.MethodName)) ∈ zWd := zmem 1305 (by decide +kernel) rfl
theorem q1306 : (Jvm.Cond.code ({ cls := "AliasStreamsModel", name := "setHead", desc := "(II)I" } : Jvm.MethodName) prog_13_method_47_code (4 : Nat) (Option.some Jvm.ClassFile.FieldType.int)) ∈ zWd := zmem 1306 (by decide +kernel) rfl
theorem q1307 : (Jvm.Cond.constantLong "AliasStreamsModel" (224 : Nat) (512 : Int64)) ∈ zWd := zmem 1307 (by decide +kernel) rfl
theorem q1308 : (Jvm.Cond.constantLong "AliasStreamsModel" (226 : Nat) (8191 : Int64)) ∈ zWd := zmem 1308 (by decide +kernel) rfl
theorem q1309 : (Jvm.Cond.methodLink "AliasStreamsLaw" (168 : Nat) ({ cls := "AliasStreamsModel", name := "setPlan", desc := "(II)I" } : Jvm.MethodName)) ∈ zWd := zmem 1309 (by decide +kernel) rfl
theorem q1310 : (Jvm.Cond.instanceMethod ({ cls := "AliasStreamsModel", name := "setPlan", desc := "(II)I" } : Jvm.MethodName)) ∈ zWd := zmem 1310 (by decide +kernel) rfl
theorem q1311 : (Jvm.Cond.selects "AliasStreamsModel" ({ cls := "AliasStreamsModel", name := "setPlan", desc := "(II)I" } : Jvm.MethodName) ({ cls := "AliasStreamsModel", name := "setPlan", desc := "(II)I" } : Jvm.MethodName)) ∈ zWd := zmem 1311 (by decide +kernel) rfl
theorem q1312 : (Jvm.Cond.code ({ cls := "AliasStreamsModel", name := "setPlan", desc := "(II)I" } : Jvm.MethodName) prog_13_method_49_code (4 : Nat) (Option.some Jvm.ClassFile.FieldType.int)) ∈ zWd := zmem 1312 (by decide +kernel) rfl
theorem q1313 : (Jvm.Cond.methodLink "AliasStreamsModel" (228 : Nat) ({ cls := "AliasStreamsModel", name := "isPlanned", desc := "(I)Z" } : Jvm.MethodName)) ∈ zWd := zmem 1313 (by decide +kernel) rfl
theorem q1315 : (Jvm.Cond.instanceMethod ({ cls := "AliasStreamsModel", name := "isPlanned", desc := "(I)Z" } : Jvm.MethodName)) ∈ zWd := zmem 1315 (by decide +kernel) rfl
theorem q1316 : (Jvm.Cond.code ({ cls := "AliasStreamsModel", name := "isPlanned", desc := "(I)Z" } : Jvm.MethodName) prog_13_method_48_code (2 : Nat) (Option.some Jvm.ClassFile.FieldType.boolean)) ∈ zWd := zmem 1316 (by decide +kernel) rfl
theorem q1317 : (Jvm.Cond.methodLink "AliasStreamsLaw" (171 : Nat) ({ cls := "AliasStreamsModel", name := "undo", desc := "()I" } : Jvm.MethodName)) ∈ zWd := zmem 1317 (by decide +kernel) rfl
theorem q1318 : (Jvm.Cond.instanceMethod ({ cls := "AliasStreamsModel", name := "undo", desc := "()I" } : Jvm.MethodName)) ∈ zWd := zmem 1318 (by decide +kernel) rfl
theorem q1319 : (Jvm.Cond.selects "AliasStreamsModel" ({ cls := "AliasStreamsModel", name := "undo", desc := "()I" } : Jvm.MethodName) ({ cls := "AliasStreamsModel", name := "undo", desc := "()I" } : Jvm.MethodName)) ∈ zWd := zmem 1319 (by decide +kernel) rfl
theorem q1320 : (Jvm.Cond.code ({ cls := "AliasStreamsModel", name := "undo", desc := "()I" } : Jvm.MethodName) prog_13_method_50_code (1 : Nat) (Option.some Jvm.ClassFile.FieldType.int)) ∈ zWd := zmem 1320 (by decide +kernel) rfl
theorem q1321 : (Jvm.Cond.methodLink "AliasStreamsLaw" (174 : Nat) ({ cls := "AliasStreamsModel", name := "taken", desc := "(II)I" } : Jvm.MethodName)) ∈ zWd := zmem 1321 (by decide +kernel) rfl
theorem q1322 : (Jvm.Cond.instanceMethod ({ cls := "AliasStreamsModel", name := "taken", desc := "(II)I" } : Jvm.MethodName)) ∈ zWd := zmem 1322 (by decide +kernel) rfl
theorem q1323 : (Jvm.Cond.selects "AliasStreamsModel" ({ cls := "AliasStreamsModel", name := "taken", desc := "(II)I" } : Jvm.MethodName) ({ cls := "AliasStreamsModel", name := "taken", desc := "(II)I" } : Jvm.MethodName)) ∈ zWd := zmem 1323 (by decide +kernel) rfl
theorem q1324 : (Jvm.Cond.code ({ cls := "AliasStreamsModel", name := "taken", desc := "(II)I" } : Jvm.MethodName) prog_13_method_51_code (4 : Nat) (Option.some Jvm.ClassFile.FieldType.int)) ∈ zWd := zmem 1324 (by decide +kernel) rfl
theorem q1325 : (Jvm.Cond.constantLong "AliasStreamsModel" (231 : Nat) (3 : Int64)) ∈ zWd := zmem 1325 (by decide +kernel) rfl
theorem q1326 : (Jvm.Cond.methodLink "AliasStreamsLaw" (178 : Nat) ({ cls := "AliasStreamsModel", name := "failure", desc := "()I" } : Jvm.MethodName)) ∈ zWd := zmem 1326 (by decide +kernel) rfl
theorem q1327 : (Jvm.Cond.instanceMethod ({ cls := "AliasStreamsModel", name := "failure", desc := "()I" } : Jvm.MethodName)) ∈ zWd := zmem 1327 (by decide +kernel) rfl
theorem q1328 : (Jvm.Cond.selects "AliasStreamsModel" ({ cls := "AliasStreamsModel", name := "failure", desc := "()I" } : Jvm.MethodName) ({ cls := "AliasStreamsModel", name := "failure", desc := "()I" } : Jvm.MethodName)) ∈ zWd := zmem 1328 (by decide +kernel) rfl
theorem q1329 : (Jvm.Cond.code ({ cls := "AliasStreamsModel", name := "failure", desc := "()I" } : Jvm.MethodName) prog_13_method_52_code (1 : Nat) (Option.some Jvm.ClassFile.FieldType.int)) ∈ zWd := zmem 1329 (by decide +kernel) rfl
theorem q1330 : (Jvm.Cond.methodLink "AliasStreamsLaw" (182 : Nat) ({ cls := "AliasStreamsModel", name := "unfit", desc := "()I" } : Jvm.MethodName)) ∈ zWd := zmem 1330 (by decide +kernel) rfl
theorem q1331 : (Jvm.Cond.instanceMethod ({ cls := "AliasStreamsModel", name := "unfit", desc := "()I" } : Jvm.MethodName)) ∈ zWd := zmem 1331 (by decide +kernel) rfl
theorem q1332 : (Jvm.Cond.selects "AliasStreamsModel" ({ cls := "AliasStreamsModel", name := "unfit", desc := "()I" } : Jvm.MethodName) ({ cls := "AliasStreamsModel", name := "unfit", desc := "()I" } : Jvm.MethodName)) ∈ zWd := zmem 1332 (by decide +kernel) rfl
theorem q1333 : (Jvm.Cond.code ({ cls := "AliasStreamsModel", name := "unfit", desc := "()I" } : Jvm.MethodName) prog_13_method_53_code (1 : Nat) (Option.some Jvm.ClassFile.FieldType.int)) ∈ zWd := zmem 1333 (by decide +kernel) rfl
theorem q1334 : (Jvm.Cond.methodLink "AliasStreamsLaw" (185 : Nat) ({ cls := "AliasStreamsModel", name := "digitsWith", desc := "(I)I" } : Jvm.MethodName)) ∈ zWd := zmem 1334 (by decide +kernel) rfl
theorem q1335 : (Jvm.Cond.instanceMethod ({ cls := "AliasStreamsModel", name := "digitsWith", desc := "(I)I" } : Jvm.MethodName)) ∈ zWd := zmem 1335 (by decide +kernel) rfl
theorem q1336 : (Jvm.Cond.selects "AliasStreamsModel" ({ cls := "AliasStreamsModel", name := "digitsWith", desc := "(I)I" } : Jvm.MethodName) ({ cls := "AliasStreamsModel", name := "digitsWith", desc := "(I)I" } : Jvm.MethodName)) ∈ zWd := zmem 1336 (by decide +kernel) rfl
theorem q1337 : (Jvm.Cond.code ({ cls := "AliasStreamsModel", name := "digitsWith", desc := "(I)I" } : Jvm.MethodName) prog_13_method_54_code (3 : Nat) (Option.some Jvm.ClassFile.FieldType.int)) ∈ zWd := zmem 1337 (by decide +kernel) rfl
theorem q1338 : (Jvm.Cond.methodLink "AliasStreamsLaw" (188 : Nat) ({ cls := "AliasStreamsModel", name := "product", desc := "(III)J" } : Jvm.MethodName)) ∈ zWd := zmem 1338 (by decide +kernel) rfl
theorem q1339 : (Jvm.Cond.instanceMethod ({ cls := "AliasStreamsModel", name := "product", desc := "(III)J" } : Jvm.MethodName)) ∈ zWd := zmem 1339 (by decide +kernel) rfl
theorem q1340 : (Jvm.Cond.selects "AliasStreamsModel" ({ cls := "AliasStreamsModel", name := "product", desc := "(III)J" } : Jvm.MethodName) ({ cls := "AliasStreamsModel", name := "product", desc := "(III)J" } : Jvm.MethodName)) ∈ zWd := zmem 1340 (by decide +kernel) rfl
theorem q1341 : (Jvm.Cond.code ({ cls := "AliasStreamsModel", name := "product", desc := "(III)J" } : Jvm.MethodName) prog_13_method_57_code (4 : Nat) (Option.some Jvm.ClassFile.FieldType.long)) ∈ zWd := zmem 1341 (by decide +kernel) rfl
theorem q1342 : (Jvm.Cond.methodLink "AliasStreamsModel" (233 : Nat) ({ cls := "AliasStreamsModel", name := "isSequenced", desc := "(I)Z" } : Jvm.MethodName)) ∈ zWd := zmem 1342 (by decide +kernel) rfl
theorem q1344 : (Jvm.Cond.instanceMethod ({ cls := "AliasStreamsModel", name := "isSequenced", desc := "(I)Z" } : Jvm.MethodName)) ∈ zWd := zmem 1344 (by decide +kernel) rfl
theorem q1345 : (Jvm.Cond.code ({ cls := "AliasStreamsModel", name := "isSequenced", desc := "(I)Z" } : Jvm.MethodName) prog_13_method_56_code (2 : Nat) (Option.some Jvm.ClassFile.FieldType.boolean)) ∈ zWd := zmem 1345 (by decide +kernel) rfl
theorem q1346 : (Jvm.Cond.constantLong "AliasStreamsModel" (236 : Nat) (12 : Int64)) ∈ zWd := zmem 1346 (by decide +kernel) rfl
theorem q1347 : (Jvm.Cond.methodLink "AliasStreamsModel" (238 : Nat) ({ cls := "AliasStreamsModel", name := "productOf", desc := "(III)J" } : Jvm.MethodName)) ∈ zWd := zmem 1347 (by decide +kernel) rfl
theorem q1349 : (Jvm.Cond.instanceMethod ({ cls := "AliasStreamsModel", name := "productOf", desc := "(III)J" } : Jvm.MethodName)) ∈ zWd := zmem 1349 (by decide +kernel) rfl
theorem q1350 : (Jvm.Cond.code ({ cls := "AliasStreamsModel", name := "productOf", desc := "(III)J" } : Jvm.MethodName) prog_13_method_55_code (7 : Nat) (Option.some Jvm.ClassFile.FieldType.long)) ∈ zWd := zmem 1350 (by decide +kernel) rfl
theorem q1351 : (Jvm.Cond.methodLink "AliasStreamsLaw" (191 : Nat) ({ cls := "AliasStreamsModel", name := "bestModel", desc := "(II)I" } : Jvm.MethodName)) ∈ zWd := zmem 1351 (by decide +kernel) rfl
theorem q1352 : (Jvm.Cond.instanceMethod ({ cls := "AliasStreamsModel", name := "bestModel", desc := "(II)I" } : Jvm.MethodName)) ∈ zWd := zmem 1352 (by decide +kernel) rfl
theorem q1353 : (Jvm.Cond.selects "AliasStreamsModel" ({ cls := "AliasStreamsModel", name := "bestModel", desc := "(II)I" } : Jvm.MethodName) ({ cls := "AliasStreamsModel", name := "bestModel", desc := "(II)I" } : Jvm.MethodName)) ∈ zWd := zmem 1353 (by decide +kernel) rfl
theorem q1354 : (Jvm.Cond.code ({ cls := "AliasStreamsModel", name := "bestModel", desc := "(II)I" } : Jvm.MethodName) prog_13_method_58_code (5 : Nat) (Option.some Jvm.ClassFile.FieldType.int)) ∈ zWd := zmem 1354 (by decide +kernel) rfl
theorem q1355 : (Jvm.Cond.methodLink "AliasStreamsLaw" (195 : Nat) ({ cls := "AliasStreamsModel", name := "difference", desc := "()I" } : Jvm.MethodName)) ∈ zWd := zmem 1355 (by decide +kernel) rfl
theorem q1356 : (Jvm.Cond.instanceMethod ({ cls := "AliasStreamsModel", name := "difference", desc := "()I" } : Jvm.MethodName)) ∈ zWd := zmem 1356 (by decide +kernel) rfl
theorem q1357 : (Jvm.Cond.selects "AliasStreamsModel" ({ cls := "AliasStreamsModel", name := "difference", desc := "()I" } : Jvm.MethodName) ({ cls := "AliasStreamsModel", name := "difference", desc := "()I" } : Jvm.MethodName)) ∈ zWd := zmem 1357 (by decide +kernel) rfl
theorem q1358 : (Jvm.Cond.code ({ cls := "AliasStreamsModel", name := "difference", desc := "()I" } : Jvm.MethodName) prog_13_method_59_code (3 : Nat) (Option.some Jvm.ClassFile.FieldType.int)) ∈ zWd := zmem 1358 (by decide +kernel) rfl
theorem q1359 : (Jvm.Cond.methodLink "AliasStreamsLaw" (198 : Nat) ({ cls := "AliasStreamsModel", name := "effect", desc := "(III)I" } : Jvm.MethodName)) ∈ zWd := zmem 1359 (by decide +kernel) rfl
theorem q1360 : (Jvm.Cond.instanceMethod ({ cls := "AliasStreamsModel", name := "effect", desc := "(III)I" } : Jvm.MethodName)) ∈ zWd := zmem 1360 (by decide +kernel) rfl
theorem q1361 : (Jvm.Cond.selects "AliasStreamsModel" ({ cls := "AliasStreamsModel", name := "effect", desc := "(III)I" } : Jvm.MethodName) ({ cls := "AliasStreamsModel", name := "effect", desc := "(III)I" } : Jvm.MethodName)) ∈ zWd := zmem 1361 (by decide +kernel) rfl
theorem q1362 : (Jvm.Cond.code ({ cls := "AliasStreamsModel", name := "effect", desc := "(III)I" } : Jvm.MethodName) prog_13_method_60_code (7 : Nat) (Option.some Jvm.ClassFile.FieldType.int)) ∈ zWd := zmem 1362 (by decide +kernel) rfl
theorem q1363 : (Jvm.Cond.methodLink "AliasStreamsLaw" (204 : Nat) ({ cls := "AliasStreamsModel", name := "runScript", desc := "(IJ)I" } : Jvm.MethodName)) ∈ zWd := zmem 1363 (by decide +kernel) rfl
theorem q1364 : (Jvm.Cond.instanceMethod ({ cls := "AliasStreamsModel", name := "runScript", desc := "(IJ)I" } : Jvm.MethodName)) ∈ zWd := zmem 1364 (by decide +kernel) rfl
theorem q1365 : (Jvm.Cond.selects "AliasStreamsModel" ({ cls := "AliasStreamsModel", name := "runScript", desc := "(IJ)I" } : Jvm.MethodName) ({ cls := "AliasStreamsModel", name := "runScript", desc := "(IJ)I" } : Jvm.MethodName)) ∈ zWd := zmem 1365 (by decide +kernel) rfl
theorem q1366 : (Jvm.Cond.code ({ cls := "AliasStreamsModel", name := "runScript", desc := "(IJ)I" } : Jvm.MethodName) prog_13_method_63_code (6 : Nat) (Option.some Jvm.ClassFile.FieldType.int)) ∈ zWd := zmem 1366 (by decide +kernel) rfl
theorem q1367 : (Jvm.Cond.constantLong "AliasStreamsModel" (244 : Nat) (4 : Int64)) ∈ zWd := zmem 1367 (by decide +kernel) rfl
theorem q1368 : (Jvm.Cond.methodLink "AliasStreamsModel" (246 : Nat) ({ cls := "AliasStreamsModel", name := "tenTo", desc := "(I)J" } : Jvm.MethodName)) ∈ zWd := zmem 1368 (by decide +kernel) rfl
theorem q1369 : (Jvm.Cond.static ({ cls := "AliasStreamsModel", name := "tenTo", desc := "(I)J" } : Jvm.MethodName)) ∈ zWd := zmem 1369 (by decide +kernel) rfl
theorem q1370 : (Jvm.Cond.code ({ cls := "AliasStreamsModel", name := "tenTo", desc := "(I)J" } : Jvm.MethodName) prog_13_method_62_code (4 : Nat) (Option.some Jvm.ClassFile.FieldType.long)) ∈ zWd := zmem 1370 (by decide +kernel) rfl
theorem q1371 : (Jvm.Cond.constantLong "AliasStreamsModel" (242 : Nat) (10 : Int64)) ∈ zWd := zmem 1371 (by decide +kernel) rfl
theorem q1372 : (Jvm.Cond.constantLong "AliasStreamsModel" (250 : Nat) (10000 : Int64)) ∈ zWd := zmem 1372 (by decide +kernel) rfl
theorem q1373 : (Jvm.Cond.methodLink "AliasStreamsModel" (252 : Nat) ({ cls := "AliasStreamsModel", name := "does", desc := "(III)Z" } : Jvm.MethodName)) ∈ zWd := zmem 1373 (by decide +kernel) rfl
theorem q1375 : (Jvm.Cond.instanceMethod ({ cls := "AliasStreamsModel", name := "does", desc := "(III)Z" } : Jvm.MethodName)) ∈ zWd := zmem 1375 (by decide +kernel) rfl
theorem q1376 : (Jvm.Cond.code ({ cls := "AliasStreamsModel", name := "does", desc := "(III)Z" } : Jvm.MethodName) prog_13_method_61_code (4 : Nat) (Option.some Jvm.ClassFile.FieldType.boolean)) ∈ zWd := zmem 1376 (by decide +kernel) rfl
theorem q1377 : (Jvm.Cond.methodLink "AliasStreamsLaw" (208 : Nat) ({ cls := "AliasStreamsModel", name := "simulate", desc := "(JI)I" } : Jvm.MethodName)) ∈ zWd := zmem 1377 (by decide +kernel) rfl
theorem q1378 : (Jvm.Cond.instanceMethod ({ cls := "AliasStreamsModel", name := "simulate", desc := "(JI)I" } : Jvm.MethodName)) ∈ zWd := zmem 1378 (by decide +kernel) rfl
theorem q1379 : (Jvm.Cond.selects "AliasStreamsModel" ({ cls := "AliasStreamsModel", name := "simulate", desc := "(JI)I" } : Jvm.MethodName) ({ cls := "AliasStreamsModel", name := "simulate", desc := "(JI)I" } : Jvm.MethodName)) ∈ zWd := zmem 1379 (by decide +kernel) rfl
theorem q1380 : (Jvm.Cond.code ({ cls := "AliasStreamsModel", name := "simulate", desc := "(JI)I" } : Jvm.MethodName) prog_13_method_64_code (9 : Nat) (Option.some Jvm.ClassFile.FieldType.int)) ∈ zWd := zmem 1380 (by decide +kernel) rfl
theorem q1381 : (Jvm.Cond.constantLong "AliasStreamsModel" (256 : Nat) (40 : Int64)) ∈ zWd := zmem 1381 (by decide +kernel) rfl
theorem q1382 : (Jvm.Cond.constantLong "AliasStreamsModel" (258 : Nat) (6364136223846793005 : Int64)) ∈ zWd := zmem 1382 (by decide +kernel) rfl
theorem q1383 : (Jvm.Cond.constantLong "AliasStreamsModel" (260 : Nat) (1442695040888963407 : Int64)) ∈ zWd := zmem 1383 (by decide +kernel) rfl
theorem q1384 : (Jvm.Cond.methodLink "AliasStreamsLaw" (211 : Nat) ({ cls := "AliasStreamsModel", name := "save", desc := "(I)I" } : Jvm.MethodName)) ∈ zWd := zmem 1384 (by decide +kernel) rfl
theorem q1385 : (Jvm.Cond.instanceMethod ({ cls := "AliasStreamsModel", name := "save", desc := "(I)I" } : Jvm.MethodName)) ∈ zWd := zmem 1385 (by decide +kernel) rfl
theorem q1386 : (Jvm.Cond.selects "AliasStreamsModel" ({ cls := "AliasStreamsModel", name := "save", desc := "(I)I" } : Jvm.MethodName) ({ cls := "AliasStreamsModel", name := "save", desc := "(I)I" } : Jvm.MethodName)) ∈ zWd := zmem 1386 (by decide +kernel) rfl
theorem q1387 : (Jvm.Cond.code ({ cls := "AliasStreamsModel", name := "save", desc := "(I)I" } : Jvm.MethodName) prog_13_method_65_code (2 : Nat) (Option.some Jvm.ClassFile.FieldType.int)) ∈ zWd := zmem 1387 (by decide +kernel) rfl
theorem q1388 : (Jvm.Cond.methodLink "AliasStreamsLaw" (214 : Nat) ({ cls := "AliasStreamsModel", name := "restore", desc := "(I)I" } : Jvm.MethodName)) ∈ zWd := zmem 1388 (by decide +kernel) rfl
theorem q1389 : (Jvm.Cond.instanceMethod ({ cls := "AliasStreamsModel", name := "restore", desc := "(I)I" } : Jvm.MethodName)) ∈ zWd := zmem 1389 (by decide +kernel) rfl
theorem q1390 : (Jvm.Cond.selects "AliasStreamsModel" ({ cls := "AliasStreamsModel", name := "restore", desc := "(I)I" } : Jvm.MethodName) ({ cls := "AliasStreamsModel", name := "restore", desc := "(I)I" } : Jvm.MethodName)) ∈ zWd := zmem 1390 (by decide +kernel) rfl
theorem q1391 : (Jvm.Cond.code ({ cls := "AliasStreamsModel", name := "restore", desc := "(I)I" } : Jvm.MethodName) prog_13_method_66_code (2 : Nat) (Option.some Jvm.ClassFile.FieldType.int)) ∈ zWd := zmem 1391 (by decide +kernel) rfl
theorem q1392 : (Jvm.Cond.constantLong "AliasStreamsLaw" (199 : Nat) (4294967295 : Int64)) ∈ zWd := zmem 1392 (by decide +kernel) rfl
theorem q1393 : (Jvm.Cond.arrayClass Jvm.ClassFile.FieldType.long) ∈ zWd := zmem 1393 (by decide +kernel) rfl
theorem qs0 : Cond.selects "AliasStreams$Models" ⟨"AliasStreams$Models", "makeAll", "([I)V"⟩ ⟨"AliasStreams$Models", "makeAll", "([I)V"⟩ ∈ zWd := zmemS 0 (by decide +kernel) rfl
theorem qs1 : Cond.selects "AliasStreams$Model" ⟨"AliasStreams$Model", "make", "([II)V"⟩ ⟨"AliasStreams$Model", "make", "([II)V"⟩ ∈ zWd := zmemS 1 (by decide +kernel) rfl
theorem qs2 : Cond.selects "AliasStreams$Model" ⟨"AliasStreams$Model", "shareOut", "([III)I"⟩ ⟨"AliasStreams$Model", "shareOut", "([III)I"⟩ ∈ zWd := zmemS 2 (by decide +kernel) rfl
theorem qs3 : Cond.selects "AliasStreams$Model" ⟨"AliasStreams$Model", "giveOne", "()V"⟩ ⟨"AliasStreams$Model", "giveOne", "()V"⟩ ∈ zWd := zmemS 3 (by decide +kernel) rfl
theorem qs4 : Cond.selects "AliasStreams$Model" ⟨"AliasStreams$Model", "takeOne", "()V"⟩ ⟨"AliasStreams$Model", "takeOne", "()V"⟩ ∈ zWd := zmemS 4 (by decide +kernel) rfl
theorem qs5 : Cond.selects "AliasStreams$Model" ⟨"AliasStreams$Model", "closeBuckets", "()V"⟩ ⟨"AliasStreams$Model", "closeBuckets", "()V"⟩ ∈ zWd := zmemS 5 (by decide +kernel) rfl
theorem qs6 : Cond.selects "AliasStreams$Model" ⟨"AliasStreams$Model", "closeOne", "()V"⟩ ⟨"AliasStreams$Model", "closeOne", "()V"⟩ ∈ zWd := zmemS 6 (by decide +kernel) rfl
theorem qs7 : Cond.selects "AliasStreams$Model" ⟨"AliasStreams$Model", "firstToClose", "()I"⟩ ⟨"AliasStreams$Model", "firstToClose", "()I"⟩ ∈ zWd := zmemS 7 (by decide +kernel) rfl
theorem qs8 : Cond.selects "AliasStreams$Model" ⟨"AliasStreams$Model", "fullestOpen", "()I"⟩ ⟨"AliasStreams$Model", "fullestOpen", "()I"⟩ ∈ zWd := zmemS 8 (by decide +kernel) rfl
theorem qs9 : Cond.selects "AliasStreams$Model" ⟨"AliasStreams$Model", "numberSlots", "()V"⟩ ⟨"AliasStreams$Model", "numberSlots", "()V"⟩ ∈ zWd := zmemS 9 (by decide +kernel) rfl
theorem qs10 : Cond.selects "AliasStreams$Model" ⟨"AliasStreams$Model", "enterSlot", "(III)V"⟩ ⟨"AliasStreams$Model", "enterSlot", "(III)V"⟩ ∈ zWd := zmemS 10 (by decide +kernel) rfl
theorem qs11 : Cond.selects "AliasStreams$Text" ⟨"AliasStreams$Text", "read", "()I"⟩ ⟨"AliasStreams$Text", "read", "()I"⟩ ∈ zWd := zmemS 11 (by decide +kernel) rfl
theorem qs12 : Cond.selects "AliasStreams$Text" ⟨"AliasStreams$Text", "readSize", "()Z"⟩ ⟨"AliasStreams$Text", "readSize", "()Z"⟩ ∈ zWd := zmemS 12 (by decide +kernel) rfl
theorem qs13 : Cond.selects "AliasStreams$Text" ⟨"AliasStreams$Text", "here", "()I"⟩ ⟨"AliasStreams$Text", "here", "()I"⟩ ∈ zWd := zmemS 13 (by decide +kernel) rfl
theorem qs14 : Cond.selects "AliasStreams$Text" ⟨"AliasStreams$Text", "digitHere", "()I"⟩ ⟨"AliasStreams$Text", "digitHere", "()I"⟩ ∈ zWd := zmemS 14 (by decide +kernel) rfl
theorem qs15 : Cond.selects "AliasStreams$Text" ⟨"AliasStreams$Text", "readModels", "()Z"⟩ ⟨"AliasStreams$Text", "readModels", "()Z"⟩ ∈ zWd := zmemS 15 (by decide +kernel) rfl
theorem qs16 : Cond.selects "AliasStreams$Text" ⟨"AliasStreams$Text", "readCounts", "(I)Z"⟩ ⟨"AliasStreams$Text", "readCounts", "(I)Z"⟩ ∈ zWd := zmemS 16 (by decide +kernel) rfl
theorem qs17 : Cond.selects "AliasStreams$Text" ⟨"AliasStreams$Text", "readItems", "()Z"⟩ ⟨"AliasStreams$Text", "readItems", "()Z"⟩ ∈ zWd := zmemS 17 (by decide +kernel) rfl
theorem qs18 : Cond.selects "AliasStreams$Text" ⟨"AliasStreams$Text", "itemHere", "()I"⟩ ⟨"AliasStreams$Text", "itemHere", "()I"⟩ ∈ zWd := zmemS 18 (by decide +kernel) rfl
theorem qs19 : Cond.selects "AliasStreams$Taking" ⟨"AliasStreams$Taking", "takeAll", "(LAliasStreams$Tape;LAliasStreams$Models;)V"⟩ ⟨"AliasStreams$Taking", "takeAll", "(LAliasStreams$Tape;LAliasStreams$Models;)V"⟩ ∈ zWd := zmemS 19 (by decide +kernel) rfl
theorem qs20 : Cond.selects "AliasStreams$Models" ⟨"AliasStreams$Models", "of", "(I)LAliasStreams$Model;"⟩ ⟨"AliasStreams$Models", "of", "(I)LAliasStreams$Model;"⟩ ∈ zWd := zmemS 20 (by decide +kernel) rfl
theorem qs21 : Cond.selects "AliasStreams$Taking" ⟨"AliasStreams$Taking", "takeSymbol", "(LAliasStreams$Tape;LAliasStreams$Model;I)V"⟩ ⟨"AliasStreams$Taking", "takeSymbol", "(LAliasStreams$Tape;LAliasStreams$Model;I)V"⟩ ∈ zWd := zmemS 21 (by decide +kernel) rfl
theorem qs22 : Cond.selects "AliasStreams$Model" ⟨"AliasStreams$Model", "frequencyOf", "(I)I"⟩ ⟨"AliasStreams$Model", "frequencyOf", "(I)I"⟩ ∈ zWd := zmemS 22 (by decide +kernel) rfl
theorem qs23 : Cond.selects "AliasStreams$Tape" ⟨"AliasStreams$Tape", "hasDigit", "(I)Z"⟩ ⟨"AliasStreams$Tape", "hasDigit", "(I)Z"⟩ ∈ zWd := zmemS 23 (by decide +kernel) rfl
theorem qs24 : Cond.selects "AliasStreams$Symbols" ⟨"AliasStreams$Symbols", "list", "(LAliasStreams$State;)V"⟩ ⟨"AliasStreams$Symbols", "list", "(LAliasStreams$State;)V"⟩ ∈ zWd := zmemS 24 (by decide +kernel) rfl
theorem qs25 : Cond.selects "AliasStreams$Symbols" ⟨"AliasStreams$Symbols", "firstUnfit", "(LAliasStreams$Models;)I"⟩ ⟨"AliasStreams$Symbols", "firstUnfit", "(LAliasStreams$Models;)I"⟩ ∈ zWd := zmemS 25 (by decide +kernel) rfl
theorem qs26 : Cond.selects "AliasStreams$Symbols" ⟨"AliasStreams$Symbols", "has", "(I)Z"⟩ ⟨"AliasStreams$Symbols", "has", "(I)Z"⟩ ∈ zWd := zmemS 26 (by decide +kernel) rfl
theorem qs27 : Cond.selects "java/lang/Throwable" ⟨"java/lang/Throwable", "fillInStackTrace", "(I)Ljava/lang/Throwable;"⟩ ⟨"java/lang/Throwable", "fillInStackTrace", "(I)Ljava/lang/Throwable;"⟩ ∈ zWd := zmemS 27 (by decide +kernel) rfl
theorem qs28 : Cond.selects "AliasStreams$Text" ⟨"AliasStreams$Text", "add", "(I)V"⟩ ⟨"AliasStreams$Text", "add", "(I)V"⟩ ∈ zWd := zmemS 28 (by decide +kernel) rfl
theorem qs29 : Cond.selects "AliasStreams$State" ⟨"AliasStreams$State", "begin", "(LAliasStreams$Text;)V"⟩ ⟨"AliasStreams$State", "begin", "(LAliasStreams$Text;)V"⟩ ∈ zWd := zmemS 29 (by decide +kernel) rfl
theorem qs30 : Cond.selects "AliasStreams$Tape" ⟨"AliasStreams$Tape", "becomeEmpty", "()V"⟩ ⟨"AliasStreams$Tape", "becomeEmpty", "()V"⟩ ∈ zWd := zmemS 30 (by decide +kernel) rfl
theorem qs31 : Cond.selects "AliasStreams$History" ⟨"AliasStreams$History", "forget", "()V"⟩ ⟨"AliasStreams$History", "forget", "()V"⟩ ∈ zWd := zmemS 31 (by decide +kernel) rfl
theorem qs32 : Cond.selects "AliasStreams$Saves" ⟨"AliasStreams$Saves", "empty", "()V"⟩ ⟨"AliasStreams$Saves", "empty", "()V"⟩ ∈ zWd := zmemS 32 (by decide +kernel) rfl
theorem qs33 : Cond.selects "AliasStreams$Models" ⟨"AliasStreams$Models", "hasModel", "(I)Z"⟩ ⟨"AliasStreams$Models", "hasModel", "(I)Z"⟩ ∈ zWd := zmemS 33 (by decide +kernel) rfl
theorem qs34 : Cond.selects "AliasStreams$Models" ⟨"AliasStreams$Models", "hasSymbol", "(I)Z"⟩ ⟨"AliasStreams$Models", "hasSymbol", "(I)Z"⟩ ∈ zWd := zmemS 34 (by decide +kernel) rfl
theorem qs35 : Cond.selects "AliasStreams$State" ⟨"AliasStreams$State", "countOf", "(II)I"⟩ ⟨"AliasStreams$State", "countOf", "(II)I"⟩ ∈ zWd := zmemS 35 (by decide +kernel) rfl
theorem qs36 : Cond.selects "AliasStreams$State" ⟨"AliasStreams$State", "hasItem", "(I)Z"⟩ ⟨"AliasStreams$State", "hasItem", "(I)Z"⟩ ∈ zWd := zmemS 36 (by decide +kernel) rfl
theorem qs37 : Cond.selects "AliasStreams$Tape" ⟨"AliasStreams$Tape", "hasPlanned", "(I)Z"⟩ ⟨"AliasStreams$Tape", "hasPlanned", "(I)Z"⟩ ∈ zWd := zmemS 37 (by decide +kernel) rfl
theorem qs38 : Cond.selects "AliasStreams$State" ⟨"AliasStreams$State", "sumOfCounts", "(I)I"⟩ ⟨"AliasStreams$State", "sumOfCounts", "(I)I"⟩ ∈ zWd := zmemS 38 (by decide +kernel) rfl
theorem qs39 : Cond.selects "AliasStreams$History" ⟨"AliasStreams$History", "remember", "(LAliasStreams$State;)V"⟩ ⟨"AliasStreams$History", "remember", "(LAliasStreams$State;)V"⟩ ∈ zWd := zmemS 39 (by decide +kernel) rfl
theorem qs40 : Cond.selects "AliasStreams$State" ⟨"AliasStreams$State", "copyFrom", "(LAliasStreams$State;)V"⟩ ⟨"AliasStreams$State", "copyFrom", "(LAliasStreams$State;)V"⟩ ∈ zWd := zmemS 40 (by decide +kernel) rfl
theorem qs41 : Cond.selects "AliasStreams$Tape" ⟨"AliasStreams$Tape", "copyFrom", "(LAliasStreams$Tape;)V"⟩ ⟨"AliasStreams$Tape", "copyFrom", "(LAliasStreams$Tape;)V"⟩ ∈ zWd := zmemS 41 (by decide +kernel) rfl
theorem qs42 : Cond.selects "AliasStreams$State" ⟨"AliasStreams$State", "changeCount", "(III)V"⟩ ⟨"AliasStreams$State", "changeCount", "(III)V"⟩ ∈ zWd := zmemS 42 (by decide +kernel) rfl
theorem qs43 : Cond.selects "AliasStreams$Models" ⟨"AliasStreams$Models", "allowItem", "(I)Z"⟩ ⟨"AliasStreams$Models", "allowItem", "(I)Z"⟩ ∈ zWd := zmemS 43 (by decide +kernel) rfl
theorem qs44 : Cond.selects "AliasStreams$State" ⟨"AliasStreams$State", "addItem", "(II)V"⟩ ⟨"AliasStreams$State", "addItem", "(II)V"⟩ ∈ zWd := zmemS 44 (by decide +kernel) rfl
theorem qs45 : Cond.selects "AliasStreams$State" ⟨"AliasStreams$State", "dropItem", "(I)V"⟩ ⟨"AliasStreams$State", "dropItem", "(I)V"⟩ ∈ zWd := zmemS 45 (by decide +kernel) rfl
theorem qs46 : Cond.selects "AliasStreams$Tape" ⟨"AliasStreams$Tape", "fill", "(LAliasStreams$Symbols;LAliasStreams$Models;)V"⟩ ⟨"AliasStreams$Tape", "fill", "(LAliasStreams$Symbols;LAliasStreams$Models;)V"⟩ ∈ zWd := zmemS 46 (by decide +kernel) rfl
theorem qs47 : Cond.selects "AliasStreams$Tape" ⟨"AliasStreams$Tape", "putSymbol", "(LAliasStreams$Model;II)V"⟩ ⟨"AliasStreams$Tape", "putSymbol", "(LAliasStreams$Model;II)V"⟩ ∈ zWd := zmemS 47 (by decide +kernel) rfl
theorem qs48 : Cond.selects "AliasStreams$Tape" ⟨"AliasStreams$Tape", "writeDigit", "(I)V"⟩ ⟨"AliasStreams$Tape", "writeDigit", "(I)V"⟩ ∈ zWd := zmemS 48 (by decide +kernel) rfl
theorem qs49 : Cond.selects "AliasStreams$Model" ⟨"AliasStreams$Model", "slotOf", "(II)I"⟩ ⟨"AliasStreams$Model", "slotOf", "(II)I"⟩ ∈ zWd := zmemS 49 (by decide +kernel) rfl
theorem qs50 : Cond.selects "AliasStreams$Tape" ⟨"AliasStreams$Tape", "itemsNeeded", "()I"⟩ ⟨"AliasStreams$Tape", "itemsNeeded", "()I"⟩ ∈ zWd := zmemS 50 (by decide +kernel) rfl
theorem qs51 : Cond.selects "AliasStreams$State" ⟨"AliasStreams$State", "takeMessage", "(LAliasStreams$Taking;)V"⟩ ⟨"AliasStreams$State", "takeMessage", "(LAliasStreams$Taking;)V"⟩ ∈ zWd := zmemS 51 (by decide +kernel) rfl
theorem qs52 : Cond.selects "AliasStreams$History" ⟨"AliasStreams$History", "giveBack", "(LAliasStreams$State;)V"⟩ ⟨"AliasStreams$History", "giveBack", "(LAliasStreams$State;)V"⟩ ∈ zWd := zmemS 52 (by decide +kernel) rfl
theorem qs53 : Cond.selects "AliasStreams$Symbols" ⟨"AliasStreams$Symbols", "useOneModel", "(I)V"⟩ ⟨"AliasStreams$Symbols", "useOneModel", "(I)V"⟩ ∈ zWd := zmemS 53 (by decide +kernel) rfl
theorem qs54 : Cond.selects "AliasStreams$Symbols" ⟨"AliasStreams$Symbols", "multiply", "(LAliasStreams$Model;II)J"⟩ ⟨"AliasStreams$Symbols", "multiply", "(LAliasStreams$Model;II)J"⟩ ∈ zWd := zmemS 54 (by decide +kernel) rfl
theorem qs55 : Cond.selects "AliasStreams$Taking" ⟨"AliasStreams$Taking", "countOtherSymbols", "(LAliasStreams$Taking;)I"⟩ ⟨"AliasStreams$Taking", "countOtherSymbols", "(LAliasStreams$Taking;)I"⟩ ∈ zWd := zmemS 55 (by decide +kernel) rfl
theorem qs56 : Cond.selects "AliasStreams$Script" ⟨"AliasStreams$Script", "run", "(LAliasStreams$State;LAliasStreams$Models;IJ)I"⟩ ⟨"AliasStreams$Script", "run", "(LAliasStreams$State;LAliasStreams$Models;IJ)I"⟩ ∈ zWd := zmemS 56 (by decide +kernel) rfl
theorem qs57 : Cond.selects "AliasStreams$Script" ⟨"AliasStreams$Script", "execute", "(ILAliasStreams$Models;)Z"⟩ ⟨"AliasStreams$Script", "execute", "(ILAliasStreams$Models;)Z"⟩ ∈ zWd := zmemS 57 (by decide +kernel) rfl
theorem qs58 : Cond.selects "AliasStreams$Script" ⟨"AliasStreams$Script", "addLast", "(ILAliasStreams$Models;)Z"⟩ ⟨"AliasStreams$Script", "addLast", "(ILAliasStreams$Models;)Z"⟩ ∈ zWd := zmemS 58 (by decide +kernel) rfl
theorem qs59 : Cond.selects "AliasStreams$Script" ⟨"AliasStreams$Script", "dropOne", "(I)Z"⟩ ⟨"AliasStreams$Script", "dropOne", "(I)Z"⟩ ∈ zWd := zmemS 59 (by decide +kernel) rfl
theorem qs60 : Cond.selects "AliasStreams$Script" ⟨"AliasStreams$Script", "fillTape", "(LAliasStreams$Models;)Z"⟩ ⟨"AliasStreams$Script", "fillTape", "(LAliasStreams$Models;)Z"⟩ ∈ zWd := zmemS 60 (by decide +kernel) rfl
theorem qs61 : Cond.selects "AliasStreams$Script" ⟨"AliasStreams$Script", "takeMessage", "(LAliasStreams$Models;)Z"⟩ ⟨"AliasStreams$Script", "takeMessage", "(LAliasStreams$Models;)Z"⟩ ∈ zWd := zmemS 61 (by decide +kernel) rfl
theorem qs62 : Cond.selects "AliasStreams$Script" ⟨"AliasStreams$Script", "changeDigit", "(II)Z"⟩ ⟨"AliasStreams$Script", "changeDigit", "(II)Z"⟩ ∈ zWd := zmemS 62 (by decide +kernel) rfl
theorem qs63 : Cond.selects "AliasStreams$Script" ⟨"AliasStreams$Script", "isIntact", "(LAliasStreams$Models;)Z"⟩ ⟨"AliasStreams$Script", "isIntact", "(LAliasStreams$Models;)Z"⟩ ∈ zWd := zmemS 63 (by decide +kernel) rfl
theorem qs64 : Cond.selects "AliasStreams$Script" ⟨"AliasStreams$Script", "takes", "(IILAliasStreams$Models;)Z"⟩ ⟨"AliasStreams$Script", "takes", "(IILAliasStreams$Models;)Z"⟩ ∈ zWd := zmemS 64 (by decide +kernel) rfl
theorem qs65 : Cond.selects "AliasStreams$Tape" ⟨"AliasStreams$Tape", "disturb", "(I)V"⟩ ⟨"AliasStreams$Tape", "disturb", "(I)V"⟩ ∈ zWd := zmemS 65 (by decide +kernel) rfl
theorem qs66 : Cond.selects "AliasStreamsModel" ⟨"AliasStreamsModel", "refused", "(I)Z"⟩ ⟨"AliasStreamsModel", "refused", "(I)Z"⟩ ∈ zWd := zmemS 66 (by decide +kernel) rfl
theorem qs67 : Cond.selects "AliasStreamsModel" ⟨"AliasStreamsModel", "readAll", "()Z"⟩ ⟨"AliasStreamsModel", "readAll", "()Z"⟩ ∈ zWd := zmemS 67 (by decide +kernel) rfl
theorem qs68 : Cond.selects "AliasStreamsModel" ⟨"AliasStreamsModel", "next", "(I)I"⟩ ⟨"AliasStreamsModel", "next", "(I)I"⟩ ∈ zWd := zmemS 68 (by decide +kernel) rfl
theorem qs69 : Cond.selects "AliasStreamsModel" ⟨"AliasStreamsModel", "accepts", "(Z)Z"⟩ ⟨"AliasStreamsModel", "accepts", "(Z)Z"⟩ ∈ zWd := zmemS 69 (by decide +kernel) rfl
theorem qs70 : Cond.selects "AliasStreamsModel" ⟨"AliasStreamsModel", "readCounts", "()Z"⟩ ⟨"AliasStreamsModel", "readCounts", "()Z"⟩ ∈ zWd := zmemS 70 (by decide +kernel) rfl
theorem qs71 : Cond.selects "AliasStreamsModel" ⟨"AliasStreamsModel", "readItems", "()Z"⟩ ⟨"AliasStreamsModel", "readItems", "()Z"⟩ ∈ zWd := zmemS 71 (by decide +kernel) rfl
theorem qs72 : Cond.selects "AliasStreamsModel" ⟨"AliasStreamsModel", "layMessage", "([I)V"⟩ ⟨"AliasStreamsModel", "layMessage", "([I)V"⟩ ∈ zWd := zmemS 72 (by decide +kernel) rfl
theorem qs73 : Cond.selects "AliasStreamsModel" ⟨"AliasStreamsModel", "layTables", "([I)V"⟩ ⟨"AliasStreamsModel", "layTables", "([I)V"⟩ ∈ zWd := zmemS 73 (by decide +kernel) rfl
theorem qs74 : Cond.selects "AliasStreamsModel" ⟨"AliasStreamsModel", "layFrequencies", "([II)V"⟩ ⟨"AliasStreamsModel", "layFrequencies", "([II)V"⟩ ∈ zWd := zmemS 74 (by decide +kernel) rfl
theorem qs75 : Cond.selects "AliasStreamsModel" ⟨"AliasStreamsModel", "laySlots", "(I)V"⟩ ⟨"AliasStreamsModel", "laySlots", "(I)V"⟩ ∈ zWd := zmemS 75 (by decide +kernel) rfl
theorem qs76 : Cond.selects "AliasStreamsModel" ⟨"AliasStreamsModel", "take", "([I)Z"⟩ ⟨"AliasStreamsModel", "take", "([I)Z"⟩ ∈ zWd := zmemS 76 (by decide +kernel) rfl
theorem qs77 : Cond.selects "AliasStreamsModel" ⟨"AliasStreamsModel", "isModel", "(I)Z"⟩ ⟨"AliasStreamsModel", "isModel", "(I)Z"⟩ ∈ zWd := zmemS 77 (by decide +kernel) rfl
theorem qs78 : Cond.selects "AliasStreamsModel" ⟨"AliasStreamsModel", "isSymbol", "(I)Z"⟩ ⟨"AliasStreamsModel", "isSymbol", "(I)Z"⟩ ∈ zWd := zmemS 78 (by decide +kernel) rfl
theorem qs79 : Cond.selects "AliasStreamsModel" ⟨"AliasStreamsModel", "isItem", "(I)Z"⟩ ⟨"AliasStreamsModel", "isItem", "(I)Z"⟩ ∈ zWd := zmemS 79 (by decide +kernel) rfl
theorem qs80 : Cond.selects "AliasStreamsModel" ⟨"AliasStreamsModel", "note", "()V"⟩ ⟨"AliasStreamsModel", "note", "()V"⟩ ∈ zWd := zmemS 80 (by decide +kernel) rfl
theorem qs81 : Cond.selects "AliasStreamsModel" ⟨"AliasStreamsModel", "isThing", "(I)Z"⟩ ⟨"AliasStreamsModel", "isThing", "(I)Z"⟩ ∈ zWd := zmemS 81 (by decide +kernel) rfl
theorem qs82 : Cond.selects "AliasStreamsModel" ⟨"AliasStreamsModel", "canEncode", "([I)Z"⟩ ⟨"AliasStreamsModel", "canEncode", "([I)Z"⟩ ∈ zWd := zmemS 82 (by decide +kernel) rfl
theorem qs83 : Cond.selects "AliasStreamsModel" ⟨"AliasStreamsModel", "unfitOf", "()I"⟩ ⟨"AliasStreamsModel", "unfitOf", "()I"⟩ ∈ zWd := zmemS 83 (by decide +kernel) rfl
theorem qs84 : Cond.selects "AliasStreamsModel" ⟨"AliasStreamsModel", "encodeTo", "([I)V"⟩ ⟨"AliasStreamsModel", "encodeTo", "([I)V"⟩ ∈ zWd := zmemS 84 (by decide +kernel) rfl
theorem qs85 : Cond.selects "AliasStreamsModel" ⟨"AliasStreamsModel", "canDecode", "([I)Z"⟩ ⟨"AliasStreamsModel", "canDecode", "([I)Z"⟩ ∈ zWd := zmemS 85 (by decide +kernel) rfl
theorem qs86 : Cond.selects "AliasStreamsModel" ⟨"AliasStreamsModel", "fails", "([I)Z"⟩ ⟨"AliasStreamsModel", "fails", "([I)Z"⟩ ∈ zWd := zmemS 86 (by decide +kernel) rfl
theorem qs87 : Cond.selects "AliasStreamsModel" ⟨"AliasStreamsModel", "itemsOf", "([I)I"⟩ ⟨"AliasStreamsModel", "itemsOf", "([I)I"⟩ ∈ zWd := zmemS 87 (by decide +kernel) rfl
theorem qs88 : Cond.selects "AliasStreamsModel" ⟨"AliasStreamsModel", "decodeTo", "([I)V"⟩ ⟨"AliasStreamsModel", "decodeTo", "([I)V"⟩ ∈ zWd := zmemS 88 (by decide +kernel) rfl
theorem qs89 : Cond.selects "AliasStreamsModel" ⟨"AliasStreamsModel", "isDigit", "(I)Z"⟩ ⟨"AliasStreamsModel", "isDigit", "(I)Z"⟩ ∈ zWd := zmemS 89 (by decide +kernel) rfl
theorem qs90 : Cond.selects "AliasStreamsModel" ⟨"AliasStreamsModel", "isPlanned", "(I)Z"⟩ ⟨"AliasStreamsModel", "isPlanned", "(I)Z"⟩ ∈ zWd := zmemS 90 (by decide +kernel) rfl
theorem qs91 : Cond.selects "AliasStreamsModel" ⟨"AliasStreamsModel", "isSequenced", "(I)Z"⟩ ⟨"AliasStreamsModel", "isSequenced", "(I)Z"⟩ ∈ zWd := zmemS 91 (by decide +kernel) rfl
theorem qs92 : Cond.selects "AliasStreamsModel" ⟨"AliasStreamsModel", "productOf", "(III)J"⟩ ⟨"AliasStreamsModel", "productOf", "(III)J"⟩ ∈ zWd := zmemS 92 (by decide +kernel) rfl
theorem qs93 : Cond.selects "AliasStreamsModel" ⟨"AliasStreamsModel", "does", "(III)Z"⟩ ⟨"AliasStreamsModel", "does", "(III)Z"⟩ ∈ zWd := zmemS 93 (by decide +kernel) rfl
end
section
/-! THE SMALL PICTURE: every cell of the system by a number k, what it holds by h k j : Int. -/
abbrev zH : Type := Nat → Nat → Int
abbrev zG : Type := va_G × (Nat → ClassId) × (Nat → Nat)
abbrev zr (x : Int) : Prop := -2147483648 ≤ x ∧ x ≤ 2147483647
abbrev zrl (x : Int) : Prop := -9223372036854775808 ≤ x ∧ x ≤ 9223372036854775807
abbrev zi (x : Int) : Value := .int (Int32.ofInt x)
abbrev zj (x : Int) : Value := .long (Int64.ofInt x)
def zs (h : zH) (k j : Nat) (v : Int) : zH := fun a b => if a = k ∧ b = j then v else h a b
def zcp (h : zH) (s sp d dp len : Nat) : zH := fun a b => if a = d ∧ dp ≤ b ∧ b < dp + len then h s (sp + (b - dp)) else h a b
/-- the kinds of the cells (a class of zCl; 12 int[], 13 boolean[], 14 Model[], 15 State[], 16 long[]) and lengths -/
def zshState : List (Nat × Nat) := [(5, 4), (12, 24), (12, 40), (8, 5), (12, 40), (12, 80), (12, 2)]
def zshModel : List (Nat × Nat) := [(1, 9), (12, 8), (12, 8), (12, 8), (12, 8), (13, 8), (12, 32), (12, 32), (12, 256), (12, 8)]
def zshTaking : List (Nat × Nat) := [(7, 8), (12, 40), (12, 40), (12, 40), (12, 40), (12, 2)]
def zshSymbols : List (Nat × Nat) := [(6, 3), (12, 40), (12, 40)]
def zshRef : List (Nat × Nat) := [(11, 32), (12, 100), (12, 193), (12, 193), (12, 193), (12, 193), (12, 2702), (12, 386), (13, 2), (12, 24), (12, 24), (12, 24), (12, 96), (12, 96), (12, 768), (12, 8), (13, 8), (12, 40), (12, 40), (12, 41), (12, 40), (12, 40), (12, 40)]
def zsh : List (Nat × Nat) :=
  [(10, 10), (9, 8), (12, 100), (12, 24), (12, 40), (2, 3), (14, 3)] ++ zshModel ++ zshModel ++ zshModel ++ zshState ++ [(0, 3), (15, 14)]
  ++ zshState ++ zshState ++ zshState ++ zshState ++ zshState ++ zshState ++ zshState ++ zshState ++ zshState ++ zshState ++ zshState ++ zshState ++ zshState ++ zshState
  ++ [(3, 2), (15, 2)] ++ zshState ++ zshState ++ [(13, 2)] ++ zshSymbols ++ zshTaking ++ zshTaking ++ [(8, 5), (12, 40), (12, 80), (12, 2)]
  ++ [(4, 3)] ++ zshState ++ zshSymbols ++ zshTaking ++ zshRef ++ [(16, 1)]
def zkd (k : Nat) : Nat := (zsh.getD k (99, 0)).1
def zln (k : Nat) : Nat := (zsh.getD k (99, 0)).2
theorem zsh_len : zsh.length = 221 := by decide +kernel
/-- an object's fields: where a reference points (so many cells on), or a number -/
def zfd (c : Nat) : List (Option Nat) := match c with
  | 0 => [some 1, none, none]
  | 1 => [some 1, some 2, some 3, some 4, some 5, some 6, some 7, some 8, some 9]
  | 2 => [some 1, none, none]
  | 3 => [some 1, some 16]
  | 4 => [some 1, some 8, some 11]
  | 5 => [some 1, some 2, some 3, none]
  | 6 => [some 1, some 2, none]
  | 7 => [some 1, some 2, some 3, some 4, some 5, none, none, none]
  | 8 => [some 1, some 2, some 3, none, none]
  | 9 => [some 1, some 2, some 3, none, none, none, none, none]
  | 10 => [some 1, some 5, some 37, some 44, some 144, some 161, some 164, some 170, some 176, some 180]
  | _ => [none, some 1, none, none, none, none, none, none, some 2, some 3, some 4, some 5, some 6, none, some 7, some 8, some 9, some 10, some 11, some 12, some 13, some 14, some 15, some 16, some 17, some 18, some 19, none, some 20, some 21, some 22, none]
def zfv (ad : Nat → Nat) (h : zH) (k : Nat) (j : Nat) (o : Option Nat) : Value := match o with
  | some d => .ref (ad (k + d))
  | none => zi (h k j)
def zfl (ad : Nat → Nat) (h : zH) (k : Nat) (os : List (Option Nat)) : List Value := os.mapIdx (zfv ad h k)
def zE (g : zG) (h : zH) (k : Nat) : va_E :=
  if zkd k < 12 then .inr (zkd k, zfl g.2.2 h k (zfd (zkd k)))
  else if zkd k = 14 then .inl (g.2.1 14, zln k, .inr (.inr (.inr (.inr (fun i => some (g.2.2 (k + 1 + 10 * i)))))))
  else if zkd k = 15 then .inl (g.2.1 15, zln k, .inr (.inr (.inr (.inr (fun i => some (g.2.2 (k + 1 + 7 * i)))))))
  else if zkd k = 16 then .inl (g.2.1 16, zln k, .inr (.inl (fun j => Int64.ofInt (h k j))))
  else .inl (g.2.1 (zkd k), zln k, .inl (fun j => Int32.ofInt (h k j)))
def zws (g : zG) (n : Nat) (h : zH) : va_W := (List.range n).map (fun k => (g.2.2 k, zE g h k))
def ztys (g : zG) : List (ClassId × FieldType) := [(g.2.1 12, .int), (g.2.1 13, .boolean), (g.2.1 14, .object "AliasStreams$Model"), (g.2.1 15, .object "AliasStreams$State"), (g.2.1 16, .long)]
/-- the numbers of cells there may be: the class's alone, or all -/
def zN (n : Nat) : Prop := n = 197 ∨ n = 221
/-- cell k is there, and of kind c -/
def zO (n k c : Nat) : Prop := zN n ∧ k < n ∧ zkd k = c
/-- every number in its range (220 is the law's long[]) -/
def zh (h : zH) : Prop := (∀ k j, k ≠ 220 → zr (h k j)) ∧ ∀ j, zrl (h 220 j)
theorem zws_at {g : zG} {n : Nat} {h : zH} {k : Nat} (hk : k < n) : (zws g n h)[k]? = some (g.2.2 k, zE g h k) := by
  simp [zws, hk]
theorem zws_set {g : zG} {n : Nat} {h h' : zH} {k : Nat} {e : va_E} (he : zE g h' k = e) (ho : ∀ a, a ≠ k → zE g h' a = zE g h a) : (zws g n h).set k (g.2.2 k, e) = zws g n h' := by
  apply List.ext_getElem?
  intro i
  subst he
  by_cases hi : i = k
  · subst hi
    by_cases hn : i < n
    · rw [List.getElem?_set_self (by simp [zws, hn]), zws_at hn]
    · rw [List.getElem?_eq_none (by simp [zws]; omega), List.getElem?_eq_none (by simp [zws]; omega)]
  · rw [List.getElem?_set_ne (fun q => hi q.symm)]
    by_cases hn : i < n
    · rw [zws_at hn, zws_at hn, ho i hi]
    · rw [List.getElem?_eq_none (by simp [zws]; omega), List.getElem?_eq_none (by simp [zws]; omega)]
theorem zE_ne {g : zG} {h : zH} {k j a : Nat} {v : Int} (ha : a ≠ k) : zE g (zs h k j v) a = zE g h a := by
  have e : ∀ b, zs h k j v a b = h a b := fun b => by simp [zs, ha]
  have e2 : zfl g.2.2 (zs h k j v) a (zfd (zkd a)) = zfl g.2.2 h a (zfd (zkd a)) := by
    unfold zfl
    congr 1
    funext i o
    unfold zfv
    cases o <;> simp [e]
  unfold zE
  simp only [e, e2]
theorem zE_neC {g : zG} {h : zH} {s sp d dp len a : Nat} (ha : a ≠ d) : zE g (zcp h s sp d dp len) a = zE g h a := by
  have e : ∀ b, zcp h s sp d dp len a b = h a b := fun b => by simp [zcp, ha]
  have e2 : zfl g.2.2 (zcp h s sp d dp len) a (zfd (zkd a)) = zfl g.2.2 h a (zfd (zkd a)) := by
    unfold zfl
    congr 1
    funext i o
    unfold zfv
    cases o <;> simp [e]
  unfold zE
  simp only [e, e2]
theorem zE_obj {g : zG} {h : zH} {k c : Nat} (hk : zkd k = c) (hc : c < 12) : zE g h k = .inr (c, zfl g.2.2 h k (zfd c)) := by
  unfold zE
  rw [hk, if_pos hc]
theorem zE_int {g : zG} {h : zH} {k : Nat} (hk : zkd k = 12) : zE g h k = .inl (g.2.1 12, zln k, .inl (fun j => Int32.ofInt (h k j))) := by
  unfold zE
  rw [hk]
  rfl
theorem zE_bool {g : zG} {h : zH} {k : Nat} (hk : zkd k = 13) : zE g h k = .inl (g.2.1 13, zln k, .inl (fun j => Int32.ofInt (h k j))) := by
  unfold zE
  rw [hk]
  rfl
theorem zE_model {g : zG} {h : zH} {k : Nat} (hk : zkd k = 14) : zE g h k = .inl (g.2.1 14, zln k, .inr (.inr (.inr (.inr (fun i => some (g.2.2 (k + 1 + 10 * i))))))) := by
  unfold zE
  rw [hk]
  rfl
theorem zE_state {g : zG} {h : zH} {k : Nat} (hk : zkd k = 15) : zE g h k = .inl (g.2.1 15, zln k, .inr (.inr (.inr (.inr (fun i => some (g.2.2 (k + 1 + 7 * i))))))) := by
  unfold zE
  rw [hk]
  rfl
theorem zE_long {g : zG} {h : zH} {k : Nat} (hk : zkd k = 16) : zE g h k = .inl (g.2.1 16, zln k, .inr (.inl (fun j => Int64.ofInt (h k j)))) := by
  unfold zE
  rw [hk]
  rfl
theorem zfl_at {ad : Nat → Nat} {h : zH} {k j : Nat} {os : List (Option Nat)} {o : Option Nat} (ho : os[j]? = some o) : (zfl ad h k os)[j]? = some (zfv ad h k j o) := by
  unfold zfl
  rw [List.getElem?_mapIdx, ho]
  rfl
theorem zfl_len {ad : Nat → Nat} {h : zH} {k : Nat} {os : List (Option Nat)} : (zfl ad h k os).length = os.length := by
  unfold zfl
  exact List.length_mapIdx
theorem zfl_set {ad : Nat → Nat} {h : zH} {k j : Nat} {os : List (Option Nat)} {v : Int} (ho : os[j]? = some none) : (zfl ad h k os).set j (zi v) = zfl ad (zs h k j v) k os := by
  apply List.ext_getElem?
  intro i
  by_cases hi : i = j
  · subst hi
    have hl := (List.getElem?_eq_some_iff.mp ho).1
    rw [List.getElem?_set_self (by rw [zfl_len]; exact hl), zfl_at ho]
    simp [zfv, zs]
  · rw [List.getElem?_set_ne (fun q => hi q.symm)]
    unfold zfl
    rw [List.getElem?_mapIdx, List.getElem?_mapIdx]
    congr 1
    funext o
    unfold zfv
    cases o <;> simp [zs, hi]
/-! numbers -/
theorem zi_int {x : Int} (h : zr x) : (Int32.ofInt x).toInt = x := Int32.toInt_ofInt_of_le (by omega) (by omega)
theorem zj_int {x : Int} (h : zrl x) : (Int64.ofInt x).toInt = x := Int64.toInt_ofInt_of_le (by omega) (by omega)
theorem zi_lt {x y : Int} (hx : zr x) (hy : zr y) : Int32.ofInt x < Int32.ofInt y ↔ x < y := by rw [Int32.lt_iff_toInt_lt, zi_int hx, zi_int hy]
theorem zi_le {x y : Int} (hx : zr x) (hy : zr y) : Int32.ofInt x ≤ Int32.ofInt y ↔ x ≤ y := by rw [Int32.le_iff_toInt_le, zi_int hx, zi_int hy]
theorem zi_eq {x y : Int} (hx : zr x) (hy : zr y) : Int32.ofInt x = Int32.ofInt y ↔ x = y := by rw [← Int32.toInt_inj, zi_int hx, zi_int hy]
theorem zj_lt {x y : Int} (hx : zrl x) (hy : zrl y) : Int64.ofInt x < Int64.ofInt y ↔ x < y := by rw [Int64.lt_iff_toInt_lt, zj_int hx, zj_int hy]
theorem zj_le {x y : Int} (hx : zrl x) (hy : zrl y) : Int64.ofInt x ≤ Int64.ofInt y ↔ x ≤ y := by rw [Int64.le_iff_toInt_le, zj_int hx, zj_int hy]
theorem zj_eq {x y : Int} (hx : zrl x) (hy : zrl y) : Int64.ofInt x = Int64.ofInt y ↔ x = y := by rw [← Int64.toInt_inj, zj_int hx, zj_int hy]
theorem zi_0 : Int32.ofInt 0 = 0 := by decide
theorem zr_0 : zr 0 := by omega
theorem zi_lt0 {x : Int} (hx : zr x) : Int32.ofInt x < 0 ↔ x < 0 := zi_lt hx zr_0
theorem zi_le0 {x : Int} (hx : zr x) : Int32.ofInt x ≤ 0 ↔ x ≤ 0 := zi_le hx zr_0
theorem zi_ge0 {x : Int} (hx : zr x) : 0 ≤ Int32.ofInt x ↔ 0 ≤ x := zi_le zr_0 hx
theorem zi_gt0 {x : Int} (hx : zr x) : 0 < Int32.ofInt x ↔ 0 < x := zi_lt zr_0 hx
theorem zi_eq0 {x : Int} (hx : zr x) : Int32.ofInt x = 0 ↔ x = 0 := zi_eq hx zr_0
theorem zi_in {x : Int} {n : Nat} (hx : zr x) (h0 : 0 ≤ x) (h1 : x < n) : vp_in (Int32.ofInt x) n := vp_in_iff.mpr (by rw [zi_int hx]; exact ⟨h0, h1⟩)
theorem zi_nat {x : Int} (hx : zr x) : (Int32.ofInt x).toNatClampNeg = x.toNat := by
  show (Int32.ofInt x).toInt.toNat = _
  rw [zi_int hx]
theorem zi_div {x y : Int} (hx : zr x) (hy : zr y) (h0 : 0 ≤ x) : Int32.ofInt x / Int32.ofInt y = Int32.ofInt (x / y) := by
  have m1 : Int32.minValue.toInt = -2147483648 := by decide
  have m2 : Int32.maxValue.toInt = 2147483647 := by decide
  rw [← Int.tdiv_eq_ediv_of_nonneg h0, Int32.ofInt_tdiv (by omega) (by omega) (by omega) (by omega)]
theorem zi_rem {x y : Int} (hx : zr x) (hy : zr y) (h0 : 0 ≤ x) : Int32.ofInt x - Int32.ofInt x / Int32.ofInt y * Int32.ofInt y = Int32.ofInt (x % y) := by
  have m1 : Int32.minValue.toInt = -2147483648 := by decide
  have m2 : Int32.maxValue.toInt = 2147483647 := by decide
  rw [irem_eq_mod, ← Int.tmod_eq_emod_of_nonneg h0, Int32.ofInt_tmod (by omega) (by omega) (by omega) (by omega)]
theorem zj_div {x y : Int} (hx : zrl x) (hy : zrl y) (h0 : 0 ≤ x) : Int64.ofInt x / Int64.ofInt y = Int64.ofInt (x / y) := by
  have m1 : Int64.minValue.toInt = -9223372036854775808 := by decide
  have m2 : Int64.maxValue.toInt = 9223372036854775807 := by decide
  rw [← Int.tdiv_eq_ediv_of_nonneg h0, Int64.ofInt_tdiv (by omega) (by omega) (by omega) (by omega)]
theorem zj_remE (x y : Int64) : x - x / y * y = x % y := by
  apply Int64.toInt_inj.mp
  have h1 := Int64.le_toInt (x % y)
  have h2 := Int64.toInt_lt (x % y)
  rw [Int64.toInt_sub, Int64.toInt_mul, Int64.toInt_div, Int.bmod_mul_bmod, Int.sub_bmod_bmod, Int.mul_comm (x.toInt.tdiv y.toInt), ← Int.tmod_def, ← Int64.toInt_mod]
  exact Int.bmod_eq_of_le_mul_two (by omega) (by omega)
theorem zj_rem {x y : Int} (hx : zrl x) (hy : zrl y) (h0 : 0 ≤ x) : Int64.ofInt x - Int64.ofInt x / Int64.ofInt y * Int64.ofInt y = Int64.ofInt (x % y) := by
  have m1 : Int64.minValue.toInt = -9223372036854775808 := by decide
  have m2 : Int64.maxValue.toInt = 9223372036854775807 := by decide
  rw [zj_remE, ← Int.tmod_eq_emod_of_nonneg h0, Int64.ofInt_tmod (by omega) (by omega) (by omega) (by omega)]
theorem zr_div {x y : Int} (hx : zr x) (h0 : 0 ≤ x) (hy : 0 < y) : zr (x / y) := by
  have a := Int.ediv_nonneg h0 (Int.le_of_lt hy)
  have b := Int.ediv_le_self y h0
  omega
theorem zr_rem {x y : Int} (hy0 : zr y) (hy : 0 < y) : zr (x % y) := by
  have a := Int.emod_nonneg x (by omega : y ≠ 0)
  have b := Int.emod_lt_of_pos x hy
  omega
theorem zrl_div {x y : Int} (hx : zrl x) (h0 : 0 ≤ x) (hy : 0 < y) : zrl (x / y) := by
  have a := Int.ediv_nonneg h0 (Int.le_of_lt hy)
  have b := Int.ediv_le_self y h0
  omega
theorem zrl_rem {x y : Int} (hy0 : zrl y) (hy : 0 < y) : zrl (x % y) := by
  have a := Int.emod_nonneg x (by omega : y ≠ 0)
  have b := Int.emod_lt_of_pos x hy
  omega
/-- what is left of a number in an int, in a long -/
def zw (x : Int) : Int := (Int32.ofInt x).toInt
def zwl (x : Int) : Int := (Int64.ofInt x).toInt
theorem zr_w (x : Int) : zr (zw x) := by
  have a := Int32.le_toInt (Int32.ofInt x)
  have b := Int32.toInt_lt (Int32.ofInt x)
  unfold zw
  omega
theorem zrl_w (x : Int) : zrl (zwl x) := by
  have a := Int64.le_toInt (Int64.ofInt x)
  have b := Int64.toInt_lt (Int64.ofInt x)
  unfold zwl
  omega
theorem zi_w (x : Int) : zi (zw x) = zi x := by
  unfold zw zi
  rw [Int32.ofInt_toInt]
theorem zj_w (x : Int) : zj (zwl x) = zj x := by
  unfold zwl zj
  rw [Int64.ofInt_toInt]
theorem zw_id {x : Int} (h : zr x) : zw x = x := zi_int h
theorem zwl_id {x : Int} (h : zrl x) : zwl x = x := zj_int h
/-- a loop: there is an invariant and a number that falls -/
def zLoop {σ : Type} (F : (σ → Prop) → σ → Prop) (s : σ) : Prop := ∃ (P : σ → Prop) (μ : σ → Nat), P s ∧ ∀ s, P s → F (fun s' => P s' ∧ μ s' < μ s) s
theorem zLoop_use {σ : Type} {F : (σ → Prop) → σ → Prop} {G : σ → Prop} (hF : ∀ (L : σ → Prop) (s : σ), (∀ s', L s' → G s') → F L s → G s) {s : σ} (h : zLoop F s) : G s := by
  obtain ⟨P, μ, hP, hstep⟩ := h
  have key : ∀ (N : Nat) (s : σ), μ s < N → P s → G s := by
    intro N
    induction N with
    | zero => intro s h; omega
    | succ N ih => intro s hN hs; exact hF _ s (fun s' hs' => ih s' (by have := hs'.2; omega) hs'.1) (hstep s hs)
  exact key _ s (Nat.lt_succ_self _) hP
theorem zh_set {h : zH} {k j : Nat} {v : Int} (hh : zh h) (hk : k ≠ 220) (hv : zr v) : zh (zs h k j v) := by
  refine ⟨fun a b ha => ?_, fun b => ?_⟩
  · unfold zs
    split
    · exact hv
    · exact hh.1 a b ha
  · unfold zs
    rw [if_neg (fun q => hk q.1.symm)]
    exact hh.2 b
theorem zh_cp {h : zH} {s sp d dp len : Nat} (hh : zh h) (hs : s ≠ 220) (hd : d ≠ 220) : zh (zcp h s sp d dp len) := by
  refine ⟨fun a b ha => ?_, fun b => ?_⟩
  · unfold zcp
    split
    · exact hh.1 _ _ hs
    · exact hh.1 a b ha
  · unfold zcp
    rw [if_neg (fun q => hd q.1.symm)]
    exact hh.2 b
theorem zO.ne {n k c : Nat} (h : zO n k c) (hc : c ≠ 16) : k ≠ 220 := by
  intro q
  subst q
  have : zkd 220 = 16 := by decide +kernel
  exact hc (h.2.2.symm.trans this)
theorem zO.lt {n k c : Nat} (h : zO n k c) : k < 221 := by
  obtain ⟨h1, h2, -⟩ := h
  unfold zN at h1
  omega
/-- from a fact about all cells of a kind, checked cell by cell: k + d is there, of kind c', with length len -/
theorem zO.go {n k c d c' : Nat} (h : zO n k c) (hd : (List.range 221).all (fun k => !(zkd k == c) || ((zkd (k + d) == c') && (decide (k + d < 197) || (decide (197 ≤ k) && decide (k + d < 221))))) = true) : zO n (k + d) c' := by
  have hl := h.lt
  obtain ⟨h1, h2, h3⟩ := h
  have := List.all_eq_true.mp hd k (List.mem_range.mpr hl)
  simp only [Bool.or_eq_true, Bool.and_eq_true, Bool.not_eq_true', beq_eq_false_iff_ne, ne_eq, beq_iff_eq, decide_eq_true_eq] at this
  rcases this with q | ⟨q1, q2⟩
  · exact absurd h3 q
  · refine ⟨h1, ?_, q1⟩
    unfold zN at h1
    omega
theorem zO.len {n k c d len : Nat} (h : zO n k c) (hd : (List.range 221).all (fun k => !(zkd k == c) || (zln (k + d) == len)) = true) : zln (k + d) = len := by
  have hl := h.lt
  obtain ⟨h1, h2, h3⟩ := h
  have := List.all_eq_true.mp hd k (List.mem_range.mpr hl)
  simp only [Bool.or_eq_true, Bool.not_eq_true', beq_eq_false_iff_ne, ne_eq, beq_iff_eq] at this
  rcases this with q | q
  · exact absurd h3 q
  · exact q
end
section
/-! ONE ROW AN INSTRUCTION, over the small picture -/
def zA (g : zG) (n sz : Nat) : Nat → Prop := fun q => (∃ k, k < n ∧ q = g.2.2 k) ∨ sz ≤ q
/-- the heap H holds the picture h; since H0 nothing else has changed -/
def zQ (g : zG) (n : Nat) (h : zH) (H0 H : Heap) (locs : List Loc) : Prop := va_P g.1 zCl (zws g n h) H ∧ va_D (zA g n H0.size) (zws g n h) ∧ va_S (zA g n H0.size) H0 H locs
/-- what there was at the law's start is there still, and the cells of the picture are newer -/
def zOld (g : zG) (U : State) : Prop := ∃ (s0 : State) (a0 : Array Value), (∀ w ∈ lw_tbl, w.before a0 s0 = true) ∧ (Jvm.Cond.and given_1 narrow_1).before a0 s0 = true ∧ s0.WarmedH U.vm ∧ s0.heap.size ≤ U.heap.size ∧ (∀ q : Nat, q < s0.heap.size → U.heap[q]? = s0.heap[q]?) ∧ ∀ k : Nat, s0.heap.size ≤ g.2.2 k
theorem zOld.move {g : zG} {n : Nat} {s U : State} {H : Heap} {locs : List Loc} (h : zOld g s) (hS : va_S (zA g n s.heap.size) s.heap H locs) (hU : U.heap = H) (hW : s.WarmedH U.vm) : zOld g U := by
  obtain ⟨s0, a0, h1, h2, h3, h4, h5, h6⟩ := h
  refine ⟨s0, a0, h1, h2, State.WarmedH.trans h3 hW, by rw [hU]; exact Nat.le_trans h4 hS.1, fun q hq => ?_, h6⟩
  rw [hU, hS.2.1 q (Nat.lt_of_lt_of_le hq h4) (fun z => ?_)]
  · exact h5 q hq
  · rcases z with ⟨k, -, e⟩ | z
    · have := h6 k
      omega
    · omega
/-- the world at a method's start or end -/
def zU (g : zG) (n : Nat) (h : zH) (U : State) : Prop := va_P g.1 zCl (zws g n h) U.heap ∧ va_K g.1 zCl (ztys g) U ∧ (∀ w ∈ zNs, va_Nw w U) ∧ va_D (fun _ => True) (zws g n h) ∧ zOld g U
/-- where a method runs: Wf is the machine's 'comes to its end' -/
def zX (Wf : Heap → List Loc → JFrame → Prop) (m : MethodId) (R : Room) (cc : ByteArray) (own : String) (nL : Nat) (g : zG) (n : Nat) (H0 : Heap) : Prop :=
  ∃ (p : Program) (l : Launch) (e : Env) (s : State) (args : Array Value) (below : List Frame) (meth : Method) (c : Code) (cells slots : Nat) (Q : State → Prop),
    (l.flags = flags0) ∧ s.heap = H0 ∧ Wf = (fun H locs gg => W p l e R s m args below meth c H locs cells slots Q gg) ∧ p.tables.exec = Jvm.exec ∧ c.code = cc ∧ c.maxLocals = nL ∧ s.vm.findClass own = some m.cls ∧ (∀ w ∈ zWd, w.before args s = true) ∧ (∀ w ∈ zNs, va_Nw w s) ∧ va_K g.1 zCl (ztys g) s ∧ cells ≤ R.cells ∧ slots ≤ R.slots ∧ zOld g s
def zW (Wf : Heap → List Loc → JFrame → Prop) (m : MethodId) (nL : Nat) (g : zG) (n : Nat) (H0 : Heap) (pc : Nat) (lv : List (Nat × Value)) (st : List Value) (h : zH) : Prop :=
  ∀ (H : Heap) (locs : List Loc) (ls : Array Slot), zQ g n h H0 H locs → lv_has ls nL lv → Wf H locs (F0 m pc ls st)
section ZR
variable {Wf : Heap → List Loc → JFrame → Prop} {m : MethodId} {R : Room} {cc : ByteArray} {own : String} {nL : Nat} {g : zG} {n : Nat} {H0 : Heap} {pc : Nat} {lv lv' : List (Nat × Value)} {rest : List Value} {h : zH}
theorem z_perm (ks : List Nat) (hl : lv_pick lv ks = lv') (k : zW Wf m nL g n H0 pc lv' rest h) : zW Wf m nL g n H0 pc lv rest h := fun H locs ls hq hv => k H locs ls hq (lv_sub hv ks hl)
theorem z_iconst (X : zX Wf m R cc own nL g n H0) {x : Int} (d : decode cc pc = .ok (.iconst x, 1)) (k : zW Wf m nL g n H0 (pc + 1) lv (zi x :: rest) h) : zW Wf m nL g n H0 pc lv rest h := by
  obtain ⟨p, l, e, s, args, below, meth, c, cells, slots, Q, hfl, rfl, rfl, hx, hb, -⟩ := X
  exact fun H locs ls hq hv => lv_iconst hx hb d rfl (k H locs ls hq hv)
theorem z_bipush (X : zX Wf m R cc own nL g n H0) {x : Int} (d : decode cc pc = .ok (.bipush x, 2)) (hx0 : (Int8.ofInt x).toInt32 = Int32.ofInt x) (k : zW Wf m nL g n H0 (pc + 2) lv (zi x :: rest) h) : zW Wf m nL g n H0 pc lv rest h := by
  obtain ⟨p, l, e, s, args, below, meth, c, cells, slots, Q, hfl, rfl, rfl, hx, hb, -⟩ := X
  exact fun H locs ls hq hv => lv_bipush hx hb d hx0 (k H locs ls hq hv)
theorem z_sipush (X : zX Wf m R cc own nL g n H0) {x : Int} (d : decode cc pc = .ok (.sipush x, 3)) (hx0 : (Int16.ofInt x).toInt32 = Int32.ofInt x) (k : zW Wf m nL g n H0 (pc + 3) lv (zi x :: rest) h) : zW Wf m nL g n H0 pc lv rest h := by
  obtain ⟨p, l, e, s, args, below, meth, c, cells, slots, Q, hfl, rfl, rfl, hx, hb, -⟩ := X
  exact fun H locs ls hq hv => lv_sipush hx hb d hx0 (k H locs ls hq hv)
theorem z_lconst (X : zX Wf m R cc own nL g n H0) {q : Fin 2} {x : Int} (d : decode cc pc = .ok (.lconst q, 1)) (hx0 : Int64.ofNat (q : Nat) = Int64.ofInt x) (k : zW Wf m nL g n H0 (pc + 1) lv (zj x :: rest) h) : zW Wf m nL g n H0 pc lv rest h := by
  obtain ⟨p, l, e, s, args, below, meth, c, cells, slots, Q, hfl, rfl, rfl, hx, hb, -⟩ := X
  exact fun H locs ls hq hv => lv_lconst hx hb d hx0 (k H locs ls hq hv)
theorem z_ldc2 (X : zX Wf m R cc own nL g n H0) {i : Nat} {v : Int64} {x : Int} (d : decode cc pc = .ok (.ldc2_w i, 3)) (w : Cond.constantLong own i v ∈ zWd) (hx0 : v = Int64.ofInt x) (k : zW Wf m nL g n H0 (pc + 3) lv (zj x :: rest) h) : zW Wf m nL g n H0 pc lv rest h := by
  obtain ⟨p, l, e, s, args, below, meth, c, cells, slots, Q, hfl, rfl, rfl, hx, hb, hml, ho, hts, -⟩ := X
  subst hx0
  exact fun H locs ls hq hv => lv_ldc2 hx hb ho (hts _ w) d (k H locs ls hq hv)
theorem z_iload_n (X : zX Wf m R cc own nL g n H0) {i : Fin 4} {q : Nat} {x : Int} (d : decode cc pc = .ok (.iload_n i, 1)) (hq0 : lv[q]? = some ((i : Nat), zi x)) (k : zW Wf m nL g n H0 (pc + 1) lv (zi x :: rest) h) : zW Wf m nL g n H0 pc lv rest h := by
  obtain ⟨p, l, e, s, args, below, meth, c, cells, slots, Q, hfl, rfl, rfl, hx, hb, -⟩ := X
  exact fun H locs ls hq hv => lv_iload_n hx hb d rfl (lv_at hv q hq0) (k H locs ls hq hv)
theorem z_iload (X : zX Wf m R cc own nL g n H0) {i q : Nat} {x : Int} (d : decode cc pc = .ok (.iload i, 2)) (hq0 : lv[q]? = some (i, zi x)) (k : zW Wf m nL g n H0 (pc + 2) lv (zi x :: rest) h) : zW Wf m nL g n H0 pc lv rest h := by
  obtain ⟨p, l, e, s, args, below, meth, c, cells, slots, Q, hfl, rfl, rfl, hx, hb, -⟩ := X
  exact fun H locs ls hq hv => lv_iload hx hb d (lv_at hv q hq0) (k H locs ls hq hv)
theorem z_lload_n (X : zX Wf m R cc own nL g n H0) {i : Fin 4} {q : Nat} {x : Int} (d : decode cc pc = .ok (.lload_n i, 1)) (hq0 : lv[q]? = some ((i : Nat), zj x)) (k : zW Wf m nL g n H0 (pc + 1) lv (zj x :: rest) h) : zW Wf m nL g n H0 pc lv rest h := by
  obtain ⟨p, l, e, s, args, below, meth, c, cells, slots, Q, hfl, rfl, rfl, hx, hb, -⟩ := X
  exact fun H locs ls hq hv => lv_lload_n hx hb d rfl (lv_at hv q hq0) (k H locs ls hq hv)
theorem z_lload (X : zX Wf m R cc own nL g n H0) {i q : Nat} {x : Int} (d : decode cc pc = .ok (.lload i, 2)) (hq0 : lv[q]? = some (i, zj x)) (k : zW Wf m nL g n H0 (pc + 2) lv (zj x :: rest) h) : zW Wf m nL g n H0 pc lv rest h := by
  obtain ⟨p, l, e, s, args, below, meth, c, cells, slots, Q, hfl, rfl, rfl, hx, hb, -⟩ := X
  exact fun H locs ls hq hv => lv_lload hx hb d (lv_at hv q hq0) (k H locs ls hq hv)
theorem z_aload_n (X : zX Wf m R cc own nL g n H0) {i : Fin 4} {q : Nat} {a : Nat} (d : decode cc pc = .ok (.aload_n i, 1)) (hq0 : lv[q]? = some ((i : Nat), .ref a)) (k : zW Wf m nL g n H0 (pc + 1) lv (.ref a :: rest) h) : zW Wf m nL g n H0 pc lv rest h := by
  obtain ⟨p, l, e, s, args, below, meth, c, cells, slots, Q, hfl, rfl, rfl, hx, hb, -⟩ := X
  exact fun H locs ls hq hv => lv_aload_n hx hb d rfl (lv_at hv q hq0) (k H locs ls hq hv)
theorem z_aload (X : zX Wf m R cc own nL g n H0) {i q : Nat} {a : Nat} (d : decode cc pc = .ok (.aload i, 2)) (hq0 : lv[q]? = some (i, .ref a)) (k : zW Wf m nL g n H0 (pc + 2) lv (.ref a :: rest) h) : zW Wf m nL g n H0 pc lv rest h := by
  obtain ⟨p, l, e, s, args, below, meth, c, cells, slots, Q, hfl, rfl, rfl, hx, hb, -⟩ := X
  exact fun H locs ls hq hv => lv_aload hx hb d (lv_at hv q hq0) (k H locs ls hq hv)
theorem z_istore_n (X : zX Wf m R cc own nL g n H0) {i : Fin 4} {x : Int} (d : decode cc pc = .ok (.istore_n i, 1)) (hn : (i : Nat) < nL) (hl : ((i : Nat), zi x) :: lv.filter (fun q => !(q.1 == (i : Nat)) && !(q.1 + 1 == (i : Nat) && q.2.category == 2)) = lv') (k : zW Wf m nL g n H0 (pc + 1) lv' rest h) : zW Wf m nL g n H0 pc lv (zi x :: rest) h := by
  obtain ⟨p, l, e, s, args, below, meth, c, cells, slots, Q, hfl, rfl, rfl, hx, hb, -⟩ := X
  exact fun H locs ls hq hv => lv_istore_n hx hb d rfl hv hn hl (fun ls' hv' => k H locs ls' hq hv')
theorem z_istore (X : zX Wf m R cc own nL g n H0) {i : Nat} {x : Int} (d : decode cc pc = .ok (.istore i, 2)) (hn : i < nL) (hl : (i, zi x) :: lv.filter (fun q => !(q.1 == i) && !(q.1 + 1 == i && q.2.category == 2)) = lv') (k : zW Wf m nL g n H0 (pc + 2) lv' rest h) : zW Wf m nL g n H0 pc lv (zi x :: rest) h := by
  obtain ⟨p, l, e, s, args, below, meth, c, cells, slots, Q, hfl, rfl, rfl, hx, hb, -⟩ := X
  exact fun H locs ls hq hv => lv_istore hx hb d hv hn hl (fun ls' hv' => k H locs ls' hq hv')
theorem z_lstore_n (X : zX Wf m R cc own nL g n H0) {i : Fin 4} {x : Int} (d : decode cc pc = .ok (.lstore_n i, 1)) (hn : (i : Nat) + 1 < nL) (hl : ((i : Nat), zj x) :: lv.filter (fun q => !(q.1 == (i : Nat)) && (!(q.1 == (i : Nat) + 1) && !(q.1 + 1 == (i : Nat) && q.2.category == 2))) = lv') (k : zW Wf m nL g n H0 (pc + 1) lv' rest h) : zW Wf m nL g n H0 pc lv (zj x :: rest) h := by
  obtain ⟨p, l, e, s, args, below, meth, c, cells, slots, Q, hfl, rfl, rfl, hx, hb, -⟩ := X
  exact fun H locs ls hq hv => lv_lstore_n hx hb d rfl hv hn hl (fun ls' hv' => k H locs ls' hq hv')
theorem z_lstore (X : zX Wf m R cc own nL g n H0) {i : Nat} {x : Int} (d : decode cc pc = .ok (.lstore i, 2)) (hn : i + 1 < nL) (hl : (i, zj x) :: lv.filter (fun q => !(q.1 == i) && (!(q.1 == i + 1) && !(q.1 + 1 == i && q.2.category == 2))) = lv') (k : zW Wf m nL g n H0 (pc + 2) lv' rest h) : zW Wf m nL g n H0 pc lv (zj x :: rest) h := by
  obtain ⟨p, l, e, s, args, below, meth, c, cells, slots, Q, hfl, rfl, rfl, hx, hb, -⟩ := X
  exact fun H locs ls hq hv => lv_lstore hx hb d hv hn hl (fun ls' hv' => k H locs ls' hq hv')
theorem z_astore_n (X : zX Wf m R cc own nL g n H0) {i : Fin 4} {a : Nat} (d : decode cc pc = .ok (.astore_n i, 1)) (hn : (i : Nat) < nL) (hl : ((i : Nat), Value.ref a) :: lv.filter (fun q => !(q.1 == (i : Nat)) && !(q.1 + 1 == (i : Nat) && q.2.category == 2)) = lv') (k : zW Wf m nL g n H0 (pc + 1) lv' rest h) : zW Wf m nL g n H0 pc lv (.ref a :: rest) h := by
  obtain ⟨p, l, e, s, args, below, meth, c, cells, slots, Q, hfl, rfl, rfl, hx, hb, -⟩ := X
  exact fun H locs ls hq hv => lv_astore_n hx hb d rfl hv hn hl (fun ls' hv' => k H locs ls' hq hv')
theorem z_astore (X : zX Wf m R cc own nL g n H0) {i : Nat} {a : Nat} (d : decode cc pc = .ok (.astore i, 2)) (hn : i < nL) (hl : (i, Value.ref a) :: lv.filter (fun q => !(q.1 == i) && !(q.1 + 1 == i && q.2.category == 2)) = lv') (k : zW Wf m nL g n H0 (pc + 2) lv' rest h) : zW Wf m nL g n H0 pc lv (.ref a :: rest) h := by
  obtain ⟨p, l, e, s, args, below, meth, c, cells, slots, Q, hfl, rfl, rfl, hx, hb, -⟩ := X
  exact fun H locs ls hq hv => lv_astore hx hb d hv hn hl (fun ls' hv' => k H locs ls' hq hv')
theorem z_iinc (X : zX Wf m R cc own nL g n H0) {i q : Nat} {a x : Int} (d : decode cc pc = .ok (.iinc i a, 3)) (hq0 : lv[q]? = some (i, zi x)) (hn : i < nL) (hl : (i, zi (x + a)) :: lv.filter (fun q => !(q.1 == i) && !(q.1 + 1 == i && q.2.category == 2)) = lv') (k : zW Wf m nL g n H0 (pc + 3) lv' rest h) : zW Wf m nL g n H0 pc lv rest h := by
  obtain ⟨p, l, e, s, args, below, meth, c, cells, slots, Q, hfl, rfl, rfl, hx, hb, -⟩ := X
  exact fun H locs ls hq hv => lv_iinc hx hb d hv hq0 (Int32.ofInt_add x a).symm hn hl (fun ls' hv' => k H locs ls' hq hv')
theorem z_iadd (X : zX Wf m R cc own nL g n H0) {x y : Int} (d : decode cc pc = .ok (.iadd, 1)) (k : zW Wf m nL g n H0 (pc + 1) lv (zi (x + y) :: rest) h) : zW Wf m nL g n H0 pc lv (zi y :: zi x :: rest) h := by
  obtain ⟨p, l, e, s, args, below, meth, c, cells, slots, Q, hfl, rfl, rfl, hx, hb, -⟩ := X
  exact fun H locs ls hq hv => lv_iadd hx hb d (by rw [← Int32.ofInt_add]; exact k H locs ls hq hv)
theorem z_isub (X : zX Wf m R cc own nL g n H0) {x y : Int} (d : decode cc pc = .ok (.isub, 1)) (k : zW Wf m nL g n H0 (pc + 1) lv (zi (x - y) :: rest) h) : zW Wf m nL g n H0 pc lv (zi y :: zi x :: rest) h := by
  obtain ⟨p, l, e, s, args, below, meth, c, cells, slots, Q, hfl, rfl, rfl, hx, hb, -⟩ := X
  exact fun H locs ls hq hv => lv_isub hx hb d (by rw [← Int32.ofInt_sub]; exact k H locs ls hq hv)
theorem z_imul (X : zX Wf m R cc own nL g n H0) {x y : Int} (d : decode cc pc = .ok (.imul, 1)) (k : zW Wf m nL g n H0 (pc + 1) lv (zi (x * y) :: rest) h) : zW Wf m nL g n H0 pc lv (zi y :: zi x :: rest) h := by
  obtain ⟨p, l, e, s, args, below, meth, c, cells, slots, Q, hfl, rfl, rfl, hx, hb, -⟩ := X
  exact fun H locs ls hq hv => lv_imul hx hb d (by rw [← Int32.ofInt_mul]; exact k H locs ls hq hv)
theorem z_ladd (X : zX Wf m R cc own nL g n H0) {x y : Int} (d : decode cc pc = .ok (.ladd, 1)) (k : zW Wf m nL g n H0 (pc + 1) lv (zj (x + y) :: rest) h) : zW Wf m nL g n H0 pc lv (zj y :: zj x :: rest) h := by
  obtain ⟨p, l, e, s, args, below, meth, c, cells, slots, Q, hfl, rfl, rfl, hx, hb, -⟩ := X
  exact fun H locs ls hq hv => lv_ladd hx hb d (by rw [← Int64.ofInt_add]; exact k H locs ls hq hv)
theorem z_lsub (X : zX Wf m R cc own nL g n H0) {x y : Int} (d : decode cc pc = .ok (.lsub, 1)) (k : zW Wf m nL g n H0 (pc + 1) lv (zj (x - y) :: rest) h) : zW Wf m nL g n H0 pc lv (zj y :: zj x :: rest) h := by
  obtain ⟨p, l, e, s, args, below, meth, c, cells, slots, Q, hfl, rfl, rfl, hx, hb, -⟩ := X
  exact fun H locs ls hq hv => lv_lsub hx hb d (by rw [← Int64.ofInt_sub]; exact k H locs ls hq hv)
theorem z_lmul (X : zX Wf m R cc own nL g n H0) {x y : Int} (d : decode cc pc = .ok (.lmul, 1)) (k : zW Wf m nL g n H0 (pc + 1) lv (zj (x * y) :: rest) h) : zW Wf m nL g n H0 pc lv (zj y :: zj x :: rest) h := by
  obtain ⟨p, l, e, s, args, below, meth, c, cells, slots, Q, hfl, rfl, rfl, hx, hb, -⟩ := X
  exact fun H locs ls hq hv => lv_lmul hx hb d (by rw [← Int64.ofInt_mul]; exact k H locs ls hq hv)
theorem z_idiv (X : zX Wf m R cc own nL g n H0) {x y : Int} (hx1 : zr x) (hy1 : zr y) (hx0 : 0 ≤ x) (hy0 : 0 < y) (d : decode cc pc = .ok (.idiv, 1)) (k : zW Wf m nL g n H0 (pc + 1) lv (zi (x / y) :: rest) h) : zW Wf m nL g n H0 pc lv (zi y :: zi x :: rest) h := by
  obtain ⟨p, l, e, s, args, below, meth, c, cells, slots, Q, hfl, rfl, rfl, hx, hb, -⟩ := X
  exact fun H locs ls hq hv => lv_idiv hx hb d (fun q => by have := (zi_eq0 hy1).mp q; omega) (by rw [zi_div hx1 hy1 hx0]; exact k H locs ls hq hv)
theorem z_irem (X : zX Wf m R cc own nL g n H0) {x y : Int} (hx1 : zr x) (hy1 : zr y) (hx0 : 0 ≤ x) (hy0 : 0 < y) (d : decode cc pc = .ok (.irem, 1)) (k : zW Wf m nL g n H0 (pc + 1) lv (zi (x % y) :: rest) h) : zW Wf m nL g n H0 pc lv (zi y :: zi x :: rest) h := by
  obtain ⟨p, l, e, s, args, below, meth, c, cells, slots, Q, hfl, rfl, rfl, hx, hb, -⟩ := X
  exact fun H locs ls hq hv => lv_irem hx hb d (fun q => by have := (zi_eq0 hy1).mp q; omega) (by rw [zi_rem hx1 hy1 hx0]; exact k H locs ls hq hv)
theorem z_ldiv (X : zX Wf m R cc own nL g n H0) {x y : Int} (hx1 : zrl x) (hy1 : zrl y) (hx0 : 0 ≤ x) (hy0 : 0 < y) (d : decode cc pc = .ok (.ldiv, 1)) (k : zW Wf m nL g n H0 (pc + 1) lv (zj (x / y) :: rest) h) : zW Wf m nL g n H0 pc lv (zj y :: zj x :: rest) h := by
  obtain ⟨p, l, e, s, args, below, meth, c, cells, slots, Q, hfl, rfl, rfl, hx, hb, -⟩ := X
  exact fun H locs ls hq hv => lv_ldiv hx hb d (fun q => by have := (zj_eq hy1 (by omega : zrl 0)).mp q; omega) (by rw [zj_div hx1 hy1 hx0]; exact k H locs ls hq hv)
theorem z_lrem (X : zX Wf m R cc own nL g n H0) {x y : Int} (hx1 : zrl x) (hy1 : zrl y) (hx0 : 0 ≤ x) (hy0 : 0 < y) (d : decode cc pc = .ok (.lrem, 1)) (k : zW Wf m nL g n H0 (pc + 1) lv (zj (x % y) :: rest) h) : zW Wf m nL g n H0 pc lv (zj y :: zj x :: rest) h := by
  obtain ⟨p, l, e, s, args, below, meth, c, cells, slots, Q, hfl, rfl, rfl, hx, hb, -⟩ := X
  exact fun H locs ls hq hv => lv_lrem hx hb d (fun q => by have := (zj_eq hy1 (by omega : zrl 0)).mp q; omega) (by rw [zj_rem hx1 hy1 hx0]; exact k H locs ls hq hv)
theorem z_i2l (X : zX Wf m R cc own nL g n H0) {x : Int} (hx1 : zr x) (d : decode cc pc = .ok (.i2l, 1)) (k : zW Wf m nL g n H0 (pc + 1) lv (zj x :: rest) h) : zW Wf m nL g n H0 pc lv (zi x :: rest) h := by
  obtain ⟨p, l, e, s, args, below, meth, c, cells, slots, Q, hfl, rfl, rfl, hx, hb, -⟩ := X
  exact fun H locs ls hq hv => lv_i2l hx hb d (Int64.toInt_inj.mp (by rw [Int32.toInt_toInt64, zi_int hx1, zj_int (by omega)])) (k H locs ls hq hv)
theorem z_l2i (X : zX Wf m R cc own nL g n H0) {x : Int} (hx1 : zrl x) (d : decode cc pc = .ok (.l2i, 1)) (k : zW Wf m nL g n H0 (pc + 1) lv (zi (zw x) :: rest) h) : zW Wf m nL g n H0 pc lv (zj x :: rest) h := by
  obtain ⟨p, l, e, s, args, below, meth, c, cells, slots, Q, hfl, rfl, rfl, hx, hb, -⟩ := X
  refine fun H locs ls hq hv => lv_l2i hx hb d ?_ (k H locs ls hq hv)
  apply Int32.toInt_inj.mp
  rw [Int64.toInt_toInt32, zj_int hx1, zi_int (zr_w x)]
  unfold zw
  rw [Int32.toInt_ofInt]
theorem z_dup (X : zX Wf m R cc own nL g n H0) {va : Value} (d : decode cc pc = .ok (.dup, 1)) (hva : va.category = 1) (k : zW Wf m nL g n H0 (pc + 1) lv (va :: va :: rest) h) : zW Wf m nL g n H0 pc lv (va :: rest) h := by
  obtain ⟨p, l, e, s, args, below, meth, c, cells, slots, Q, hfl, rfl, rfl, hx, hb, -⟩ := X
  exact fun H locs ls hq hv => lv_dup hx hb d hva (k H locs ls hq hv)
theorem z_pop (X : zX Wf m R cc own nL g n H0) {va : Value} (d : decode cc pc = .ok (.pop, 1)) (hva : va.category = 1) (k : zW Wf m nL g n H0 (pc + 1) lv rest h) : zW Wf m nL g n H0 pc lv (va :: rest) h := by
  obtain ⟨p, l, e, s, args, below, meth, c, cells, slots, Q, hfl, rfl, rfl, hx, hb, -⟩ := X
  exact fun H locs ls hq hv => lv_pop hx hb d hva (k H locs ls hq hv)
theorem z_dup2 (X : zX Wf m R cc own nL g n H0) {va vb : Value} (d : decode cc pc = .ok (.dup2, 1)) (hva : va.category = 1) (hvb : vb.category = 1) (k : zW Wf m nL g n H0 (pc + 1) lv (va :: vb :: va :: vb :: rest) h) : zW Wf m nL g n H0 pc lv (va :: vb :: rest) h := by
  obtain ⟨p, l, e, s, args, below, meth, c, cells, slots, Q, hfl, rfl, rfl, hx, hb, -⟩ := X
  exact fun H locs ls hq hv => lv_dup2_11 hx hb d hva hvb (k H locs ls hq hv)
theorem z_goto (X : zX Wf m R cc own nL g n H0) {off : Int} {tgt : Nat} (d : decode cc pc = .ok (.goto off, 3)) (ht : (pc : Int) + off = (tgt : Int)) (k : zW Wf m nL g n H0 tgt lv rest h) : zW Wf m nL g n H0 pc lv rest h := by
  obtain ⟨p, l, e, s, args, below, meth, c, cells, slots, Q, hfl, rfl, rfl, hx, hb, -⟩ := X
  exact fun H locs ls hq hv => lv_goto hx hb d ht (k H locs ls hq hv)
theorem z_if_eq (X : zX Wf m R cc own nL g n H0) {x off : Int} {tgt : Nat} (hx1 : zr x) (d : decode cc pc = .ok (.ifCond .eq off, 3)) (ht : (pc : Int) + off = (tgt : Int)) (kt : x = 0 → zW Wf m nL g n H0 tgt lv rest h) (kf : x ≠ 0 → zW Wf m nL g n H0 (pc + 3) lv rest h) : zW Wf m nL g n H0 pc lv (zi x :: rest) h := by
  obtain ⟨p, l, e, s, args, below, meth, c, cells, slots, Q, hfl, rfl, rfl, hx, hb, -⟩ := X
  exact fun H locs ls hq hv => lv_if_eq hx hb d ht (fun q => kt ((zi_eq0 hx1).mp q) H locs ls hq hv) (fun q => kf (fun z => q ((zi_eq0 hx1).mpr z)) H locs ls hq hv)
theorem z_if_ne (X : zX Wf m R cc own nL g n H0) {x off : Int} {tgt : Nat} (hx1 : zr x) (d : decode cc pc = .ok (.ifCond .ne off, 3)) (ht : (pc : Int) + off = (tgt : Int)) (kt : x ≠ 0 → zW Wf m nL g n H0 tgt lv rest h) (kf : x = 0 → zW Wf m nL g n H0 (pc + 3) lv rest h) : zW Wf m nL g n H0 pc lv (zi x :: rest) h := by
  obtain ⟨p, l, e, s, args, below, meth, c, cells, slots, Q, hfl, rfl, rfl, hx, hb, -⟩ := X
  exact fun H locs ls hq hv => lv_if_ne hx hb d ht (fun q => kt (fun z => q ((zi_eq0 hx1).mpr z)) H locs ls hq hv) (fun q => kf ((zi_eq0 hx1).mp q) H locs ls hq hv)
theorem z_if_lt (X : zX Wf m R cc own nL g n H0) {x off : Int} {tgt : Nat} (hx1 : zr x) (d : decode cc pc = .ok (.ifCond .lt off, 3)) (ht : (pc : Int) + off = (tgt : Int)) (kt : x < 0 → zW Wf m nL g n H0 tgt lv rest h) (kf : 0 ≤ x → zW Wf m nL g n H0 (pc + 3) lv rest h) : zW Wf m nL g n H0 pc lv (zi x :: rest) h := by
  obtain ⟨p, l, e, s, args, below, meth, c, cells, slots, Q, hfl, rfl, rfl, hx, hb, -⟩ := X
  exact fun H locs ls hq hv => lv_if_lt hx hb d ht (fun q => kt ((zi_lt0 hx1).mp q) H locs ls hq hv) (fun q => kf (Int.not_lt.mp fun z => q ((zi_lt0 hx1).mpr z)) H locs ls hq hv)
theorem z_if_ge (X : zX Wf m R cc own nL g n H0) {x off : Int} {tgt : Nat} (hx1 : zr x) (d : decode cc pc = .ok (.ifCond .ge off, 3)) (ht : (pc : Int) + off = (tgt : Int)) (kt : 0 ≤ x → zW Wf m nL g n H0 tgt lv rest h) (kf : x < 0 → zW Wf m nL g n H0 (pc + 3) lv rest h) : zW Wf m nL g n H0 pc lv (zi x :: rest) h := by
  obtain ⟨p, l, e, s, args, below, meth, c, cells, slots, Q, hfl, rfl, rfl, hx, hb, -⟩ := X
  exact fun H locs ls hq hv => lv_if_ge hx hb d ht (fun q => kt ((zi_ge0 hx1).mp q) H locs ls hq hv) (fun q => kf (Int.not_le.mp fun z => q ((zi_ge0 hx1).mpr z)) H locs ls hq hv)
theorem z_if_gt (X : zX Wf m R cc own nL g n H0) {x off : Int} {tgt : Nat} (hx1 : zr x) (d : decode cc pc = .ok (.ifCond .gt off, 3)) (ht : (pc : Int) + off = (tgt : Int)) (kt : 0 < x → zW Wf m nL g n H0 tgt lv rest h) (kf : x ≤ 0 → zW Wf m nL g n H0 (pc + 3) lv rest h) : zW Wf m nL g n H0 pc lv (zi x :: rest) h := by
  obtain ⟨p, l, e, s, args, below, meth, c, cells, slots, Q, hfl, rfl, rfl, hx, hb, -⟩ := X
  exact fun H locs ls hq hv => lv_if_gt hx hb d ht (fun q => kt ((zi_gt0 hx1).mp q) H locs ls hq hv) (fun q => kf (Int.not_lt.mp fun z => q ((zi_gt0 hx1).mpr z)) H locs ls hq hv)
theorem z_if_le (X : zX Wf m R cc own nL g n H0) {x off : Int} {tgt : Nat} (hx1 : zr x) (d : decode cc pc = .ok (.ifCond .le off, 3)) (ht : (pc : Int) + off = (tgt : Int)) (kt : x ≤ 0 → zW Wf m nL g n H0 tgt lv rest h) (kf : 0 < x → zW Wf m nL g n H0 (pc + 3) lv rest h) : zW Wf m nL g n H0 pc lv (zi x :: rest) h := by
  obtain ⟨p, l, e, s, args, below, meth, c, cells, slots, Q, hfl, rfl, rfl, hx, hb, -⟩ := X
  exact fun H locs ls hq hv => lv_if_le hx hb d ht (fun q => kt ((zi_le0 hx1).mp q) H locs ls hq hv) (fun q => kf (Int.not_le.mp fun z => q ((zi_le0 hx1).mpr z)) H locs ls hq hv)
theorem z_icmp_eq (X : zX Wf m R cc own nL g n H0) {x y off : Int} {tgt : Nat} (hx1 : zr x) (hy1 : zr y) (d : decode cc pc = .ok (.if_icmp .eq off, 3)) (ht : (pc : Int) + off = (tgt : Int)) (kt : x = y → zW Wf m nL g n H0 tgt lv rest h) (kf : x ≠ y → zW Wf m nL g n H0 (pc + 3) lv rest h) : zW Wf m nL g n H0 pc lv (zi y :: zi x :: rest) h := by
  obtain ⟨p, l, e, s, args, below, meth, c, cells, slots, Q, hfl, rfl, rfl, hx, hb, -⟩ := X
  exact fun H locs ls hq hv => lv_icmp_eq hx hb d ht (fun q => kt ((zi_eq hx1 hy1).mp q) H locs ls hq hv) (fun q => kf (fun z => q ((zi_eq hx1 hy1).mpr z)) H locs ls hq hv)
theorem z_icmp_ne (X : zX Wf m R cc own nL g n H0) {x y off : Int} {tgt : Nat} (hx1 : zr x) (hy1 : zr y) (d : decode cc pc = .ok (.if_icmp .ne off, 3)) (ht : (pc : Int) + off = (tgt : Int)) (kt : x ≠ y → zW Wf m nL g n H0 tgt lv rest h) (kf : x = y → zW Wf m nL g n H0 (pc + 3) lv rest h) : zW Wf m nL g n H0 pc lv (zi y :: zi x :: rest) h := by
  obtain ⟨p, l, e, s, args, below, meth, c, cells, slots, Q, hfl, rfl, rfl, hx, hb, -⟩ := X
  exact fun H locs ls hq hv => lv_icmp_ne hx hb d ht (fun q => kt (fun z => q ((zi_eq hx1 hy1).mpr z)) H locs ls hq hv) (fun q => kf ((zi_eq hx1 hy1).mp q) H locs ls hq hv)
theorem z_icmp_lt (X : zX Wf m R cc own nL g n H0) {x y off : Int} {tgt : Nat} (hx1 : zr x) (hy1 : zr y) (d : decode cc pc = .ok (.if_icmp .lt off, 3)) (ht : (pc : Int) + off = (tgt : Int)) (kt : x < y → zW Wf m nL g n H0 tgt lv rest h) (kf : y ≤ x → zW Wf m nL g n H0 (pc + 3) lv rest h) : zW Wf m nL g n H0 pc lv (zi y :: zi x :: rest) h := by
  obtain ⟨p, l, e, s, args, below, meth, c, cells, slots, Q, hfl, rfl, rfl, hx, hb, -⟩ := X
  exact fun H locs ls hq hv => lv_icmp_lt hx hb d ht (fun q => kt ((zi_lt hx1 hy1).mp q) H locs ls hq hv) (fun q => kf (Int.not_lt.mp fun z => q ((zi_lt hx1 hy1).mpr z)) H locs ls hq hv)
theorem z_icmp_ge (X : zX Wf m R cc own nL g n H0) {x y off : Int} {tgt : Nat} (hx1 : zr x) (hy1 : zr y) (d : decode cc pc = .ok (.if_icmp .ge off, 3)) (ht : (pc : Int) + off = (tgt : Int)) (kt : y ≤ x → zW Wf m nL g n H0 tgt lv rest h) (kf : x < y → zW Wf m nL g n H0 (pc + 3) lv rest h) : zW Wf m nL g n H0 pc lv (zi y :: zi x :: rest) h := by
  obtain ⟨p, l, e, s, args, below, meth, c, cells, slots, Q, hfl, rfl, rfl, hx, hb, -⟩ := X
  exact fun H locs ls hq hv => lv_icmp_ge hx hb d ht (fun q => kt ((zi_le hy1 hx1).mp q) H locs ls hq hv) (fun q => kf (Int.not_le.mp fun z => q ((zi_le hy1 hx1).mpr z)) H locs ls hq hv)
theorem z_icmp_gt (X : zX Wf m R cc own nL g n H0) {x y off : Int} {tgt : Nat} (hx1 : zr x) (hy1 : zr y) (d : decode cc pc = .ok (.if_icmp .gt off, 3)) (ht : (pc : Int) + off = (tgt : Int)) (kt : y < x → zW Wf m nL g n H0 tgt lv rest h) (kf : x ≤ y → zW Wf m nL g n H0 (pc + 3) lv rest h) : zW Wf m nL g n H0 pc lv (zi y :: zi x :: rest) h := by
  obtain ⟨p, l, e, s, args, below, meth, c, cells, slots, Q, hfl, rfl, rfl, hx, hb, -⟩ := X
  exact fun H locs ls hq hv => lv_icmp_gt hx hb d ht (fun q => kt ((zi_lt hy1 hx1).mp q) H locs ls hq hv) (fun q => kf (Int.not_lt.mp fun z => q ((zi_lt hy1 hx1).mpr z)) H locs ls hq hv)
theorem z_icmp_le (X : zX Wf m R cc own nL g n H0) {x y off : Int} {tgt : Nat} (hx1 : zr x) (hy1 : zr y) (d : decode cc pc = .ok (.if_icmp .le off, 3)) (ht : (pc : Int) + off = (tgt : Int)) (kt : x ≤ y → zW Wf m nL g n H0 tgt lv rest h) (kf : y < x → zW Wf m nL g n H0 (pc + 3) lv rest h) : zW Wf m nL g n H0 pc lv (zi y :: zi x :: rest) h := by
  obtain ⟨p, l, e, s, args, below, meth, c, cells, slots, Q, hfl, rfl, rfl, hx, hb, -⟩ := X
  exact fun H locs ls hq hv => lv_icmp_le hx hb d ht (fun q => kt ((zi_le hx1 hy1).mp q) H locs ls hq hv) (fun q => kf (Int.not_le.mp fun z => q ((zi_le hx1 hy1).mpr z)) H locs ls hq hv)
/-- what lcmp leaves, as a number -/
def zcmp (x y : Int) : Int := if y < x then 1 else if x = y then 0 else -1
theorem zr_cmp (x y : Int) : zr (zcmp x y) := by
  unfold zcmp
  split
  · omega
  · split <;> omega
theorem z_lcmp (X : zX Wf m R cc own nL g n H0) {x y : Int} (hx1 : zrl x) (hy1 : zrl y) (d : decode cc pc = .ok (.lcmp, 1)) (k : zW Wf m nL g n H0 (pc + 1) lv (zi (zcmp x y) :: rest) h) : zW Wf m nL g n H0 pc lv (zj y :: zj x :: rest) h := by
  obtain ⟨p, l, e, s, args, below, meth, c, cells, slots, Q, hfl, rfl, rfl, hx, hb, -⟩ := X
  refine fun H locs ls hq hv => W.lcmp hx hb d ?_
  have e : lg_cmp (Int64.ofInt x) (Int64.ofInt y) = Int32.ofInt (zcmp x y) := by
    unfold lg_cmp zcmp
    by_cases h1 : y < x
    · rw [if_pos ((zj_lt hy1 hx1).mpr h1), if_pos h1]; rfl
    · rw [if_neg (fun q => h1 ((zj_lt hy1 hx1).mp q)), if_neg h1]
      by_cases h2 : x = y
      · rw [if_pos ((zj_eq hx1 hy1).mpr h2), if_pos h2]; rfl
      · rw [if_neg (fun q => h2 ((zj_eq hx1 hy1).mp q)), if_neg h2]; rfl
  rw [e]
  exact k H locs ls hq hv
theorem z_tableOut (X : zX Wf m R cc own nL g n H0) {x dflt lo hi : Int} {offs : Array Int} {len tgt : Nat} (hx1 : zr x) (d : decode cc pc = .ok (.tableswitch dflt lo hi offs, len)) (hr : x < lo ∨ hi < x) (ht : (pc : Int) + dflt = (tgt : Int)) (k : zW Wf m nL g n H0 tgt lv rest h) : zW Wf m nL g n H0 pc lv (zi x :: rest) h := by
  obtain ⟨p, l, e, s, args, below, meth, c, cells, slots, Q, hfl, rfl, rfl, hx, hb, -⟩ := X
  exact fun H locs ls hq hv => lv_tableOut hx hb d (by rw [zi_int hx1]; exact hr) ht (k H locs ls hq hv)
theorem z_tableIn (X : zX Wf m R cc own nL g n H0) {x dflt lo hi off : Int} {offs : Array Int} {len tgt : Nat} (hx1 : zr x) (d : decode cc pc = .ok (.tableswitch dflt lo hi offs, len)) (h1 : lo ≤ x) (h2 : x ≤ hi) (ho : offs[(x - lo).toNat]? = some off) (ht : (pc : Int) + off = (tgt : Int)) (k : zW Wf m nL g n H0 tgt lv rest h) : zW Wf m nL g n H0 pc lv (zi x :: rest) h := by
  obtain ⟨p, l, e, s, args, below, meth, c, cells, slots, Q, hfl, rfl, rfl, hx, hb, -⟩ := X
  exact fun H locs ls hq hv => lv_tableIn hx hb d (by rw [zi_int hx1]; exact Int.not_lt.mpr h1) (by rw [zi_int hx1]; exact Int.not_lt.mpr h2) (by rw [zi_int hx1]; exact ho) ht (k H locs ls hq hv)
end ZR
end
section
/-! fields, arrays, calls, answers, over the small picture -/
def zCF (ci : Nat) (C : String) (T : u_T) (ty : Nat → FieldType) (N : Nat) : Prop := ci < 12 ∧ zCl[ci]? = some (C, T, N) ∧ (∀ w ∈ u_ws C T N, w ∈ zWd) ∧ (∀ k, k < N → parseFieldDescriptor (T k).2.2.1 = some (ty k)) ∧ (∀ a, a < N → ∀ b, b < N → a ≠ b → (T a).2.1 ≠ (T b).2.1) ∧ (zfd ci).length = N
theorem cf_History : zCF 0 R_History T_History ty_History 3 := ⟨by decide, rfl, in_History, ty_History_ok, nm_History, rfl⟩
theorem cf_Model : zCF 1 R_Model T_Model ty_Model 9 := ⟨by decide, rfl, in_Model, ty_Model_ok, nm_Model, rfl⟩
theorem cf_Models : zCF 2 R_Models T_Models ty_Models 3 := ⟨by decide, rfl, in_Models, ty_Models_ok, nm_Models, rfl⟩
theorem cf_Saves : zCF 3 R_Saves T_Saves ty_Saves 2 := ⟨by decide, rfl, in_Saves, ty_Saves_ok, nm_Saves, rfl⟩
theorem cf_Script : zCF 4 R_Script T_Script ty_Script 3 := ⟨by decide, rfl, in_Script, ty_Script_ok, nm_Script, rfl⟩
theorem cf_State : zCF 5 R_State T_State ty_State 4 := ⟨by decide, rfl, in_State, ty_State_ok, nm_State, rfl⟩
theorem cf_Symbols : zCF 6 R_Symbols T_Symbols ty_Symbols 3 := ⟨by decide, rfl, in_Symbols, ty_Symbols_ok, nm_Symbols, rfl⟩
theorem cf_Taking : zCF 7 R_Taking T_Taking ty_Taking 8 := ⟨by decide, rfl, in_Taking, ty_Taking_ok, nm_Taking, rfl⟩
theorem cf_Tape : zCF 8 R_Tape T_Tape ty_Tape 5 := ⟨by decide, rfl, in_Tape, ty_Tape_ok, nm_Tape, rfl⟩
theorem cf_Text : zCF 9 R_Text T_Text ty_Text 8 := ⟨by decide, rfl, in_Text, ty_Text_ok, nm_Text, rfl⟩
theorem cf_AS : zCF 10 R_AS T_AS ty_AS 10 := ⟨by decide, rfl, in_AS, ty_AS_ok, nm_AS, rfl⟩
theorem cf_RM : zCF 11 R_RM T_RM ty_RM 32 := ⟨by decide, rfl, in_RM, ty_RM_ok, nm_RM, rfl⟩
theorem zns_or {w : Cond} (hw : w ∈ zNs) : (∃ a i x h, w = .methodLinkNest a i x h) ∨ ∃ a i b n d h, w = .fieldLinkNest a i b n d h := by
  have := (List.mem_filter.mp hw).2
  unfold zisN at this
  split at this
  · exact Or.inl ⟨_, _, _, _, rfl⟩
  · exact Or.inr ⟨_, _, _, _, _, _, rfl⟩
  · cases this
theorem zns_warm {s U : State} (hW : s.WarmedH U.vm) (h : ∀ w ∈ zNs, va_Nw w s) : ∀ w ∈ zNs, va_Nw w U := by
  intro w hw
  rcases zns_or hw with ⟨a, i, x, hh, rfl⟩ | ⟨a, i, b, n, d, hh, rfl⟩
  · exact va_Nw.warmM hW (h _ hw)
  · exact va_Nw.warmF hW (h _ hw)
theorem zns_same {u U : State} (hvm : u.vm = U.vm) (h : ∀ w ∈ zNs, va_Nw w u) : ∀ w ∈ zNs, va_Nw w U := by
  intro w hw
  rcases zns_or hw with ⟨a, i, x, hh, rfl⟩ | ⟨a, i, b, n, d, hh, rfl⟩
  · exact va_Nw.same rfl hvm (h _ hw)
  · exact va_Nw.same rfl hvm (h _ hw)
theorem zns_use {w : Cond} (hw : w ∈ zNs) {A : Array Value} {U : State} (h : va_Nw w U) : w.before A U = true := by
  rcases zns_or hw with ⟨a, i, x, hh, rfl⟩ | ⟨a, i, b, n, d, hh, rfl⟩
  · exact va_Nw.use rfl h
  · exact va_Nw.use rfl h
theorem zD_any {g : zG} {n : Nat} {h h' : zH} {A : Nat → Prop} (hD : va_D A (zws g n h)) : va_D A (zws g n h') := by
  have key : ∀ (k : Nat) (q : Nat × va_E), (zws g n h')[k]? = some q → k < n ∧ q.1 = g.2.2 k := by
    intro k q hq
    have hl := (List.getElem?_eq_some_iff.mp hq).1
    have hn : k < n := by simpa [zws] using hl
    rw [zws_at hn] at hq
    cases hq
    exact ⟨hn, rfl⟩
  refine ⟨fun i j p q hp hq e => ?_, fun k q hq => ?_⟩
  · obtain ⟨hi, ei⟩ := key i p hp
    obtain ⟨hj, ej⟩ := key j q hq
    exact hD.1 i j _ _ (zws_at hi) (zws_at hj) (by show g.2.2 i = g.2.2 j; rw [← ei, ← ej]; exact e)
  · obtain ⟨hk, ek⟩ := key k q hq
    rw [ek]
    exact hD.2 k _ (zws_at hk)
section ZHP
variable {Wf : Heap → List Loc → JFrame → Prop} {m : MethodId} {R : Room} {cc : ByteArray} {own : String} {nL : Nat} {g : zG} {n : Nat} {H0 : Heap} {pc : Nat} {lv lv' : List (Nat × Value)} {rest : List Value} {h : zH}
theorem z_geti (X : zX Wf m R cc own nL g n H0) {ci a j idx N : Nat} {C : String} {T : u_T} {ty : Nat → FieldType} (cf : zCF ci C T ty N) (hO : zO n a ci) (hj : j < N) (w : Cond.fieldLink own idx C (T j).2.1 (T j).2.2.1 ∈ zWd) (hT : (T j).1 = C) (ho : (zfd ci)[j]? = some none) (d : decode cc pc = .ok (.getfield idx, 3)) (k : zW Wf m nL g n H0 (pc + 3) lv (zi (h a j) :: rest) h) : zW Wf m nL g n H0 pc lv (.ref (g.2.2 a) :: rest) h := by
  obtain ⟨p, l, e, s, args, below, meth, c, cells, slots, Q, hfl, rfl, rfl, hx, hb, hml, hown, hts, hns, hK, -⟩ := X
  obtain ⟨f1, f2, f3, f4, f5, -⟩ := cf
  refine fun H locs ls hq hv => va_get hx hb hts f3 hown hK hq.1 a (by rw [zws_at hO.2.1, zE_obj hO.2.2 f1]) f2 j hj (hts _ w) (fun x hx => by rw [hT] at hx; exact hx) (v := zi (h a j)) ?_ d (k H locs ls hq hv)
  exact zfl_at ho
theorem z_getr (X : zX Wf m R cc own nL g n H0) {ci a j idx N dd : Nat} {C : String} {T : u_T} {ty : Nat → FieldType} (cf : zCF ci C T ty N) (hO : zO n a ci) (hj : j < N) (w : Cond.fieldLink own idx C (T j).2.1 (T j).2.2.1 ∈ zWd) (hT : (T j).1 = C) (ho : (zfd ci)[j]? = some (some dd)) (d : decode cc pc = .ok (.getfield idx, 3)) (k : zW Wf m nL g n H0 (pc + 3) lv (.ref (g.2.2 (a + dd)) :: rest) h) : zW Wf m nL g n H0 pc lv (.ref (g.2.2 a) :: rest) h := by
  obtain ⟨p, l, e, s, args, below, meth, c, cells, slots, Q, hfl, rfl, rfl, hx, hb, hml, hown, hts, hns, hK, -⟩ := X
  obtain ⟨f1, f2, f3, f4, f5, -⟩ := cf
  refine fun H locs ls hq hv => va_get hx hb hts f3 hown hK hq.1 a (by rw [zws_at hO.2.1, zE_obj hO.2.2 f1]) f2 j hj (hts _ w) (fun x hx => by rw [hT] at hx; exact hx) (v := .ref (g.2.2 (a + dd))) ?_ d (k H locs ls hq hv)
  exact zfl_at ho
theorem z_getiN (X : zX Wf m R cc own nL g n H0) {ci a j idx N : Nat} {C host : String} {T : u_T} {ty : Nat → FieldType} (cf : zCF ci C T ty N) (hO : zO n a ci) (hj : j < N) (w : Cond.fieldLinkNest own idx C (T j).2.1 (T j).2.2.1 host ∈ zNs) (hT : (T j).1 = C) (ho : (zfd ci)[j]? = some none) (d : decode cc pc = .ok (.getfield idx, 3)) (k : zW Wf m nL g n H0 (pc + 3) lv (zi (h a j) :: rest) h) : zW Wf m nL g n H0 pc lv (.ref (g.2.2 a) :: rest) h := by
  obtain ⟨p, l, e, s, args, below, meth, c, cells, slots, Q, hfl, rfl, rfl, hx, hb, hml, hown, hts, hns, hK, -⟩ := X
  obtain ⟨f1, f2, f3, f4, f5, -⟩ := cf
  refine fun H locs ls hq hv => va_getN hx hb hts f3 hown hK hq.1 a (by rw [zws_at hO.2.1, zE_obj hO.2.2 f1]) f2 j hj (zns_use w (hns _ w)) (fun x hx => by rw [hT] at hx; exact hx) (v := zi (h a j)) ?_ d (k H locs ls hq hv)
  exact zfl_at ho
theorem z_getrN (X : zX Wf m R cc own nL g n H0) {ci a j idx N dd : Nat} {C host : String} {T : u_T} {ty : Nat → FieldType} (cf : zCF ci C T ty N) (hO : zO n a ci) (hj : j < N) (w : Cond.fieldLinkNest own idx C (T j).2.1 (T j).2.2.1 host ∈ zNs) (hT : (T j).1 = C) (ho : (zfd ci)[j]? = some (some dd)) (d : decode cc pc = .ok (.getfield idx, 3)) (k : zW Wf m nL g n H0 (pc + 3) lv (.ref (g.2.2 (a + dd)) :: rest) h) : zW Wf m nL g n H0 pc lv (.ref (g.2.2 a) :: rest) h := by
  obtain ⟨p, l, e, s, args, below, meth, c, cells, slots, Q, hfl, rfl, rfl, hx, hb, hml, hown, hts, hns, hK, -⟩ := X
  obtain ⟨f1, f2, f3, f4, f5, -⟩ := cf
  refine fun H locs ls hq hv => va_getN hx hb hts f3 hown hK hq.1 a (by rw [zws_at hO.2.1, zE_obj hO.2.2 f1]) f2 j hj (zns_use w (hns _ w)) (fun x hx => by rw [hT] at hx; exact hx) (v := .ref (g.2.2 (a + dd))) ?_ d (k H locs ls hq hv)
  exact zfl_at ho
theorem zQ_set {ci a j : Nat} {x : Int} {H H1 : Heap} {locs1 : List Loc} (hk : zkd a = ci) (f1 : ci < 12) (ho : (zfd ci)[j]? = some none) (h1 : va_P g.1 zCl ((zws g n h).set a (g.2.2 a, .inr (ci, (zfl g.2.2 h a (zfd ci)).set j (zi x)))) H1) (h2 : va_D (zA g n H0.size) ((zws g n h).set a (g.2.2 a, .inr (ci, (zfl g.2.2 h a (zfd ci)).set j (zi x))))) (h3 : va_S (zA g n H0.size) H0 H1 locs1) : zQ g n (zs h a j x) H0 H1 locs1 := by
  have e := zws_set (g := g) (n := n) (h := h) (h' := zs h a j x) (k := a) (e := .inr (ci, (zfl g.2.2 h a (zfd ci)).set j (zi x))) (by rw [zE_obj hk f1, zfl_set ho]) (fun b hb => zE_ne hb)
  rw [e] at h1 h2
  exact ⟨h1, h2, h3⟩
theorem z_put (X : zX Wf m R cc own nL g n H0) {ci a j idx N : Nat} {x : Int} {C : String} {T : u_T} {ty : Nat → FieldType} (cf : zCF ci C T ty N) (hO : zO n a ci) (hj : j < N) (w : Cond.fieldLink own idx C (T j).2.1 (T j).2.2.1 ∈ zWd) (hT : (T j).1 = C) (hfin : (T j).2.2.2 = false) (hd : parseFieldDescriptor (T j).2.2.1 = some .int) (ho : (zfd ci)[j]? = some none) (d : decode cc pc = .ok (.putfield idx, 3)) (k : zW Wf m nL g n H0 (pc + 3) lv rest (zs h a j x)) : zW Wf m nL g n H0 pc lv (zi x :: .ref (g.2.2 a) :: rest) h := by
  obtain ⟨p, l, e, s, args, below, meth, c, cells, slots, Q, hfl, rfl, rfl, hx, hb, hml, hown, hts, hns, hK, -⟩ := X
  obtain ⟨f1, f2, f3, f4, f5, f6⟩ := cf
  exact fun H locs ls hq hv => va_put hx hb hts f3 ty f4 f5 hown hK hq.1 hq.2.1 hq.2.2 a (by rw [zws_at hO.2.1, zE_obj hO.2.2 f1]) f2 j hj (hts _ w) (fun x hx => by rw [hT] at hx; exact hx) hfin hd rfl rfl (by rw [zfl_len, f6]; exact hj) d (fun H1 locs1 h1 h2 h3 => k H1 locs1 ls (zQ_set (H := H) hO.2.2 f1 ho h1 h2 h3) hv)
theorem z_putN (X : zX Wf m R cc own nL g n H0) {ci a j idx N : Nat} {x : Int} {C host : String} {T : u_T} {ty : Nat → FieldType} (cf : zCF ci C T ty N) (hO : zO n a ci) (hj : j < N) (w : Cond.fieldLinkNest own idx C (T j).2.1 (T j).2.2.1 host ∈ zNs) (hT : (T j).1 = C) (hfin : (T j).2.2.2 = false) (hd : parseFieldDescriptor (T j).2.2.1 = some .int) (ho : (zfd ci)[j]? = some none) (d : decode cc pc = .ok (.putfield idx, 3)) (k : zW Wf m nL g n H0 (pc + 3) lv rest (zs h a j x)) : zW Wf m nL g n H0 pc lv (zi x :: .ref (g.2.2 a) :: rest) h := by
  obtain ⟨p, l, e, s, args, below, meth, c, cells, slots, Q, hfl, rfl, rfl, hx, hb, hml, hown, hts, hns, hK, -⟩ := X
  obtain ⟨f1, f2, f3, f4, f5, f6⟩ := cf
  exact fun H locs ls hq hv => va_putN hx hb hts f3 ty f4 f5 hown hK hq.1 hq.2.1 hq.2.2 a (by rw [zws_at hO.2.1, zE_obj hO.2.2 f1]) f2 j hj (zns_use w (hns _ w)) (fun x hx => by rw [hT] at hx; exact hx) hfin hd rfl rfl (by rw [zfl_len, f6]; exact hj) d (fun H1 locs1 h1 h2 h3 => k H1 locs1 ls (zQ_set (H := H) hO.2.2 f1 ho h1 h2 h3) hv)
theorem z_bit {x : Int} (hx : x = 0 ∨ x = 1) : narrow .boolean (zi x) = zi x ∧ fits .boolean (zi x) = true ∧ vp_nar .boolean (Int32.ofInt x) = Int32.ofInt x := by
  rcases hx with rfl | rfl <;> decide +kernel
theorem z_putZ (X : zX Wf m R cc own nL g n H0) {ci a j idx N : Nat} {x : Int} {C : String} {T : u_T} {ty : Nat → FieldType} (cf : zCF ci C T ty N) (hO : zO n a ci) (hj : j < N) (w : Cond.fieldLink own idx C (T j).2.1 (T j).2.2.1 ∈ zWd) (hT : (T j).1 = C) (hfin : (T j).2.2.2 = false) (hd : parseFieldDescriptor (T j).2.2.1 = some .boolean) (ho : (zfd ci)[j]? = some none) (hx2 : x = 0 ∨ x = 1) (d : decode cc pc = .ok (.putfield idx, 3)) (k : zW Wf m nL g n H0 (pc + 3) lv rest (zs h a j x)) : zW Wf m nL g n H0 pc lv (zi x :: .ref (g.2.2 a) :: rest) h := by
  obtain ⟨p, l, e, s, args, below, meth, c, cells, slots, Q, hfl, rfl, rfl, hx, hb, hml, hown, hts, hns, hK, -⟩ := X
  obtain ⟨f1, f2, f3, f4, f5, f6⟩ := cf
  exact fun H locs ls hq hv => va_put hx hb hts f3 ty f4 f5 hown hK hq.1 hq.2.1 hq.2.2 a (by rw [zws_at hO.2.1, zE_obj hO.2.2 f1]) f2 j hj (hts _ w) (fun x hx => by rw [hT] at hx; exact hx) hfin hd (z_bit hx2).1 (z_bit hx2).2.1 (by rw [zfl_len, f6]; exact hj) d (fun H1 locs1 h1 h2 h3 => k H1 locs1 ls (zQ_set (H := H) hO.2.2 f1 ho h1 h2 h3) hv)
theorem z_iald (X : zX Wf m R cc own nL g n H0) {a len : Nat} {i : Int} (hO : zO n a 12) (hlen : zln a = len) (hi : zr i) (h0 : 0 ≤ i) (h1 : i < (len : Int)) (d : decode cc pc = .ok (.iaload, 1)) (k : zW Wf m nL g n H0 (pc + 1) lv (zi (h a i.toNat) :: rest) h) : zW Wf m nL g n H0 pc lv (zi i :: .ref (g.2.2 a) :: rest) h := by
  obtain ⟨p, l, e, s, args, below, meth, c, cells, slots, Q, hfl, rfl, rfl, hx, hb, hml, hown, hts, hns, hK, -⟩ := X
  subst hlen
  exact fun H locs ls hq hv => va_iald hx hb hK hq.1 a 0 (by rw [zws_at hO.2.1, zE_int hO.2.2]) rfl (zi_in hi h0 h1) d (by rw [zi_nat hi]; exact k H locs ls hq hv)
theorem z_zald (X : zX Wf m R cc own nL g n H0) {a len : Nat} {i : Int} (hO : zO n a 13) (hlen : zln a = len) (hi : zr i) (h0 : 0 ≤ i) (h1 : i < (len : Int)) (d : decode cc pc = .ok (.baload, 1)) (k : zW Wf m nL g n H0 (pc + 1) lv (zi (h a i.toNat) :: rest) h) : zW Wf m nL g n H0 pc lv (zi i :: .ref (g.2.2 a) :: rest) h := by
  obtain ⟨p, l, e, s, args, below, meth, c, cells, slots, Q, hfl, rfl, rfl, hx, hb, hml, hown, hts, hns, hK, -⟩ := X
  subst hlen
  exact fun H locs ls hq hv => va_zald hx hb hK hq.1 a 1 (by rw [zws_at hO.2.1, zE_bool hO.2.2]) rfl (zi_in hi h0 h1) d (by rw [zi_nat hi]; exact k H locs ls hq hv)
theorem z_lald (X : zX Wf m R cc own nL g n H0) {a len : Nat} {i : Int} (hO : zO n a 16) (hlen : zln a = len) (hi : zr i) (h0 : 0 ≤ i) (h1 : i < (len : Int)) (d : decode cc pc = .ok (.laload, 1)) (k : zW Wf m nL g n H0 (pc + 1) lv (zj (h a i.toNat) :: rest) h) : zW Wf m nL g n H0 pc lv (zi i :: .ref (g.2.2 a) :: rest) h := by
  obtain ⟨p, l, e, s, args, below, meth, c, cells, slots, Q, hfl, rfl, rfl, hx, hb, hml, hown, hts, hns, hK, -⟩ := X
  subst hlen
  exact fun H locs ls hq hv => va_lald hx hb hK hq.1 a 4 (by rw [zws_at hO.2.1, zE_long hO.2.2]) rfl (zi_in hi h0 h1) d (by rw [zi_nat hi]; exact k H locs ls hq hv)
theorem z_aaldM (X : zX Wf m R cc own nL g n H0) {a len : Nat} {i : Int} (hO : zO n a 14) (hlen : zln a = len) (hi : zr i) (h0 : 0 ≤ i) (h1 : i < (len : Int)) (d : decode cc pc = .ok (.aaload, 1)) (k : zW Wf m nL g n H0 (pc + 1) lv (.ref (g.2.2 (a + 1 + 10 * i.toNat)) :: rest) h) : zW Wf m nL g n H0 pc lv (zi i :: .ref (g.2.2 a) :: rest) h := by
  obtain ⟨p, l, e, s, args, below, meth, c, cells, slots, Q, hfl, rfl, rfl, hx, hb, hml, hown, hts, hns, hK, -⟩ := X
  subst hlen
  refine fun H locs ls hq hv => va_aldq hx hb hK hq.1 a 2 (by rw [zws_at hO.2.1, zE_model hO.2.2]) rfl (zi_in hi h0 h1) d ?_
  rw [zi_nat hi]
  exact k H locs ls hq hv
theorem z_aaldS (X : zX Wf m R cc own nL g n H0) {a len : Nat} {i : Int} (hO : zO n a 15) (hlen : zln a = len) (hi : zr i) (h0 : 0 ≤ i) (h1 : i < (len : Int)) (d : decode cc pc = .ok (.aaload, 1)) (k : zW Wf m nL g n H0 (pc + 1) lv (.ref (g.2.2 (a + 1 + 7 * i.toNat)) :: rest) h) : zW Wf m nL g n H0 pc lv (zi i :: .ref (g.2.2 a) :: rest) h := by
  obtain ⟨p, l, e, s, args, below, meth, c, cells, slots, Q, hfl, rfl, rfl, hx, hb, hml, hown, hts, hns, hK, -⟩ := X
  subst hlen
  refine fun H locs ls hq hv => va_aldq hx hb hK hq.1 a 3 (by rw [zws_at hO.2.1, zE_state hO.2.2]) rfl (zi_in hi h0 h1) d ?_
  rw [zi_nat hi]
  exact k H locs ls hq hv
theorem z_alen (X : zX Wf m R cc own nL g n H0) {a len : Nat} (hO : zO n a 12) (hlen : zln a = len) (d : decode cc pc = .ok (.arraylength, 1)) (k : zW Wf m nL g n H0 (pc + 1) lv (zi (len : Int) :: rest) h) : zW Wf m nL g n H0 pc lv (.ref (g.2.2 a) :: rest) h := by
  obtain ⟨p, l, e, s, args, below, meth, c, cells, slots, Q, hfl, rfl, rfl, hx, hb, hml, hown, hts, hns, hK, -⟩ := X
  subst hlen
  exact fun H locs ls hq hv => va_alen hx hb hK hq.1 a 0 (by rw [zws_at hO.2.1, zE_int hO.2.2]) rfl (Int32.ofInt_eq_ofNat).symm d (k H locs ls hq hv)
theorem zi_upd {a : Nat} {i x : Int} (hi : zr i) : upd (fun j => Int32.ofInt (h a j)) (Int32.ofInt i).toNatClampNeg (Int32.ofInt x) = fun j => Int32.ofInt (zs h a i.toNat x a j) := by
  rw [zi_nat hi]
  funext j
  unfold upd zs
  by_cases hj : j = i.toNat <;> simp [hj]
theorem z_iast (X : zX Wf m R cc own nL g n H0) {a len : Nat} {i x : Int} (hO : zO n a 12) (hlen : zln a = len) (hi : zr i) (h0 : 0 ≤ i) (h1 : i < (len : Int)) (d : decode cc pc = .ok (.iastore, 1)) (k : zW Wf m nL g n H0 (pc + 1) lv rest (zs h a i.toNat x)) : zW Wf m nL g n H0 pc lv (zi x :: zi i :: .ref (g.2.2 a) :: rest) h := by
  obtain ⟨p, l, e, s, args, below, meth, c, cells, slots, Q, hfl, rfl, rfl, hx, hb, hml, hown, hts, hns, hK, -⟩ := X
  subst hlen
  refine fun H locs ls hq hv => va_iast hx hb hK hq.1 hq.2.1 hq.2.2 a 0 (by rw [zws_at hO.2.1, zE_int hO.2.2]) rfl (zi_in hi h0 h1) d (fun H1 locs1 h1 h2 h3 => k H1 locs1 ls ?_ hv)
  rw [zi_upd hi, zws_set (h' := zs h a i.toNat x) (by rw [zE_int hO.2.2]) (fun b hb => zE_ne hb)] at h1 h2
  exact ⟨h1, h2, h3⟩
theorem z_zast (X : zX Wf m R cc own nL g n H0) {a len : Nat} {i x : Int} (hO : zO n a 13) (hlen : zln a = len) (hi : zr i) (h0 : 0 ≤ i) (h1 : i < (len : Int)) (hx2 : x = 0 ∨ x = 1) (d : decode cc pc = .ok (.bastore, 1)) (k : zW Wf m nL g n H0 (pc + 1) lv rest (zs h a i.toNat x)) : zW Wf m nL g n H0 pc lv (zi x :: zi i :: .ref (g.2.2 a) :: rest) h := by
  obtain ⟨p, l, e, s, args, below, meth, c, cells, slots, Q, hfl, rfl, rfl, hx, hb, hml, hown, hts, hns, hK, -⟩ := X
  subst hlen
  refine fun H locs ls hq hv => va_zast hx hb hK hq.1 hq.2.1 hq.2.2 a 1 (by rw [zws_at hO.2.1, zE_bool hO.2.2]) rfl (zi_in hi h0 h1) d (fun H1 locs1 h1 h2 h3 => k H1 locs1 ls ?_ hv)
  rw [(z_bit hx2).2.2, zi_upd hi, zws_set (h' := zs h a i.toNat x) (by rw [zE_bool hO.2.2]) (fun b hb => zE_ne hb)] at h1 h2
  exact ⟨h1, h2, h3⟩
theorem z_last (X : zX Wf m R cc own nL g n H0) {a len : Nat} {i x : Int} (hO : zO n a 16) (hlen : zln a = len) (hi : zr i) (h0 : 0 ≤ i) (h1 : i < (len : Int)) (d : decode cc pc = .ok (.lastore, 1)) (k : zW Wf m nL g n H0 (pc + 1) lv rest (zs h a i.toNat x)) : zW Wf m nL g n H0 pc lv (zj x :: zi i :: .ref (g.2.2 a) :: rest) h := by
  obtain ⟨p, l, e, s, args, below, meth, c, cells, slots, Q, hfl, rfl, rfl, hx, hb, hml, hown, hts, hns, hK, -⟩ := X
  subst hlen
  refine fun H locs ls hq hv => va_last hx hb hK hq.1 hq.2.1 hq.2.2 a 4 (by rw [zws_at hO.2.1, zE_long hO.2.2]) rfl (zi_in hi h0 h1) d (fun H1 locs1 h1 h2 h3 => k H1 locs1 ls ?_ hv)
  have e : vp_updL (fun j => Int64.ofInt (h a j)) (Int32.ofInt i).toNatClampNeg (Int64.ofInt x) = fun j => Int64.ofInt (zs h a i.toNat x a j) := by
    rw [zi_nat hi]
    funext j
    unfold vp_updL zs
    by_cases hj : j = i.toNat <;> simp [hj]
  rw [e, zws_set (h' := zs h a i.toNat x) (by rw [zE_long hO.2.2]) (fun b hb => zE_ne hb)] at h1 h2
  exact ⟨h1, h2, h3⟩
theorem z_copy (X : zX Wf m R cc own nL g n H0) {a b la lb idx sp dp len : Nat} {isp idp ilen : Int} (hO : zO n a 12) (hO2 : zO n b 12) (hla : zln a = la) (hlb : zln b = lb) (e1 : isp = (sp : Int)) (e2 : idp = (dp : Int)) (e3 : ilen = (len : Int)) (r1 : zr isp) (r2 : zr idp) (r3 : zr ilen) (h1 : sp + len ≤ la) (h2 : dp + len ≤ lb) (w1 : Cond.methodLink own idx arraycopyName ∈ zWd) (w2 : Cond.native arraycopyName ∈ zWd) (w3 : Cond.static arraycopyName ∈ zWd) (w4 : Cond.initialized "java/lang/System" ∈ zWd)
    (hR : 1 ≤ R.frames ∧ (rest.map fun v => v.category).sum + (nativeFrameWords "java/lang/System" "arraycopy" 5 + 11) ≤ R.locals) (d : decode cc pc = .ok (.invokestatic idx, 3)) (k : zW Wf m nL g n H0 (pc + 3) lv rest (zcp h a sp b dp len)) : zW Wf m nL g n H0 pc lv (zi ilen :: zi idp :: .ref (g.2.2 b) :: zi isp :: .ref (g.2.2 a) :: rest) h := by
  obtain ⟨p, l, e, s, args, below, meth, c, cells, slots, Q, hfl, rfl, rfl, hx, hb, hml, hown, hts, hns, hK, -⟩ := X
  subst hla; subst hlb
  have n1 : (Int32.ofInt isp).toNatClampNeg = sp := by rw [zi_nat r1, e1]; rfl
  have n2 : (Int32.ofInt idp).toNatClampNeg = dp := by rw [zi_nat r2, e2]; rfl
  have n3 : (Int32.ofInt ilen).toNatClampNeg = len := by rw [zi_nat r3, e3]; rfl
  refine fun H locs ls hq hv => va_copyi hx hb (hml.trans hv.1.symm) hown (hts _ w1) (hts _ w2) (hts _ w3) (hts _ w4) hK hq.1 hq.2.1 hq.2.2 a b 0 0 (ty := .int) (by rw [zws_at hO.2.1, zE_int hO.2.2]) (by rw [zws_at hO2.2.1, zE_int hO2.2.2]) rfl rfl rfl (fun q => by have := (zi_lt0 r1).mp q; omega) (fun q => by have := (zi_lt0 r2).mp q; omega) (fun q => by have := (zi_lt0 r3).mp q; omega) (by rw [n1, n3]; exact h1) (by rw [n2, n3]; exact h2) (fun i _ => rfl) hR.1 hR.2 d (fun H1 locs1 h1 h2 h3 => k H1 locs1 ls ?_ hv)
  rw [n1, n2, n3] at h1 h2
  have e : va_cpy (fun j => Int32.ofInt (h a j)) (fun j => Int32.ofInt (h b j)) sp dp len = fun j => Int32.ofInt (zcp h a sp b dp len b j) := by
    funext j
    unfold va_cpy zcp
    by_cases hj : dp ≤ j ∧ j < dp + len <;> simp [hj]
  rw [e, zws_set (h' := zcp h a sp b dp len) (by rw [zE_int hO2.2.2]) (fun b hb => zE_neC hb)] at h1 h2
  exact ⟨h1, h2, h3⟩
theorem z_mmin (X : zX Wf m R cc own nL g n H0) {x y : Int} {idx : Nat} (hx1 : zr x) (hy1 : zr y) (w1 : Cond.methodLink own idx Lib.Math.min.name ∈ zWd) (w2 : Cond.static Lib.Math.min.name ∈ zWd) (w3 : Cond.initialized "java/lang/Math" ∈ zWd) (w4 : Cond.code Lib.Math.min.name Lib.Math.min.code 2 (some .int) ∈ zWd) (hR : 1 ≤ R.frames ∧ (rest.map fun v => v.category).sum + 13 ≤ R.locals) (d : decode cc pc = .ok (.invokestatic idx, 3)) (k : zW Wf m nL g n H0 (pc + 3) lv (zi (if y < x then y else x) :: rest) h) : zW Wf m nL g n H0 pc lv (zi y :: zi x :: rest) h := by
  obtain ⟨p, l, e, s, args, below, meth, c, cells, slots, Q, hfl, rfl, rfl, hx, hb, hml, hown, hts, hns, hK, hc, hs, hold⟩ := X
  refine fun H locs ls hq hv => va_mmin hx hb (hml.trans hv.1.symm) hown (hts _ w1) (hts _ w2) (hts _ w3) (hts _ w4) hR.1 hR.2 hc hs d ?_
  have e : (if Int32.ofInt y < Int32.ofInt x then Int32.ofInt y else Int32.ofInt x) = Int32.ofInt (if y < x then y else x) := by
    by_cases q : y < x
    · rw [if_pos ((zi_lt hy1 hx1).mpr q), if_pos q]
    · rw [if_neg (fun z => q ((zi_lt hy1 hx1).mp z)), if_neg q]
  rw [e]
  exact k H locs ls hq hv
theorem z_mmax (X : zX Wf m R cc own nL g n H0) {x y : Int} {idx : Nat} (hx1 : zr x) (hy1 : zr y) (w1 : Cond.methodLink own idx Lib.Math.max.name ∈ zWd) (w2 : Cond.static Lib.Math.max.name ∈ zWd) (w3 : Cond.initialized "java/lang/Math" ∈ zWd) (w4 : Cond.code Lib.Math.max.name Lib.Math.max.code 2 (some .int) ∈ zWd) (hR : 1 ≤ R.frames ∧ (rest.map fun v => v.category).sum + 13 ≤ R.locals) (d : decode cc pc = .ok (.invokestatic idx, 3)) (k : zW Wf m nL g n H0 (pc + 3) lv (zi (if x < y then y else x) :: rest) h) : zW Wf m nL g n H0 pc lv (zi y :: zi x :: rest) h := by
  obtain ⟨p, l, e, s, args, below, meth, c, cells, slots, Q, hfl, rfl, rfl, hx, hb, hml, hown, hts, hns, hK, hc, hs, hold⟩ := X
  refine fun H locs ls hq hv => va_mmax hx hb (hml.trans hv.1.symm) hown (hts _ w1) (hts _ w2) (hts _ w3) (hts _ w4) hR.1 hR.2 hc hs d ?_
  have e : (if Int32.ofInt x < Int32.ofInt y then Int32.ofInt y else Int32.ofInt x) = Int32.ofInt (if x < y then y else x) := by
    by_cases q : x < y
    · rw [if_pos ((zi_lt hx1 hy1).mpr q), if_pos q]
    · rw [if_neg (fun z => q ((zi_lt hx1 hy1).mp z)), if_neg q]
  rw [e]
  exact k H locs ls hq hv
end ZHP
end
section
/-! contracts over the small picture, and calls -/
def zMet (l : Launch) (y : MethodName) (bytes : ByteArray) (maxL : Nat) (ret : Option FieldType) (rm : Room) (g : zG) (n : Nat) (avs : List Value) (h : zH) (Post : Option Value → zH → Prop) : Prop :=
  ∀ sz : Nat, Met l y (Cond.code y bytes maxL ret :: zWd) rm (va_Pc avs (fun U => U.heap.size = sz ∧ zU g n h U)) (fun _ st o t => (∃ (v : Option Value) (h' : zH), o = .returned v ∧ Post v h' ∧ zU g n h' t) ∧ va_F (zA g n sz) st t) 0 0 (zA g n sz)
/-- a method's facts in the tables: an instance method, a static one -/
def zMV (y : MethodName) (bytes : ByteArray) (maxL : Nat) (ret : Option FieldType) (k : Nat) : Prop := Cond.instanceMethod y ∈ zWd ∧ Cond.selects y.cls y y ∈ zWd ∧ Cond.initialized y.cls ∈ zWd ∧ Cond.code y bytes maxL ret ∈ zWd ∧ (y.cls ≠ "java/lang/invoke/MethodHandle" ∧ y.cls ≠ "java/lang/invoke/VarHandle" ∧ (parseMethodDescriptor y.desc).map (fun d => d.parameters.length) = some k)
def zMS (y : MethodName) (bytes : ByteArray) (maxL : Nat) (ret : Option FieldType) (k : Nat) : Prop := Cond.static y ∈ zWd ∧ Cond.initialized y.cls ∈ zWd ∧ Cond.code y bytes maxL ret ∈ zWd ∧ (y.cls ≠ "java/lang/invoke/MethodHandle" ∧ y.cls ≠ "java/lang/invoke/VarHandle" ∧ (parseMethodDescriptor y.desc).map (fun d => d.parameters.length) = some k)
theorem zGood {y : MethodName} {bytes : ByteArray} {maxL : Nat} {ret : Option FieldType} (hc : Cond.code y bytes maxL ret ∈ zWd) : GoodIn zWd (Cond.code y bytes maxL ret :: zWd) := by
  have key : ∀ w ∈ zWd, w ∈ zWd ∧ ((w.onTables && w.keeps) = true ∨ ∃ ty, w = .arrayClass ty) := fun w hw => ⟨hw, good_of_word (List.mem_filter.mp hw).2⟩
  intro w hw
  rcases List.mem_cons.mp hw with rfl | hw
  · exact key _ hc
  · exact key w hw
theorem zU_moved {g : zG} {n : Nat} {h : zH} {H : Heap} {locs : List Loc} {s U : State} (hq : zQ g n h s.heap H locs) (hK : va_K g.1 zCl (ztys g) s) (hns : ∀ w ∈ zNs, va_Nw w s) (hold : zOld g s) (hU : U.heap = H) (hW : s.WarmedH U.vm) : zU g n h U :=
  ⟨by rw [hU]; exact hq.1, va_K.moved hW.alike hK, zns_warm hW hns, hq.2.1.weaken (fun _ _ _ _ => trivial), hold.move hq.2.2 hU hW⟩
theorem zBlind {avs : List Value} {sz : Nat} {g : zG} {n : Nat} {h : zH} : FrameBlind (va_Pc avs (fun U => U.heap.size = sz ∧ zU g n h U)) := by
  intro a U fr mk q
  obtain ⟨q0, q1, qP, qK, qN, qD, s0, a0, o1, o2, o3, o4, o5, o6⟩ := q
  exact ⟨q0, q1, qP, va_K.moved (u := U) (U := U.calling fr mk a) (Vm.Alike.refl U.vm) qK, zns_same (u := U) (U := U.calling fr mk a) rfl qN, qD, s0, a0, o1, o2, o3, o4, o5, o6⟩
section ZC
variable {p : Program} {l : Launch} {e : Env} {R : Room} {s : State} {m : MethodId} {args : Array Value} {below : List Frame} {meth : Method} {c : Code} {cells slots : Nat} {Q : State → Prop}
theorem z_after {pc nL : Nat} {g : zG} {n : Nat} {h : zH} {H : Heap} {locs : List Loc} {ls : Array Slot} {lv : List (Nat × Value)} {st rest : List Value} {Post : Option Value → zH → Prop}
    (hr : va_Run p l e R s m args below meth c H locs cells slots 0 0 (F0 m pc ls st) rest (fun st o t => (∃ (v : Option Value) (h' : zH), o = .returned v ∧ Post v h' ∧ zU g n h' t) ∧ va_F (zA g n H.size) st t) (zA g n H.size))
    (hq : zQ g n h s.heap H locs) (hv : lv_has ls nL lv)
    (kk : ∀ (v : Option Value) (h' : zH), Post v h' → zW (fun H locs gg => W p l e R s m args below meth c H locs cells slots Q gg) m nL g n s.heap (pc + 3) lv (v.toList ++ rest) h') : W p l e R s m args below meth c H locs cells slots Q (F0 m pc ls st) := by
  intro T hT X
  obtain ⟨v, st₀, t, T', L, h0, X', hL, e1, e2, ⟨⟨v', h', hv', hp, hu⟩, hz, hk⟩, stp⟩ := hr T hT X
  cases hv'
  rw [h0] at hz hk
  have hS := hq.2.2
  have hAA : ∀ q, zA g n H.size q → zA g n s.heap.size q := fun q hq => hq.elim Or.inl (fun z => Or.inr (Nat.le_trans hS.1 z))
  have hq' : zQ g n h' s.heap T'.heap (locs ++ L) := by
    refine ⟨by rw [e1]; exact hu.1, zD_any hq.2.1, Nat.le_trans hS.1 (by rw [e1]; exact hz), fun q h1 h2 => ?_, fun q hq => ?_⟩
    · rw [e1, hk q (Nat.lt_of_lt_of_le h1 hS.1) (fun z => h2 (hAA q z))]
      exact hS.2.1 q h1 h2
    · rcases List.mem_append.mp hq with h | h
      · exact hS.2.2 q h
      · exact hAA _ (hL q h)
  obtain ⟨t2, a1, b1⟩ := kk v h' hp T'.heap (locs ++ L) ls hq' hv T' rfl X'
  exact ⟨t2, stp t2 a1, b1⟩
end ZC
section ZC2
variable {Wf : Heap → List Loc → JFrame → Prop} {m : MethodId} {R : Room} {cc : ByteArray} {own : String} {nL : Nat} {g : zG} {n : Nat} {H0 : Heap} {pc : Nat} {lv lv' : List (Nat × Value)} {rest st : List Value} {h : zH}
variable {y : MethodName} {bytes : ByteArray} {maxL k idx : Nat} {ret : Option FieldType} {rm : Room} {Post : Option Value → zH → Prop} {As : List Value}
theorem z_callV (X : zX Wf m R cc own nL g n H0) {ci a N : Nat} {C : String} {T : u_T} {ty : Nat → FieldType} (hM : ∀ l, l.flags = flags0 → zMet l y bytes maxL ret rm g n (.ref (g.2.2 a) :: As) h Post) (cf : zCF ci C T ty N) (hO : zO n a ci) (hyC : y.cls = C) (mf : zMV y bytes maxL ret k) (wl : Cond.methodLink own idx y ∈ zWd) (hR : (rm.frames + 1 ≤ R.frames ∧ 8 + (maxL + 11) + rm.locals ≤ R.locals) ∧ rm.cells = 0 ∧ rm.slots = 0) (hk : As.length = k) (d : decode cc pc = .ok (.invokevirtual idx, 3)) (hst : st = As.reverse ++ .ref (g.2.2 a) :: rest) (hW : (rest.map fun v => v.category).sum ≤ 8)
    (kk : ∀ (v : Option Value) (h' : zH), Post v h' → zW Wf m nL g n H0 (pc + 3) lv (v.toList ++ rest) h') : zW Wf m nL g n H0 pc lv st h := by
  obtain ⟨p, l, e, s, args, below, meth, c, cells, slots, Q, hfl, rfl, rfl, hx, hb, hml, hown, hts, hns, hK, hc, hs, hold⟩ := X
  obtain ⟨f1, f2, f3, f4, f5, f6⟩ := cf
  obtain ⟨wi, ws, wini, wc, hd⟩ := mf
  refine fun H locs ls hq hv => z_after (va_runV ⟨hx, hb, hml, hown, hts⟩ (hM l hfl H.size) ⟨callB_of k hts (zGood wc) rfl hR.2.1 hR.2.2 (hts _ wini) (hts _ wl) hd hR.1, hts _ wi, hts _ ws⟩ ⟨zBlind, ?_, fun U hU hW => ⟨rfl, by rw [hU], zU_moved hq hK hns hold hU hW⟩⟩ rfl hk hv.1 hst (lv_room hW) d ⟨hc, hs⟩) hq hv kk
  have := va_recv hK hq.1 f2 (q0 := a) (a := g.2.2 a) (fs := zfl g.2.2 h a (zfd ci)) (by rw [zws_at hO.2.1, zE_obj hO.2.2 f1])
  rw [hyC]
  exact this
theorem z_callVN (X : zX Wf m R cc own nL g n H0) {ci a N : Nat} {C host : String} {T : u_T} {ty : Nat → FieldType} (hM : ∀ l, l.flags = flags0 → zMet l y bytes maxL ret rm g n (.ref (g.2.2 a) :: As) h Post) (cf : zCF ci C T ty N) (hO : zO n a ci) (hyC : y.cls = C) (mf : zMV y bytes maxL ret k) (wl : Cond.methodLinkNest own idx y host ∈ zNs) (hR : (rm.frames + 1 ≤ R.frames ∧ 8 + (maxL + 11) + rm.locals ≤ R.locals) ∧ rm.cells = 0 ∧ rm.slots = 0) (hk : As.length = k) (d : decode cc pc = .ok (.invokevirtual idx, 3)) (hst : st = As.reverse ++ .ref (g.2.2 a) :: rest) (hW : (rest.map fun v => v.category).sum ≤ 8)
    (kk : ∀ (v : Option Value) (h' : zH), Post v h' → zW Wf m nL g n H0 (pc + 3) lv (v.toList ++ rest) h') : zW Wf m nL g n H0 pc lv st h := by
  obtain ⟨p, l, e, s, args, below, meth, c, cells, slots, Q, hfl, rfl, rfl, hx, hb, hml, hown, hts, hns, hK, hc, hs, hold⟩ := X
  obtain ⟨f1, f2, f3, f4, f5, f6⟩ := cf
  obtain ⟨wi, ws, wini, wc, hd⟩ := mf
  refine fun H locs ls hq hv => z_after (va_runVN ⟨hx, hb, hml, hown, hts⟩ (hM l hfl H.size) ⟨va_cnB k hts (zGood wc) rfl hR.2.1 hR.2.2 (hns _ wl) (hts _ wini) hd hR.1, hts _ wi, hts _ ws⟩ ⟨zBlind, ?_, fun U hU hW => ⟨rfl, by rw [hU], zU_moved hq hK hns hold hU hW⟩⟩ rfl hk hv.1 hst (lv_room hW) d ⟨hc, hs⟩) hq hv kk
  have := va_recv hK hq.1 f2 (q0 := a) (a := g.2.2 a) (fs := zfl g.2.2 h a (zfd ci)) (by rw [zws_at hO.2.1, zE_obj hO.2.2 f1])
  rw [hyC]
  exact this
theorem z_callS (X : zX Wf m R cc own nL g n H0) (hM : ∀ l, l.flags = flags0 → zMet l y bytes maxL ret rm g n As h Post) (mf : zMS y bytes maxL ret k) (wl : Cond.methodLink own idx y ∈ zWd) (hR : (rm.frames + 1 ≤ R.frames ∧ 8 + (maxL + 11) + rm.locals ≤ R.locals) ∧ rm.cells = 0 ∧ rm.slots = 0) (hk : As.length = k) (d : decode cc pc = .ok (.invokestatic idx, 3)) (hst : st = As.reverse ++ rest) (hW : (rest.map fun v => v.category).sum ≤ 8)
    (kk : ∀ (v : Option Value) (h' : zH), Post v h' → zW Wf m nL g n H0 (pc + 3) lv (v.toList ++ rest) h') : zW Wf m nL g n H0 pc lv st h := by
  obtain ⟨p, l, e, s, args, below, meth, c, cells, slots, Q, hfl, rfl, rfl, hx, hb, hml, hown, hts, hns, hK, hc, hs, hold⟩ := X
  obtain ⟨wst, wini, wc, hd⟩ := mf
  exact fun H locs ls hq hv => z_after (va_runS ⟨hx, hb, hml, hown, hts⟩ (hM l hfl H.size) ⟨callB_of k hts (zGood wc) rfl hR.2.1 hR.2.2 (hts _ wini) (hts _ wl) hd hR.1, hts _ wst⟩ ⟨zBlind, fun U hU hW => ⟨rfl, by rw [hU], zU_moved hq hK hns hold hU hW⟩⟩ rfl hk hv.1 hst (lv_room hW) d ⟨hc, hs⟩) hq hv kk
theorem z_callSN (X : zX Wf m R cc own nL g n H0) {host : String} (hM : ∀ l, l.flags = flags0 → zMet l y bytes maxL ret rm g n As h Post) (mf : zMS y bytes maxL ret k) (wl : Cond.methodLinkNest own idx y host ∈ zNs) (hR : (rm.frames + 1 ≤ R.frames ∧ 8 + (maxL + 11) + rm.locals ≤ R.locals) ∧ rm.cells = 0 ∧ rm.slots = 0) (hk : As.length = k) (d : decode cc pc = .ok (.invokestatic idx, 3)) (hst : st = As.reverse ++ rest) (hW : (rest.map fun v => v.category).sum ≤ 8)
    (kk : ∀ (v : Option Value) (h' : zH), Post v h' → zW Wf m nL g n H0 (pc + 3) lv (v.toList ++ rest) h') : zW Wf m nL g n H0 pc lv st h := by
  obtain ⟨p, l, e, s, args, below, meth, c, cells, slots, Q, hfl, rfl, rfl, hx, hb, hml, hown, hts, hns, hK, hc, hs, hold⟩ := X
  obtain ⟨wst, wini, wc, hd⟩ := mf
  exact fun H locs ls hq hv => z_after (va_runSN ⟨hx, hb, hml, hown, hts⟩ (hM l hfl H.size) ⟨va_cnB k hts (zGood wc) rfl hR.2.1 hR.2.2 (hns _ wl) (hts _ wini) hd hR.1, hts _ wst, trivial⟩ ⟨zBlind, fun U hU hW => ⟨rfl, by rw [hU], zU_moved hq hK hns hold hU hW⟩⟩ rfl hk hv.1 hst (lv_room hW) d ⟨hc, hs⟩) hq hv kk
end ZC2
/-- how a method may end -/
def zEx (Wf : Heap → List Loc → JFrame → Prop) (m : MethodId) (cc : ByteArray) (ret : Option FieldType) (nL : Nat) (g : zG) (n : Nat) (H0 : Heap) (Post : Option Value → zH → Prop) : Prop :=
  (ret = none → ∀ pc lv h, decode cc pc = .ok (.return_, 1) → Post none h → zW Wf m nL g n H0 pc lv [] h) ∧
  (ret = some .int → ∀ pc lv h x, decode cc pc = .ok (.ireturn, 1) → Post (some (zi x)) h → zW Wf m nL g n H0 pc lv [zi x] h) ∧
  (ret = some .boolean → ∀ pc lv h x, (x = 0 ∨ x = 1) → decode cc pc = .ok (.ireturn, 1) → Post (some (zi x)) h → zW Wf m nL g n H0 pc lv [zi x] h) ∧
  (ret = some .long → ∀ pc lv h x, decode cc pc = .ok (.lreturn, 1) → Post (some (zj x)) h → zW Wf m nL g n H0 pc lv [zj x] h) ∧
  (∀ C, ret = some (.object C) → ∀ pc lv h a, decode cc pc = .ok (.areturn, 1) → Post (some (.ref a)) h → zW Wf m nL g n H0 pc lv [.ref a] h)
theorem zMet_of {l : Launch} {y : MethodName} {bytes : ByteArray} {maxL : Nat} {ret : Option FieldType} {rm : Room} {g : zG} {n : Nat} {avs : List Value} {h : zH} {Post : Option Value → zH → Prop} {own : String} (hfl : l.flags = flags0) (hy : plainName y.cls = true) (hown : y.cls = own) (hent : (lg_sl avs).length ≤ maxL)
    (body : ∀ (Wf : Heap → List Loc → JFrame → Prop) (m : MethodId) (H0 : Heap), zX Wf m rm bytes own maxL g n H0 → zEx Wf m bytes ret maxL g n H0 Post → zW Wf m maxL g n H0 0 (lv_args 0 avs) [] h) : zMet l y bytes maxL ret rm g n avs h Post := by
  intro sz
  refine Met.ofW (cc := bytes) (maxL := maxL) (ret := ret) hy rfl ?_
  intro p e s m args below meth c s₁ B hml hv
  obtain ⟨rfl, hsz, hP, hK, hN, hD, hold⟩ := hv
  have hx := B.exec
  have hb := B.bytes
  have hr := B.returns
  have hts := atoms_spec (ws := Cond.code y bytes maxL ret :: zWd) B.pre
  have hts' : ∀ w ∈ zWd, w.before avs.toArray s = true := fun w hw => hts w (List.mem_cons_of_mem _ hw)
  have how : s.vm.findClass own = some m.cls := by rw [← hown]; exact findClass_of_methodNamed B.named
  have hlocks := B.notSynchronized
  subst hsz
  have hq : zQ g n h s.heap s.heap [] := by
    refine ⟨hP, ⟨hD.1, fun k q hk => ?_⟩, va_S.rf⟩
    have hl := (List.getElem?_eq_some_iff.mp hk).1
    have hn : k < n := by simpa [zws] using hl
    rw [zws_at hn] at hk
    cases hk
    exact Or.inl ⟨k, hn, rfl⟩
  have hl := lv_entry avs (n := maxL) hent
  rw [lg_entry_eq]
  refine body _ m s.heap ⟨p, l, e, s, avs.toArray, below, meth, c, 0, 0, _, hfl, rfl, rfl, hx, hb, hml, how, hts', hN, hK, Nat.zero_le _, Nat.zero_le _, hold⟩ ?_ s.heap [] _ hq hl
  have fin : ∀ (v : Option Value) (h' : zH) (H : Heap) (locs : List Loc) (t : State), Post v h' → zQ g n h' s.heap H locs → t.heap = H → s.WarmedH t.vm → (∃ (v' : Option Value) (h'' : zH), Outcome.returned v = .returned v' ∧ Post v' h'' ∧ zU g n h'' t) ∧ va_F (zA g n s.heap.size) s t :=
    fun v h' H locs t hp hq ht hW => ⟨⟨v, h', rfl, hp, zU_moved hq hK hN hold ht hW⟩, hq.2.2.F ht⟩
  refine ⟨fun e => ?_, fun e => ?_, fun e => ?_, fun e => ?_, fun C e => ?_⟩
  · intro pc lv h' d hp H locs ls hq hv
    exact W.vret hx hb (hr.trans e) (fun t ht hW => fin _ h' H locs t hp hq ht hW) hq.2.2.2.2 d
  · intro pc lv h' x d hp H locs ls hq hv
    exact W.iret hx hb (hr.trans e) (fun t ht hW => fin _ h' H locs t hp hq ht hW) hq.2.2.2.2 d
  · intro pc lv h' x hx2 d hp H locs ls hq hv
    exact W.zret hx hb (hr.trans e) (z_bit hx2).1 (fun t ht hW => fin _ h' H locs t hp hq ht hW) hq.2.2.2.2 d
  · intro pc lv h' x d hp H locs ls hq hv
    exact W.lret hx hb (hr.trans e) (fun t ht hW => fin _ h' H locs t hp hq ht hW) hq.2.2.2.2 d
  · intro pc lv h' a d hp H locs ls hq hv
    exact W.aret hx hb (hr.trans e) (Or.inl ⟨C, rfl⟩) (Or.inr ⟨a, rfl⟩) (fun t ht hW => fin _ h' H locs t hp hq ht hW) hq.2.2.2.2 d
end
section
/-! where a field points to: which kind, and how long (printed by wip/whole/gen.py) -/
theorem gf_History_0 {n k : Nat} (h : zO n k 0) : zO n (k + 1) 15 := h.go (by decide +kernel)
theorem gl_History_0 {n k : Nat} (h : zO n k 0) : zln (k + 1) = 14 := h.len (by decide +kernel)
theorem gf_Model_0 {n k : Nat} (h : zO n k 1) : zO n (k + 1) 12 := h.go (by decide +kernel)
theorem gl_Model_0 {n k : Nat} (h : zO n k 1) : zln (k + 1) = 8 := h.len (by decide +kernel)
theorem gf_Model_1 {n k : Nat} (h : zO n k 1) : zO n (k + 2) 12 := h.go (by decide +kernel)
theorem gl_Model_1 {n k : Nat} (h : zO n k 1) : zln (k + 2) = 8 := h.len (by decide +kernel)
theorem gf_Model_2 {n k : Nat} (h : zO n k 1) : zO n (k + 3) 12 := h.go (by decide +kernel)
theorem gl_Model_2 {n k : Nat} (h : zO n k 1) : zln (k + 3) = 8 := h.len (by decide +kernel)
theorem gf_Model_3 {n k : Nat} (h : zO n k 1) : zO n (k + 4) 12 := h.go (by decide +kernel)
theorem gl_Model_3 {n k : Nat} (h : zO n k 1) : zln (k + 4) = 8 := h.len (by decide +kernel)
theorem gf_Model_4 {n k : Nat} (h : zO n k 1) : zO n (k + 5) 13 := h.go (by decide +kernel)
theorem gl_Model_4 {n k : Nat} (h : zO n k 1) : zln (k + 5) = 8 := h.len (by decide +kernel)
theorem gf_Model_5 {n k : Nat} (h : zO n k 1) : zO n (k + 6) 12 := h.go (by decide +kernel)
theorem gl_Model_5 {n k : Nat} (h : zO n k 1) : zln (k + 6) = 32 := h.len (by decide +kernel)
theorem gf_Model_6 {n k : Nat} (h : zO n k 1) : zO n (k + 7) 12 := h.go (by decide +kernel)
theorem gl_Model_6 {n k : Nat} (h : zO n k 1) : zln (k + 7) = 32 := h.len (by decide +kernel)
theorem gf_Model_7 {n k : Nat} (h : zO n k 1) : zO n (k + 8) 12 := h.go (by decide +kernel)
theorem gl_Model_7 {n k : Nat} (h : zO n k 1) : zln (k + 8) = 256 := h.len (by decide +kernel)
theorem gf_Model_8 {n k : Nat} (h : zO n k 1) : zO n (k + 9) 12 := h.go (by decide +kernel)
theorem gl_Model_8 {n k : Nat} (h : zO n k 1) : zln (k + 9) = 8 := h.len (by decide +kernel)
theorem gf_Models_0 {n k : Nat} (h : zO n k 2) : zO n (k + 1) 14 := h.go (by decide +kernel)
theorem gl_Models_0 {n k : Nat} (h : zO n k 2) : zln (k + 1) = 3 := h.len (by decide +kernel)
theorem gf_Saves_0 {n k : Nat} (h : zO n k 3) : zO n (k + 1) 15 := h.go (by decide +kernel)
theorem gl_Saves_0 {n k : Nat} (h : zO n k 3) : zln (k + 1) = 2 := h.len (by decide +kernel)
theorem gf_Saves_1 {n k : Nat} (h : zO n k 3) : zO n (k + 16) 13 := h.go (by decide +kernel)
theorem gl_Saves_1 {n k : Nat} (h : zO n k 3) : zln (k + 16) = 2 := h.len (by decide +kernel)
theorem gf_Script_0 {n k : Nat} (h : zO n k 4) : zO n (k + 1) 5 := h.go (by decide +kernel)
theorem gf_Script_1 {n k : Nat} (h : zO n k 4) : zO n (k + 8) 6 := h.go (by decide +kernel)
theorem gf_Script_2 {n k : Nat} (h : zO n k 4) : zO n (k + 11) 7 := h.go (by decide +kernel)
theorem gf_State_0 {n k : Nat} (h : zO n k 5) : zO n (k + 1) 12 := h.go (by decide +kernel)
theorem gl_State_0 {n k : Nat} (h : zO n k 5) : zln (k + 1) = 24 := h.len (by decide +kernel)
theorem gf_State_1 {n k : Nat} (h : zO n k 5) : zO n (k + 2) 12 := h.go (by decide +kernel)
theorem gl_State_1 {n k : Nat} (h : zO n k 5) : zln (k + 2) = 40 := h.len (by decide +kernel)
theorem gf_State_2 {n k : Nat} (h : zO n k 5) : zO n (k + 3) 8 := h.go (by decide +kernel)
theorem gf_Symbols_0 {n k : Nat} (h : zO n k 6) : zO n (k + 1) 12 := h.go (by decide +kernel)
theorem gl_Symbols_0 {n k : Nat} (h : zO n k 6) : zln (k + 1) = 40 := h.len (by decide +kernel)
theorem gf_Symbols_1 {n k : Nat} (h : zO n k 6) : zO n (k + 2) 12 := h.go (by decide +kernel)
theorem gl_Symbols_1 {n k : Nat} (h : zO n k 6) : zln (k + 2) = 40 := h.len (by decide +kernel)
theorem gf_Taking_0 {n k : Nat} (h : zO n k 7) : zO n (k + 1) 12 := h.go (by decide +kernel)
theorem gl_Taking_0 {n k : Nat} (h : zO n k 7) : zln (k + 1) = 40 := h.len (by decide +kernel)
theorem gf_Taking_1 {n k : Nat} (h : zO n k 7) : zO n (k + 2) 12 := h.go (by decide +kernel)
theorem gl_Taking_1 {n k : Nat} (h : zO n k 7) : zln (k + 2) = 40 := h.len (by decide +kernel)
theorem gf_Taking_2 {n k : Nat} (h : zO n k 7) : zO n (k + 3) 12 := h.go (by decide +kernel)
theorem gl_Taking_2 {n k : Nat} (h : zO n k 7) : zln (k + 3) = 40 := h.len (by decide +kernel)
theorem gf_Taking_3 {n k : Nat} (h : zO n k 7) : zO n (k + 4) 12 := h.go (by decide +kernel)
theorem gl_Taking_3 {n k : Nat} (h : zO n k 7) : zln (k + 4) = 40 := h.len (by decide +kernel)
theorem gf_Taking_4 {n k : Nat} (h : zO n k 7) : zO n (k + 5) 12 := h.go (by decide +kernel)
theorem gl_Taking_4 {n k : Nat} (h : zO n k 7) : zln (k + 5) = 2 := h.len (by decide +kernel)
theorem gf_Tape_0 {n k : Nat} (h : zO n k 8) : zO n (k + 1) 12 := h.go (by decide +kernel)
theorem gl_Tape_0 {n k : Nat} (h : zO n k 8) : zln (k + 1) = 40 := h.len (by decide +kernel)
theorem gf_Tape_1 {n k : Nat} (h : zO n k 8) : zO n (k + 2) 12 := h.go (by decide +kernel)
theorem gl_Tape_1 {n k : Nat} (h : zO n k 8) : zln (k + 2) = 80 := h.len (by decide +kernel)
theorem gf_Tape_2 {n k : Nat} (h : zO n k 8) : zO n (k + 3) 12 := h.go (by decide +kernel)
theorem gl_Tape_2 {n k : Nat} (h : zO n k 8) : zln (k + 3) = 2 := h.len (by decide +kernel)
theorem gf_Text_0 {n k : Nat} (h : zO n k 9) : zO n (k + 1) 12 := h.go (by decide +kernel)
theorem gl_Text_0 {n k : Nat} (h : zO n k 9) : zln (k + 1) = 100 := h.len (by decide +kernel)
theorem gf_Text_1 {n k : Nat} (h : zO n k 9) : zO n (k + 2) 12 := h.go (by decide +kernel)
theorem gl_Text_1 {n k : Nat} (h : zO n k 9) : zln (k + 2) = 24 := h.len (by decide +kernel)
theorem gf_Text_2 {n k : Nat} (h : zO n k 9) : zO n (k + 3) 12 := h.go (by decide +kernel)
theorem gl_Text_2 {n k : Nat} (h : zO n k 9) : zln (k + 3) = 40 := h.len (by decide +kernel)
theorem gf_AS_0 {n k : Nat} (h : zO n k 10) : zO n (k + 1) 9 := h.go (by decide +kernel)
theorem gf_AS_1 {n k : Nat} (h : zO n k 10) : zO n (k + 5) 2 := h.go (by decide +kernel)
theorem gf_AS_2 {n k : Nat} (h : zO n k 10) : zO n (k + 37) 5 := h.go (by decide +kernel)
theorem gf_AS_3 {n k : Nat} (h : zO n k 10) : zO n (k + 44) 0 := h.go (by decide +kernel)
theorem gf_AS_4 {n k : Nat} (h : zO n k 10) : zO n (k + 144) 3 := h.go (by decide +kernel)
theorem gf_AS_5 {n k : Nat} (h : zO n k 10) : zO n (k + 161) 6 := h.go (by decide +kernel)
theorem gf_AS_6 {n k : Nat} (h : zO n k 10) : zO n (k + 164) 7 := h.go (by decide +kernel)
theorem gf_AS_7 {n k : Nat} (h : zO n k 10) : zO n (k + 170) 7 := h.go (by decide +kernel)
theorem gf_AS_8 {n k : Nat} (h : zO n k 10) : zO n (k + 176) 8 := h.go (by decide +kernel)
theorem gf_AS_9 {n k : Nat} (h : zO n k 10) : zO n (k + 180) 4 := h.go (by decide +kernel)
theorem gf_RM_1 {n k : Nat} (h : zO n k 11) : zO n (k + 1) 12 := h.go (by decide +kernel)
theorem gl_RM_1 {n k : Nat} (h : zO n k 11) : zln (k + 1) = 100 := h.len (by decide +kernel)
theorem gf_RM_8 {n k : Nat} (h : zO n k 11) : zO n (k + 2) 12 := h.go (by decide +kernel)
theorem gl_RM_8 {n k : Nat} (h : zO n k 11) : zln (k + 2) = 193 := h.len (by decide +kernel)
theorem gf_RM_9 {n k : Nat} (h : zO n k 11) : zO n (k + 3) 12 := h.go (by decide +kernel)
theorem gl_RM_9 {n k : Nat} (h : zO n k 11) : zln (k + 3) = 193 := h.len (by decide +kernel)
theorem gf_RM_10 {n k : Nat} (h : zO n k 11) : zO n (k + 4) 12 := h.go (by decide +kernel)
theorem gl_RM_10 {n k : Nat} (h : zO n k 11) : zln (k + 4) = 193 := h.len (by decide +kernel)
theorem gf_RM_11 {n k : Nat} (h : zO n k 11) : zO n (k + 5) 12 := h.go (by decide +kernel)
theorem gl_RM_11 {n k : Nat} (h : zO n k 11) : zln (k + 5) = 193 := h.len (by decide +kernel)
theorem gf_RM_12 {n k : Nat} (h : zO n k 11) : zO n (k + 6) 12 := h.go (by decide +kernel)
theorem gl_RM_12 {n k : Nat} (h : zO n k 11) : zln (k + 6) = 2702 := h.len (by decide +kernel)
theorem gf_RM_14 {n k : Nat} (h : zO n k 11) : zO n (k + 7) 12 := h.go (by decide +kernel)
theorem gl_RM_14 {n k : Nat} (h : zO n k 11) : zln (k + 7) = 386 := h.len (by decide +kernel)
theorem gf_RM_15 {n k : Nat} (h : zO n k 11) : zO n (k + 8) 13 := h.go (by decide +kernel)
theorem gl_RM_15 {n k : Nat} (h : zO n k 11) : zln (k + 8) = 2 := h.len (by decide +kernel)
theorem gf_RM_16 {n k : Nat} (h : zO n k 11) : zO n (k + 9) 12 := h.go (by decide +kernel)
theorem gl_RM_16 {n k : Nat} (h : zO n k 11) : zln (k + 9) = 24 := h.len (by decide +kernel)
theorem gf_RM_17 {n k : Nat} (h : zO n k 11) : zO n (k + 10) 12 := h.go (by decide +kernel)
theorem gl_RM_17 {n k : Nat} (h : zO n k 11) : zln (k + 10) = 24 := h.len (by decide +kernel)
theorem gf_RM_18 {n k : Nat} (h : zO n k 11) : zO n (k + 11) 12 := h.go (by decide +kernel)
theorem gl_RM_18 {n k : Nat} (h : zO n k 11) : zln (k + 11) = 24 := h.len (by decide +kernel)
theorem gf_RM_19 {n k : Nat} (h : zO n k 11) : zO n (k + 12) 12 := h.go (by decide +kernel)
theorem gl_RM_19 {n k : Nat} (h : zO n k 11) : zln (k + 12) = 96 := h.len (by decide +kernel)
theorem gf_RM_20 {n k : Nat} (h : zO n k 11) : zO n (k + 13) 12 := h.go (by decide +kernel)
theorem gl_RM_20 {n k : Nat} (h : zO n k 11) : zln (k + 13) = 96 := h.len (by decide +kernel)
theorem gf_RM_21 {n k : Nat} (h : zO n k 11) : zO n (k + 14) 12 := h.go (by decide +kernel)
theorem gl_RM_21 {n k : Nat} (h : zO n k 11) : zln (k + 14) = 768 := h.len (by decide +kernel)
theorem gf_RM_22 {n k : Nat} (h : zO n k 11) : zO n (k + 15) 12 := h.go (by decide +kernel)
theorem gl_RM_22 {n k : Nat} (h : zO n k 11) : zln (k + 15) = 8 := h.len (by decide +kernel)
theorem gf_RM_23 {n k : Nat} (h : zO n k 11) : zO n (k + 16) 13 := h.go (by decide +kernel)
theorem gl_RM_23 {n k : Nat} (h : zO n k 11) : zln (k + 16) = 8 := h.len (by decide +kernel)
theorem gf_RM_24 {n k : Nat} (h : zO n k 11) : zO n (k + 17) 12 := h.go (by decide +kernel)
theorem gl_RM_24 {n k : Nat} (h : zO n k 11) : zln (k + 17) = 40 := h.len (by decide +kernel)
theorem gf_RM_25 {n k : Nat} (h : zO n k 11) : zO n (k + 18) 12 := h.go (by decide +kernel)
theorem gl_RM_25 {n k : Nat} (h : zO n k 11) : zln (k + 18) = 40 := h.len (by decide +kernel)
theorem gf_RM_26 {n k : Nat} (h : zO n k 11) : zO n (k + 19) 12 := h.go (by decide +kernel)
theorem gl_RM_26 {n k : Nat} (h : zO n k 11) : zln (k + 19) = 41 := h.len (by decide +kernel)
theorem gf_RM_28 {n k : Nat} (h : zO n k 11) : zO n (k + 20) 12 := h.go (by decide +kernel)
theorem gl_RM_28 {n k : Nat} (h : zO n k 11) : zln (k + 20) = 40 := h.len (by decide +kernel)
theorem gf_RM_29 {n k : Nat} (h : zO n k 11) : zO n (k + 21) 12 := h.go (by decide +kernel)
theorem gl_RM_29 {n k : Nat} (h : zO n k 11) : zln (k + 21) = 40 := h.len (by decide +kernel)
theorem gf_RM_30 {n k : Nat} (h : zO n k 11) : zO n (k + 22) 12 := h.go (by decide +kernel)
theorem gl_RM_30 {n k : Nat} (h : zO n k 11) : zln (k + 22) = 40 := h.len (by decide +kernel)
theorem gM {n a i : Nat} (h : zO n a 14) (hi : i < zln a) : zO n (a + 1 + 10 * i) 1 := by
  have hl := h.lt
  obtain ⟨h1, h2, h3⟩ := h
  have ck : (List.range 221).all (fun a => !(zkd a == 14) || (List.range (zln a)).all (fun i => (zkd (a + 1 + 10 * i) == 1) && decide (a + 1 + 10 * i < 197))) = true := by decide +kernel
  have := List.all_eq_true.mp ck a (List.mem_range.mpr hl)
  rw [h3] at this
  simp only [beq_self_eq_true, Bool.not_true, Bool.false_or] at this
  have := List.all_eq_true.mp this i (List.mem_range.mpr hi)
  simp only [Bool.and_eq_true, beq_iff_eq, decide_eq_true_eq] at this
  refine ⟨h1, ?_, this.1⟩
  unfold zN at h1
  omega
theorem gS {n a i : Nat} (h : zO n a 15) (hi : i < zln a) : zO n (a + 1 + 7 * i) 5 := by
  have hl := h.lt
  obtain ⟨h1, h2, h3⟩ := h
  have ck : (List.range 221).all (fun a => !(zkd a == 15) || (List.range (zln a)).all (fun i => (zkd (a + 1 + 7 * i) == 5) && decide (a + 1 + 7 * i < 197))) = true := by decide +kernel
  have := List.all_eq_true.mp ck a (List.mem_range.mpr hl)
  rw [h3] at this
  simp only [beq_self_eq_true, Bool.not_true, Bool.false_or] at this
  have := List.all_eq_true.mp this i (List.mem_range.mpr hi)
  simp only [Bool.and_eq_true, beq_iff_eq, decide_eq_true_eq] at this
  refine ⟨h1, ?_, this.1⟩
  unfold zN at h1
  omega
theorem gi {len a : Nat} {i : Int} (hl : zln a = len) (h0 : 0 ≤ i) (h1 : i < (len : Int)) : i.toNat < zln a := by omega
section ZT
variable {Wf : Heap → List Loc → JFrame → Prop} {m : MethodId} {R : Room} {cc : ByteArray} {own : String} {nL : Nat} {g : zG} {n : Nat} {H0 : Heap} {pc : Nat} {lv : List (Nat × Value)} {rest : List Value} {h : zH}
theorem z_topi {x : Int} (k : ∀ y : Int, y = x → zW Wf m nL g n H0 pc lv (zi y :: rest) h) : zW Wf m nL g n H0 pc lv (zi x :: rest) h := k x rfl
theorem z_topj {x : Int} (k : ∀ y : Int, y = x → zW Wf m nL g n H0 pc lv (zj y :: rest) h) : zW Wf m nL g n H0 pc lv (zj x :: rest) h := k x rfl
theorem z_toph (k : ∀ h1 : zH, h1 = h → zW Wf m nL g n H0 pc lv rest h1) : zW Wf m nL g n H0 pc lv rest h := k h rfl
theorem z_lif_lt (X : zX Wf m R cc own nL g n H0) {x y off : Int} {tgt : Nat} (hx1 : zrl x) (hy1 : zrl y) (d0 : decode cc pc = .ok (.lcmp, 1)) (d : decode cc (pc + 1) = .ok (.ifCond .lt off, 3)) (ht : ((pc + 1 : Nat) : Int) + off = (tgt : Int)) (kt : x < y → zW Wf m nL g n H0 tgt lv rest h) (kf : y ≤ x → zW Wf m nL g n H0 (pc + 1 + 3) lv rest h) : zW Wf m nL g n H0 pc lv (zj y :: zj x :: rest) h := by
  refine z_lcmp X hx1 hy1 d0 (z_if_lt X (zr_cmp x y) d ht (fun q => kt ?_) (fun q => kf ?_)) <;> (unfold zcmp at q; split at q <;> (try split at q) <;> omega)
theorem z_lif_ge (X : zX Wf m R cc own nL g n H0) {x y off : Int} {tgt : Nat} (hx1 : zrl x) (hy1 : zrl y) (d0 : decode cc pc = .ok (.lcmp, 1)) (d : decode cc (pc + 1) = .ok (.ifCond .ge off, 3)) (ht : ((pc + 1 : Nat) : Int) + off = (tgt : Int)) (kt : y ≤ x → zW Wf m nL g n H0 tgt lv rest h) (kf : x < y → zW Wf m nL g n H0 (pc + 1 + 3) lv rest h) : zW Wf m nL g n H0 pc lv (zj y :: zj x :: rest) h := by
  refine z_lcmp X hx1 hy1 d0 (z_if_ge X (zr_cmp x y) d ht (fun q => kt ?_) (fun q => kf ?_)) <;> (unfold zcmp at q; split at q <;> (try split at q) <;> omega)
theorem z_lif_gt (X : zX Wf m R cc own nL g n H0) {x y off : Int} {tgt : Nat} (hx1 : zrl x) (hy1 : zrl y) (d0 : decode cc pc = .ok (.lcmp, 1)) (d : decode cc (pc + 1) = .ok (.ifCond .gt off, 3)) (ht : ((pc + 1 : Nat) : Int) + off = (tgt : Int)) (kt : y < x → zW Wf m nL g n H0 tgt lv rest h) (kf : x ≤ y → zW Wf m nL g n H0 (pc + 1 + 3) lv rest h) : zW Wf m nL g n H0 pc lv (zj y :: zj x :: rest) h := by
  refine z_lcmp X hx1 hy1 d0 (z_if_gt X (zr_cmp x y) d ht (fun q => kt ?_) (fun q => kf ?_)) <;> (unfold zcmp at q; split at q <;> (try split at q) <;> omega)
theorem z_lif_le (X : zX Wf m R cc own nL g n H0) {x y off : Int} {tgt : Nat} (hx1 : zrl x) (hy1 : zrl y) (d0 : decode cc pc = .ok (.lcmp, 1)) (d : decode cc (pc + 1) = .ok (.ifCond .le off, 3)) (ht : ((pc + 1 : Nat) : Int) + off = (tgt : Int)) (kt : x ≤ y → zW Wf m nL g n H0 tgt lv rest h) (kf : y < x → zW Wf m nL g n H0 (pc + 1 + 3) lv rest h) : zW Wf m nL g n H0 pc lv (zj y :: zj x :: rest) h := by
  refine z_lcmp X hx1 hy1 d0 (z_if_le X (zr_cmp x y) d ht (fun q => kt ?_) (fun q => kf ?_)) <;> (unfold zcmp at q; split at q <;> (try split at q) <;> omega)
theorem z_lif_eq (X : zX Wf m R cc own nL g n H0) {x y off : Int} {tgt : Nat} (hx1 : zrl x) (hy1 : zrl y) (d0 : decode cc pc = .ok (.lcmp, 1)) (d : decode cc (pc + 1) = .ok (.ifCond .eq off, 3)) (ht : ((pc + 1 : Nat) : Int) + off = (tgt : Int)) (kt : x = y → zW Wf m nL g n H0 tgt lv rest h) (kf : x ≠ y → zW Wf m nL g n H0 (pc + 1 + 3) lv rest h) : zW Wf m nL g n H0 pc lv (zj y :: zj x :: rest) h := by
  refine z_lcmp X hx1 hy1 d0 (z_if_eq X (zr_cmp x y) d ht (fun q => kt ?_) (fun q => kf ?_)) <;> (unfold zcmp at q; split at q <;> (try split at q) <;> omega)
theorem z_lif_ne (X : zX Wf m R cc own nL g n H0) {x y off : Int} {tgt : Nat} (hx1 : zrl x) (hy1 : zrl y) (d0 : decode cc pc = .ok (.lcmp, 1)) (d : decode cc (pc + 1) = .ok (.ifCond .ne off, 3)) (ht : ((pc + 1 : Nat) : Int) + off = (tgt : Int)) (kt : x ≠ y → zW Wf m nL g n H0 tgt lv rest h) (kf : x = y → zW Wf m nL g n H0 (pc + 1 + 3) lv rest h) : zW Wf m nL g n H0 pc lv (zj y :: zj x :: rest) h := by
  refine z_lcmp X hx1 hy1 d0 (z_if_ne X (zr_cmp x y) d ht (fun q => kt ?_) (fun q => kf ?_)) <;> (unfold zcmp at q; split at q <;> (try split at q) <;> omega)
end ZT
end
section
/-! rows with the place of an array named, and other small ones -/
section ZM
variable {Wf : Heap → List Loc → JFrame → Prop} {m : MethodId} {R : Room} {cc : ByteArray} {own : String} {nL : Nat} {g : zG} {n : Nat} {H0 : Heap} {pc : Nat} {lv lv' : List (Nat × Value)} {rest : List Value} {h : zH}
theorem z_ialdj (X : zX Wf m R cc own nL g n H0) {a len j : Nat} {i : Int} (hO : zO n a 12) (hlen : zln a = len) (hi : zr i) (hb : 0 ≤ i ∧ i < (len : Int)) (hj : i.toNat = j) (d : decode cc pc = .ok (.iaload, 1)) (k : zW Wf m nL g n H0 (pc + 1) lv (zi (h a j) :: rest) h) : zW Wf m nL g n H0 pc lv (zi i :: .ref (g.2.2 a) :: rest) h := by
  subst hj
  exact z_iald X hO hlen hi hb.1 hb.2 d k
theorem z_zaldj (X : zX Wf m R cc own nL g n H0) {a len j : Nat} {i : Int} (hO : zO n a 13) (hlen : zln a = len) (hi : zr i) (hb : 0 ≤ i ∧ i < (len : Int)) (hj : i.toNat = j) (d : decode cc pc = .ok (.baload, 1)) (k : zW Wf m nL g n H0 (pc + 1) lv (zi (h a j) :: rest) h) : zW Wf m nL g n H0 pc lv (zi i :: .ref (g.2.2 a) :: rest) h := by
  subst hj
  exact z_zald X hO hlen hi hb.1 hb.2 d k
theorem z_laldj (X : zX Wf m R cc own nL g n H0) {a len j : Nat} {i : Int} (hO : zO n a 16) (hlen : zln a = len) (hi : zr i) (hb : 0 ≤ i ∧ i < (len : Int)) (hj : i.toNat = j) (d : decode cc pc = .ok (.laload, 1)) (k : zW Wf m nL g n H0 (pc + 1) lv (zj (h a j) :: rest) h) : zW Wf m nL g n H0 pc lv (zi i :: .ref (g.2.2 a) :: rest) h := by
  subst hj
  exact z_lald X hO hlen hi hb.1 hb.2 d k
theorem z_iastj (X : zX Wf m R cc own nL g n H0) {a len j : Nat} {i x : Int} (hO : zO n a 12) (hlen : zln a = len) (hi : zr i) (hb : 0 ≤ i ∧ i < (len : Int)) (hj : i.toNat = j) (d : decode cc pc = .ok (.iastore, 1)) (k : zW Wf m nL g n H0 (pc + 1) lv rest (zs h a j x)) : zW Wf m nL g n H0 pc lv (zi x :: zi i :: .ref (g.2.2 a) :: rest) h := by
  subst hj
  exact z_iast X hO hlen hi hb.1 hb.2 d k
theorem z_zastj (X : zX Wf m R cc own nL g n H0) {a len j : Nat} {i x : Int} (hO : zO n a 13) (hlen : zln a = len) (hi : zr i) (hb : 0 ≤ i ∧ i < (len : Int)) (hj : i.toNat = j) (hx2 : x = 0 ∨ x = 1) (d : decode cc pc = .ok (.bastore, 1)) (k : zW Wf m nL g n H0 (pc + 1) lv rest (zs h a j x)) : zW Wf m nL g n H0 pc lv (zi x :: zi i :: .ref (g.2.2 a) :: rest) h := by
  subst hj
  exact z_zast X hO hlen hi hb.1 hb.2 hx2 d k
theorem z_lastj (X : zX Wf m R cc own nL g n H0) {a len j : Nat} {i x : Int} (hO : zO n a 16) (hlen : zln a = len) (hi : zr i) (hb : 0 ≤ i ∧ i < (len : Int)) (hj : i.toNat = j) (d : decode cc pc = .ok (.lastore, 1)) (k : zW Wf m nL g n H0 (pc + 1) lv rest (zs h a j x)) : zW Wf m nL g n H0 pc lv (zj x :: zi i :: .ref (g.2.2 a) :: rest) h := by
  subst hj
  exact z_last X hO hlen hi hb.1 hb.2 d k
theorem z_aaldMj (X : zX Wf m R cc own nL g n H0) {a len : Nat} {i : Int} (hO : zO n a 14) (hlen : zln a = len) (hi : zr i) (hb : 0 ≤ i ∧ i < (len : Int)) (d : decode cc pc = .ok (.aaload, 1)) (k : zW Wf m nL g n H0 (pc + 1) lv (.ref (g.2.2 (a + 1 + 10 * i.toNat)) :: rest) h) : zW Wf m nL g n H0 pc lv (zi i :: .ref (g.2.2 a) :: rest) h := z_aaldM X hO hlen hi hb.1 hb.2 d k
theorem z_aaldSj (X : zX Wf m R cc own nL g n H0) {a len : Nat} {i : Int} (hO : zO n a 15) (hlen : zln a = len) (hi : zr i) (hb : 0 ≤ i ∧ i < (len : Int)) (d : decode cc pc = .ok (.aaload, 1)) (k : zW Wf m nL g n H0 (pc + 1) lv (.ref (g.2.2 (a + 1 + 7 * i.toNat)) :: rest) h) : zW Wf m nL g n H0 pc lv (zi i :: .ref (g.2.2 a) :: rest) h := z_aaldS X hO hlen hi hb.1 hb.2 d k
theorem z_wi {x : Int} (k : zW Wf m nL g n H0 pc lv (zi (zw x) :: rest) h) : zW Wf m nL g n H0 pc lv (zi x :: rest) h := by
  rw [zi_w] at k
  exact k
theorem z_wj {x : Int} (k : zW Wf m nL g n H0 pc lv (zj (zwl x) :: rest) h) : zW Wf m nL g n H0 pc lv (zj x :: rest) h := by
  rw [zj_w] at k
  exact k
/-- x >>> 33, and a bit of the law: x & y, x << 32, x | y of longs -/
def zushr (x y : Int) : Int := ((Int64.ofInt x).toUInt64 >>> ((Int32.ofInt y).toInt64.toUInt64 &&& Int64.toUInt64 63)).toInt64.toInt
def zshl (x y : Int) : Int := (Int64.ofInt x <<< ((Int32.ofInt y).toInt64 &&& 63)).toInt
def zandl (x y : Int) : Int := (Int64.ofInt x &&& Int64.ofInt y).toInt
def zorl (x y : Int) : Int := (Int64.ofInt x ||| Int64.ofInt y).toInt
def zand (x y : Int) : Int := (Int32.ofInt x &&& Int32.ofInt y).toInt
theorem zrl_int (x : Int64) : zrl x.toInt := by
  have a := Int64.le_toInt x
  have b := Int64.toInt_lt x
  omega
theorem zr_int (x : Int32) : zr x.toInt := by
  have a := Int32.le_toInt x
  have b := Int32.toInt_lt x
  omega
theorem z_lushr (X : zX Wf m R cc own nL g n H0) {x y : Int} (d : decode cc pc = .ok (.lushr, 1)) (k : zW Wf m nL g n H0 (pc + 1) lv (zj (zushr x y) :: rest) h) : zW Wf m nL g n H0 pc lv (zi y :: zj x :: rest) h := by
  obtain ⟨p, l, e, s, args, below, meth, c, cells, slots, Q, hfl, rfl, rfl, hx, hb, -⟩ := X
  exact fun H locs ls hq hv => lv_lushr hx hb d (by unfold zushr; rw [Int64.ofInt_toInt]) (k H locs ls hq hv)
theorem z_lshl (X : zX Wf m R cc own nL g n H0) {x y : Int} (d : decode cc pc = .ok (.lshl, 1)) (k : zW Wf m nL g n H0 (pc + 1) lv (zj (zshl x y) :: rest) h) : zW Wf m nL g n H0 pc lv (zi y :: zj x :: rest) h := by
  obtain ⟨p, l, e, s, args, below, meth, c, cells, slots, Q, hfl, rfl, rfl, hx, hb, -⟩ := X
  exact fun H locs ls hq hv => lv_lshl hx hb d (by unfold zshl; rw [Int64.ofInt_toInt]) (k H locs ls hq hv)
theorem z_land (X : zX Wf m R cc own nL g n H0) {x y : Int} (d : decode cc pc = .ok (.land, 1)) (k : zW Wf m nL g n H0 (pc + 1) lv (zj (zandl x y) :: rest) h) : zW Wf m nL g n H0 pc lv (zj y :: zj x :: rest) h := by
  obtain ⟨p, l, e, s, args, below, meth, c, cells, slots, Q, hfl, rfl, rfl, hx, hb, -⟩ := X
  exact fun H locs ls hq hv => lv_land hx hb d (by have := k H locs ls hq hv; rw [show zj (zandl x y) = .long (Int64.ofInt x &&& Int64.ofInt y) from by unfold zandl zj; rw [Int64.ofInt_toInt]] at this; exact this)
theorem z_lor (X : zX Wf m R cc own nL g n H0) {x y : Int} (d : decode cc pc = .ok (.lor, 1)) (k : zW Wf m nL g n H0 (pc + 1) lv (zj (zorl x y) :: rest) h) : zW Wf m nL g n H0 pc lv (zj y :: zj x :: rest) h := by
  obtain ⟨p, l, e, s, args, below, meth, c, cells, slots, Q, hfl, rfl, rfl, hx, hb, -⟩ := X
  exact fun H locs ls hq hv => lv_lor hx hb d (by have := k H locs ls hq hv; rw [show zj (zorl x y) = .long (Int64.ofInt x ||| Int64.ofInt y) from by unfold zorl zj; rw [Int64.ofInt_toInt]] at this; exact this)
theorem z_iand (X : zX Wf m R cc own nL g n H0) {x y : Int} (d : decode cc pc = .ok (.iand, 1)) (k : zW Wf m nL g n H0 (pc + 1) lv (zi (zand x y) :: rest) h) : zW Wf m nL g n H0 pc lv (zi y :: zi x :: rest) h := by
  obtain ⟨p, l, e, s, args, below, meth, c, cells, slots, Q, hfl, rfl, rfl, hx, hb, -⟩ := X
  exact fun H locs ls hq hv => lv_iand hx hb d (by have := k H locs ls hq hv; rw [show zi (zand x y) = .int (Int32.ofInt x &&& Int32.ofInt y) from by unfold zand zi; rw [Int32.ofInt_toInt]] at this; exact this)
/-- the ends of a method, by what it answers -/
abbrev zPi (K : Int → zH → Prop) : Option Value → zH → Prop := fun v h' => ∃ r : Int, v = some (zi r) ∧ zr r ∧ zh h' ∧ K r h'
abbrev zPj (K : Int → zH → Prop) : Option Value → zH → Prop := fun v h' => ∃ r : Int, v = some (zj r) ∧ zrl r ∧ zh h' ∧ K r h'
abbrev zPv (K : zH → Prop) : Option Value → zH → Prop := fun v h' => v = none ∧ zh h' ∧ K h'
abbrev zPr (g : zG) (n ci : Nat) (K : Nat → zH → Prop) : Option Value → zH → Prop := fun v h' => ∃ r : Nat, v = some (.ref (g.2.2 r)) ∧ zO n r ci ∧ zh h' ∧ K r h'
end ZM
end
section
/-! small facts for the printed rows, and calls by what they answer -/
theorem zr_l {x : Int} (h : zr x) : zrl x := by omega
theorem zr_ite {c : Prop} [Decidable c] {x y : Int} (hx : zr x) (hy : zr y) : zr (if c then x else y) := by
  split
  · exact hx
  · exact hy
theorem zln_le (k : Nat) : zln k ≤ 2702 := by
  by_cases hk : k < 221
  · have ck : (List.range 221).all (fun k => decide (zln k ≤ 2702)) = true := by decide +kernel
    exact of_decide_eq_true (List.all_eq_true.mp ck k (List.mem_range.mpr hk))
  · unfold zln
    rw [List.getD_eq_getElem?_getD, List.getElem?_eq_none (by rw [zsh_len]; omega)]
    exact Nat.zero_le _
theorem zr_len (k : Nat) : zr ((zln k : Nat) : Int) := by
  have := zln_le k
  omega
theorem zh_setl {h : zH} {j : Nat} {v : Int} (hh : zh h) (hv : zrl v) {k : Nat} (hk : k = 220) : zh (zs h k j v) := by
  subst hk
  refine ⟨fun a b ha => ?_, fun b => ?_⟩
  · unfold zs
    rw [if_neg (fun q => ha q.1)]
    exact hh.1 a b ha
  · unfold zs
    split
    · exact hv
    · exact hh.2 b
section ZC3
variable {Wf : Heap → List Loc → JFrame → Prop} {m : MethodId} {R : Room} {cc : ByteArray} {own : String} {nL : Nat} {g : zG} {n : Nat} {H0 : Heap} {pc : Nat} {lv lv' : List (Nat × Value)} {rest st : List Value} {h : zH}
variable {y : MethodName} {bytes : ByteArray} {maxL k idx : Nat} {ret : Option FieldType} {rm : Room} {As : List Value}
theorem z_callVi (X : zX Wf m R cc own nL g n H0) {ci a N : Nat} {C : String} {T : u_T} {ty : Nat → FieldType} {K : Int → zH → Prop} (hM : ∀ l, l.flags = flags0 → zMet l y bytes maxL ret rm g n (.ref (g.2.2 a) :: As) h (zPi K)) (cf : zCF ci C T ty N) (hO : zO n a ci) (hyC : y.cls = C) (mf : zMV y bytes maxL ret k) (wl : Cond.methodLink own idx y ∈ zWd) (hR : (rm.frames + 1 ≤ R.frames ∧ 8 + (maxL + 11) + rm.locals ≤ R.locals) ∧ rm.cells = 0 ∧ rm.slots = 0) (hk : As.length = k) (d : decode cc pc = .ok (.invokevirtual idx, 3)) (hst : st = As.reverse ++ .ref (g.2.2 a) :: rest) (hW : (rest.map fun v => v.category).sum ≤ 8) (kk : ∀ (r : Int) (h' : zH), zr r → zh h' → K r h' → zW Wf m nL g n H0 (pc + 3) lv (zi r :: rest) h') : zW Wf m nL g n H0 pc lv st h := z_callV X hM cf hO hyC mf wl hR hk d hst hW (fun v h' hp => by obtain ⟨r, rfl, h1, h2, h3⟩ := hp; exact kk r h' h1 h2 h3)
theorem z_callSi (X : zX Wf m R cc own nL g n H0) {K : Int → zH → Prop} (hM : ∀ l, l.flags = flags0 → zMet l y bytes maxL ret rm g n As h (zPi K)) (mf : zMS y bytes maxL ret k) (wl : Cond.methodLink own idx y ∈ zWd) (hR : (rm.frames + 1 ≤ R.frames ∧ 8 + (maxL + 11) + rm.locals ≤ R.locals) ∧ rm.cells = 0 ∧ rm.slots = 0) (hk : As.length = k) (d : decode cc pc = .ok (.invokestatic idx, 3)) (hst : st = As.reverse ++ rest) (hW : (rest.map fun v => v.category).sum ≤ 8) (kk : ∀ (r : Int) (h' : zH), zr r → zh h' → K r h' → zW Wf m nL g n H0 (pc + 3) lv (zi r :: rest) h') : zW Wf m nL g n H0 pc lv st h := z_callS X hM mf wl hR hk d hst hW (fun v h' hp => by obtain ⟨r, rfl, h1, h2, h3⟩ := hp; exact kk r h' h1 h2 h3)
theorem z_callVNi (X : zX Wf m R cc own nL g n H0) {ci a N : Nat} {C : String} {T : u_T} {ty : Nat → FieldType} {K : Int → zH → Prop} (hM : ∀ l, l.flags = flags0 → zMet l y bytes maxL ret rm g n (.ref (g.2.2 a) :: As) h (zPi K)) (cf : zCF ci C T ty N) (hO : zO n a ci) (hyC : y.cls = C) (mf : zMV y bytes maxL ret k) {host : String} (wl : Cond.methodLinkNest own idx y host ∈ zNs) (hR : (rm.frames + 1 ≤ R.frames ∧ 8 + (maxL + 11) + rm.locals ≤ R.locals) ∧ rm.cells = 0 ∧ rm.slots = 0) (hk : As.length = k) (d : decode cc pc = .ok (.invokevirtual idx, 3)) (hst : st = As.reverse ++ .ref (g.2.2 a) :: rest) (hW : (rest.map fun v => v.category).sum ≤ 8) (kk : ∀ (r : Int) (h' : zH), zr r → zh h' → K r h' → zW Wf m nL g n H0 (pc + 3) lv (zi r :: rest) h') : zW Wf m nL g n H0 pc lv st h := z_callVN X hM cf hO hyC mf wl hR hk d hst hW (fun v h' hp => by obtain ⟨r, rfl, h1, h2, h3⟩ := hp; exact kk r h' h1 h2 h3)
theorem z_callSNi (X : zX Wf m R cc own nL g n H0) {K : Int → zH → Prop} (hM : ∀ l, l.flags = flags0 → zMet l y bytes maxL ret rm g n As h (zPi K)) (mf : zMS y bytes maxL ret k) {host : String} (wl : Cond.methodLinkNest own idx y host ∈ zNs) (hR : (rm.frames + 1 ≤ R.frames ∧ 8 + (maxL + 11) + rm.locals ≤ R.locals) ∧ rm.cells = 0 ∧ rm.slots = 0) (hk : As.length = k) (d : decode cc pc = .ok (.invokestatic idx, 3)) (hst : st = As.reverse ++ rest) (hW : (rest.map fun v => v.category).sum ≤ 8) (kk : ∀ (r : Int) (h' : zH), zr r → zh h' → K r h' → zW Wf m nL g n H0 (pc + 3) lv (zi r :: rest) h') : zW Wf m nL g n H0 pc lv st h := z_callSN X hM mf wl hR hk d hst hW (fun v h' hp => by obtain ⟨r, rfl, h1, h2, h3⟩ := hp; exact kk r h' h1 h2 h3)
theorem z_callVj (X : zX Wf m R cc own nL g n H0) {ci a N : Nat} {C : String} {T : u_T} {ty : Nat → FieldType} {K : Int → zH → Prop} (hM : ∀ l, l.flags = flags0 → zMet l y bytes maxL ret rm g n (.ref (g.2.2 a) :: As) h (zPj K)) (cf : zCF ci C T ty N) (hO : zO n a ci) (hyC : y.cls = C) (mf : zMV y bytes maxL ret k) (wl : Cond.methodLink own idx y ∈ zWd) (hR : (rm.frames + 1 ≤ R.frames ∧ 8 + (maxL + 11) + rm.locals ≤ R.locals) ∧ rm.cells = 0 ∧ rm.slots = 0) (hk : As.length = k) (d : decode cc pc = .ok (.invokevirtual idx, 3)) (hst : st = As.reverse ++ .ref (g.2.2 a) :: rest) (hW : (rest.map fun v => v.category).sum ≤ 8) (kk : ∀ (r : Int) (h' : zH), zrl r → zh h' → K r h' → zW Wf m nL g n H0 (pc + 3) lv (zj r :: rest) h') : zW Wf m nL g n H0 pc lv st h := z_callV X hM cf hO hyC mf wl hR hk d hst hW (fun v h' hp => by obtain ⟨r, rfl, h1, h2, h3⟩ := hp; exact kk r h' h1 h2 h3)
theorem z_callSj (X : zX Wf m R cc own nL g n H0) {K : Int → zH → Prop} (hM : ∀ l, l.flags = flags0 → zMet l y bytes maxL ret rm g n As h (zPj K)) (mf : zMS y bytes maxL ret k) (wl : Cond.methodLink own idx y ∈ zWd) (hR : (rm.frames + 1 ≤ R.frames ∧ 8 + (maxL + 11) + rm.locals ≤ R.locals) ∧ rm.cells = 0 ∧ rm.slots = 0) (hk : As.length = k) (d : decode cc pc = .ok (.invokestatic idx, 3)) (hst : st = As.reverse ++ rest) (hW : (rest.map fun v => v.category).sum ≤ 8) (kk : ∀ (r : Int) (h' : zH), zrl r → zh h' → K r h' → zW Wf m nL g n H0 (pc + 3) lv (zj r :: rest) h') : zW Wf m nL g n H0 pc lv st h := z_callS X hM mf wl hR hk d hst hW (fun v h' hp => by obtain ⟨r, rfl, h1, h2, h3⟩ := hp; exact kk r h' h1 h2 h3)
theorem z_callVNj (X : zX Wf m R cc own nL g n H0) {ci a N : Nat} {C : String} {T : u_T} {ty : Nat → FieldType} {K : Int → zH → Prop} (hM : ∀ l, l.flags = flags0 → zMet l y bytes maxL ret rm g n (.ref (g.2.2 a) :: As) h (zPj K)) (cf : zCF ci C T ty N) (hO : zO n a ci) (hyC : y.cls = C) (mf : zMV y bytes maxL ret k) {host : String} (wl : Cond.methodLinkNest own idx y host ∈ zNs) (hR : (rm.frames + 1 ≤ R.frames ∧ 8 + (maxL + 11) + rm.locals ≤ R.locals) ∧ rm.cells = 0 ∧ rm.slots = 0) (hk : As.length = k) (d : decode cc pc = .ok (.invokevirtual idx, 3)) (hst : st = As.reverse ++ .ref (g.2.2 a) :: rest) (hW : (rest.map fun v => v.category).sum ≤ 8) (kk : ∀ (r : Int) (h' : zH), zrl r → zh h' → K r h' → zW Wf m nL g n H0 (pc + 3) lv (zj r :: rest) h') : zW Wf m nL g n H0 pc lv st h := z_callVN X hM cf hO hyC mf wl hR hk d hst hW (fun v h' hp => by obtain ⟨r, rfl, h1, h2, h3⟩ := hp; exact kk r h' h1 h2 h3)
theorem z_callSNj (X : zX Wf m R cc own nL g n H0) {K : Int → zH → Prop} (hM : ∀ l, l.flags = flags0 → zMet l y bytes maxL ret rm g n As h (zPj K)) (mf : zMS y bytes maxL ret k) {host : String} (wl : Cond.methodLinkNest own idx y host ∈ zNs) (hR : (rm.frames + 1 ≤ R.frames ∧ 8 + (maxL + 11) + rm.locals ≤ R.locals) ∧ rm.cells = 0 ∧ rm.slots = 0) (hk : As.length = k) (d : decode cc pc = .ok (.invokestatic idx, 3)) (hst : st = As.reverse ++ rest) (hW : (rest.map fun v => v.category).sum ≤ 8) (kk : ∀ (r : Int) (h' : zH), zrl r → zh h' → K r h' → zW Wf m nL g n H0 (pc + 3) lv (zj r :: rest) h') : zW Wf m nL g n H0 pc lv st h := z_callSN X hM mf wl hR hk d hst hW (fun v h' hp => by obtain ⟨r, rfl, h1, h2, h3⟩ := hp; exact kk r h' h1 h2 h3)
theorem z_callVv (X : zX Wf m R cc own nL g n H0) {ci a N : Nat} {C : String} {T : u_T} {ty : Nat → FieldType} {K : zH → Prop} (hM : ∀ l, l.flags = flags0 → zMet l y bytes maxL ret rm g n (.ref (g.2.2 a) :: As) h (zPv K)) (cf : zCF ci C T ty N) (hO : zO n a ci) (hyC : y.cls = C) (mf : zMV y bytes maxL ret k) (wl : Cond.methodLink own idx y ∈ zWd) (hR : (rm.frames + 1 ≤ R.frames ∧ 8 + (maxL + 11) + rm.locals ≤ R.locals) ∧ rm.cells = 0 ∧ rm.slots = 0) (hk : As.length = k) (d : decode cc pc = .ok (.invokevirtual idx, 3)) (hst : st = As.reverse ++ .ref (g.2.2 a) :: rest) (hW : (rest.map fun v => v.category).sum ≤ 8) (kk : ∀ (h' : zH), zh h' → K h' → zW Wf m nL g n H0 (pc + 3) lv rest h') : zW Wf m nL g n H0 pc lv st h := z_callV X hM cf hO hyC mf wl hR hk d hst hW (fun v h' hp => by obtain ⟨rfl, h2, h3⟩ := hp; exact kk h' h2 h3)
theorem z_callSv (X : zX Wf m R cc own nL g n H0) {K : zH → Prop} (hM : ∀ l, l.flags = flags0 → zMet l y bytes maxL ret rm g n As h (zPv K)) (mf : zMS y bytes maxL ret k) (wl : Cond.methodLink own idx y ∈ zWd) (hR : (rm.frames + 1 ≤ R.frames ∧ 8 + (maxL + 11) + rm.locals ≤ R.locals) ∧ rm.cells = 0 ∧ rm.slots = 0) (hk : As.length = k) (d : decode cc pc = .ok (.invokestatic idx, 3)) (hst : st = As.reverse ++ rest) (hW : (rest.map fun v => v.category).sum ≤ 8) (kk : ∀ (h' : zH), zh h' → K h' → zW Wf m nL g n H0 (pc + 3) lv rest h') : zW Wf m nL g n H0 pc lv st h := z_callS X hM mf wl hR hk d hst hW (fun v h' hp => by obtain ⟨rfl, h2, h3⟩ := hp; exact kk h' h2 h3)
theorem z_callVNv (X : zX Wf m R cc own nL g n H0) {ci a N : Nat} {C : String} {T : u_T} {ty : Nat → FieldType} {K : zH → Prop} (hM : ∀ l, l.flags = flags0 → zMet l y bytes maxL ret rm g n (.ref (g.2.2 a) :: As) h (zPv K)) (cf : zCF ci C T ty N) (hO : zO n a ci) (hyC : y.cls = C) (mf : zMV y bytes maxL ret k) {host : String} (wl : Cond.methodLinkNest own idx y host ∈ zNs) (hR : (rm.frames + 1 ≤ R.frames ∧ 8 + (maxL + 11) + rm.locals ≤ R.locals) ∧ rm.cells = 0 ∧ rm.slots = 0) (hk : As.length = k) (d : decode cc pc = .ok (.invokevirtual idx, 3)) (hst : st = As.reverse ++ .ref (g.2.2 a) :: rest) (hW : (rest.map fun v => v.category).sum ≤ 8) (kk : ∀ (h' : zH), zh h' → K h' → zW Wf m nL g n H0 (pc + 3) lv rest h') : zW Wf m nL g n H0 pc lv st h := z_callVN X hM cf hO hyC mf wl hR hk d hst hW (fun v h' hp => by obtain ⟨rfl, h2, h3⟩ := hp; exact kk h' h2 h3)
theorem z_callSNv (X : zX Wf m R cc own nL g n H0) {K : zH → Prop} (hM : ∀ l, l.flags = flags0 → zMet l y bytes maxL ret rm g n As h (zPv K)) (mf : zMS y bytes maxL ret k) {host : String} (wl : Cond.methodLinkNest own idx y host ∈ zNs) (hR : (rm.frames + 1 ≤ R.frames ∧ 8 + (maxL + 11) + rm.locals ≤ R.locals) ∧ rm.cells = 0 ∧ rm.slots = 0) (hk : As.length = k) (d : decode cc pc = .ok (.invokestatic idx, 3)) (hst : st = As.reverse ++ rest) (hW : (rest.map fun v => v.category).sum ≤ 8) (kk : ∀ (h' : zH), zh h' → K h' → zW Wf m nL g n H0 (pc + 3) lv rest h') : zW Wf m nL g n H0 pc lv st h := z_callSN X hM mf wl hR hk d hst hW (fun v h' hp => by obtain ⟨rfl, h2, h3⟩ := hp; exact kk h' h2 h3)
theorem z_callVr (X : zX Wf m R cc own nL g n H0) {ci a N : Nat} {C : String} {T : u_T} {ty : Nat → FieldType} {K : Nat → zH → Prop} (hM : ∀ l, l.flags = flags0 → zMet l y bytes maxL ret rm g n (.ref (g.2.2 a) :: As) h (zPr g n 1 K)) (cf : zCF ci C T ty N) (hO : zO n a ci) (hyC : y.cls = C) (mf : zMV y bytes maxL ret k) (wl : Cond.methodLink own idx y ∈ zWd) (hR : (rm.frames + 1 ≤ R.frames ∧ 8 + (maxL + 11) + rm.locals ≤ R.locals) ∧ rm.cells = 0 ∧ rm.slots = 0) (hk : As.length = k) (d : decode cc pc = .ok (.invokevirtual idx, 3)) (hst : st = As.reverse ++ .ref (g.2.2 a) :: rest) (hW : (rest.map fun v => v.category).sum ≤ 8) (kk : ∀ (r : Nat) (h' : zH), zO n r 1 → zh h' → K r h' → zW Wf m nL g n H0 (pc + 3) lv (.ref (g.2.2 r) :: rest) h') : zW Wf m nL g n H0 pc lv st h := z_callV X hM cf hO hyC mf wl hR hk d hst hW (fun v h' hp => by obtain ⟨r, rfl, h1, h2, h3⟩ := hp; exact kk r h' h1 h2 h3)
theorem z_callSr (X : zX Wf m R cc own nL g n H0) {K : Nat → zH → Prop} (hM : ∀ l, l.flags = flags0 → zMet l y bytes maxL ret rm g n As h (zPr g n 1 K)) (mf : zMS y bytes maxL ret k) (wl : Cond.methodLink own idx y ∈ zWd) (hR : (rm.frames + 1 ≤ R.frames ∧ 8 + (maxL + 11) + rm.locals ≤ R.locals) ∧ rm.cells = 0 ∧ rm.slots = 0) (hk : As.length = k) (d : decode cc pc = .ok (.invokestatic idx, 3)) (hst : st = As.reverse ++ rest) (hW : (rest.map fun v => v.category).sum ≤ 8) (kk : ∀ (r : Nat) (h' : zH), zO n r 1 → zh h' → K r h' → zW Wf m nL g n H0 (pc + 3) lv (.ref (g.2.2 r) :: rest) h') : zW Wf m nL g n H0 pc lv st h := z_callS X hM mf wl hR hk d hst hW (fun v h' hp => by obtain ⟨r, rfl, h1, h2, h3⟩ := hp; exact kk r h' h1 h2 h3)
theorem z_callVNr (X : zX Wf m R cc own nL g n H0) {ci a N : Nat} {C : String} {T : u_T} {ty : Nat → FieldType} {K : Nat → zH → Prop} (hM : ∀ l, l.flags = flags0 → zMet l y bytes maxL ret rm g n (.ref (g.2.2 a) :: As) h (zPr g n 1 K)) (cf : zCF ci C T ty N) (hO : zO n a ci) (hyC : y.cls = C) (mf : zMV y bytes maxL ret k) {host : String} (wl : Cond.methodLinkNest own idx y host ∈ zNs) (hR : (rm.frames + 1 ≤ R.frames ∧ 8 + (maxL + 11) + rm.locals ≤ R.locals) ∧ rm.cells = 0 ∧ rm.slots = 0) (hk : As.length = k) (d : decode cc pc = .ok (.invokevirtual idx, 3)) (hst : st = As.reverse ++ .ref (g.2.2 a) :: rest) (hW : (rest.map fun v => v.category).sum ≤ 8) (kk : ∀ (r : Nat) (h' : zH), zO n r 1 → zh h' → K r h' → zW Wf m nL g n H0 (pc + 3) lv (.ref (g.2.2 r) :: rest) h') : zW Wf m nL g n H0 pc lv st h := z_callVN X hM cf hO hyC mf wl hR hk d hst hW (fun v h' hp => by obtain ⟨r, rfl, h1, h2, h3⟩ := hp; exact kk r h' h1 h2 h3)
theorem z_callSNr (X : zX Wf m R cc own nL g n H0) {K : Nat → zH → Prop} (hM : ∀ l, l.flags = flags0 → zMet l y bytes maxL ret rm g n As h (zPr g n 1 K)) (mf : zMS y bytes maxL ret k) {host : String} (wl : Cond.methodLinkNest own idx y host ∈ zNs) (hR : (rm.frames + 1 ≤ R.frames ∧ 8 + (maxL + 11) + rm.locals ≤ R.locals) ∧ rm.cells = 0 ∧ rm.slots = 0) (hk : As.length = k) (d : decode cc pc = .ok (.invokestatic idx, 3)) (hst : st = As.reverse ++ rest) (hW : (rest.map fun v => v.category).sum ≤ 8) (kk : ∀ (r : Nat) (h' : zH), zO n r 1 → zh h' → K r h' → zW Wf m nL g n H0 (pc + 3) lv (.ref (g.2.2 r) :: rest) h') : zW Wf m nL g n H0 pc lv st h := z_callSN X hM mf wl hR hk d hst hW (fun v h' hp => by obtain ⟨r, rfl, h1, h2, h3⟩ := hp; exact kk r h' h1 h2 h3)
end ZC3
end
section
/-! Model (printed by wip/whole/methgen.py) -/
theorem d_Model_frequencyOf_0 : decode b_Model_frequencyOf 0 = .ok (.iload_n 1, 1) := by decide +kernel
theorem d_Model_frequencyOf_1 : decode b_Model_frequencyOf 1 = .ok (.ifCond .lt 18, 3) := by decide +kernel
theorem d_Model_frequencyOf_4 : decode b_Model_frequencyOf 4 = .ok (.iload_n 1, 1) := by decide +kernel
theorem d_Model_frequencyOf_5 : decode b_Model_frequencyOf 5 = .ok (.bipush 8, 2) := by decide +kernel
theorem d_Model_frequencyOf_7 : decode b_Model_frequencyOf 7 = .ok (.if_icmp .ge 12, 3) := by decide +kernel
theorem d_Model_frequencyOf_10 : decode b_Model_frequencyOf 10 = .ok (.aload_n 0, 1) := by decide +kernel
theorem d_Model_frequencyOf_11 : decode b_Model_frequencyOf 11 = .ok (.getfield 9, 3) := by decide +kernel
theorem d_Model_frequencyOf_14 : decode b_Model_frequencyOf 14 = .ok (.iload_n 1, 1) := by decide +kernel
theorem d_Model_frequencyOf_15 : decode b_Model_frequencyOf 15 = .ok (.iaload, 1) := by decide +kernel
theorem d_Model_frequencyOf_16 : decode b_Model_frequencyOf 16 = .ok (.goto 4, 3) := by decide +kernel
theorem d_Model_frequencyOf_19 : decode b_Model_frequencyOf 19 = .ok (.iconst 0, 1) := by decide +kernel
theorem d_Model_frequencyOf_20 : decode b_Model_frequencyOf 20 = .ok (.ireturn, 1) := by decide +kernel
def rm_Model_frequencyOf : Room := { frames := 0, cells := 0, slots := 0, locals := 0 }
theorem mf_Model_frequencyOf : zMV y_Model_frequencyOf b_Model_frequencyOf 2 (some .int) 1 := ⟨q455, qs22, q4, q456, by decide +kernel⟩
def M_Model_frequencyOf (p0 : Nat) (x1 : Int) (h : zH) (K : Int → zH → Prop) : Prop :=
  (x1 < 0 → (K 0 h)) ∧ (0 ≤ x1 → ((8 ≤ x1 → (K 0 h)) ∧ (x1 < 8 → ((0 ≤ x1 ∧ x1 < 8) ∧ (K (h (p0 + 1) x1.toNat) h)))))
set_option maxRecDepth 100000 in
theorem c_Model_frequencyOf {l : Launch} (hfl : l.flags = flags0) {g : zG} {n : Nat} {p0 : Nat} {x1 : Int} (op0 : zO n p0 1) (rx1 : zr x1) {h : zH} (hh : zh h) {K : Int → zH → Prop} (hv : M_Model_frequencyOf p0 x1 h K) : zMet l y_Model_frequencyOf b_Model_frequencyOf 2 (some .int) rm_Model_frequencyOf g n [.ref (g.2.2 p0), zi x1] h (zPi K) := by
  refine zMet_of (own := "AliasStreams$Model") hfl (by decide) rfl (Nat.le_of_ble_eq_true rfl) (fun Wf m H0 X E => ?_)
  unfold M_Model_frequencyOf at hv
  show zW Wf m 2 g n H0 0 [(0, .ref (g.2.2 p0)), (1, zi x1)] [] h
  refine z_iload_n (pc := 0) (q := 1) X d_Model_frequencyOf_0 rfl ?_
  refine z_if_lt (pc := 1) (tgt := 19) X rx1 d_Model_frequencyOf_1 (by decide) (fun hc => ?_) (fun hc => ?_)
  · replace hv := hv.1 hc
    refine z_iconst (pc := 19) X d_Model_frequencyOf_19 ?_
    exact E.2.1 rfl _ _ _ _ d_Model_frequencyOf_20 ⟨_, rfl, (show zr 0 from by decide), hh, hv⟩
  · replace hv := hv.2 hc
    refine z_iload_n (pc := 4) (q := 1) X d_Model_frequencyOf_4 rfl ?_
    refine z_bipush (pc := 5) X d_Model_frequencyOf_5 (by decide) ?_
    refine z_icmp_ge (pc := 7) (tgt := 19) X rx1 (show zr 8 from by decide) d_Model_frequencyOf_7 (by decide) (fun hc => ?_) (fun hc => ?_)
    · replace hv := hv.1 hc
      refine z_iconst (pc := 19) X d_Model_frequencyOf_19 ?_
      exact E.2.1 rfl _ _ _ _ d_Model_frequencyOf_20 ⟨_, rfl, (show zr 0 from by decide), hh, hv⟩
    · replace hv := hv.2 hc
      refine z_aload_n (pc := 10) (q := 0) X d_Model_frequencyOf_10 rfl ?_
      refine z_getr (pc := 11) (j := 0) (dd := 1) X cf_Model op0 (by decide) q80 rfl rfl d_Model_frequencyOf_11 ?_
      refine z_iload_n (pc := 14) (q := 1) X d_Model_frequencyOf_14 rfl ?_
      obtain ⟨v_1, hv⟩ := hv
      refine z_ialdj (pc := 15) (j := x1.toNat) X (gf_Model_0 op0) (gl_Model_0 op0) rx1 v_1 rfl d_Model_frequencyOf_15 ?_
      refine z_goto (pc := 16) (tgt := 20) X d_Model_frequencyOf_16 (by decide) ?_
      exact E.2.1 rfl _ _ _ _ d_Model_frequencyOf_20 ⟨_, rfl, (hh.1 _ _ (zO.ne (gf_Model_0 op0) (by decide))), hh, hv⟩
theorem d_Model_slotOf_0 : decode b_Model_slotOf 0 = .ok (.iload_n 1, 1) := by decide +kernel
theorem d_Model_slotOf_1 : decode b_Model_slotOf 1 = .ok (.ifCond .lt 23, 3) := by decide +kernel
theorem d_Model_slotOf_4 : decode b_Model_slotOf 4 = .ok (.iload_n 1, 1) := by decide +kernel
theorem d_Model_slotOf_5 : decode b_Model_slotOf 5 = .ok (.bipush 8, 2) := by decide +kernel
theorem d_Model_slotOf_7 : decode b_Model_slotOf 7 = .ok (.if_icmp .ge 17, 3) := by decide +kernel
theorem d_Model_slotOf_10 : decode b_Model_slotOf 10 = .ok (.iload_n 2, 1) := by decide +kernel
theorem d_Model_slotOf_11 : decode b_Model_slotOf 11 = .ok (.ifCond .lt 13, 3) := by decide +kernel
theorem d_Model_slotOf_14 : decode b_Model_slotOf 14 = .ok (.iload_n 2, 1) := by decide +kernel
theorem d_Model_slotOf_15 : decode b_Model_slotOf 15 = .ok (.bipush 32, 2) := by decide +kernel
theorem d_Model_slotOf_17 : decode b_Model_slotOf 17 = .ok (.if_icmp .ge 7, 3) := by decide +kernel
theorem d_Model_slotOf_20 : decode b_Model_slotOf 20 = .ok (.iconst 1, 1) := by decide +kernel
theorem d_Model_slotOf_21 : decode b_Model_slotOf 21 = .ok (.goto 4, 3) := by decide +kernel
theorem d_Model_slotOf_24 : decode b_Model_slotOf 24 = .ok (.iconst 0, 1) := by decide +kernel
theorem d_Model_slotOf_25 : decode b_Model_slotOf 25 = .ok (.istore_n 3, 1) := by decide +kernel
theorem d_Model_slotOf_26 : decode b_Model_slotOf 26 = .ok (.iload_n 3, 1) := by decide +kernel
theorem d_Model_slotOf_27 : decode b_Model_slotOf 27 = .ok (.ifCond .eq 17, 3) := by decide +kernel
theorem d_Model_slotOf_30 : decode b_Model_slotOf 30 = .ok (.aload_n 0, 1) := by decide +kernel
theorem d_Model_slotOf_31 : decode b_Model_slotOf 31 = .ok (.getfield 34, 3) := by decide +kernel
theorem d_Model_slotOf_34 : decode b_Model_slotOf 34 = .ok (.iload_n 1, 1) := by decide +kernel
theorem d_Model_slotOf_35 : decode b_Model_slotOf 35 = .ok (.bipush 32, 2) := by decide +kernel
theorem d_Model_slotOf_37 : decode b_Model_slotOf 37 = .ok (.imul, 1) := by decide +kernel
theorem d_Model_slotOf_38 : decode b_Model_slotOf 38 = .ok (.iload_n 2, 1) := by decide +kernel
theorem d_Model_slotOf_39 : decode b_Model_slotOf 39 = .ok (.iadd, 1) := by decide +kernel
theorem d_Model_slotOf_40 : decode b_Model_slotOf 40 = .ok (.iaload, 1) := by decide +kernel
theorem d_Model_slotOf_41 : decode b_Model_slotOf 41 = .ok (.goto 4, 3) := by decide +kernel
theorem d_Model_slotOf_44 : decode b_Model_slotOf 44 = .ok (.iconst 0, 1) := by decide +kernel
theorem d_Model_slotOf_45 : decode b_Model_slotOf 45 = .ok (.ireturn, 1) := by decide +kernel
def rm_Model_slotOf : Room := { frames := 0, cells := 0, slots := 0, locals := 0 }
theorem mf_Model_slotOf : zMV y_Model_slotOf b_Model_slotOf 4 (some .int) 2 := ⟨q799, qs49, q4, q800, by decide +kernel⟩
def B_Model_slotOf_25 (K : Int → zH → Prop)  (p0 : Nat) (x1 : Int) (x2 : Int) (u0 : Int) (h : zH) : Prop :=
  (u0 = 0 → (K 0 h)) ∧ (u0 ≠ 0 → (zr (x1 * 32) ∧ (zr ((x1 * 32) + x2) ∧ ((0 ≤ (x1 * 32) + x2 ∧ (x1 * 32) + x2 < 256) ∧ (K (h (p0 + 8) (((x1 * 32) + x2).toNat)) h)))))
set_option maxRecDepth 100000 in
theorem s_Model_slotOf_25 {Wf : Heap → List Loc → JFrame → Prop} {m : MethodId} {g : zG} {n : Nat} {H0 : Heap} (X : zX Wf m rm_Model_slotOf b_Model_slotOf "AliasStreams$Model" 4 g n H0) {K : Int → zH → Prop} (E : zEx Wf m b_Model_slotOf (some .int) 4 g n H0 (zPi K))  {p0 : Nat} {x1 : Int} {x2 : Int}  (op0 : zO n p0 1) (rx1 : zr x1) (rx2 : zr x2) {u0 : Int} (ru0 : zr u0) {h : zH} (hh : zh h) (hv : B_Model_slotOf_25 K  p0 x1 x2 u0 h) : zW Wf m 4 g n H0 25 [(0, .ref (g.2.2 p0)), (1, zi x1), (2, zi x2)] [zi u0] h := by
  unfold B_Model_slotOf_25 at hv
  refine z_istore_n (pc := 25) (lv' := [(3, zi u0), (0, .ref (g.2.2 p0)), (1, zi x1), (2, zi x2)]) X d_Model_slotOf_25 (by decide) rfl ?_
  refine z_iload_n (pc := 26) (q := 0) X d_Model_slotOf_26 rfl ?_
  refine z_if_eq (pc := 27) (tgt := 44) X ru0 d_Model_slotOf_27 (by decide) (fun hc => ?_) (fun hc => ?_)
  · replace hv := hv.1 hc
    refine z_iconst (pc := 44) X d_Model_slotOf_44 ?_
    exact E.2.1 rfl _ _ _ _ d_Model_slotOf_45 ⟨_, rfl, (show zr 0 from by decide), hh, hv⟩
  · replace hv := hv.2 hc
    refine z_aload_n (pc := 30) (q := 1) X d_Model_slotOf_30 rfl ?_
    refine z_getr (pc := 31) (j := 7) (dd := 8) X cf_Model op0 (by decide) q93 rfl rfl d_Model_slotOf_31 ?_
    refine z_iload_n (pc := 34) (q := 2) X d_Model_slotOf_34 rfl ?_
    refine z_bipush (pc := 35) X d_Model_slotOf_35 (by decide) ?_
    obtain ⟨v_1, hv⟩ := hv
    refine z_imul (pc := 37) X d_Model_slotOf_37 ?_
    refine z_iload_n (pc := 38) (q := 3) X d_Model_slotOf_38 rfl ?_
    obtain ⟨v_2, hv⟩ := hv
    refine z_iadd (pc := 39) X d_Model_slotOf_39 ?_
    obtain ⟨v_3, hv⟩ := hv
    refine z_ialdj (pc := 40) (j := ((x1 * 32) + x2).toNat) X (gf_Model_7 op0) (gl_Model_7 op0) v_2 v_3 rfl d_Model_slotOf_40 ?_
    refine z_goto (pc := 41) (tgt := 45) X d_Model_slotOf_41 (by decide) ?_
    exact E.2.1 rfl _ _ _ _ d_Model_slotOf_45 ⟨_, rfl, (hh.1 _ _ (zO.ne (gf_Model_7 op0) (by decide))), hh, hv⟩
def B_Model_slotOf_24 (K : Int → zH → Prop)  (p0 : Nat) (x1 : Int) (x2 : Int)  (h : zH) : Prop :=
  B_Model_slotOf_25 K  p0 x1 x2 0 h
set_option maxRecDepth 100000 in
theorem s_Model_slotOf_24 {Wf : Heap → List Loc → JFrame → Prop} {m : MethodId} {g : zG} {n : Nat} {H0 : Heap} (X : zX Wf m rm_Model_slotOf b_Model_slotOf "AliasStreams$Model" 4 g n H0) {K : Int → zH → Prop} (E : zEx Wf m b_Model_slotOf (some .int) 4 g n H0 (zPi K))  {p0 : Nat} {x1 : Int} {x2 : Int}  (op0 : zO n p0 1) (rx1 : zr x1) (rx2 : zr x2)   {h : zH} (hh : zh h) (hv : B_Model_slotOf_24 K  p0 x1 x2  h) : zW Wf m 4 g n H0 24 [(0, .ref (g.2.2 p0)), (1, zi x1), (2, zi x2)] [] h := by
  unfold B_Model_slotOf_24 at hv
  refine z_iconst (pc := 24) X d_Model_slotOf_24 ?_
  exact s_Model_slotOf_25 X E  op0 rx1 rx2 (show zr 0 from by decide) hh hv
def M_Model_slotOf (p0 : Nat) (x1 : Int) (x2 : Int) (h : zH) (K : Int → zH → Prop) : Prop :=
  (x1 < 0 → (B_Model_slotOf_24 K  p0 x1 x2  h)) ∧ (0 ≤ x1 → ((8 ≤ x1 → (B_Model_slotOf_24 K  p0 x1 x2  h)) ∧ (x1 < 8 → ((x2 < 0 → (B_Model_slotOf_24 K  p0 x1 x2  h)) ∧ (0 ≤ x2 → ((32 ≤ x2 → (B_Model_slotOf_24 K  p0 x1 x2  h)) ∧ (x2 < 32 → (B_Model_slotOf_25 K  p0 x1 x2 1 h))))))))
set_option maxRecDepth 100000 in
theorem c_Model_slotOf {l : Launch} (hfl : l.flags = flags0) {g : zG} {n : Nat} {p0 : Nat} {x1 : Int} {x2 : Int} (op0 : zO n p0 1) (rx1 : zr x1) (rx2 : zr x2) {h : zH} (hh : zh h) {K : Int → zH → Prop} (hv : M_Model_slotOf p0 x1 x2 h K) : zMet l y_Model_slotOf b_Model_slotOf 4 (some .int) rm_Model_slotOf g n [.ref (g.2.2 p0), zi x1, zi x2] h (zPi K) := by
  refine zMet_of (own := "AliasStreams$Model") hfl (by decide) rfl (Nat.le_of_ble_eq_true rfl) (fun Wf m H0 X E => ?_)
  unfold M_Model_slotOf at hv
  show zW Wf m 4 g n H0 0 [(0, .ref (g.2.2 p0)), (1, zi x1), (2, zi x2)] [] h
  refine z_iload_n (pc := 0) (q := 1) X d_Model_slotOf_0 rfl ?_
  refine z_if_lt (pc := 1) (tgt := 24) X rx1 d_Model_slotOf_1 (by decide) (fun hc => ?_) (fun hc => ?_)
  · replace hv := hv.1 hc
    exact s_Model_slotOf_24 X E  op0 rx1 rx2  hh hv
  · replace hv := hv.2 hc
    refine z_iload_n (pc := 4) (q := 1) X d_Model_slotOf_4 rfl ?_
    refine z_bipush (pc := 5) X d_Model_slotOf_5 (by decide) ?_
    refine z_icmp_ge (pc := 7) (tgt := 24) X rx1 (show zr 8 from by decide) d_Model_slotOf_7 (by decide) (fun hc => ?_) (fun hc => ?_)
    · replace hv := hv.1 hc
      exact s_Model_slotOf_24 X E  op0 rx1 rx2  hh hv
    · replace hv := hv.2 hc
      refine z_iload_n (pc := 10) (q := 2) X d_Model_slotOf_10 rfl ?_
      refine z_if_lt (pc := 11) (tgt := 24) X rx2 d_Model_slotOf_11 (by decide) (fun hc => ?_) (fun hc => ?_)
      · replace hv := hv.1 hc
        exact s_Model_slotOf_24 X E  op0 rx1 rx2  hh hv
      · replace hv := hv.2 hc
        refine z_iload_n (pc := 14) (q := 2) X d_Model_slotOf_14 rfl ?_
        refine z_bipush (pc := 15) X d_Model_slotOf_15 (by decide) ?_
        refine z_icmp_ge (pc := 17) (tgt := 24) X rx2 (show zr 32 from by decide) d_Model_slotOf_17 (by decide) (fun hc => ?_) (fun hc => ?_)
        · replace hv := hv.1 hc
          exact s_Model_slotOf_24 X E  op0 rx1 rx2  hh hv
        · replace hv := hv.2 hc
          refine z_iconst (pc := 20) X d_Model_slotOf_20 ?_
          refine z_goto (pc := 21) (tgt := 25) X d_Model_slotOf_21 (by decide) ?_
          exact s_Model_slotOf_25 X E  op0 rx1 rx2 (show zr 1 from by decide) hh hv
theorem d_Model_giveOne_0 : decode b_Model_giveOne 0 = .ok (.bipush (-9), 2) := by decide +kernel
theorem d_Model_giveOne_2 : decode b_Model_giveOne 2 = .ok (.istore_n 1, 1) := by decide +kernel
theorem d_Model_giveOne_3 : decode b_Model_giveOne 3 = .ok (.bipush (-9), 2) := by decide +kernel
theorem d_Model_giveOne_5 : decode b_Model_giveOne 5 = .ok (.istore_n 2, 1) := by decide +kernel
theorem d_Model_giveOne_6 : decode b_Model_giveOne 6 = .ok (.iconst 0, 1) := by decide +kernel
theorem d_Model_giveOne_7 : decode b_Model_giveOne 7 = .ok (.istore_n 3, 1) := by decide +kernel
theorem d_Model_giveOne_8 : decode b_Model_giveOne 8 = .ok (.iload_n 3, 1) := by decide +kernel
theorem d_Model_giveOne_9 : decode b_Model_giveOne 9 = .ok (.bipush 8, 2) := by decide +kernel
theorem d_Model_giveOne_11 : decode b_Model_giveOne 11 = .ok (.if_icmp .ge 28, 3) := by decide +kernel
theorem d_Model_giveOne_14 : decode b_Model_giveOne 14 = .ok (.aload_n 0, 1) := by decide +kernel
theorem d_Model_giveOne_15 : decode b_Model_giveOne 15 = .ok (.getfield 15, 3) := by decide +kernel
theorem d_Model_giveOne_18 : decode b_Model_giveOne 18 = .ok (.iload_n 3, 1) := by decide +kernel
theorem d_Model_giveOne_19 : decode b_Model_giveOne 19 = .ok (.iaload, 1) := by decide +kernel
theorem d_Model_giveOne_20 : decode b_Model_giveOne 20 = .ok (.iload_n 2, 1) := by decide +kernel
theorem d_Model_giveOne_21 : decode b_Model_giveOne 21 = .ok (.if_icmp .le 12, 3) := by decide +kernel
theorem d_Model_giveOne_24 : decode b_Model_giveOne 24 = .ok (.iload_n 3, 1) := by decide +kernel
theorem d_Model_giveOne_25 : decode b_Model_giveOne 25 = .ok (.istore_n 1, 1) := by decide +kernel
theorem d_Model_giveOne_26 : decode b_Model_giveOne 26 = .ok (.aload_n 0, 1) := by decide +kernel
theorem d_Model_giveOne_27 : decode b_Model_giveOne 27 = .ok (.getfield 15, 3) := by decide +kernel
theorem d_Model_giveOne_30 : decode b_Model_giveOne 30 = .ok (.iload_n 3, 1) := by decide +kernel
theorem d_Model_giveOne_31 : decode b_Model_giveOne 31 = .ok (.iaload, 1) := by decide +kernel
theorem d_Model_giveOne_32 : decode b_Model_giveOne 32 = .ok (.istore_n 2, 1) := by decide +kernel
theorem d_Model_giveOne_33 : decode b_Model_giveOne 33 = .ok (.iinc 3 1, 3) := by decide +kernel
theorem d_Model_giveOne_36 : decode b_Model_giveOne 36 = .ok (.goto (-28), 3) := by decide +kernel
theorem d_Model_giveOne_39 : decode b_Model_giveOne 39 = .ok (.iload_n 1, 1) := by decide +kernel
theorem d_Model_giveOne_40 : decode b_Model_giveOne 40 = .ok (.ifCond .lt 21, 3) := by decide +kernel
theorem d_Model_giveOne_43 : decode b_Model_giveOne 43 = .ok (.aload_n 0, 1) := by decide +kernel
theorem d_Model_giveOne_44 : decode b_Model_giveOne 44 = .ok (.getfield 9, 3) := by decide +kernel
theorem d_Model_giveOne_47 : decode b_Model_giveOne 47 = .ok (.iload_n 1, 1) := by decide +kernel
theorem d_Model_giveOne_48 : decode b_Model_giveOne 48 = .ok (.dup2, 1) := by decide +kernel
theorem d_Model_giveOne_49 : decode b_Model_giveOne 49 = .ok (.iaload, 1) := by decide +kernel
theorem d_Model_giveOne_50 : decode b_Model_giveOne 50 = .ok (.iconst 1, 1) := by decide +kernel
theorem d_Model_giveOne_51 : decode b_Model_giveOne 51 = .ok (.iadd, 1) := by decide +kernel
theorem d_Model_giveOne_52 : decode b_Model_giveOne 52 = .ok (.iastore, 1) := by decide +kernel
theorem d_Model_giveOne_53 : decode b_Model_giveOne 53 = .ok (.aload_n 0, 1) := by decide +kernel
theorem d_Model_giveOne_54 : decode b_Model_giveOne 54 = .ok (.getfield 15, 3) := by decide +kernel
theorem d_Model_giveOne_57 : decode b_Model_giveOne 57 = .ok (.iload_n 1, 1) := by decide +kernel
theorem d_Model_giveOne_58 : decode b_Model_giveOne 58 = .ok (.bipush (-9), 2) := by decide +kernel
theorem d_Model_giveOne_60 : decode b_Model_giveOne 60 = .ok (.iastore, 1) := by decide +kernel
theorem d_Model_giveOne_61 : decode b_Model_giveOne 61 = .ok (.return_, 1) := by decide +kernel
def rm_Model_giveOne : Room := { frames := 0, cells := 0, slots := 0, locals := 0 }
theorem mf_Model_giveOne : zMV y_Model_giveOne b_Model_giveOne 4 none 0 := ⟨q336, qs3, q4, q337, by decide +kernel⟩
def F_Model_giveOne_8 (K : zH → Prop)  (L8 : Int × Int × Int × zH → Prop) (p0 : Nat) (x1 : Int) (x2 : Int) (x3 : Int) (h : zH) : Prop :=
  (8 ≤ x3 → ((x1 < 0 → (K h)) ∧ (0 ≤ x1 → ((0 ≤ x1 ∧ x1 < 8) ∧ (zr ((h (p0 + 1) x1.toNat) + 1) ∧ ((0 ≤ x1 ∧ x1 < 8) ∧ (∀ h_4 : zH, h_4 = zs h (p0 + 1) x1.toNat ((h (p0 + 1) x1.toNat) + 1) → ((0 ≤ x1 ∧ x1 < 8) ∧ (∀ h_6 : zH, h_6 = zs h_4 (p0 + 2) x1.toNat (-9) → (K h_6)))))))))) ∧ (x3 < 8 → ((0 ≤ x3 ∧ x3 < 8) ∧ ((h (p0 + 2) x3.toNat ≤ x2 → (zr (x3 + 1) ∧ (L8 (x1, x2, x3 + 1, h)))) ∧ (x2 < h (p0 + 2) x3.toNat → ((0 ≤ x3 ∧ x3 < 8) ∧ ((∀ x2_10 : Int, x2_10 = h (p0 + 2) x3.toNat → (zr (x3 + 1) ∧ (L8 (x3, x2_10, x3 + 1, h))))))))))
set_option maxRecDepth 100000 in
theorem s_Model_giveOne_8 {Wf : Heap → List Loc → JFrame → Prop} {m : MethodId} {g : zG} {n : Nat} {H0 : Heap} (X : zX Wf m rm_Model_giveOne b_Model_giveOne "AliasStreams$Model" 4 g n H0) {K : zH → Prop} (E : zEx Wf m b_Model_giveOne none 4 g n H0 (zPv K))  {p0 : Nat}  (op0 : zO n p0 1) {q0 : Int × Int × Int × zH} (hv0 : zLoop (fun L q => F_Model_giveOne_8 K  L p0 q.1 q.2.1 q.2.2.1 q.2.2.2) q0) : zr q0.1 → zr q0.2.1 → zr q0.2.2.1 → zh (q0.2.2.2) → zW Wf m 4 g n H0 8 [(0, .ref (g.2.2 p0)), (1, zi q0.1), (2, zi q0.2.1), (3, zi q0.2.2.1)] [] (q0.2.2.2) := by
  refine zLoop_use (G := fun q => zr q.1 → zr q.2.1 → zr q.2.2.1 → zh (q.2.2.2) → zW Wf m 4 g n H0 8 [(0, .ref (g.2.2 p0)), (1, zi q.1), (2, zi q.2.1), (3, zi q.2.2.1)] [] (q.2.2.2)) ?_ hv0
  rintro L8 ⟨x1, x2, x3, h⟩ hL8 hv rx1 rx2 rx3 hh
  have hv : F_Model_giveOne_8 K  L8 p0 x1 x2 x3 h := hv
  unfold F_Model_giveOne_8 at hv
  show zW Wf m 4 g n H0 8 [(0, .ref (g.2.2 p0)), (1, zi x1), (2, zi x2), (3, zi x3)] [] h
  refine z_iload_n (pc := 8) (q := 3) X d_Model_giveOne_8 rfl ?_
  refine z_bipush (pc := 9) X d_Model_giveOne_9 (by decide) ?_
  refine z_icmp_ge (pc := 11) (tgt := 39) X rx3 (show zr 8 from by decide) d_Model_giveOne_11 (by decide) (fun hc => ?_) (fun hc => ?_)
  · replace hv := hv.1 hc
    refine z_iload_n (pc := 39) (q := 1) X d_Model_giveOne_39 rfl ?_
    refine z_if_lt (pc := 40) (tgt := 61) X rx1 d_Model_giveOne_40 (by decide) (fun hc => ?_) (fun hc => ?_)
    · replace hv := hv.1 hc
      exact E.1 rfl _ _ _ d_Model_giveOne_61 ⟨rfl, hh, hv⟩
    · replace hv := hv.2 hc
      refine z_aload_n (pc := 43) (q := 0) X d_Model_giveOne_43 rfl ?_
      refine z_getr (pc := 44) (j := 0) (dd := 1) X cf_Model op0 (by decide) q80 rfl rfl d_Model_giveOne_44 ?_
      refine z_iload_n (pc := 47) (q := 1) X d_Model_giveOne_47 rfl ?_
      refine z_dup2 (pc := 48) X d_Model_giveOne_48 rfl rfl ?_
      obtain ⟨v_1, hv⟩ := hv
      refine z_ialdj (pc := 49) (j := x1.toNat) X (gf_Model_0 op0) (gl_Model_0 op0) rx1 v_1 rfl d_Model_giveOne_49 ?_
      refine z_iconst (pc := 50) X d_Model_giveOne_50 ?_
      obtain ⟨v_2, hv⟩ := hv
      refine z_iadd (pc := 51) X d_Model_giveOne_51 ?_
      obtain ⟨v_3, hv⟩ := hv
      refine z_iastj (pc := 52) (j := x1.toNat) X (gf_Model_0 op0) (gl_Model_0 op0) rx1 v_3 rfl d_Model_giveOne_52 ?_
      refine z_toph (fun h_4 eh_4 => ?_)
      have zh_4 : zh h_4 := by rw [eh_4]; exact zh_set hh (zO.ne (gf_Model_0 op0) (by decide)) v_2
      replace hv := hv h_4 eh_4
      refine z_aload_n (pc := 53) (q := 0) X d_Model_giveOne_53 rfl ?_
      refine z_getr (pc := 54) (j := 1) (dd := 2) X cf_Model op0 (by decide) q81 rfl rfl d_Model_giveOne_54 ?_
      refine z_iload_n (pc := 57) (q := 1) X d_Model_giveOne_57 rfl ?_
      refine z_bipush (pc := 58) X d_Model_giveOne_58 (by decide) ?_
      obtain ⟨v_5, hv⟩ := hv
      refine z_iastj (pc := 60) (j := x1.toNat) X (gf_Model_1 op0) (gl_Model_1 op0) rx1 v_5 rfl d_Model_giveOne_60 ?_
      refine z_toph (fun h_6 eh_6 => ?_)
      have zh_6 : zh h_6 := by rw [eh_6]; exact zh_set zh_4 (zO.ne (gf_Model_1 op0) (by decide)) (show zr (-9) from by decide)
      replace hv := hv h_6 eh_6
      exact E.1 rfl _ _ _ d_Model_giveOne_61 ⟨rfl, zh_6, hv⟩
  · replace hv := hv.2 hc
    refine z_aload_n (pc := 14) (q := 0) X d_Model_giveOne_14 rfl ?_
    refine z_getr (pc := 15) (j := 1) (dd := 2) X cf_Model op0 (by decide) q81 rfl rfl d_Model_giveOne_15 ?_
    refine z_iload_n (pc := 18) (q := 3) X d_Model_giveOne_18 rfl ?_
    obtain ⟨v_7, hv⟩ := hv
    refine z_ialdj (pc := 19) (j := x3.toNat) X (gf_Model_1 op0) (gl_Model_1 op0) rx3 v_7 rfl d_Model_giveOne_19 ?_
    refine z_iload_n (pc := 20) (q := 2) X d_Model_giveOne_20 rfl ?_
    refine z_icmp_le (pc := 21) (tgt := 33) X (hh.1 _ _ (zO.ne (gf_Model_1 op0) (by decide))) rx2 d_Model_giveOne_21 (by decide) (fun hc => ?_) (fun hc => ?_)
    · replace hv := hv.1 hc
      obtain ⟨v_8, hv⟩ := hv
      refine z_iinc (pc := 33) (q := 3) (lv' := [(3, zi (x3 + 1)), (0, .ref (g.2.2 p0)), (1, zi x1), (2, zi x2)]) X d_Model_giveOne_33 rfl (by decide) rfl ?_
      refine z_goto (pc := 36) (tgt := 8) X d_Model_giveOne_36 (by decide) ?_
      refine z_perm [1, 2, 3, 0] rfl ?_
      exact hL8 _ hv rx1 rx2 v_8 hh
    · replace hv := hv.2 hc
      refine z_iload_n (pc := 24) (q := 3) X d_Model_giveOne_24 rfl ?_
      refine z_istore_n (pc := 25) (lv' := [(1, zi x3), (0, .ref (g.2.2 p0)), (2, zi x2), (3, zi x3)]) X d_Model_giveOne_25 (by decide) rfl ?_
      refine z_aload_n (pc := 26) (q := 1) X d_Model_giveOne_26 rfl ?_
      refine z_getr (pc := 27) (j := 1) (dd := 2) X cf_Model op0 (by decide) q81 rfl rfl d_Model_giveOne_27 ?_
      refine z_iload_n (pc := 30) (q := 3) X d_Model_giveOne_30 rfl ?_
      obtain ⟨v_9, hv⟩ := hv
      refine z_ialdj (pc := 31) (j := x3.toNat) X (gf_Model_1 op0) (gl_Model_1 op0) rx3 v_9 rfl d_Model_giveOne_31 ?_
      refine z_topi (fun x2_10 ex2_10 => ?_)
      have rx2_10 : zr x2_10 := by rw [ex2_10]; exact (hh.1 _ _ (zO.ne (gf_Model_1 op0) (by decide)))
      replace hv := hv x2_10 ex2_10
      refine z_istore_n (pc := 32) (lv' := [(2, zi x2_10), (1, zi x3), (0, .ref (g.2.2 p0)), (3, zi x3)]) X d_Model_giveOne_32 (by decide) rfl ?_
      obtain ⟨v_11, hv⟩ := hv
      refine z_iinc (pc := 33) (q := 3) (lv' := [(3, zi (x3 + 1)), (2, zi x2_10), (1, zi x3), (0, .ref (g.2.2 p0))]) X d_Model_giveOne_33 rfl (by decide) rfl ?_
      refine z_goto (pc := 36) (tgt := 8) X d_Model_giveOne_36 (by decide) ?_
      refine z_perm [3, 2, 1, 0] rfl ?_
      exact hL8 _ hv rx3 rx2_10 v_11 hh
def M_Model_giveOne (p0 : Nat) (h : zH) (K : zH → Prop) : Prop :=
  zLoop (fun L q => F_Model_giveOne_8 K  L p0 q.1 q.2.1 q.2.2.1 q.2.2.2) ((-9), (-9), 0, h)
set_option maxRecDepth 100000 in
theorem c_Model_giveOne {l : Launch} (hfl : l.flags = flags0) {g : zG} {n : Nat} {p0 : Nat} (op0 : zO n p0 1) {h : zH} (hh : zh h) {K : zH → Prop} (hv : M_Model_giveOne p0 h K) : zMet l y_Model_giveOne b_Model_giveOne 4 none rm_Model_giveOne g n [.ref (g.2.2 p0)] h (zPv K) := by
  refine zMet_of (own := "AliasStreams$Model") hfl (by decide) rfl (Nat.le_of_ble_eq_true rfl) (fun Wf m H0 X E => ?_)
  unfold M_Model_giveOne at hv
  show zW Wf m 4 g n H0 0 [(0, .ref (g.2.2 p0))] [] h
  refine z_bipush (pc := 0) X d_Model_giveOne_0 (by decide) ?_
  refine z_istore_n (pc := 2) (lv' := [(1, zi (-9)), (0, .ref (g.2.2 p0))]) X d_Model_giveOne_2 (by decide) rfl ?_
  refine z_bipush (pc := 3) X d_Model_giveOne_3 (by decide) ?_
  refine z_istore_n (pc := 5) (lv' := [(2, zi (-9)), (1, zi (-9)), (0, .ref (g.2.2 p0))]) X d_Model_giveOne_5 (by decide) rfl ?_
  refine z_iconst (pc := 6) X d_Model_giveOne_6 ?_
  refine z_istore_n (pc := 7) (lv' := [(3, zi 0), (2, zi (-9)), (1, zi (-9)), (0, .ref (g.2.2 p0))]) X d_Model_giveOne_7 (by decide) rfl ?_
  refine z_perm [3, 2, 1, 0] rfl ?_
  exact s_Model_giveOne_8 X E  op0 hv (show zr (-9) from by decide) (show zr (-9) from by decide) (show zr 0 from by decide) hh
theorem d_Model_takeOne_0 : decode b_Model_takeOne 0 = .ok (.iconst 0, 1) := by decide +kernel
theorem d_Model_takeOne_1 : decode b_Model_takeOne 1 = .ok (.istore_n 1, 1) := by decide +kernel
theorem d_Model_takeOne_2 : decode b_Model_takeOne 2 = .ok (.iconst 1, 1) := by decide +kernel
theorem d_Model_takeOne_3 : decode b_Model_takeOne 3 = .ok (.istore_n 2, 1) := by decide +kernel
theorem d_Model_takeOne_4 : decode b_Model_takeOne 4 = .ok (.iload_n 2, 1) := by decide +kernel
theorem d_Model_takeOne_5 : decode b_Model_takeOne 5 = .ok (.bipush 8, 2) := by decide +kernel
theorem d_Model_takeOne_7 : decode b_Model_takeOne 7 = .ok (.if_icmp .ge 26, 3) := by decide +kernel
theorem d_Model_takeOne_10 : decode b_Model_takeOne 10 = .ok (.aload_n 0, 1) := by decide +kernel
theorem d_Model_takeOne_11 : decode b_Model_takeOne 11 = .ok (.getfield 9, 3) := by decide +kernel
theorem d_Model_takeOne_14 : decode b_Model_takeOne 14 = .ok (.iload_n 2, 1) := by decide +kernel
theorem d_Model_takeOne_15 : decode b_Model_takeOne 15 = .ok (.iaload, 1) := by decide +kernel
theorem d_Model_takeOne_16 : decode b_Model_takeOne 16 = .ok (.aload_n 0, 1) := by decide +kernel
theorem d_Model_takeOne_17 : decode b_Model_takeOne 17 = .ok (.getfield 9, 3) := by decide +kernel
theorem d_Model_takeOne_20 : decode b_Model_takeOne 20 = .ok (.iload_n 1, 1) := by decide +kernel
theorem d_Model_takeOne_21 : decode b_Model_takeOne 21 = .ok (.iaload, 1) := by decide +kernel
theorem d_Model_takeOne_22 : decode b_Model_takeOne 22 = .ok (.if_icmp .lt 5, 3) := by decide +kernel
theorem d_Model_takeOne_25 : decode b_Model_takeOne 25 = .ok (.iload_n 2, 1) := by decide +kernel
theorem d_Model_takeOne_26 : decode b_Model_takeOne 26 = .ok (.istore_n 1, 1) := by decide +kernel
theorem d_Model_takeOne_27 : decode b_Model_takeOne 27 = .ok (.iinc 2 1, 3) := by decide +kernel
theorem d_Model_takeOne_30 : decode b_Model_takeOne 30 = .ok (.goto (-26), 3) := by decide +kernel
theorem d_Model_takeOne_33 : decode b_Model_takeOne 33 = .ok (.aload_n 0, 1) := by decide +kernel
theorem d_Model_takeOne_34 : decode b_Model_takeOne 34 = .ok (.getfield 9, 3) := by decide +kernel
theorem d_Model_takeOne_37 : decode b_Model_takeOne 37 = .ok (.iload_n 1, 1) := by decide +kernel
theorem d_Model_takeOne_38 : decode b_Model_takeOne 38 = .ok (.dup2, 1) := by decide +kernel
theorem d_Model_takeOne_39 : decode b_Model_takeOne 39 = .ok (.iaload, 1) := by decide +kernel
theorem d_Model_takeOne_40 : decode b_Model_takeOne 40 = .ok (.iconst 1, 1) := by decide +kernel
theorem d_Model_takeOne_41 : decode b_Model_takeOne 41 = .ok (.isub, 1) := by decide +kernel
theorem d_Model_takeOne_42 : decode b_Model_takeOne 42 = .ok (.iastore, 1) := by decide +kernel
theorem d_Model_takeOne_43 : decode b_Model_takeOne 43 = .ok (.return_, 1) := by decide +kernel
def rm_Model_takeOne : Room := { frames := 0, cells := 0, slots := 0, locals := 0 }
theorem mf_Model_takeOne : zMV y_Model_takeOne b_Model_takeOne 3 none 0 := ⟨q340, qs4, q4, q341, by decide +kernel⟩
def F_Model_takeOne_4 (K : zH → Prop)  (L4 : Int × Int × zH → Prop) (p0 : Nat) (x1 : Int) (x2 : Int) (h : zH) : Prop :=
  (8 ≤ x2 → ((0 ≤ x1 ∧ x1 < 8) ∧ (zr ((h (p0 + 1) x1.toNat) - 1) ∧ ((0 ≤ x1 ∧ x1 < 8) ∧ (∀ h_4 : zH, h_4 = zs h (p0 + 1) x1.toNat ((h (p0 + 1) x1.toNat) - 1) → (K h_4)))))) ∧ (x2 < 8 → ((0 ≤ x2 ∧ x2 < 8) ∧ ((0 ≤ x1 ∧ x1 < 8) ∧ ((h (p0 + 1) x2.toNat < h (p0 + 1) x1.toNat → (zr (x2 + 1) ∧ (L4 (x1, x2 + 1, h)))) ∧ (h (p0 + 1) x1.toNat ≤ h (p0 + 1) x2.toNat → (zr (x2 + 1) ∧ (L4 (x2, x2 + 1, h))))))))
set_option maxRecDepth 100000 in
theorem s_Model_takeOne_4 {Wf : Heap → List Loc → JFrame → Prop} {m : MethodId} {g : zG} {n : Nat} {H0 : Heap} (X : zX Wf m rm_Model_takeOne b_Model_takeOne "AliasStreams$Model" 3 g n H0) {K : zH → Prop} (E : zEx Wf m b_Model_takeOne none 3 g n H0 (zPv K))  {p0 : Nat}  (op0 : zO n p0 1) {q0 : Int × Int × zH} (hv0 : zLoop (fun L q => F_Model_takeOne_4 K  L p0 q.1 q.2.1 q.2.2) q0) : zr q0.1 → zr q0.2.1 → zh (q0.2.2) → zW Wf m 3 g n H0 4 [(0, .ref (g.2.2 p0)), (1, zi q0.1), (2, zi q0.2.1)] [] (q0.2.2) := by
  refine zLoop_use (G := fun q => zr q.1 → zr q.2.1 → zh (q.2.2) → zW Wf m 3 g n H0 4 [(0, .ref (g.2.2 p0)), (1, zi q.1), (2, zi q.2.1)] [] (q.2.2)) ?_ hv0
  rintro L4 ⟨x1, x2, h⟩ hL4 hv rx1 rx2 hh
  have hv : F_Model_takeOne_4 K  L4 p0 x1 x2 h := hv
  unfold F_Model_takeOne_4 at hv
  show zW Wf m 3 g n H0 4 [(0, .ref (g.2.2 p0)), (1, zi x1), (2, zi x2)] [] h
  refine z_iload_n (pc := 4) (q := 2) X d_Model_takeOne_4 rfl ?_
  refine z_bipush (pc := 5) X d_Model_takeOne_5 (by decide) ?_
  refine z_icmp_ge (pc := 7) (tgt := 33) X rx2 (show zr 8 from by decide) d_Model_takeOne_7 (by decide) (fun hc => ?_) (fun hc => ?_)
  · replace hv := hv.1 hc
    refine z_aload_n (pc := 33) (q := 0) X d_Model_takeOne_33 rfl ?_
    refine z_getr (pc := 34) (j := 0) (dd := 1) X cf_Model op0 (by decide) q80 rfl rfl d_Model_takeOne_34 ?_
    refine z_iload_n (pc := 37) (q := 1) X d_Model_takeOne_37 rfl ?_
    refine z_dup2 (pc := 38) X d_Model_takeOne_38 rfl rfl ?_
    obtain ⟨v_1, hv⟩ := hv
    refine z_ialdj (pc := 39) (j := x1.toNat) X (gf_Model_0 op0) (gl_Model_0 op0) rx1 v_1 rfl d_Model_takeOne_39 ?_
    refine z_iconst (pc := 40) X d_Model_takeOne_40 ?_
    obtain ⟨v_2, hv⟩ := hv
    refine z_isub (pc := 41) X d_Model_takeOne_41 ?_
    obtain ⟨v_3, hv⟩ := hv
    refine z_iastj (pc := 42) (j := x1.toNat) X (gf_Model_0 op0) (gl_Model_0 op0) rx1 v_3 rfl d_Model_takeOne_42 ?_
    refine z_toph (fun h_4 eh_4 => ?_)
    have zh_4 : zh h_4 := by rw [eh_4]; exact zh_set hh (zO.ne (gf_Model_0 op0) (by decide)) v_2
    replace hv := hv h_4 eh_4
    exact E.1 rfl _ _ _ d_Model_takeOne_43 ⟨rfl, zh_4, hv⟩
  · replace hv := hv.2 hc
    refine z_aload_n (pc := 10) (q := 0) X d_Model_takeOne_10 rfl ?_
    refine z_getr (pc := 11) (j := 0) (dd := 1) X cf_Model op0 (by decide) q80 rfl rfl d_Model_takeOne_11 ?_
    refine z_iload_n (pc := 14) (q := 2) X d_Model_takeOne_14 rfl ?_
    obtain ⟨v_5, hv⟩ := hv
    refine z_ialdj (pc := 15) (j := x2.toNat) X (gf_Model_0 op0) (gl_Model_0 op0) rx2 v_5 rfl d_Model_takeOne_15 ?_
    refine z_aload_n (pc := 16) (q := 0) X d_Model_takeOne_16 rfl ?_
    refine z_getr (pc := 17) (j := 0) (dd := 1) X cf_Model op0 (by decide) q80 rfl rfl d_Model_takeOne_17 ?_
    refine z_iload_n (pc := 20) (q := 1) X d_Model_takeOne_20 rfl ?_
    obtain ⟨v_6, hv⟩ := hv
    refine z_ialdj (pc := 21) (j := x1.toNat) X (gf_Model_0 op0) (gl_Model_0 op0) rx1 v_6 rfl d_Model_takeOne_21 ?_
    refine z_icmp_lt (pc := 22) (tgt := 27) X (hh.1 _ _ (zO.ne (gf_Model_0 op0) (by decide))) (hh.1 _ _ (zO.ne (gf_Model_0 op0) (by decide))) d_Model_takeOne_22 (by decide) (fun hc => ?_) (fun hc => ?_)
    · replace hv := hv.1 hc
      obtain ⟨v_7, hv⟩ := hv
      refine z_iinc (pc := 27) (q := 2) (lv' := [(2, zi (x2 + 1)), (0, .ref (g.2.2 p0)), (1, zi x1)]) X d_Model_takeOne_27 rfl (by decide) rfl ?_
      refine z_goto (pc := 30) (tgt := 4) X d_Model_takeOne_30 (by decide) ?_
      refine z_perm [1, 2, 0] rfl ?_
      exact hL4 _ hv rx1 v_7 hh
    · replace hv := hv.2 hc
      refine z_iload_n (pc := 25) (q := 2) X d_Model_takeOne_25 rfl ?_
      refine z_istore_n (pc := 26) (lv' := [(1, zi x2), (0, .ref (g.2.2 p0)), (2, zi x2)]) X d_Model_takeOne_26 (by decide) rfl ?_
      obtain ⟨v_8, hv⟩ := hv
      refine z_iinc (pc := 27) (q := 2) (lv' := [(2, zi (x2 + 1)), (1, zi x2), (0, .ref (g.2.2 p0))]) X d_Model_takeOne_27 rfl (by decide) rfl ?_
      refine z_goto (pc := 30) (tgt := 4) X d_Model_takeOne_30 (by decide) ?_
      refine z_perm [2, 1, 0] rfl ?_
      exact hL4 _ hv rx2 v_8 hh
def M_Model_takeOne (p0 : Nat) (h : zH) (K : zH → Prop) : Prop :=
  zLoop (fun L q => F_Model_takeOne_4 K  L p0 q.1 q.2.1 q.2.2) (0, 1, h)
set_option maxRecDepth 100000 in
theorem c_Model_takeOne {l : Launch} (hfl : l.flags = flags0) {g : zG} {n : Nat} {p0 : Nat} (op0 : zO n p0 1) {h : zH} (hh : zh h) {K : zH → Prop} (hv : M_Model_takeOne p0 h K) : zMet l y_Model_takeOne b_Model_takeOne 3 none rm_Model_takeOne g n [.ref (g.2.2 p0)] h (zPv K) := by
  refine zMet_of (own := "AliasStreams$Model") hfl (by decide) rfl (Nat.le_of_ble_eq_true rfl) (fun Wf m H0 X E => ?_)
  unfold M_Model_takeOne at hv
  show zW Wf m 3 g n H0 0 [(0, .ref (g.2.2 p0))] [] h
  refine z_iconst (pc := 0) X d_Model_takeOne_0 ?_
  refine z_istore_n (pc := 1) (lv' := [(1, zi 0), (0, .ref (g.2.2 p0))]) X d_Model_takeOne_1 (by decide) rfl ?_
  refine z_iconst (pc := 2) X d_Model_takeOne_2 ?_
  refine z_istore_n (pc := 3) (lv' := [(2, zi 1), (1, zi 0), (0, .ref (g.2.2 p0))]) X d_Model_takeOne_3 (by decide) rfl ?_
  refine z_perm [2, 1, 0] rfl ?_
  exact s_Model_takeOne_4 X E  op0 hv (show zr 0 from by decide) (show zr 1 from by decide) hh
theorem d_Model_firstToClose_0 : decode b_Model_firstToClose 0 = .ok (.iconst 0, 1) := by decide +kernel
theorem d_Model_firstToClose_1 : decode b_Model_firstToClose 1 = .ok (.istore_n 1, 1) := by decide +kernel
theorem d_Model_firstToClose_2 : decode b_Model_firstToClose 2 = .ok (.iload_n 1, 1) := by decide +kernel
theorem d_Model_firstToClose_3 : decode b_Model_firstToClose 3 = .ok (.bipush 8, 2) := by decide +kernel
theorem d_Model_firstToClose_5 : decode b_Model_firstToClose 5 = .ok (.if_icmp .ge 30, 3) := by decide +kernel
theorem d_Model_firstToClose_8 : decode b_Model_firstToClose 8 = .ok (.aload_n 0, 1) := by decide +kernel
theorem d_Model_firstToClose_9 : decode b_Model_firstToClose 9 = .ok (.getfield 24, 3) := by decide +kernel
theorem d_Model_firstToClose_12 : decode b_Model_firstToClose 12 = .ok (.iload_n 1, 1) := by decide +kernel
theorem d_Model_firstToClose_13 : decode b_Model_firstToClose 13 = .ok (.baload, 1) := by decide +kernel
theorem d_Model_firstToClose_14 : decode b_Model_firstToClose 14 = .ok (.ifCond .eq 15, 3) := by decide +kernel
theorem d_Model_firstToClose_17 : decode b_Model_firstToClose 17 = .ok (.aload_n 0, 1) := by decide +kernel
theorem d_Model_firstToClose_18 : decode b_Model_firstToClose 18 = .ok (.getfield 18, 3) := by decide +kernel
theorem d_Model_firstToClose_21 : decode b_Model_firstToClose 21 = .ok (.iload_n 1, 1) := by decide +kernel
theorem d_Model_firstToClose_22 : decode b_Model_firstToClose 22 = .ok (.iaload, 1) := by decide +kernel
theorem d_Model_firstToClose_23 : decode b_Model_firstToClose 23 = .ok (.iconst 4, 1) := by decide +kernel
theorem d_Model_firstToClose_24 : decode b_Model_firstToClose 24 = .ok (.if_icmp .gt 5, 3) := by decide +kernel
theorem d_Model_firstToClose_27 : decode b_Model_firstToClose 27 = .ok (.iload_n 1, 1) := by decide +kernel
theorem d_Model_firstToClose_28 : decode b_Model_firstToClose 28 = .ok (.ireturn, 1) := by decide +kernel
theorem d_Model_firstToClose_29 : decode b_Model_firstToClose 29 = .ok (.iinc 1 1, 3) := by decide +kernel
theorem d_Model_firstToClose_32 : decode b_Model_firstToClose 32 = .ok (.goto (-30), 3) := by decide +kernel
theorem d_Model_firstToClose_35 : decode b_Model_firstToClose 35 = .ok (.bipush (-9), 2) := by decide +kernel
theorem d_Model_firstToClose_37 : decode b_Model_firstToClose 37 = .ok (.ireturn, 1) := by decide +kernel
def rm_Model_firstToClose : Room := { frames := 0, cells := 0, slots := 0, locals := 0 }
theorem mf_Model_firstToClose : zMV y_Model_firstToClose b_Model_firstToClose 2 (some .int) 0 := ⟨q352, qs7, q4, q353, by decide +kernel⟩
def F_Model_firstToClose_2 (K : Int → zH → Prop)  (L2 : Int × zH → Prop) (p0 : Nat) (x1 : Int) (h : zH) : Prop :=
  (8 ≤ x1 → (K (-9) h)) ∧ (x1 < 8 → ((0 ≤ x1 ∧ x1 < 8) ∧ ((h (p0 + 5) x1.toNat = 0 → (zr (x1 + 1) ∧ (L2 (x1 + 1, h)))) ∧ (h (p0 + 5) x1.toNat ≠ 0 → ((0 ≤ x1 ∧ x1 < 8) ∧ ((4 < h (p0 + 3) x1.toNat → (zr (x1 + 1) ∧ (L2 (x1 + 1, h)))) ∧ (h (p0 + 3) x1.toNat ≤ 4 → (K x1 h))))))))
set_option maxRecDepth 100000 in
theorem s_Model_firstToClose_2 {Wf : Heap → List Loc → JFrame → Prop} {m : MethodId} {g : zG} {n : Nat} {H0 : Heap} (X : zX Wf m rm_Model_firstToClose b_Model_firstToClose "AliasStreams$Model" 2 g n H0) {K : Int → zH → Prop} (E : zEx Wf m b_Model_firstToClose (some .int) 2 g n H0 (zPi K))  {p0 : Nat}  (op0 : zO n p0 1) {q0 : Int × zH} (hv0 : zLoop (fun L q => F_Model_firstToClose_2 K  L p0 q.1 q.2) q0) : zr q0.1 → zh (q0.2) → zW Wf m 2 g n H0 2 [(0, .ref (g.2.2 p0)), (1, zi q0.1)] [] (q0.2) := by
  refine zLoop_use (G := fun q => zr q.1 → zh (q.2) → zW Wf m 2 g n H0 2 [(0, .ref (g.2.2 p0)), (1, zi q.1)] [] (q.2)) ?_ hv0
  rintro L2 ⟨x1, h⟩ hL2 hv rx1 hh
  have hv : F_Model_firstToClose_2 K  L2 p0 x1 h := hv
  unfold F_Model_firstToClose_2 at hv
  show zW Wf m 2 g n H0 2 [(0, .ref (g.2.2 p0)), (1, zi x1)] [] h
  refine z_iload_n (pc := 2) (q := 1) X d_Model_firstToClose_2 rfl ?_
  refine z_bipush (pc := 3) X d_Model_firstToClose_3 (by decide) ?_
  refine z_icmp_ge (pc := 5) (tgt := 35) X rx1 (show zr 8 from by decide) d_Model_firstToClose_5 (by decide) (fun hc => ?_) (fun hc => ?_)
  · replace hv := hv.1 hc
    refine z_bipush (pc := 35) X d_Model_firstToClose_35 (by decide) ?_
    exact E.2.1 rfl _ _ _ _ d_Model_firstToClose_37 ⟨_, rfl, (show zr (-9) from by decide), hh, hv⟩
  · replace hv := hv.2 hc
    refine z_aload_n (pc := 8) (q := 0) X d_Model_firstToClose_8 rfl ?_
    refine z_getr (pc := 9) (j := 4) (dd := 5) X cf_Model op0 (by decide) q86 rfl rfl d_Model_firstToClose_9 ?_
    refine z_iload_n (pc := 12) (q := 1) X d_Model_firstToClose_12 rfl ?_
    obtain ⟨v_1, hv⟩ := hv
    refine z_zaldj (pc := 13) (j := x1.toNat) X (gf_Model_4 op0) (gl_Model_4 op0) rx1 v_1 rfl d_Model_firstToClose_13 ?_
    refine z_if_eq (pc := 14) (tgt := 29) X (hh.1 _ _ (zO.ne (gf_Model_4 op0) (by decide))) d_Model_firstToClose_14 (by decide) (fun hc => ?_) (fun hc => ?_)
    · replace hv := hv.1 hc
      obtain ⟨v_2, hv⟩ := hv
      refine z_iinc (pc := 29) (q := 1) (lv' := [(1, zi (x1 + 1)), (0, .ref (g.2.2 p0))]) X d_Model_firstToClose_29 rfl (by decide) rfl ?_
      refine z_goto (pc := 32) (tgt := 2) X d_Model_firstToClose_32 (by decide) ?_
      refine z_perm [1, 0] rfl ?_
      exact hL2 _ hv v_2 hh
    · replace hv := hv.2 hc
      refine z_aload_n (pc := 17) (q := 0) X d_Model_firstToClose_17 rfl ?_
      refine z_getr (pc := 18) (j := 2) (dd := 3) X cf_Model op0 (by decide) q82 rfl rfl d_Model_firstToClose_18 ?_
      refine z_iload_n (pc := 21) (q := 1) X d_Model_firstToClose_21 rfl ?_
      obtain ⟨v_3, hv⟩ := hv
      refine z_ialdj (pc := 22) (j := x1.toNat) X (gf_Model_2 op0) (gl_Model_2 op0) rx1 v_3 rfl d_Model_firstToClose_22 ?_
      refine z_iconst (pc := 23) X d_Model_firstToClose_23 ?_
      refine z_icmp_gt (pc := 24) (tgt := 29) X (hh.1 _ _ (zO.ne (gf_Model_2 op0) (by decide))) (show zr 4 from by decide) d_Model_firstToClose_24 (by decide) (fun hc => ?_) (fun hc => ?_)
      · replace hv := hv.1 hc
        obtain ⟨v_4, hv⟩ := hv
        refine z_iinc (pc := 29) (q := 1) (lv' := [(1, zi (x1 + 1)), (0, .ref (g.2.2 p0))]) X d_Model_firstToClose_29 rfl (by decide) rfl ?_
        refine z_goto (pc := 32) (tgt := 2) X d_Model_firstToClose_32 (by decide) ?_
        refine z_perm [1, 0] rfl ?_
        exact hL2 _ hv v_4 hh
      · replace hv := hv.2 hc
        refine z_iload_n (pc := 27) (q := 1) X d_Model_firstToClose_27 rfl ?_
        exact E.2.1 rfl _ _ _ _ d_Model_firstToClose_28 ⟨_, rfl, rx1, hh, hv⟩
def M_Model_firstToClose (p0 : Nat) (h : zH) (K : Int → zH → Prop) : Prop :=
  zLoop (fun L q => F_Model_firstToClose_2 K  L p0 q.1 q.2) (0, h)
set_option maxRecDepth 100000 in
theorem c_Model_firstToClose {l : Launch} (hfl : l.flags = flags0) {g : zG} {n : Nat} {p0 : Nat} (op0 : zO n p0 1) {h : zH} (hh : zh h) {K : Int → zH → Prop} (hv : M_Model_firstToClose p0 h K) : zMet l y_Model_firstToClose b_Model_firstToClose 2 (some .int) rm_Model_firstToClose g n [.ref (g.2.2 p0)] h (zPi K) := by
  refine zMet_of (own := "AliasStreams$Model") hfl (by decide) rfl (Nat.le_of_ble_eq_true rfl) (fun Wf m H0 X E => ?_)
  unfold M_Model_firstToClose at hv
  show zW Wf m 2 g n H0 0 [(0, .ref (g.2.2 p0))] [] h
  refine z_iconst (pc := 0) X d_Model_firstToClose_0 ?_
  refine z_istore_n (pc := 1) (lv' := [(1, zi 0), (0, .ref (g.2.2 p0))]) X d_Model_firstToClose_1 (by decide) rfl ?_
  refine z_perm [1, 0] rfl ?_
  exact s_Model_firstToClose_2 X E  op0 hv (show zr 0 from by decide) hh
theorem d_Model_fullestOpen_0 : decode b_Model_fullestOpen 0 = .ok (.bipush (-9), 2) := by decide +kernel
theorem d_Model_fullestOpen_2 : decode b_Model_fullestOpen 2 = .ok (.istore_n 1, 1) := by decide +kernel
theorem d_Model_fullestOpen_3 : decode b_Model_fullestOpen 3 = .ok (.bipush (-9), 2) := by decide +kernel
theorem d_Model_fullestOpen_5 : decode b_Model_fullestOpen 5 = .ok (.istore_n 2, 1) := by decide +kernel
theorem d_Model_fullestOpen_6 : decode b_Model_fullestOpen 6 = .ok (.iconst 0, 1) := by decide +kernel
theorem d_Model_fullestOpen_7 : decode b_Model_fullestOpen 7 = .ok (.istore_n 3, 1) := by decide +kernel
theorem d_Model_fullestOpen_8 : decode b_Model_fullestOpen 8 = .ok (.iload_n 3, 1) := by decide +kernel
theorem d_Model_fullestOpen_9 : decode b_Model_fullestOpen 9 = .ok (.bipush 8, 2) := by decide +kernel
theorem d_Model_fullestOpen_11 : decode b_Model_fullestOpen 11 = .ok (.if_icmp .ge 37, 3) := by decide +kernel
theorem d_Model_fullestOpen_14 : decode b_Model_fullestOpen 14 = .ok (.aload_n 0, 1) := by decide +kernel
theorem d_Model_fullestOpen_15 : decode b_Model_fullestOpen 15 = .ok (.getfield 24, 3) := by decide +kernel
theorem d_Model_fullestOpen_18 : decode b_Model_fullestOpen 18 = .ok (.iload_n 3, 1) := by decide +kernel
theorem d_Model_fullestOpen_19 : decode b_Model_fullestOpen 19 = .ok (.baload, 1) := by decide +kernel
theorem d_Model_fullestOpen_20 : decode b_Model_fullestOpen 20 = .ok (.ifCond .eq 22, 3) := by decide +kernel
theorem d_Model_fullestOpen_23 : decode b_Model_fullestOpen 23 = .ok (.aload_n 0, 1) := by decide +kernel
theorem d_Model_fullestOpen_24 : decode b_Model_fullestOpen 24 = .ok (.getfield 18, 3) := by decide +kernel
theorem d_Model_fullestOpen_27 : decode b_Model_fullestOpen 27 = .ok (.iload_n 3, 1) := by decide +kernel
theorem d_Model_fullestOpen_28 : decode b_Model_fullestOpen 28 = .ok (.iaload, 1) := by decide +kernel
theorem d_Model_fullestOpen_29 : decode b_Model_fullestOpen 29 = .ok (.iload_n 2, 1) := by decide +kernel
theorem d_Model_fullestOpen_30 : decode b_Model_fullestOpen 30 = .ok (.if_icmp .le 12, 3) := by decide +kernel
theorem d_Model_fullestOpen_33 : decode b_Model_fullestOpen 33 = .ok (.iload_n 3, 1) := by decide +kernel
theorem d_Model_fullestOpen_34 : decode b_Model_fullestOpen 34 = .ok (.istore_n 1, 1) := by decide +kernel
theorem d_Model_fullestOpen_35 : decode b_Model_fullestOpen 35 = .ok (.aload_n 0, 1) := by decide +kernel
theorem d_Model_fullestOpen_36 : decode b_Model_fullestOpen 36 = .ok (.getfield 18, 3) := by decide +kernel
theorem d_Model_fullestOpen_39 : decode b_Model_fullestOpen 39 = .ok (.iload_n 3, 1) := by decide +kernel
theorem d_Model_fullestOpen_40 : decode b_Model_fullestOpen 40 = .ok (.iaload, 1) := by decide +kernel
theorem d_Model_fullestOpen_41 : decode b_Model_fullestOpen 41 = .ok (.istore_n 2, 1) := by decide +kernel
theorem d_Model_fullestOpen_42 : decode b_Model_fullestOpen 42 = .ok (.iinc 3 1, 3) := by decide +kernel
theorem d_Model_fullestOpen_45 : decode b_Model_fullestOpen 45 = .ok (.goto (-37), 3) := by decide +kernel
theorem d_Model_fullestOpen_48 : decode b_Model_fullestOpen 48 = .ok (.iload_n 1, 1) := by decide +kernel
theorem d_Model_fullestOpen_49 : decode b_Model_fullestOpen 49 = .ok (.ireturn, 1) := by decide +kernel
def rm_Model_fullestOpen : Room := { frames := 0, cells := 0, slots := 0, locals := 0 }
theorem mf_Model_fullestOpen : zMV y_Model_fullestOpen b_Model_fullestOpen 4 (some .int) 0 := ⟨q356, qs8, q4, q357, by decide +kernel⟩
def F_Model_fullestOpen_8 (K : Int → zH → Prop)  (L8 : Int × Int × Int × zH → Prop) (p0 : Nat) (x1 : Int) (x2 : Int) (x3 : Int) (h : zH) : Prop :=
  (8 ≤ x3 → (K x1 h)) ∧ (x3 < 8 → ((0 ≤ x3 ∧ x3 < 8) ∧ ((h (p0 + 5) x3.toNat = 0 → (zr (x3 + 1) ∧ (L8 (x1, x2, x3 + 1, h)))) ∧ (h (p0 + 5) x3.toNat ≠ 0 → ((0 ≤ x3 ∧ x3 < 8) ∧ ((h (p0 + 3) x3.toNat ≤ x2 → (zr (x3 + 1) ∧ (L8 (x1, x2, x3 + 1, h)))) ∧ (x2 < h (p0 + 3) x3.toNat → ((0 ≤ x3 ∧ x3 < 8) ∧ ((∀ x2_6 : Int, x2_6 = h (p0 + 3) x3.toNat → (zr (x3 + 1) ∧ (L8 (x3, x2_6, x3 + 1, h)))))))))))))
set_option maxRecDepth 100000 in
theorem s_Model_fullestOpen_8 {Wf : Heap → List Loc → JFrame → Prop} {m : MethodId} {g : zG} {n : Nat} {H0 : Heap} (X : zX Wf m rm_Model_fullestOpen b_Model_fullestOpen "AliasStreams$Model" 4 g n H0) {K : Int → zH → Prop} (E : zEx Wf m b_Model_fullestOpen (some .int) 4 g n H0 (zPi K))  {p0 : Nat}  (op0 : zO n p0 1) {q0 : Int × Int × Int × zH} (hv0 : zLoop (fun L q => F_Model_fullestOpen_8 K  L p0 q.1 q.2.1 q.2.2.1 q.2.2.2) q0) : zr q0.1 → zr q0.2.1 → zr q0.2.2.1 → zh (q0.2.2.2) → zW Wf m 4 g n H0 8 [(0, .ref (g.2.2 p0)), (1, zi q0.1), (2, zi q0.2.1), (3, zi q0.2.2.1)] [] (q0.2.2.2) := by
  refine zLoop_use (G := fun q => zr q.1 → zr q.2.1 → zr q.2.2.1 → zh (q.2.2.2) → zW Wf m 4 g n H0 8 [(0, .ref (g.2.2 p0)), (1, zi q.1), (2, zi q.2.1), (3, zi q.2.2.1)] [] (q.2.2.2)) ?_ hv0
  rintro L8 ⟨x1, x2, x3, h⟩ hL8 hv rx1 rx2 rx3 hh
  have hv : F_Model_fullestOpen_8 K  L8 p0 x1 x2 x3 h := hv
  unfold F_Model_fullestOpen_8 at hv
  show zW Wf m 4 g n H0 8 [(0, .ref (g.2.2 p0)), (1, zi x1), (2, zi x2), (3, zi x3)] [] h
  refine z_iload_n (pc := 8) (q := 3) X d_Model_fullestOpen_8 rfl ?_
  refine z_bipush (pc := 9) X d_Model_fullestOpen_9 (by decide) ?_
  refine z_icmp_ge (pc := 11) (tgt := 48) X rx3 (show zr 8 from by decide) d_Model_fullestOpen_11 (by decide) (fun hc => ?_) (fun hc => ?_)
  · replace hv := hv.1 hc
    refine z_iload_n (pc := 48) (q := 1) X d_Model_fullestOpen_48 rfl ?_
    exact E.2.1 rfl _ _ _ _ d_Model_fullestOpen_49 ⟨_, rfl, rx1, hh, hv⟩
  · replace hv := hv.2 hc
    refine z_aload_n (pc := 14) (q := 0) X d_Model_fullestOpen_14 rfl ?_
    refine z_getr (pc := 15) (j := 4) (dd := 5) X cf_Model op0 (by decide) q86 rfl rfl d_Model_fullestOpen_15 ?_
    refine z_iload_n (pc := 18) (q := 3) X d_Model_fullestOpen_18 rfl ?_
    obtain ⟨v_1, hv⟩ := hv
    refine z_zaldj (pc := 19) (j := x3.toNat) X (gf_Model_4 op0) (gl_Model_4 op0) rx3 v_1 rfl d_Model_fullestOpen_19 ?_
    refine z_if_eq (pc := 20) (tgt := 42) X (hh.1 _ _ (zO.ne (gf_Model_4 op0) (by decide))) d_Model_fullestOpen_20 (by decide) (fun hc => ?_) (fun hc => ?_)
    · replace hv := hv.1 hc
      obtain ⟨v_2, hv⟩ := hv
      refine z_iinc (pc := 42) (q := 3) (lv' := [(3, zi (x3 + 1)), (0, .ref (g.2.2 p0)), (1, zi x1), (2, zi x2)]) X d_Model_fullestOpen_42 rfl (by decide) rfl ?_
      refine z_goto (pc := 45) (tgt := 8) X d_Model_fullestOpen_45 (by decide) ?_
      refine z_perm [1, 2, 3, 0] rfl ?_
      exact hL8 _ hv rx1 rx2 v_2 hh
    · replace hv := hv.2 hc
      refine z_aload_n (pc := 23) (q := 0) X d_Model_fullestOpen_23 rfl ?_
      refine z_getr (pc := 24) (j := 2) (dd := 3) X cf_Model op0 (by decide) q82 rfl rfl d_Model_fullestOpen_24 ?_
      refine z_iload_n (pc := 27) (q := 3) X d_Model_fullestOpen_27 rfl ?_
      obtain ⟨v_3, hv⟩ := hv
      refine z_ialdj (pc := 28) (j := x3.toNat) X (gf_Model_2 op0) (gl_Model_2 op0) rx3 v_3 rfl d_Model_fullestOpen_28 ?_
      refine z_iload_n (pc := 29) (q := 2) X d_Model_fullestOpen_29 rfl ?_
      refine z_icmp_le (pc := 30) (tgt := 42) X (hh.1 _ _ (zO.ne (gf_Model_2 op0) (by decide))) rx2 d_Model_fullestOpen_30 (by decide) (fun hc => ?_) (fun hc => ?_)
      · replace hv := hv.1 hc
        obtain ⟨v_4, hv⟩ := hv
        refine z_iinc (pc := 42) (q := 3) (lv' := [(3, zi (x3 + 1)), (0, .ref (g.2.2 p0)), (1, zi x1), (2, zi x2)]) X d_Model_fullestOpen_42 rfl (by decide) rfl ?_
        refine z_goto (pc := 45) (tgt := 8) X d_Model_fullestOpen_45 (by decide) ?_
        refine z_perm [1, 2, 3, 0] rfl ?_
        exact hL8 _ hv rx1 rx2 v_4 hh
      · replace hv := hv.2 hc
        refine z_iload_n (pc := 33) (q := 3) X d_Model_fullestOpen_33 rfl ?_
        refine z_istore_n (pc := 34) (lv' := [(1, zi x3), (0, .ref (g.2.2 p0)), (2, zi x2), (3, zi x3)]) X d_Model_fullestOpen_34 (by decide) rfl ?_
        refine z_aload_n (pc := 35) (q := 1) X d_Model_fullestOpen_35 rfl ?_
        refine z_getr (pc := 36) (j := 2) (dd := 3) X cf_Model op0 (by decide) q82 rfl rfl d_Model_fullestOpen_36 ?_
        refine z_iload_n (pc := 39) (q := 3) X d_Model_fullestOpen_39 rfl ?_
        obtain ⟨v_5, hv⟩ := hv
        refine z_ialdj (pc := 40) (j := x3.toNat) X (gf_Model_2 op0) (gl_Model_2 op0) rx3 v_5 rfl d_Model_fullestOpen_40 ?_
        refine z_topi (fun x2_6 ex2_6 => ?_)
        have rx2_6 : zr x2_6 := by rw [ex2_6]; exact (hh.1 _ _ (zO.ne (gf_Model_2 op0) (by decide)))
        replace hv := hv x2_6 ex2_6
        refine z_istore_n (pc := 41) (lv' := [(2, zi x2_6), (1, zi x3), (0, .ref (g.2.2 p0)), (3, zi x3)]) X d_Model_fullestOpen_41 (by decide) rfl ?_
        obtain ⟨v_7, hv⟩ := hv
        refine z_iinc (pc := 42) (q := 3) (lv' := [(3, zi (x3 + 1)), (2, zi x2_6), (1, zi x3), (0, .ref (g.2.2 p0))]) X d_Model_fullestOpen_42 rfl (by decide) rfl ?_
        refine z_goto (pc := 45) (tgt := 8) X d_Model_fullestOpen_45 (by decide) ?_
        refine z_perm [3, 2, 1, 0] rfl ?_
        exact hL8 _ hv rx3 rx2_6 v_7 hh
def M_Model_fullestOpen (p0 : Nat) (h : zH) (K : Int → zH → Prop) : Prop :=
  zLoop (fun L q => F_Model_fullestOpen_8 K  L p0 q.1 q.2.1 q.2.2.1 q.2.2.2) ((-9), (-9), 0, h)
set_option maxRecDepth 100000 in
theorem c_Model_fullestOpen {l : Launch} (hfl : l.flags = flags0) {g : zG} {n : Nat} {p0 : Nat} (op0 : zO n p0 1) {h : zH} (hh : zh h) {K : Int → zH → Prop} (hv : M_Model_fullestOpen p0 h K) : zMet l y_Model_fullestOpen b_Model_fullestOpen 4 (some .int) rm_Model_fullestOpen g n [.ref (g.2.2 p0)] h (zPi K) := by
  refine zMet_of (own := "AliasStreams$Model") hfl (by decide) rfl (Nat.le_of_ble_eq_true rfl) (fun Wf m H0 X E => ?_)
  unfold M_Model_fullestOpen at hv
  show zW Wf m 4 g n H0 0 [(0, .ref (g.2.2 p0))] [] h
  refine z_bipush (pc := 0) X d_Model_fullestOpen_0 (by decide) ?_
  refine z_istore_n (pc := 2) (lv' := [(1, zi (-9)), (0, .ref (g.2.2 p0))]) X d_Model_fullestOpen_2 (by decide) rfl ?_
  refine z_bipush (pc := 3) X d_Model_fullestOpen_3 (by decide) ?_
  refine z_istore_n (pc := 5) (lv' := [(2, zi (-9)), (1, zi (-9)), (0, .ref (g.2.2 p0))]) X d_Model_fullestOpen_5 (by decide) rfl ?_
  refine z_iconst (pc := 6) X d_Model_fullestOpen_6 ?_
  refine z_istore_n (pc := 7) (lv' := [(3, zi 0), (2, zi (-9)), (1, zi (-9)), (0, .ref (g.2.2 p0))]) X d_Model_fullestOpen_7 (by decide) rfl ?_
  refine z_perm [3, 2, 1, 0] rfl ?_
  exact s_Model_fullestOpen_8 X E  op0 hv (show zr (-9) from by decide) (show zr (-9) from by decide) (show zr 0 from by decide) hh
theorem d_Model_closeOne_0 : decode b_Model_closeOne 0 = .ok (.aload_n 0, 1) := by decide +kernel
theorem d_Model_closeOne_1 : decode b_Model_closeOne 1 = .ok (.invokevirtual 68, 3) := by decide +kernel
theorem d_Model_closeOne_4 : decode b_Model_closeOne 4 = .ok (.istore_n 1, 1) := by decide +kernel
theorem d_Model_closeOne_5 : decode b_Model_closeOne 5 = .ok (.iload_n 1, 1) := by decide +kernel
theorem d_Model_closeOne_6 : decode b_Model_closeOne 6 = .ok (.ifCond .ge 4, 3) := by decide +kernel
theorem d_Model_closeOne_9 : decode b_Model_closeOne 9 = .ok (.return_, 1) := by decide +kernel
theorem d_Model_closeOne_10 : decode b_Model_closeOne 10 = .ok (.aload_n 0, 1) := by decide +kernel
theorem d_Model_closeOne_11 : decode b_Model_closeOne 11 = .ok (.getfield 24, 3) := by decide +kernel
theorem d_Model_closeOne_14 : decode b_Model_closeOne 14 = .ok (.iload_n 1, 1) := by decide +kernel
theorem d_Model_closeOne_15 : decode b_Model_closeOne 15 = .ok (.iconst 0, 1) := by decide +kernel
theorem d_Model_closeOne_16 : decode b_Model_closeOne 16 = .ok (.bastore, 1) := by decide +kernel
theorem d_Model_closeOne_17 : decode b_Model_closeOne 17 = .ok (.iconst 4, 1) := by decide +kernel
theorem d_Model_closeOne_18 : decode b_Model_closeOne 18 = .ok (.aload_n 0, 1) := by decide +kernel
theorem d_Model_closeOne_19 : decode b_Model_closeOne 19 = .ok (.getfield 18, 3) := by decide +kernel
theorem d_Model_closeOne_22 : decode b_Model_closeOne 22 = .ok (.iload_n 1, 1) := by decide +kernel
theorem d_Model_closeOne_23 : decode b_Model_closeOne 23 = .ok (.iaload, 1) := by decide +kernel
theorem d_Model_closeOne_24 : decode b_Model_closeOne 24 = .ok (.isub, 1) := by decide +kernel
theorem d_Model_closeOne_25 : decode b_Model_closeOne 25 = .ok (.istore_n 2, 1) := by decide +kernel
theorem d_Model_closeOne_26 : decode b_Model_closeOne 26 = .ok (.aload_n 0, 1) := by decide +kernel
theorem d_Model_closeOne_27 : decode b_Model_closeOne 27 = .ok (.invokevirtual 72, 3) := by decide +kernel
theorem d_Model_closeOne_30 : decode b_Model_closeOne 30 = .ok (.istore_n 3, 1) := by decide +kernel
theorem d_Model_closeOne_31 : decode b_Model_closeOne 31 = .ok (.iload_n 2, 1) := by decide +kernel
theorem d_Model_closeOne_32 : decode b_Model_closeOne 32 = .ok (.ifCond .le 24, 3) := by decide +kernel
theorem d_Model_closeOne_35 : decode b_Model_closeOne 35 = .ok (.iload_n 3, 1) := by decide +kernel
theorem d_Model_closeOne_36 : decode b_Model_closeOne 36 = .ok (.ifCond .lt 20, 3) := by decide +kernel
theorem d_Model_closeOne_39 : decode b_Model_closeOne 39 = .ok (.aload_n 0, 1) := by decide +kernel
theorem d_Model_closeOne_40 : decode b_Model_closeOne 40 = .ok (.getfield 21, 3) := by decide +kernel
theorem d_Model_closeOne_43 : decode b_Model_closeOne 43 = .ok (.iload_n 1, 1) := by decide +kernel
theorem d_Model_closeOne_44 : decode b_Model_closeOne 44 = .ok (.iload_n 3, 1) := by decide +kernel
theorem d_Model_closeOne_45 : decode b_Model_closeOne 45 = .ok (.iastore, 1) := by decide +kernel
theorem d_Model_closeOne_46 : decode b_Model_closeOne 46 = .ok (.aload_n 0, 1) := by decide +kernel
theorem d_Model_closeOne_47 : decode b_Model_closeOne 47 = .ok (.getfield 18, 3) := by decide +kernel
theorem d_Model_closeOne_50 : decode b_Model_closeOne 50 = .ok (.iload_n 3, 1) := by decide +kernel
theorem d_Model_closeOne_51 : decode b_Model_closeOne 51 = .ok (.dup2, 1) := by decide +kernel
theorem d_Model_closeOne_52 : decode b_Model_closeOne 52 = .ok (.iaload, 1) := by decide +kernel
theorem d_Model_closeOne_53 : decode b_Model_closeOne 53 = .ok (.iload_n 2, 1) := by decide +kernel
theorem d_Model_closeOne_54 : decode b_Model_closeOne 54 = .ok (.isub, 1) := by decide +kernel
theorem d_Model_closeOne_55 : decode b_Model_closeOne 55 = .ok (.iastore, 1) := by decide +kernel
theorem d_Model_closeOne_56 : decode b_Model_closeOne 56 = .ok (.return_, 1) := by decide +kernel
def rm_Model_closeOne : Room := { frames := 1, cells := 0, slots := 0, locals := 23 }
theorem mf_Model_closeOne : zMV y_Model_closeOne b_Model_closeOne 4 none 0 := ⟨q348, qs6, q4, q349, by decide +kernel⟩
def M_Model_closeOne (p0 : Nat) (h : zH) (K : zH → Prop) : Prop :=
  M_Model_firstToClose p0 h (fun r_2 h_1 => (0 ≤ r_2 → ((0 ≤ r_2 ∧ r_2 < 8) ∧ (∀ h_4 : zH, h_4 = zs h_1 (p0 + 5) r_2.toNat 0 → ((0 ≤ r_2 ∧ r_2 < 8) ∧ (zr (4 - (h_4 (p0 + 3) r_2.toNat)) ∧ ((∀ x2_7 : Int, x2_7 = 4 - (h_4 (p0 + 3) r_2.toNat) → (M_Model_fullestOpen p0 h_4 (fun r_9 h_8 => (x2_7 ≤ 0 → (K h_8)) ∧ (0 < x2_7 → ((r_9 < 0 → (K h_8)) ∧ (0 ≤ r_9 → ((0 ≤ r_2 ∧ r_2 < 8) ∧ (∀ h_11 : zH, h_11 = zs h_8 (p0 + 4) r_2.toNat r_9 → ((0 ≤ r_9 ∧ r_9 < 8) ∧ (zr ((h_11 (p0 + 3) r_9.toNat) - x2_7) ∧ ((0 ≤ r_9 ∧ r_9 < 8) ∧ (∀ h_15 : zH, h_15 = zs h_11 (p0 + 3) r_9.toNat ((h_11 (p0 + 3) r_9.toNat) - x2_7) → (K h_15))))))))))))))))))) ∧ (r_2 < 0 → (K h_1)))
set_option maxRecDepth 100000 in
theorem c_Model_closeOne {l : Launch} (hfl : l.flags = flags0) {g : zG} {n : Nat} {p0 : Nat} (op0 : zO n p0 1) {h : zH} (hh : zh h) {K : zH → Prop} (hv : M_Model_closeOne p0 h K) : zMet l y_Model_closeOne b_Model_closeOne 4 none rm_Model_closeOne g n [.ref (g.2.2 p0)] h (zPv K) := by
  refine zMet_of (own := "AliasStreams$Model") hfl (by decide) rfl (Nat.le_of_ble_eq_true rfl) (fun Wf m H0 X E => ?_)
  unfold M_Model_closeOne at hv
  show zW Wf m 4 g n H0 0 [(0, .ref (g.2.2 p0))] [] h
  refine z_aload_n (pc := 0) (q := 0) X d_Model_closeOne_0 rfl ?_
  refine z_callVi (pc := 1) (As := []) (rest := []) X (fun l hl => c_Model_firstToClose hl op0 hh hv) cf_Model op0 rfl mf_Model_firstToClose q350 ⟨⟨by decide, by decide⟩, rfl, rfl⟩ rfl d_Model_closeOne_1 rfl (Nat.le_of_ble_eq_true rfl) (fun r_2 h_1 rr_2 zh_1 hv => ?_)
  refine z_istore_n (pc := 4) (lv' := [(1, zi r_2), (0, .ref (g.2.2 p0))]) X d_Model_closeOne_4 (by decide) rfl ?_
  refine z_iload_n (pc := 5) (q := 0) X d_Model_closeOne_5 rfl ?_
  refine z_if_ge (pc := 6) (tgt := 10) X rr_2 d_Model_closeOne_6 (by decide) (fun hc => ?_) (fun hc => ?_)
  · replace hv := hv.1 hc
    refine z_aload_n (pc := 10) (q := 1) X d_Model_closeOne_10 rfl ?_
    refine z_getr (pc := 11) (j := 4) (dd := 5) X cf_Model op0 (by decide) q86 rfl rfl d_Model_closeOne_11 ?_
    refine z_iload_n (pc := 14) (q := 0) X d_Model_closeOne_14 rfl ?_
    refine z_iconst (pc := 15) X d_Model_closeOne_15 ?_
    obtain ⟨v_3, hv⟩ := hv
    refine z_zastj (pc := 16) (j := r_2.toNat) X (gf_Model_4 op0) (gl_Model_4 op0) rr_2 v_3 rfl (by decide) d_Model_closeOne_16 ?_
    refine z_toph (fun h_4 eh_4 => ?_)
    have zh_4 : zh h_4 := by rw [eh_4]; exact zh_set zh_1 (zO.ne (gf_Model_4 op0) (by decide)) (show zr 0 from by decide)
    replace hv := hv h_4 eh_4
    refine z_iconst (pc := 17) X d_Model_closeOne_17 ?_
    refine z_aload_n (pc := 18) (q := 1) X d_Model_closeOne_18 rfl ?_
    refine z_getr (pc := 19) (j := 2) (dd := 3) X cf_Model op0 (by decide) q82 rfl rfl d_Model_closeOne_19 ?_
    refine z_iload_n (pc := 22) (q := 0) X d_Model_closeOne_22 rfl ?_
    obtain ⟨v_5, hv⟩ := hv
    refine z_ialdj (pc := 23) (j := r_2.toNat) X (gf_Model_2 op0) (gl_Model_2 op0) rr_2 v_5 rfl d_Model_closeOne_23 ?_
    obtain ⟨v_6, hv⟩ := hv
    refine z_isub (pc := 24) X d_Model_closeOne_24 ?_
    refine z_topi (fun x2_7 ex2_7 => ?_)
    have rx2_7 : zr x2_7 := by rw [ex2_7]; exact v_6
    replace hv := hv x2_7 ex2_7
    refine z_istore_n (pc := 25) (lv' := [(2, zi x2_7), (1, zi r_2), (0, .ref (g.2.2 p0))]) X d_Model_closeOne_25 (by decide) rfl ?_
    refine z_aload_n (pc := 26) (q := 2) X d_Model_closeOne_26 rfl ?_
    refine z_callVi (pc := 27) (As := []) (rest := []) X (fun l hl => c_Model_fullestOpen hl op0 zh_4 hv) cf_Model op0 rfl mf_Model_fullestOpen q354 ⟨⟨by decide, by decide⟩, rfl, rfl⟩ rfl d_Model_closeOne_27 rfl (Nat.le_of_ble_eq_true rfl) (fun r_9 h_8 rr_9 zh_8 hv => ?_)
    refine z_istore_n (pc := 30) (lv' := [(3, zi r_9), (2, zi x2_7), (1, zi r_2), (0, .ref (g.2.2 p0))]) X d_Model_closeOne_30 (by decide) rfl ?_
    refine z_iload_n (pc := 31) (q := 1) X d_Model_closeOne_31 rfl ?_
    refine z_if_le (pc := 32) (tgt := 56) X rx2_7 d_Model_closeOne_32 (by decide) (fun hc => ?_) (fun hc => ?_)
    · replace hv := hv.1 hc
      exact E.1 rfl _ _ _ d_Model_closeOne_56 ⟨rfl, zh_8, hv⟩
    · replace hv := hv.2 hc
      refine z_iload_n (pc := 35) (q := 0) X d_Model_closeOne_35 rfl ?_
      refine z_if_lt (pc := 36) (tgt := 56) X rr_9 d_Model_closeOne_36 (by decide) (fun hc => ?_) (fun hc => ?_)
      · replace hv := hv.1 hc
        exact E.1 rfl _ _ _ d_Model_closeOne_56 ⟨rfl, zh_8, hv⟩
      · replace hv := hv.2 hc
        refine z_aload_n (pc := 39) (q := 3) X d_Model_closeOne_39 rfl ?_
        refine z_getr (pc := 40) (j := 3) (dd := 4) X cf_Model op0 (by decide) q84 rfl rfl d_Model_closeOne_40 ?_
        refine z_iload_n (pc := 43) (q := 2) X d_Model_closeOne_43 rfl ?_
        refine z_iload_n (pc := 44) (q := 0) X d_Model_closeOne_44 rfl ?_
        obtain ⟨v_10, hv⟩ := hv
        refine z_iastj (pc := 45) (j := r_2.toNat) X (gf_Model_3 op0) (gl_Model_3 op0) rr_2 v_10 rfl d_Model_closeOne_45 ?_
        refine z_toph (fun h_11 eh_11 => ?_)
        have zh_11 : zh h_11 := by rw [eh_11]; exact zh_set zh_8 (zO.ne (gf_Model_3 op0) (by decide)) rr_9
        replace hv := hv h_11 eh_11
        refine z_aload_n (pc := 46) (q := 3) X d_Model_closeOne_46 rfl ?_
        refine z_getr (pc := 47) (j := 2) (dd := 3) X cf_Model op0 (by decide) q82 rfl rfl d_Model_closeOne_47 ?_
        refine z_iload_n (pc := 50) (q := 0) X d_Model_closeOne_50 rfl ?_
        refine z_dup2 (pc := 51) X d_Model_closeOne_51 rfl rfl ?_
        obtain ⟨v_12, hv⟩ := hv
        refine z_ialdj (pc := 52) (j := r_9.toNat) X (gf_Model_2 op0) (gl_Model_2 op0) rr_9 v_12 rfl d_Model_closeOne_52 ?_
        refine z_iload_n (pc := 53) (q := 1) X d_Model_closeOne_53 rfl ?_
        obtain ⟨v_13, hv⟩ := hv
        refine z_isub (pc := 54) X d_Model_closeOne_54 ?_
        obtain ⟨v_14, hv⟩ := hv
        refine z_iastj (pc := 55) (j := r_9.toNat) X (gf_Model_2 op0) (gl_Model_2 op0) rr_9 v_14 rfl d_Model_closeOne_55 ?_
        refine z_toph (fun h_15 eh_15 => ?_)
        have zh_15 : zh h_15 := by rw [eh_15]; exact zh_set zh_11 (zO.ne (gf_Model_2 op0) (by decide)) v_13
        replace hv := hv h_15 eh_15
        exact E.1 rfl _ _ _ d_Model_closeOne_56 ⟨rfl, zh_15, hv⟩
  · replace hv := hv.2 hc
    exact E.1 rfl _ _ _ d_Model_closeOne_9 ⟨rfl, zh_1, hv⟩
theorem d_Model_closeBuckets_0 : decode b_Model_closeBuckets 0 = .ok (.iconst 0, 1) := by decide +kernel
theorem d_Model_closeBuckets_1 : decode b_Model_closeBuckets 1 = .ok (.istore_n 1, 1) := by decide +kernel
theorem d_Model_closeBuckets_2 : decode b_Model_closeBuckets 2 = .ok (.iload_n 1, 1) := by decide +kernel
theorem d_Model_closeBuckets_3 : decode b_Model_closeBuckets 3 = .ok (.bipush 8, 2) := by decide +kernel
theorem d_Model_closeBuckets_5 : decode b_Model_closeBuckets 5 = .ok (.if_icmp .ge 36, 3) := by decide +kernel
theorem d_Model_closeBuckets_8 : decode b_Model_closeBuckets 8 = .ok (.aload_n 0, 1) := by decide +kernel
theorem d_Model_closeBuckets_9 : decode b_Model_closeBuckets 9 = .ok (.getfield 18, 3) := by decide +kernel
theorem d_Model_closeBuckets_12 : decode b_Model_closeBuckets 12 = .ok (.iload_n 1, 1) := by decide +kernel
theorem d_Model_closeBuckets_13 : decode b_Model_closeBuckets 13 = .ok (.aload_n 0, 1) := by decide +kernel
theorem d_Model_closeBuckets_14 : decode b_Model_closeBuckets 14 = .ok (.getfield 9, 3) := by decide +kernel
theorem d_Model_closeBuckets_17 : decode b_Model_closeBuckets 17 = .ok (.iload_n 1, 1) := by decide +kernel
theorem d_Model_closeBuckets_18 : decode b_Model_closeBuckets 18 = .ok (.iaload, 1) := by decide +kernel
theorem d_Model_closeBuckets_19 : decode b_Model_closeBuckets 19 = .ok (.iastore, 1) := by decide +kernel
theorem d_Model_closeBuckets_20 : decode b_Model_closeBuckets 20 = .ok (.aload_n 0, 1) := by decide +kernel
theorem d_Model_closeBuckets_21 : decode b_Model_closeBuckets 21 = .ok (.getfield 21, 3) := by decide +kernel
theorem d_Model_closeBuckets_24 : decode b_Model_closeBuckets 24 = .ok (.iload_n 1, 1) := by decide +kernel
theorem d_Model_closeBuckets_25 : decode b_Model_closeBuckets 25 = .ok (.bipush (-9), 2) := by decide +kernel
theorem d_Model_closeBuckets_27 : decode b_Model_closeBuckets 27 = .ok (.iastore, 1) := by decide +kernel
theorem d_Model_closeBuckets_28 : decode b_Model_closeBuckets 28 = .ok (.aload_n 0, 1) := by decide +kernel
theorem d_Model_closeBuckets_29 : decode b_Model_closeBuckets 29 = .ok (.getfield 24, 3) := by decide +kernel
theorem d_Model_closeBuckets_32 : decode b_Model_closeBuckets 32 = .ok (.iload_n 1, 1) := by decide +kernel
theorem d_Model_closeBuckets_33 : decode b_Model_closeBuckets 33 = .ok (.iconst 1, 1) := by decide +kernel
theorem d_Model_closeBuckets_34 : decode b_Model_closeBuckets 34 = .ok (.bastore, 1) := by decide +kernel
theorem d_Model_closeBuckets_35 : decode b_Model_closeBuckets 35 = .ok (.iinc 1 1, 3) := by decide +kernel
theorem d_Model_closeBuckets_38 : decode b_Model_closeBuckets 38 = .ok (.goto (-36), 3) := by decide +kernel
theorem d_Model_closeBuckets_41 : decode b_Model_closeBuckets 41 = .ok (.iconst 0, 1) := by decide +kernel
theorem d_Model_closeBuckets_42 : decode b_Model_closeBuckets 42 = .ok (.istore_n 1, 1) := by decide +kernel
theorem d_Model_closeBuckets_43 : decode b_Model_closeBuckets 43 = .ok (.iload_n 1, 1) := by decide +kernel
theorem d_Model_closeBuckets_44 : decode b_Model_closeBuckets 44 = .ok (.bipush 8, 2) := by decide +kernel
theorem d_Model_closeBuckets_46 : decode b_Model_closeBuckets 46 = .ok (.if_icmp .ge 13, 3) := by decide +kernel
theorem d_Model_closeBuckets_49 : decode b_Model_closeBuckets 49 = .ok (.aload_n 0, 1) := by decide +kernel
theorem d_Model_closeBuckets_50 : decode b_Model_closeBuckets 50 = .ok (.invokevirtual 65, 3) := by decide +kernel
theorem d_Model_closeBuckets_53 : decode b_Model_closeBuckets 53 = .ok (.iinc 1 1, 3) := by decide +kernel
theorem d_Model_closeBuckets_56 : decode b_Model_closeBuckets 56 = .ok (.goto (-13), 3) := by decide +kernel
theorem d_Model_closeBuckets_59 : decode b_Model_closeBuckets 59 = .ok (.return_, 1) := by decide +kernel
def rm_Model_closeBuckets : Room := { frames := 2, cells := 0, slots := 0, locals := 46 }
theorem mf_Model_closeBuckets : zMV y_Model_closeBuckets b_Model_closeBuckets 2 none 0 := ⟨q344, qs5, q4, q345, by decide +kernel⟩
def F_Model_closeBuckets_43 (K : zH → Prop)  (L43 : Int × zH → Prop) (p0 : Nat) (x1 : Int) (h : zH) : Prop :=
  (8 ≤ x1 → (K h)) ∧ (x1 < 8 → (M_Model_closeOne p0 h (fun h_1 => zr (x1 + 1) ∧ (L43 (x1 + 1, h_1)))))
set_option maxRecDepth 100000 in
theorem s_Model_closeBuckets_43 {Wf : Heap → List Loc → JFrame → Prop} {m : MethodId} {g : zG} {n : Nat} {H0 : Heap} (X : zX Wf m rm_Model_closeBuckets b_Model_closeBuckets "AliasStreams$Model" 2 g n H0) {K : zH → Prop} (E : zEx Wf m b_Model_closeBuckets none 2 g n H0 (zPv K))  {p0 : Nat}  (op0 : zO n p0 1) {q0 : Int × zH} (hv0 : zLoop (fun L q => F_Model_closeBuckets_43 K  L p0 q.1 q.2) q0) : zr q0.1 → zh (q0.2) → zW Wf m 2 g n H0 43 [(0, .ref (g.2.2 p0)), (1, zi q0.1)] [] (q0.2) := by
  refine zLoop_use (G := fun q => zr q.1 → zh (q.2) → zW Wf m 2 g n H0 43 [(0, .ref (g.2.2 p0)), (1, zi q.1)] [] (q.2)) ?_ hv0
  rintro L43 ⟨x1, h⟩ hL43 hv rx1 hh
  have hv : F_Model_closeBuckets_43 K  L43 p0 x1 h := hv
  unfold F_Model_closeBuckets_43 at hv
  show zW Wf m 2 g n H0 43 [(0, .ref (g.2.2 p0)), (1, zi x1)] [] h
  refine z_iload_n (pc := 43) (q := 1) X d_Model_closeBuckets_43 rfl ?_
  refine z_bipush (pc := 44) X d_Model_closeBuckets_44 (by decide) ?_
  refine z_icmp_ge (pc := 46) (tgt := 59) X rx1 (show zr 8 from by decide) d_Model_closeBuckets_46 (by decide) (fun hc => ?_) (fun hc => ?_)
  · replace hv := hv.1 hc
    exact E.1 rfl _ _ _ d_Model_closeBuckets_59 ⟨rfl, hh, hv⟩
  · replace hv := hv.2 hc
    refine z_aload_n (pc := 49) (q := 0) X d_Model_closeBuckets_49 rfl ?_
    refine z_callVv (pc := 50) (As := []) (rest := []) X (fun l hl => c_Model_closeOne hl op0 hh hv) cf_Model op0 rfl mf_Model_closeOne q346 ⟨⟨by decide, by decide⟩, rfl, rfl⟩ rfl d_Model_closeBuckets_50 rfl (Nat.le_of_ble_eq_true rfl) (fun h_1 zh_1 hv => ?_)
    obtain ⟨v_3, hv⟩ := hv
    refine z_iinc (pc := 53) (q := 1) (lv' := [(1, zi (x1 + 1)), (0, .ref (g.2.2 p0))]) X d_Model_closeBuckets_53 rfl (by decide) rfl ?_
    refine z_goto (pc := 56) (tgt := 43) X d_Model_closeBuckets_56 (by decide) ?_
    refine z_perm [1, 0] rfl ?_
    exact hL43 _ hv v_3 zh_1
def F_Model_closeBuckets_2 (K : zH → Prop)  (L2 : Int × zH → Prop) (p0 : Nat) (x1 : Int) (h : zH) : Prop :=
  (8 ≤ x1 → (zLoop (fun L q => F_Model_closeBuckets_43 K  L p0 q.1 q.2) (0, h))) ∧ (x1 < 8 → ((0 ≤ x1 ∧ x1 < 8) ∧ ((0 ≤ x1 ∧ x1 < 8) ∧ (∀ h_3 : zH, h_3 = zs h (p0 + 3) x1.toNat (h (p0 + 1) x1.toNat) → ((0 ≤ x1 ∧ x1 < 8) ∧ (∀ h_5 : zH, h_5 = zs h_3 (p0 + 4) x1.toNat (-9) → ((0 ≤ x1 ∧ x1 < 8) ∧ (∀ h_7 : zH, h_7 = zs h_5 (p0 + 5) x1.toNat 1 → (zr (x1 + 1) ∧ (L2 (x1 + 1, h_7)))))))))))
set_option maxRecDepth 100000 in
theorem s_Model_closeBuckets_2 {Wf : Heap → List Loc → JFrame → Prop} {m : MethodId} {g : zG} {n : Nat} {H0 : Heap} (X : zX Wf m rm_Model_closeBuckets b_Model_closeBuckets "AliasStreams$Model" 2 g n H0) {K : zH → Prop} (E : zEx Wf m b_Model_closeBuckets none 2 g n H0 (zPv K))  {p0 : Nat}  (op0 : zO n p0 1) {q0 : Int × zH} (hv0 : zLoop (fun L q => F_Model_closeBuckets_2 K  L p0 q.1 q.2) q0) : zr q0.1 → zh (q0.2) → zW Wf m 2 g n H0 2 [(0, .ref (g.2.2 p0)), (1, zi q0.1)] [] (q0.2) := by
  refine zLoop_use (G := fun q => zr q.1 → zh (q.2) → zW Wf m 2 g n H0 2 [(0, .ref (g.2.2 p0)), (1, zi q.1)] [] (q.2)) ?_ hv0
  rintro L2 ⟨x1, h⟩ hL2 hv rx1 hh
  have hv : F_Model_closeBuckets_2 K  L2 p0 x1 h := hv
  unfold F_Model_closeBuckets_2 at hv
  show zW Wf m 2 g n H0 2 [(0, .ref (g.2.2 p0)), (1, zi x1)] [] h
  refine z_iload_n (pc := 2) (q := 1) X d_Model_closeBuckets_2 rfl ?_
  refine z_bipush (pc := 3) X d_Model_closeBuckets_3 (by decide) ?_
  refine z_icmp_ge (pc := 5) (tgt := 41) X rx1 (show zr 8 from by decide) d_Model_closeBuckets_5 (by decide) (fun hc => ?_) (fun hc => ?_)
  · replace hv := hv.1 hc
    refine z_iconst (pc := 41) X d_Model_closeBuckets_41 ?_
    refine z_istore_n (pc := 42) (lv' := [(1, zi 0), (0, .ref (g.2.2 p0))]) X d_Model_closeBuckets_42 (by decide) rfl ?_
    refine z_perm [1, 0] rfl ?_
    exact s_Model_closeBuckets_43 X E  op0 hv (show zr 0 from by decide) hh
  · replace hv := hv.2 hc
    refine z_aload_n (pc := 8) (q := 0) X d_Model_closeBuckets_8 rfl ?_
    refine z_getr (pc := 9) (j := 2) (dd := 3) X cf_Model op0 (by decide) q82 rfl rfl d_Model_closeBuckets_9 ?_
    refine z_iload_n (pc := 12) (q := 1) X d_Model_closeBuckets_12 rfl ?_
    refine z_aload_n (pc := 13) (q := 0) X d_Model_closeBuckets_13 rfl ?_
    refine z_getr (pc := 14) (j := 0) (dd := 1) X cf_Model op0 (by decide) q80 rfl rfl d_Model_closeBuckets_14 ?_
    refine z_iload_n (pc := 17) (q := 1) X d_Model_closeBuckets_17 rfl ?_
    obtain ⟨v_1, hv⟩ := hv
    refine z_ialdj (pc := 18) (j := x1.toNat) X (gf_Model_0 op0) (gl_Model_0 op0) rx1 v_1 rfl d_Model_closeBuckets_18 ?_
    obtain ⟨v_2, hv⟩ := hv
    refine z_iastj (pc := 19) (j := x1.toNat) X (gf_Model_2 op0) (gl_Model_2 op0) rx1 v_2 rfl d_Model_closeBuckets_19 ?_
    refine z_toph (fun h_3 eh_3 => ?_)
    have zh_3 : zh h_3 := by rw [eh_3]; exact zh_set hh (zO.ne (gf_Model_2 op0) (by decide)) (hh.1 _ _ (zO.ne (gf_Model_0 op0) (by decide)))
    replace hv := hv h_3 eh_3
    refine z_aload_n (pc := 20) (q := 0) X d_Model_closeBuckets_20 rfl ?_
    refine z_getr (pc := 21) (j := 3) (dd := 4) X cf_Model op0 (by decide) q84 rfl rfl d_Model_closeBuckets_21 ?_
    refine z_iload_n (pc := 24) (q := 1) X d_Model_closeBuckets_24 rfl ?_
    refine z_bipush (pc := 25) X d_Model_closeBuckets_25 (by decide) ?_
    obtain ⟨v_4, hv⟩ := hv
    refine z_iastj (pc := 27) (j := x1.toNat) X (gf_Model_3 op0) (gl_Model_3 op0) rx1 v_4 rfl d_Model_closeBuckets_27 ?_
    refine z_toph (fun h_5 eh_5 => ?_)
    have zh_5 : zh h_5 := by rw [eh_5]; exact zh_set zh_3 (zO.ne (gf_Model_3 op0) (by decide)) (show zr (-9) from by decide)
    replace hv := hv h_5 eh_5
    refine z_aload_n (pc := 28) (q := 0) X d_Model_closeBuckets_28 rfl ?_
    refine z_getr (pc := 29) (j := 4) (dd := 5) X cf_Model op0 (by decide) q86 rfl rfl d_Model_closeBuckets_29 ?_
    refine z_iload_n (pc := 32) (q := 1) X d_Model_closeBuckets_32 rfl ?_
    refine z_iconst (pc := 33) X d_Model_closeBuckets_33 ?_
    obtain ⟨v_6, hv⟩ := hv
    refine z_zastj (pc := 34) (j := x1.toNat) X (gf_Model_4 op0) (gl_Model_4 op0) rx1 v_6 rfl (by decide) d_Model_closeBuckets_34 ?_
    refine z_toph (fun h_7 eh_7 => ?_)
    have zh_7 : zh h_7 := by rw [eh_7]; exact zh_set zh_5 (zO.ne (gf_Model_4 op0) (by decide)) (show zr 1 from by decide)
    replace hv := hv h_7 eh_7
    obtain ⟨v_8, hv⟩ := hv
    refine z_iinc (pc := 35) (q := 1) (lv' := [(1, zi (x1 + 1)), (0, .ref (g.2.2 p0))]) X d_Model_closeBuckets_35 rfl (by decide) rfl ?_
    refine z_goto (pc := 38) (tgt := 2) X d_Model_closeBuckets_38 (by decide) ?_
    refine z_perm [1, 0] rfl ?_
    exact hL2 _ hv v_8 zh_7
def M_Model_closeBuckets (p0 : Nat) (h : zH) (K : zH → Prop) : Prop :=
  zLoop (fun L q => F_Model_closeBuckets_2 K  L p0 q.1 q.2) (0, h)
set_option maxRecDepth 100000 in
theorem c_Model_closeBuckets {l : Launch} (hfl : l.flags = flags0) {g : zG} {n : Nat} {p0 : Nat} (op0 : zO n p0 1) {h : zH} (hh : zh h) {K : zH → Prop} (hv : M_Model_closeBuckets p0 h K) : zMet l y_Model_closeBuckets b_Model_closeBuckets 2 none rm_Model_closeBuckets g n [.ref (g.2.2 p0)] h (zPv K) := by
  refine zMet_of (own := "AliasStreams$Model") hfl (by decide) rfl (Nat.le_of_ble_eq_true rfl) (fun Wf m H0 X E => ?_)
  unfold M_Model_closeBuckets at hv
  show zW Wf m 2 g n H0 0 [(0, .ref (g.2.2 p0))] [] h
  refine z_iconst (pc := 0) X d_Model_closeBuckets_0 ?_
  refine z_istore_n (pc := 1) (lv' := [(1, zi 0), (0, .ref (g.2.2 p0))]) X d_Model_closeBuckets_1 (by decide) rfl ?_
  refine z_perm [1, 0] rfl ?_
  exact s_Model_closeBuckets_2 X E  op0 hv (show zr 0 from by decide) hh
theorem d_Model_enterSlot_0 : decode b_Model_enterSlot 0 = .ok (.iload_n 1, 1) := by decide +kernel
theorem d_Model_enterSlot_1 : decode b_Model_enterSlot 1 = .ok (.ifCond .lt 31, 3) := by decide +kernel
theorem d_Model_enterSlot_4 : decode b_Model_enterSlot 4 = .ok (.iload_n 1, 1) := by decide +kernel
theorem d_Model_enterSlot_5 : decode b_Model_enterSlot 5 = .ok (.bipush 8, 2) := by decide +kernel
theorem d_Model_enterSlot_7 : decode b_Model_enterSlot 7 = .ok (.if_icmp .ge 25, 3) := by decide +kernel
theorem d_Model_enterSlot_10 : decode b_Model_enterSlot 10 = .ok (.iload_n 2, 1) := by decide +kernel
theorem d_Model_enterSlot_11 : decode b_Model_enterSlot 11 = .ok (.ifCond .lt 21, 3) := by decide +kernel
theorem d_Model_enterSlot_14 : decode b_Model_enterSlot 14 = .ok (.iload_n 2, 1) := by decide +kernel
theorem d_Model_enterSlot_15 : decode b_Model_enterSlot 15 = .ok (.bipush 32, 2) := by decide +kernel
theorem d_Model_enterSlot_17 : decode b_Model_enterSlot 17 = .ok (.if_icmp .ge 15, 3) := by decide +kernel
theorem d_Model_enterSlot_20 : decode b_Model_enterSlot 20 = .ok (.aload_n 0, 1) := by decide +kernel
theorem d_Model_enterSlot_21 : decode b_Model_enterSlot 21 = .ok (.getfield 34, 3) := by decide +kernel
theorem d_Model_enterSlot_24 : decode b_Model_enterSlot 24 = .ok (.iload_n 1, 1) := by decide +kernel
theorem d_Model_enterSlot_25 : decode b_Model_enterSlot 25 = .ok (.bipush 32, 2) := by decide +kernel
theorem d_Model_enterSlot_27 : decode b_Model_enterSlot 27 = .ok (.imul, 1) := by decide +kernel
theorem d_Model_enterSlot_28 : decode b_Model_enterSlot 28 = .ok (.iload_n 2, 1) := by decide +kernel
theorem d_Model_enterSlot_29 : decode b_Model_enterSlot 29 = .ok (.iadd, 1) := by decide +kernel
theorem d_Model_enterSlot_30 : decode b_Model_enterSlot 30 = .ok (.iload_n 3, 1) := by decide +kernel
theorem d_Model_enterSlot_31 : decode b_Model_enterSlot 31 = .ok (.iastore, 1) := by decide +kernel
theorem d_Model_enterSlot_32 : decode b_Model_enterSlot 32 = .ok (.return_, 1) := by decide +kernel
def rm_Model_enterSlot : Room := { frames := 0, cells := 0, slots := 0, locals := 0 }
theorem mf_Model_enterSlot : zMV y_Model_enterSlot b_Model_enterSlot 4 none 3 := ⟨q364, qs10, q4, q365, by decide +kernel⟩
def M_Model_enterSlot (p0 : Nat) (x1 : Int) (x2 : Int) (x3 : Int) (h : zH) (K : zH → Prop) : Prop :=
  (x1 < 0 → (K h)) ∧ (0 ≤ x1 → ((8 ≤ x1 → (K h)) ∧ (x1 < 8 → ((x2 < 0 → (K h)) ∧ (0 ≤ x2 → ((32 ≤ x2 → (K h)) ∧ (x2 < 32 → (zr (x1 * 32) ∧ (zr ((x1 * 32) + x2) ∧ ((0 ≤ (x1 * 32) + x2 ∧ (x1 * 32) + x2 < 256) ∧ (∀ h_4 : zH, h_4 = zs h (p0 + 8) (((x1 * 32) + x2).toNat) x3 → (K h_4))))))))))))
set_option maxRecDepth 100000 in
theorem c_Model_enterSlot {l : Launch} (hfl : l.flags = flags0) {g : zG} {n : Nat} {p0 : Nat} {x1 : Int} {x2 : Int} {x3 : Int} (op0 : zO n p0 1) (rx1 : zr x1) (rx2 : zr x2) (rx3 : zr x3) {h : zH} (hh : zh h) {K : zH → Prop} (hv : M_Model_enterSlot p0 x1 x2 x3 h K) : zMet l y_Model_enterSlot b_Model_enterSlot 4 none rm_Model_enterSlot g n [.ref (g.2.2 p0), zi x1, zi x2, zi x3] h (zPv K) := by
  refine zMet_of (own := "AliasStreams$Model") hfl (by decide) rfl (Nat.le_of_ble_eq_true rfl) (fun Wf m H0 X E => ?_)
  unfold M_Model_enterSlot at hv
  show zW Wf m 4 g n H0 0 [(0, .ref (g.2.2 p0)), (1, zi x1), (2, zi x2), (3, zi x3)] [] h
  refine z_iload_n (pc := 0) (q := 1) X d_Model_enterSlot_0 rfl ?_
  refine z_if_lt (pc := 1) (tgt := 32) X rx1 d_Model_enterSlot_1 (by decide) (fun hc => ?_) (fun hc => ?_)
  · replace hv := hv.1 hc
    exact E.1 rfl _ _ _ d_Model_enterSlot_32 ⟨rfl, hh, hv⟩
  · replace hv := hv.2 hc
    refine z_iload_n (pc := 4) (q := 1) X d_Model_enterSlot_4 rfl ?_
    refine z_bipush (pc := 5) X d_Model_enterSlot_5 (by decide) ?_
    refine z_icmp_ge (pc := 7) (tgt := 32) X rx1 (show zr 8 from by decide) d_Model_enterSlot_7 (by decide) (fun hc => ?_) (fun hc => ?_)
    · replace hv := hv.1 hc
      exact E.1 rfl _ _ _ d_Model_enterSlot_32 ⟨rfl, hh, hv⟩
    · replace hv := hv.2 hc
      refine z_iload_n (pc := 10) (q := 2) X d_Model_enterSlot_10 rfl ?_
      refine z_if_lt (pc := 11) (tgt := 32) X rx2 d_Model_enterSlot_11 (by decide) (fun hc => ?_) (fun hc => ?_)
      · replace hv := hv.1 hc
        exact E.1 rfl _ _ _ d_Model_enterSlot_32 ⟨rfl, hh, hv⟩
      · replace hv := hv.2 hc
        refine z_iload_n (pc := 14) (q := 2) X d_Model_enterSlot_14 rfl ?_
        refine z_bipush (pc := 15) X d_Model_enterSlot_15 (by decide) ?_
        refine z_icmp_ge (pc := 17) (tgt := 32) X rx2 (show zr 32 from by decide) d_Model_enterSlot_17 (by decide) (fun hc => ?_) (fun hc => ?_)
        · replace hv := hv.1 hc
          exact E.1 rfl _ _ _ d_Model_enterSlot_32 ⟨rfl, hh, hv⟩
        · replace hv := hv.2 hc
          refine z_aload_n (pc := 20) (q := 0) X d_Model_enterSlot_20 rfl ?_
          refine z_getr (pc := 21) (j := 7) (dd := 8) X cf_Model op0 (by decide) q93 rfl rfl d_Model_enterSlot_21 ?_
          refine z_iload_n (pc := 24) (q := 1) X d_Model_enterSlot_24 rfl ?_
          refine z_bipush (pc := 25) X d_Model_enterSlot_25 (by decide) ?_
          obtain ⟨v_1, hv⟩ := hv
          refine z_imul (pc := 27) X d_Model_enterSlot_27 ?_
          refine z_iload_n (pc := 28) (q := 2) X d_Model_enterSlot_28 rfl ?_
          obtain ⟨v_2, hv⟩ := hv
          refine z_iadd (pc := 29) X d_Model_enterSlot_29 ?_
          refine z_iload_n (pc := 30) (q := 3) X d_Model_enterSlot_30 rfl ?_
          obtain ⟨v_3, hv⟩ := hv
          refine z_iastj (pc := 31) (j := ((x1 * 32) + x2).toNat) X (gf_Model_7 op0) (gl_Model_7 op0) v_2 v_3 rfl d_Model_enterSlot_31 ?_
          refine z_toph (fun h_4 eh_4 => ?_)
          have zh_4 : zh h_4 := by rw [eh_4]; exact zh_set hh (zO.ne (gf_Model_7 op0) (by decide)) rx3
          replace hv := hv h_4 eh_4
          exact E.1 rfl _ _ _ d_Model_enterSlot_32 ⟨rfl, zh_4, hv⟩
theorem d_Model_numberSlots_0 : decode b_Model_numberSlots 0 = .ok (.iconst 0, 1) := by decide +kernel
theorem d_Model_numberSlots_1 : decode b_Model_numberSlots 1 = .ok (.istore_n 1, 1) := by decide +kernel
theorem d_Model_numberSlots_2 : decode b_Model_numberSlots 2 = .ok (.iload_n 1, 1) := by decide +kernel
theorem d_Model_numberSlots_3 : decode b_Model_numberSlots 3 = .ok (.bipush 8, 2) := by decide +kernel
theorem d_Model_numberSlots_5 : decode b_Model_numberSlots 5 = .ok (.if_icmp .ge 16, 3) := by decide +kernel
theorem d_Model_numberSlots_8 : decode b_Model_numberSlots 8 = .ok (.aload_n 0, 1) := by decide +kernel
theorem d_Model_numberSlots_9 : decode b_Model_numberSlots 9 = .ok (.getfield 37, 3) := by decide +kernel
theorem d_Model_numberSlots_12 : decode b_Model_numberSlots 12 = .ok (.iload_n 1, 1) := by decide +kernel
theorem d_Model_numberSlots_13 : decode b_Model_numberSlots 13 = .ok (.iconst 0, 1) := by decide +kernel
theorem d_Model_numberSlots_14 : decode b_Model_numberSlots 14 = .ok (.iastore, 1) := by decide +kernel
theorem d_Model_numberSlots_15 : decode b_Model_numberSlots 15 = .ok (.iinc 1 1, 3) := by decide +kernel
theorem d_Model_numberSlots_18 : decode b_Model_numberSlots 18 = .ok (.goto (-16), 3) := by decide +kernel
theorem d_Model_numberSlots_21 : decode b_Model_numberSlots 21 = .ok (.iconst 0, 1) := by decide +kernel
theorem d_Model_numberSlots_22 : decode b_Model_numberSlots 22 = .ok (.istore_n 1, 1) := by decide +kernel
theorem d_Model_numberSlots_23 : decode b_Model_numberSlots 23 = .ok (.iload_n 1, 1) := by decide +kernel
theorem d_Model_numberSlots_24 : decode b_Model_numberSlots 24 = .ok (.bipush 32, 2) := by decide +kernel
theorem d_Model_numberSlots_26 : decode b_Model_numberSlots 26 = .ok (.if_icmp .ge 87, 3) := by decide +kernel
theorem d_Model_numberSlots_29 : decode b_Model_numberSlots 29 = .ok (.iload_n 1, 1) := by decide +kernel
theorem d_Model_numberSlots_30 : decode b_Model_numberSlots 30 = .ok (.iconst 4, 1) := by decide +kernel
theorem d_Model_numberSlots_31 : decode b_Model_numberSlots 31 = .ok (.idiv, 1) := by decide +kernel
theorem d_Model_numberSlots_32 : decode b_Model_numberSlots 32 = .ok (.istore_n 2, 1) := by decide +kernel
theorem d_Model_numberSlots_33 : decode b_Model_numberSlots 33 = .ok (.iload_n 1, 1) := by decide +kernel
theorem d_Model_numberSlots_34 : decode b_Model_numberSlots 34 = .ok (.iconst 4, 1) := by decide +kernel
theorem d_Model_numberSlots_35 : decode b_Model_numberSlots 35 = .ok (.irem, 1) := by decide +kernel
theorem d_Model_numberSlots_36 : decode b_Model_numberSlots 36 = .ok (.aload_n 0, 1) := by decide +kernel
theorem d_Model_numberSlots_37 : decode b_Model_numberSlots 37 = .ok (.getfield 18, 3) := by decide +kernel
theorem d_Model_numberSlots_40 : decode b_Model_numberSlots 40 = .ok (.iload_n 2, 1) := by decide +kernel
theorem d_Model_numberSlots_41 : decode b_Model_numberSlots 41 = .ok (.iaload, 1) := by decide +kernel
theorem d_Model_numberSlots_42 : decode b_Model_numberSlots 42 = .ok (.if_icmp .ge 7, 3) := by decide +kernel
theorem d_Model_numberSlots_45 : decode b_Model_numberSlots 45 = .ok (.iload_n 2, 1) := by decide +kernel
theorem d_Model_numberSlots_46 : decode b_Model_numberSlots 46 = .ok (.goto 9, 3) := by decide +kernel
theorem d_Model_numberSlots_49 : decode b_Model_numberSlots 49 = .ok (.aload_n 0, 1) := by decide +kernel
theorem d_Model_numberSlots_50 : decode b_Model_numberSlots 50 = .ok (.getfield 21, 3) := by decide +kernel
theorem d_Model_numberSlots_53 : decode b_Model_numberSlots 53 = .ok (.iload_n 2, 1) := by decide +kernel
theorem d_Model_numberSlots_54 : decode b_Model_numberSlots 54 = .ok (.iaload, 1) := by decide +kernel
theorem d_Model_numberSlots_55 : decode b_Model_numberSlots 55 = .ok (.istore_n 3, 1) := by decide +kernel
theorem d_Model_numberSlots_56 : decode b_Model_numberSlots 56 = .ok (.iload_n 3, 1) := by decide +kernel
theorem d_Model_numberSlots_57 : decode b_Model_numberSlots 57 = .ok (.ifCond .lt 50, 3) := by decide +kernel
theorem d_Model_numberSlots_60 : decode b_Model_numberSlots 60 = .ok (.iload_n 3, 1) := by decide +kernel
theorem d_Model_numberSlots_61 : decode b_Model_numberSlots 61 = .ok (.bipush 8, 2) := by decide +kernel
theorem d_Model_numberSlots_63 : decode b_Model_numberSlots 63 = .ok (.if_icmp .ge 44, 3) := by decide +kernel
theorem d_Model_numberSlots_66 : decode b_Model_numberSlots 66 = .ok (.aload_n 0, 1) := by decide +kernel
theorem d_Model_numberSlots_67 : decode b_Model_numberSlots 67 = .ok (.getfield 37, 3) := by decide +kernel
theorem d_Model_numberSlots_70 : decode b_Model_numberSlots 70 = .ok (.iload_n 3, 1) := by decide +kernel
theorem d_Model_numberSlots_71 : decode b_Model_numberSlots 71 = .ok (.iaload, 1) := by decide +kernel
theorem d_Model_numberSlots_72 : decode b_Model_numberSlots 72 = .ok (.istore 4, 2) := by decide +kernel
theorem d_Model_numberSlots_74 : decode b_Model_numberSlots 74 = .ok (.aload_n 0, 1) := by decide +kernel
theorem d_Model_numberSlots_75 : decode b_Model_numberSlots 75 = .ok (.getfield 28, 3) := by decide +kernel
theorem d_Model_numberSlots_78 : decode b_Model_numberSlots 78 = .ok (.iload_n 1, 1) := by decide +kernel
theorem d_Model_numberSlots_79 : decode b_Model_numberSlots 79 = .ok (.iload_n 3, 1) := by decide +kernel
theorem d_Model_numberSlots_80 : decode b_Model_numberSlots 80 = .ok (.iastore, 1) := by decide +kernel
theorem d_Model_numberSlots_81 : decode b_Model_numberSlots 81 = .ok (.aload_n 0, 1) := by decide +kernel
theorem d_Model_numberSlots_82 : decode b_Model_numberSlots 82 = .ok (.getfield 31, 3) := by decide +kernel
theorem d_Model_numberSlots_85 : decode b_Model_numberSlots 85 = .ok (.iload_n 1, 1) := by decide +kernel
theorem d_Model_numberSlots_86 : decode b_Model_numberSlots 86 = .ok (.iload 4, 2) := by decide +kernel
theorem d_Model_numberSlots_88 : decode b_Model_numberSlots 88 = .ok (.iastore, 1) := by decide +kernel
theorem d_Model_numberSlots_89 : decode b_Model_numberSlots 89 = .ok (.aload_n 0, 1) := by decide +kernel
theorem d_Model_numberSlots_90 : decode b_Model_numberSlots 90 = .ok (.getfield 37, 3) := by decide +kernel
theorem d_Model_numberSlots_93 : decode b_Model_numberSlots 93 = .ok (.iload_n 3, 1) := by decide +kernel
theorem d_Model_numberSlots_94 : decode b_Model_numberSlots 94 = .ok (.dup2, 1) := by decide +kernel
theorem d_Model_numberSlots_95 : decode b_Model_numberSlots 95 = .ok (.iaload, 1) := by decide +kernel
theorem d_Model_numberSlots_96 : decode b_Model_numberSlots 96 = .ok (.iconst 1, 1) := by decide +kernel
theorem d_Model_numberSlots_97 : decode b_Model_numberSlots 97 = .ok (.iadd, 1) := by decide +kernel
theorem d_Model_numberSlots_98 : decode b_Model_numberSlots 98 = .ok (.iastore, 1) := by decide +kernel
theorem d_Model_numberSlots_99 : decode b_Model_numberSlots 99 = .ok (.aload_n 0, 1) := by decide +kernel
theorem d_Model_numberSlots_100 : decode b_Model_numberSlots 100 = .ok (.iload_n 3, 1) := by decide +kernel
theorem d_Model_numberSlots_101 : decode b_Model_numberSlots 101 = .ok (.iload 4, 2) := by decide +kernel
theorem d_Model_numberSlots_103 : decode b_Model_numberSlots 103 = .ok (.iload_n 1, 1) := by decide +kernel
theorem d_Model_numberSlots_104 : decode b_Model_numberSlots 104 = .ok (.invokevirtual 75, 3) := by decide +kernel
theorem d_Model_numberSlots_107 : decode b_Model_numberSlots 107 = .ok (.iinc 1 1, 3) := by decide +kernel
theorem d_Model_numberSlots_110 : decode b_Model_numberSlots 110 = .ok (.goto (-87), 3) := by decide +kernel
theorem d_Model_numberSlots_113 : decode b_Model_numberSlots 113 = .ok (.return_, 1) := by decide +kernel
def rm_Model_numberSlots : Room := { frames := 1, cells := 0, slots := 0, locals := 23 }
theorem mf_Model_numberSlots : zMV y_Model_numberSlots b_Model_numberSlots 5 none 0 := ⟨q360, qs9, q4, q361, by decide +kernel⟩
def B_Model_numberSlots_55 (K : zH → Prop) (L23 : Int × zH → Prop) (p0 : Nat) (x1 : Int) (u0 : Int) (h : zH) : Prop :=
  (u0 < 0 → (zr (x1 + 1) ∧ (L23 (x1 + 1, h)))) ∧ (0 ≤ u0 → ((8 ≤ u0 → (zr (x1 + 1) ∧ (L23 (x1 + 1, h)))) ∧ (u0 < 8 → ((0 ≤ u0 ∧ u0 < 8) ∧ ((∀ x4_4 : Int, x4_4 = h (p0 + 9) u0.toNat → ((0 ≤ x1 ∧ x1 < 32) ∧ (∀ h_6 : zH, h_6 = zs h (p0 + 6) x1.toNat u0 → ((0 ≤ x1 ∧ x1 < 32) ∧ (∀ h_8 : zH, h_8 = zs h_6 (p0 + 7) x1.toNat x4_4 → ((0 ≤ u0 ∧ u0 < 8) ∧ (zr ((h_8 (p0 + 9) u0.toNat) + 1) ∧ ((0 ≤ u0 ∧ u0 < 8) ∧ (∀ h_12 : zH, h_12 = zs h_8 (p0 + 9) u0.toNat ((h_8 (p0 + 9) u0.toNat) + 1) → (M_Model_enterSlot p0 u0 x4_4 x1 h_12 (fun h_13 => zr (x1 + 1) ∧ (L23 (x1 + 1, h_13))))))))))))))))))
set_option maxRecDepth 100000 in
theorem s_Model_numberSlots_55 {Wf : Heap → List Loc → JFrame → Prop} {m : MethodId} {g : zG} {n : Nat} {H0 : Heap} (X : zX Wf m rm_Model_numberSlots b_Model_numberSlots "AliasStreams$Model" 5 g n H0) {K : zH → Prop} (E : zEx Wf m b_Model_numberSlots none 5 g n H0 (zPv K)) {L23 : Int × zH → Prop} {p0 : Nat} {x1 : Int} (hL23 : ∀ q : Int × zH, L23 q → zr q.1 → zh (q.2) → zW Wf m 5 g n H0 23 [(0, .ref (g.2.2 p0)), (1, zi q.1)] [] (q.2)) (op0 : zO n p0 1) (rx1 : zr x1) {u0 : Int} (ru0 : zr u0) {h : zH} (hh : zh h) (hv : B_Model_numberSlots_55 K L23 p0 x1 u0 h) : zW Wf m 5 g n H0 55 [(0, .ref (g.2.2 p0)), (1, zi x1)] [zi u0] h := by
  unfold B_Model_numberSlots_55 at hv
  refine z_istore_n (pc := 55) (lv' := [(3, zi u0), (0, .ref (g.2.2 p0)), (1, zi x1)]) X d_Model_numberSlots_55 (by decide) rfl ?_
  refine z_iload_n (pc := 56) (q := 0) X d_Model_numberSlots_56 rfl ?_
  refine z_if_lt (pc := 57) (tgt := 107) X ru0 d_Model_numberSlots_57 (by decide) (fun hc => ?_) (fun hc => ?_)
  · replace hv := hv.1 hc
    obtain ⟨v_1, hv⟩ := hv
    refine z_iinc (pc := 107) (q := 2) (lv' := [(1, zi (x1 + 1)), (3, zi u0), (0, .ref (g.2.2 p0))]) X d_Model_numberSlots_107 rfl (by decide) rfl ?_
    refine z_goto (pc := 110) (tgt := 23) X d_Model_numberSlots_110 (by decide) ?_
    refine z_perm [2, 0] rfl ?_
    exact hL23 _ hv v_1 hh
  · replace hv := hv.2 hc
    refine z_iload_n (pc := 60) (q := 0) X d_Model_numberSlots_60 rfl ?_
    refine z_bipush (pc := 61) X d_Model_numberSlots_61 (by decide) ?_
    refine z_icmp_ge (pc := 63) (tgt := 107) X ru0 (show zr 8 from by decide) d_Model_numberSlots_63 (by decide) (fun hc => ?_) (fun hc => ?_)
    · replace hv := hv.1 hc
      obtain ⟨v_2, hv⟩ := hv
      refine z_iinc (pc := 107) (q := 2) (lv' := [(1, zi (x1 + 1)), (3, zi u0), (0, .ref (g.2.2 p0))]) X d_Model_numberSlots_107 rfl (by decide) rfl ?_
      refine z_goto (pc := 110) (tgt := 23) X d_Model_numberSlots_110 (by decide) ?_
      refine z_perm [2, 0] rfl ?_
      exact hL23 _ hv v_2 hh
    · replace hv := hv.2 hc
      refine z_aload_n (pc := 66) (q := 1) X d_Model_numberSlots_66 rfl ?_
      refine z_getr (pc := 67) (j := 8) (dd := 9) X cf_Model op0 (by decide) q94 rfl rfl d_Model_numberSlots_67 ?_
      refine z_iload_n (pc := 70) (q := 0) X d_Model_numberSlots_70 rfl ?_
      obtain ⟨v_3, hv⟩ := hv
      refine z_ialdj (pc := 71) (j := u0.toNat) X (gf_Model_8 op0) (gl_Model_8 op0) ru0 v_3 rfl d_Model_numberSlots_71 ?_
      refine z_topi (fun x4_4 ex4_4 => ?_)
      have rx4_4 : zr x4_4 := by rw [ex4_4]; exact (hh.1 _ _ (zO.ne (gf_Model_8 op0) (by decide)))
      replace hv := hv x4_4 ex4_4
      refine z_istore (pc := 72) (lv' := [(4, zi x4_4), (3, zi u0), (0, .ref (g.2.2 p0)), (1, zi x1)]) X d_Model_numberSlots_72 (by decide) rfl ?_
      refine z_aload_n (pc := 74) (q := 2) X d_Model_numberSlots_74 rfl ?_
      refine z_getr (pc := 75) (j := 5) (dd := 6) X cf_Model op0 (by decide) q87 rfl rfl d_Model_numberSlots_75 ?_
      refine z_iload_n (pc := 78) (q := 3) X d_Model_numberSlots_78 rfl ?_
      refine z_iload_n (pc := 79) (q := 1) X d_Model_numberSlots_79 rfl ?_
      obtain ⟨v_5, hv⟩ := hv
      refine z_iastj (pc := 80) (j := x1.toNat) X (gf_Model_5 op0) (gl_Model_5 op0) rx1 v_5 rfl d_Model_numberSlots_80 ?_
      refine z_toph (fun h_6 eh_6 => ?_)
      have zh_6 : zh h_6 := by rw [eh_6]; exact zh_set hh (zO.ne (gf_Model_5 op0) (by decide)) ru0
      replace hv := hv h_6 eh_6
      refine z_aload_n (pc := 81) (q := 2) X d_Model_numberSlots_81 rfl ?_
      refine z_getr (pc := 82) (j := 6) (dd := 7) X cf_Model op0 (by decide) q90 rfl rfl d_Model_numberSlots_82 ?_
      refine z_iload_n (pc := 85) (q := 3) X d_Model_numberSlots_85 rfl ?_
      refine z_iload (pc := 86) (q := 0) X d_Model_numberSlots_86 rfl ?_
      obtain ⟨v_7, hv⟩ := hv
      refine z_iastj (pc := 88) (j := x1.toNat) X (gf_Model_6 op0) (gl_Model_6 op0) rx1 v_7 rfl d_Model_numberSlots_88 ?_
      refine z_toph (fun h_8 eh_8 => ?_)
      have zh_8 : zh h_8 := by rw [eh_8]; exact zh_set zh_6 (zO.ne (gf_Model_6 op0) (by decide)) rx4_4
      replace hv := hv h_8 eh_8
      refine z_aload_n (pc := 89) (q := 2) X d_Model_numberSlots_89 rfl ?_
      refine z_getr (pc := 90) (j := 8) (dd := 9) X cf_Model op0 (by decide) q94 rfl rfl d_Model_numberSlots_90 ?_
      refine z_iload_n (pc := 93) (q := 1) X d_Model_numberSlots_93 rfl ?_
      refine z_dup2 (pc := 94) X d_Model_numberSlots_94 rfl rfl ?_
      obtain ⟨v_9, hv⟩ := hv
      refine z_ialdj (pc := 95) (j := u0.toNat) X (gf_Model_8 op0) (gl_Model_8 op0) ru0 v_9 rfl d_Model_numberSlots_95 ?_
      refine z_iconst (pc := 96) X d_Model_numberSlots_96 ?_
      obtain ⟨v_10, hv⟩ := hv
      refine z_iadd (pc := 97) X d_Model_numberSlots_97 ?_
      obtain ⟨v_11, hv⟩ := hv
      refine z_iastj (pc := 98) (j := u0.toNat) X (gf_Model_8 op0) (gl_Model_8 op0) ru0 v_11 rfl d_Model_numberSlots_98 ?_
      refine z_toph (fun h_12 eh_12 => ?_)
      have zh_12 : zh h_12 := by rw [eh_12]; exact zh_set zh_8 (zO.ne (gf_Model_8 op0) (by decide)) v_10
      replace hv := hv h_12 eh_12
      refine z_aload_n (pc := 99) (q := 2) X d_Model_numberSlots_99 rfl ?_
      refine z_iload_n (pc := 100) (q := 1) X d_Model_numberSlots_100 rfl ?_
      refine z_iload (pc := 101) (q := 0) X d_Model_numberSlots_101 rfl ?_
      refine z_iload_n (pc := 103) (q := 3) X d_Model_numberSlots_103 rfl ?_
      refine z_callVv (pc := 104) (As := [zi u0, zi x4_4, zi x1]) (rest := []) X (fun l hl => c_Model_enterSlot hl op0 ru0 rx4_4 rx1 zh_12 hv) cf_Model op0 rfl mf_Model_enterSlot q362 ⟨⟨by decide, by decide⟩, rfl, rfl⟩ rfl d_Model_numberSlots_104 rfl (Nat.le_of_ble_eq_true rfl) (fun h_13 zh_13 hv => ?_)
      obtain ⟨v_15, hv⟩ := hv
      refine z_iinc (pc := 107) (q := 3) (lv' := [(1, zi (x1 + 1)), (4, zi x4_4), (3, zi u0), (0, .ref (g.2.2 p0))]) X d_Model_numberSlots_107 rfl (by decide) rfl ?_
      refine z_goto (pc := 110) (tgt := 23) X d_Model_numberSlots_110 (by decide) ?_
      refine z_perm [3, 0] rfl ?_
      exact hL23 _ hv v_15 zh_13
def F_Model_numberSlots_23 (K : zH → Prop)  (L23 : Int × zH → Prop) (p0 : Nat) (x1 : Int) (h : zH) : Prop :=
  (32 ≤ x1 → (K h)) ∧ (x1 < 32 → (0 ≤ x1 ∧ ((∀ x2_2 : Int, x2_2 = x1 / 4 → (0 ≤ x1 ∧ ((0 ≤ x2_2 ∧ x2_2 < 8) ∧ ((h (p0 + 3) x2_2.toNat ≤ x1 % 4 → ((0 ≤ x2_2 ∧ x2_2 < 8) ∧ (B_Model_numberSlots_55 K L23 p0 x1 (h (p0 + 4) x2_2.toNat) h))) ∧ (x1 % 4 < h (p0 + 3) x2_2.toNat → (B_Model_numberSlots_55 K L23 p0 x1 x2_2 h)))))))))
set_option maxRecDepth 100000 in
theorem s_Model_numberSlots_23 {Wf : Heap → List Loc → JFrame → Prop} {m : MethodId} {g : zG} {n : Nat} {H0 : Heap} (X : zX Wf m rm_Model_numberSlots b_Model_numberSlots "AliasStreams$Model" 5 g n H0) {K : zH → Prop} (E : zEx Wf m b_Model_numberSlots none 5 g n H0 (zPv K))  {p0 : Nat}  (op0 : zO n p0 1) {q0 : Int × zH} (hv0 : zLoop (fun L q => F_Model_numberSlots_23 K  L p0 q.1 q.2) q0) : zr q0.1 → zh (q0.2) → zW Wf m 5 g n H0 23 [(0, .ref (g.2.2 p0)), (1, zi q0.1)] [] (q0.2) := by
  refine zLoop_use (G := fun q => zr q.1 → zh (q.2) → zW Wf m 5 g n H0 23 [(0, .ref (g.2.2 p0)), (1, zi q.1)] [] (q.2)) ?_ hv0
  rintro L23 ⟨x1, h⟩ hL23 hv rx1 hh
  have hv : F_Model_numberSlots_23 K  L23 p0 x1 h := hv
  unfold F_Model_numberSlots_23 at hv
  show zW Wf m 5 g n H0 23 [(0, .ref (g.2.2 p0)), (1, zi x1)] [] h
  refine z_iload_n (pc := 23) (q := 1) X d_Model_numberSlots_23 rfl ?_
  refine z_bipush (pc := 24) X d_Model_numberSlots_24 (by decide) ?_
  refine z_icmp_ge (pc := 26) (tgt := 113) X rx1 (show zr 32 from by decide) d_Model_numberSlots_26 (by decide) (fun hc => ?_) (fun hc => ?_)
  · replace hv := hv.1 hc
    exact E.1 rfl _ _ _ d_Model_numberSlots_113 ⟨rfl, hh, hv⟩
  · replace hv := hv.2 hc
    refine z_iload_n (pc := 29) (q := 1) X d_Model_numberSlots_29 rfl ?_
    refine z_iconst (pc := 30) X d_Model_numberSlots_30 ?_
    obtain ⟨v_1, hv⟩ := hv
    refine z_idiv (pc := 31) X rx1 (show zr 4 from by decide) v_1 (by decide) d_Model_numberSlots_31 ?_
    refine z_topi (fun x2_2 ex2_2 => ?_)
    have rx2_2 : zr x2_2 := by rw [ex2_2]; exact (zr_div rx1 v_1 (by decide))
    replace hv := hv x2_2 ex2_2
    refine z_istore_n (pc := 32) (lv' := [(2, zi x2_2), (0, .ref (g.2.2 p0)), (1, zi x1)]) X d_Model_numberSlots_32 (by decide) rfl ?_
    refine z_iload_n (pc := 33) (q := 2) X d_Model_numberSlots_33 rfl ?_
    refine z_iconst (pc := 34) X d_Model_numberSlots_34 ?_
    obtain ⟨v_3, hv⟩ := hv
    refine z_irem (pc := 35) X rx1 (show zr 4 from by decide) v_3 (by decide) d_Model_numberSlots_35 ?_
    refine z_aload_n (pc := 36) (q := 1) X d_Model_numberSlots_36 rfl ?_
    refine z_getr (pc := 37) (j := 2) (dd := 3) X cf_Model op0 (by decide) q82 rfl rfl d_Model_numberSlots_37 ?_
    refine z_iload_n (pc := 40) (q := 0) X d_Model_numberSlots_40 rfl ?_
    obtain ⟨v_4, hv⟩ := hv
    refine z_ialdj (pc := 41) (j := x2_2.toNat) X (gf_Model_2 op0) (gl_Model_2 op0) rx2_2 v_4 rfl d_Model_numberSlots_41 ?_
    refine z_icmp_ge (pc := 42) (tgt := 49) X (zr_rem (show zr 4 from by decide) (by decide)) (hh.1 _ _ (zO.ne (gf_Model_2 op0) (by decide))) d_Model_numberSlots_42 (by decide) (fun hc => ?_) (fun hc => ?_)
    · replace hv := hv.1 hc
      refine z_aload_n (pc := 49) (q := 1) X d_Model_numberSlots_49 rfl ?_
      refine z_getr (pc := 50) (j := 3) (dd := 4) X cf_Model op0 (by decide) q84 rfl rfl d_Model_numberSlots_50 ?_
      refine z_iload_n (pc := 53) (q := 0) X d_Model_numberSlots_53 rfl ?_
      obtain ⟨v_5, hv⟩ := hv
      refine z_ialdj (pc := 54) (j := x2_2.toNat) X (gf_Model_3 op0) (gl_Model_3 op0) rx2_2 v_5 rfl d_Model_numberSlots_54 ?_
      refine z_perm [1, 2] rfl ?_
      exact s_Model_numberSlots_55 X E hL23 op0 rx1 (hh.1 _ _ (zO.ne (gf_Model_3 op0) (by decide))) hh hv
    · replace hv := hv.2 hc
      refine z_iload_n (pc := 45) (q := 0) X d_Model_numberSlots_45 rfl ?_
      refine z_goto (pc := 46) (tgt := 55) X d_Model_numberSlots_46 (by decide) ?_
      refine z_perm [1, 2] rfl ?_
      exact s_Model_numberSlots_55 X E hL23 op0 rx1 rx2_2 hh hv
def F_Model_numberSlots_2 (K : zH → Prop)  (L2 : Int × zH → Prop) (p0 : Nat) (x1 : Int) (h : zH) : Prop :=
  (8 ≤ x1 → (zLoop (fun L q => F_Model_numberSlots_23 K  L p0 q.1 q.2) (0, h))) ∧ (x1 < 8 → ((0 ≤ x1 ∧ x1 < 8) ∧ (∀ h_2 : zH, h_2 = zs h (p0 + 9) x1.toNat 0 → (zr (x1 + 1) ∧ (L2 (x1 + 1, h_2))))))
set_option maxRecDepth 100000 in
theorem s_Model_numberSlots_2 {Wf : Heap → List Loc → JFrame → Prop} {m : MethodId} {g : zG} {n : Nat} {H0 : Heap} (X : zX Wf m rm_Model_numberSlots b_Model_numberSlots "AliasStreams$Model" 5 g n H0) {K : zH → Prop} (E : zEx Wf m b_Model_numberSlots none 5 g n H0 (zPv K))  {p0 : Nat}  (op0 : zO n p0 1) {q0 : Int × zH} (hv0 : zLoop (fun L q => F_Model_numberSlots_2 K  L p0 q.1 q.2) q0) : zr q0.1 → zh (q0.2) → zW Wf m 5 g n H0 2 [(0, .ref (g.2.2 p0)), (1, zi q0.1)] [] (q0.2) := by
  refine zLoop_use (G := fun q => zr q.1 → zh (q.2) → zW Wf m 5 g n H0 2 [(0, .ref (g.2.2 p0)), (1, zi q.1)] [] (q.2)) ?_ hv0
  rintro L2 ⟨x1, h⟩ hL2 hv rx1 hh
  have hv : F_Model_numberSlots_2 K  L2 p0 x1 h := hv
  unfold F_Model_numberSlots_2 at hv
  show zW Wf m 5 g n H0 2 [(0, .ref (g.2.2 p0)), (1, zi x1)] [] h
  refine z_iload_n (pc := 2) (q := 1) X d_Model_numberSlots_2 rfl ?_
  refine z_bipush (pc := 3) X d_Model_numberSlots_3 (by decide) ?_
  refine z_icmp_ge (pc := 5) (tgt := 21) X rx1 (show zr 8 from by decide) d_Model_numberSlots_5 (by decide) (fun hc => ?_) (fun hc => ?_)
  · replace hv := hv.1 hc
    refine z_iconst (pc := 21) X d_Model_numberSlots_21 ?_
    refine z_istore_n (pc := 22) (lv' := [(1, zi 0), (0, .ref (g.2.2 p0))]) X d_Model_numberSlots_22 (by decide) rfl ?_
    refine z_perm [1, 0] rfl ?_
    exact s_Model_numberSlots_23 X E  op0 hv (show zr 0 from by decide) hh
  · replace hv := hv.2 hc
    refine z_aload_n (pc := 8) (q := 0) X d_Model_numberSlots_8 rfl ?_
    refine z_getr (pc := 9) (j := 8) (dd := 9) X cf_Model op0 (by decide) q94 rfl rfl d_Model_numberSlots_9 ?_
    refine z_iload_n (pc := 12) (q := 1) X d_Model_numberSlots_12 rfl ?_
    refine z_iconst (pc := 13) X d_Model_numberSlots_13 ?_
    obtain ⟨v_1, hv⟩ := hv
    refine z_iastj (pc := 14) (j := x1.toNat) X (gf_Model_8 op0) (gl_Model_8 op0) rx1 v_1 rfl d_Model_numberSlots_14 ?_
    refine z_toph (fun h_2 eh_2 => ?_)
    have zh_2 : zh h_2 := by rw [eh_2]; exact zh_set hh (zO.ne (gf_Model_8 op0) (by decide)) (show zr 0 from by decide)
    replace hv := hv h_2 eh_2
    obtain ⟨v_3, hv⟩ := hv
    refine z_iinc (pc := 15) (q := 1) (lv' := [(1, zi (x1 + 1)), (0, .ref (g.2.2 p0))]) X d_Model_numberSlots_15 rfl (by decide) rfl ?_
    refine z_goto (pc := 18) (tgt := 2) X d_Model_numberSlots_18 (by decide) ?_
    refine z_perm [1, 0] rfl ?_
    exact hL2 _ hv v_3 zh_2
def M_Model_numberSlots (p0 : Nat) (h : zH) (K : zH → Prop) : Prop :=
  zLoop (fun L q => F_Model_numberSlots_2 K  L p0 q.1 q.2) (0, h)
set_option maxRecDepth 100000 in
theorem c_Model_numberSlots {l : Launch} (hfl : l.flags = flags0) {g : zG} {n : Nat} {p0 : Nat} (op0 : zO n p0 1) {h : zH} (hh : zh h) {K : zH → Prop} (hv : M_Model_numberSlots p0 h K) : zMet l y_Model_numberSlots b_Model_numberSlots 5 none rm_Model_numberSlots g n [.ref (g.2.2 p0)] h (zPv K) := by
  refine zMet_of (own := "AliasStreams$Model") hfl (by decide) rfl (Nat.le_of_ble_eq_true rfl) (fun Wf m H0 X E => ?_)
  unfold M_Model_numberSlots at hv
  show zW Wf m 5 g n H0 0 [(0, .ref (g.2.2 p0))] [] h
  refine z_iconst (pc := 0) X d_Model_numberSlots_0 ?_
  refine z_istore_n (pc := 1) (lv' := [(1, zi 0), (0, .ref (g.2.2 p0))]) X d_Model_numberSlots_1 (by decide) rfl ?_
  refine z_perm [1, 0] rfl ?_
  exact s_Model_numberSlots_2 X E  op0 hv (show zr 0 from by decide) hh
end
