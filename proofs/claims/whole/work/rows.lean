section
-- ===== PART A: goes FIRST, ahead of the names: the tables' words, and 'selects' of the private methods out of them =====
/-- a private method of a class that the tables say can be made, by its rows of tables_1 -/
def lw_okq (q : MethodName × Nat) : Prop := (q.1.cls ≠ "java/lang/invoke/MethodHandle" ∧ q.1.cls ≠ "java/lang/invoke/VarHandle") ∧ Cond.instantiable q.1.cls q.2 ∈ tables_1 ∧ Cond.privateMethod q.1 ∈ tables_1 ∧ Cond.instanceMethod q.1 ∈ tables_1
theorem lw_p0 : lw_okq (⟨"GoatShelves", "found", "(I)I"⟩, 8) := ⟨⟨by decide +kernel, by decide +kernel⟩, List.mem_of_getElem? (i := 15) (by decide +kernel), List.mem_of_getElem? (i := 184) (by decide +kernel), List.mem_of_getElem? (i := 185) (by decide +kernel)⟩
theorem lw_p1 : lw_okq (⟨"GoatShelves$Cliff", "isHere", "(I)Z"⟩, 14) := ⟨⟨by decide +kernel, by decide +kernel⟩, List.mem_of_getElem? (i := 23) (by decide +kernel), List.mem_of_getElem? (i := 196) (by decide +kernel), List.mem_of_getElem? (i := 197) (by decide +kernel)⟩
theorem lw_p2 : lw_okq (⟨"GoatShelves", "isGoat", "(I)Z"⟩, 8) := ⟨⟨by decide +kernel, by decide +kernel⟩, List.mem_of_getElem? (i := 15) (by decide +kernel), List.mem_of_getElem? (i := 236) (by decide +kernel), List.mem_of_getElem? (i := 237) (by decide +kernel)⟩
theorem lw_p3 : lw_okq (⟨"GoatShelves$Cliff", "greenestNear", "(I)I"⟩, 14) := ⟨⟨by decide +kernel, by decide +kernel⟩, List.mem_of_getElem? (i := 23) (by decide +kernel), List.mem_of_getElem? (i := 258) (by decide +kernel), List.mem_of_getElem? (i := 259) (by decide +kernel)⟩
theorem lw_p4 : lw_okq (⟨"GoatShelves$Cliff", "climbAndGraze", "(I)V"⟩, 14) := ⟨⟨by decide +kernel, by decide +kernel⟩, List.mem_of_getElem? (i := 23) (by decide +kernel), List.mem_of_getElem? (i := 327) (by decide +kernel), List.mem_of_getElem? (i := 328) (by decide +kernel)⟩
theorem lw_p5 : lw_okq (⟨"GoatShelves$Cliff", "learnOrForget", "(I)V"⟩, 14) := ⟨⟨by decide +kernel, by decide +kernel⟩, List.mem_of_getElem? (i := 23) (by decide +kernel), List.mem_of_getElem? (i := 333) (by decide +kernel), List.mem_of_getElem? (i := 334) (by decide +kernel)⟩
theorem lw_p6 : lw_okq (⟨"GoatShelves", "daysUntil", "(III)I"⟩, 8) := ⟨⟨by decide +kernel, by decide +kernel⟩, List.mem_of_getElem? (i := 15) (by decide +kernel), List.mem_of_getElem? (i := 390) (by decide +kernel), List.mem_of_getElem? (i := 391) (by decide +kernel)⟩
theorem lw_p7 : lw_okq (⟨"GoatShelves", "hasCome", "(III)Z"⟩, 8) := ⟨⟨by decide +kernel, by decide +kernel⟩, List.mem_of_getElem? (i := 15) (by decide +kernel), List.mem_of_getElem? (i := 394) (by decide +kernel), List.mem_of_getElem? (i := 395) (by decide +kernel)⟩
theorem lw_p8 : lw_okq (⟨"GoatShelves", "bestTrait", "(IIII)I"⟩, 8) := ⟨⟨by decide +kernel, by decide +kernel⟩, List.mem_of_getElem? (i := 15) (by decide +kernel), List.mem_of_getElem? (i := 421) (by decide +kernel), List.mem_of_getElem? (i := 422) (by decide +kernel)⟩
theorem lw_p9 : lw_okq (⟨"GoatShelves", "isLostWithout", "(III)Z"⟩, 8) := ⟨⟨by decide +kernel, by decide +kernel⟩, List.mem_of_getElem? (i := 15) (by decide +kernel), List.mem_of_getElem? (i := 447) (by decide +kernel), List.mem_of_getElem? (i := 448) (by decide +kernel)⟩
theorem lw_p10 : lw_okq (⟨"GoatShelves", "traitsAsTold", "(IIIII)I"⟩, 8) := ⟨⟨by decide +kernel, by decide +kernel⟩, List.mem_of_getElem? (i := 15) (by decide +kernel), List.mem_of_getElem? (i := 455) (by decide +kernel), List.mem_of_getElem? (i := 456) (by decide +kernel)⟩
theorem lw_p11 : lw_okq (⟨"GoatShelves", "comesAsTold", "(LGoatShelves$Sheet;II)Z"⟩, 8) := ⟨⟨by decide +kernel, by decide +kernel⟩, List.mem_of_getElem? (i := 15) (by decide +kernel), List.mem_of_getElem? (i := 467) (by decide +kernel), List.mem_of_getElem? (i := 468) (by decide +kernel)⟩
theorem lw_p12 : lw_okq (⟨"GoatShelves$Cliff", "draw", "()I"⟩, 14) := ⟨⟨by decide +kernel, by decide +kernel⟩, List.mem_of_getElem? (i := 23) (by decide +kernel), List.mem_of_getElem? (i := 483) (by decide +kernel), List.mem_of_getElem? (i := 484) (by decide +kernel)⟩
theorem lw_p13 : lw_okq (⟨"GoatShelves$Reader", "stepOn", "()V"⟩, 6) := ⟨⟨by decide +kernel, by decide +kernel⟩, List.mem_of_getElem? (i := 103) (by decide +kernel), List.mem_of_getElem? (i := 519) (by decide +kernel), List.mem_of_getElem? (i := 520) (by decide +kernel)⟩
theorem lw_p14 : lw_okq (⟨"GoatShelves$Reader", "readItem", "()Z"⟩, 6) := ⟨⟨by decide +kernel, by decide +kernel⟩, List.mem_of_getElem? (i := 103) (by decide +kernel), List.mem_of_getElem? (i := 530) (by decide +kernel), List.mem_of_getElem? (i := 531) (by decide +kernel)⟩
theorem lw_p15 : lw_okq (⟨"GoatShelves$Reader", "kindTold", "()I"⟩, 6) := ⟨⟨by decide +kernel, by decide +kernel⟩, List.mem_of_getElem? (i := 103) (by decide +kernel), List.mem_of_getElem? (i := 534) (by decide +kernel), List.mem_of_getElem? (i := 535) (by decide +kernel)⟩
def lw_privs_1 : List (MethodName × Nat) := [(⟨"GoatShelves", "found", "(I)I"⟩, 8), (⟨"GoatShelves$Cliff", "isHere", "(I)Z"⟩, 14), (⟨"GoatShelves", "isGoat", "(I)Z"⟩, 8), (⟨"GoatShelves$Cliff", "greenestNear", "(I)I"⟩, 14), (⟨"GoatShelves$Cliff", "climbAndGraze", "(I)V"⟩, 14), (⟨"GoatShelves$Cliff", "learnOrForget", "(I)V"⟩, 14), (⟨"GoatShelves", "daysUntil", "(III)I"⟩, 8), (⟨"GoatShelves", "hasCome", "(III)Z"⟩, 8), (⟨"GoatShelves", "bestTrait", "(IIII)I"⟩, 8), (⟨"GoatShelves", "isLostWithout", "(III)Z"⟩, 8), (⟨"GoatShelves", "traitsAsTold", "(IIIII)I"⟩, 8), (⟨"GoatShelves", "comesAsTold", "(LGoatShelves$Sheet;II)Z"⟩, 8), (⟨"GoatShelves$Cliff", "draw", "()I"⟩, 14), (⟨"GoatShelves$Reader", "stepOn", "()V"⟩, 6), (⟨"GoatShelves$Reader", "readItem", "()Z"⟩, 6), (⟨"GoatShelves$Reader", "kindTold", "()I"⟩, 6)]
theorem lw_r1 : ∀ q ∈ lw_privs_1, lw_okq q := List.forall_mem_cons.mpr ⟨lw_p0, List.forall_mem_cons.mpr ⟨lw_p1, List.forall_mem_cons.mpr ⟨lw_p2, List.forall_mem_cons.mpr ⟨lw_p3, List.forall_mem_cons.mpr ⟨lw_p4, List.forall_mem_cons.mpr ⟨lw_p5, List.forall_mem_cons.mpr ⟨lw_p6, List.forall_mem_cons.mpr ⟨lw_p7, List.forall_mem_cons.mpr ⟨lw_p8, List.forall_mem_cons.mpr ⟨lw_p9, List.forall_mem_cons.mpr ⟨lw_p10, List.forall_mem_cons.mpr ⟨lw_p11, List.forall_mem_cons.mpr ⟨lw_p12, List.forall_mem_cons.mpr ⟨lw_p13, List.forall_mem_cons.mpr ⟨lw_p14, List.forall_mem_cons.mpr ⟨lw_p15, fun _ h => absurd h List.not_mem_nil⟩⟩⟩⟩⟩⟩⟩⟩⟩⟩⟩⟩⟩⟩⟩⟩
theorem lw_p16 : lw_okq (⟨"GoatShelves$Reader", "isWord", "(Ljava/lang/String;)Z"⟩, 6) := ⟨⟨by decide +kernel, by decide +kernel⟩, List.mem_of_getElem? (i := 103) (by decide +kernel), List.mem_of_getElem? (i := 539) (by decide +kernel), List.mem_of_getElem? (i := 540) (by decide +kernel)⟩
theorem lw_p17 : lw_okq (⟨"GoatShelves$Reader", "readGoat", "(I)Z"⟩, 6) := ⟨⟨by decide +kernel, by decide +kernel⟩, List.mem_of_getElem? (i := 103) (by decide +kernel), List.mem_of_getElem? (i := 597) (by decide +kernel), List.mem_of_getElem? (i := 598) (by decide +kernel)⟩
theorem lw_p18 : lw_okq (⟨"GoatShelves$Reader", "readTrait", "(Ljava/lang/String;III)Z"⟩, 6) := ⟨⟨by decide +kernel, by decide +kernel⟩, List.mem_of_getElem? (i := 103) (by decide +kernel), List.mem_of_getElem? (i := 604) (by decide +kernel), List.mem_of_getElem? (i := 605) (by decide +kernel)⟩
theorem lw_p19 : lw_okq (⟨"GoatShelves$Reader", "takeNumber", "(I)Z"⟩, 6) := ⟨⟨by decide +kernel, by decide +kernel⟩, List.mem_of_getElem? (i := 103) (by decide +kernel), List.mem_of_getElem? (i := 608) (by decide +kernel), List.mem_of_getElem? (i := 609) (by decide +kernel)⟩
theorem lw_p20 : lw_okq (⟨"GoatShelves$Reader", "value", "()I"⟩, 6) := ⟨⟨by decide +kernel, by decide +kernel⟩, List.mem_of_getElem? (i := 103) (by decide +kernel), List.mem_of_getElem? (i := 612) (by decide +kernel), List.mem_of_getElem? (i := 613) (by decide +kernel)⟩
theorem lw_p21 : lw_okq (⟨"GoatShelves$Reader", "readGrass", "()Z"⟩, 6) := ⟨⟨by decide +kernel, by decide +kernel⟩, List.mem_of_getElem? (i := 103) (by decide +kernel), List.mem_of_getElem? (i := 623) (by decide +kernel), List.mem_of_getElem? (i := 624) (by decide +kernel)⟩
theorem lw_p22 : lw_okq (⟨"GoatShelves$Reader", "readGrows", "()Z"⟩, 6) := ⟨⟨by decide +kernel, by decide +kernel⟩, List.mem_of_getElem? (i := 103) (by decide +kernel), List.mem_of_getElem? (i := 628) (by decide +kernel), List.mem_of_getElem? (i := 629) (by decide +kernel)⟩
theorem lw_p23 : lw_okq (⟨"GoatShelves$Reader", "readSalt", "()Z"⟩, 6) := ⟨⟨by decide +kernel, by decide +kernel⟩, List.mem_of_getElem? (i := 103) (by decide +kernel), List.mem_of_getElem? (i := 633) (by decide +kernel), List.mem_of_getElem? (i := 634) (by decide +kernel)⟩
theorem lw_p24 : lw_okq (⟨"GoatShelvesModel", "becomes", "(II)I"⟩, 16) := ⟨⟨by decide +kernel, by decide +kernel⟩, List.mem_of_getElem? (i := 714) (by decide +kernel), List.mem_of_getElem? (i := 780) (by decide +kernel), List.mem_of_getElem? (i := 781) (by decide +kernel)⟩
theorem lw_p25 : lw_okq (⟨"GoatShelvesModel", "finds", "(I)I"⟩, 16) := ⟨⟨by decide +kernel, by decide +kernel⟩, List.mem_of_getElem? (i := 714) (by decide +kernel), List.mem_of_getElem? (i := 785) (by decide +kernel), List.mem_of_getElem? (i := 786) (by decide +kernel)⟩
theorem lw_p26 : lw_okq (⟨"GoatShelvesModel", "there", "(I)I"⟩, 16) := ⟨⟨by decide +kernel, by decide +kernel⟩, List.mem_of_getElem? (i := 714) (by decide +kernel), List.mem_of_getElem? (i := 794) (by decide +kernel), List.mem_of_getElem? (i := 795) (by decide +kernel)⟩
theorem lw_p27 : lw_okq (⟨"GoatShelvesModel", "its", "(II)I"⟩, 16) := ⟨⟨by decide +kernel, by decide +kernel⟩, List.mem_of_getElem? (i := 714) (by decide +kernel), List.mem_of_getElem? (i := 798) (by decide +kernel), List.mem_of_getElem? (i := 799) (by decide +kernel)⟩
theorem lw_p28 : lw_okq (⟨"GoatShelvesModel", "known", "(I)I"⟩, 16) := ⟨⟨by decide +kernel, by decide +kernel⟩, List.mem_of_getElem? (i := 714) (by decide +kernel), List.mem_of_getElem? (i := 802) (by decide +kernel), List.mem_of_getElem? (i := 803) (by decide +kernel)⟩
theorem lw_p29 : lw_okq (⟨"GoatShelvesModel", "comes", "(III)V"⟩, 16) := ⟨⟨by decide +kernel, by decide +kernel⟩, List.mem_of_getElem? (i := 714) (by decide +kernel), List.mem_of_getElem? (i := 818) (by decide +kernel), List.mem_of_getElem? (i := 819) (by decide +kernel)⟩
theorem lw_p30 : lw_okq (⟨"GoatShelvesModel", "isGoat", "(I)Z"⟩, 16) := ⟨⟨by decide +kernel, by decide +kernel⟩, List.mem_of_getElem? (i := 714) (by decide +kernel), List.mem_of_getElem? (i := 829) (by decide +kernel), List.mem_of_getElem? (i := 830) (by decide +kernel)⟩
theorem lw_p31 : lw_okq (⟨"GoatShelvesModel", "costs", "(I)I"⟩, 16) := ⟨⟨by decide +kernel, by decide +kernel⟩, List.mem_of_getElem? (i := 714) (by decide +kernel), List.mem_of_getElem? (i := 834) (by decide +kernel), List.mem_of_getElem? (i := 835) (by decide +kernel)⟩
def lw_privs_2 : List (MethodName × Nat) := [(⟨"GoatShelves$Reader", "isWord", "(Ljava/lang/String;)Z"⟩, 6), (⟨"GoatShelves$Reader", "readGoat", "(I)Z"⟩, 6), (⟨"GoatShelves$Reader", "readTrait", "(Ljava/lang/String;III)Z"⟩, 6), (⟨"GoatShelves$Reader", "takeNumber", "(I)Z"⟩, 6), (⟨"GoatShelves$Reader", "value", "()I"⟩, 6), (⟨"GoatShelves$Reader", "readGrass", "()Z"⟩, 6), (⟨"GoatShelves$Reader", "readGrows", "()Z"⟩, 6), (⟨"GoatShelves$Reader", "readSalt", "()Z"⟩, 6), (⟨"GoatShelvesModel", "becomes", "(II)I"⟩, 16), (⟨"GoatShelvesModel", "finds", "(I)I"⟩, 16), (⟨"GoatShelvesModel", "there", "(I)I"⟩, 16), (⟨"GoatShelvesModel", "its", "(II)I"⟩, 16), (⟨"GoatShelvesModel", "known", "(I)I"⟩, 16), (⟨"GoatShelvesModel", "comes", "(III)V"⟩, 16), (⟨"GoatShelvesModel", "isGoat", "(I)Z"⟩, 16), (⟨"GoatShelvesModel", "costs", "(I)I"⟩, 16)]
theorem lw_r2 : ∀ q ∈ lw_privs_2, lw_okq q := List.forall_mem_cons.mpr ⟨lw_p16, List.forall_mem_cons.mpr ⟨lw_p17, List.forall_mem_cons.mpr ⟨lw_p18, List.forall_mem_cons.mpr ⟨lw_p19, List.forall_mem_cons.mpr ⟨lw_p20, List.forall_mem_cons.mpr ⟨lw_p21, List.forall_mem_cons.mpr ⟨lw_p22, List.forall_mem_cons.mpr ⟨lw_p23, List.forall_mem_cons.mpr ⟨lw_p24, List.forall_mem_cons.mpr ⟨lw_p25, List.forall_mem_cons.mpr ⟨lw_p26, List.forall_mem_cons.mpr ⟨lw_p27, List.forall_mem_cons.mpr ⟨lw_p28, List.forall_mem_cons.mpr ⟨lw_p29, List.forall_mem_cons.mpr ⟨lw_p30, List.forall_mem_cons.mpr ⟨lw_p31, fun _ h => absurd h List.not_mem_nil⟩⟩⟩⟩⟩⟩⟩⟩⟩⟩⟩⟩⟩⟩⟩⟩
theorem lw_p32 : lw_okq (⟨"GoatShelvesModel", "grazes", "(I)I"⟩, 16) := ⟨⟨by decide +kernel, by decide +kernel⟩, List.mem_of_getElem? (i := 714) (by decide +kernel), List.mem_of_getElem? (i := 841) (by decide +kernel), List.mem_of_getElem? (i := 842) (by decide +kernel)⟩
theorem lw_p33 : lw_okq (⟨"GoatShelvesModel", "climbsTo", "(I)I"⟩, 16) := ⟨⟨by decide +kernel, by decide +kernel⟩, List.mem_of_getElem? (i := 714) (by decide +kernel), List.mem_of_getElem? (i := 845) (by decide +kernel), List.mem_of_getElem? (i := 846) (by decide +kernel)⟩
theorem lw_p34 : lw_okq (⟨"GoatShelvesModel", "greenest", "(I)I"⟩, 16) := ⟨⟨by decide +kernel, by decide +kernel⟩, List.mem_of_getElem? (i := 714) (by decide +kernel), List.mem_of_getElem? (i := 849) (by decide +kernel), List.mem_of_getElem? (i := 850) (by decide +kernel)⟩
theorem lw_p35 : lw_okq (⟨"GoatShelvesModel", "quotes", "(I)I"⟩, 16) := ⟨⟨by decide +kernel, by decide +kernel⟩, List.mem_of_getElem? (i := 714) (by decide +kernel), List.mem_of_getElem? (i := 856) (by decide +kernel), List.mem_of_getElem? (i := 857) (by decide +kernel)⟩
theorem lw_p36 : lw_okq (⟨"GoatShelvesModel", "isQuoted", "(II)Z"⟩, 16) := ⟨⟨by decide +kernel, by decide +kernel⟩, List.mem_of_getElem? (i := 714) (by decide +kernel), List.mem_of_getElem? (i := 860) (by decide +kernel), List.mem_of_getElem? (i := 861) (by decide +kernel)⟩
theorem lw_p37 : lw_okq (⟨"GoatShelvesModel", "cheapest", "(I)I"⟩, 16) := ⟨⟨by decide +kernel, by decide +kernel⟩, List.mem_of_getElem? (i := 714) (by decide +kernel), List.mem_of_getElem? (i := 884) (by decide +kernel), List.mem_of_getElem? (i := 885) (by decide +kernel)⟩
theorem lw_p38 : lw_okq (⟨"GoatShelvesModel", "goes", "(I)V"⟩, 16) := ⟨⟨by decide +kernel, by decide +kernel⟩, List.mem_of_getElem? (i := 714) (by decide +kernel), List.mem_of_getElem? (i := 896) (by decide +kernel), List.mem_of_getElem? (i := 897) (by decide +kernel)⟩
theorem lw_p39 : lw_okq (⟨"GoatShelvesModel", "dayBut", "(I)V"⟩, 16) := ⟨⟨by decide +kernel, by decide +kernel⟩, List.mem_of_getElem? (i := 714) (by decide +kernel), List.mem_of_getElem? (i := 900) (by decide +kernel), List.mem_of_getElem? (i := 901) (by decide +kernel)⟩
theorem lw_p40 : lw_okq (⟨"GoatShelvesModel", "lives", "(I)V"⟩, 16) := ⟨⟨by decide +kernel, by decide +kernel⟩, List.mem_of_getElem? (i := 714) (by decide +kernel), List.mem_of_getElem? (i := 904) (by decide +kernel), List.mem_of_getElem? (i := 905) (by decide +kernel)⟩
theorem lw_p41 : lw_okq (⟨"GoatShelvesModel", "learnsOne", "(II)V"⟩, 16) := ⟨⟨by decide +kernel, by decide +kernel⟩, List.mem_of_getElem? (i := 714) (by decide +kernel), List.mem_of_getElem? (i := 911) (by decide +kernel), List.mem_of_getElem? (i := 912) (by decide +kernel)⟩
theorem lw_p42 : lw_okq (⟨"GoatShelvesModel", "knownAll", "()I"⟩, 16) := ⟨⟨by decide +kernel, by decide +kernel⟩, List.mem_of_getElem? (i := 714) (by decide +kernel), List.mem_of_getElem? (i := 921) (by decide +kernel), List.mem_of_getElem? (i := 922) (by decide +kernel)⟩
theorem lw_p43 : lw_okq (⟨"GoatShelvesModel", "grassAll", "()I"⟩, 16) := ⟨⟨by decide +kernel, by decide +kernel⟩, List.mem_of_getElem? (i := 714) (by decide +kernel), List.mem_of_getElem? (i := 929) (by decide +kernel), List.mem_of_getElem? (i := 930) (by decide +kernel)⟩
theorem lw_p44 : lw_okq (⟨"GoatShelvesModel", "livedOn", "()I"⟩, 16) := ⟨⟨by decide +kernel, by decide +kernel⟩, List.mem_of_getElem? (i := 714) (by decide +kernel), List.mem_of_getElem? (i := 933) (by decide +kernel), List.mem_of_getElem? (i := 934) (by decide +kernel)⟩
theorem lw_p45 : lw_okq (⟨"GoatShelvesModel", "wisest", "()I"⟩, 16) := ⟨⟨by decide +kernel, by decide +kernel⟩, List.mem_of_getElem? (i := 714) (by decide +kernel), List.mem_of_getElem? (i := 937) (by decide +kernel), List.mem_of_getElem? (i := 938) (by decide +kernel)⟩
theorem lw_p46 : lw_okq (⟨"GoatShelvesModel", "then", "(III)I"⟩, 16) := ⟨⟨by decide +kernel, by decide +kernel⟩, List.mem_of_getElem? (i := 714) (by decide +kernel), List.mem_of_getElem? (i := 951) (by decide +kernel), List.mem_of_getElem? (i := 952) (by decide +kernel)⟩
theorem lw_p47 : lw_okq (⟨"GoatShelvesModel", "isAsked", "(II)Z"⟩, 16) := ⟨⟨by decide +kernel, by decide +kernel⟩, List.mem_of_getElem? (i := 714) (by decide +kernel), List.mem_of_getElem? (i := 978) (by decide +kernel), List.mem_of_getElem? (i := 979) (by decide +kernel)⟩
def lw_privs_3 : List (MethodName × Nat) := [(⟨"GoatShelvesModel", "grazes", "(I)I"⟩, 16), (⟨"GoatShelvesModel", "climbsTo", "(I)I"⟩, 16), (⟨"GoatShelvesModel", "greenest", "(I)I"⟩, 16), (⟨"GoatShelvesModel", "quotes", "(I)I"⟩, 16), (⟨"GoatShelvesModel", "isQuoted", "(II)Z"⟩, 16), (⟨"GoatShelvesModel", "cheapest", "(I)I"⟩, 16), (⟨"GoatShelvesModel", "goes", "(I)V"⟩, 16), (⟨"GoatShelvesModel", "dayBut", "(I)V"⟩, 16), (⟨"GoatShelvesModel", "lives", "(I)V"⟩, 16), (⟨"GoatShelvesModel", "learnsOne", "(II)V"⟩, 16), (⟨"GoatShelvesModel", "knownAll", "()I"⟩, 16), (⟨"GoatShelvesModel", "grassAll", "()I"⟩, 16), (⟨"GoatShelvesModel", "livedOn", "()I"⟩, 16), (⟨"GoatShelvesModel", "wisest", "()I"⟩, 16), (⟨"GoatShelvesModel", "then", "(III)I"⟩, 16), (⟨"GoatShelvesModel", "isAsked", "(II)Z"⟩, 16)]
theorem lw_r3 : ∀ q ∈ lw_privs_3, lw_okq q := List.forall_mem_cons.mpr ⟨lw_p32, List.forall_mem_cons.mpr ⟨lw_p33, List.forall_mem_cons.mpr ⟨lw_p34, List.forall_mem_cons.mpr ⟨lw_p35, List.forall_mem_cons.mpr ⟨lw_p36, List.forall_mem_cons.mpr ⟨lw_p37, List.forall_mem_cons.mpr ⟨lw_p38, List.forall_mem_cons.mpr ⟨lw_p39, List.forall_mem_cons.mpr ⟨lw_p40, List.forall_mem_cons.mpr ⟨lw_p41, List.forall_mem_cons.mpr ⟨lw_p42, List.forall_mem_cons.mpr ⟨lw_p43, List.forall_mem_cons.mpr ⟨lw_p44, List.forall_mem_cons.mpr ⟨lw_p45, List.forall_mem_cons.mpr ⟨lw_p46, List.forall_mem_cons.mpr ⟨lw_p47, fun _ h => absurd h List.not_mem_nil⟩⟩⟩⟩⟩⟩⟩⟩⟩⟩⟩⟩⟩⟩⟩⟩
theorem lw_p48 : lw_okq (⟨"GoatShelvesModel", "wisestBy", "(III)I"⟩, 16) := ⟨⟨by decide +kernel, by decide +kernel⟩, List.mem_of_getElem? (i := 714) (by decide +kernel), List.mem_of_getElem? (i := 983) (by decide +kernel), List.mem_of_getElem? (i := 984) (by decide +kernel)⟩
theorem lw_p49 : lw_okq (⟨"GoatShelvesModel", "orNone", "(I)I"⟩, 16) := ⟨⟨by decide +kernel, by decide +kernel⟩, List.mem_of_getElem? (i := 714) (by decide +kernel), List.mem_of_getElem? (i := 995) (by decide +kernel), List.mem_of_getElem? (i := 996) (by decide +kernel)⟩
theorem lw_p50 : lw_okq (⟨"GoatShelvesModel", "couldBe", "(IIII)I"⟩, 16) := ⟨⟨by decide +kernel, by decide +kernel⟩, List.mem_of_getElem? (i := 714) (by decide +kernel), List.mem_of_getElem? (i := 1017) (by decide +kernel), List.mem_of_getElem? (i := 1018) (by decide +kernel)⟩
theorem lw_p51 : lw_okq (⟨"GoatShelvesModel", "wants", "(I)I"⟩, 16) := ⟨⟨by decide +kernel, by decide +kernel⟩, List.mem_of_getElem? (i := 714) (by decide +kernel), List.mem_of_getElem? (i := 1021) (by decide +kernel), List.mem_of_getElem? (i := 1022) (by decide +kernel)⟩
theorem lw_p52 : lw_okq (⟨"GoatShelvesModel", "isTold", "(II)Z"⟩, 16) := ⟨⟨by decide +kernel, by decide +kernel⟩, List.mem_of_getElem? (i := 714) (by decide +kernel), List.mem_of_getElem? (i := 1029) (by decide +kernel), List.mem_of_getElem? (i := 1030) (by decide +kernel)⟩
theorem lw_p53 : lw_okq (⟨"GoatShelvesModel", "draw", "()I"⟩, 16) := ⟨⟨by decide +kernel, by decide +kernel⟩, List.mem_of_getElem? (i := 714) (by decide +kernel), List.mem_of_getElem? (i := 1041) (by decide +kernel), List.mem_of_getElem? (i := 1042) (by decide +kernel)⟩
theorem lw_p54 : lw_okq (⟨"GoatShelvesModel", "nextToken", "()V"⟩, 16) := ⟨⟨by decide +kernel, by decide +kernel⟩, List.mem_of_getElem? (i := 714) (by decide +kernel), List.mem_of_getElem? (i := 1068) (by decide +kernel), List.mem_of_getElem? (i := 1069) (by decide +kernel)⟩
theorem lw_p55 : lw_okq (⟨"GoatShelvesModel", "byteAt", "(I)I"⟩, 16) := ⟨⟨by decide +kernel, by decide +kernel⟩, List.mem_of_getElem? (i := 714) (by decide +kernel), List.mem_of_getElem? (i := 1072) (by decide +kernel), List.mem_of_getElem? (i := 1073) (by decide +kernel)⟩
theorem lw_p56 : lw_okq (⟨"GoatShelvesModel", "itemHere", "()Z"⟩, 16) := ⟨⟨by decide +kernel, by decide +kernel⟩, List.mem_of_getElem? (i := 714) (by decide +kernel), List.mem_of_getElem? (i := 1082) (by decide +kernel), List.mem_of_getElem? (i := 1083) (by decide +kernel)⟩
theorem lw_p57 : lw_okq (⟨"GoatShelvesModel", "kindHere", "()I"⟩, 16) := ⟨⟨by decide +kernel, by decide +kernel⟩, List.mem_of_getElem? (i := 714) (by decide +kernel), List.mem_of_getElem? (i := 1086) (by decide +kernel), List.mem_of_getElem? (i := 1087) (by decide +kernel)⟩
theorem lw_p58 : lw_okq (⟨"GoatShelvesModel", "isFour", "(IIII)Z"⟩, 16) := ⟨⟨by decide +kernel, by decide +kernel⟩, List.mem_of_getElem? (i := 714) (by decide +kernel), List.mem_of_getElem? (i := 1090) (by decide +kernel), List.mem_of_getElem? (i := 1091) (by decide +kernel)⟩
theorem lw_p59 : lw_okq (⟨"GoatShelvesModel", "isWord", "(I)Z"⟩, 16) := ⟨⟨by decide +kernel, by decide +kernel⟩, List.mem_of_getElem? (i := 714) (by decide +kernel), List.mem_of_getElem? (i := 1094) (by decide +kernel), List.mem_of_getElem? (i := 1095) (by decide +kernel)⟩
theorem lw_p60 : lw_okq (⟨"GoatShelvesModel", "has3", "(IIII)Z"⟩, 16) := ⟨⟨by decide +kernel, by decide +kernel⟩, List.mem_of_getElem? (i := 714) (by decide +kernel), List.mem_of_getElem? (i := 1098) (by decide +kernel), List.mem_of_getElem? (i := 1099) (by decide +kernel)⟩
theorem lw_p61 : lw_okq (⟨"GoatShelvesModel", "isFive", "(IIIII)Z"⟩, 16) := ⟨⟨by decide +kernel, by decide +kernel⟩, List.mem_of_getElem? (i := 714) (by decide +kernel), List.mem_of_getElem? (i := 1102) (by decide +kernel), List.mem_of_getElem? (i := 1103) (by decide +kernel)⟩
theorem lw_p62 : lw_okq (⟨"GoatShelvesModel", "goatHere", "(I)Z"⟩, 16) := ⟨⟨by decide +kernel, by decide +kernel⟩, List.mem_of_getElem? (i := 714) (by decide +kernel), List.mem_of_getElem? (i := 1106) (by decide +kernel), List.mem_of_getElem? (i := 1107) (by decide +kernel)⟩
theorem lw_p63 : lw_okq (⟨"GoatShelvesModel", "fails", "()Z"⟩, 16) := ⟨⟨by decide +kernel, by decide +kernel⟩, List.mem_of_getElem? (i := 714) (by decide +kernel), List.mem_of_getElem? (i := 1110) (by decide +kernel), List.mem_of_getElem? (i := 1111) (by decide +kernel)⟩
def lw_privs_4 : List (MethodName × Nat) := [(⟨"GoatShelvesModel", "wisestBy", "(III)I"⟩, 16), (⟨"GoatShelvesModel", "orNone", "(I)I"⟩, 16), (⟨"GoatShelvesModel", "couldBe", "(IIII)I"⟩, 16), (⟨"GoatShelvesModel", "wants", "(I)I"⟩, 16), (⟨"GoatShelvesModel", "isTold", "(II)Z"⟩, 16), (⟨"GoatShelvesModel", "draw", "()I"⟩, 16), (⟨"GoatShelvesModel", "nextToken", "()V"⟩, 16), (⟨"GoatShelvesModel", "byteAt", "(I)I"⟩, 16), (⟨"GoatShelvesModel", "itemHere", "()Z"⟩, 16), (⟨"GoatShelvesModel", "kindHere", "()I"⟩, 16), (⟨"GoatShelvesModel", "isFour", "(IIII)Z"⟩, 16), (⟨"GoatShelvesModel", "isWord", "(I)Z"⟩, 16), (⟨"GoatShelvesModel", "has3", "(IIII)Z"⟩, 16), (⟨"GoatShelvesModel", "isFive", "(IIIII)Z"⟩, 16), (⟨"GoatShelvesModel", "goatHere", "(I)Z"⟩, 16), (⟨"GoatShelvesModel", "fails", "()Z"⟩, 16)]
theorem lw_r4 : ∀ q ∈ lw_privs_4, lw_okq q := List.forall_mem_cons.mpr ⟨lw_p48, List.forall_mem_cons.mpr ⟨lw_p49, List.forall_mem_cons.mpr ⟨lw_p50, List.forall_mem_cons.mpr ⟨lw_p51, List.forall_mem_cons.mpr ⟨lw_p52, List.forall_mem_cons.mpr ⟨lw_p53, List.forall_mem_cons.mpr ⟨lw_p54, List.forall_mem_cons.mpr ⟨lw_p55, List.forall_mem_cons.mpr ⟨lw_p56, List.forall_mem_cons.mpr ⟨lw_p57, List.forall_mem_cons.mpr ⟨lw_p58, List.forall_mem_cons.mpr ⟨lw_p59, List.forall_mem_cons.mpr ⟨lw_p60, List.forall_mem_cons.mpr ⟨lw_p61, List.forall_mem_cons.mpr ⟨lw_p62, List.forall_mem_cons.mpr ⟨lw_p63, fun _ h => absurd h List.not_mem_nil⟩⟩⟩⟩⟩⟩⟩⟩⟩⟩⟩⟩⟩⟩⟩⟩
theorem lw_p64 : lw_okq (⟨"GoatShelvesModel", "perhaps", "(ZII)Z"⟩, 16) := ⟨⟨by decide +kernel, by decide +kernel⟩, List.mem_of_getElem? (i := 714) (by decide +kernel), List.mem_of_getElem? (i := 1114) (by decide +kernel), List.mem_of_getElem? (i := 1115) (by decide +kernel)⟩
theorem lw_p65 : lw_okq (⟨"GoatShelvesModel", "isNumber", "(II)Z"⟩, 16) := ⟨⟨by decide +kernel, by decide +kernel⟩, List.mem_of_getElem? (i := 714) (by decide +kernel), List.mem_of_getElem? (i := 1118) (by decide +kernel), List.mem_of_getElem? (i := 1119) (by decide +kernel)⟩
theorem lw_p66 : lw_okq (⟨"GoatShelvesModel", "grassHere", "()Z"⟩, 16) := ⟨⟨by decide +kernel, by decide +kernel⟩, List.mem_of_getElem? (i := 714) (by decide +kernel), List.mem_of_getElem? (i := 1122) (by decide +kernel), List.mem_of_getElem? (i := 1123) (by decide +kernel)⟩
def lw_privs_5 : List (MethodName × Nat) := [(⟨"GoatShelvesModel", "perhaps", "(ZII)Z"⟩, 16), (⟨"GoatShelvesModel", "isNumber", "(II)Z"⟩, 16), (⟨"GoatShelvesModel", "grassHere", "()Z"⟩, 16)]
theorem lw_r5 : ∀ q ∈ lw_privs_5, lw_okq q := List.forall_mem_cons.mpr ⟨lw_p64, List.forall_mem_cons.mpr ⟨lw_p65, List.forall_mem_cons.mpr ⟨lw_p66, fun _ h => absurd h List.not_mem_nil⟩⟩⟩
def lw_privs : List (MethodName × Nat) := lw_privs_1 ++ (lw_privs_2 ++ (lw_privs_3 ++ (lw_privs_4 ++ (lw_privs_5))))
def lw_tbl : List Cond := k2_sels lw_privs ++ tables_1
theorem lw_privs_ok : ∀ q ∈ lw_privs, lw_okq q := by
  show ∀ q ∈ lw_privs_1 ++ (lw_privs_2 ++ (lw_privs_3 ++ (lw_privs_4 ++ (lw_privs_5)))), lw_okq q
  exact List.forall_mem_append.mpr ⟨lw_r1, List.forall_mem_append.mpr ⟨lw_r2, List.forall_mem_append.mpr ⟨lw_r3, List.forall_mem_append.mpr ⟨lw_r4, lw_r5⟩⟩⟩⟩
-- ===== end of PART A; then your names; then what follows =====
end
section
-- names: classes, fields in the order of the slots, code and name of each method (printed by the task's program), and the words that every method is given
def RX0 : String := "GoatShelves$Cliff"
def TX0 : u_T := fun k => match k with
  | 0 => ("GoatShelves$Cliff", "grass", "[I", true)
  | 1 => ("GoatShelves$Cliff", "kind", "[I", true)
  | 2 => ("GoatShelves$Cliff", "ledge", "[I", true)
  | 3 => ("GoatShelves$Cliff", "knows", "[I", true)
  | 4 => ("GoatShelves$Cliff", "age", "[I", true)
  | 5 => ("GoatShelves$Cliff", "fed", "[I", true)
  | 6 => ("GoatShelves$Cliff", "asked", "[I", true)
  | 7 => ("GoatShelves$Cliff", "spots", "[I", true)
  | 8 => ("GoatShelves$Cliff", "goats", "I", false)
  | 9 => ("GoatShelves$Cliff", "gone", "I", false)
  | 10 => ("GoatShelves$Cliff", "grows", "I", false)
  | 11 => ("GoatShelves$Cliff", "salt", "I", false)
  | 12 => ("GoatShelves$Cliff", "day", "I", false)
  | _ => ("GoatShelves$Cliff", "z", "I", false)
def tyX0 : Nat → FieldType := fun k => match k with
  | 0 => .array .int
  | 1 => .array .int
  | 2 => .array .int
  | 3 => .array .int
  | 4 => .array .int
  | 5 => .array .int
  | 6 => .array .int
  | 7 => .array .int
  | 8 => .int
  | 9 => .int
  | 10 => .int
  | 11 => .int
  | 12 => .int
  | _ => .int
abbrev wsX00 : List Cond := u_ws RX0 TX0 14
theorem nmX0 : ∀ a, a < 14 → ∀ b, b < 14 → a ≠ b → (TX0 a).2.1 ≠ (TX0 b).2.1 := by decide +kernel
theorem tyX0_ok : ∀ k, k < 14 → parseFieldDescriptor (TX0 k).2.2.1 = some (tyX0 k) := by decide +kernel
abbrev cX0_init : ByteArray := prog_2_method_1_code
def yX0_init : MethodName := ⟨RX0, "<init>", "()V"⟩
abbrev cX0_become : ByteArray := prog_2_method_2_code
def yX0_become : MethodName := ⟨RX0, "become", "(LGoatShelves$Cliff;)V"⟩
abbrev cX0_isFull : ByteArray := prog_2_method_3_code
def yX0_isFull : MethodName := ⟨RX0, "isFull", "()Z"⟩
abbrev cX0_addGoat : ByteArray := prog_2_method_4_code
def yX0_addGoat : MethodName := ⟨RX0, "addGoat", "(II)I"⟩
abbrev cX0_trait : ByteArray := prog_2_method_5_code
def yX0_trait : MethodName := ⟨RX0, "trait", "(II)I"⟩
abbrev cX0_setTrait : ByteArray := prog_2_method_6_code
def yX0_setTrait : MethodName := ⟨RX0, "setTrait", "(III)V"⟩
abbrev cX0_isOfKind : ByteArray := prog_2_method_7_code
def yX0_isOfKind : MethodName := ⟨RX0, "isOfKind", "(II)Z"⟩
abbrev cX0_kindAbove : ByteArray := prog_2_method_8_code
def yX0_kindAbove : MethodName := ⟨RX0, "kindAbove", "(I)I"⟩
abbrev cX0_quotes : ByteArray := prog_2_method_9_code
def yX0_quotes : MethodName := ⟨RX0, "quotes", "(I)I"⟩
abbrev cX0_skippedAt : ByteArray := prog_2_method_10_code
def yX0_skippedAt : MethodName := ⟨RX0, "skippedAt", "(I)I"⟩
abbrev cX0_costs : ByteArray := prog_2_method_11_code
def yX0_costs : MethodName := ⟨RX0, "costs", "(I)I"⟩
abbrev cX0_grazes : ByteArray := prog_2_method_12_code
def yX0_grazes : MethodName := ⟨RX0, "grazes", "(I)I"⟩
abbrev cX0_climbsTo : ByteArray := prog_2_method_13_code
def yX0_climbsTo : MethodName := ⟨RX0, "climbsTo", "(I)I"⟩
abbrev cX0_greenestNear : ByteArray := prog_2_method_14_code
def yX0_greenestNear : MethodName := ⟨RX0, "greenestNear", "(I)I"⟩
abbrev cX0_passDays : ByteArray := prog_2_method_15_code
def yX0_passDays : MethodName := ⟨RX0, "passDays", "(I)V"⟩
abbrev cX0_passDay : ByteArray := prog_2_method_16_code
def yX0_passDay : MethodName := ⟨RX0, "passDay", "()V"⟩
abbrev cX0_climbAndGraze : ByteArray := prog_2_method_17_code
def yX0_climbAndGraze : MethodName := ⟨RX0, "climbAndGraze", "(I)V"⟩
abbrev cX0_learnOrForget : ByteArray := prog_2_method_18_code
def yX0_learnOrForget : MethodName := ⟨RX0, "learnOrForget", "(I)V"⟩
abbrev cX0_withoutGreatest : ByteArray := prog_2_method_19_code
def yX0_withoutGreatest : MethodName := ⟨RX0, "withoutGreatest", "(I)I"⟩
abbrev cX0_slip : ByteArray := prog_2_method_20_code
def yX0_slip : MethodName := ⟨RX0, "slip", "()V"⟩
abbrev cX0_draw : ByteArray := prog_2_method_21_code
def yX0_draw : MethodName := ⟨RX0, "draw", "()I"⟩
abbrev cX0_isHere : ByteArray := prog_2_method_22_code
def yX0_isHere : MethodName := ⟨RX0, "isHere", "(I)Z"⟩
abbrev cX0_goatsOn : ByteArray := prog_2_method_23_code
def yX0_goatsOn : MethodName := ⟨RX0, "goatsOn", "(I)I"⟩
abbrev cX0_goatsKnowing : ByteArray := prog_2_method_24_code
def yX0_goatsKnowing : MethodName := ⟨RX0, "goatsKnowing", "(I)I"⟩
abbrev cX0_pagesOf : ByteArray := prog_2_method_25_code
def yX0_pagesOf : MethodName := ⟨RX0, "pagesOf", "(I)I"⟩
abbrev cX0_pagesOn : ByteArray := prog_2_method_26_code
def yX0_pagesOn : MethodName := ⟨RX0, "pagesOn", "(I)I"⟩
abbrev cX0_pagesKnown : ByteArray := prog_2_method_27_code
def yX0_pagesKnown : MethodName := ⟨RX0, "pagesKnown", "()I"⟩
abbrev cX0_isInPrint : ByteArray := prog_2_method_28_code
def yX0_isInPrint : MethodName := ⟨RX0, "isInPrint", "(I)Z"⟩
abbrev cX0_cheapestQuoting : ByteArray := prog_2_method_29_code
def yX0_cheapestQuoting : MethodName := ⟨RX0, "cheapestQuoting", "(I)I"⟩
abbrev cX0_wisest : ByteArray := prog_2_method_30_code
def yX0_wisest : MethodName := ⟨RX0, "wisest", "()I"⟩
abbrev cX0_grassInAll : ByteArray := prog_2_method_31_code
def yX0_grassInAll : MethodName := ⟨RX0, "grassInAll", "()I"⟩
abbrev cX0_fedInAll : ByteArray := prog_2_method_32_code
def yX0_fedInAll : MethodName := ⟨RX0, "fedInAll", "()I"⟩
abbrev cX0_ledgesWithGoats : ByteArray := prog_2_method_33_code
def yX0_ledgesWithGoats : MethodName := ⟨RX0, "ledgesWithGoats", "()I"⟩
abbrev cX0_spotsInUse : ByteArray := prog_2_method_34_code
def yX0_spotsInUse : MethodName := ⟨RX0, "spotsInUse", "()I"⟩
def RX1 : String := "GoatShelves$Reader"
def TX1 : u_T := fun k => match k with
  | 0 => ("GoatShelves$Reader", "tape", "LGoatShelves$Tape;", true)
  | 1 => ("GoatShelves$Reader", "into", "LGoatShelves$Cliff;", true)
  | 2 => ("GoatShelves$Reader", "token", "I", false)
  | 3 => ("GoatShelves$Reader", "begin", "I", false)
  | 4 => ("GoatShelves$Reader", "end", "I", false)
  | _ => ("GoatShelves$Reader", "number", "I", false)
def tyX1 : Nat → FieldType := fun k => match k with
  | 0 => .object "GoatShelves$Tape"
  | 1 => .object "GoatShelves$Cliff"
  | 2 => .int
  | 3 => .int
  | 4 => .int
  | _ => .int
abbrev wsX10 : List Cond := u_ws RX1 TX1 6
theorem nmX1 : ∀ a, a < 6 → ∀ b, b < 6 → a ≠ b → (TX1 a).2.1 ≠ (TX1 b).2.1 := by decide +kernel
theorem tyX1_ok : ∀ k, k < 6 → parseFieldDescriptor (TX1 k).2.2.1 = some (tyX1 k) := by decide +kernel
abbrev cX1_init : ByteArray := prog_3_method_1_code
def yX1_init : MethodName := ⟨RX1, "<init>", "(LGoatShelves$Tape;LGoatShelves$Cliff;)V"⟩
abbrev cX1_readText : ByteArray := prog_3_method_2_code
def yX1_readText : MethodName := ⟨RX1, "readText", "()I"⟩
abbrev cX1_readItem : ByteArray := prog_3_method_3_code
def yX1_readItem : MethodName := ⟨RX1, "readItem", "()Z"⟩
abbrev cX1_kindTold : ByteArray := prog_3_method_4_code
def yX1_kindTold : MethodName := ⟨RX1, "kindTold", "()I"⟩
abbrev cX1_readGoat : ByteArray := prog_3_method_5_code
def yX1_readGoat : MethodName := ⟨RX1, "readGoat", "(I)Z"⟩
abbrev cX1_readTrait : ByteArray := prog_3_method_6_code
def yX1_readTrait : MethodName := ⟨RX1, "readTrait", "(Ljava/lang/String;III)Z"⟩
abbrev cX1_readGrass : ByteArray := prog_3_method_7_code
def yX1_readGrass : MethodName := ⟨RX1, "readGrass", "()Z"⟩
abbrev cX1_readGrows : ByteArray := prog_3_method_8_code
def yX1_readGrows : MethodName := ⟨RX1, "readGrows", "()Z"⟩
abbrev cX1_readSalt : ByteArray := prog_3_method_9_code
def yX1_readSalt : MethodName := ⟨RX1, "readSalt", "()Z"⟩
abbrev cX1_takeNumber : ByteArray := prog_3_method_10_code
def yX1_takeNumber : MethodName := ⟨RX1, "takeNumber", "(I)Z"⟩
abbrev cX1_value : ByteArray := prog_3_method_11_code
def yX1_value : MethodName := ⟨RX1, "value", "()I"⟩
abbrev cX1_isWord : ByteArray := prog_3_method_12_code
def yX1_isWord : MethodName := ⟨RX1, "isWord", "(Ljava/lang/String;)Z"⟩
abbrev cX1_stepOn : ByteArray := prog_3_method_13_code
def yX1_stepOn : MethodName := ⟨RX1, "stepOn", "()V"⟩
abbrev cX1_tokenBeginningWith : ByteArray := prog_3_method_14_code
def yX1_tokenBeginningWith : MethodName := ⟨RX1, "tokenBeginningWith", "(I)I"⟩
def RX2 : String := "GoatShelves$Sheet"
def TX2 : u_T := fun k => match k with
  | 0 => ("GoatShelves$Sheet", "numbers", "[I", true)
  | 1 => ("GoatShelves$Sheet", "bits", "I", false)
  | _ => ("GoatShelves$Sheet", "length", "I", false)
def tyX2 : Nat → FieldType := fun k => match k with
  | 0 => .array .int
  | 1 => .int
  | _ => .int
abbrev wsX20 : List Cond := u_ws RX2 TX2 3
theorem nmX2 : ∀ a, a < 3 → ∀ b, b < 3 → a ≠ b → (TX2 a).2.1 ≠ (TX2 b).2.1 := by decide +kernel
theorem tyX2_ok : ∀ k, k < 3 → parseFieldDescriptor (TX2 k).2.2.1 = some (tyX2 k) := by decide +kernel
abbrev cX2_init : ByteArray := prog_4_method_1_code
def yX2_init : MethodName := ⟨RX2, "<init>", "()V"⟩
abbrev cX2_isMissing : ByteArray := prog_4_method_2_code
def yX2_isMissing : MethodName := ⟨RX2, "isMissing", "()Z"⟩
abbrev cX2_begin : ByteArray := prog_4_method_3_code
def yX2_begin : MethodName := ⟨RX2, "begin", "(II)V"⟩
abbrev cX2_cut : ByteArray := prog_4_method_4_code
def yX2_cut : MethodName := ⟨RX2, "cut", "(I)I"⟩
abbrev cX2_hasRange : ByteArray := prog_4_method_5_code
def yX2_hasRange : MethodName := ⟨RX2, "hasRange", "(II)Z"⟩
def RX3 : String := "GoatShelves$Tape"
def TX3 : u_T := fun k => match k with
  | 0 => ("GoatShelves$Tape", "bytes", "[I", true)
  | _ => ("GoatShelves$Tape", "length", "I", false)
def tyX3 : Nat → FieldType := fun k => match k with
  | 0 => .array .int
  | _ => .int
abbrev wsX30 : List Cond := u_ws RX3 TX3 2
theorem nmX3 : ∀ a, a < 2 → ∀ b, b < 2 → a ≠ b → (TX3 a).2.1 ≠ (TX3 b).2.1 := by decide +kernel
theorem tyX3_ok : ∀ k, k < 2 → parseFieldDescriptor (TX3 k).2.2.1 = some (tyX3 k) := by decide +kernel
abbrev cX3_init : ByteArray := prog_5_method_1_code
def yX3_init : MethodName := ⟨RX3, "<init>", "()V"⟩
abbrev cX3_append : ByteArray := prog_5_method_2_code
def yX3_append : MethodName := ⟨RX3, "append", "(II)V"⟩
abbrev cX3_byteAt : ByteArray := prog_5_method_3_code
def yX3_byteAt : MethodName := ⟨RX3, "byteAt", "(I)I"⟩
def RX4 : String := "GoatShelves"
def TX4 : u_T := fun k => match k with
  | 0 => ("GoatShelves", "cliff", "LGoatShelves$Cliff;", true)
  | 1 => ("GoatShelves", "trial", "LGoatShelves$Cliff;", true)
  | 2 => ("GoatShelves", "kept", "LGoatShelves$Cliff;", true)
  | 3 => ("GoatShelves", "isKept", "Z", false)
  | 4 => ("GoatShelves", "tape", "LGoatShelves$Tape;", true)
  | 5 => ("GoatShelves", "reader", "LGoatShelves$Reader;", true)
  | 6 => ("GoatShelves", "sheets", "[LGoatShelves$Sheet;", true)
  | _ => ("GoatShelves", "findings", "[I", true)
def tyX4 : Nat → FieldType := fun k => match k with
  | 0 => .object "GoatShelves$Cliff"
  | 1 => .object "GoatShelves$Cliff"
  | 2 => .object "GoatShelves$Cliff"
  | 3 => .boolean
  | 4 => .object "GoatShelves$Tape"
  | 5 => .object "GoatShelves$Reader"
  | 6 => .array (.object "GoatShelves$Sheet")
  | _ => .array .int
abbrev wsX40 : List Cond := u_ws RX4 TX4 8
theorem nmX4 : ∀ a, a < 8 → ∀ b, b < 8 → a ≠ b → (TX4 a).2.1 ≠ (TX4 b).2.1 := by decide +kernel
theorem tyX4_ok : ∀ k, k < 8 → parseFieldDescriptor (TX4 k).2.2.1 = some (tyX4 k) := by decide +kernel
abbrev cX4_init : ByteArray := prog_1_method_1_code
def yX4_init : MethodName := ⟨RX4, "<init>", "()V"⟩
abbrev cX4_grass : ByteArray := prog_1_method_2_code
def yX4_grass : MethodName := ⟨RX4, "grass", "(II)I"⟩
abbrev cX4_ledge : ByteArray := prog_1_method_3_code
def yX4_ledge : MethodName := ⟨RX4, "ledge", "(II)I"⟩
abbrev cX4_set : ByteArray := prog_1_method_4_code
def yX4_set : MethodName := ⟨RX4, "set", "(II)I"⟩
abbrev cX4_goat : ByteArray := prog_1_method_5_code
def yX4_goat : MethodName := ⟨RX4, "goat", "(II)I"⟩
abbrev cX4_of : ByteArray := prog_1_method_6_code
def yX4_of : MethodName := ⟨RX4, "of", "(II)I"⟩
abbrev cX4_change : ByteArray := prog_1_method_7_code
def yX4_change : MethodName := ⟨RX4, "change", "(III)I"⟩
abbrev cX4_birth : ByteArray := prog_1_method_8_code
def yX4_birth : MethodName := ⟨RX4, "birth", "(I)I"⟩
abbrev cX4_ask : ByteArray := prog_1_method_9_code
def yX4_ask : MethodName := ⟨RX4, "ask", "(I)I"⟩
abbrev cX4_go : ByteArray := prog_1_method_10_code
def yX4_go : MethodName := ⟨RX4, "go", "(I)I"⟩
abbrev cX4_now : ByteArray := prog_1_method_11_code
def yX4_now : MethodName := ⟨RX4, "now", "(I)I"⟩
abbrev cX4_who : ByteArray := prog_1_method_12_code
def yX4_who : MethodName := ⟨RX4, "who", "(I)I"⟩
abbrev cX4_ahead : ByteArray := prog_1_method_13_code
def yX4_ahead : MethodName := ⟨RX4, "ahead", "(III)I"⟩
abbrev cX4_learns : ByteArray := prog_1_method_14_code
def yX4_learns : MethodName := ⟨RX4, "learns", "(II)I"⟩
abbrev cX4_lost : ByteArray := prog_1_method_15_code
def yX4_lost : MethodName := ⟨RX4, "lost", "(I)I"⟩
abbrev cX4_meet : ByteArray := prog_1_method_16_code
def yX4_meet : MethodName := ⟨RX4, "meet", "(II)I"⟩
abbrev cX4_reach : ByteArray := prog_1_method_17_code
def yX4_reach : MethodName := ⟨RX4, "reach", "(II)I"⟩
abbrev cX4_put : ByteArray := prog_1_method_18_code
def yX4_put : MethodName := ⟨RX4, "put", "(II)I"⟩
abbrev cX4_kindFor : ByteArray := prog_1_method_19_code
def yX4_kindFor : MethodName := ⟨RX4, "kindFor", "(II)I"⟩
abbrev cX4_growsFor : ByteArray := prog_1_method_20_code
def yX4_growsFor : MethodName := ⟨RX4, "growsFor", "(II)I"⟩
abbrev cX4_cover : ByteArray := prog_1_method_21_code
def yX4_cover : MethodName := ⟨RX4, "cover", "(I)I"⟩
abbrev cX4_price : ByteArray := prog_1_method_22_code
def yX4_price : MethodName := ⟨RX4, "price", "(I)I"⟩
abbrev cX4_censor : ByteArray := prog_1_method_23_code
def yX4_censor : MethodName := ⟨RX4, "censor", "(II)I"⟩
abbrev cX4_kinds : ByteArray := prog_1_method_24_code
def yX4_kinds : MethodName := ⟨RX4, "kinds", "(II)I"⟩
abbrev cX4_fits : ByteArray := prog_1_method_25_code
def yX4_fits : MethodName := ⟨RX4, "fits", "(II)I"⟩
abbrev cX4_slips : ByteArray := prog_1_method_26_code
def yX4_slips : MethodName := ⟨RX4, "slips", "(I)I"⟩
abbrev cX4_odds : ByteArray := prog_1_method_27_code
def yX4_odds : MethodName := ⟨RX4, "odds", "(II)J"⟩
abbrev cX4_seed : ByteArray := prog_1_method_28_code
def yX4_seed : MethodName := ⟨RX4, "seed", "(I)I"⟩
abbrev cX4_feed : ByteArray := prog_1_method_29_code
def yX4_feed : MethodName := ⟨RX4, "feed", "(II)I"⟩
abbrev cX4_wipe : ByteArray := prog_1_method_30_code
def yX4_wipe : MethodName := ⟨RX4, "wipe", "()I"⟩
abbrev cX4_text : ByteArray := prog_1_method_31_code
def yX4_text : MethodName := ⟨RX4, "text", "()I"⟩
abbrev cX4_hold : ByteArray := prog_1_method_32_code
def yX4_hold : MethodName := ⟨RX4, "hold", "(II)I"⟩
abbrev cX4_as : ByteArray := prog_1_method_33_code
def yX4_as : MethodName := ⟨RX4, "as", "(II)I"⟩
abbrev cX4_sheet : ByteArray := prog_1_method_34_code
def yX4_sheet : MethodName := ⟨RX4, "sheet", "(III)I"⟩
abbrev cX4_write : ByteArray := prog_1_method_35_code
def yX4_write : MethodName := ⟨RX4, "write", "(III)I"⟩
abbrev cX4_copy : ByteArray := prog_1_method_36_code
def yX4_copy : MethodName := ⟨RX4, "copy", "(IIIII)I"⟩
abbrev cX4_load : ByteArray := prog_1_method_37_code
def yX4_load : MethodName := ⟨RX4, "load", "(I)I"⟩
abbrev cX4_judge : ByteArray := prog_1_method_38_code
def yX4_judge : MethodName := ⟨RX4, "judge", "(I)I"⟩
abbrev cX4_image : ByteArray := prog_1_method_39_code
def yX4_image : MethodName := ⟨RX4, "image", "()I"⟩
abbrev cX4_undo : ByteArray := prog_1_method_40_code
def yX4_undo : MethodName := ⟨RX4, "undo", "()I"⟩
abbrev cX4_tear : ByteArray := prog_1_method_41_code
def yX4_tear : MethodName := ⟨RX4, "tear", "()I"⟩
abbrev cX4_count : ByteArray := prog_1_method_42_code
def yX4_count : MethodName := ⟨RX4, "count", "(I)I"⟩
abbrev cX4_status : ByteArray := prog_1_method_43_code
def yX4_status : MethodName := ⟨RX4, "status", "(I)I"⟩
abbrev cX4_found : ByteArray := prog_1_method_44_code
def yX4_found : MethodName := ⟨RX4, "found", "(I)I"⟩
abbrev cX4_isGoat : ByteArray := prog_1_method_45_code
def yX4_isGoat : MethodName := ⟨RX4, "isGoat", "(I)Z"⟩
abbrev cX4_isWithin : ByteArray := prog_1_method_46_code
def yX4_isWithin : MethodName := ⟨RX4, "isWithin", "(II)Z"⟩
abbrev cX4_isLedge : ByteArray := prog_1_method_47_code
def yX4_isLedge : MethodName := ⟨RX4, "isLedge", "(I)Z"⟩
abbrev cX4_isPage : ByteArray := prog_1_method_48_code
def yX4_isPage : MethodName := ⟨RX4, "isPage", "(I)Z"⟩
abbrev cX4_isKind : ByteArray := prog_1_method_49_code
def yX4_isKind : MethodName := ⟨RX4, "isKind", "(I)Z"⟩
abbrev cX4_isSpot : ByteArray := prog_1_method_50_code
def yX4_isSpot : MethodName := ⟨RX4, "isSpot", "(I)Z"⟩
abbrev cX4_isSheet : ByteArray := prog_1_method_51_code
def yX4_isSheet : MethodName := ⟨RX4, "isSheet", "(I)Z"⟩
abbrev cX4_hasBit : ByteArray := prog_1_method_52_code
def yX4_hasBit : MethodName := ⟨RX4, "hasBit", "(II)Z"⟩
abbrev cX4_leastBit : ByteArray := prog_1_method_53_code
def yX4_leastBit : MethodName := ⟨RX4, "leastBit", "(I)I"⟩
abbrev cX4_isTraitValue : ByteArray := prog_1_method_54_code
def yX4_isTraitValue : MethodName := ⟨RX4, "isTraitValue", "(II)Z"⟩
abbrev cX4_power : ByteArray := prog_1_method_55_code
def yX4_power : MethodName := ⟨RX4, "power", "(II)J"⟩
abbrev cX4_daysUntil : ByteArray := prog_1_method_56_code
def yX4_daysUntil : MethodName := ⟨RX4, "daysUntil", "(III)I"⟩
abbrev cX4_hasCome : ByteArray := prog_1_method_57_code
def yX4_hasCome : MethodName := ⟨RX4, "hasCome", "(III)Z"⟩
abbrev cX4_bestTrait : ByteArray := prog_1_method_58_code
def yX4_bestTrait : MethodName := ⟨RX4, "bestTrait", "(IIII)I"⟩
abbrev cX4_isLostWithout : ByteArray := prog_1_method_59_code
def yX4_isLostWithout : MethodName := ⟨RX4, "isLostWithout", "(III)Z"⟩
abbrev cX4_traitsAsTold : ByteArray := prog_1_method_60_code
def yX4_traitsAsTold : MethodName := ⟨RX4, "traitsAsTold", "(IIIII)I"⟩
abbrev cX4_comesAsTold : ByteArray := prog_1_method_61_code
def yX4_comesAsTold : MethodName := ⟨RX4, "comesAsTold", "(LGoatShelves$Sheet;II)Z"⟩
def RX5 : String := "GoatShelvesModel"
def TX5 : u_T := fun k => match k with
  | 0 => ("GoatShelvesModel", "s", "[I", true)
  | 1 => ("GoatShelvesModel", "kept", "[I", true)
  | 2 => ("GoatShelvesModel", "before", "[I", true)
  | 3 => ("GoatShelvesModel", "aside", "[I", true)
  | 4 => ("GoatShelvesModel", "isKept", "Z", false)
  | 5 => ("GoatShelvesModel", "findings", "[I", true)
  | 6 => ("GoatShelvesModel", "tape", "[I", true)
  | 7 => ("GoatShelvesModel", "taped", "I", false)
  | 8 => ("GoatShelvesModel", "bitsOf", "[I", true)
  | 9 => ("GoatShelvesModel", "sizes", "[I", true)
  | 10 => ("GoatShelvesModel", "numbers", "[I", true)
  | 11 => ("GoatShelvesModel", "token", "I", false)
  | 12 => ("GoatShelvesModel", "from", "I", false)
  | 13 => ("GoatShelvesModel", "to", "I", false)
  | 14 => ("GoatShelvesModel", "value", "I", false)
  | _ => ("GoatShelvesModel", "faultAt", "I", false)
def tyX5 : Nat → FieldType := fun k => match k with
  | 0 => .array .int
  | 1 => .array .int
  | 2 => .array .int
  | 3 => .array .int
  | 4 => .boolean
  | 5 => .array .int
  | 6 => .array .int
  | 7 => .int
  | 8 => .array .int
  | 9 => .array .int
  | 10 => .array .int
  | 11 => .int
  | 12 => .int
  | 13 => .int
  | 14 => .int
  | _ => .int
abbrev wsX50 : List Cond := u_ws RX5 TX5 16
theorem nmX5 : ∀ a, a < 16 → ∀ b, b < 16 → a ≠ b → (TX5 a).2.1 ≠ (TX5 b).2.1 := by decide +kernel
theorem tyX5_ok : ∀ k, k < 16 → parseFieldDescriptor (TX5 k).2.2.1 = some (tyX5 k) := by decide +kernel
abbrev cX5_init : ByteArray := prog_7_method_1_code
def yX5_init : MethodName := ⟨RX5, "<init>", "()V"⟩
abbrev cX5_isIn : ByteArray := prog_7_method_2_code
def yX5_isIn : MethodName := ⟨RX5, "isIn", "(JJJ)Z"⟩
abbrev cX5_finds : ByteArray := prog_7_method_3_code
def yX5_finds : MethodName := ⟨RX5, "finds", "(I)I"⟩
abbrev cX5_becomes : ByteArray := prog_7_method_4_code
def yX5_becomes : MethodName := ⟨RX5, "becomes", "(II)I"⟩
abbrev cX5_copyRow : ByteArray := prog_7_method_5_code
def yX5_copyRow : MethodName := ⟨RX5, "copyRow", "([I[I)V"⟩
abbrev cX5_isLedge : ByteArray := prog_7_method_6_code
def yX5_isLedge : MethodName := ⟨RX5, "isLedge", "(I)Z"⟩
abbrev cX5_isPage : ByteArray := prog_7_method_7_code
def yX5_isPage : MethodName := ⟨RX5, "isPage", "(I)Z"⟩
abbrev cX5_isGoat : ByteArray := prog_7_method_8_code
def yX5_isGoat : MethodName := ⟨RX5, "isGoat", "(I)Z"⟩
abbrev cX5_at : ByteArray := prog_7_method_9_code
def yX5_at : MethodName := ⟨RX5, "at", "(II)I"⟩
abbrev cX5_its : ByteArray := prog_7_method_10_code
def yX5_its : MethodName := ⟨RX5, "its", "(II)I"⟩
abbrev cX5_least : ByteArray := prog_7_method_11_code
def yX5_least : MethodName := ⟨RX5, "least", "(II)I"⟩
abbrev cX5_greatest : ByteArray := prog_7_method_12_code
def yX5_greatest : MethodName := ⟨RX5, "greatest", "(II)I"⟩
abbrev cX5_orNone : ByteArray := prog_7_method_13_code
def yX5_orNone : MethodName := ⟨RX5, "orNone", "(I)I"⟩
abbrev cX5_many : ByteArray := prog_7_method_14_code
def yX5_many : MethodName := ⟨RX5, "many", "(I)I"⟩
abbrev cX5_grass : ByteArray := prog_7_method_15_code
def yX5_grass : MethodName := ⟨RX5, "grass", "(II)I"⟩
abbrev cX5_there : ByteArray := prog_7_method_16_code
def yX5_there : MethodName := ⟨RX5, "there", "(I)I"⟩
abbrev cX5_known : ByteArray := prog_7_method_17_code
def yX5_known : MethodName := ⟨RX5, "known", "(I)I"⟩
abbrev cX5_knownAll : ByteArray := prog_7_method_18_code
def yX5_knownAll : MethodName := ⟨RX5, "knownAll", "()I"⟩
abbrev cX5_ledge : ByteArray := prog_7_method_19_code
def yX5_ledge : MethodName := ⟨RX5, "ledge", "(II)I"⟩
abbrev cX5_set : ByteArray := prog_7_method_20_code
def yX5_set : MethodName := ⟨RX5, "set", "(II)I"⟩
abbrev cX5_comes : ByteArray := prog_7_method_21_code
def yX5_comes : MethodName := ⟨RX5, "comes", "(III)V"⟩
abbrev cX5_goat : ByteArray := prog_7_method_22_code
def yX5_goat : MethodName := ⟨RX5, "goat", "(II)I"⟩
abbrev cX5_isQuoted : ByteArray := prog_7_method_23_code
def yX5_isQuoted : MethodName := ⟨RX5, "isQuoted", "(II)Z"⟩
abbrev cX5_quotes : ByteArray := prog_7_method_24_code
def yX5_quotes : MethodName := ⟨RX5, "quotes", "(I)I"⟩
abbrev cX5_costs : ByteArray := prog_7_method_25_code
def yX5_costs : MethodName := ⟨RX5, "costs", "(I)I"⟩
abbrev cX5_grazes : ByteArray := prog_7_method_26_code
def yX5_grazes : MethodName := ⟨RX5, "grazes", "(I)I"⟩
abbrev cX5_greenest : ByteArray := prog_7_method_27_code
def yX5_greenest : MethodName := ⟨RX5, "greenest", "(I)I"⟩
abbrev cX5_climbsTo : ByteArray := prog_7_method_28_code
def yX5_climbsTo : MethodName := ⟨RX5, "climbsTo", "(I)I"⟩
abbrev cX5_of : ByteArray := prog_7_method_29_code
def yX5_of : MethodName := ⟨RX5, "of", "(II)I"⟩
abbrev cX5_greatestOf : ByteArray := prog_7_method_30_code
def yX5_greatestOf : MethodName := ⟨RX5, "greatestOf", "(I)I"⟩
abbrev cX5_change : ByteArray := prog_7_method_31_code
def yX5_change : MethodName := ⟨RX5, "change", "(III)I"⟩
abbrev cX5_birth : ByteArray := prog_7_method_32_code
def yX5_birth : MethodName := ⟨RX5, "birth", "(I)I"⟩
abbrev cX5_cheapest : ByteArray := prog_7_method_33_code
def yX5_cheapest : MethodName := ⟨RX5, "cheapest", "(I)I"⟩
abbrev cX5_ask : ByteArray := prog_7_method_34_code
def yX5_ask : MethodName := ⟨RX5, "ask", "(I)I"⟩
abbrev cX5_lives : ByteArray := prog_7_method_35_code
def yX5_lives : MethodName := ⟨RX5, "lives", "(I)V"⟩
abbrev cX5_lowestOf : ByteArray := prog_7_method_36_code
def yX5_lowestOf : MethodName := ⟨RX5, "lowestOf", "(I)I"⟩
abbrev cX5_highestOf : ByteArray := prog_7_method_37_code
def yX5_highestOf : MethodName := ⟨RX5, "highestOf", "(I)I"⟩
abbrev cX5_learnsOne : ByteArray := prog_7_method_38_code
def yX5_learnsOne : MethodName := ⟨RX5, "learnsOne", "(II)V"⟩
abbrev cX5_dayBut : ByteArray := prog_7_method_39_code
def yX5_dayBut : MethodName := ⟨RX5, "dayBut", "(I)V"⟩
abbrev cX5_goes : ByteArray := prog_7_method_40_code
def yX5_goes : MethodName := ⟨RX5, "goes", "(I)V"⟩
abbrev cX5_go : ByteArray := prog_7_method_41_code
def yX5_go : MethodName := ⟨RX5, "go", "(I)I"⟩
abbrev cX5_grassAll : ByteArray := prog_7_method_42_code
def yX5_grassAll : MethodName := ⟨RX5, "grassAll", "()I"⟩
abbrev cX5_livedOn : ByteArray := prog_7_method_43_code
def yX5_livedOn : MethodName := ⟨RX5, "livedOn", "()I"⟩
abbrev cX5_wisest : ByteArray := prog_7_method_44_code
def yX5_wisest : MethodName := ⟨RX5, "wisest", "()I"⟩
abbrev cX5_now : ByteArray := prog_7_method_45_code
def yX5_now : MethodName := ⟨RX5, "now", "(I)I"⟩
abbrev cX5_who : ByteArray := prog_7_method_46_code
def yX5_who : MethodName := ⟨RX5, "who", "(I)I"⟩
abbrev cX5_then : ByteArray := prog_7_method_47_code
def yX5_then : MethodName := ⟨RX5, "then", "(III)I"⟩
abbrev cX5_ahead : ByteArray := prog_7_method_48_code
def yX5_ahead : MethodName := ⟨RX5, "ahead", "(III)I"⟩
abbrev cX5_learns : ByteArray := prog_7_method_49_code
def yX5_learns : MethodName := ⟨RX5, "learns", "(II)I"⟩
abbrev cX5_lost : ByteArray := prog_7_method_50_code
def yX5_lost : MethodName := ⟨RX5, "lost", "(I)I"⟩
abbrev cX5_meet : ByteArray := prog_7_method_51_code
def yX5_meet : MethodName := ⟨RX5, "meet", "(II)I"⟩
abbrev cX5_reach : ByteArray := prog_7_method_52_code
def yX5_reach : MethodName := ⟨RX5, "reach", "(II)I"⟩
abbrev cX5_isAsked : ByteArray := prog_7_method_53_code
def yX5_isAsked : MethodName := ⟨RX5, "isAsked", "(II)Z"⟩
abbrev cX5_wisestBy : ByteArray := prog_7_method_54_code
def yX5_wisestBy : MethodName := ⟨RX5, "wisestBy", "(III)I"⟩
abbrev cX5_put : ByteArray := prog_7_method_55_code
def yX5_put : MethodName := ⟨RX5, "put", "(II)I"⟩
abbrev cX5_kindFor : ByteArray := prog_7_method_56_code
def yX5_kindFor : MethodName := ⟨RX5, "kindFor", "(II)I"⟩
abbrev cX5_growsFor : ByteArray := prog_7_method_57_code
def yX5_growsFor : MethodName := ⟨RX5, "growsFor", "(II)I"⟩
abbrev cX5_cover : ByteArray := prog_7_method_58_code
def yX5_cover : MethodName := ⟨RX5, "cover", "(I)I"⟩
abbrev cX5_price : ByteArray := prog_7_method_59_code
def yX5_price : MethodName := ⟨RX5, "price", "(I)I"⟩
abbrev cX5_censor : ByteArray := prog_7_method_60_code
def yX5_censor : MethodName := ⟨RX5, "censor", "(II)I"⟩
abbrev cX5_isTold : ByteArray := prog_7_method_61_code
def yX5_isTold : MethodName := ⟨RX5, "isTold", "(II)Z"⟩
abbrev cX5_couldBe : ByteArray := prog_7_method_62_code
def yX5_couldBe : MethodName := ⟨RX5, "couldBe", "(IIII)I"⟩
abbrev cX5_kinds : ByteArray := prog_7_method_63_code
def yX5_kinds : MethodName := ⟨RX5, "kinds", "(II)I"⟩
abbrev cX5_fits : ByteArray := prog_7_method_64_code
def yX5_fits : MethodName := ⟨RX5, "fits", "(II)I"⟩
abbrev cX5_draw : ByteArray := prog_7_method_65_code
def yX5_draw : MethodName := ⟨RX5, "draw", "()I"⟩
abbrev cX5_slips : ByteArray := prog_7_method_66_code
def yX5_slips : MethodName := ⟨RX5, "slips", "(I)I"⟩
abbrev cX5_odds : ByteArray := prog_7_method_67_code
def yX5_odds : MethodName := ⟨RX5, "odds", "(II)J"⟩
abbrev cX5_seed : ByteArray := prog_7_method_68_code
def yX5_seed : MethodName := ⟨RX5, "seed", "(I)I"⟩
abbrev cX5_feed : ByteArray := prog_7_method_69_code
def yX5_feed : MethodName := ⟨RX5, "feed", "(II)I"⟩
abbrev cX5_wipe : ByteArray := prog_7_method_70_code
def yX5_wipe : MethodName := ⟨RX5, "wipe", "()I"⟩
abbrev cX5_isLetter : ByteArray := prog_7_method_71_code
def yX5_isLetter : MethodName := ⟨RX5, "isLetter", "(I)Z"⟩
abbrev cX5_isDigit : ByteArray := prog_7_method_72_code
def yX5_isDigit : MethodName := ⟨RX5, "isDigit", "(I)Z"⟩
abbrev cX5_byteAt : ByteArray := prog_7_method_73_code
def yX5_byteAt : MethodName := ⟨RX5, "byteAt", "(I)I"⟩
abbrev cX5_nextToken : ByteArray := prog_7_method_74_code
def yX5_nextToken : MethodName := ⟨RX5, "nextToken", "()V"⟩
abbrev cX5_has3 : ByteArray := prog_7_method_75_code
def yX5_has3 : MethodName := ⟨RX5, "has3", "(IIII)Z"⟩
abbrev cX5_isWord : ByteArray := prog_7_method_76_code
def yX5_isWord : MethodName := ⟨RX5, "isWord", "(I)Z"⟩
abbrev cX5_fails : ByteArray := prog_7_method_77_code
def yX5_fails : MethodName := ⟨RX5, "fails", "()Z"⟩
abbrev cX5_isFour : ByteArray := prog_7_method_78_code
def yX5_isFour : MethodName := ⟨RX5, "isFour", "(IIII)Z"⟩
abbrev cX5_isFive : ByteArray := prog_7_method_79_code
def yX5_isFive : MethodName := ⟨RX5, "isFive", "(IIIII)Z"⟩
abbrev cX5_isNumber : ByteArray := prog_7_method_81_code
def yX5_isNumber : MethodName := ⟨RX5, "isNumber", "(II)Z"⟩
abbrev cX5_kindHere : ByteArray := prog_7_method_82_code
def yX5_kindHere : MethodName := ⟨RX5, "kindHere", "()I"⟩
abbrev cX5_perhaps : ByteArray := prog_7_method_83_code
def yX5_perhaps : MethodName := ⟨RX5, "perhaps", "(ZII)Z"⟩
abbrev cX5_goatHere : ByteArray := prog_7_method_84_code
def yX5_goatHere : MethodName := ⟨RX5, "goatHere", "(I)Z"⟩
abbrev cX5_grassHere : ByteArray := prog_7_method_85_code
def yX5_grassHere : MethodName := ⟨RX5, "grassHere", "()Z"⟩
abbrev cX5_itemHere : ByteArray := prog_7_method_86_code
def yX5_itemHere : MethodName := ⟨RX5, "itemHere", "()Z"⟩
abbrev cX5_text : ByteArray := prog_7_method_87_code
def yX5_text : MethodName := ⟨RX5, "text", "()I"⟩
abbrev cX5_hold : ByteArray := prog_7_method_88_code
def yX5_hold : MethodName := ⟨RX5, "hold", "(II)I"⟩
abbrev cX5_isUnder : ByteArray := prog_7_method_89_code
def yX5_isUnder : MethodName := ⟨RX5, "isUnder", "(II)Z"⟩
abbrev cX5_as : ByteArray := prog_7_method_90_code
def yX5_as : MethodName := ⟨RX5, "as", "(II)I"⟩
abbrev cX5_isSheet : ByteArray := prog_7_method_91_code
def yX5_isSheet : MethodName := ⟨RX5, "isSheet", "(I)Z"⟩
abbrev cX5_sheet : ByteArray := prog_7_method_92_code
def yX5_sheet : MethodName := ⟨RX5, "sheet", "(III)I"⟩
abbrev cX5_write : ByteArray := prog_7_method_93_code
def yX5_write : MethodName := ⟨RX5, "write", "(III)I"⟩
abbrev cX5_copy : ByteArray := prog_7_method_94_code
def yX5_copy : MethodName := ⟨RX5, "copy", "(IIIII)I"⟩
abbrev cX5_wants : ByteArray := prog_7_method_95_code
def yX5_wants : MethodName := ⟨RX5, "wants", "(I)I"⟩
abbrev cX5_load : ByteArray := prog_7_method_96_code
def yX5_load : MethodName := ⟨RX5, "load", "(I)I"⟩
abbrev cX5_judge : ByteArray := prog_7_method_97_code
def yX5_judge : MethodName := ⟨RX5, "judge", "(I)I"⟩
abbrev cX5_image : ByteArray := prog_7_method_98_code
def yX5_image : MethodName := ⟨RX5, "image", "()I"⟩
abbrev cX5_undo : ByteArray := prog_7_method_99_code
def yX5_undo : MethodName := ⟨RX5, "undo", "()I"⟩
abbrev cX5_tear : ByteArray := prog_7_method_100_code
def yX5_tear : MethodName := ⟨RX5, "tear", "()I"⟩
abbrev cX5_count : ByteArray := prog_7_method_101_code
def yX5_count : MethodName := ⟨RX5, "count", "(I)I"⟩
abbrev cX5_status : ByteArray := prog_7_method_102_code
def yX5_status : MethodName := ⟨RX5, "status", "(I)I"⟩
def RJ6 : String := "java/lang/Integer"
abbrev cJ6_bitCount_0f7a4 : ByteArray := prog_8_method_49_code
def yJ6_bitCount_0f7a4 : MethodName := ⟨RJ6, "bitCount", "(I)I"⟩
def RJ9 : String := "java/lang/Math"
abbrev cJ9_max_7cf53 : ByteArray := prog_9_method_65_code
def yJ9_max_7cf53 : MethodName := ⟨RJ9, "max", "(II)I"⟩
abbrev cJ9_min_7cf53 : ByteArray := prog_9_method_69_code
def yJ9_min_7cf53 : MethodName := ⟨RJ9, "min", "(II)I"⟩
def RJ0 : String := "java/lang/String"
abbrev cJ0_length_8abf5 : ByteArray := prog_10_method_54_code
def yJ0_length_8abf5 : MethodName := ⟨RJ0, "length", "()I"⟩
abbrev cJ0_charAt_5068e : ByteArray := prog_10_method_56_code
def yJ0_charAt_5068e : MethodName := ⟨RJ0, "charAt", "(I)C"⟩
abbrev cJ0_coder_7d493 : ByteArray := prog_10_method_152_code
def yJ0_coder_7d493 : MethodName := ⟨RJ0, "coder", "()B"⟩
abbrev cJ0_isLatin1_aae02 : ByteArray := prog_10_method_154_code
def yJ0_isLatin1_aae02 : MethodName := ⟨RJ0, "isLatin1", "()Z"⟩
abbrev cJ0_checkIndex_df160 : ByteArray := prog_10_method_155_code
def yJ0_checkIndex_df160 : MethodName := ⟨RJ0, "checkIndex", "(II)V"⟩
def RJ1 : String := "java/lang/StringLatin1"
abbrev cJ1_charAt_3b067 : ByteArray := prog_11_method_2_code
def yJ1_charAt_3b067 : MethodName := ⟨RJ1, "charAt", "([BI)C"⟩
def RJ2 : String := "java/lang/StringUTF16"
abbrev cJ2_getChar_3b067 : ByteArray := prog_12_method_5_code
def yJ2_getChar_3b067 : MethodName := ⟨RJ2, "getChar", "([BI)C"⟩
abbrev cJ2_length_9d52b : ByteArray := prog_12_method_6_code
def yJ2_length_9d52b : MethodName := ⟨RJ2, "length", "([B)I"⟩
abbrev cJ2_charAt_3b067 : ByteArray := prog_12_method_83_code
def yJ2_charAt_3b067 : MethodName := ⟨RJ2, "charAt", "([BI)C"⟩
abbrev cJ2_checkIndex_2214a : ByteArray := prog_12_method_91_code
def yJ2_checkIndex_2214a : MethodName := ⟨RJ2, "checkIndex", "(I[B)V"⟩
def RJ10 : String := "java/lang/System"
def RJ3 : String := "jdk/internal/util/Preconditions"
abbrev cJ3_checkIndex_8e157 : ByteArray := prog_14_method_11_code
def yJ3_checkIndex_8e157 : MethodName := ⟨RJ3, "checkIndex", "(IILjava/util/function/BiFunction;)I"⟩
def RL : String := "GoatShelvesLaw"
def yL_law : MethodName := ⟨RL, "law", "([I)Z"⟩
abbrev vwCl : List vw_C := [(RX0, TX0, 14), (RX1, TX1, 6), (RX2, TX2, 3), (RX3, TX3, 2), (RX4, TX4, 8), (RX5, TX5, 16)]
/-- the words that every method is given: those of the tables that stay as the machine runs -/
def TB : List Cond := lw_tbl.filter goodWord
theorem tb_mem {w : Cond} (i : Nat) (h : lw_tbl[i]? = some w) (hg : goodWord w = true) : w ∈ TB := List.mem_filter.mpr ⟨List.mem_of_getElem? h, hg⟩
theorem tb_lw {w : Cond} (h : w ∈ TB) : w ∈ lw_tbl := (List.mem_filter.mp h).1
theorem tb_gd {w : Cond} (h : w ∈ TB) : goodWord w = true := (List.mem_filter.mp h).2
theorem tb_all (ws : List Cond) (ps : List Nat) (hp : ws = ps.filterMap (fun i => lw_tbl[i]?)) (h : ws.all goodWord = true) : ∀ w ∈ ws, w ∈ TB := by
  intro w hw
  have h1 := List.all_eq_true.mp h w hw
  rw [hp] at hw
  obtain ⟨i, -, hi⟩ := List.mem_filterMap.mp hw
  exact tb_mem i hi h1
theorem tb_goodIn {y : MethodName} {cc : ByteArray} {n : Nat} {ret : Option FieldType} (h : Cond.code y cc n ret ∈ TB) : GoodIn TB (Cond.code y cc n ret :: TB) := by
  intro w hw
  rcases List.mem_cons.mp hw with rfl | hw
  · exact ⟨h, good_of_word (tb_gd h)⟩
  · exact ⟨hw, good_of_word (tb_gd hw)⟩
theorem inX0 : ∀ w ∈ u_ws RX0 TX0 14, w ∈ TB := tb_all _ [124, 126, 128, 130, 132, 134, 136, 138, 140, 142, 144, 146, 148, 150] (by decide +kernel) (by decide +kernel)
theorem inX1 : ∀ w ∈ u_ws RX1 TX1 6, w ∈ TB := tb_all _ [181, 183, 185, 187, 189, 191] (by decide +kernel) (by decide +kernel)
theorem inX2 : ∀ w ∈ u_ws RX2 TX2 3, w ∈ TB := tb_all _ [207, 209, 211] (by decide +kernel) (by decide +kernel)
theorem inX3 : ∀ w ∈ u_ws RX3 TX3 2, w ∈ TB := tb_all _ [164, 166] (by decide +kernel) (by decide +kernel)
theorem inX4 : ∀ w ∈ u_ws RX4 TX4 8, w ∈ TB := tb_all _ [222, 224, 226, 228, 230, 232, 234, 236] (by decide +kernel) (by decide +kernel)
theorem inX5 : ∀ w ∈ u_ws RX5 TX5 16, w ∈ TB := tb_all _ [802, 804, 806, 808, 810, 812, 814, 816, 818, 820, 822, 824, 826, 828, 830, 832] (by decide +kernel) (by decide +kernel)
end
section
/-! The whole heap of class and reference as ONE fixed layout: place k of 'lay' is an array of numbers or an object; all references in it are fixed; what changes is S : place -> index -> number. PW: 'the walk from here comes to an end with this outcome', over any machine that fits. -/
abbrev St : Type := Nat → Nat → Int32
def upR (S : St) (q : Nat) (r : Nat → Int32) : St := fun a => if a = q then r else S a
def up2 (S : St) (q i : Nat) (x : Int32) : St := upR S q (upd (S q) i x)
/-- an array of n numbers; an object: class, fields (a fixed place, or a number); the array of sheets -/
abbrev Sh : Type := Nat ⊕ ((Nat × List (Option Nat)) ⊕ (Nat → Nat))
def cliffSh (b : Nat) : Sh := .inr (.inl (0, [some (b + 1), some (b + 2), some (b + 3), some (b + 4), some (b + 5), some (b + 6), some (b + 7), some (b + 8), none, none, none, none, none, none]))
def cliffAt (b : Nat) : List Sh := [cliffSh b, .inl 12, .inl 8, .inl 8, .inl 8, .inl 8, .inl 8, .inl 8, .inl 10]
def sheetAt (b : Nat) : List Sh := [.inr (.inl (2, [some (b + 1), none, none])), .inl 40]
/-- 0 GoatShelves; 1, 10, 19 its cliffs; 28 tape, 29 its bytes; 30 reader; 31 the array of sheets; 32 .. 39 sheets; 40 findings; 41 GoatShelvesModel; 42 .. 50 its rows -/
def lay : List Sh := [.inr (.inl (4, [some 1, some 10, some 19, none, some 28, some 30, some 31, some 40]))] ++ (cliffAt 1 ++ (cliffAt 10 ++ (cliffAt 19 ++ ([.inr (.inl (3, [some 29, none])), .inl 120, .inr (.inl (1, [some 28, some 10, none, none, none, none])), .inr (.inr (fun j => 32 + 2 * j))] ++ (sheetAt 32 ++ (sheetAt 34 ++ (sheetAt 36 ++ (sheetAt 38 ++ [.inl 7, .inr (.inl (5, [some 42, some 43, some 44, some 45, none, some 46, some 47, none, some 48, some 49, some 50, none, none, none, none, none])), .inl 75, .inl 75, .inl 75, .inl 75, .inl 8, .inl 120, .inl 4, .inl 4, .inl 160])))))))) 
def fV (ad : Nat → Nat) (f : Nat → Int32) : List (Option Nat) → Nat → List Value
  | [], _ => []
  | none :: r, k => .int (f k) :: fV ad f r (k + 1)
  | some q :: r, k => .ref (ad q) :: fV ad f r (k + 1)
def cE (cT : Nat → ClassId) (ad : Nat → Nat) (f : Nat → Int32) : Sh → va_E
  | .inl n => .inl (cT 0, n, .inl f)
  | .inr (.inl x) => .inr (x.1, fV ad f x.2 0)
  | .inr (.inr g) => .inl (cT 1, 4, .inr (.inr (.inr (.inr (fun j => some (ad (g j)))))))
def wlF (cT : Nat → ClassId) (ad : Nat → Nat) (S : St) : List Sh → Nat → va_W
  | [], _ => []
  | sh :: r, k => (ad k, cE cT ad (S k) sh) :: wlF cT ad S r (k + 1)
def wl (cT : Nat → ClassId) (ad : Nat → Nat) (S : St) : va_W := wlF cT ad S lay 0
theorem wlF_get {cT : Nat → ClassId} {ad : Nat → Nat} {S : St} : ∀ {l : List Sh} {k q : Nat} {sh : Sh}, l[q]? = some sh → (wlF cT ad S l k)[q]? = some (ad (k + q), cE cT ad (S (k + q)) sh)
  | [], k, q, sh, h => by simp at h
  | s0 :: r, k, 0, sh, h => by
    rw [List.getElem?_cons_zero] at h
    cases h
    rfl
  | s0 :: r, k, q + 1, sh, h => by
    rw [List.getElem?_cons_succ] at h
    have := wlF_get (cT := cT) (ad := ad) (S := S) (k := k + 1) h
    rw [show k + 1 + q = k + (q + 1) by omega] at this
    exact this
theorem wl_get {cT : Nat → ClassId} {ad : Nat → Nat} {S : St} {q : Nat} {sh : Sh} (h : lay[q]? = some sh) : (wl cT ad S)[q]? = some (ad q, cE cT ad (S q) sh) := by
  have := wlF_get (cT := cT) (ad := ad) (S := S) (k := 0) h
  rw [Nat.zero_add] at this
  exact this
theorem wlF_same {cT : Nat → ClassId} {ad : Nat → Nat} {S S' : St} : ∀ {l : List Sh} {k : Nat}, (∀ j, j < l.length → S' (k + j) = S (k + j)) → wlF cT ad S' l k = wlF cT ad S l k
  | [], k, _ => rfl
  | s0 :: r, k, h => by
    have h0 := h 0 (by simp)
    rw [Nat.add_zero] at h0
    simp only [wlF]
    rw [h0, wlF_same (S := S) (S' := S') (l := r) (k := k + 1) (fun j hj => by rw [show k + 1 + j = k + (j + 1) by omega]; exact h (j + 1) (by simp only [List.length_cons]; omega))]
theorem wlF_set {cT : Nat → ClassId} {ad : Nat → Nat} {S : St} {f : Nat → Int32} : ∀ {l : List Sh} {k q : Nat} {sh : Sh}, l[q]? = some sh → (wlF cT ad S l k).set q (ad (k + q), cE cT ad f sh) = wlF cT ad (upR S (k + q) f) l k
  | [], k, q, sh, h => by simp at h
  | s0 :: r, k, 0, sh, h => by
    rw [List.getElem?_cons_zero] at h
    cases h
    simp only [wlF, List.set_cons_zero, Nat.add_zero]
    rw [show upR S k f k = f by simp [upR], wlF_same (S' := upR S k f) (S := S) (fun j hj => by show (if k + 1 + j = k then f else S (k + 1 + j)) = _; rw [if_neg (by omega)])]
  | s0 :: r, k, q + 1, sh, h => by
    rw [List.getElem?_cons_succ] at h
    have := wlF_set (cT := cT) (ad := ad) (S := S) (f := f) (k := k + 1) h
    rw [show k + 1 + q = k + (q + 1) by omega] at this
    simp only [wlF, List.set_cons_succ]
    rw [this, show upR S (k + (q + 1)) f k = S k by show (if k = k + (q + 1) then f else S k) = _; rw [if_neg (by omega)]]
theorem wl_set {cT : Nat → ClassId} {ad : Nat → Nat} {S : St} {f : Nat → Int32} {q : Nat} {sh : Sh} (h : lay[q]? = some sh) : (wl cT ad S).set q (ad q, cE cT ad f sh) = wl cT ad (upR S q f) := by
  have := wlF_set (cT := cT) (ad := ad) (S := S) (f := f) (k := 0) h
  rw [Nat.zero_add] at this
  exact this
theorem wlF_addr {cT : Nat → ClassId} {ad : Nat → Nat} {S S' : St} : ∀ {l : List Sh} {k i : Nat} {q : Nat × va_E}, (wlF cT ad S l k)[i]? = some q → ∃ e, (wlF cT ad S' l k)[i]? = some (q.1, e)
  | [], k, i, q, h => by simp [wlF] at h
  | s0 :: r, k, 0, q, h => by
    simp only [wlF, List.getElem?_cons_zero] at h
    cases h
    exact ⟨_, rfl⟩
  | s0 :: r, k, i + 1, q, h => by
    simp only [wlF, List.getElem?_cons_succ] at h
    exact wlF_addr (k := k + 1) h
theorem wl_addr {cT : Nat → ClassId} {ad : Nat → Nat} {S : St} (S' : St) {i : Nat} {q : Nat × va_E} (h : (wl cT ad S)[i]? = some q) : ∃ e, (wl cT ad S')[i]? = some (q.1, e) := wlF_addr h
theorem wl_D {cT : Nat → ClassId} {ad : Nat → Nat} {S : St} (S' : St) {A : Nat → Prop} (h : va_D A (wl cT ad S)) : va_D A (wl cT ad S') := by
  refine ⟨fun i j p q hi hj e => ?_, fun k q hk => ?_⟩
  · obtain ⟨e1, h1⟩ := wl_addr S hi
    obtain ⟨e2, h2⟩ := wl_addr S hj
    exact h.1 i j _ _ h1 h2 e
  · obtain ⟨e1, h1⟩ := wl_addr S hk
    exact h.2 k (q.1, e1) h1
theorem wl_A {cT : Nat → ClassId} {ad : Nat → Nat} {S : St} (S' : St) {n m q : Nat} (hm : n ≤ m) (h : va_A (wl cT ad S) m q) : va_A (wl cT ad S') n q := by
  rcases h with ⟨k, e, h⟩ | h
  · obtain ⟨e', h'⟩ := wl_addr S' h
    exact Or.inl ⟨k, e', h'⟩
  · exact Or.inr (by omega)
theorem fV_get {ad : Nat → Nat} {f : Nat → Int32} : ∀ {l : List (Option Nat)} {k j : Nat} {x : Option Nat}, l[j]? = some x → (fV ad f l k)[j]? = some (match x with | none => .int (f (k + j)) | some q => .ref (ad q))
  | [], k, j, x, h => by simp at h
  | none :: r, k, 0, x, h => by rw [List.getElem?_cons_zero] at h; cases h; rfl
  | some q :: r, k, 0, x, h => by rw [List.getElem?_cons_zero] at h; cases h; rfl
  | none :: r, k, j + 1, x, h => by
    rw [List.getElem?_cons_succ] at h
    have := fV_get (ad := ad) (f := f) (k := k + 1) h
    rw [show k + 1 + j = k + (j + 1) by omega] at this
    exact this
  | some q :: r, k, j + 1, x, h => by
    rw [List.getElem?_cons_succ] at h
    have := fV_get (ad := ad) (f := f) (k := k + 1) h
    rw [show k + 1 + j = k + (j + 1) by omega] at this
    exact this
theorem fV_same {ad : Nat → Nat} {f g : Nat → Int32} : ∀ {l : List (Option Nat)} {k : Nat}, (∀ j, k ≤ j → g j = f j) → fV ad g l k = fV ad f l k
  | [], k, _ => rfl
  | none :: r, k, h => by simp only [fV]; rw [h k (Nat.le_refl k), fV_same (fun j hj => h j (by omega))]
  | some q :: r, k, h => by simp only [fV]; rw [fV_same (fun j hj => h j (by omega))]
theorem fV_set {ad : Nat → Nat} {f : Nat → Int32} {v : Int32} : ∀ {l : List (Option Nat)} {k j : Nat}, l[j]? = some none → (fV ad f l k).set j (.int v) = fV ad (upd f (k + j) v) l k
  | [], k, j, h => by simp at h
  | none :: r, k, 0, h => by
    simp only [fV, List.set_cons_zero, Nat.add_zero]
    rw [show upd f k v k = v by simp [upd], fV_same (g := upd f k v) (f := f) (fun j hj => by show (if j = k then v else f j) = _; rw [if_neg (by omega)])]
  | some q :: r, k, 0, h => by simp at h
  | none :: r, k, j + 1, h => by
    rw [List.getElem?_cons_succ] at h
    have := fV_set (ad := ad) (f := f) (v := v) (k := k + 1) h
    rw [show k + 1 + j = k + (j + 1) by omega] at this
    simp only [fV, List.set_cons_succ]
    rw [this, show upd f (k + (j + 1)) v k = f k by show (if k = k + (j + 1) then v else f k) = _; rw [if_neg (by omega)]]
  | some q :: r, k, j + 1, h => by
    rw [List.getElem?_cons_succ] at h
    have := fV_set (ad := ad) (f := f) (v := v) (k := k + 1) h
    rw [show k + 1 + j = k + (j + 1) by omega] at this
    simp only [fV, List.set_cons_succ]
    rw [this]
theorem fV_len {ad : Nat → Nat} {f : Nat → Int32} : ∀ {l : List (Option Nat)} {k : Nat}, (fV ad f l k).length = l.length
  | [], _ => rfl
  | none :: r, k => by simp only [fV, List.length_cons]; rw [fV_len]
  | some q :: r, k => by simp only [fV, List.length_cons]; rw [fV_len]
/-- values by places: a reference is a place of the layout; 100 .. the literals, 200 .. their bytes, 300 what checkIndex is handed -/
def cv (ad : Nat → Nat) : Value → Value
  | .ref a => .ref (ad a)
  | v => v
theorem cv_cat (ad : Nat → Nat) (v : Value) : (cv ad v).category = v.category := by cases v <;> rfl
/-- the locals that are known -/
def LR (ad : Nat → Nat) (ls : Array Slot) (nL : Nat) (L : List (Option Value)) : Prop := ls.size = nL ∧ lv_wf ls ∧ ∀ (i : Nat) (v : Value), L[i]? = some (some v) → ls[i]? = some (.val (cv ad v))
def asc (ad : Nat → Nat) (L : List (Option Value)) : List (Nat × Value) := (List.range L.length).filterMap (fun i => match L[i]? with | some (some v) => some (i, cv ad v) | _ => none)
theorem asc_mem {ad : Nat → Nat} {L : List (Option Value)} {q : Nat × Value} : q ∈ asc ad L ↔ ∃ v, L[q.1]? = some (some v) ∧ q.2 = cv ad v := by
  obtain ⟨i, w⟩ := q
  constructor
  · intro h
    obtain ⟨j, -, hj⟩ := List.mem_filterMap.mp h
    split at hj
    · rename_i v hv
      cases hj
      exact ⟨v, hv, rfl⟩
    · cases hj
  · rintro ⟨v, hv, hw⟩
    refine List.mem_filterMap.mpr ⟨i, List.mem_range.mpr (List.getElem?_eq_some_iff.mp hv).1, ?_⟩
    dsimp only at hv hw
    rw [hv, hw]
theorem LR.has {ad : Nat → Nat} {ls : Array Slot} {nL : Nat} {L : List (Option Value)} (h : LR ad ls nL L) : lv_has ls nL (asc ad L) := by
  refine ⟨h.1, h.2.1, fun q hq => ?_⟩
  obtain ⟨v, h1, h2⟩ := asc_mem.mp hq
  rw [h2]
  exact h.2.2 _ _ h1
/-- does a long stand just below? -/
def lg2 (L : List (Option Value)) : Nat → Bool
  | 0 => false
  | i + 1 => match L[i]? with
    | some (some v) => v.category == 2
    | _ => false
theorem LR.set1 {ad : Nat → Nat} {ls' : Array Slot} {nL i : Nat} {L : List (Option Value)} {v : Value} (hg : lg2 L i = false)
    (h : lv_has ls' nL ((i, cv ad v) :: (asc ad L).filter (fun q => !(q.1 == i) && !(q.1 + 1 == i && q.2.category == 2)))) : LR ad ls' nL (L.set i (some v)) := by
  refine ⟨h.1, h.2.1, fun j w hj => ?_⟩
  by_cases hji : j = i
  · subst hji
    by_cases hl : j < L.length
    · rw [List.getElem?_set_self hl] at hj
      cases hj
      exact h.2.2 _ List.mem_cons_self
    · rw [List.getElem?_eq_none (by simp; omega)] at hj
      cases hj
  · rw [List.getElem?_set_ne (Ne.symm hji)] at hj
    refine h.2.2 (j, cv ad w) (List.mem_cons_of_mem _ (List.mem_filter.mpr ⟨asc_mem.mpr ⟨w, hj, rfl⟩, ?_⟩))
    have e1 : (j == i) = false := by simp [hji]
    have e2 : (j + 1 == i && (cv ad w).category == 2) = false := by
      by_cases hj1 : j + 1 = i
      · subst hj1
        simp only [lg2, hj] at hg
        rw [cv_cat]
        simp [hg]
      · simp [hj1]
    simp [e1, e2]
theorem LR.set2 {ad : Nat → Nat} {ls' : Array Slot} {nL i : Nat} {L : List (Option Value)} {v : Value} (hg : lg2 L i = false)
    (h : lv_has ls' nL ((i, cv ad v) :: (asc ad L).filter (fun q => !(q.1 == i) && (!(q.1 == i + 1) && !(q.1 + 1 == i && q.2.category == 2))))) : LR ad ls' nL ((L.set i (some v)).set (i + 1) none) := by
  refine ⟨h.1, h.2.1, fun j w hj => ?_⟩
  by_cases hj1 : j = i + 1
  · subst hj1
    by_cases hl : i + 1 < (L.set i (some v)).length
    · rw [List.getElem?_set_self hl] at hj
      cases hj
    · rw [List.getElem?_eq_none (by simp at hl; simp; omega)] at hj
      cases hj
  · rw [List.getElem?_set_ne (Ne.symm hj1)] at hj
    by_cases hji : j = i
    · subst hji
      by_cases hl : j < L.length
      · rw [List.getElem?_set_self hl] at hj
        cases hj
        exact h.2.2 _ List.mem_cons_self
      · rw [List.getElem?_eq_none (by simp; omega)] at hj
        cases hj
    · rw [List.getElem?_set_ne (Ne.symm hji)] at hj
      refine h.2.2 (j, cv ad w) (List.mem_cons_of_mem _ (List.mem_filter.mpr ⟨asc_mem.mpr ⟨w, hj, rfl⟩, ?_⟩))
      have e1 : (j == i) = false := by simp [hji]
      have e3 : (j == i + 1) = false := by simp [hj1]
      have e2 : (j + 1 == i && (cv ad w).category == 2) = false := by
        by_cases hj2 : j + 1 = i
        · subst hj2
          simp only [lg2, hj] at hg
          rw [cv_cat]
          simp [hg]
        · simp [hj2]
      simp [e1, e2, e3]
/-- fewer locals -/
def msk : List Bool → List (Option Value) → List (Option Value)
  | [], _ => []
  | _, [] => []
  | true :: r, x :: l => x :: msk r l
  | false :: r, _ :: l => none :: msk r l
theorem msk_get : ∀ {bs : List Bool} {L : List (Option Value)} {i : Nat} {v : Value}, (msk bs L)[i]? = some (some v) → L[i]? = some (some v)
  | [], L, i, v, h => by simp [msk] at h
  | b :: r, [], i, v, h => by simp [msk] at h
  | true :: r, x :: l, 0, v, h => by simpa [msk] using h
  | false :: r, x :: l, 0, v, h => by simp [msk] at h
  | true :: r, x :: l, i + 1, v, h => by
    simp only [msk, List.getElem?_cons_succ] at h ⊢
    exact msk_get h
  | false :: r, x :: l, i + 1, v, h => by
    simp only [msk, List.getElem?_cons_succ] at h ⊢
    exact msk_get h
theorem LR.fewer {ad : Nat → Nat} {ls : Array Slot} {nL : Nat} {L : List (Option Value)} (bs : List Bool) (h : LR ad ls nL L) : LR ad ls nL (msk bs L) := ⟨h.1, h.2.1, fun i v hi => h.2.2 i v (msk_get hi)⟩
end
section
/-! what lies in the heap beside the world: links between nest mates, the literals, two statics of the JDK's -/
def nestW : List Cond := [.methodLinkNest RX0 115 yX4_hasBit RX4, .methodLinkNest RX0 109 yX4_leastBit RX4]
def sTab : List (Nat × String × List Int32) := [(65, "goat", [103, 111, 97, 116]), (69, "nanny", [110, 97, 110, 110, 121]), (71, "billy", [98, 105, 108, 108, 121]), (73, "grey", [103, 114, 101, 121]), (75, "old", [111, 108, 100]), (77, "white", [119, 104, 105, 116, 101]), (79, "kid", [107, 105, 100]), (88, "on", [111, 110]), (94, "knows", [107, 110, 111, 119, 115]), (97, "fed", [102, 101, 100]), (46, "grass", [103, 114, 97, 115, 115]), (55, "grows", [103, 114, 111, 119, 115]), (60, "salt", [115, 97, 108, 116])]
def sIdx (i : Nat) : Nat := (sTab.getD i (0, "", [])).1
def sTxt (i : Nat) : String := (sTab.getD i (0, "", [])).2.1
def sLen : List Nat := sTab.map (fun q => q.2.2.length)
def sByt : List (List Int32) := sTab.map (fun q => q.2.2)
def OL (ad : Nat → Nat) (A : Nat → Prop) (U : State) (H : Heap) : Prop :=
  (∀ w ∈ nestW, va_Nw w U) ∧ vk_S 13 sLen sByt (fun i => ad (100 + i)) (fun i => ad (200 + i)) A U H ∧ va_Z RJ0 "COMPACT_STRINGS" "Z" (.int 1) A U H ∧ (va_Z RJ3 "SIOOBE_FORMATTER" "Ljava/util/function/BiFunction;" .null A U H ∨ va_Z RJ3 "SIOOBE_FORMATTER" "Ljava/util/function/BiFunction;" (.ref (ad 300)) A U H) ∧ ∀ i : Nat, i < 13 → vk_R RX1 (sIdx i) (sTxt i) (ad (100 + i)) U
theorem OL.kept {ad : Nat → Nat} {A : Nat → Prop} {U : State} {H H1 : Heap} (h : OL ad A U H) (hq : ∀ a : Nat, a < H.size → ¬ A a → H1[a]? = H[a]?) : OL ad A U H1 :=
  ⟨h.1, vk_S.kept h.2.1 hq, va_Z.kept h.2.2.1 hq, h.2.2.2.1.imp (fun z => va_Z.kept z hq) (fun z => va_Z.kept z hq), h.2.2.2.2⟩
theorem OL.narrow {ad : Nat → Nat} {A B : Nat → Prop} {U : State} {H : Heap} (h : OL ad A U H) (hAB : ∀ q, B q → A q) : OL ad B U H :=
  ⟨h.1, vk_S.narrow h.2.1 hAB, va_Z.narrow h.2.2.1 hAB, h.2.2.2.1.imp (fun z => va_Z.narrow z hAB) (fun z => va_Z.narrow z hAB), h.2.2.2.2⟩
theorem OL.warm {ad : Nat → Nat} {A : Nat → Prop} {s U : State} {H : Heap} (hW : s.WarmedH U.vm) (h : OL ad A s H) : OL ad A U H := by
  refine ⟨fun w hw => ?_, vk_S.moved hW.alike h.2.1, va_Z.moved hW.alike h.2.2.1, h.2.2.2.1.imp (fun z => va_Z.moved hW.alike z) (fun z => va_Z.moved hW.alike z), fun i hi => vk_R.warm hW (h.2.2.2.2 i hi)⟩
  have h1 := h.1 w hw
  simp only [nestW, List.mem_cons, List.not_mem_nil, or_false] at hw
  rcases hw with rfl | rfl
  · exact va_Nw.warmM hW h1
  · exact va_Nw.warmM hW h1
theorem OL.blind {ad : Nat → Nat} {A : Nat → Prop} {U : State} {H : Heap} (g : JFrame) (mk : MethodId) (a : Array Value) (h : OL ad A U H) : OL ad A (U.calling g mk a) H := by
  refine ⟨fun w hw => ?_, vk_S.moved (u := U) (U := U.calling g mk a) (Vm.Alike.refl U.vm) h.2.1, va_Z.moved (u := U) (U := U.calling g mk a) (Vm.Alike.refl U.vm) h.2.2.1, h.2.2.2.1.imp (fun z => va_Z.moved (u := U) (U := U.calling g mk a) (Vm.Alike.refl U.vm) z) (fun z => va_Z.moved (u := U) (U := U.calling g mk a) (Vm.Alike.refl U.vm) z), fun i hi => vk_R.same (u := U) (U := U.calling g mk a) rfl (h.2.2.2.2 i hi)⟩
  have h1 := h.1 w hw
  simp only [nestW, List.mem_cons, List.not_mem_nil, or_false] at hw
  rcases hw with rfl | rfl
  · exact va_Nw.same rfl (u := U) (U := U.calling g mk a) rfl h1
  · exact va_Nw.same rfl (u := U) (U := U.calling g mk a) rfl h1
/-! the walk's picture -/
/-- a method: its decoded rows, its class, the depth of its calls, its locals, its answer's type -/
abbrev Mi : Type := List (Nat × Instr × Nat) × String × Nat × Nat × Option FieldType
def rmd (d : Nat) : Room := { frames := d, cells := 0, slots := 0, locals := 32 * d }
def tyl (cT : Nat → ClassId) : List (ClassId × FieldType) := [(cT 0, .int), (cT 1, .object RX2)]
abbrev Out : Type := Option Value × St
def QO (D : va_G) (cT : Nat → ClassId) (ad : Nat → Nat) (A : Nat → Prop) (out : Out) : Array Value → State → Outcome → State → Prop := fun _ st oc t => oc = .returned (out.1.map (cv ad)) ∧ va_P D vwCl (wl cT ad out.2) t.heap ∧ va_F A st t
def CX (M : Mi) (p : Program) (e : Env) (s : State) (m : MethodId) (args : Array Value) (meth : Method) (c : Code) (D : va_G) (cT : Nat → ClassId) (ad : Nat → Nat) (A : Nat → Prop) : Prop :=
  p.tables.exec = Jvm.exec ∧ (∀ q ∈ M.1, decode c.code q.1 = .ok q.2) ∧ meth.sig.returnType = M.2.2.2.2 ∧ c.maxLocals = M.2.2.2.1 ∧ s.vm.findClass M.2.1 = some m.cls ∧ (∀ w ∈ TB, w.before args s = true) ∧ meth.locks = false ∧ va_K D vwCl (tyl cT) s ∧ (∀ S : St, va_D A (wl cT ad S)) ∧ (∀ q, s.heap.size ≤ q → A q) ∧ OL ad A s s.heap
def PW (M : Mi) (out : Out) (pc : Nat) (L : List (Option Value)) (st : List Value) (S : St) : Prop :=
  ∀ (p : Program) (l : Launch) (e : Env) (s : State) (m : MethodId) (args : Array Value) (below : List Frame) (meth : Method) (c : Code) (D : va_G) (cT : Nat → ClassId) (ad : Nat → Nat) (A : Nat → Prop), CX M p e s m args meth c D cT ad A →
  ∀ (H : Heap) (locs : List Loc) (ls : Array Slot), LR ad ls M.2.2.2.1 L → va_P D vwCl (wl cT ad S) H → va_S A s.heap H locs →
  W p l e (rmd M.2.2.1) s m args below meth c H locs 0 0 (MQ below (QO D cT ad A out) args s 0 0 A) (F0 m pc ls (st.map (cv ad)))
end
section
theorem CX.dec {M : Mi} {p : Program} {e : Env} {s : State} {m : MethodId} {args : Array Value} {meth : Method} {c : Code} {D : va_G} {cT : Nat → ClassId} {ad : Nat → Nat} {A : Nat → Prop} (C : CX M p e s m args meth c D cT ad A) {k pc len : Nat} {i : Instr} (h : M.1[k]? = some (pc, i, len)) : decode c.code pc = .ok (i, len) := by
  have h1 := C.2.1 _ (List.mem_of_getElem? h)
  exact h1
section ROWS
variable {M : Mi} {out : Out} {pc k : Nat} {L : List (Option Value)} {st : List Value} {S : St}
theorem p_iconst {n : Int} (v : Int32) (h : M.1[k]? = some (pc, .iconst n, 1)) (hv : Int32.ofInt n = v) (nx : PW M out (pc + 1) L (.int v :: st) S) : PW M out pc L st S := by
  intro p l e s m args below meth c D cT ad A C H locs ls hL hP hS
  obtain ⟨hx, hT, hr, hml, hown, hts, hlk, hK, hD, hA, hO⟩ := id C
  exact lv_iconst hx rfl (CX.dec C h) hv (nx p l e s m args below meth c D cT ad A C H locs ls hL hP hS)
theorem p_bipush {n : Int} (v : Int32) (h : M.1[k]? = some (pc, .bipush n, 2)) (hv : (Int8.ofInt n).toInt32 = v) (nx : PW M out (pc + 2) L (.int v :: st) S) : PW M out pc L st S := by
  intro p l e s m args below meth c D cT ad A C H locs ls hL hP hS
  obtain ⟨hx, hT, hr, hml, hown, hts, hlk, hK, hD, hA, hO⟩ := id C
  exact lv_bipush hx rfl (CX.dec C h) hv (nx p l e s m args below meth c D cT ad A C H locs ls hL hP hS)
theorem p_sipush {n : Int} (v : Int32) (h : M.1[k]? = some (pc, .sipush n, 3)) (hv : (Int16.ofInt n).toInt32 = v) (nx : PW M out (pc + 3) L (.int v :: st) S) : PW M out pc L st S := by
  intro p l e s m args below meth c D cT ad A C H locs ls hL hP hS
  obtain ⟨hx, hT, hr, hml, hown, hts, hlk, hK, hD, hA, hO⟩ := id C
  exact lv_sipush hx rfl (CX.dec C h) hv (nx p l e s m args below meth c D cT ad A C H locs ls hL hP hS)
theorem p_lconst {n : Fin 2} (v : Int64) (h : M.1[k]? = some (pc, .lconst n, 1)) (hv : Int64.ofNat (n : Nat) = v) (nx : PW M out (pc + 1) L (.long v :: st) S) : PW M out pc L st S := by
  intro p l e s m args below meth c D cT ad A C H locs ls hL hP hS
  obtain ⟨hx, hT, hr, hml, hown, hts, hlk, hK, hD, hA, hO⟩ := id C
  exact lv_lconst hx rfl (CX.dec C h) hv (nx p l e s m args below meth c D cT ad A C H locs ls hL hP hS)
theorem p_ldc {i : Nat} {v : Int32} (h : M.1[k]? = some (pc, .ldc i, 2)) (hc : Cond.constant M.2.1 i v ∈ TB) (nx : PW M out (pc + 2) L (.int v :: st) S) : PW M out pc L st S := by
  intro p l e s m args below meth c D cT ad A C H locs ls hL hP hS
  obtain ⟨hx, hT, hr, hml, hown, hts, hlk, hK, hD, hA, hO⟩ := id C
  exact lv_ldc hx rfl hown (hts _ hc) (CX.dec C h) (nx p l e s m args below meth c D cT ad A C H locs ls hL hP hS)
theorem p_ldcw {i : Nat} {v : Int32} (h : M.1[k]? = some (pc, .ldc_w i, 3)) (hc : Cond.constant M.2.1 i v ∈ TB) (nx : PW M out (pc + 3) L (.int v :: st) S) : PW M out pc L st S := by
  intro p l e s m args below meth c D cT ad A C H locs ls hL hP hS
  obtain ⟨hx, hT, hr, hml, hown, hts, hlk, hK, hD, hA, hO⟩ := id C
  exact lv_ldcw hx rfl hown (hts _ hc) (CX.dec C h) (nx p l e s m args below meth c D cT ad A C H locs ls hL hP hS)
theorem p_ldc2 {i : Nat} {v : Int64} (h : M.1[k]? = some (pc, .ldc2_w i, 3)) (hc : Cond.constantLong M.2.1 i v ∈ TB) (nx : PW M out (pc + 3) L (.long v :: st) S) : PW M out pc L st S := by
  intro p l e s m args below meth c D cT ad A C H locs ls hL hP hS
  obtain ⟨hx, hT, hr, hml, hown, hts, hlk, hK, hD, hA, hO⟩ := id C
  exact lv_ldc2 hx rfl hown (hts _ hc) (CX.dec C h) (nx p l e s m args below meth c D cT ad A C H locs ls hL hP hS)
theorem p_iload_n {n : Fin 4} {i : Nat} {x : Int32} (h : M.1[k]? = some (pc, .iload_n n, 1)) (hi : (n : Nat) = i) (hl : L[i]? = some (some (.int x))) (nx : PW M out (pc + 1) L (.int x :: st) S) : PW M out pc L st S := by
  intro p l e s m args below meth c D cT ad A C H locs ls hL hP hS
  obtain ⟨hx, hT, hr, hml, hown, hts, hlk, hK, hD, hA, hO⟩ := id C
  exact lv_iload_n hx rfl (CX.dec C h) hi (hL.2.2 _ _ hl) (nx p l e s m args below meth c D cT ad A C H locs ls hL hP hS)
theorem p_iload {i : Nat} {x : Int32} (h : M.1[k]? = some (pc, .iload i, 2)) (hl : L[i]? = some (some (.int x))) (nx : PW M out (pc + 2) L (.int x :: st) S) : PW M out pc L st S := by
  intro p l e s m args below meth c D cT ad A C H locs ls hL hP hS
  obtain ⟨hx, hT, hr, hml, hown, hts, hlk, hK, hD, hA, hO⟩ := id C
  exact lv_iload hx rfl (CX.dec C h) (hL.2.2 _ _ hl) (nx p l e s m args below meth c D cT ad A C H locs ls hL hP hS)
theorem p_lload_n {n : Fin 4} {i : Nat} {x : Int64} (h : M.1[k]? = some (pc, .lload_n n, 1)) (hi : (n : Nat) = i) (hl : L[i]? = some (some (.long x))) (nx : PW M out (pc + 1) L (.long x :: st) S) : PW M out pc L st S := by
  intro p l e s m args below meth c D cT ad A C H locs ls hL hP hS
  obtain ⟨hx, hT, hr, hml, hown, hts, hlk, hK, hD, hA, hO⟩ := id C
  exact lv_lload_n hx rfl (CX.dec C h) hi (hL.2.2 _ _ hl) (nx p l e s m args below meth c D cT ad A C H locs ls hL hP hS)
theorem p_lload {i : Nat} {x : Int64} (h : M.1[k]? = some (pc, .lload i, 2)) (hl : L[i]? = some (some (.long x))) (nx : PW M out (pc + 2) L (.long x :: st) S) : PW M out pc L st S := by
  intro p l e s m args below meth c D cT ad A C H locs ls hL hP hS
  obtain ⟨hx, hT, hr, hml, hown, hts, hlk, hK, hD, hA, hO⟩ := id C
  exact lv_lload hx rfl (CX.dec C h) (hL.2.2 _ _ hl) (nx p l e s m args below meth c D cT ad A C H locs ls hL hP hS)
theorem p_aload_n {n : Fin 4} {i : Nat} {x : Nat} (h : M.1[k]? = some (pc, .aload_n n, 1)) (hi : (n : Nat) = i) (hl : L[i]? = some (some (.ref x))) (nx : PW M out (pc + 1) L (.ref x :: st) S) : PW M out pc L st S := by
  intro p l e s m args below meth c D cT ad A C H locs ls hL hP hS
  obtain ⟨hx, hT, hr, hml, hown, hts, hlk, hK, hD, hA, hO⟩ := id C
  exact lv_aload_n hx rfl (CX.dec C h) hi (hL.2.2 _ _ hl) (nx p l e s m args below meth c D cT ad A C H locs ls hL hP hS)
theorem p_aload {i : Nat} {x : Nat} (h : M.1[k]? = some (pc, .aload i, 2)) (hl : L[i]? = some (some (.ref x))) (nx : PW M out (pc + 2) L (.ref x :: st) S) : PW M out pc L st S := by
  intro p l e s m args below meth c D cT ad A C H locs ls hL hP hS
  obtain ⟨hx, hT, hr, hml, hown, hts, hlk, hK, hD, hA, hO⟩ := id C
  exact lv_aload hx rfl (CX.dec C h) (hL.2.2 _ _ hl) (nx p l e s m args below meth c D cT ad A C H locs ls hL hP hS)
theorem p_istore_n {n : Fin 4} (i : Nat) {x : Int32} (L' : List (Option Value)) (h : M.1[k]? = some (pc, .istore_n n, 1)) (hi : (n : Nat) = i) (hg : lg2 L i = false) (hn : i < M.2.2.2.1) (hset : L.set i (some (.int x)) = L') (nx : PW M out (pc + 1) L' st S) : PW M out pc L (.int x :: st) S := by
  intro p l e s m args below meth c D cT ad A C H locs ls hL hP hS
  obtain ⟨hx, hT, hr, hml, hown, hts, hlk, hK, hD, hA, hO⟩ := id C
  exact lv_istore_n hx rfl (CX.dec C h) hi hL.has hn rfl (fun ls2 h2 => nx p l e s m args below meth c D cT ad A C H locs ls2 (hset ▸ LR.set1 (v := .int x) hg h2) hP hS)
theorem p_istore {i : Nat} {x : Int32} (L' : List (Option Value)) (h : M.1[k]? = some (pc, .istore i, 2)) (hg : lg2 L i = false) (hn : i < M.2.2.2.1) (hset : L.set i (some (.int x)) = L') (nx : PW M out (pc + 2) L' st S) : PW M out pc L (.int x :: st) S := by
  intro p l e s m args below meth c D cT ad A C H locs ls hL hP hS
  obtain ⟨hx, hT, hr, hml, hown, hts, hlk, hK, hD, hA, hO⟩ := id C
  exact lv_istore hx rfl (CX.dec C h) hL.has hn rfl (fun ls2 h2 => nx p l e s m args below meth c D cT ad A C H locs ls2 (hset ▸ LR.set1 (v := .int x) hg h2) hP hS)
theorem p_lstore_n {n : Fin 4} (i : Nat) {x : Int64} (L' : List (Option Value)) (h : M.1[k]? = some (pc, .lstore_n n, 1)) (hi : (n : Nat) = i) (hg : lg2 L i = false) (hn : i + 1 < M.2.2.2.1) (hset : (L.set i (some (.long x))).set (i + 1) none = L') (nx : PW M out (pc + 1) L' st S) : PW M out pc L (.long x :: st) S := by
  intro p l e s m args below meth c D cT ad A C H locs ls hL hP hS
  obtain ⟨hx, hT, hr, hml, hown, hts, hlk, hK, hD, hA, hO⟩ := id C
  exact lv_lstore_n hx rfl (CX.dec C h) hi hL.has hn rfl (fun ls2 h2 => nx p l e s m args below meth c D cT ad A C H locs ls2 (hset ▸ LR.set2 (v := .long x) hg h2) hP hS)
theorem p_lstore {i : Nat} {x : Int64} (L' : List (Option Value)) (h : M.1[k]? = some (pc, .lstore i, 2)) (hg : lg2 L i = false) (hn : i + 1 < M.2.2.2.1) (hset : (L.set i (some (.long x))).set (i + 1) none = L') (nx : PW M out (pc + 2) L' st S) : PW M out pc L (.long x :: st) S := by
  intro p l e s m args below meth c D cT ad A C H locs ls hL hP hS
  obtain ⟨hx, hT, hr, hml, hown, hts, hlk, hK, hD, hA, hO⟩ := id C
  exact lv_lstore hx rfl (CX.dec C h) hL.has hn rfl (fun ls2 h2 => nx p l e s m args below meth c D cT ad A C H locs ls2 (hset ▸ LR.set2 (v := .long x) hg h2) hP hS)
theorem p_iinc {i : Nat} {n : Int} {x : Int32} (v : Int32) (L' : List (Option Value)) (h : M.1[k]? = some (pc, .iinc i n, 3)) (hl : L[i]? = some (some (.int x))) (hv : x + Int32.ofInt n = v) (hg : lg2 L i = false) (hn : i < M.2.2.2.1) (hset : L.set i (some (.int v)) = L') (nx : PW M out (pc + 3) L' st S) : PW M out pc L st S := by
  intro p l e s m args below meth c D cT ad A C H locs ls hL hP hS
  obtain ⟨hx, hT, hr, hml, hown, hts, hlk, hK, hD, hA, hO⟩ := id C
  obtain ⟨j, hj⟩ := List.getElem?_of_mem (asc_mem (ad := ad) (q := (i, .int x)).mpr ⟨.int x, hl, rfl⟩)
  exact lv_iinc hx rfl (CX.dec C h) hL.has hj hv hn rfl (fun ls2 h2 => nx p l e s m args below meth c D cT ad A C H locs ls2 (hset ▸ LR.set1 (v := .int v) hg h2) hP hS)
theorem p_iadd {x y : Int32} (h : M.1[k]? = some (pc, .iadd, 1)) (nx : PW M out (pc + 1) L (.int (x + y) :: st) S) : PW M out pc L (.int y :: .int x :: st) S := by
  intro p l e s m args below meth c D cT ad A C H locs ls hL hP hS
  obtain ⟨hx, hT, hr, hml, hown, hts, hlk, hK, hD, hA, hO⟩ := id C
  exact lv_iadd hx rfl (CX.dec C h) (nx p l e s m args below meth c D cT ad A C H locs ls hL hP hS)
theorem p_isub {x y : Int32} (h : M.1[k]? = some (pc, .isub, 1)) (nx : PW M out (pc + 1) L (.int (x - y) :: st) S) : PW M out pc L (.int y :: .int x :: st) S := by
  intro p l e s m args below meth c D cT ad A C H locs ls hL hP hS
  obtain ⟨hx, hT, hr, hml, hown, hts, hlk, hK, hD, hA, hO⟩ := id C
  exact lv_isub hx rfl (CX.dec C h) (nx p l e s m args below meth c D cT ad A C H locs ls hL hP hS)
theorem p_imul {x y : Int32} (h : M.1[k]? = some (pc, .imul, 1)) (nx : PW M out (pc + 1) L (.int (x * y) :: st) S) : PW M out pc L (.int y :: .int x :: st) S := by
  intro p l e s m args below meth c D cT ad A C H locs ls hL hP hS
  obtain ⟨hx, hT, hr, hml, hown, hts, hlk, hK, hD, hA, hO⟩ := id C
  exact lv_imul hx rfl (CX.dec C h) (nx p l e s m args below meth c D cT ad A C H locs ls hL hP hS)
theorem p_iand {x y : Int32} (h : M.1[k]? = some (pc, .iand, 1)) (nx : PW M out (pc + 1) L (.int (x &&& y) :: st) S) : PW M out pc L (.int y :: .int x :: st) S := by
  intro p l e s m args below meth c D cT ad A C H locs ls hL hP hS
  obtain ⟨hx, hT, hr, hml, hown, hts, hlk, hK, hD, hA, hO⟩ := id C
  exact lv_iand hx rfl (CX.dec C h) (nx p l e s m args below meth c D cT ad A C H locs ls hL hP hS)
theorem p_ior {x y : Int32} (h : M.1[k]? = some (pc, .ior, 1)) (nx : PW M out (pc + 1) L (.int (x ||| y) :: st) S) : PW M out pc L (.int y :: .int x :: st) S := by
  intro p l e s m args below meth c D cT ad A C H locs ls hL hP hS
  obtain ⟨hx, hT, hr, hml, hown, hts, hlk, hK, hD, hA, hO⟩ := id C
  exact lv_ior hx rfl (CX.dec C h) (nx p l e s m args below meth c D cT ad A C H locs ls hL hP hS)
theorem p_ixor {x y : Int32} (h : M.1[k]? = some (pc, .ixor, 1)) (nx : PW M out (pc + 1) L (.int (x ^^^ y) :: st) S) : PW M out pc L (.int y :: .int x :: st) S := by
  intro p l e s m args below meth c D cT ad A C H locs ls hL hP hS
  obtain ⟨hx, hT, hr, hml, hown, hts, hlk, hK, hD, hA, hO⟩ := id C
  exact lv_ixor hx rfl (CX.dec C h) (nx p l e s m args below meth c D cT ad A C H locs ls hL hP hS)
theorem p_idiv {x y : Int32} (h : M.1[k]? = some (pc, .idiv, 1)) (hne : ¬ y = 0) (nx : PW M out (pc + 1) L (.int (x / y) :: st) S) : PW M out pc L (.int y :: .int x :: st) S := by
  intro p l e s m args below meth c D cT ad A C H locs ls hL hP hS
  obtain ⟨hx, hT, hr, hml, hown, hts, hlk, hK, hD, hA, hO⟩ := id C
  exact lv_idiv hx rfl (CX.dec C h) hne (nx p l e s m args below meth c D cT ad A C H locs ls hL hP hS)
theorem p_irem {x y : Int32} (h : M.1[k]? = some (pc, .irem, 1)) (hne : ¬ y = 0) (nx : PW M out (pc + 1) L (.int (x - x / y * y) :: st) S) : PW M out pc L (.int y :: .int x :: st) S := by
  intro p l e s m args below meth c D cT ad A C H locs ls hL hP hS
  obtain ⟨hx, hT, hr, hml, hown, hts, hlk, hK, hD, hA, hO⟩ := id C
  exact lv_irem hx rfl (CX.dec C h) hne (nx p l e s m args below meth c D cT ad A C H locs ls hL hP hS)
theorem p_ishl {x y : Int32} (h : M.1[k]? = some (pc, .ishl, 1)) (nx : PW M out (pc + 1) L (.int (x <<< (y &&& 31)) :: st) S) : PW M out pc L (.int y :: .int x :: st) S := by
  intro p l e s m args below meth c D cT ad A C H locs ls hL hP hS
  obtain ⟨hx, hT, hr, hml, hown, hts, hlk, hK, hD, hA, hO⟩ := id C
  exact lv_ishl hx rfl (CX.dec C h) (nx p l e s m args below meth c D cT ad A C H locs ls hL hP hS)
theorem p_ishr {x y : Int32} (h : M.1[k]? = some (pc, .ishr, 1)) (nx : PW M out (pc + 1) L (.int (x >>> (y &&& 31)) :: st) S) : PW M out pc L (.int y :: .int x :: st) S := by
  intro p l e s m args below meth c D cT ad A C H locs ls hL hP hS
  obtain ⟨hx, hT, hr, hml, hown, hts, hlk, hK, hD, hA, hO⟩ := id C
  exact lv_ishr hx rfl (CX.dec C h) (nx p l e s m args below meth c D cT ad A C H locs ls hL hP hS)
theorem p_iushr {x y : Int32} (h : M.1[k]? = some (pc, .iushr, 1)) (nx : PW M out (pc + 1) L (.int (x.toUInt32 >>> (y.toUInt32 &&& Int32.toUInt32 31)).toInt32 :: st) S) : PW M out pc L (.int y :: .int x :: st) S := by
  intro p l e s m args below meth c D cT ad A C H locs ls hL hP hS
  obtain ⟨hx, hT, hr, hml, hown, hts, hlk, hK, hD, hA, hO⟩ := id C
  exact lv_iushr hx rfl (CX.dec C h) rfl (nx p l e s m args below meth c D cT ad A C H locs ls hL hP hS)
theorem p_ineg {x : Int32} (h : M.1[k]? = some (pc, .ineg, 1)) (nx : PW M out (pc + 1) L (.int (-x) :: st) S) : PW M out pc L (.int x :: st) S := by
  intro p l e s m args below meth c D cT ad A C H locs ls hL hP hS
  obtain ⟨hx, hT, hr, hml, hown, hts, hlk, hK, hD, hA, hO⟩ := id C
  exact lv_ineg hx rfl (CX.dec C h) (nx p l e s m args below meth c D cT ad A C H locs ls hL hP hS)
theorem p_lmul {x y : Int64} (h : M.1[k]? = some (pc, .lmul, 1)) (nx : PW M out (pc + 1) L (.long (x * y) :: st) S) : PW M out pc L (.long y :: .long x :: st) S := by
  intro p l e s m args below meth c D cT ad A C H locs ls hL hP hS
  obtain ⟨hx, hT, hr, hml, hown, hts, hlk, hK, hD, hA, hO⟩ := id C
  exact lv_lmul hx rfl (CX.dec C h) (nx p l e s m args below meth c D cT ad A C H locs ls hL hP hS)
theorem p_ldiv {x y : Int64} (h : M.1[k]? = some (pc, .ldiv, 1)) (hne : ¬ y = 0) (nx : PW M out (pc + 1) L (.long (x / y) :: st) S) : PW M out pc L (.long y :: .long x :: st) S := by
  intro p l e s m args below meth c D cT ad A C H locs ls hL hP hS
  obtain ⟨hx, hT, hr, hml, hown, hts, hlk, hK, hD, hA, hO⟩ := id C
  exact lv_ldiv hx rfl (CX.dec C h) hne (nx p l e s m args below meth c D cT ad A C H locs ls hL hP hS)
theorem p_lrem {x y : Int64} (h : M.1[k]? = some (pc, .lrem, 1)) (hne : ¬ y = 0) (nx : PW M out (pc + 1) L (.long (x - x / y * y) :: st) S) : PW M out pc L (.long y :: .long x :: st) S := by
  intro p l e s m args below meth c D cT ad A C H locs ls hL hP hS
  obtain ⟨hx, hT, hr, hml, hown, hts, hlk, hK, hD, hA, hO⟩ := id C
  exact lv_lrem hx rfl (CX.dec C h) hne (nx p l e s m args below meth c D cT ad A C H locs ls hL hP hS)
theorem p_lcmp {x y : Int64} (h : M.1[k]? = some (pc, .lcmp, 1)) (nx : PW M out (pc + 1) L (.int (lg_cmp x y) :: st) S) : PW M out pc L (.long y :: .long x :: st) S := by
  intro p l e s m args below meth c D cT ad A C H locs ls hL hP hS
  obtain ⟨hx, hT, hr, hml, hown, hts, hlk, hK, hD, hA, hO⟩ := id C
  exact W.lcmp hx rfl (CX.dec C h) (nx p l e s m args below meth c D cT ad A C H locs ls hL hP hS)
theorem p_i2l {x : Int32} (h : M.1[k]? = some (pc, .i2l, 1)) (nx : PW M out (pc + 1) L (.long x.toInt64 :: st) S) : PW M out pc L (.int x :: st) S := by
  intro p l e s m args below meth c D cT ad A C H locs ls hL hP hS
  obtain ⟨hx, hT, hr, hml, hown, hts, hlk, hK, hD, hA, hO⟩ := id C
  exact lv_i2l hx rfl (CX.dec C h) rfl (nx p l e s m args below meth c D cT ad A C H locs ls hL hP hS)
theorem p_i2b {x : Int32} (h : M.1[k]? = some (pc, .i2b, 1)) (nx : PW M out (pc + 1) L (.int x.toInt8.toInt32 :: st) S) : PW M out pc L (.int x :: st) S := by
  intro p l e s m args below meth c D cT ad A C H locs ls hL hP hS
  obtain ⟨hx, hT, hr, hml, hown, hts, hlk, hK, hD, hA, hO⟩ := id C
  exact lv_i2b hx rfl (CX.dec C h) rfl (nx p l e s m args below meth c D cT ad A C H locs ls hL hP hS)
theorem p_i2s {x : Int32} (h : M.1[k]? = some (pc, .i2s, 1)) (nx : PW M out (pc + 1) L (.int x.toInt16.toInt32 :: st) S) : PW M out pc L (.int x :: st) S := by
  intro p l e s m args below meth c D cT ad A C H locs ls hL hP hS
  obtain ⟨hx, hT, hr, hml, hown, hts, hlk, hK, hD, hA, hO⟩ := id C
  exact lv_i2s hx rfl (CX.dec C h) rfl (nx p l e s m args below meth c D cT ad A C H locs ls hL hP hS)
theorem p_i2c {x : Int32} (h : M.1[k]? = some (pc, .i2c, 1)) (nx : PW M out (pc + 1) L (.int (x.toUInt32 % 65536).toInt32 :: st) S) : PW M out pc L (.int x :: st) S := by
  intro p l e s m args below meth c D cT ad A C H locs ls hL hP hS
  obtain ⟨hx, hT, hr, hml, hown, hts, hlk, hK, hD, hA, hO⟩ := id C
  exact lv_i2c hx rfl (CX.dec C h) rfl (nx p l e s m args below meth c D cT ad A C H locs ls hL hP hS)
theorem p_dup {v : Value} (h : M.1[k]? = some (pc, .dup, 1)) (hv : v.category = 1) (nx : PW M out (pc + 1) L (v :: v :: st) S) : PW M out pc L (v :: st) S := by
  intro p l e s m args below meth c D cT ad A C H locs ls hL hP hS
  obtain ⟨hx, hT, hr, hml, hown, hts, hlk, hK, hD, hA, hO⟩ := id C
  exact lv_dup hx rfl (CX.dec C h) (by rw [cv_cat]; exact hv) (nx p l e s m args below meth c D cT ad A C H locs ls hL hP hS)
theorem p_pop {v : Value} (h : M.1[k]? = some (pc, .pop, 1)) (hv : v.category = 1) (nx : PW M out (pc + 1) L st S) : PW M out pc L (v :: st) S := by
  intro p l e s m args below meth c D cT ad A C H locs ls hL hP hS
  obtain ⟨hx, hT, hr, hml, hown, hts, hlk, hK, hD, hA, hO⟩ := id C
  exact lv_pop hx rfl (CX.dec C h) (by rw [cv_cat]; exact hv) (nx p l e s m args below meth c D cT ad A C H locs ls hL hP hS)
theorem p_dup2 {v w : Value} (h : M.1[k]? = some (pc, .dup2, 1)) (hv : v.category = 1) (hw : w.category = 1) (nx : PW M out (pc + 1) L (v :: w :: v :: w :: st) S) : PW M out pc L (v :: w :: st) S := by
  intro p l e s m args below meth c D cT ad A C H locs ls hL hP hS
  obtain ⟨hx, hT, hr, hml, hown, hts, hlk, hK, hD, hA, hO⟩ := id C
  exact lv_dup2_11 hx rfl (CX.dec C h) (by rw [cv_cat]; exact hv) (by rw [cv_cat]; exact hw) (nx p l e s m args below meth c D cT ad A C H locs ls hL hP hS)
theorem p_dup_x1 {v w : Value} (h : M.1[k]? = some (pc, .dup_x1, 1)) (hv : v.category = 1) (hw : w.category = 1) (nx : PW M out (pc + 1) L (v :: w :: v :: st) S) : PW M out pc L (v :: w :: st) S := by
  intro p l e s m args below meth c D cT ad A C H locs ls hL hP hS
  obtain ⟨hx, hT, hr, hml, hown, hts, hlk, hK, hD, hA, hO⟩ := id C
  exact lv_dup_x1 hx rfl (CX.dec C h) (by rw [cv_cat]; exact hv) (by rw [cv_cat]; exact hw) (nx p l e s m args below meth c D cT ad A C H locs ls hL hP hS)
theorem p_icmp_eq {x y : Int32} {off : Int} (tgt : Nat) (h : M.1[k]? = some (pc, .if_icmp .eq off, 3)) (ht : (pc : Int) + off = (tgt : Int)) (kt : x = y → PW M out tgt L st S) (kf : ¬ x = y → PW M out (pc + 3) L st S) : PW M out pc L (.int y :: .int x :: st) S := by
  intro p l e s m args below meth c D cT ad A C H locs ls hL hP hS
  obtain ⟨hx, hT, hr, hml, hown, hts, hlk, hK, hD, hA, hO⟩ := id C
  exact lv_icmp_eq hx rfl (CX.dec C h) ht (fun q => kt q p l e s m args below meth c D cT ad A C H locs ls hL hP hS) (fun q => kf q p l e s m args below meth c D cT ad A C H locs ls hL hP hS)
theorem p_if_eq {x : Int32} {off : Int} (tgt : Nat) (h : M.1[k]? = some (pc, .ifCond .eq off, 3)) (ht : (pc : Int) + off = (tgt : Int)) (kt : x = 0 → PW M out tgt L st S) (kf : ¬ x = 0 → PW M out (pc + 3) L st S) : PW M out pc L (.int x :: st) S := by
  intro p l e s m args below meth c D cT ad A C H locs ls hL hP hS
  obtain ⟨hx, hT, hr, hml, hown, hts, hlk, hK, hD, hA, hO⟩ := id C
  exact lv_if_eq hx rfl (CX.dec C h) ht (fun q => kt q p l e s m args below meth c D cT ad A C H locs ls hL hP hS) (fun q => kf q p l e s m args below meth c D cT ad A C H locs ls hL hP hS)
theorem p_icmp_ne {x y : Int32} {off : Int} (tgt : Nat) (h : M.1[k]? = some (pc, .if_icmp .ne off, 3)) (ht : (pc : Int) + off = (tgt : Int)) (kt : ¬ x = y → PW M out tgt L st S) (kf : x = y → PW M out (pc + 3) L st S) : PW M out pc L (.int y :: .int x :: st) S := by
  intro p l e s m args below meth c D cT ad A C H locs ls hL hP hS
  obtain ⟨hx, hT, hr, hml, hown, hts, hlk, hK, hD, hA, hO⟩ := id C
  exact lv_icmp_ne hx rfl (CX.dec C h) ht (fun q => kt q p l e s m args below meth c D cT ad A C H locs ls hL hP hS) (fun q => kf q p l e s m args below meth c D cT ad A C H locs ls hL hP hS)
theorem p_if_ne {x : Int32} {off : Int} (tgt : Nat) (h : M.1[k]? = some (pc, .ifCond .ne off, 3)) (ht : (pc : Int) + off = (tgt : Int)) (kt : ¬ x = 0 → PW M out tgt L st S) (kf : x = 0 → PW M out (pc + 3) L st S) : PW M out pc L (.int x :: st) S := by
  intro p l e s m args below meth c D cT ad A C H locs ls hL hP hS
  obtain ⟨hx, hT, hr, hml, hown, hts, hlk, hK, hD, hA, hO⟩ := id C
  exact lv_if_ne hx rfl (CX.dec C h) ht (fun q => kt q p l e s m args below meth c D cT ad A C H locs ls hL hP hS) (fun q => kf q p l e s m args below meth c D cT ad A C H locs ls hL hP hS)
theorem p_icmp_lt {x y : Int32} {off : Int} (tgt : Nat) (h : M.1[k]? = some (pc, .if_icmp .lt off, 3)) (ht : (pc : Int) + off = (tgt : Int)) (kt : x < y → PW M out tgt L st S) (kf : ¬ x < y → PW M out (pc + 3) L st S) : PW M out pc L (.int y :: .int x :: st) S := by
  intro p l e s m args below meth c D cT ad A C H locs ls hL hP hS
  obtain ⟨hx, hT, hr, hml, hown, hts, hlk, hK, hD, hA, hO⟩ := id C
  exact lv_icmp_lt hx rfl (CX.dec C h) ht (fun q => kt q p l e s m args below meth c D cT ad A C H locs ls hL hP hS) (fun q => kf q p l e s m args below meth c D cT ad A C H locs ls hL hP hS)
theorem p_if_lt {x : Int32} {off : Int} (tgt : Nat) (h : M.1[k]? = some (pc, .ifCond .lt off, 3)) (ht : (pc : Int) + off = (tgt : Int)) (kt : x < 0 → PW M out tgt L st S) (kf : ¬ x < 0 → PW M out (pc + 3) L st S) : PW M out pc L (.int x :: st) S := by
  intro p l e s m args below meth c D cT ad A C H locs ls hL hP hS
  obtain ⟨hx, hT, hr, hml, hown, hts, hlk, hK, hD, hA, hO⟩ := id C
  exact lv_if_lt hx rfl (CX.dec C h) ht (fun q => kt q p l e s m args below meth c D cT ad A C H locs ls hL hP hS) (fun q => kf q p l e s m args below meth c D cT ad A C H locs ls hL hP hS)
theorem p_icmp_ge {x y : Int32} {off : Int} (tgt : Nat) (h : M.1[k]? = some (pc, .if_icmp .ge off, 3)) (ht : (pc : Int) + off = (tgt : Int)) (kt : y ≤ x → PW M out tgt L st S) (kf : ¬ y ≤ x → PW M out (pc + 3) L st S) : PW M out pc L (.int y :: .int x :: st) S := by
  intro p l e s m args below meth c D cT ad A C H locs ls hL hP hS
  obtain ⟨hx, hT, hr, hml, hown, hts, hlk, hK, hD, hA, hO⟩ := id C
  exact lv_icmp_ge hx rfl (CX.dec C h) ht (fun q => kt q p l e s m args below meth c D cT ad A C H locs ls hL hP hS) (fun q => kf q p l e s m args below meth c D cT ad A C H locs ls hL hP hS)
theorem p_if_ge {x : Int32} {off : Int} (tgt : Nat) (h : M.1[k]? = some (pc, .ifCond .ge off, 3)) (ht : (pc : Int) + off = (tgt : Int)) (kt : 0 ≤ x → PW M out tgt L st S) (kf : ¬ 0 ≤ x → PW M out (pc + 3) L st S) : PW M out pc L (.int x :: st) S := by
  intro p l e s m args below meth c D cT ad A C H locs ls hL hP hS
  obtain ⟨hx, hT, hr, hml, hown, hts, hlk, hK, hD, hA, hO⟩ := id C
  exact lv_if_ge hx rfl (CX.dec C h) ht (fun q => kt q p l e s m args below meth c D cT ad A C H locs ls hL hP hS) (fun q => kf q p l e s m args below meth c D cT ad A C H locs ls hL hP hS)
theorem p_icmp_gt {x y : Int32} {off : Int} (tgt : Nat) (h : M.1[k]? = some (pc, .if_icmp .gt off, 3)) (ht : (pc : Int) + off = (tgt : Int)) (kt : y < x → PW M out tgt L st S) (kf : ¬ y < x → PW M out (pc + 3) L st S) : PW M out pc L (.int y :: .int x :: st) S := by
  intro p l e s m args below meth c D cT ad A C H locs ls hL hP hS
  obtain ⟨hx, hT, hr, hml, hown, hts, hlk, hK, hD, hA, hO⟩ := id C
  exact lv_icmp_gt hx rfl (CX.dec C h) ht (fun q => kt q p l e s m args below meth c D cT ad A C H locs ls hL hP hS) (fun q => kf q p l e s m args below meth c D cT ad A C H locs ls hL hP hS)
theorem p_if_gt {x : Int32} {off : Int} (tgt : Nat) (h : M.1[k]? = some (pc, .ifCond .gt off, 3)) (ht : (pc : Int) + off = (tgt : Int)) (kt : 0 < x → PW M out tgt L st S) (kf : ¬ 0 < x → PW M out (pc + 3) L st S) : PW M out pc L (.int x :: st) S := by
  intro p l e s m args below meth c D cT ad A C H locs ls hL hP hS
  obtain ⟨hx, hT, hr, hml, hown, hts, hlk, hK, hD, hA, hO⟩ := id C
  exact lv_if_gt hx rfl (CX.dec C h) ht (fun q => kt q p l e s m args below meth c D cT ad A C H locs ls hL hP hS) (fun q => kf q p l e s m args below meth c D cT ad A C H locs ls hL hP hS)
theorem p_icmp_le {x y : Int32} {off : Int} (tgt : Nat) (h : M.1[k]? = some (pc, .if_icmp .le off, 3)) (ht : (pc : Int) + off = (tgt : Int)) (kt : x ≤ y → PW M out tgt L st S) (kf : ¬ x ≤ y → PW M out (pc + 3) L st S) : PW M out pc L (.int y :: .int x :: st) S := by
  intro p l e s m args below meth c D cT ad A C H locs ls hL hP hS
  obtain ⟨hx, hT, hr, hml, hown, hts, hlk, hK, hD, hA, hO⟩ := id C
  exact lv_icmp_le hx rfl (CX.dec C h) ht (fun q => kt q p l e s m args below meth c D cT ad A C H locs ls hL hP hS) (fun q => kf q p l e s m args below meth c D cT ad A C H locs ls hL hP hS)
theorem p_if_le {x : Int32} {off : Int} (tgt : Nat) (h : M.1[k]? = some (pc, .ifCond .le off, 3)) (ht : (pc : Int) + off = (tgt : Int)) (kt : x ≤ 0 → PW M out tgt L st S) (kf : ¬ x ≤ 0 → PW M out (pc + 3) L st S) : PW M out pc L (.int x :: st) S := by
  intro p l e s m args below meth c D cT ad A C H locs ls hL hP hS
  obtain ⟨hx, hT, hr, hml, hown, hts, hlk, hK, hD, hA, hO⟩ := id C
  exact lv_if_le hx rfl (CX.dec C h) ht (fun q => kt q p l e s m args below meth c D cT ad A C H locs ls hL hP hS) (fun q => kf q p l e s m args below meth c D cT ad A C H locs ls hL hP hS)
theorem p_goto {off : Int} (tgt : Nat) (h : M.1[k]? = some (pc, .goto off, 3)) (ht : (pc : Int) + off = (tgt : Int)) (nx : PW M out tgt L st S) : PW M out pc L st S := by
  intro p l e s m args below meth c D cT ad A C H locs ls hL hP hS
  obtain ⟨hx, hT, hr, hml, hown, hts, hlk, hK, hD, hA, hO⟩ := id C
  exact lv_goto hx rfl (CX.dec C h) ht (nx p l e s m args below meth c D cT ad A C H locs ls hL hP hS)
theorem p_lookup {dflt : Int} {ps : Array (Int × Int)} {len : Nat} {x : Int32} {off : Int} (tgt : Nat) (h : M.1[k]? = some (pc, .lookupswitch dflt ps, len)) (hp : (ps.toList.zip (ps.toList.drop 1)).all (fun (a, next) => a.1 < next.1) = true) (ho : Op.lookupswitch.offset ps.toList dflt x.toInt = off) (ht : (pc : Int) + off = (tgt : Int)) (nx : PW M out tgt L st S) : PW M out pc L (.int x :: st) S := by
  intro p l e s m args below meth c D cT ad A C H locs ls hL hP hS
  obtain ⟨hx, hT, hr, hml, hown, hts, hlk, hK, hD, hA, hO⟩ := id C
  exact lv_lookup hx rfl (CX.dec C h) hp ho ht (nx p l e s m args below meth c D cT ad A C H locs ls hL hP hS)
theorem p_tableOut {dflt lo hi : Int} {offs : Array Int} {len : Nat} {x : Int32} (tgt : Nat) (h : M.1[k]? = some (pc, .tableswitch dflt lo hi offs, len)) (hz : x.toInt < lo ∨ hi < x.toInt) (ht : (pc : Int) + dflt = (tgt : Int)) (nx : PW M out tgt L st S) : PW M out pc L (.int x :: st) S := by
  intro p l e s m args below meth c D cT ad A C H locs ls hL hP hS
  obtain ⟨hx, hT, hr, hml, hown, hts, hlk, hK, hD, hA, hO⟩ := id C
  exact lv_tableOut hx rfl (CX.dec C h) hz ht (nx p l e s m args below meth c D cT ad A C H locs ls hL hP hS)
theorem p_tableIn {dflt lo hi : Int} {offs : Array Int} {len : Nat} {x : Int32} {off : Int} (tgt : Nat) (h : M.1[k]? = some (pc, .tableswitch dflt lo hi offs, len)) (h1 : ¬ x.toInt < lo) (h2 : ¬ hi < x.toInt) (ho : offs[(x.toInt - lo).toNat]? = some off) (ht : (pc : Int) + off = (tgt : Int)) (nx : PW M out tgt L st S) : PW M out pc L (.int x :: st) S := by
  intro p l e s m args below meth c D cT ad A C H locs ls hL hP hS
  obtain ⟨hx, hT, hr, hml, hown, hts, hlk, hK, hD, hA, hO⟩ := id C
  exact lv_tableIn hx rfl (CX.dec C h) h1 h2 ho ht (nx p l e s m args below meth c D cT ad A C H locs ls hL hP hS)
/-- a field's link: class ci's field j, linked at idx of 'own' -/
def FL (own : String) (idx ci j : Nat) : Prop := ∃ (C : String) (T : u_T) (N : Nat), vwCl[ci]? = some (C, T, N) ∧ j < N ∧ Cond.fieldLink own idx (T j).1 (T j).2.1 (T j).2.2.1 ∈ TB ∧ ∀ w ∈ u_ws C T N, w ∈ TB
/-- what a store into class ci's field j needs more -/
def FP (ci j : Nat) (ty : FieldType) : Prop := ∃ (C : String) (T : u_T) (N : Nat) (ty0 : Nat → FieldType), vwCl[ci]? = some (C, T, N) ∧ (∀ k, k < N → parseFieldDescriptor (T k).2.2.1 = some (ty0 k)) ∧ (∀ a, a < N → ∀ b, b < N → a ≠ b → (T a).2.1 ≠ (T b).2.1) ∧ (T j).2.2.2 = false ∧ parseFieldDescriptor (T j).2.2.1 = some ty
theorem p_getr {idx ci j q q2 : Nat} {fs : List (Option Nat)} (h : M.1[k]? = some (pc, .getfield idx, 3)) (hl : lay[q]? = some (.inr (.inl (ci, fs)))) (hf : fs[j]? = some (some q2)) (hF : FL M.2.1 idx ci j) (nx : PW M out (pc + 3) L (.ref q2 :: st) S) : PW M out pc L (.ref q :: st) S := by
  intro p l e s m args below meth c D cT ad A C H locs ls hL hP hS
  obtain ⟨hx, hT, hr, hml, hown, hts, hlk, hK, hD, hA, hO⟩ := id C
  obtain ⟨C0, T, N, hc, hj, hlink, hin⟩ := hF
  refine va_get (D := D) (cl := vwCl) (ci := ci) (v := .ref (ad q2)) (C := C0) (T := T) (N := N) hx rfl hts hin hown hK hP q (wl_get hl) hc j hj (hts _ hlink) (fun _ h9 => h9) ?_ (CX.dec C h) (nx p l e s m args below meth c D cT ad A C H locs ls hL hP hS)
  exact fV_get hf
theorem p_geti {idx ci j q : Nat} {fs : List (Option Nat)} (h : M.1[k]? = some (pc, .getfield idx, 3)) (hl : lay[q]? = some (.inr (.inl (ci, fs)))) (hf : fs[j]? = some none) (hF : FL M.2.1 idx ci j) (nx : PW M out (pc + 3) L (.int (S q j) :: st) S) : PW M out pc L (.ref q :: st) S := by
  intro p l e s m args below meth c D cT ad A C H locs ls hL hP hS
  obtain ⟨hx, hT, hr, hml, hown, hts, hlk, hK, hD, hA, hO⟩ := id C
  obtain ⟨C0, T, N, hc, hj, hlink, hin⟩ := hF
  refine va_get (D := D) (cl := vwCl) (ci := ci) (v := .int (S q j)) (C := C0) (T := T) (N := N) hx rfl hts hin hown hK hP q (wl_get hl) hc j hj (hts _ hlink) (fun _ h9 => h9) ?_ (CX.dec C h) (nx p l e s m args below meth c D cT ad A C H locs ls hL hP hS)
  have := fV_get (ad := ad) (f := S q) (k := 0) hf
  rw [Nat.zero_add] at this
  exact this
theorem p_puti {idx ci j q : Nat} {fs : List (Option Nat)} {v : Int32} {ty : FieldType} (h : M.1[k]? = some (pc, .putfield idx, 3)) (hl : lay[q]? = some (.inr (.inl (ci, fs)))) (hf : fs[j]? = some none) (hF : FL M.2.1 idx ci j) (hG : FP ci j ty) (hn : narrow ty (.int v) = .int v) (hfit : fits ty (.int v) = true) (nx : PW M out (pc + 3) L st (up2 S q j v)) : PW M out pc L (.int v :: .ref q :: st) S := by
  intro p l e0 s m args below meth c D cT ad A C H locs ls hL hP hS
  obtain ⟨hx, hT, hr, hml, hown, hts, hlk, hK, hD, hA, hO⟩ := id C
  obtain ⟨C0, T, N, hc, hj, hlink, hin⟩ := hF
  obtain ⟨C1, T1, N1, ty0, hc1, hty, hnm, hfin, hty1⟩ := hG
  cases hc.symm.trans hc1
  refine va_put (D := D) (cl := vwCl) (ci := ci) (v := .int v) (ty := ty) (C := C0) (T := T) (N := N) hx rfl hts hin ty0 hty hnm hown hK hP (hD S) hS q (wl_get hl) hc j hj (hts _ hlink) (fun _ h9 => h9) hfin hty1 hn hfit ?_ (CX.dec C h) (fun H1 locs1 hP1 hD1 hS1 => ?_)
  · rw [fV_len]
    exact (List.getElem?_eq_some_iff.mp hf).1
  · have e : (wl cT ad S).set q (ad q, .inr (ci, (fV ad (S q) fs 0).set j (.int v))) = wl cT ad (up2 S q j v) := by
      have h2 := fV_set (ad := ad) (f := S q) (v := v) (k := 0) hf
      rw [Nat.zero_add] at h2
      rw [h2]
      exact wl_set (f := upd (S q) j v) hl
    have hP2 : va_P D vwCl ((wl cT ad S).set q (ad q, .inr (ci, (fV ad (S q) fs 0).set j (.int v)))) H1 := hP1
    rw [e] at hP2
    exact nx p l e0 s m args below meth c D cT ad A C H1 locs1 ls hL hP2 hS1
theorem p_iald {q n : Nat} {i : Int32} (h : M.1[k]? = some (pc, .iaload, 1)) (hl : lay[q]? = some (.inl n)) (hin : vp_in i n) (nx : PW M out (pc + 1) L (.int (S q i.toNatClampNeg) :: st) S) : PW M out pc L (.int i :: .ref q :: st) S := by
  intro p l e s m args below meth c D cT ad A C H locs ls hL hP hS
  obtain ⟨hx, hT, hr, hml, hown, hts, hlk, hK, hD, hA, hO⟩ := id C
  exact va_iald hx rfl hK hP q 0 (f := S q) (wl_get hl) rfl hin (CX.dec C h) (nx p l e s m args below meth c D cT ad A C H locs ls hL hP hS)
theorem p_iast {q n : Nat} {i x : Int32} (h : M.1[k]? = some (pc, .iastore, 1)) (hl : lay[q]? = some (.inl n)) (hin : vp_in i n) (nx : PW M out (pc + 1) L st (up2 S q i.toNatClampNeg x)) : PW M out pc L (.int x :: .int i :: .ref q :: st) S := by
  intro p l e0 s m args below meth c D cT ad A C H locs ls hL hP hS
  obtain ⟨hx, hT, hr, hml, hown, hts, hlk, hK, hD, hA, hO⟩ := id C
  refine va_iast hx rfl hK hP (hD S) hS q 0 (f := S q) (wl_get hl) rfl hin (CX.dec C h) (fun H1 locs1 hP1 hD1 hS1 => ?_)
  have e : (wl cT ad S).set q (ad q, .inl (cT 0, n, .inl (upd (S q) i.toNatClampNeg x))) = wl cT ad (up2 S q i.toNatClampNeg x) := wl_set (f := upd (S q) i.toNatClampNeg x) hl
  rw [e] at hP1
  exact nx p l e0 s m args below meth c D cT ad A C H1 locs1 ls hL hP1 hS1
theorem p_aald {q : Nat} {g : Nat → Nat} {i : Int32} (h : M.1[k]? = some (pc, .aaload, 1)) (hl : lay[q]? = some (.inr (.inr g))) (hin : vp_in i 4) (nx : PW M out (pc + 1) L (.ref (g i.toNatClampNeg) :: st) S) : PW M out pc L (.int i :: .ref q :: st) S := by
  intro p l e s m args below meth c D cT ad A C H locs ls hL hP hS
  obtain ⟨hx, hT, hr, hml, hown, hts, hlk, hK, hD, hA, hO⟩ := id C
  exact va_aldq hx rfl hK hP q 1 (wl_get hl) rfl hin (CX.dec C h) (nx p l e s m args below meth c D cT ad A C H locs ls hL hP hS)
theorem p_iret {v : Int32} {ty : FieldType} (h : M.1[k]? = some (pc, .ireturn, 1)) (hty : M.2.2.2.2 = some ty) (hn : narrow ty (.int v) = .int v) : PW M (some (.int v), S) pc L [.int v] S := by
  intro p l e s m args below meth c D cT ad A C H locs ls hL hP hS
  obtain ⟨hx, hT, hr, hml, hown, hts, hlk, hK, hD, hA, hO⟩ := id C
  exact W.zret hx rfl (hr.trans hty) hn (fun t ht hW => ⟨rfl, by rw [ht]; exact hP, hS.F ht⟩) hS.2.2 (CX.dec C h) hlk
theorem p_lret {v : Int64} (h : M.1[k]? = some (pc, .lreturn, 1)) (hty : M.2.2.2.2 = some .long) : PW M (some (.long v), S) pc L [.long v] S := by
  intro p l e s m args below meth c D cT ad A C H locs ls hL hP hS
  obtain ⟨hx, hT, hr, hml, hown, hts, hlk, hK, hD, hA, hO⟩ := id C
  exact W.lret hx rfl (hr.trans hty) (fun t ht hW => ⟨rfl, by rw [ht]; exact hP, hS.F ht⟩) hS.2.2 (CX.dec C h) hlk
theorem p_vret  (h : M.1[k]? = some (pc, .return_, 1)) (hty : M.2.2.2.2 = none) : PW M (none, S) pc L [] S := by
  intro p l e s m args below meth c D cT ad A C H locs ls hL hP hS
  obtain ⟨hx, hT, hr, hml, hown, hts, hlk, hK, hD, hA, hO⟩ := id C
  exact W.vret hx rfl (hr.trans hty) (fun t ht hW => ⟨rfl, by rw [ht]; exact hP, hS.F ht⟩) hS.2.2 (CX.dec C h) hlk
theorem p_msk (bs : List Bool) {L2 : List (Option Value)} (e : msk bs L = L2) (nx : PW M out pc L2 st S) : PW M out pc L st S := by
  subst e
  intro p l e s m args below meth c D cT ad A C H locs ls hL hP hS
  exact nx p l e s m args below meth c D cT ad A C H locs ls (hL.fewer bs) hP hS
end ROWS
end
section
/-! A method's contract over the whole layout: called with these arguments at this state it comes back with this outcome. -/
abbrev Mi.nL (M : Mi) : Nat := M.2.2.2.1
abbrev Mi.dep (M : Mi) : Nat := M.2.2.1
abbrev Mi.own (M : Mi) : String := M.2.1
abbrev Mi.ty (M : Mi) : Option FieldType := M.2.2.2.2
def WD (D : va_G) (cT : Nat → ClassId) (ad : Nat → Nat) (sz : Nat) (S : St) (U : State) : Prop := U.heap.size = sz ∧ va_P D vwCl (wl cT ad S) U.heap ∧ va_K D vwCl (tyl cT) U ∧ va_D (fun _ => True) (wl cT ad S) ∧ OL ad (va_A (wl cT ad S) sz) U U.heap
def MR (y : MethodName) (cc : ByteArray) (M : Mi) (args : List Value) (S : St) (out : Out) : Prop :=
  ∀ (l : Launch) (D : va_G) (cT : Nat → ClassId) (ad : Nat → Nat) (sz : Nat), Met l y (Cond.code y cc M.nL M.ty :: TB) (rmd M.dep) (va_Pc (args.map (cv ad)) (WD D cT ad sz S)) (QO D cT ad (va_A (wl cT ad S) sz) out) 0 0 (va_A (wl cT ad S) sz)
/-- the locals at the entry -/
def entL : List Value → List (Option Value)
  | [] => []
  | v :: r => if v.category = 2 then some v :: none :: entL r else some v :: entL r
theorem entL_len : ∀ (as : List Value), (lg_sl as).length = (entL as).length
  | [] => rfl
  | v :: r => by
    have ih := entL_len r
    simp only [lg_sl] at ih
    simp only [lg_sl, entL, List.flatMap_cons, List.length_append]
    by_cases h : v.category = 2
    · rw [if_pos h, if_pos h]
      simp only [List.length_cons, List.length_nil]
      omega
    · rw [if_neg h, if_neg h]
      simp only [List.length_cons, List.length_nil]
      omega
theorem lg_cv (ad : Nat → Nat) (as : List Value) : (lg_sl (as.map (cv ad))).length = (lg_sl as).length := by
  rw [entL_len, entL_len]
  induction as with
  | nil => rfl
  | cons v r ih =>
    simp only [List.map_cons, entL, cv_cat]
    by_cases h : v.category = 2
    · rw [if_pos h, if_pos h]; simp only [List.length_cons]; omega
    · rw [if_neg h, if_neg h]; simp only [List.length_cons]; omega
theorem entL_in (ad : Nat → Nat) : ∀ (as : List Value) (n k i : Nat) (v : Value), (entL as ++ List.replicate n none)[i]? = some (some v) → (k + i, cv ad v) ∈ lv_args k (as.map (cv ad))
  | [], n, k, i, v, h => by
    simp only [entL, List.nil_append] at h
    have h2 := List.mem_of_getElem? h
    have h3 := (List.mem_replicate.mp h2).2
    cases h3
  | a :: r, n, k, i, v, h => by
    simp only [entL] at h
    simp only [List.map_cons, lv_args, cv_cat]
    by_cases hc : a.category = 2
    · rw [if_pos hc] at h
      rw [if_pos hc]
      match i, h with
      | 0, h =>
        simp at h
        rw [h]
        exact List.mem_cons_self
      | 1, h => simp at h
      | i + 2, h =>
        simp only [List.cons_append, List.getElem?_cons_succ] at h
        have := entL_in ad r n (k + 2) i v h
        rw [show k + 2 + i = k + (i + 2) by omega] at this
        exact List.mem_cons_of_mem _ this
    · rw [if_neg hc] at h
      rw [if_neg hc]
      match i, h with
      | 0, h =>
        simp at h
        rw [h]
        exact List.mem_cons_self
      | i + 1, h =>
        simp only [List.cons_append, List.getElem?_cons_succ] at h
        have := entL_in ad r n (k + 1) i v h
        rw [show k + 1 + i = k + (i + 1) by omega] at this
        exact List.mem_cons_of_mem _ this
/-- what a program decides of a method -/
def MOK (y : MethodName) (cc : ByteArray) (M : Mi) : Prop := plainName y.cls = true ∧ y.cls = M.own ∧ ∀ q ∈ M.1, decode cc q.1 = .ok q.2
theorem MR.of {y : MethodName} {cc : ByteArray} {M : Mi} {as : List Value} {S : St} {out : Out} {n : Nat} {L : List (Option Value)} (ok : MOK y cc M) (hL : entL as ++ List.replicate n none = L) (hn : L.length = M.nL) (h : PW M out 0 L [] S) : MR y cc M as S out := by
  obtain ⟨hy, hcls, hT⟩ := ok
  intro l D cT ad sz
  refine Met.ofW (cc := cc) (maxL := M.nL) (ret := M.ty) hy rfl ?_
  intro p e s m args below meth c s₁ B hml hv
  obtain ⟨rfl, hsz, hP, hK, hD0, hO⟩ := hv
  have hb := B.bytes
  have hts := atoms_spec (ws := Cond.code y cc M.nL M.ty :: TB) B.pre
  have hown : s.vm.findClass y.cls = some m.cls := findClass_of_methodNamed B.named
  rw [hcls] at hown
  subst hsz
  have hlen : (lg_sl (as.map (cv ad))).length ≤ M.nL := by
    rw [lg_cv, entL_len, ← hn, ← hL, List.length_append]
    omega
  have hl := lv_entry (as.map (cv ad)) (n := M.nL) hlen
  rw [lg_entry_eq]
  have hLR : LR ad ((lg_sl (as.map (cv ad)) ++ List.replicate (M.nL - (lg_sl (as.map (cv ad))).length) Slot.unset).toArray) M.nL L := by
    refine ⟨hl.1, hl.2.1, fun i v hi => ?_⟩
    rw [← hL] at hi
    have h1 := entL_in ad as n 0 i v hi
    rw [Nat.zero_add] at h1
    exact hl.2.2 _ h1
  have hC : CX M p e s m (as.map (cv ad)).toArray meth c D cT ad (va_A (wl cT ad S) s.heap.size) :=
    ⟨B.exec, by rw [hb]; exact hT, B.returns, hml, hown, fun w hw => hts w (List.mem_cons_of_mem _ hw), B.notSynchronized, hK, fun S' => (wl_D S' hD0).self.weaken (fun _ _ _ q => wl_A S (Nat.le_refl _) q), fun q hq => Or.inr hq, hO⟩
  exact h p l e s m _ below meth c D cT ad _ hC s.heap [] _ hLR hP va_S.rf
section CALLS
variable {M : Mi} {out : Out} {pc k : Nat} {L : List (Option Value)} {st : List Value} {S : St}
theorem W_call {p : Program} {l : Launch} {e : Env} {R : Room} {s : State} {m : MethodId} {args : Array Value} {below : List Frame} {meth : Method} {c : Code} {H : Heap} {locs : List Loc} {Q : State → Prop} {ls : Array Slot} {rest st0 : List Value} {a : Array Value} {A A1 : Nat → Prop} {D : va_G} {cT : Nat → ClassId} {ad : Nat → Nat} {out2 : Out}
    (hr : va_Run p l e R s m args below meth c H locs 0 0 0 0 (F0 m pc ls st0) rest (QO D cT ad A1 out2 a) A1) (hS : va_S A s.heap H locs) (hA : ∀ q, A1 q → A q)
    (kk : ∀ (H1 : Heap) (locs1 : List Loc), va_P D vwCl (wl cT ad out2.2) H1 → va_S A s.heap H1 locs1 → W p l e R s m args below meth c H1 locs1 0 0 Q (F0 m (pc + 3) ls ((out2.1.map (cv ad)).toList ++ rest))) : W p l e R s m args below meth c H locs 0 0 Q (F0 m pc ls st0) := by
  intro T hT X
  obtain ⟨v, st₀, t, T', L, h0, X', hL, e1, e2, ⟨hv, hP, hz, hk⟩, st⟩ := hr T hT X
  cases hv
  rw [h0] at hz hk
  obtain ⟨t2, a1, b1⟩ := kk T'.heap (locs ++ L) (by rw [e1]; exact hP)
    ⟨Nat.le_trans hS.1 (by rw [e1]; exact hz), fun q h1 h2 => by rw [e1, hk q (Nat.lt_of_lt_of_le h1 hS.1) (fun z => h2 (hA q z))]; exact hS.2.1 q h1 h2, fun q hq => by
      rcases List.mem_append.mp hq with h | h
      · exact hS.2.2 q h
      · exact hA _ (hL q h)⟩ T' rfl X'
  exact ⟨t2, st t2 a1, b1⟩
theorem WD_of {p : Program} {e : Env} {s : State} {m : MethodId} {args : Array Value} {meth : Method} {c : Code} {D : va_G} {cT : Nat → ClassId} {ad : Nat → Nat} {A : Nat → Prop} (C : CX M p e s m args meth c D cT ad A) {H : Heap} {locs : List Loc} (hP : va_P D vwCl (wl cT ad S) H) (hS : va_S A s.heap H locs) :
    (∀ q, va_A (wl cT ad S) H.size q → A q) ∧ ∀ U : State, U.heap = H → s.WarmedH U.vm → WD D cT ad H.size S U := by
  obtain ⟨hx, hT, hr, hml, hown, hts, hlk, hK, hD, hA, hO⟩ := id C
  have hF : ∀ q, va_A (wl cT ad S) H.size q → A q := by
    intro q h
    rcases h with ⟨k, e, h⟩ | h
    · exact (hD S).2 k _ h
    · exact hA q (Nat.le_trans hS.1 h)
  refine ⟨hF, fun U hU hW => ⟨by rw [hU], by rw [hU]; exact hP, va_K.moved hW.alike hK, (hD S).weaken (fun _ _ _ _ => trivial), ?_⟩⟩
  rw [hU]
  exact ((hO.kept (H1 := H) hS.2.1).warm hW).narrow hF
theorem WD.blind {as : List Value} {D : va_G} {cT : Nat → ClassId} {ad : Nat → Nat} {sz : Nat} : FrameBlind (va_Pc (as.map (cv ad)) (WD D cT ad sz S)) := by
  intro a U g mk q
  obtain ⟨q0, q1, qP, qK, qD, qO⟩ := q
  exact ⟨q0, q1, qP, va_K.moved (u := U) (U := U.calling g mk a) (Vm.Alike.refl U.vm) qK, qD, qO.blind g mk a⟩
/-- what the tables say of a callee: its code, its class, how many it takes -/
def LC (y : MethodName) (cc : ByteArray) (M2 : Mi) (n : Nat) : Prop := Cond.initialized y.cls ∈ TB ∧ Cond.code y cc M2.nL M2.ty ∈ TB ∧ (y.cls ≠ "java/lang/invoke/MethodHandle" ∧ y.cls ≠ "java/lang/invoke/VarHandle" ∧ (parseMethodDescriptor y.desc).map (fun d => d.parameters.length) = some n)
theorem rm_ok {M2 : Mi} (hd : M2.dep < M.dep) (hnl : M2.nL ≤ 13) : (rmd M2.dep).frames + 1 ≤ (rmd M.dep).frames ∧ 8 + (M2.nL + 11) + (rmd M2.dep).locals ≤ (rmd M.dep).locals := by
  show M2.dep + 1 ≤ M.dep ∧ 8 + (M2.nL + 11) + 32 * M2.dep ≤ 32 * M.dep
  omega
theorem p_callS {idx : Nat} {y : MethodName} {cc : ByteArray} {M2 : Mi} {out2 : Out} (As rest : List Value) (h : M.1[k]? = some (pc, .invokestatic idx, 3)) (hM : MR y cc M2 As S out2) (hlc : LC y cc M2 As.length) (hl1 : Cond.methodLink M.own idx y ∈ TB) (hl2 : Cond.static y ∈ TB) (hd : M2.dep < M.dep) (hnl : M2.nL ≤ 13) (hw : (rest.map fun v => v.category).sum ≤ 8) (hst : As.reverse ++ rest = st) (nx : PW M out (pc + 3) L (out2.1.toList ++ rest) out2.2) : PW M out pc L st S := by
  subst hst
  intro p l e s m args below meth c D cT ad A C H locs ls hL hP hS
  obtain ⟨hx, hT, hr, hml, hown, hts, hlk, hK, hD, hA, hO⟩ := id C
  obtain ⟨hF, hWD⟩ := WD_of C hP hS
  have hG : GoodIn TB (va_wsS M.own idx y (Cond.code y cc M2.nL M2.ty :: TB)) := by
    intro w hw
    rcases List.mem_append.mp hw with hw | hw
    · simp only [List.mem_cons, List.not_mem_nil, or_false] at hw
      rcases hw with rfl | rfl | rfl
      · exact ⟨hl1, good_of_word (tb_gd hl1)⟩
      · exact ⟨hl2, good_of_word (tb_gd hl2)⟩
      · exact ⟨hlc.1, good_of_word (tb_gd hlc.1)⟩
    · exact tb_goodIn hlc.2.1 w hw
  have hrw : ((rest.map (cv ad)).map fun v => v.category).sum ≤ 8 := by
    rw [List.map_map]
    rw [show ((fun v : Value => v.category) ∘ cv ad) = (fun v : Value => v.category) from funext (fun v => cv_cat ad v)]
    exact hw
  have hrun := va_runS (p := p) (l := l) (e := e) (R := rmd M.dep) (s := s) (m := m) (args := args) (below := below) (meth := meth) (c := c) (H := H) (locs := locs) (cells := 0) (slots := 0) (As := As.map (cv ad)) (rest := rest.map (cv ad)) (g := F0 m pc ls ((As.reverse ++ rest).map (cv ad))) ⟨hx, rfl, hml, hown, hts⟩ (hM l D cT ad H.size) (va_cwS As.length hts hG rfl rfl rfl hlc.2.2 (rm_ok hd hnl)) ⟨WD.blind, fun U hU hW => ⟨rfl, hWD U hU hW⟩⟩ rfl (by rw [List.length_map]) hL.1 (by rw [List.map_append, ← List.map_reverse]) (lv_room hrw) (C.dec h) ⟨Nat.zero_le _, Nat.zero_le _⟩
  refine W_call hrun hS hF (fun H1 locs1 hP1 hS1 => ?_)
  have := nx p l e s m args below meth c D cT ad A C H1 locs1 ls hL hP1 hS1
  rw [List.map_append] at this
  rw [show ((out2.1.map (cv ad)).toList) = (out2.1.toList.map (cv ad)) by cases out2.1 <;> rfl]
  exact this
theorem p_callV {idx q ci : Nat} {fs : List (Option Nat)} {y : MethodName} {cc : ByteArray} {M2 : Mi} {out2 : Out} {Tf : u_T} {N : Nat} (As rest : List Value) (h : M.1[k]? = some (pc, .invokevirtual idx, 3)) (hM : MR y cc M2 (.ref q :: As) S out2) (hlay : lay[q]? = some (.inr (.inl (ci, fs)))) (hcl : vwCl[ci]? = some (y.cls, Tf, N)) (hlc : LC y cc M2 As.length) (hl1 : Cond.methodLink M.own idx y ∈ TB) (hl2 : Cond.instanceMethod y ∈ TB) (hl3 : Cond.selects y.cls y y ∈ TB) (hd : M2.dep < M.dep) (hnl : M2.nL ≤ 13) (hw : (rest.map fun v => v.category).sum ≤ 8) (hst : As.reverse ++ .ref q :: rest = st) (nx : PW M out (pc + 3) L (out2.1.toList ++ rest) out2.2) : PW M out pc L st S := by
  subst hst
  intro p l e s m args below meth c D cT ad A C H locs ls hL hP hS
  obtain ⟨hx, hT, hr, hml, hown, hts, hlk, hK, hD, hA, hO⟩ := id C
  obtain ⟨hF, hWD⟩ := WD_of C hP hS
  have hG : GoodIn TB (wsV M.own idx y.cls y (Cond.code y cc M2.nL M2.ty :: TB)) := by
    intro w hw
    rcases List.mem_append.mp hw with hw | hw
    · simp only [List.mem_cons, List.not_mem_nil, or_false] at hw
      rcases hw with rfl | rfl | rfl | rfl
      · exact ⟨hl1, good_of_word (tb_gd hl1)⟩
      · exact ⟨hl2, good_of_word (tb_gd hl2)⟩
      · exact ⟨hl3, good_of_word (tb_gd hl3)⟩
      · exact ⟨hlc.1, good_of_word (tb_gd hlc.1)⟩
    · exact tb_goodIn hlc.2.1 w hw
  have hrw : ((rest.map (cv ad)).map fun v => v.category).sum ≤ 8 := by
    rw [List.map_map]
    rw [show ((fun v : Value => v.category) ∘ cv ad) = (fun v : Value => v.category) from funext (fun v => cv_cat ad v)]
    exact hw
  have hrun := va_runV (p := p) (l := l) (e := e) (R := rmd M.dep) (s := s) (m := m) (args := args) (below := below) (meth := meth) (c := c) (H := H) (locs := locs) (cells := 0) (slots := 0) (b := ad q) (As := As.map (cv ad)) (rest := rest.map (cv ad)) (g := F0 m pc ls ((As.reverse ++ .ref q :: rest).map (cv ad))) ⟨hx, rfl, hml, hown, hts⟩ (hM l D cT ad H.size) (cwV As.length hts hG rfl rfl rfl ⟨rfl, hlc.2.2⟩ (rm_ok hd hnl)) ⟨WD.blind, va_recv hK hP hcl (wl_get hlay), fun U hU hW => ⟨rfl, hWD U hU hW⟩⟩ rfl (by rw [List.length_map]) hL.1 (by rw [List.map_append, ← List.map_reverse]; rfl) (lv_room hrw) (C.dec h) ⟨Nat.zero_le _, Nat.zero_le _⟩
  refine W_call hrun hS hF (fun H1 locs1 hP1 hS1 => ?_)
  have := nx p l e s m args below meth c D cT ad A C H1 locs1 ls hL hP1 hS1
  rw [List.map_append] at this
  rw [show ((out2.1.map (cv ad)).toList) = (out2.1.toList.map (cv ad)) by cases out2.1 <;> rfl]
  exact this
/-- a private static method of a nest mate -/
theorem p_callSN {idx : Nat} {y : MethodName} {cc : ByteArray} {M2 : Mi} {out2 : Out} {host : String} (As rest : List Value) (h : M.1[k]? = some (pc, .invokestatic idx, 3)) (hM : MR y cc M2 As S out2) (hlc : LC y cc M2 As.length) (hl1 : Cond.methodLinkNest M.own idx y host ∈ nestW) (hl2 : Cond.static y ∈ TB) (hd : M2.dep < M.dep) (hnl : M2.nL ≤ 13) (hw : (rest.map fun v => v.category).sum ≤ 8) (hst : As.reverse ++ rest = st) (nx : PW M out (pc + 3) L (out2.1.toList ++ rest) out2.2) : PW M out pc L st S := by
  subst hst
  intro p l e s m args below meth c D cT ad A C H locs ls hL hP hS
  obtain ⟨hx, hT, hr, hml, hown, hts, hlk, hK, hD, hA, hO⟩ := id C
  obtain ⟨hF, hWD⟩ := WD_of C hP hS
  have hrw : ((rest.map (cv ad)).map fun v => v.category).sum ≤ 8 := by
    rw [List.map_map]
    rw [show ((fun v : Value => v.category) ∘ cv ad) = (fun v : Value => v.category) from funext (fun v => cv_cat ad v)]
    exact hw
  have hrun := va_runSN (p := p) (l := l) (e := e) (R := rmd M.dep) (s := s) (m := m) (args := args) (below := below) (meth := meth) (c := c) (H := H) (locs := locs) (cells := 0) (slots := 0) (As := As.map (cv ad)) (rest := rest.map (cv ad)) (g := F0 m pc ls ((As.reverse ++ rest).map (cv ad))) ⟨hx, rfl, hml, hown, hts⟩ (hM l D cT ad H.size) ⟨va_cnB As.length hts (tb_goodIn hlc.2.1) rfl rfl rfl (hO.1 _ hl1) (hts _ hlc.1) hlc.2.2 (rm_ok hd hnl), hts _ hl2, trivial⟩ ⟨WD.blind, fun U hU hW => ⟨rfl, hWD U hU hW⟩⟩ rfl (by rw [List.length_map]) hL.1 (by rw [List.map_append, ← List.map_reverse]) (lv_room hrw) (C.dec h) ⟨Nat.zero_le _, Nat.zero_le _⟩
  refine W_call hrun hS hF (fun H1 locs1 hP1 hS1 => ?_)
  have := nx p l e s m args below meth c D cT ad A C H1 locs1 ls hL hP1 hS1
  rw [List.map_append] at this
  rw [show ((out2.1.map (cv ad)).toList) = (out2.1.toList.map (cv ad)) by cases out2.1 <;> rfl]
  exact this
/-- System.arraycopy between two arrays of numbers -/
theorem p_copy {idx q0 q1 n0 n1 : Nat} {sp dp n : Int32} (rest : List Value) (h : M.1[k]? = some (pc, .invokestatic idx, 3)) (hl1 : Cond.methodLink M.own idx arraycopyName ∈ TB) (hl2 : Cond.native arraycopyName ∈ TB) (hl3 : Cond.static arraycopyName ∈ TB) (hl4 : Cond.initialized "java/lang/System" ∈ TB) (hq0 : lay[q0]? = some (.inl n0)) (hq1 : lay[q1]? = some (.inl n1)) (h1 : ¬ sp < 0) (h2 : ¬ dp < 0) (h3 : ¬ n < 0) (h4 : sp.toNatClampNeg + n.toNatClampNeg ≤ n0) (h5 : dp.toNatClampNeg + n.toNatClampNeg ≤ n1) (hd : 0 < M.dep) (hw : (rest.map fun v => v.category).sum ≤ 8)
    (nx : PW M out (pc + 3) L rest (upR S q1 (va_cpy (S q0) (S q1) sp.toNatClampNeg dp.toNatClampNeg n.toNatClampNeg))) : PW M out pc L (.int n :: .int dp :: .ref q1 :: .int sp :: .ref q0 :: rest) S := by
  intro p l e0 s m args below meth c D cT ad A C H locs ls hL hP hS
  obtain ⟨hx, hT, hr, hml, hown, hts, hlk, hK, hD, hA, hO⟩ := id C
  have hrw : ((rest.map (cv ad)).map fun v => v.category).sum ≤ 8 := by
    rw [List.map_map]
    rw [show ((fun v : Value => v.category) ∘ cv ad) = (fun v : Value => v.category) from funext (fun v => cv_cat ad v)]
    exact hw
  have hs : c.maxLocals = ls.size := hml.trans hL.1.symm
  have hfr : 1 ≤ (rmd M.dep).frames := hd
  have hlo : ((rest.map (cv ad)).map fun v => v.category).sum + (nativeFrameWords "java/lang/System" "arraycopy" 5 + 11) ≤ (rmd M.dep).locals := by
    have e1 : nativeFrameWords "java/lang/System" "arraycopy" 5 = 7 := by decide
    have e2 : (rmd M.dep).locals = 32 * M.dep := rfl
    rw [e1, e2]
    have : 0 < M.dep := hd
    omega
  refine va_copyi (rest := rest.map (cv ad)) hx rfl hs hown (hts _ hl1) (hts _ hl2) (hts _ hl3) (hts _ hl4) hK hP (hD S) hS q0 q1 0 0 (f := S q0) (g := S q1) (ty := .int) (wl_get hq0) (wl_get hq1) rfl rfl rfl h1 h2 h3 h4 h5 (fun _ _ => rfl) hfr hlo (C.dec h) (fun H1 locs1 hP1 hD1 hS1 => ?_)
  have e : (wl cT ad S).set q1 (ad q1, .inl (cT 0, n1, .inl (va_cpy (S q0) (S q1) sp.toNatClampNeg dp.toNatClampNeg n.toNatClampNeg))) = wl cT ad (upR S q1 (va_cpy (S q0) (S q1) sp.toNatClampNeg dp.toNatClampNeg n.toNatClampNeg)) := wl_set (f := va_cpy (S q0) (S q1) sp.toNatClampNeg dp.toNatClampNeg n.toNatClampNeg) hq1
  rw [e] at hP1
  exact nx p l e0 s m args below meth c D cT ad A C H1 locs1 ls hL hP1 hS1
end CALLS
end
section
/-! Words of the functions that the walks are read as, and their rows. -/
def bnd {α β : Type} (a : α) (k : α → Option β) : Option β := k a
def rd {β : Type} (S : St) (q n : Nat) (i : Int32) (k : Int32 → Option β) : Option β := if i < 0 ∨ n ≤ i.toNatClampNeg then none else k (S q i.toNatClampNeg)
def wr {β : Type} (S : St) (q n : Nat) (i x : Int32) (k : St → Option β) : Option β := if i < 0 ∨ n ≤ i.toNatClampNeg then none else k (up2 S q i.toNatClampNeg x)
def ink {β : Type} (n : Nat) (i : Int32) (k : Option β) : Option β := if i < 0 ∨ n ≤ i.toNatClampNeg then none else k
def cl {α β : Type} (x : Option (α × St)) (k : α → St → Option β) : Option β := match x with
  | none => none
  | some p => k p.1 p.2
def retN (ty : FieldType) (x : Int32) (S : St) : Option (Int32 × St) := if narrow ty (.int x) = .int x then some (x, S) else none
def ac {β : Type} (S : St) (q0 q1 n0 n1 : Nat) (sp dp n : Int32) (k : St → Option β) : Option β := if sp < 0 ∨ dp < 0 ∨ n < 0 ∨ n0 < sp.toNatClampNeg + n.toNatClampNeg ∨ n1 < dp.toNatClampNeg + n.toNatClampNeg then none else k (upR S q1 (va_cpy (S q0) (S q1) sp.toNatClampNeg dp.toNatClampNeg n.toNatClampNeg))
def mnI (x y : Int32) : Int32 := if y < x then y else x
def mxI (x y : Int32) : Int32 := if x < y then y else x
/-- the bound of every loop -/
def FU : Nat := 1024
theorem bnd_ex {α β : Type} {a : α} {k : α → Option β} {o : β} (h : bnd a k = some o) : ∃ x, a = x ∧ k x = some o := ⟨a, rfl, h⟩
theorem cl_some {α β : Type} {x : Option (α × St)} {k : α → St → Option β} {o : β} (h : cl x k = some o) : ∃ r S1, x = some (r, S1) ∧ k r S1 = some o := by
  cases x with
  | none => cases h
  | some p => exact ⟨p.1, p.2, rfl, h⟩
theorem ink_some {β : Type} {n : Nat} {i : Int32} {k : Option β} {o : β} (h : ink n i k = some o) : vp_in i n ∧ k = some o := by
  unfold ink at h
  split at h
  · cases h
  · rename_i hn
    exact ⟨hn, h⟩
theorem toInt_ne {x c : Int32} {z : Int} (h : ¬ x = c) (hc : c.toInt = z) : x.toInt ≠ z := fun e => h (Int32.toInt_inj.mp (by rw [hc, e]))
section STEPS
variable {M : Mi} {out : Out} {pc k : Nat} {L : List (Option Value)} {st : List Value} {S : St} {β : Type} {o : β}
theorem s_bnd {e : Int32} {K : Int32 → Option β} (h : bnd e K = some o) (nx : ∀ x, K x = some o → PW M out pc L (.int x :: st) S) : PW M out pc L (.int e :: st) S := nx e h
theorem s_bndL {e : Int64} {K : Int64 → Option β} (h : bnd e K = some o) (nx : ∀ x, K x = some o → PW M out pc L (.long x :: st) S) : PW M out pc L (.long e :: st) S := nx e h
theorem s_bnd2 {e : Int32} {v : Value} {K : Int32 → Option β} (h : bnd e K = some o) (nx : ∀ x, K x = some o → PW M out pc L (v :: .int x :: st) S) : PW M out pc L (v :: .int e :: st) S := nx e h
theorem s_rd {q n : Nat} {i : Int32} {K : Int32 → Option β} (h : rd S q n i K = some o) (hT : M.1[k]? = some (pc, .iaload, 1)) (hl : lay[q]? = some (.inl n)) (nx : ∀ x, K x = some o → PW M out (pc + 1) L (.int x :: st) S) : PW M out pc L (.int i :: .ref q :: st) S := by
  unfold rd at h
  split at h
  · cases h
  · rename_i hn
    exact p_iald hT hl hn (nx _ h)
theorem s_wr {q n : Nat} {i x : Int32} {K : St → Option β} (h : wr S q n i x K = some o) (hT : M.1[k]? = some (pc, .iastore, 1)) (hl : lay[q]? = some (.inl n)) (nx : ∀ S1, K S1 = some o → PW M out (pc + 1) L st S1) : PW M out pc L (.int x :: .int i :: .ref q :: st) S := by
  unfold wr at h
  split at h
  · cases h
  · rename_i hn
    exact p_iast hT hl hn (nx _ h)
theorem s_put {idx ci j q : Nat} {fs : List (Option Nat)} {v : Int32} {ty : FieldType} {K : St → Option β} (h : bnd (up2 S q j v) K = some o) (hT : M.1[k]? = some (pc, .putfield idx, 3)) (hl : lay[q]? = some (.inr (.inl (ci, fs)))) (hf : fs[j]? = some none) (hF : FL M.2.1 idx ci j) (hG : FP ci j ty) (hn : narrow ty (.int v) = .int v) (hfit : fits ty (.int v) = true) (nx : ∀ S1, K S1 = some o → PW M out (pc + 3) L st S1) : PW M out pc L (.int v :: .ref q :: st) S := p_puti hT hl hf hF hG hn hfit (nx _ h)
theorem s_ac {idx q0 q1 n0 n1 : Nat} {sp dp n : Int32} {K : St → Option β} (rest : List Value) (h : ac S q0 q1 n0 n1 sp dp n K = some o) (hT : M.1[k]? = some (pc, .invokestatic idx, 3)) (hl1 : Cond.methodLink M.own idx arraycopyName ∈ TB) (hl2 : Cond.native arraycopyName ∈ TB) (hl3 : Cond.static arraycopyName ∈ TB) (hl4 : Cond.initialized "java/lang/System" ∈ TB) (hq0 : lay[q0]? = some (.inl n0)) (hq1 : lay[q1]? = some (.inl n1)) (hd : 0 < M.dep) (hw : (rest.map fun v => v.category).sum ≤ 8) (nx : ∀ S1, K S1 = some o → PW M out (pc + 3) L rest S1) : PW M out pc L (.int n :: .int dp :: .ref q1 :: .int sp :: .ref q0 :: rest) S := by
  unfold ac at h
  split at h
  · cases h
  · rename_i hn
    exact p_copy rest hT hl1 hl2 hl3 hl4 hq0 hq1 (fun z => hn (Or.inl z)) (fun z => hn (Or.inr (Or.inl z))) (fun z => hn (Or.inr (Or.inr (Or.inl z)))) (Nat.not_lt.mp (fun z => hn (Or.inr (Or.inr (Or.inr (Or.inl z)))))) (Nat.not_lt.mp (fun z => hn (Or.inr (Or.inr (Or.inr (Or.inr z)))))) hd hw (nx _ h)
theorem s_iret {v r : Int32} {S2 : St} (h : some (v, S) = some (r, S2)) (hT : M.1[k]? = some (pc, .ireturn, 1)) (hty : M.2.2.2.2 = some .int) : PW M (some (.int r), S2) pc L [.int v] S := by
  cases h
  exact p_iret hT hty rfl
theorem s_zret {v r : Int32} {S2 : St} {ty : FieldType} (h : retN ty v S = some (r, S2)) (hT : M.1[k]? = some (pc, .ireturn, 1)) (hty : M.2.2.2.2 = some ty) : PW M (some (.int r), S2) pc L [.int v] S := by
  unfold retN at h
  split at h
  · cases h
    rename_i hn
    exact p_iret hT hty hn
  · cases h
theorem s_lret {v r : Int64} {S2 : St} (h : some (v, S) = some (r, S2)) (hT : M.1[k]? = some (pc, .lreturn, 1)) (hty : M.2.2.2.2 = some .long) : PW M (some (.long r), S2) pc L [.long v] S := by
  cases h
  exact p_lret hT hty
theorem s_vret {r : Unit} {S2 : St} (h : some ((), S) = some (r, S2)) (hT : M.1[k]? = some (pc, .return_, 1)) (hty : M.2.2.2.2 = none) : PW M (none, S2) pc L [] S := by
  cases h
  exact p_vret hT hty
theorem p_mmin {idx : Nat} {x y : Int32} (hT : M.1[k]? = some (pc, .invokestatic idx, 3)) (hl1 : Cond.methodLink M.own idx Lib.Math.min.name ∈ TB) (hl2 : Cond.static Lib.Math.min.name ∈ TB) (hl3 : Cond.initialized "java/lang/Math" ∈ TB) (hl4 : Cond.code Lib.Math.min.name Lib.Math.min.code 2 (some .int) ∈ TB) (hd : 0 < M.dep) (hw : (st.map fun v => v.category).sum ≤ 8) (nx : PW M out (pc + 3) L (.int (mnI x y) :: st) S) : PW M out pc L (.int y :: .int x :: st) S := by
  intro p l e0 s m args below meth c D cT ad A C H locs ls hL hP hS
  obtain ⟨hx, hTT, hr, hml, hown, hts, hlk, hK, hD, hA, hO⟩ := id C
  have hrw : ((st.map (cv ad)).map fun v => v.category).sum ≤ 8 := by
    rw [List.map_map]
    rw [show ((fun v : Value => v.category) ∘ cv ad) = (fun v : Value => v.category) from funext (fun v => cv_cat ad v)]
    exact hw
  have hs : c.maxLocals = ls.size := hml.trans hL.1.symm
  have hfr : 1 ≤ (rmd M.dep).frames := hd
  have hlo : ((st.map (cv ad)).map fun v => v.category).sum + 13 ≤ (rmd M.dep).locals := by
    have e2 : (rmd M.dep).locals = 32 * M.dep := rfl
    rw [e2]
    have : 0 < M.dep := hd
    omega
  exact va_mmin hx rfl hs hown (hts _ hl1) (hts _ hl2) (hts _ hl3) (hts _ hl4) hfr hlo (Nat.zero_le _) (Nat.zero_le _) (C.dec hT) (nx p l e0 s m args below meth c D cT ad A C H locs ls hL hP hS)
theorem p_mmax {idx : Nat} {x y : Int32} (hT : M.1[k]? = some (pc, .invokestatic idx, 3)) (hl1 : Cond.methodLink M.own idx Lib.Math.max.name ∈ TB) (hl2 : Cond.static Lib.Math.max.name ∈ TB) (hl3 : Cond.initialized "java/lang/Math" ∈ TB) (hl4 : Cond.code Lib.Math.max.name Lib.Math.max.code 2 (some .int) ∈ TB) (hd : 0 < M.dep) (hw : (st.map fun v => v.category).sum ≤ 8) (nx : PW M out (pc + 3) L (.int (mxI x y) :: st) S) : PW M out pc L (.int y :: .int x :: st) S := by
  intro p l e0 s m args below meth c D cT ad A C H locs ls hL hP hS
  obtain ⟨hx, hTT, hr, hml, hown, hts, hlk, hK, hD, hA, hO⟩ := id C
  have hrw : ((st.map (cv ad)).map fun v => v.category).sum ≤ 8 := by
    rw [List.map_map]
    rw [show ((fun v : Value => v.category) ∘ cv ad) = (fun v : Value => v.category) from funext (fun v => cv_cat ad v)]
    exact hw
  have hs : c.maxLocals = ls.size := hml.trans hL.1.symm
  have hfr : 1 ≤ (rmd M.dep).frames := hd
  have hlo : ((st.map (cv ad)).map fun v => v.category).sum + 13 ≤ (rmd M.dep).locals := by
    have e2 : (rmd M.dep).locals = 32 * M.dep := rfl
    rw [e2]
    have : 0 < M.dep := hd
    omega
  exact va_mmax hx rfl hs hown (hts _ hl1) (hts _ hl2) (hts _ hl3) (hts _ hl4) hfr hlo (Nat.zero_le _) (Nat.zero_le _) (C.dec hT) (nx p l e0 s m args below meth c D cT ad A C H locs ls hL hP hS)
end STEPS
/-! places of the layout -/
def isC (b : Nat) : Prop := b = 1 ∨ b = 10 ∨ b = 19
def isS (b : Nat) : Prop := b = 32 ∨ b = 34 ∨ b = 36 ∨ b = 38
theorem isC_1 : isC 1 := Or.inl rfl
theorem isC_10 : isC 10 := Or.inr (Or.inl rfl)
theorem isC_19 : isC 19 := Or.inr (Or.inr rfl)
theorem isS_of {i : Int32} (h : vp_in i 4) : isS (32 + 2 * i.toNatClampNeg) := by
  have h1 : i.toNatClampNeg < 4 := Nat.not_le.mp fun q => h (Or.inr q)
  unfold isS
  omega
theorem lay_c {b : Nat} (h : isC b) : lay[b]? = some (.inr (.inl (0, [some (b + 1), some (b + 2), some (b + 3), some (b + 4), some (b + 5), some (b + 6), some (b + 7), some (b + 8), none, none, none, none, none, none]))) := by rcases h with rfl | rfl | rfl <;> rfl
theorem lay_c0 {b : Nat} (h : isC b) : lay[b + 1]? = some (.inl 12) := by rcases h with rfl | rfl | rfl <;> rfl
theorem lay_c1 {b : Nat} (h : isC b) : lay[b + 2]? = some (.inl 8) := by rcases h with rfl | rfl | rfl <;> rfl
theorem lay_c2 {b : Nat} (h : isC b) : lay[b + 3]? = some (.inl 8) := by rcases h with rfl | rfl | rfl <;> rfl
theorem lay_c3 {b : Nat} (h : isC b) : lay[b + 4]? = some (.inl 8) := by rcases h with rfl | rfl | rfl <;> rfl
theorem lay_c4 {b : Nat} (h : isC b) : lay[b + 5]? = some (.inl 8) := by rcases h with rfl | rfl | rfl <;> rfl
theorem lay_c5 {b : Nat} (h : isC b) : lay[b + 6]? = some (.inl 8) := by rcases h with rfl | rfl | rfl <;> rfl
theorem lay_c6 {b : Nat} (h : isC b) : lay[b + 7]? = some (.inl 8) := by rcases h with rfl | rfl | rfl <;> rfl
theorem lay_c7 {b : Nat} (h : isC b) : lay[b + 8]? = some (.inl 10) := by rcases h with rfl | rfl | rfl <;> rfl
theorem lay_s {b : Nat} (h : isS b) : lay[b]? = some (.inr (.inl (2, [some (b + 1), none, none]))) := by rcases h with rfl | rfl | rfl | rfl <;> rfl
theorem lay_s0 {b : Nat} (h : isS b) : lay[b + 1]? = some (.inl 40) := by rcases h with rfl | rfl | rfl | rfl <;> rfl
theorem lay_X4 : lay[0]? = some (.inr (.inl (4, [some 1, some 10, some 19, none, some 28, some 30, some 31, some 40]))) := rfl
theorem lay_X3 : lay[28]? = some (.inr (.inl (3, [some 29, none]))) := rfl
theorem lay_X1 : lay[30]? = some (.inr (.inl (1, [some 28, some 10, none, none, none, none]))) := rfl
theorem lay_31 : lay[31]? = some (.inr (.inr (fun j => 32 + 2 * j))) := rfl
theorem lay_X5 : lay[41]? = some (.inr (.inl (5, [some 42, some 43, some 44, some 45, none, some 46, some 47, none, some 48, some 49, some 50, none, none, none, none, none]))) := rfl
theorem lay_29 : lay[29]? = some (.inl 120) := rfl
theorem lay_40 : lay[40]? = some (.inl 7) := rfl
theorem lay_42 : lay[42]? = some (.inl 75) := rfl
theorem lay_43 : lay[43]? = some (.inl 75) := rfl
theorem lay_44 : lay[44]? = some (.inl 75) := rfl
theorem lay_45 : lay[45]? = some (.inl 75) := rfl
theorem lay_46 : lay[46]? = some (.inl 8) := rfl
theorem lay_47 : lay[47]? = some (.inl 120) := rfl
theorem lay_48 : lay[48]? = some (.inl 4) := rfl
theorem lay_49 : lay[49]? = some (.inl 4) := rfl
theorem lay_50 : lay[50]? = some (.inl 160) := rfl
end
section
def mJ6_bitCount_0f7a4 : Mi := ([(0, .iload_n 0, 1), (1, .iload_n 0, 1), (2, .iconst 1, 1), (3, .iushr, 1), (4, .ldc_w 265, 3), (7, .iand, 1), (8, .isub, 1), (9, .istore_n 0, 1), (10, .iload_n 0, 1), (11, .ldc_w 266, 3), (14, .iand, 1), (15, .iload_n 0, 1), (16, .iconst 2, 1), (17, .iushr, 1), (18, .ldc_w 266, 3), (21, .iand, 1), (22, .iadd, 1), (23, .istore_n 0, 1), (24, .iload_n 0, 1), (25, .iload_n 0, 1), (26, .iconst 4, 1), (27, .iushr, 1), (28, .iadd, 1), (29, .ldc_w 267, 3), (32, .iand, 1), (33, .istore_n 0, 1), (34, .iload_n 0, 1), (35, .iload_n 0, 1), (36, .bipush 8, 2), (38, .iushr, 1), (39, .iadd, 1), (40, .istore_n 0, 1), (41, .iload_n 0, 1), (42, .iload_n 0, 1), (43, .bipush 16, 2), (45, .iushr, 1), (46, .iadd, 1), (47, .istore_n 0, 1), (48, .iload_n 0, 1), (49, .bipush 63, 2), (51, .iand, 1), (52, .ireturn, 1)], RJ6, 0, 1, some .int)
theorem okJ6_bitCount_0f7a4 : MOK yJ6_bitCount_0f7a4 cJ6_bitCount_0f7a4 mJ6_bitCount_0f7a4 := ⟨by decide +kernel, rfl, by decide +kernel⟩
def mJ0_coder_7d493 : Mi := ([(0, .getstatic 38, 3), (3, .ifCond .eq 10, 3), (6, .aload_n 0, 1), (7, .getfield 15, 3), (10, .goto 4, 3), (13, .iconst 1, 1), (14, .ireturn, 1)], RJ0, 0, 1, some .byte)
theorem okJ0_coder_7d493 : MOK yJ0_coder_7d493 cJ0_coder_7d493 mJ0_coder_7d493 := ⟨by decide +kernel, rfl, by decide +kernel⟩
def mJ0_length_8abf5 : Mi := ([(0, .aload_n 0, 1), (1, .getfield 9, 3), (4, .arraylength, 1), (5, .aload_n 0, 1), (6, .invokevirtual 335, 3), (9, .ishr, 1), (10, .ireturn, 1)], RJ0, 1, 1, some .int)
theorem okJ0_length_8abf5 : MOK yJ0_length_8abf5 cJ0_length_8abf5 mJ0_length_8abf5 := ⟨by decide +kernel, rfl, by decide +kernel⟩
def mJ0_isLatin1_aae02 : Mi := ([(0, .getstatic 38, 3), (3, .ifCond .eq 14, 3), (6, .aload_n 0, 1), (7, .getfield 15, 3), (10, .ifCond .ne 7, 3), (13, .iconst 1, 1), (14, .goto 4, 3), (17, .iconst 0, 1), (18, .ireturn, 1)], RJ0, 0, 1, some .boolean)
theorem okJ0_isLatin1_aae02 : MOK yJ0_isLatin1_aae02 cJ0_isLatin1_aae02 mJ0_isLatin1_aae02 := ⟨by decide +kernel, rfl, by decide +kernel⟩
def mJ3_checkIndex_8e157 : Mi := ([(0, .iload_n 0, 1), (1, .ifCond .lt 8, 3), (4, .iload_n 0, 1), (5, .iload_n 1, 1), (6, .if_icmp .lt 10, 3), (9, .aload_n 2, 1), (10, .iload_n 0, 1), (11, .iload_n 1, 1), (12, .invokestatic 95, 3), (15, .athrow, 1), (16, .iload_n 0, 1), (17, .ireturn, 1)], RJ3, 0, 3, some .int)
theorem okJ3_checkIndex_8e157 : MOK yJ3_checkIndex_8e157 cJ3_checkIndex_8e157 mJ3_checkIndex_8e157 := ⟨by decide +kernel, rfl, by decide +kernel⟩
def mJ0_checkIndex_df160 : Mi := ([(0, .iload_n 0, 1), (1, .iload_n 1, 1), (2, .getstatic 1053, 3), (5, .invokestatic 1059, 3), (8, .pop, 1), (9, .return_, 1)], RJ0, 1, 2, none)
theorem okJ0_checkIndex_df160 : MOK yJ0_checkIndex_df160 cJ0_checkIndex_df160 mJ0_checkIndex_df160 := ⟨by decide +kernel, rfl, by decide +kernel⟩
def mJ1_charAt_3b067 : Mi := ([(0, .iload_n 1, 1), (1, .aload_n 0, 1), (2, .arraylength, 1), (3, .invokestatic 9, 3), (6, .aload_n 0, 1), (7, .iload_n 1, 1), (8, .baload, 1), (9, .sipush 255, 3), (12, .iand, 1), (13, .i2c, 1), (14, .ireturn, 1)], RJ1, 2, 2, some .char)
theorem okJ1_charAt_3b067 : MOK yJ1_charAt_3b067 cJ1_charAt_3b067 mJ1_charAt_3b067 := ⟨by decide +kernel, rfl, by decide +kernel⟩
def mJ0_charAt_5068e : Mi := ([(0, .aload_n 0, 1), (1, .invokevirtual 492, 3), (4, .ifCond .eq 12, 3), (7, .aload_n 0, 1), (8, .getfield 9, 3), (11, .iload_n 1, 1), (12, .invokestatic 495, 3), (15, .ireturn, 1), (16, .aload_n 0, 1), (17, .getfield 9, 3), (20, .iload_n 1, 1), (21, .invokestatic 498, 3), (24, .ireturn, 1)], RJ0, 3, 2, some .char)
theorem okJ0_charAt_5068e : MOK yJ0_charAt_5068e cJ0_charAt_5068e mJ0_charAt_5068e := ⟨by decide +kernel, rfl, by decide +kernel⟩
def mX0_become : Mi := ([(0, .aload_n 1, 1), (1, .getfield 11, 3), (4, .iconst 0, 1), (5, .aload_n 0, 1), (6, .getfield 11, 3), (9, .iconst 0, 1), (10, .bipush 12, 2), (12, .invokestatic 46, 3), (15, .aload_n 1, 1), (16, .getfield 15, 3), (19, .iconst 0, 1), (20, .aload_n 0, 1), (21, .getfield 15, 3), (24, .iconst 0, 1), (25, .bipush 8, 2), (27, .invokestatic 46, 3), (30, .aload_n 1, 1), (31, .getfield 18, 3), (34, .iconst 0, 1), (35, .aload_n 0, 1), (36, .getfield 18, 3), (39, .iconst 0, 1), (40, .bipush 8, 2), (42, .invokestatic 46, 3), (45, .aload_n 1, 1), (46, .getfield 21, 3), (49, .iconst 0, 1), (50, .aload_n 0, 1), (51, .getfield 21, 3), (54, .iconst 0, 1), (55, .bipush 8, 2), (57, .invokestatic 46, 3), (60, .aload_n 1, 1), (61, .getfield 24, 3), (64, .iconst 0, 1), (65, .aload_n 0, 1), (66, .getfield 24, 3), (69, .iconst 0, 1), (70, .bipush 8, 2), (72, .invokestatic 46, 3), (75, .aload_n 1, 1), (76, .getfield 27, 3), (79, .iconst 0, 1), (80, .aload_n 0, 1), (81, .getfield 27, 3), (84, .iconst 0, 1), (85, .bipush 8, 2), (87, .invokestatic 46, 3), (90, .aload_n 1, 1), (91, .getfield 30, 3), (94, .iconst 0, 1), (95, .aload_n 0, 1), (96, .getfield 30, 3), (99, .iconst 0, 1), (100, .bipush 8, 2), (102, .invokestatic 46, 3), (105, .aload_n 1, 1), (106, .getfield 33, 3), (109, .iconst 0, 1), (110, .aload_n 0, 1), (111, .getfield 33, 3), (114, .iconst 0, 1), (115, .bipush 10, 2), (117, .invokestatic 46, 3), (120, .aload_n 0, 1), (121, .aload_n 1, 1), (122, .getfield 52, 3), (125, .putfield 52, 3), (128, .aload_n 0, 1), (129, .aload_n 1, 1), (130, .getfield 55, 3), (133, .putfield 55, 3), (136, .aload_n 0, 1), (137, .aload_n 1, 1), (138, .getfield 36, 3), (141, .putfield 36, 3), (144, .aload_n 0, 1), (145, .aload_n 1, 1), (146, .getfield 40, 3), (149, .putfield 40, 3), (152, .aload_n 0, 1), (153, .aload_n 1, 1), (154, .getfield 58, 3), (157, .putfield 58, 3), (160, .aload_n 0, 1), (161, .aload_n 1, 1), (162, .getfield 43, 3), (165, .putfield 43, 3), (168, .return_, 1)], RX0, 1, 2, none)
theorem okX0_become : MOK yX0_become cX0_become mX0_become := ⟨by decide +kernel, rfl, by decide +kernel⟩
def mX0_isFull : Mi := ([(0, .aload_n 0, 1), (1, .getfield 52, 3), (4, .bipush 8, 2), (6, .if_icmp .lt 7, 3), (9, .iconst 1, 1), (10, .goto 4, 3), (13, .iconst 0, 1), (14, .ireturn, 1)], RX0, 0, 1, some .boolean)
theorem okX0_isFull : MOK yX0_isFull cX0_isFull mX0_isFull := ⟨by decide +kernel, rfl, by decide +kernel⟩
def mX0_addGoat : Mi := ([(0, .aload_n 0, 1), (1, .getfield 52, 3), (4, .istore_n 3, 1), (5, .aload_n 0, 1), (6, .getfield 15, 3), (9, .iload_n 3, 1), (10, .iload_n 1, 1), (11, .iastore, 1), (12, .aload_n 0, 1), (13, .getfield 18, 3), (16, .iload_n 3, 1), (17, .iload_n 2, 1), (18, .iastore, 1), (19, .aload_n 0, 1), (20, .getfield 21, 3), (23, .iload_n 3, 1), (24, .iconst 0, 1), (25, .iastore, 1), (26, .aload_n 0, 1), (27, .getfield 24, 3), (30, .iload_n 3, 1), (31, .iconst 0, 1), (32, .iastore, 1), (33, .aload_n 0, 1), (34, .getfield 27, 3), (37, .iload_n 3, 1), (38, .bipush 30, 2), (40, .iastore, 1), (41, .aload_n 0, 1), (42, .getfield 30, 3), (45, .iload_n 3, 1), (46, .iconst 0, 1), (47, .iastore, 1), (48, .aload_n 0, 1), (49, .dup, 1), (50, .getfield 52, 3), (53, .iconst 1, 1), (54, .iadd, 1), (55, .putfield 52, 3), (58, .iload_n 3, 1), (59, .ireturn, 1)], RX0, 0, 4, some .int)
theorem okX0_addGoat : MOK yX0_addGoat cX0_addGoat mX0_addGoat := ⟨by decide +kernel, rfl, by decide +kernel⟩
def mX0_trait : Mi := ([(0, .iload_n 2, 1), (1, .tableswitch 70 0 4 #[35, 42, 49, 56, 63], 35), (36, .aload_n 0, 1), (37, .getfield 15, 3), (40, .iload_n 1, 1), (41, .iaload, 1), (42, .ireturn, 1), (43, .aload_n 0, 1), (44, .getfield 18, 3), (47, .iload_n 1, 1), (48, .iaload, 1), (49, .ireturn, 1), (50, .aload_n 0, 1), (51, .getfield 21, 3), (54, .iload_n 1, 1), (55, .iaload, 1), (56, .ireturn, 1), (57, .aload_n 0, 1), (58, .getfield 24, 3), (61, .iload_n 1, 1), (62, .iaload, 1), (63, .ireturn, 1), (64, .aload_n 0, 1), (65, .getfield 27, 3), (68, .iload_n 1, 1), (69, .iaload, 1), (70, .ireturn, 1), (71, .aload_n 0, 1), (72, .getfield 30, 3), (75, .iload_n 1, 1), (76, .iaload, 1), (77, .ireturn, 1)], RX0, 0, 3, some .int)
theorem okX0_trait : MOK yX0_trait cX0_trait mX0_trait := ⟨by decide +kernel, rfl, by decide +kernel⟩
def mX0_setTrait : Mi := ([(0, .iload_n 2, 1), (1, .tableswitch 85 0 4 #[35, 45, 55, 65, 75], 35), (36, .aload_n 0, 1), (37, .getfield 15, 3), (40, .iload_n 1, 1), (41, .iload_n 3, 1), (42, .iastore, 1), (43, .goto 50, 3), (46, .aload_n 0, 1), (47, .getfield 18, 3), (50, .iload_n 1, 1), (51, .iload_n 3, 1), (52, .iastore, 1), (53, .goto 40, 3), (56, .aload_n 0, 1), (57, .getfield 21, 3), (60, .iload_n 1, 1), (61, .iload_n 3, 1), (62, .iastore, 1), (63, .goto 30, 3), (66, .aload_n 0, 1), (67, .getfield 24, 3), (70, .iload_n 1, 1), (71, .iload_n 3, 1), (72, .iastore, 1), (73, .goto 20, 3), (76, .aload_n 0, 1), (77, .getfield 27, 3), (80, .iload_n 1, 1), (81, .iload_n 3, 1), (82, .iastore, 1), (83, .goto 10, 3), (86, .aload_n 0, 1), (87, .getfield 30, 3), (90, .iload_n 1, 1), (91, .iload_n 3, 1), (92, .iastore, 1), (93, .return_, 1)], RX0, 0, 4, none)
theorem okX0_setTrait : MOK yX0_setTrait cX0_setTrait mX0_setTrait := ⟨by decide +kernel, rfl, by decide +kernel⟩
def mX0_isOfKind : Mi := ([(0, .iload_n 0, 1), (1, .istore_n 2, 1), (2, .iconst 0, 1), (3, .istore_n 3, 1), (4, .iload_n 3, 1), (5, .bipush 7, 2), (7, .if_icmp .ge 23, 3), (10, .iload_n 2, 1), (11, .iload_n 1, 1), (12, .if_icmp .eq 18, 3), (15, .iload_n 2, 1), (16, .ifCond .eq 14, 3), (19, .iload_n 2, 1), (20, .invokestatic 61, 3), (23, .istore_n 2, 1), (24, .iinc 3 1, 3), (27, .goto (-23), 3), (30, .iload_n 2, 1), (31, .iload_n 1, 1), (32, .if_icmp .ne 7, 3), (35, .iconst 1, 1), (36, .goto 4, 3), (39, .iconst 0, 1), (40, .ireturn, 1)], RX0, 1, 4, some .boolean)
theorem okX0_isOfKind : MOK yX0_isOfKind cX0_isOfKind mX0_isOfKind := ⟨by decide +kernel, rfl, by decide +kernel⟩
def mX0_kindAbove : Mi := ([(0, .iload_n 0, 1), (1, .tableswitch 37 3 6 #[31, 33, 37, 35], 31), (32, .iconst 2, 1), (33, .ireturn, 1), (34, .iconst 3, 1), (35, .ireturn, 1), (36, .iconst 1, 1), (37, .ireturn, 1), (38, .iconst 0, 1), (39, .ireturn, 1)], RX0, 0, 1, some .int)
theorem okX0_kindAbove : MOK yX0_kindAbove cX0_kindAbove mX0_kindAbove := ⟨by decide +kernel, rfl, by decide +kernel⟩
def mX0_quotes : Mi := ([(0, .aload_n 0, 1), (1, .getfield 15, 3), (4, .iload_n 1, 1), (5, .iaload, 1), (6, .tableswitch 149 1 6 #[38, 86, 149, 108, 127, 60], 38), (44, .aload_n 0, 1), (45, .getfield 27, 3), (48, .iload_n 1, 1), (49, .iaload, 1), (50, .bipush 10, 2), (52, .if_icmp .lt 12, 3), (55, .aload_n 0, 1), (56, .getfield 21, 3), (59, .iload_n 1, 1), (60, .iaload, 1), (61, .goto 4, 3), (64, .iconst 0, 1), (65, .ireturn, 1), (66, .aload_n 0, 1), (67, .getfield 27, 3), (70, .iload_n 1, 1), (71, .iaload, 1), (72, .bipush 10, 2), (74, .if_icmp .lt 16, 3), (77, .aload_n 0, 1), (78, .getfield 21, 3), (81, .iload_n 1, 1), (82, .iaload, 1), (83, .sipush 255, 3), (86, .iand, 1), (87, .goto 4, 3), (90, .iconst 0, 1), (91, .ireturn, 1), (92, .aload_n 0, 1), (93, .getfield 18, 3), (96, .iload_n 1, 1), (97, .iaload, 1), (98, .iconst 2, 1), (99, .irem, 1), (100, .ifCond .ne 12, 3), (103, .aload_n 0, 1), (104, .getfield 21, 3), (107, .iload_n 1, 1), (108, .iaload, 1), (109, .goto 4, 3), (112, .iconst 0, 1), (113, .ireturn, 1), (114, .aload_n 0, 1), (115, .getfield 21, 3), (118, .iload_n 1, 1), (119, .iaload, 1), (120, .aload_n 0, 1), (121, .getfield 24, 3), (124, .iload_n 1, 1), (125, .iaload, 1), (126, .invokestatic 65, 3), (129, .iconst (-1), 1), (130, .ixor, 1), (131, .iand, 1), (132, .ireturn, 1), (133, .aload_n 0, 1), (134, .getfield 18, 3), (137, .iload_n 1, 1), (138, .iaload, 1), (139, .bipush 11, 2), (141, .if_icmp .ne 12, 3), (144, .aload_n 0, 1), (145, .getfield 21, 3), (148, .iload_n 1, 1), (149, .iaload, 1), (150, .goto 4, 3), (153, .iconst 0, 1), (154, .ireturn, 1), (155, .aload_n 0, 1), (156, .getfield 21, 3), (159, .iload_n 1, 1), (160, .iaload, 1), (161, .ireturn, 1)], RX0, 1, 2, some .int)
theorem okX0_quotes : MOK yX0_quotes cX0_quotes mX0_quotes := ⟨by decide +kernel, rfl, by decide +kernel⟩
def mX0_skippedAt : Mi := ([(0, .iconst 0, 1), (1, .istore_n 1, 1), (2, .iconst 0, 1), (3, .istore_n 2, 1), (4, .iload_n 2, 1), (5, .bipush 16, 2), (7, .if_icmp .ge 23, 3), (10, .iload_n 2, 1), (11, .iload_n 0, 1), (12, .iadd, 1), (13, .iconst 3, 1), (14, .irem, 1), (15, .ifCond .ne 9, 3), (18, .iload_n 1, 1), (19, .iconst 1, 1), (20, .iload_n 2, 1), (21, .ishl, 1), (22, .ior, 1), (23, .istore_n 1, 1), (24, .iinc 2 1, 3), (27, .goto (-23), 3), (30, .iload_n 1, 1), (31, .ireturn, 1)], RX0, 0, 3, some .int)
theorem okX0_skippedAt : MOK yX0_skippedAt cX0_skippedAt mX0_skippedAt := ⟨by decide +kernel, rfl, by decide +kernel⟩
def mX0_costs : Mi := ([(0, .iconst 2, 1), (1, .aload_n 0, 1), (2, .getfield 18, 3), (5, .iload_n 1, 1), (6, .iaload, 1), (7, .iadd, 1), (8, .istore_n 2, 1), (9, .iconst 2, 1), (10, .aload_n 0, 1), (11, .getfield 21, 3), (14, .iload_n 1, 1), (15, .iaload, 1), (16, .invokestatic 68, 3), (19, .iconst 2, 1), (20, .idiv, 1), (21, .iadd, 1), (22, .istore_n 3, 1), (23, .aload_n 0, 1), (24, .getfield 15, 3), (27, .iload_n 1, 1), (28, .iaload, 1), (29, .tableswitch 68 1 6 #[39, 45, 47, 51, 65, 41], 39), (68, .iload_n 2, 1), (69, .ireturn, 1), (70, .iload_n 2, 1), (71, .iconst 2, 1), (72, .idiv, 1), (73, .ireturn, 1), (74, .iload_n 3, 1), (75, .ireturn, 1), (76, .iload_n 3, 1), (77, .iconst 1, 1), (78, .isub, 1), (79, .ireturn, 1), (80, .iload_n 3, 1), (81, .iconst 1, 1), (82, .isub, 1), (83, .aload_n 0, 1), (84, .getfield 24, 3), (87, .iload_n 1, 1), (88, .iaload, 1), (89, .bipush 10, 2), (91, .idiv, 1), (92, .iadd, 1), (93, .ireturn, 1), (94, .bipush 99, 2), (96, .ireturn, 1), (97, .iconst 2, 1), (98, .ireturn, 1)], RX0, 1, 4, some .int)
theorem okX0_costs : MOK yX0_costs cX0_costs mX0_costs := ⟨by decide +kernel, rfl, by decide +kernel⟩
def mX0_grazes : Mi := ([(0, .aload_n 0, 1), (1, .getfield 15, 3), (4, .iload_n 1, 1), (5, .iaload, 1), (6, .tableswitch 48 1 6 #[38, 43, 43, 43, 46, 41], 38), (44, .bipush 7, 2), (46, .ireturn, 1), (47, .iconst 3, 1), (48, .ireturn, 1), (49, .bipush 6, 2), (51, .ireturn, 1), (52, .iconst 2, 1), (53, .ireturn, 1), (54, .iconst 5, 1), (55, .ireturn, 1)], RX0, 0, 2, some .int)
theorem okX0_grazes : MOK yX0_grazes cX0_grazes mX0_grazes := ⟨by decide +kernel, rfl, by decide +kernel⟩
def mX0_climbsTo : Mi := ([(0, .aload_n 0, 1), (1, .getfield 18, 3), (4, .iload_n 1, 1), (5, .iaload, 1), (6, .istore_n 2, 1), (7, .aload_n 0, 1), (8, .getfield 15, 3), (11, .iload_n 1, 1), (12, .iaload, 1), (13, .tableswitch 86 2 5 #[31, 52, 54, 77], 31), (44, .aload_n 0, 1), (45, .getfield 58, 3), (48, .iload_n 1, 1), (49, .iadd, 1), (50, .iconst 2, 1), (51, .irem, 1), (52, .ifCond .ne 11, 3), (55, .aload_n 0, 1), (56, .iload_n 2, 1), (57, .invokevirtual 73, 3), (60, .goto 4, 3), (63, .iload_n 2, 1), (64, .ireturn, 1), (65, .iload_n 2, 1), (66, .ireturn, 1), (67, .aload_n 0, 1), (68, .getfield 24, 3), (71, .iload_n 1, 1), (72, .iaload, 1), (73, .iconst 5, 1), (74, .irem, 1), (75, .ifCond .ne 13, 3), (78, .iload_n 2, 1), (79, .iconst 1, 1), (80, .isub, 1), (81, .iconst 0, 1), (82, .invokestatic 76, 3), (85, .goto 4, 3), (88, .iload_n 2, 1), (89, .ireturn, 1), (90, .iload_n 2, 1), (91, .iconst 1, 1), (92, .iadd, 1), (93, .bipush 11, 2), (95, .invokestatic 82, 3), (98, .ireturn, 1), (99, .aload_n 0, 1), (100, .iload_n 2, 1), (101, .invokevirtual 73, 3), (104, .ireturn, 1)], RX0, 1, 3, some .int)
theorem okX0_climbsTo : MOK yX0_climbsTo cX0_climbsTo mX0_climbsTo := ⟨by decide +kernel, rfl, by decide +kernel⟩
def mX0_greenestNear : Mi := ([(0, .iload_n 1, 1), (1, .istore_n 2, 1), (2, .iload_n 1, 1), (3, .iconst 1, 1), (4, .iadd, 1), (5, .bipush 12, 2), (7, .if_icmp .ge 24, 3), (10, .aload_n 0, 1), (11, .getfield 11, 3), (14, .iload_n 1, 1), (15, .iconst 1, 1), (16, .iadd, 1), (17, .iaload, 1), (18, .aload_n 0, 1), (19, .getfield 11, 3), (22, .iload_n 2, 1), (23, .iaload, 1), (24, .if_icmp .le 7, 3), (27, .iload_n 1, 1), (28, .iconst 1, 1), (29, .iadd, 1), (30, .istore_n 2, 1), (31, .iload_n 1, 1), (32, .ifCond .le 24, 3), (35, .aload_n 0, 1), (36, .getfield 11, 3), (39, .iload_n 1, 1), (40, .iconst 1, 1), (41, .isub, 1), (42, .iaload, 1), (43, .aload_n 0, 1), (44, .getfield 11, 3), (47, .iload_n 2, 1), (48, .iaload, 1), (49, .if_icmp .le 7, 3), (52, .iload_n 1, 1), (53, .iconst 1, 1), (54, .isub, 1), (55, .istore_n 2, 1), (56, .iload_n 2, 1), (57, .ireturn, 1)], RX0, 0, 3, some .int)
theorem okX0_greenestNear : MOK yX0_greenestNear cX0_greenestNear mX0_greenestNear := ⟨by decide +kernel, rfl, by decide +kernel⟩
def mX0_passDays : Mi := ([(0, .iconst 0, 1), (1, .istore_n 2, 1), (2, .iload_n 2, 1), (3, .iload_n 1, 1), (4, .if_icmp .ge 13, 3), (7, .aload_n 0, 1), (8, .invokevirtual 85, 3), (11, .iinc 2 1, 3), (14, .goto (-12), 3), (17, .return_, 1)], RX0, 6, 3, none)
theorem okX0_passDays : MOK yX0_passDays cX0_passDays mX0_passDays := ⟨by decide +kernel, rfl, by decide +kernel⟩
def mX0_passDay : Mi := ([(0, .iconst 0, 1), (1, .istore_n 1, 1), (2, .iload_n 1, 1), (3, .aload_n 0, 1), (4, .getfield 52, 3), (7, .if_icmp .ge 22, 3), (10, .aload_n 0, 1), (11, .iload_n 1, 1), (12, .invokevirtual 88, 3), (15, .ifCond .eq 8, 3), (18, .aload_n 0, 1), (19, .iload_n 1, 1), (20, .invokevirtual 92, 3), (23, .iinc 1 1, 3), (26, .goto (-24), 3), (29, .iconst 0, 1), (30, .istore_n 1, 1), (31, .iload_n 1, 1), (32, .aload_n 0, 1), (33, .getfield 52, 3), (36, .if_icmp .ge 42, 3), (39, .aload_n 0, 1), (40, .iload_n 1, 1), (41, .invokevirtual 88, 3), (44, .ifCond .eq 28, 3), (47, .aload_n 0, 1), (48, .iload_n 1, 1), (49, .invokevirtual 96, 3), (52, .aload_n 0, 1), (53, .getfield 24, 3), (56, .iload_n 1, 1), (57, .aload_n 0, 1), (58, .getfield 24, 3), (61, .iload_n 1, 1), (62, .iaload, 1), (63, .iconst 1, 1), (64, .iadd, 1), (65, .sipush 9999, 3), (68, .invokestatic 82, 3), (71, .iastore, 1), (72, .iinc 1 1, 3), (75, .goto (-44), 3), (78, .iconst 0, 1), (79, .istore_n 1, 1), (80, .iload_n 1, 1), (81, .bipush 12, 2), (83, .if_icmp .ge 31, 3), (86, .aload_n 0, 1), (87, .getfield 11, 3), (90, .iload_n 1, 1), (91, .aload_n 0, 1), (92, .getfield 11, 3), (95, .iload_n 1, 1), (96, .iaload, 1), (97, .aload_n 0, 1), (98, .getfield 36, 3), (101, .iadd, 1), (102, .bipush 99, 2), (104, .invokestatic 82, 3), (107, .iastore, 1), (108, .iinc 1 1, 3), (111, .goto (-31), 3), (114, .aload_n 0, 1), (115, .aload_n 0, 1), (116, .getfield 58, 3), (119, .iconst 1, 1), (120, .iadd, 1), (121, .ldc 99, 2), (123, .invokestatic 82, 3), (126, .putfield 58, 3), (129, .return_, 1)], RX0, 5, 2, none)
theorem okX0_passDay : MOK yX0_passDay cX0_passDay mX0_passDay := ⟨by decide +kernel, rfl, by decide +kernel⟩
def mX0_climbAndGraze : Mi := ([(0, .aload_n 0, 1), (1, .iload_n 1, 1), (2, .invokevirtual 100, 3), (5, .istore_n 2, 1), (6, .aload_n 0, 1), (7, .getfield 18, 3), (10, .iload_n 1, 1), (11, .iload_n 2, 1), (12, .iastore, 1), (13, .aload_n 0, 1), (14, .iload_n 1, 1), (15, .invokevirtual 103, 3), (18, .aload_n 0, 1), (19, .getfield 11, 3), (22, .iload_n 2, 1), (23, .iaload, 1), (24, .invokestatic 82, 3), (27, .istore_n 3, 1), (28, .aload_n 0, 1), (29, .getfield 11, 3), (32, .iload_n 2, 1), (33, .dup2, 1), (34, .iaload, 1), (35, .iload_n 3, 1), (36, .isub, 1), (37, .iastore, 1), (38, .aload_n 0, 1), (39, .getfield 27, 3), (42, .iload_n 1, 1), (43, .aload_n 0, 1), (44, .getfield 27, 3), (47, .iload_n 1, 1), (48, .iaload, 1), (49, .iload_n 3, 1), (50, .iadd, 1), (51, .bipush 99, 2), (53, .invokestatic 82, 3), (56, .iconst 3, 1), (57, .isub, 1), (58, .iconst 0, 1), (59, .invokestatic 76, 3), (62, .iastore, 1), (63, .return_, 1)], RX0, 2, 4, none)
theorem okX0_climbAndGraze : MOK yX0_climbAndGraze cX0_climbAndGraze mX0_climbAndGraze := ⟨by decide +kernel, rfl, by decide +kernel⟩
def mX0_learnOrForget : Mi := ([(0, .aload_n 0, 1), (1, .getfield 27, 3), (4, .iload_n 1, 1), (5, .iaload, 1), (6, .bipush 20, 2), (8, .if_icmp .lt 34, 3), (11, .aload_n 0, 1), (12, .getfield 21, 3), (15, .iload_n 1, 1), (16, .dup2, 1), (17, .iaload, 1), (18, .aload_n 0, 1), (19, .aload_n 0, 1), (20, .getfield 18, 3), (23, .iload_n 1, 1), (24, .iaload, 1), (25, .invokevirtual 106, 3), (28, .aload_n 0, 1), (29, .getfield 21, 3), (32, .iload_n 1, 1), (33, .iaload, 1), (34, .iconst (-1), 1), (35, .ixor, 1), (36, .iand, 1), (37, .invokestatic 109, 3), (40, .ior, 1), (41, .iastore, 1), (42, .aload_n 0, 1), (43, .getfield 27, 3), (46, .iload_n 1, 1), (47, .iaload, 1), (48, .ifCond .ne 18, 3), (51, .aload_n 0, 1), (52, .getfield 21, 3), (55, .iload_n 1, 1), (56, .aload_n 0, 1), (57, .getfield 21, 3), (60, .iload_n 1, 1), (61, .iaload, 1), (62, .invokestatic 112, 3), (65, .iastore, 1), (66, .return_, 1)], RX0, 4, 2, none)
theorem okX0_learnOrForget : MOK yX0_learnOrForget cX0_learnOrForget mX0_learnOrForget := ⟨by decide +kernel, rfl, by decide +kernel⟩
def mX0_withoutGreatest : Mi := ([(0, .bipush 15, 2), (2, .istore_n 1, 1), (3, .iload_n 1, 1), (4, .ifCond .lt 25, 3), (7, .iload_n 0, 1), (8, .iload_n 1, 1), (9, .invokestatic 115, 3), (12, .ifCond .eq 11, 3), (15, .iload_n 0, 1), (16, .iconst 1, 1), (17, .iload_n 1, 1), (18, .ishl, 1), (19, .iconst (-1), 1), (20, .ixor, 1), (21, .iand, 1), (22, .ireturn, 1), (23, .iinc 1 (-1), 3), (26, .goto (-23), 3), (29, .iload_n 0, 1), (30, .ireturn, 1)], RX0, 1, 2, some .int)
theorem okX0_withoutGreatest : MOK yX0_withoutGreatest cX0_withoutGreatest mX0_withoutGreatest := ⟨by decide +kernel, rfl, by decide +kernel⟩
def mX0_slip : Mi := ([(0, .aload_n 0, 1), (1, .getfield 11, 3), (4, .aload_n 0, 1), (5, .invokevirtual 119, 3), (8, .bipush 12, 2), (10, .irem, 1), (11, .iconst 0, 1), (12, .iastore, 1), (13, .aload_n 0, 1), (14, .invokevirtual 119, 3), (17, .bipush 8, 2), (19, .irem, 1), (20, .istore_n 1, 1), (21, .iload_n 1, 1), (22, .aload_n 0, 1), (23, .getfield 52, 3), (26, .if_icmp .ge 10, 3), (29, .aload_n 0, 1), (30, .getfield 18, 3), (33, .iload_n 1, 1), (34, .iconst 0, 1), (35, .iastore, 1), (36, .return_, 1)], RX0, 1, 2, none)
theorem okX0_slip : MOK yX0_slip cX0_slip mX0_slip := ⟨by decide +kernel, rfl, by decide +kernel⟩
def mX0_draw : Mi := ([(0, .aload_n 0, 1), (1, .aload_n 0, 1), (2, .getfield 43, 3), (5, .ldc 123, 2), (7, .imul, 1), (8, .sipush 12345, 3), (11, .iadd, 1), (12, .putfield 43, 3), (15, .aload_n 0, 1), (16, .getfield 43, 3), (19, .bipush 8, 2), (21, .iushr, 1), (22, .ireturn, 1)], RX0, 0, 1, some .int)
theorem okX0_draw : MOK yX0_draw cX0_draw mX0_draw := ⟨by decide +kernel, rfl, by decide +kernel⟩
def mX0_isHere : Mi := ([(0, .aload_n 0, 1), (1, .getfield 55, 3), (4, .iload_n 1, 1), (5, .invokestatic 115, 3), (8, .ifCond .ne 7, 3), (11, .iconst 1, 1), (12, .goto 4, 3), (15, .iconst 0, 1), (16, .ireturn, 1)], RX0, 1, 2, some .boolean)
theorem okX0_isHere : MOK yX0_isHere cX0_isHere mX0_isHere := ⟨by decide +kernel, rfl, by decide +kernel⟩
def mX0_goatsOn : Mi := ([(0, .iconst 0, 1), (1, .istore_n 2, 1), (2, .iconst 0, 1), (3, .istore_n 3, 1), (4, .iload_n 3, 1), (5, .aload_n 0, 1), (6, .getfield 52, 3), (9, .if_icmp .ge 33, 3), (12, .aload_n 0, 1), (13, .iload_n 3, 1), (14, .invokevirtual 88, 3), (17, .ifCond .eq 19, 3), (20, .aload_n 0, 1), (21, .getfield 18, 3), (24, .iload_n 3, 1), (25, .iaload, 1), (26, .iload_n 1, 1), (27, .if_icmp .ne 9, 3), (30, .iload_n 2, 1), (31, .iconst 1, 1), (32, .iload_n 3, 1), (33, .ishl, 1), (34, .ior, 1), (35, .istore_n 2, 1), (36, .iinc 3 1, 3), (39, .goto (-35), 3), (42, .iload_n 2, 1), (43, .ireturn, 1)], RX0, 2, 4, some .int)
theorem okX0_goatsOn : MOK yX0_goatsOn cX0_goatsOn mX0_goatsOn := ⟨by decide +kernel, rfl, by decide +kernel⟩
def mX0_goatsKnowing : Mi := ([(0, .iconst 0, 1), (1, .istore_n 2, 1), (2, .iconst 0, 1), (3, .istore_n 3, 1), (4, .iload_n 3, 1), (5, .aload_n 0, 1), (6, .getfield 52, 3), (9, .if_icmp .ge 36, 3), (12, .aload_n 0, 1), (13, .iload_n 3, 1), (14, .invokevirtual 88, 3), (17, .ifCond .eq 22, 3), (20, .aload_n 0, 1), (21, .getfield 21, 3), (24, .iload_n 3, 1), (25, .iaload, 1), (26, .iload_n 1, 1), (27, .invokestatic 115, 3), (30, .ifCond .eq 9, 3), (33, .iload_n 2, 1), (34, .iconst 1, 1), (35, .iload_n 3, 1), (36, .ishl, 1), (37, .ior, 1), (38, .istore_n 2, 1), (39, .iinc 3 1, 3), (42, .goto (-38), 3), (45, .iload_n 2, 1), (46, .ireturn, 1)], RX0, 2, 4, some .int)
theorem okX0_goatsKnowing : MOK yX0_goatsKnowing cX0_goatsKnowing mX0_goatsKnowing := ⟨by decide +kernel, rfl, by decide +kernel⟩
def mX0_pagesOf : Mi := ([(0, .iconst 0, 1), (1, .istore_n 2, 1), (2, .iconst 0, 1), (3, .istore_n 3, 1), (4, .iload_n 3, 1), (5, .aload_n 0, 1), (6, .getfield 52, 3), (9, .if_icmp .ge 26, 3), (12, .iload_n 1, 1), (13, .iload_n 3, 1), (14, .invokestatic 115, 3), (17, .ifCond .eq 12, 3), (20, .iload_n 2, 1), (21, .aload_n 0, 1), (22, .getfield 21, 3), (25, .iload_n 3, 1), (26, .iaload, 1), (27, .ior, 1), (28, .istore_n 2, 1), (29, .iinc 3 1, 3), (32, .goto (-28), 3), (35, .iload_n 2, 1), (36, .ireturn, 1)], RX0, 1, 4, some .int)
theorem okX0_pagesOf : MOK yX0_pagesOf cX0_pagesOf mX0_pagesOf := ⟨by decide +kernel, rfl, by decide +kernel⟩
def mX0_pagesOn : Mi := ([(0, .aload_n 0, 1), (1, .aload_n 0, 1), (2, .iload_n 1, 1), (3, .invokevirtual 124, 3), (6, .invokevirtual 127, 3), (9, .ireturn, 1)], RX0, 3, 2, some .int)
theorem okX0_pagesOn : MOK yX0_pagesOn cX0_pagesOn mX0_pagesOn := ⟨by decide +kernel, rfl, by decide +kernel⟩
def mX0_pagesKnown : Mi := ([(0, .aload_n 0, 1), (1, .aload_n 0, 1), (2, .getfield 55, 3), (5, .iconst (-1), 1), (6, .ixor, 1), (7, .invokevirtual 127, 3), (10, .ireturn, 1)], RX0, 2, 1, some .int)
theorem okX0_pagesKnown : MOK yX0_pagesKnown cX0_pagesKnown mX0_pagesKnown := ⟨by decide +kernel, rfl, by decide +kernel⟩
def mX0_isInPrint : Mi := ([(0, .aload_n 0, 1), (1, .invokevirtual 130, 3), (4, .iload_n 1, 1), (5, .invokestatic 115, 3), (8, .ireturn, 1)], RX0, 3, 2, some .boolean)
theorem okX0_isInPrint : MOK yX0_isInPrint cX0_isInPrint mX0_isInPrint := ⟨by decide +kernel, rfl, by decide +kernel⟩
def mX0_cheapestQuoting : Mi := ([(0, .iconst (-1), 1), (1, .istore_n 2, 1), (2, .iconst 0, 1), (3, .istore_n 3, 1), (4, .iload_n 3, 1), (5, .aload_n 0, 1), (6, .getfield 52, 3), (9, .if_icmp .ge 40, 3), (12, .aload_n 0, 1), (13, .iload_n 3, 1), (14, .invokevirtual 133, 3), (17, .iload_n 1, 1), (18, .invokestatic 115, 3), (21, .ifCond .eq 22, 3), (24, .iload_n 2, 1), (25, .ifCond .lt 16, 3), (28, .aload_n 0, 1), (29, .iload_n 3, 1), (30, .invokevirtual 136, 3), (33, .aload_n 0, 1), (34, .iload_n 2, 1), (35, .invokevirtual 136, 3), (38, .if_icmp .ge 5, 3), (41, .iload_n 3, 1), (42, .istore_n 2, 1), (43, .iinc 3 1, 3), (46, .goto (-42), 3), (49, .iload_n 2, 1), (50, .ireturn, 1)], RX0, 2, 4, some .int)
theorem okX0_cheapestQuoting : MOK yX0_cheapestQuoting cX0_cheapestQuoting mX0_cheapestQuoting := ⟨by decide +kernel, rfl, by decide +kernel⟩
def mX0_wisest : Mi := ([(0, .iconst (-1), 1), (1, .istore_n 1, 1), (2, .iconst 0, 1), (3, .istore_n 2, 1), (4, .iload_n 2, 1), (5, .aload_n 0, 1), (6, .getfield 52, 3), (9, .if_icmp .ge 36, 3), (12, .iload_n 1, 1), (13, .ifCond .lt 24, 3), (16, .aload_n 0, 1), (17, .getfield 21, 3), (20, .iload_n 2, 1), (21, .iaload, 1), (22, .invokestatic 68, 3), (25, .aload_n 0, 1), (26, .getfield 21, 3), (29, .iload_n 1, 1), (30, .iaload, 1), (31, .invokestatic 68, 3), (34, .if_icmp .le 5, 3), (37, .iload_n 2, 1), (38, .istore_n 1, 1), (39, .iinc 2 1, 3), (42, .goto (-38), 3), (45, .iload_n 1, 1), (46, .ireturn, 1)], RX0, 1, 3, some .int)
theorem okX0_wisest : MOK yX0_wisest cX0_wisest mX0_wisest := ⟨by decide +kernel, rfl, by decide +kernel⟩
def mX0_grassInAll : Mi := ([(0, .iconst 0, 1), (1, .istore_n 1, 1), (2, .iconst 0, 1), (3, .istore_n 2, 1), (4, .iload_n 2, 1), (5, .bipush 12, 2), (7, .if_icmp .ge 18, 3), (10, .iload_n 1, 1), (11, .aload_n 0, 1), (12, .getfield 11, 3), (15, .iload_n 2, 1), (16, .iaload, 1), (17, .iadd, 1), (18, .istore_n 1, 1), (19, .iinc 2 1, 3), (22, .goto (-18), 3), (25, .iload_n 1, 1), (26, .ireturn, 1)], RX0, 0, 3, some .int)
theorem okX0_grassInAll : MOK yX0_grassInAll cX0_grassInAll mX0_grassInAll := ⟨by decide +kernel, rfl, by decide +kernel⟩
def mX0_fedInAll : Mi := ([(0, .iconst 0, 1), (1, .istore_n 1, 1), (2, .iconst 0, 1), (3, .istore_n 2, 1), (4, .iload_n 2, 1), (5, .aload_n 0, 1), (6, .getfield 52, 3), (9, .if_icmp .ge 18, 3), (12, .iload_n 1, 1), (13, .aload_n 0, 1), (14, .getfield 27, 3), (17, .iload_n 2, 1), (18, .iaload, 1), (19, .iadd, 1), (20, .istore_n 1, 1), (21, .iinc 2 1, 3), (24, .goto (-20), 3), (27, .iload_n 1, 1), (28, .ireturn, 1)], RX0, 0, 3, some .int)
theorem okX0_fedInAll : MOK yX0_fedInAll cX0_fedInAll mX0_fedInAll := ⟨by decide +kernel, rfl, by decide +kernel⟩
def mX0_ledgesWithGoats : Mi := ([(0, .iconst 0, 1), (1, .istore_n 1, 1), (2, .iconst 0, 1), (3, .istore_n 2, 1), (4, .iload_n 2, 1), (5, .aload_n 0, 1), (6, .getfield 52, 3), (9, .if_icmp .ge 20, 3), (12, .iload_n 1, 1), (13, .iconst 1, 1), (14, .aload_n 0, 1), (15, .getfield 18, 3), (18, .iload_n 2, 1), (19, .iaload, 1), (20, .ishl, 1), (21, .ior, 1), (22, .istore_n 1, 1), (23, .iinc 2 1, 3), (26, .goto (-22), 3), (29, .iload_n 1, 1), (30, .ireturn, 1)], RX0, 0, 3, some .int)
theorem okX0_ledgesWithGoats : MOK yX0_ledgesWithGoats cX0_ledgesWithGoats mX0_ledgesWithGoats := ⟨by decide +kernel, rfl, by decide +kernel⟩
def mX0_spotsInUse : Mi := ([(0, .iconst 0, 1), (1, .istore_n 1, 1), (2, .iconst 0, 1), (3, .istore_n 2, 1), (4, .iload_n 2, 1), (5, .bipush 10, 2), (7, .if_icmp .ge 21, 3), (10, .aload_n 0, 1), (11, .getfield 33, 3), (14, .iload_n 2, 1), (15, .iaload, 1), (16, .ifCond .lt 6, 3), (19, .iinc 1 1, 3), (22, .iinc 2 1, 3), (25, .goto (-21), 3), (28, .iload_n 1, 1), (29, .ireturn, 1)], RX0, 0, 3, some .int)
theorem okX0_spotsInUse : MOK yX0_spotsInUse cX0_spotsInUse mX0_spotsInUse := ⟨by decide +kernel, rfl, by decide +kernel⟩
def mX1_readText : Mi := ([(0, .aload_n 0, 1), (1, .iconst 0, 1), (2, .putfield 19, 3), (5, .aload_n 0, 1), (6, .invokevirtual 23, 3), (9, .iconst 1, 1), (10, .istore_n 1, 1), (11, .iload_n 1, 1), (12, .bipush 120, 2), (14, .if_icmp .gt 51, 3), (17, .aload_n 0, 1), (18, .invokevirtual 28, 3), (21, .ifCond .ne 10, 3), (24, .iconst (-1), 1), (25, .aload_n 0, 1), (26, .getfield 32, 3), (29, .isub, 1), (30, .ireturn, 1), (31, .aload_n 0, 1), (32, .getfield 35, 3), (35, .ifCond .ne 5, 3), (38, .iload_n 1, 1), (39, .ireturn, 1), (40, .aload_n 0, 1), (41, .getfield 35, 3), (44, .iconst 3, 1), (45, .if_icmp .eq 10, 3), (48, .iconst (-1), 1), (49, .aload_n 0, 1), (50, .getfield 32, 3), (53, .isub, 1), (54, .ireturn, 1), (55, .aload_n 0, 1), (56, .invokevirtual 23, 3), (59, .iinc 1 1, 3), (62, .goto (-51), 3), (65, .iconst (-1), 1), (66, .aload_n 0, 1), (67, .getfield 32, 3), (70, .isub, 1), (71, .ireturn, 1)], RX1, 8, 2, some .int)
theorem okX1_readText : MOK yX1_readText cX1_readText mX1_readText := ⟨by decide +kernel, rfl, by decide +kernel⟩
def mX1_readItem : Mi := ([(0, .aload_n 0, 1), (1, .invokevirtual 38, 3), (4, .istore_n 1, 1), (5, .iload_n 1, 1), (6, .ifCond .lt 9, 3), (9, .aload_n 0, 1), (10, .iload_n 1, 1), (11, .invokevirtual 42, 3), (14, .ireturn, 1), (15, .aload_n 0, 1), (16, .ldc 46, 2), (18, .invokevirtual 48, 3), (21, .ifCond .eq 8, 3), (24, .aload_n 0, 1), (25, .invokevirtual 52, 3), (28, .ireturn, 1), (29, .aload_n 0, 1), (30, .ldc 55, 2), (32, .invokevirtual 48, 3), (35, .ifCond .eq 8, 3), (38, .aload_n 0, 1), (39, .invokevirtual 57, 3), (42, .ireturn, 1), (43, .aload_n 0, 1), (44, .ldc 60, 2), (46, .invokevirtual 48, 3), (49, .ifCond .eq 14, 3), (52, .aload_n 0, 1), (53, .invokevirtual 62, 3), (56, .ifCond .eq 7, 3), (59, .iconst 1, 1), (60, .goto 4, 3), (63, .iconst 0, 1), (64, .ireturn, 1)], RX1, 7, 2, some .boolean)
theorem okX1_readItem : MOK yX1_readItem cX1_readItem mX1_readItem := ⟨by decide +kernel, rfl, by decide +kernel⟩
def mX1_kindTold : Mi := ([(0, .aload_n 0, 1), (1, .ldc 65, 2), (3, .invokevirtual 48, 3), (6, .ifCond .eq 5, 3), (9, .iconst 0, 1), (10, .ireturn, 1), (11, .aload_n 0, 1), (12, .ldc 69, 2), (14, .invokevirtual 48, 3), (17, .ifCond .eq 5, 3), (20, .iconst 1, 1), (21, .ireturn, 1), (22, .aload_n 0, 1), (23, .ldc 71, 2), (25, .invokevirtual 48, 3), (28, .ifCond .eq 5, 3), (31, .iconst 2, 1), (32, .ireturn, 1), (33, .aload_n 0, 1), (34, .ldc 73, 2), (36, .invokevirtual 48, 3), (39, .ifCond .eq 5, 3), (42, .iconst 3, 1), (43, .ireturn, 1), (44, .aload_n 0, 1), (45, .ldc 75, 2), (47, .invokevirtual 48, 3), (50, .ifCond .eq 5, 3), (53, .iconst 4, 1), (54, .ireturn, 1), (55, .aload_n 0, 1), (56, .ldc 77, 2), (58, .invokevirtual 48, 3), (61, .ifCond .eq 5, 3), (64, .iconst 5, 1), (65, .ireturn, 1), (66, .aload_n 0, 1), (67, .ldc 79, 2), (69, .invokevirtual 48, 3), (72, .ifCond .eq 8, 3), (75, .bipush 6, 2), (77, .goto 4, 3), (80, .iconst (-1), 1), (81, .ireturn, 1)], RX1, 5, 1, some .int)
theorem okX1_kindTold : MOK yX1_kindTold cX1_kindTold mX1_kindTold := ⟨by decide +kernel, rfl, by decide +kernel⟩
def mX1_readGoat : Mi := ([(0, .aload_n 0, 1), (1, .getfield 15, 3), (4, .invokevirtual 81, 3), (7, .ifCond .eq 5, 3), (10, .iconst 0, 1), (11, .ireturn, 1), (12, .aload_n 0, 1), (13, .getfield 15, 3), (16, .iload_n 1, 1), (17, .iconst 0, 1), (18, .invokevirtual 84, 3), (21, .istore_n 2, 1), (22, .aload_n 0, 1), (23, .invokevirtual 23, 3), (26, .aload_n 0, 1), (27, .ldc 88, 2), (29, .iload_n 2, 1), (30, .iconst 1, 1), (31, .bipush 11, 2), (33, .invokevirtual 90, 3), (36, .ifCond .eq 33, 3), (39, .aload_n 0, 1), (40, .ldc 94, 2), (42, .iload_n 2, 1), (43, .iconst 2, 1), (44, .ldc 96, 2), (46, .invokevirtual 90, 3), (49, .ifCond .eq 20, 3), (52, .aload_n 0, 1), (53, .ldc 97, 2), (55, .iload_n 2, 1), (56, .iconst 4, 1), (57, .bipush 99, 2), (59, .invokevirtual 90, 3), (62, .ifCond .eq 7, 3), (65, .iconst 1, 1), (66, .goto 4, 3), (69, .iconst 0, 1), (70, .ireturn, 1)], RX1, 6, 3, some .boolean)
theorem okX1_readGoat : MOK yX1_readGoat cX1_readGoat mX1_readGoat := ⟨by decide +kernel, rfl, by decide +kernel⟩
def mX1_readTrait : Mi := ([(0, .aload_n 0, 1), (1, .aload_n 1, 1), (2, .invokevirtual 48, 3), (5, .ifCond .ne 5, 3), (8, .iconst 1, 1), (9, .ireturn, 1), (10, .aload_n 0, 1), (11, .invokevirtual 23, 3), (14, .aload_n 0, 1), (15, .iload 4, 2), (17, .invokevirtual 99, 3), (20, .ifCond .ne 5, 3), (23, .iconst 0, 1), (24, .ireturn, 1), (25, .aload_n 0, 1), (26, .getfield 15, 3), (29, .iload_n 2, 1), (30, .iload_n 3, 1), (31, .aload_n 0, 1), (32, .getfield 102, 3), (35, .invokevirtual 105, 3), (38, .iconst 1, 1), (39, .ireturn, 1)], RX1, 5, 5, some .boolean)
theorem okX1_readTrait : MOK yX1_readTrait cX1_readTrait mX1_readTrait := ⟨by decide +kernel, rfl, by decide +kernel⟩
def mX1_readGrass : Mi := ([(0, .aload_n 0, 1), (1, .invokevirtual 23, 3), (4, .aload_n 0, 1), (5, .bipush 11, 2), (7, .invokevirtual 99, 3), (10, .ifCond .ne 5, 3), (13, .iconst 0, 1), (14, .ireturn, 1), (15, .aload_n 0, 1), (16, .getfield 102, 3), (19, .istore_n 1, 1), (20, .aload_n 0, 1), (21, .bipush 99, 2), (23, .invokevirtual 99, 3), (26, .ifCond .ne 5, 3), (29, .iconst 0, 1), (30, .ireturn, 1), (31, .aload_n 0, 1), (32, .getfield 15, 3), (35, .getfield 109, 3), (38, .iload_n 1, 1), (39, .aload_n 0, 1), (40, .getfield 102, 3), (43, .iastore, 1), (44, .iconst 1, 1), (45, .ireturn, 1)], RX1, 3, 2, some .boolean)
theorem okX1_readGrass : MOK yX1_readGrass cX1_readGrass mX1_readGrass := ⟨by decide +kernel, rfl, by decide +kernel⟩
def mX1_readGrows : Mi := ([(0, .aload_n 0, 1), (1, .invokevirtual 23, 3), (4, .aload_n 0, 1), (5, .bipush 20, 2), (7, .invokevirtual 99, 3), (10, .ifCond .ne 5, 3), (13, .iconst 0, 1), (14, .ireturn, 1), (15, .aload_n 0, 1), (16, .getfield 15, 3), (19, .aload_n 0, 1), (20, .getfield 102, 3), (23, .putfield 112, 3), (26, .iconst 1, 1), (27, .ireturn, 1)], RX1, 3, 1, some .boolean)
theorem okX1_readGrows : MOK yX1_readGrows cX1_readGrows mX1_readGrows := ⟨by decide +kernel, rfl, by decide +kernel⟩
def mX1_readSalt : Mi := ([(0, .aload_n 0, 1), (1, .invokevirtual 23, 3), (4, .aload_n 0, 1), (5, .sipush 9999, 3), (8, .invokevirtual 99, 3), (11, .ifCond .ne 5, 3), (14, .iconst 0, 1), (15, .ireturn, 1), (16, .aload_n 0, 1), (17, .getfield 15, 3), (20, .aload_n 0, 1), (21, .getfield 102, 3), (24, .putfield 114, 3), (27, .iconst 1, 1), (28, .ireturn, 1)], RX1, 3, 1, some .boolean)
theorem okX1_readSalt : MOK yX1_readSalt cX1_readSalt mX1_readSalt := ⟨by decide +kernel, rfl, by decide +kernel⟩
def mX1_takeNumber : Mi := ([(0, .aload_n 0, 1), (1, .getfield 35, 3), (4, .iconst 2, 1), (5, .if_icmp .ne 11, 3), (8, .aload_n 0, 1), (9, .invokevirtual 116, 3), (12, .iload_n 1, 1), (13, .if_icmp .le 5, 3), (16, .iconst 0, 1), (17, .ireturn, 1), (18, .aload_n 0, 1), (19, .aload_n 0, 1), (20, .invokevirtual 116, 3), (23, .putfield 102, 3), (26, .aload_n 0, 1), (27, .invokevirtual 23, 3), (30, .iconst 1, 1), (31, .ireturn, 1)], RX1, 2, 2, some .boolean)
theorem okX1_takeNumber : MOK yX1_takeNumber cX1_takeNumber mX1_takeNumber := ⟨by decide +kernel, rfl, by decide +kernel⟩
def mX1_value : Mi := ([(0, .iconst 0, 1), (1, .istore_n 1, 1), (2, .aload_n 0, 1), (3, .getfield 32, 3), (6, .istore_n 2, 1), (7, .iload_n 2, 1), (8, .aload_n 0, 1), (9, .getfield 19, 3), (12, .if_icmp .ge 31, 3), (15, .iload_n 1, 1), (16, .bipush 10, 2), (18, .imul, 1), (19, .aload_n 0, 1), (20, .getfield 9, 3), (23, .iload_n 2, 1), (24, .invokevirtual 119, 3), (27, .iadd, 1), (28, .bipush 48, 2), (30, .isub, 1), (31, .ldc 123, 2), (33, .invokestatic 124, 3), (36, .istore_n 1, 1), (37, .iinc 2 1, 3), (40, .goto (-33), 3), (43, .iload_n 1, 1), (44, .ireturn, 1)], RX1, 1, 3, some .int)
theorem okX1_value : MOK yX1_value cX1_value mX1_value := ⟨by decide +kernel, rfl, by decide +kernel⟩
def mX1_isWord : Mi := ([(0, .aload_n 0, 1), (1, .getfield 35, 3), (4, .iconst 1, 1), (5, .if_icmp .ne 19, 3), (8, .aload_n 0, 1), (9, .getfield 19, 3), (12, .aload_n 0, 1), (13, .getfield 32, 3), (16, .isub, 1), (17, .aload_n 1, 1), (18, .invokevirtual 129, 3), (21, .if_icmp .eq 5, 3), (24, .iconst 0, 1), (25, .ireturn, 1), (26, .iconst 0, 1), (27, .istore_n 2, 1), (28, .iload_n 2, 1), (29, .aload_n 1, 1), (30, .invokevirtual 129, 3), (33, .if_icmp .ge 32, 3), (36, .aload_n 0, 1), (37, .getfield 9, 3), (40, .aload_n 0, 1), (41, .getfield 32, 3), (44, .iload_n 2, 1), (45, .iadd, 1), (46, .invokevirtual 119, 3), (49, .aload_n 1, 1), (50, .iload_n 2, 1), (51, .invokevirtual 134, 3), (54, .if_icmp .eq 5, 3), (57, .iconst 0, 1), (58, .ireturn, 1), (59, .iinc 2 1, 3), (62, .goto (-34), 3), (65, .iconst 1, 1), (66, .ireturn, 1)], RX1, 4, 3, some .boolean)
theorem okX1_isWord : MOK yX1_isWord cX1_isWord mX1_isWord := ⟨by decide +kernel, rfl, by decide +kernel⟩
def mX1_stepOn : Mi := ([(0, .aload_n 0, 1), (1, .aload_n 0, 1), (2, .getfield 19, 3), (5, .putfield 32, 3), (8, .aload_n 0, 1), (9, .getfield 32, 3), (12, .aload_n 0, 1), (13, .getfield 9, 3), (16, .getfield 138, 3), (19, .if_icmp .ge 32, 3), (22, .aload_n 0, 1), (23, .getfield 9, 3), (26, .aload_n 0, 1), (27, .getfield 32, 3), (30, .invokevirtual 119, 3), (33, .bipush 32, 2), (35, .if_icmp .ne 16, 3), (38, .aload_n 0, 1), (39, .dup, 1), (40, .getfield 32, 3), (43, .iconst 1, 1), (44, .iadd, 1), (45, .putfield 32, 3), (48, .goto (-40), 3), (51, .aload_n 0, 1), (52, .aload_n 0, 1), (53, .getfield 9, 3), (56, .aload_n 0, 1), (57, .getfield 32, 3), (60, .invokevirtual 119, 3), (63, .invokestatic 140, 3), (66, .putfield 35, 3), (69, .aload_n 0, 1), (70, .aload_n 0, 1), (71, .getfield 32, 3), (74, .putfield 19, 3), (77, .aload_n 0, 1), (78, .getfield 35, 3), (81, .iconst 1, 1), (82, .if_icmp .eq 11, 3), (85, .aload_n 0, 1), (86, .getfield 35, 3), (89, .iconst 2, 1), (90, .if_icmp .ne 51, 3), (93, .aload_n 0, 1), (94, .getfield 19, 3), (97, .aload_n 0, 1), (98, .getfield 9, 3), (101, .getfield 138, 3), (104, .if_icmp .ge 55, 3), (107, .aload_n 0, 1), (108, .getfield 9, 3), (111, .aload_n 0, 1), (112, .getfield 19, 3), (115, .invokevirtual 119, 3), (118, .invokestatic 140, 3), (121, .aload_n 0, 1), (122, .getfield 35, 3), (125, .if_icmp .ne 34, 3), (128, .aload_n 0, 1), (129, .dup, 1), (130, .getfield 19, 3), (133, .iconst 1, 1), (134, .iadd, 1), (135, .putfield 19, 3), (138, .goto (-45), 3), (141, .aload_n 0, 1), (142, .getfield 35, 3), (145, .iconst 3, 1), (146, .if_icmp .ne 13, 3), (149, .aload_n 0, 1), (150, .dup, 1), (151, .getfield 19, 3), (154, .iconst 1, 1), (155, .iadd, 1), (156, .putfield 19, 3), (159, .return_, 1)], RX1, 1, 1, none)
theorem okX1_stepOn : MOK yX1_stepOn cX1_stepOn mX1_stepOn := ⟨by decide +kernel, rfl, by decide +kernel⟩
def mX1_tokenBeginningWith : Mi := ([(0, .iload_n 0, 1), (1, .ifCond .ge 5, 3), (4, .iconst 0, 1), (5, .ireturn, 1), (6, .iload_n 0, 1), (7, .bipush 97, 2), (9, .if_icmp .lt 11, 3), (12, .iload_n 0, 1), (13, .bipush 122, 2), (15, .if_icmp .gt 5, 3), (18, .iconst 1, 1), (19, .ireturn, 1), (20, .iload_n 0, 1), (21, .bipush 48, 2), (23, .if_icmp .lt 11, 3), (26, .iload_n 0, 1), (27, .bipush 57, 2), (29, .if_icmp .gt 5, 3), (32, .iconst 2, 1), (33, .ireturn, 1), (34, .iload_n 0, 1), (35, .bipush 59, 2), (37, .if_icmp .ne 7, 3), (40, .iconst 3, 1), (41, .goto 4, 3), (44, .iconst 4, 1), (45, .ireturn, 1)], RX1, 0, 1, some .int)
theorem okX1_tokenBeginningWith : MOK yX1_tokenBeginningWith cX1_tokenBeginningWith mX1_tokenBeginningWith := ⟨by decide +kernel, rfl, by decide +kernel⟩
def mX2_isMissing : Mi := ([(0, .aload_n 0, 1), (1, .getfield 13, 3), (4, .ifCond .ne 7, 3), (7, .iconst 1, 1), (8, .goto 4, 3), (11, .iconst 0, 1), (12, .ireturn, 1)], RX2, 0, 1, some .boolean)
theorem okX2_isMissing : MOK yX2_isMissing cX2_isMissing mX2_isMissing := ⟨by decide +kernel, rfl, by decide +kernel⟩
def mX2_begin : Mi := ([(0, .aload_n 0, 1), (1, .iload_n 1, 1), (2, .putfield 13, 3), (5, .aload_n 0, 1), (6, .iload_n 1, 1), (7, .ifCond .ne 7, 3), (10, .iconst 0, 1), (11, .goto 4, 3), (14, .iload_n 2, 1), (15, .putfield 17, 3), (18, .iconst 0, 1), (19, .istore_n 3, 1), (20, .iload_n 3, 1), (21, .bipush 40, 2), (23, .if_icmp .ge 16, 3), (26, .aload_n 0, 1), (27, .getfield 9, 3), (30, .iload_n 3, 1), (31, .iconst 0, 1), (32, .iastore, 1), (33, .iinc 3 1, 3), (36, .goto (-16), 3), (39, .return_, 1)], RX2, 0, 4, none)
theorem okX2_begin : MOK yX2_begin cX2_begin mX2_begin := ⟨by decide +kernel, rfl, by decide +kernel⟩
def mX2_cut : Mi := ([(0, .aload_n 0, 1), (1, .getfield 13, 3), (4, .lookupswitch 34 #[(8, 28), (16, 31)], 28), (32, .iload_n 1, 1), (33, .i2b, 1), (34, .ireturn, 1), (35, .iload_n 1, 1), (36, .i2s, 1), (37, .ireturn, 1), (38, .iload_n 1, 1), (39, .ireturn, 1)], RX2, 0, 2, some .int)
theorem okX2_cut : MOK yX2_cut cX2_cut mX2_cut := ⟨by decide +kernel, rfl, by decide +kernel⟩
def mX2_hasRange : Mi := ([(0, .iload_n 1, 1), (1, .ifCond .lt 29, 3), (4, .iload_n 2, 1), (5, .ifCond .lt 25, 3), (8, .iload_n 2, 1), (9, .aload_n 0, 1), (10, .getfield 17, 3), (13, .if_icmp .gt 17, 3), (16, .iload_n 1, 1), (17, .aload_n 0, 1), (18, .getfield 17, 3), (21, .iload_n 2, 1), (22, .isub, 1), (23, .if_icmp .gt 7, 3), (26, .iconst 1, 1), (27, .goto 4, 3), (30, .iconst 0, 1), (31, .ireturn, 1)], RX2, 0, 3, some .boolean)
theorem okX2_hasRange : MOK yX2_hasRange cX2_hasRange mX2_hasRange := ⟨by decide +kernel, rfl, by decide +kernel⟩
def mX3_append : Mi := ([(0, .iload_n 2, 1), (1, .iconst 1, 1), (2, .isub, 1), (3, .istore_n 3, 1), (4, .iload_n 3, 1), (5, .ifCond .lt 38, 3), (8, .aload_n 0, 1), (9, .getfield 9, 3), (12, .aload_n 0, 1), (13, .getfield 13, 3), (16, .iload_n 1, 1), (17, .bipush 8, 2), (19, .iload_n 3, 1), (20, .imul, 1), (21, .iushr, 1), (22, .sipush 255, 3), (25, .iand, 1), (26, .iastore, 1), (27, .aload_n 0, 1), (28, .dup, 1), (29, .getfield 13, 3), (32, .iconst 1, 1), (33, .iadd, 1), (34, .putfield 13, 3), (37, .iinc 3 (-1), 3), (40, .goto (-36), 3), (43, .return_, 1)], RX3, 0, 4, none)
theorem okX3_append : MOK yX3_append cX3_append mX3_append := ⟨by decide +kernel, rfl, by decide +kernel⟩
def mX3_byteAt : Mi := ([(0, .iload_n 1, 1), (1, .ifCond .lt 20, 3), (4, .iload_n 1, 1), (5, .aload_n 0, 1), (6, .getfield 13, 3), (9, .if_icmp .ge 12, 3), (12, .aload_n 0, 1), (13, .getfield 9, 3), (16, .iload_n 1, 1), (17, .iaload, 1), (18, .goto 4, 3), (21, .iconst (-1), 1), (22, .ireturn, 1)], RX3, 0, 2, some .int)
theorem okX3_byteAt : MOK yX3_byteAt cX3_byteAt mX3_byteAt := ⟨by decide +kernel, rfl, by decide +kernel⟩
def mX4_grass : Mi := ([(0, .iload_n 1, 1), (1, .invokestatic 53, 3), (4, .ifCond .eq 12, 3), (7, .iload_n 2, 1), (8, .bipush 99, 2), (10, .invokestatic 57, 3), (13, .ifCond .ne 10, 3), (16, .aload_n 0, 1), (17, .ldc 61, 2), (19, .invokevirtual 62, 3), (22, .ireturn, 1), (23, .aload_n 0, 1), (24, .getfield 12, 3), (27, .getfield 66, 3), (30, .iload_n 1, 1), (31, .iaload, 1), (32, .istore_n 3, 1), (33, .aload_n 0, 1), (34, .getfield 12, 3), (37, .getfield 66, 3), (40, .iload_n 1, 1), (41, .iload_n 2, 1), (42, .iastore, 1), (43, .iload_n 3, 1), (44, .ireturn, 1)], RX4, 1, 4, some .int)
theorem okX4_grass : MOK yX4_grass cX4_grass mX4_grass := ⟨by decide +kernel, rfl, by decide +kernel⟩
def mX4_ledge : Mi := ([(0, .iload_n 1, 1), (1, .invokestatic 53, 3), (4, .ifCond .eq 11, 3), (7, .iload_n 2, 1), (8, .iconst 2, 1), (9, .invokestatic 57, 3), (12, .ifCond .ne 10, 3), (15, .aload_n 0, 1), (16, .ldc 61, 2), (18, .invokevirtual 62, 3), (21, .ireturn, 1), (22, .iload_n 2, 1), (23, .lookupswitch 44 #[(0, 25), (1, 35)], 25), (48, .aload_n 0, 1), (49, .getfield 12, 3), (52, .getfield 66, 3), (55, .iload_n 1, 1), (56, .iaload, 1), (57, .ireturn, 1), (58, .aload_n 0, 1), (59, .getfield 12, 3), (62, .iload_n 1, 1), (63, .invokevirtual 69, 3), (66, .ireturn, 1), (67, .aload_n 0, 1), (68, .getfield 12, 3), (71, .iload_n 1, 1), (72, .invokevirtual 72, 3), (75, .ireturn, 1)], RX4, 4, 3, some .int)
theorem okX4_ledge : MOK yX4_ledge cX4_ledge mX4_ledge := ⟨by decide +kernel, rfl, by decide +kernel⟩
def mX4_set : Mi := ([(0, .iload_n 1, 1), (1, .ifCond .ne 30, 3), (4, .iload_n 2, 1), (5, .bipush 20, 2), (7, .invokestatic 57, 3), (10, .ifCond .eq 21, 3), (13, .aload_n 0, 1), (14, .getfield 12, 3), (17, .getfield 75, 3), (20, .istore_n 3, 1), (21, .aload_n 0, 1), (22, .getfield 12, 3), (25, .iload_n 2, 1), (26, .putfield 75, 3), (29, .iload_n 3, 1), (30, .ireturn, 1), (31, .iload_n 1, 1), (32, .iconst 1, 1), (33, .if_icmp .ne 31, 3), (36, .iload_n 2, 1), (37, .sipush 9999, 3), (40, .invokestatic 57, 3), (43, .ifCond .eq 21, 3), (46, .aload_n 0, 1), (47, .getfield 12, 3), (50, .getfield 79, 3), (53, .istore_n 3, 1), (54, .aload_n 0, 1), (55, .getfield 12, 3), (58, .iload_n 2, 1), (59, .putfield 79, 3), (62, .iload_n 3, 1), (63, .ireturn, 1), (64, .aload_n 0, 1), (65, .ldc 61, 2), (67, .invokevirtual 62, 3), (70, .ireturn, 1)], RX4, 1, 4, some .int)
theorem okX4_set : MOK yX4_set cX4_set mX4_set := ⟨by decide +kernel, rfl, by decide +kernel⟩
def mX4_goat : Mi := ([(0, .iload_n 1, 1), (1, .invokestatic 82, 3), (4, .ifCond .eq 10, 3), (7, .iload_n 2, 1), (8, .invokestatic 53, 3), (11, .ifCond .ne 10, 3), (14, .aload_n 0, 1), (15, .ldc 61, 2), (17, .invokevirtual 62, 3), (20, .ireturn, 1), (21, .aload_n 0, 1), (22, .getfield 12, 3), (25, .invokevirtual 85, 3), (28, .ifCond .eq 10, 3), (31, .aload_n 0, 1), (32, .ldc 89, 2), (34, .invokevirtual 62, 3), (37, .ireturn, 1), (38, .aload_n 0, 1), (39, .getfield 12, 3), (42, .iload_n 1, 1), (43, .iload_n 2, 1), (44, .invokevirtual 90, 3), (47, .ireturn, 1)], RX4, 1, 3, some .int)
theorem okX4_goat : MOK yX4_goat cX4_goat mX4_goat := ⟨by decide +kernel, rfl, by decide +kernel⟩
def mX4_of : Mi := ([(0, .aload_n 0, 1), (1, .iload_n 1, 1), (2, .invokevirtual 94, 3), (5, .ifCond .eq 12, 3), (8, .iload_n 2, 1), (9, .bipush 9, 2), (11, .invokestatic 57, 3), (14, .ifCond .ne 10, 3), (17, .aload_n 0, 1), (18, .ldc 61, 2), (20, .invokevirtual 62, 3), (23, .ireturn, 1), (24, .iload_n 2, 1), (25, .tableswitch 67 6 9 #[31, 40, 49, 58], 31), (56, .aload_n 0, 1), (57, .getfield 12, 3), (60, .iload_n 1, 1), (61, .invokevirtual 97, 3), (64, .ireturn, 1), (65, .aload_n 0, 1), (66, .getfield 12, 3), (69, .iload_n 1, 1), (70, .invokevirtual 100, 3), (73, .ireturn, 1), (74, .aload_n 0, 1), (75, .getfield 12, 3), (78, .iload_n 1, 1), (79, .invokevirtual 103, 3), (82, .ireturn, 1), (83, .aload_n 0, 1), (84, .getfield 12, 3), (87, .iload_n 1, 1), (88, .invokevirtual 106, 3), (91, .ireturn, 1), (92, .aload_n 0, 1), (93, .getfield 12, 3), (96, .iload_n 1, 1), (97, .iload_n 2, 1), (98, .invokevirtual 109, 3), (101, .ireturn, 1)], RX4, 2, 3, some .int)
theorem okX4_of : MOK yX4_of cX4_of mX4_of := ⟨by decide +kernel, rfl, by decide +kernel⟩
def mX4_change : Mi := ([(0, .aload_n 0, 1), (1, .iload_n 1, 1), (2, .invokevirtual 94, 3), (5, .ifCond .eq 11, 3), (8, .iload_n 2, 1), (9, .iload_n 3, 1), (10, .invokestatic 112, 3), (13, .ifCond .ne 10, 3), (16, .aload_n 0, 1), (17, .ldc 61, 2), (19, .invokevirtual 62, 3), (22, .ireturn, 1), (23, .aload_n 0, 1), (24, .getfield 12, 3), (27, .iload_n 1, 1), (28, .iload_n 2, 1), (29, .invokevirtual 109, 3), (32, .istore 4, 2), (34, .aload_n 0, 1), (35, .getfield 12, 3), (38, .iload_n 1, 1), (39, .iload_n 2, 1), (40, .iload_n 3, 1), (41, .invokevirtual 115, 3), (44, .iload 4, 2), (46, .ireturn, 1)], RX4, 2, 5, some .int)
theorem okX4_change : MOK yX4_change cX4_change mX4_change := ⟨by decide +kernel, rfl, by decide +kernel⟩
def mX4_birth : Mi := ([(0, .aload_n 0, 1), (1, .iload_n 1, 1), (2, .invokevirtual 94, 3), (5, .ifCond .ne 10, 3), (8, .aload_n 0, 1), (9, .ldc 61, 2), (11, .invokevirtual 62, 3), (14, .ireturn, 1), (15, .aload_n 0, 1), (16, .getfield 12, 3), (19, .invokevirtual 85, 3), (22, .ifCond .eq 10, 3), (25, .aload_n 0, 1), (26, .ldc 89, 2), (28, .invokevirtual 62, 3), (31, .ireturn, 1), (32, .aload_n 0, 1), (33, .getfield 12, 3), (36, .getfield 119, 3), (39, .iload_n 1, 1), (40, .iaload, 1), (41, .sipush 255, 3), (44, .iand, 1), (45, .istore_n 2, 1), (46, .aload_n 0, 1), (47, .getfield 12, 3), (50, .bipush 6, 2), (52, .aload_n 0, 1), (53, .getfield 12, 3), (56, .getfield 122, 3), (59, .iload_n 1, 1), (60, .iaload, 1), (61, .invokevirtual 90, 3), (64, .istore_n 3, 1), (65, .aload_n 0, 1), (66, .getfield 12, 3), (69, .getfield 119, 3), (72, .iload_n 3, 1), (73, .iload_n 2, 1), (74, .iload_n 2, 1), (75, .invokestatic 125, 3), (78, .iconst (-1), 1), (79, .ixor, 1), (80, .iand, 1), (81, .iastore, 1), (82, .iload_n 3, 1), (83, .ireturn, 1)], RX4, 1, 4, some .int)
theorem okX4_birth : MOK yX4_birth cX4_birth mX4_birth := ⟨by decide +kernel, rfl, by decide +kernel⟩
def mX4_ask : Mi := ([(0, .iload_n 1, 1), (1, .invokestatic 128, 3), (4, .ifCond .ne 10, 3), (7, .aload_n 0, 1), (8, .ldc 61, 2), (10, .invokevirtual 62, 3), (13, .ireturn, 1), (14, .aload_n 0, 1), (15, .getfield 12, 3), (18, .iload_n 1, 1), (19, .invokevirtual 131, 3), (22, .istore_n 2, 1), (23, .iload_n 2, 1), (24, .ifCond .ge 10, 3), (27, .aload_n 0, 1), (28, .ldc 134, 2), (30, .invokevirtual 62, 3), (33, .ireturn, 1), (34, .aload_n 0, 1), (35, .getfield 12, 3), (38, .iload_n 2, 1), (39, .invokevirtual 97, 3), (42, .istore_n 3, 1), (43, .aload_n 0, 1), (44, .getfield 12, 3), (47, .getfield 79, 3), (50, .iload_n 3, 1), (51, .if_icmp .ge 10, 3), (54, .aload_n 0, 1), (55, .ldc 135, 2), (57, .invokevirtual 62, 3), (60, .ireturn, 1), (61, .aload_n 0, 1), (62, .getfield 12, 3), (65, .dup, 1), (66, .getfield 79, 3), (69, .iload_n 3, 1), (70, .isub, 1), (71, .putfield 79, 3), (74, .aload_n 0, 1), (75, .getfield 12, 3), (78, .getfield 136, 3), (81, .iload_n 2, 1), (82, .aload_n 0, 1), (83, .getfield 12, 3), (86, .getfield 136, 3), (89, .iload_n 2, 1), (90, .iaload, 1), (91, .iconst 1, 1), (92, .iadd, 1), (93, .sipush 9999, 3), (96, .invokestatic 139, 3), (99, .iastore, 1), (100, .iload_n 2, 1), (101, .ireturn, 1)], RX4, 3, 4, some .int)
theorem okX4_ask : MOK yX4_ask cX4_ask mX4_ask := ⟨by decide +kernel, rfl, by decide +kernel⟩
def mX4_go : Mi := ([(0, .iload_n 1, 1), (1, .iconst 1, 1), (2, .if_icmp .lt 9, 3), (5, .iload_n 1, 1), (6, .bipush 60, 2), (8, .if_icmp .le 10, 3), (11, .aload_n 0, 1), (12, .ldc 61, 2), (14, .invokevirtual 62, 3), (17, .ireturn, 1), (18, .aload_n 0, 1), (19, .getfield 12, 3), (22, .getfield 144, 3), (25, .iload_n 1, 1), (26, .iadd, 1), (27, .ldc 147, 2), (29, .if_icmp .le 10, 3), (32, .aload_n 0, 1), (33, .ldc 135, 2), (35, .invokevirtual 62, 3), (38, .ireturn, 1), (39, .aload_n 0, 1), (40, .getfield 12, 3), (43, .iload_n 1, 1), (44, .invokevirtual 148, 3), (47, .aload_n 0, 1), (48, .getfield 12, 3), (51, .invokevirtual 152, 3), (54, .ireturn, 1)], RX4, 7, 2, some .int)
theorem okX4_go : MOK yX4_go cX4_go mX4_go := ⟨by decide +kernel, rfl, by decide +kernel⟩
def mX4_now : Mi := ([(0, .iload_n 1, 1), (1, .tableswitch 104 0 6 #[43, 51, 59, 72, 80, 88, 96], 43), (44, .aload_n 0, 1), (45, .getfield 12, 3), (48, .getfield 144, 3), (51, .ireturn, 1), (52, .aload_n 0, 1), (53, .getfield 12, 3), (56, .invokevirtual 152, 3), (59, .ireturn, 1), (60, .ldc 156, 2), (62, .aload_n 0, 1), (63, .getfield 12, 3), (66, .invokevirtual 152, 3), (69, .iconst (-1), 1), (70, .ixor, 1), (71, .iand, 1), (72, .ireturn, 1), (73, .aload_n 0, 1), (74, .getfield 12, 3), (77, .invokevirtual 157, 3), (80, .ireturn, 1), (81, .aload_n 0, 1), (82, .getfield 12, 3), (85, .invokevirtual 160, 3), (88, .ireturn, 1), (89, .aload_n 0, 1), (90, .getfield 12, 3), (93, .invokevirtual 163, 3), (96, .ireturn, 1), (97, .aload_n 0, 1), (98, .getfield 12, 3), (101, .invokevirtual 166, 3), (104, .ireturn, 1), (105, .aload_n 0, 1), (106, .ldc 61, 2), (108, .invokevirtual 62, 3), (111, .ireturn, 1)], RX4, 3, 2, some .int)
theorem okX4_now : MOK yX4_now cX4_now mX4_now := ⟨by decide +kernel, rfl, by decide +kernel⟩
def mX4_who : Mi := ([(0, .iload_n 1, 1), (1, .invokestatic 128, 3), (4, .ifCond .ne 10, 3), (7, .aload_n 0, 1), (8, .ldc 61, 2), (10, .invokevirtual 62, 3), (13, .ireturn, 1), (14, .aload_n 0, 1), (15, .getfield 12, 3), (18, .iload_n 1, 1), (19, .invokevirtual 169, 3), (22, .ireturn, 1)], RX4, 3, 2, some .int)
theorem okX4_who : MOK yX4_who cX4_who mX4_who := ⟨by decide +kernel, rfl, by decide +kernel⟩
def mX4_ahead : Mi := ([(0, .aload_n 0, 1), (1, .iload_n 1, 1), (2, .invokevirtual 94, 3), (5, .ifCond .eq 22, 3), (8, .iload_n 2, 1), (9, .iconst 1, 1), (10, .if_icmp .lt 17, 3), (13, .iload_n 2, 1), (14, .iconst 4, 1), (15, .if_icmp .gt 12, 3), (18, .iload_n 3, 1), (19, .bipush 100, 2), (21, .invokestatic 57, 3), (24, .ifCond .ne 10, 3), (27, .aload_n 0, 1), (28, .ldc 61, 2), (30, .invokevirtual 62, 3), (33, .ireturn, 1), (34, .aload_n 0, 1), (35, .getfield 16, 3), (38, .aload_n 0, 1), (39, .getfield 12, 3), (42, .invokevirtual 172, 3), (45, .aload_n 0, 1), (46, .getfield 16, 3), (49, .iload_n 3, 1), (50, .invokevirtual 148, 3), (53, .aload_n 0, 1), (54, .getfield 16, 3), (57, .iload_n 1, 1), (58, .iload_n 2, 1), (59, .invokevirtual 109, 3), (62, .ireturn, 1)], RX4, 7, 4, some .int)
theorem okX4_ahead : MOK yX4_ahead cX4_ahead mX4_ahead := ⟨by decide +kernel, rfl, by decide +kernel⟩
def mX4_learns : Mi := ([(0, .aload_n 0, 1), (1, .iload_n 1, 1), (2, .invokevirtual 94, 3), (5, .ifCond .eq 10, 3), (8, .iload_n 2, 1), (9, .invokestatic 128, 3), (12, .ifCond .ne 10, 3), (15, .aload_n 0, 1), (16, .ldc 61, 2), (18, .invokevirtual 62, 3), (21, .ireturn, 1), (22, .aload_n 0, 1), (23, .iconst 0, 1), (24, .iload_n 1, 1), (25, .iload_n 2, 1), (26, .invokevirtual 176, 3), (29, .ireturn, 1)], RX4, 7, 3, some .int)
theorem okX4_learns : MOK yX4_learns cX4_learns mX4_learns := ⟨by decide +kernel, rfl, by decide +kernel⟩
def mX4_lost : Mi := ([(0, .iload_n 1, 1), (1, .invokestatic 128, 3), (4, .ifCond .ne 10, 3), (7, .aload_n 0, 1), (8, .ldc 61, 2), (10, .invokevirtual 62, 3), (13, .ireturn, 1), (14, .aload_n 0, 1), (15, .iconst 1, 1), (16, .iload_n 1, 1), (17, .iconst 0, 1), (18, .invokevirtual 176, 3), (21, .ireturn, 1)], RX4, 7, 2, some .int)
theorem okX4_lost : MOK yX4_lost cX4_lost mX4_lost := ⟨by decide +kernel, rfl, by decide +kernel⟩
def mX4_meet : Mi := ([(0, .aload_n 0, 1), (1, .iload_n 1, 1), (2, .invokevirtual 94, 3), (5, .ifCond .eq 16, 3), (8, .aload_n 0, 1), (9, .iload_n 2, 1), (10, .invokevirtual 94, 3), (13, .ifCond .eq 8, 3), (16, .iload_n 1, 1), (17, .iload_n 2, 1), (18, .if_icmp .ne 10, 3), (21, .aload_n 0, 1), (22, .ldc 61, 2), (24, .invokevirtual 62, 3), (27, .ireturn, 1), (28, .aload_n 0, 1), (29, .iconst 2, 1), (30, .iload_n 1, 1), (31, .iload_n 2, 1), (32, .invokevirtual 176, 3), (35, .ireturn, 1)], RX4, 7, 3, some .int)
theorem okX4_meet : MOK yX4_meet cX4_meet mX4_meet := ⟨by decide +kernel, rfl, by decide +kernel⟩
def mX4_reach : Mi := ([(0, .aload_n 0, 1), (1, .iload_n 1, 1), (2, .invokevirtual 94, 3), (5, .ifCond .eq 10, 3), (8, .iload_n 2, 1), (9, .invokestatic 53, 3), (12, .ifCond .ne 10, 3), (15, .aload_n 0, 1), (16, .ldc 61, 2), (18, .invokevirtual 62, 3), (21, .ireturn, 1), (22, .aload_n 0, 1), (23, .iconst 3, 1), (24, .iload_n 1, 1), (25, .iload_n 2, 1), (26, .invokevirtual 176, 3), (29, .ireturn, 1)], RX4, 7, 3, some .int)
theorem okX4_reach : MOK yX4_reach cX4_reach mX4_reach := ⟨by decide +kernel, rfl, by decide +kernel⟩
def mX4_put : Mi := ([(0, .aload_n 0, 1), (1, .iload_n 1, 1), (2, .invokevirtual 94, 3), (5, .ifCond .eq 12, 3), (8, .iload_n 2, 1), (9, .bipush 40, 2), (11, .invokestatic 57, 3), (14, .ifCond .ne 10, 3), (17, .aload_n 0, 1), (18, .ldc 61, 2), (20, .invokevirtual 62, 3), (23, .ireturn, 1), (24, .aload_n 0, 1), (25, .iload_n 1, 1), (26, .iconst 1, 1), (27, .bipush 12, 2), (29, .iload_n 2, 1), (30, .invokevirtual 180, 3), (33, .ireturn, 1)], RX4, 8, 3, some .int)
theorem okX4_put : MOK yX4_put cX4_put mX4_put := ⟨by decide +kernel, rfl, by decide +kernel⟩
def mX4_kindFor : Mi := ([(0, .aload_n 0, 1), (1, .iload_n 1, 1), (2, .invokevirtual 94, 3), (5, .ifCond .eq 12, 3), (8, .iload_n 2, 1), (9, .bipush 40, 2), (11, .invokestatic 57, 3), (14, .ifCond .ne 10, 3), (17, .aload_n 0, 1), (18, .ldc 61, 2), (20, .invokevirtual 62, 3), (23, .ireturn, 1), (24, .aload_n 0, 1), (25, .iload_n 1, 1), (26, .iconst 0, 1), (27, .bipush 7, 2), (29, .iload_n 2, 1), (30, .invokevirtual 180, 3), (33, .ireturn, 1)], RX4, 8, 3, some .int)
theorem okX4_kindFor : MOK yX4_kindFor cX4_kindFor mX4_kindFor := ⟨by decide +kernel, rfl, by decide +kernel⟩
def mX4_growsFor : Mi := ([(0, .iload_n 1, 1), (1, .invokestatic 128, 3), (4, .ifCond .eq 12, 3), (7, .iload_n 2, 1), (8, .bipush 40, 2), (10, .invokestatic 57, 3), (13, .ifCond .ne 10, 3), (16, .aload_n 0, 1), (17, .ldc 61, 2), (19, .invokevirtual 62, 3), (22, .ireturn, 1), (23, .iconst 0, 1), (24, .istore_n 3, 1), (25, .iload_n 3, 1), (26, .bipush 20, 2), (28, .if_icmp .gt 49, 3), (31, .aload_n 0, 1), (32, .getfield 16, 3), (35, .aload_n 0, 1), (36, .getfield 12, 3), (39, .invokevirtual 172, 3), (42, .aload_n 0, 1), (43, .getfield 16, 3), (46, .iload_n 3, 1), (47, .putfield 75, 3), (50, .aload_n 0, 1), (51, .getfield 16, 3), (54, .iload_n 2, 1), (55, .invokevirtual 148, 3), (58, .aload_n 0, 1), (59, .getfield 16, 3), (62, .iload_n 1, 1), (63, .invokevirtual 184, 3), (66, .ifCond .eq 5, 3), (69, .iload_n 3, 1), (70, .ireturn, 1), (71, .iinc 3 1, 3), (74, .goto (-49), 3), (77, .aload_n 0, 1), (78, .ldc 134, 2), (80, .invokevirtual 62, 3), (83, .ireturn, 1)], RX4, 7, 4, some .int)
theorem okX4_growsFor : MOK yX4_growsFor cX4_growsFor mX4_growsFor := ⟨by decide +kernel, rfl, by decide +kernel⟩
def mX4_cover : Mi := ([(0, .iload_n 1, 1), (1, .ldc 156, 2), (3, .invokestatic 57, 3), (6, .ifCond .ne 10, 3), (9, .aload_n 0, 1), (10, .ldc 61, 2), (12, .invokevirtual 62, 3), (15, .ireturn, 1), (16, .iconst (-1), 1), (17, .istore_n 2, 1), (18, .iconst 1, 1), (19, .aload_n 0, 1), (20, .getfield 12, 3), (23, .getfield 187, 3), (26, .ishl, 1), (27, .istore_n 3, 1), (28, .iconst 0, 1), (29, .istore 4, 2), (31, .iload 4, 2), (33, .iload_n 3, 1), (34, .if_icmp .ge 56, 3), (37, .iload_n 2, 1), (38, .ifCond .lt 15, 3), (41, .iload 4, 2), (43, .invokestatic 190, 3), (46, .iload_n 2, 1), (47, .invokestatic 190, 3), (50, .if_icmp .ge 7, 3), (53, .iconst 1, 1), (54, .goto 4, 3), (57, .iconst 0, 1), (58, .istore 5, 2), (60, .iload 5, 2), (62, .ifCond .eq 22, 3), (65, .iload_n 1, 1), (66, .aload_n 0, 1), (67, .getfield 12, 3), (70, .iload 4, 2), (72, .invokevirtual 195, 3), (75, .iconst (-1), 1), (76, .ixor, 1), (77, .iand, 1), (78, .ifCond .ne 6, 3), (81, .iload 4, 2), (83, .istore_n 2, 1), (84, .iinc 4 1, 3), (87, .goto (-56), 3), (90, .iload_n 2, 1), (91, .ifCond .ge 12, 3), (94, .aload_n 0, 1), (95, .ldc 134, 2), (97, .invokevirtual 62, 3), (100, .goto 4, 3), (103, .iload_n 2, 1), (104, .ireturn, 1)], RX4, 2, 6, some .int)
theorem okX4_cover : MOK yX4_cover cX4_cover mX4_cover := ⟨by decide +kernel, rfl, by decide +kernel⟩
def mX4_price : Mi := ([(0, .iload_n 1, 1), (1, .ldc 156, 2), (3, .invokestatic 57, 3), (6, .ifCond .ne 10, 3), (9, .aload_n 0, 1), (10, .ldc 61, 2), (12, .invokevirtual 62, 3), (15, .ireturn, 1), (16, .iconst 0, 1), (17, .istore_n 2, 1), (18, .iconst 0, 1), (19, .istore_n 3, 1), (20, .iload_n 3, 1), (21, .bipush 16, 2), (23, .if_icmp .ge 51, 3), (26, .iload_n 1, 1), (27, .iload_n 3, 1), (28, .invokestatic 198, 3), (31, .ifCond .eq 37, 3), (34, .aload_n 0, 1), (35, .getfield 12, 3), (38, .iload_n 3, 1), (39, .invokevirtual 131, 3), (42, .istore 4, 2), (44, .iload 4, 2), (46, .ifCond .ge 10, 3), (49, .aload_n 0, 1), (50, .ldc 134, 2), (52, .invokevirtual 62, 3), (55, .ireturn, 1), (56, .iload_n 2, 1), (57, .aload_n 0, 1), (58, .getfield 12, 3), (61, .iload 4, 2), (63, .invokevirtual 97, 3), (66, .iadd, 1), (67, .istore_n 2, 1), (68, .iinc 3 1, 3), (71, .goto (-51), 3), (74, .iload_n 2, 1), (75, .ireturn, 1)], RX4, 3, 5, some .int)
theorem okX4_price : MOK yX4_price cX4_price mX4_price := ⟨by decide +kernel, rfl, by decide +kernel⟩
def mX4_censor : Mi := ([(0, .iload_n 1, 1), (1, .invokestatic 128, 3), (4, .ifCond .eq 12, 3), (7, .iload_n 2, 1), (8, .bipush 12, 2), (10, .invokestatic 57, 3), (13, .ifCond .ne 10, 3), (16, .aload_n 0, 1), (17, .ldc 61, 2), (19, .invokevirtual 62, 3), (22, .ireturn, 1), (23, .iconst 1, 1), (24, .aload_n 0, 1), (25, .getfield 12, 3), (28, .getfield 187, 3), (31, .ishl, 1), (32, .istore_n 3, 1), (33, .iload_n 3, 1), (34, .iconst 1, 1), (35, .isub, 1), (36, .istore 4, 2), (38, .iconst 0, 1), (39, .istore 5, 2), (41, .iload 5, 2), (43, .iload_n 3, 1), (44, .if_icmp .ge 49, 3), (47, .iload 5, 2), (49, .invokestatic 190, 3), (52, .iload 4, 2), (54, .invokestatic 190, 3), (57, .if_icmp .ge 7, 3), (60, .iconst 1, 1), (61, .goto 4, 3), (64, .iconst 0, 1), (65, .istore 6, 2), (67, .iload 6, 2), (69, .ifCond .eq 18, 3), (72, .aload_n 0, 1), (73, .iload 5, 2), (75, .iload_n 1, 1), (76, .iload_n 2, 1), (77, .invokevirtual 201, 3), (80, .ifCond .eq 7, 3), (83, .iload 5, 2), (85, .istore 4, 2), (87, .iinc 5 1, 3), (90, .goto (-49), 3), (93, .iload 4, 2), (95, .ireturn, 1)], RX4, 8, 7, some .int)
theorem okX4_censor : MOK yX4_censor cX4_censor mX4_censor := ⟨by decide +kernel, rfl, by decide +kernel⟩
def mX4_kinds : Mi := ([(0, .aload_n 0, 1), (1, .iload_n 1, 1), (2, .iload_n 2, 1), (3, .iconst 0, 1), (4, .bipush 7, 2), (6, .iconst 1, 1), (7, .invokevirtual 205, 3), (10, .ireturn, 1)], RX4, 8, 3, some .int)
theorem okX4_kinds : MOK yX4_kinds cX4_kinds mX4_kinds := ⟨by decide +kernel, rfl, by decide +kernel⟩
def mX4_fits : Mi := ([(0, .aload_n 0, 1), (1, .iload_n 1, 1), (2, .iload_n 2, 1), (3, .iconst 1, 1), (4, .bipush 12, 2), (6, .iconst 4, 1), (7, .invokevirtual 205, 3), (10, .ireturn, 1)], RX4, 8, 3, some .int)
theorem okX4_fits : MOK yX4_fits cX4_fits mX4_fits := ⟨by decide +kernel, rfl, by decide +kernel⟩
def mX4_slips : Mi := ([(0, .iload_n 1, 1), (1, .iconst 1, 1), (2, .if_icmp .lt 9, 3), (5, .iload_n 1, 1), (6, .bipush 20, 2), (8, .if_icmp .le 10, 3), (11, .aload_n 0, 1), (12, .ldc 61, 2), (14, .invokevirtual 62, 3), (17, .ireturn, 1), (18, .aload_n 0, 1), (19, .getfield 12, 3), (22, .getfield 144, 3), (25, .iload_n 1, 1), (26, .iadd, 1), (27, .ldc 147, 2), (29, .if_icmp .le 10, 3), (32, .aload_n 0, 1), (33, .ldc 135, 2), (35, .invokevirtual 62, 3), (38, .ireturn, 1), (39, .iconst 0, 1), (40, .istore_n 2, 1), (41, .iload_n 2, 1), (42, .iload_n 1, 1), (43, .if_icmp .ge 23, 3), (46, .aload_n 0, 1), (47, .getfield 12, 3), (50, .invokevirtual 209, 3), (53, .aload_n 0, 1), (54, .getfield 12, 3), (57, .invokevirtual 212, 3), (60, .iinc 2 1, 3), (63, .goto (-22), 3), (66, .aload_n 0, 1), (67, .getfield 12, 3), (70, .invokevirtual 152, 3), (73, .ireturn, 1)], RX4, 6, 3, some .int)
theorem okX4_slips : MOK yX4_slips cX4_slips mX4_slips := ⟨by decide +kernel, rfl, by decide +kernel⟩
def mX4_odds : Mi := ([(0, .iload_n 1, 1), (1, .bipush 15, 2), (3, .invokestatic 57, 3), (6, .ifCond .eq 11, 3), (9, .iload_n 2, 1), (10, .iconst 1, 1), (11, .invokestatic 57, 3), (14, .ifCond .ne 11, 3), (17, .aload_n 0, 1), (18, .ldc 61, 2), (20, .invokevirtual 62, 3), (23, .i2l, 1), (24, .lreturn, 1), (25, .aload_n 0, 1), (26, .getfield 12, 3), (29, .invokevirtual 152, 3), (32, .invokestatic 190, 3), (35, .istore_n 3, 1), (36, .bipush 16, 2), (38, .istore 4, 2), (40, .iload 4, 2), (42, .iconst 1, 1), (43, .if_icmp .le 22, 3), (46, .iload_n 3, 1), (47, .iconst 2, 1), (48, .irem, 1), (49, .ifCond .ne 16, 3), (52, .iload_n 3, 1), (53, .iconst 2, 1), (54, .idiv, 1), (55, .istore_n 3, 1), (56, .iload 4, 2), (58, .iconst 2, 1), (59, .idiv, 1), (60, .istore 4, 2), (62, .goto (-22), 3), (65, .iload_n 2, 1), (66, .ifCond .ne 7, 3), (69, .iload_n 3, 1), (70, .goto 5, 3), (73, .iload 4, 2), (75, .iload_n 1, 1), (76, .invokestatic 215, 3), (79, .lreturn, 1)], RX4, 3, 5, some .long)
theorem okX4_odds : MOK yX4_odds cX4_odds mX4_odds := ⟨by decide +kernel, rfl, by decide +kernel⟩
def mX4_seed : Mi := ([(0, .aload_n 0, 1), (1, .getfield 12, 3), (4, .getfield 219, 3), (7, .istore_n 2, 1), (8, .aload_n 0, 1), (9, .getfield 12, 3), (12, .iload_n 1, 1), (13, .putfield 219, 3), (16, .iload_n 2, 1), (17, .ireturn, 1)], RX4, 0, 3, some .int)
theorem okX4_seed : MOK yX4_seed cX4_seed mX4_seed := ⟨by decide +kernel, rfl, by decide +kernel⟩
def mX4_feed : Mi := ([(0, .iload_n 2, 1), (1, .iconst 1, 1), (2, .if_icmp .lt 8, 3), (5, .iload_n 2, 1), (6, .iconst 4, 1), (7, .if_icmp .le 10, 3), (10, .aload_n 0, 1), (11, .ldc 61, 2), (13, .invokevirtual 62, 3), (16, .ireturn, 1), (17, .aload_n 0, 1), (18, .getfield 29, 3), (21, .getfield 222, 3), (24, .iload_n 2, 1), (25, .iadd, 1), (26, .bipush 120, 2), (28, .if_icmp .le 10, 3), (31, .aload_n 0, 1), (32, .ldc 89, 2), (34, .invokevirtual 62, 3), (37, .ireturn, 1), (38, .aload_n 0, 1), (39, .getfield 29, 3), (42, .iload_n 1, 1), (43, .iload_n 2, 1), (44, .invokevirtual 225, 3), (47, .aload_n 0, 1), (48, .getfield 29, 3), (51, .getfield 222, 3), (54, .ireturn, 1)], RX4, 1, 3, some .int)
theorem okX4_feed : MOK yX4_feed cX4_feed mX4_feed := ⟨by decide +kernel, rfl, by decide +kernel⟩
def mX4_wipe : Mi := ([(0, .aload_n 0, 1), (1, .getfield 29, 3), (4, .getfield 222, 3), (7, .istore_n 1, 1), (8, .aload_n 0, 1), (9, .getfield 29, 3), (12, .iconst 0, 1), (13, .putfield 222, 3), (16, .iload_n 1, 1), (17, .ireturn, 1)], RX4, 0, 2, some .int)
theorem okX4_wipe : MOK yX4_wipe cX4_wipe mX4_wipe := ⟨by decide +kernel, rfl, by decide +kernel⟩
def mX4_text : Mi := ([(0, .aload_n 0, 1), (1, .getfield 16, 3), (4, .aload_n 0, 1), (5, .getfield 12, 3), (8, .invokevirtual 172, 3), (11, .aload_n 0, 1), (12, .getfield 38, 3), (15, .invokevirtual 229, 3), (18, .istore_n 1, 1), (19, .iload_n 1, 1), (20, .ifCond .lt 14, 3), (23, .aload_n 0, 1), (24, .getfield 12, 3), (27, .aload_n 0, 1), (28, .getfield 16, 3), (31, .invokevirtual 172, 3), (34, .aload_n 0, 1), (35, .getfield 29, 3), (38, .iconst 0, 1), (39, .putfield 222, 3), (42, .iload_n 1, 1), (43, .ireturn, 1)], RX4, 9, 2, some .int)
theorem okX4_text : MOK yX4_text cX4_text mX4_text := ⟨by decide +kernel, rfl, by decide +kernel⟩
def mX4_hold : Mi := ([(0, .iload_n 1, 1), (1, .invokestatic 232, 3), (4, .ifCond .eq 16, 3), (7, .iload_n 2, 1), (8, .iconst (-1), 1), (9, .if_icmp .eq 18, 3), (12, .aload_n 0, 1), (13, .iload_n 2, 1), (14, .invokevirtual 94, 3), (17, .ifCond .ne 10, 3), (20, .aload_n 0, 1), (21, .ldc 61, 2), (23, .invokevirtual 62, 3), (26, .ireturn, 1), (27, .aload_n 0, 1), (28, .getfield 12, 3), (31, .getfield 235, 3), (34, .iload_n 1, 1), (35, .iload_n 2, 1), (36, .iastore, 1), (37, .iconst 1, 1), (38, .ireturn, 1)], RX4, 1, 3, some .int)
theorem okX4_hold : MOK yX4_hold cX4_hold mX4_hold := ⟨by decide +kernel, rfl, by decide +kernel⟩
def mX4_as : Mi := ([(0, .iload_n 1, 1), (1, .invokestatic 232, 3), (4, .ifCond .eq 10, 3), (7, .iload_n 2, 1), (8, .invokestatic 82, 3), (11, .ifCond .ne 10, 3), (14, .aload_n 0, 1), (15, .ldc 61, 2), (17, .invokevirtual 62, 3), (20, .ireturn, 1), (21, .aload_n 0, 1), (22, .getfield 12, 3), (25, .getfield 235, 3), (28, .iload_n 1, 1), (29, .iaload, 1), (30, .istore_n 3, 1), (31, .aload_n 0, 1), (32, .iload_n 3, 1), (33, .invokevirtual 94, 3), (36, .ifCond .ne 10, 3), (39, .aload_n 0, 1), (40, .ldc 238, 2), (42, .invokevirtual 62, 3), (45, .ireturn, 1), (46, .aload_n 0, 1), (47, .getfield 12, 3), (50, .getfield 239, 3), (53, .iload_n 3, 1), (54, .iaload, 1), (55, .iload_n 2, 1), (56, .invokestatic 242, 3), (59, .ifCond .ne 10, 3), (62, .aload_n 0, 1), (63, .ldc 245, 2), (65, .invokevirtual 62, 3), (68, .ireturn, 1), (69, .iload_n 3, 1), (70, .ireturn, 1)], RX4, 2, 4, some .int)
theorem okX4_as : MOK yX4_as cX4_as mX4_as := ⟨by decide +kernel, rfl, by decide +kernel⟩
def mX4_sheet : Mi := ([(0, .iload_n 1, 1), (1, .invokestatic 246, 3), (4, .ifCond .eq 25, 3), (7, .iload_n 2, 1), (8, .ifCond .eq 28, 3), (11, .iload_n 2, 1), (12, .bipush 8, 2), (14, .if_icmp .eq 22, 3), (17, .iload_n 2, 1), (18, .bipush 16, 2), (20, .if_icmp .eq 16, 3), (23, .iload_n 2, 1), (24, .bipush 32, 2), (26, .if_icmp .eq 10, 3), (29, .aload_n 0, 1), (30, .ldc 61, 2), (32, .invokevirtual 62, 3), (35, .ireturn, 1), (36, .iload_n 3, 1), (37, .ifCond .ge 10, 3), (40, .aload_n 0, 1), (41, .ldc 249, 2), (43, .invokevirtual 62, 3), (46, .ireturn, 1), (47, .iload_n 3, 1), (48, .bipush 40, 2), (50, .if_icmp .le 10, 3), (53, .aload_n 0, 1), (54, .ldc 61, 2), (56, .invokevirtual 62, 3), (59, .ireturn, 1), (60, .aload_n 0, 1), (61, .getfield 44, 3), (64, .iload_n 1, 1), (65, .aaload, 1), (66, .iload_n 2, 1), (67, .iload_n 3, 1), (68, .invokevirtual 250, 3), (71, .aload_n 0, 1), (72, .getfield 44, 3), (75, .iload_n 1, 1), (76, .aaload, 1), (77, .getfield 253, 3), (80, .ireturn, 1)], RX4, 1, 4, some .int)
theorem okX4_sheet : MOK yX4_sheet cX4_sheet mX4_sheet := ⟨by decide +kernel, rfl, by decide +kernel⟩
def mX4_write : Mi := ([(0, .iload_n 1, 1), (1, .invokestatic 246, 3), (4, .ifCond .ne 10, 3), (7, .aload_n 0, 1), (8, .ldc 61, 2), (10, .invokevirtual 62, 3), (13, .ireturn, 1), (14, .aload_n 0, 1), (15, .getfield 44, 3), (18, .iload_n 1, 1), (19, .aaload, 1), (20, .invokevirtual 254, 3), (23, .ifCond .eq 10, 3), (26, .aload_n 0, 1), (27, .ldc 238, 2), (29, .invokevirtual 62, 3), (32, .ireturn, 1), (33, .iload_n 2, 1), (34, .ifCond .lt 16, 3), (37, .iload_n 2, 1), (38, .aload_n 0, 1), (39, .getfield 44, 3), (42, .iload_n 1, 1), (43, .aaload, 1), (44, .getfield 253, 3), (47, .if_icmp .lt 10, 3), (50, .aload_n 0, 1), (51, .ldc 61, 2), (53, .invokevirtual 62, 3), (56, .ireturn, 1), (57, .aload_n 0, 1), (58, .getfield 44, 3), (61, .iload_n 1, 1), (62, .aaload, 1), (63, .getfield 257, 3), (66, .iload_n 2, 1), (67, .aload_n 0, 1), (68, .getfield 44, 3), (71, .iload_n 1, 1), (72, .aaload, 1), (73, .iload_n 3, 1), (74, .invokevirtual 260, 3), (77, .iastore, 1), (78, .iconst 1, 1), (79, .ireturn, 1)], RX4, 1, 4, some .int)
theorem okX4_write : MOK yX4_write cX4_write mX4_write := ⟨by decide +kernel, rfl, by decide +kernel⟩
def mX4_copy : Mi := ([(0, .iload_n 1, 1), (1, .invokestatic 246, 3), (4, .ifCond .eq 10, 3), (7, .iload_n 3, 1), (8, .invokestatic 246, 3), (11, .ifCond .ne 10, 3), (14, .aload_n 0, 1), (15, .ldc 61, 2), (17, .invokevirtual 62, 3), (20, .ireturn, 1), (21, .aload_n 0, 1), (22, .getfield 44, 3), (25, .iload_n 1, 1), (26, .aaload, 1), (27, .invokevirtual 254, 3), (30, .ifCond .ne 15, 3), (33, .aload_n 0, 1), (34, .getfield 44, 3), (37, .iload_n 3, 1), (38, .aaload, 1), (39, .invokevirtual 254, 3), (42, .ifCond .eq 10, 3), (45, .aload_n 0, 1), (46, .ldc 238, 2), (48, .invokevirtual 62, 3), (51, .ireturn, 1), (52, .aload_n 0, 1), (53, .getfield 44, 3), (56, .iload_n 1, 1), (57, .aaload, 1), (58, .getfield 263, 3), (61, .aload_n 0, 1), (62, .getfield 44, 3), (65, .iload_n 3, 1), (66, .aaload, 1), (67, .getfield 263, 3), (70, .if_icmp .eq 10, 3), (73, .aload_n 0, 1), (74, .ldc 245, 2), (76, .invokevirtual 62, 3), (79, .ireturn, 1), (80, .aload_n 0, 1), (81, .getfield 44, 3), (84, .iload_n 1, 1), (85, .aaload, 1), (86, .iload_n 2, 1), (87, .iload 5, 2), (89, .invokevirtual 266, 3), (92, .ifCond .eq 19, 3), (95, .aload_n 0, 1), (96, .getfield 44, 3), (99, .iload_n 3, 1), (100, .aaload, 1), (101, .iload 4, 2), (103, .iload 5, 2), (105, .invokevirtual 266, 3), (108, .ifCond .ne 10, 3), (111, .aload_n 0, 1), (112, .ldc 61, 2), (114, .invokevirtual 62, 3), (117, .ireturn, 1), (118, .aload_n 0, 1), (119, .getfield 44, 3), (122, .iload_n 1, 1), (123, .aaload, 1), (124, .getfield 257, 3), (127, .iload_n 2, 1), (128, .aload_n 0, 1), (129, .getfield 44, 3), (132, .iload_n 3, 1), (133, .aaload, 1), (134, .getfield 257, 3), (137, .iload 4, 2), (139, .iload 5, 2), (141, .invokestatic 269, 3), (144, .iload 5, 2), (146, .ireturn, 1)], RX4, 1, 6, some .int)
theorem okX4_copy : MOK yX4_copy cX4_copy mX4_copy := ⟨by decide +kernel, rfl, by decide +kernel⟩
def mX4_load : Mi := ([(0, .iload_n 1, 1), (1, .invokestatic 246, 3), (4, .ifCond .ne 10, 3), (7, .aload_n 0, 1), (8, .ldc 61, 2), (10, .invokevirtual 62, 3), (13, .ireturn, 1), (14, .aload_n 0, 1), (15, .getfield 44, 3), (18, .iload_n 1, 1), (19, .aaload, 1), (20, .invokevirtual 254, 3), (23, .ifCond .eq 10, 3), (26, .aload_n 0, 1), (27, .ldc 238, 2), (29, .invokevirtual 62, 3), (32, .ireturn, 1), (33, .iconst 0, 1), (34, .istore_n 2, 1), (35, .aload_n 0, 1), (36, .getfield 44, 3), (39, .iload_n 1, 1), (40, .aaload, 1), (41, .getfield 253, 3), (44, .bipush 12, 2), (46, .invokestatic 139, 3), (49, .istore_n 3, 1), (50, .iload_n 2, 1), (51, .iload_n 3, 1), (52, .if_icmp .ge 48, 3), (55, .aload_n 0, 1), (56, .getfield 44, 3), (59, .iload_n 1, 1), (60, .aaload, 1), (61, .getfield 257, 3), (64, .iload_n 2, 1), (65, .iaload, 1), (66, .bipush 99, 2), (68, .invokestatic 57, 3), (71, .ifCond .eq 29, 3), (74, .aload_n 0, 1), (75, .getfield 12, 3), (78, .getfield 66, 3), (81, .iload_n 2, 1), (82, .aload_n 0, 1), (83, .getfield 44, 3), (86, .iload_n 1, 1), (87, .aaload, 1), (88, .getfield 257, 3), (91, .iload_n 2, 1), (92, .iaload, 1), (93, .iastore, 1), (94, .iinc 2 1, 3), (97, .goto (-47), 3), (100, .iload_n 2, 1), (101, .ireturn, 1)], RX4, 1, 4, some .int)
theorem okX4_load : MOK yX4_load cX4_load mX4_load := ⟨by decide +kernel, rfl, by decide +kernel⟩
def mX4_judge : Mi := ([(0, .iload_n 1, 1), (1, .invokestatic 246, 3), (4, .ifCond .ne 10, 3), (7, .aload_n 0, 1), (8, .ldc 61, 2), (10, .invokevirtual 62, 3), (13, .ireturn, 1), (14, .aload_n 0, 1), (15, .getfield 44, 3), (18, .iload_n 1, 1), (19, .aaload, 1), (20, .invokevirtual 254, 3), (23, .ifCond .eq 10, 3), (26, .aload_n 0, 1), (27, .ldc 238, 2), (29, .invokevirtual 62, 3), (32, .ireturn, 1), (33, .iconst 0, 1), (34, .istore_n 2, 1), (35, .iload_n 2, 1), (36, .aload_n 0, 1), (37, .getfield 44, 3), (40, .iload_n 1, 1), (41, .aaload, 1), (42, .getfield 253, 3), (45, .if_icmp .ge 44, 3), (48, .aload_n 0, 1), (49, .iload_n 2, 1), (50, .invokevirtual 94, 3), (53, .ifCond .eq 26, 3), (56, .aload_n 0, 1), (57, .getfield 12, 3), (60, .getfield 119, 3), (63, .iload_n 2, 1), (64, .iaload, 1), (65, .aload_n 0, 1), (66, .getfield 44, 3), (69, .iload_n 1, 1), (70, .aaload, 1), (71, .getfield 257, 3), (74, .iload_n 2, 1), (75, .iaload, 1), (76, .if_icmp .eq 7, 3), (79, .iconst 1, 1), (80, .iload_n 2, 1), (81, .iadd, 1), (82, .ireturn, 1), (83, .iinc 2 1, 3), (86, .goto (-51), 3), (89, .iconst 0, 1), (90, .ireturn, 1)], RX4, 1, 3, some .int)
theorem okX4_judge : MOK yX4_judge cX4_judge mX4_judge := ⟨by decide +kernel, rfl, by decide +kernel⟩
def mX4_image : Mi := ([(0, .aload_n 0, 1), (1, .getfield 19, 3), (4, .aload_n 0, 1), (5, .getfield 12, 3), (8, .invokevirtual 172, 3), (11, .aload_n 0, 1), (12, .iconst 1, 1), (13, .putfield 22, 3), (16, .iconst 1, 1), (17, .ireturn, 1)], RX4, 2, 1, some .int)
theorem okX4_image : MOK yX4_image cX4_image mX4_image := ⟨by decide +kernel, rfl, by decide +kernel⟩
def mX4_undo : Mi := ([(0, .aload_n 0, 1), (1, .getfield 22, 3), (4, .ifCond .ne 10, 3), (7, .aload_n 0, 1), (8, .ldc 134, 2), (10, .invokevirtual 62, 3), (13, .ireturn, 1), (14, .aload_n 0, 1), (15, .getfield 12, 3), (18, .aload_n 0, 1), (19, .getfield 19, 3), (22, .invokevirtual 172, 3), (25, .aload_n 0, 1), (26, .getfield 12, 3), (29, .getfield 144, 3), (32, .ireturn, 1)], RX4, 2, 1, some .int)
theorem okX4_undo : MOK yX4_undo cX4_undo mX4_undo := ⟨by decide +kernel, rfl, by decide +kernel⟩
def mX4_tear : Mi := ([(0, .aload_n 0, 1), (1, .getfield 22, 3), (4, .ifCond .eq 7, 3), (7, .iconst 1, 1), (8, .goto 4, 3), (11, .iconst 0, 1), (12, .istore_n 1, 1), (13, .aload_n 0, 1), (14, .iconst 0, 1), (15, .putfield 22, 3), (18, .iload_n 1, 1), (19, .ireturn, 1)], RX4, 0, 2, some .int)
theorem okX4_tear : MOK yX4_tear cX4_tear mX4_tear := ⟨by decide +kernel, rfl, by decide +kernel⟩
def mX4_count : Mi := ([(0, .iload_n 1, 1), (1, .tableswitch 114 0 7 #[47, 55, 63, 74, 82, 90, 98, 106], 47), (48, .aload_n 0, 1), (49, .getfield 12, 3), (52, .getfield 144, 3), (55, .ireturn, 1), (56, .aload_n 0, 1), (57, .getfield 12, 3), (60, .getfield 187, 3), (63, .ireturn, 1), (64, .aload_n 0, 1), (65, .getfield 12, 3), (68, .invokevirtual 152, 3), (71, .invokestatic 190, 3), (74, .ireturn, 1), (75, .aload_n 0, 1), (76, .getfield 12, 3), (79, .getfield 79, 3), (82, .ireturn, 1), (83, .aload_n 0, 1), (84, .getfield 12, 3), (87, .invokevirtual 157, 3), (90, .ireturn, 1), (91, .aload_n 0, 1), (92, .getfield 29, 3), (95, .getfield 222, 3), (98, .ireturn, 1), (99, .aload_n 0, 1), (100, .getfield 12, 3), (103, .getfield 219, 3), (106, .ireturn, 1), (107, .aload_n 0, 1), (108, .getfield 12, 3), (111, .invokevirtual 275, 3), (114, .ireturn, 1), (115, .aload_n 0, 1), (116, .ldc 61, 2), (118, .invokevirtual 62, 3), (121, .ireturn, 1)], RX4, 3, 2, some .int)
theorem okX4_count : MOK yX4_count cX4_count mX4_count := ⟨by decide +kernel, rfl, by decide +kernel⟩
def mX4_status : Mi := ([(0, .iload_n 1, 1), (1, .iconst (-1), 1), (2, .if_icmp .lt 9, 3), (5, .iload_n 1, 1), (6, .bipush 7, 2), (8, .if_icmp .lt 10, 3), (11, .aload_n 0, 1), (12, .ldc 61, 2), (14, .invokevirtual 62, 3), (17, .ireturn, 1), (18, .iload_n 1, 1), (19, .ifCond .lt 10, 3), (22, .aload_n 0, 1), (23, .getfield 49, 3), (26, .iload_n 1, 1), (27, .iaload, 1), (28, .ireturn, 1), (29, .iconst 0, 1), (30, .istore_n 2, 1), (31, .iconst 0, 1), (32, .istore_n 3, 1), (33, .iload_n 3, 1), (34, .bipush 7, 2), (36, .if_icmp .ge 18, 3), (39, .iload_n 2, 1), (40, .aload_n 0, 1), (41, .getfield 49, 3), (44, .iload_n 3, 1), (45, .iaload, 1), (46, .iadd, 1), (47, .istore_n 2, 1), (48, .iinc 3 1, 3), (51, .goto (-18), 3), (54, .iload_n 2, 1), (55, .ireturn, 1)], RX4, 1, 4, some .int)
theorem okX4_status : MOK yX4_status cX4_status mX4_status := ⟨by decide +kernel, rfl, by decide +kernel⟩
def mX4_found : Mi := ([(0, .ldc 61, 2), (2, .iload_n 1, 1), (3, .isub, 1), (4, .istore_n 2, 1), (5, .iload_n 2, 1), (6, .ifCond .lt 19, 3), (9, .iload_n 2, 1), (10, .bipush 7, 2), (12, .if_icmp .ge 13, 3), (15, .aload_n 0, 1), (16, .getfield 49, 3), (19, .iload_n 2, 1), (20, .dup2, 1), (21, .iaload, 1), (22, .iconst 1, 1), (23, .iadd, 1), (24, .iastore, 1), (25, .iload_n 1, 1), (26, .ireturn, 1)], RX4, 0, 3, some .int)
theorem okX4_found : MOK yX4_found cX4_found mX4_found := ⟨by decide +kernel, rfl, by decide +kernel⟩
def mX4_isGoat : Mi := ([(0, .iload_n 1, 1), (1, .ifCond .lt 18, 3), (4, .iload_n 1, 1), (5, .aload_n 0, 1), (6, .getfield 12, 3), (9, .getfield 187, 3), (12, .if_icmp .ge 7, 3), (15, .iconst 1, 1), (16, .goto 4, 3), (19, .iconst 0, 1), (20, .ireturn, 1)], RX4, 0, 2, some .boolean)
theorem okX4_isGoat : MOK yX4_isGoat cX4_isGoat mX4_isGoat := ⟨by decide +kernel, rfl, by decide +kernel⟩
def mX4_isWithin : Mi := ([(0, .iload_n 0, 1), (1, .ifCond .lt 12, 3), (4, .iload_n 0, 1), (5, .iload_n 1, 1), (6, .if_icmp .gt 7, 3), (9, .iconst 1, 1), (10, .goto 4, 3), (13, .iconst 0, 1), (14, .ireturn, 1)], RX4, 0, 2, some .boolean)
theorem okX4_isWithin : MOK yX4_isWithin cX4_isWithin mX4_isWithin := ⟨by decide +kernel, rfl, by decide +kernel⟩
def mX4_isLedge : Mi := ([(0, .iload_n 0, 1), (1, .ifCond .lt 13, 3), (4, .iload_n 0, 1), (5, .bipush 12, 2), (7, .if_icmp .ge 7, 3), (10, .iconst 1, 1), (11, .goto 4, 3), (14, .iconst 0, 1), (15, .ireturn, 1)], RX4, 0, 1, some .boolean)
theorem okX4_isLedge : MOK yX4_isLedge cX4_isLedge mX4_isLedge := ⟨by decide +kernel, rfl, by decide +kernel⟩
def mX4_isPage : Mi := ([(0, .iload_n 0, 1), (1, .ifCond .lt 13, 3), (4, .iload_n 0, 1), (5, .bipush 16, 2), (7, .if_icmp .ge 7, 3), (10, .iconst 1, 1), (11, .goto 4, 3), (14, .iconst 0, 1), (15, .ireturn, 1)], RX4, 0, 1, some .boolean)
theorem okX4_isPage : MOK yX4_isPage cX4_isPage mX4_isPage := ⟨by decide +kernel, rfl, by decide +kernel⟩
def mX4_isKind : Mi := ([(0, .iload_n 0, 1), (1, .ifCond .lt 13, 3), (4, .iload_n 0, 1), (5, .bipush 7, 2), (7, .if_icmp .ge 7, 3), (10, .iconst 1, 1), (11, .goto 4, 3), (14, .iconst 0, 1), (15, .ireturn, 1)], RX4, 0, 1, some .boolean)
theorem okX4_isKind : MOK yX4_isKind cX4_isKind mX4_isKind := ⟨by decide +kernel, rfl, by decide +kernel⟩
def mX4_isSpot : Mi := ([(0, .iload_n 0, 1), (1, .ifCond .lt 13, 3), (4, .iload_n 0, 1), (5, .bipush 10, 2), (7, .if_icmp .ge 7, 3), (10, .iconst 1, 1), (11, .goto 4, 3), (14, .iconst 0, 1), (15, .ireturn, 1)], RX4, 0, 1, some .boolean)
theorem okX4_isSpot : MOK yX4_isSpot cX4_isSpot mX4_isSpot := ⟨by decide +kernel, rfl, by decide +kernel⟩
def mX4_isSheet : Mi := ([(0, .iload_n 0, 1), (1, .ifCond .lt 12, 3), (4, .iload_n 0, 1), (5, .iconst 4, 1), (6, .if_icmp .ge 7, 3), (9, .iconst 1, 1), (10, .goto 4, 3), (13, .iconst 0, 1), (14, .ireturn, 1)], RX4, 0, 1, some .boolean)
theorem okX4_isSheet : MOK yX4_isSheet cX4_isSheet mX4_isSheet := ⟨by decide +kernel, rfl, by decide +kernel⟩
def mX4_hasBit : Mi := ([(0, .iload_n 0, 1), (1, .iload_n 1, 1), (2, .ishr, 1), (3, .iconst 1, 1), (4, .iand, 1), (5, .ifCond .eq 7, 3), (8, .iconst 1, 1), (9, .goto 4, 3), (12, .iconst 0, 1), (13, .ireturn, 1)], RX4, 0, 2, some .boolean)
theorem okX4_hasBit : MOK yX4_hasBit cX4_hasBit mX4_hasBit := ⟨by decide +kernel, rfl, by decide +kernel⟩
def mX4_leastBit : Mi := ([(0, .iload_n 0, 1), (1, .iload_n 0, 1), (2, .ineg, 1), (3, .iand, 1), (4, .ireturn, 1)], RX4, 0, 1, some .int)
theorem okX4_leastBit : MOK yX4_leastBit cX4_leastBit mX4_leastBit := ⟨by decide +kernel, rfl, by decide +kernel⟩
def mX4_isTraitValue : Mi := ([(0, .iload_n 0, 1), (1, .tableswitch 79 0 5 #[39, 44, 49, 56, 64, 71], 39), (40, .iload_n 1, 1), (41, .invokestatic 82, 3), (44, .ireturn, 1), (45, .iload_n 1, 1), (46, .invokestatic 53, 3), (49, .ireturn, 1), (50, .iload_n 1, 1), (51, .ldc 156, 2), (53, .invokestatic 57, 3), (56, .ireturn, 1), (57, .iload_n 1, 1), (58, .sipush 9999, 3), (61, .invokestatic 57, 3), (64, .ireturn, 1), (65, .iload_n 1, 1), (66, .bipush 99, 2), (68, .invokestatic 57, 3), (71, .ireturn, 1), (72, .iload_n 1, 1), (73, .sipush 9999, 3), (76, .invokestatic 57, 3), (79, .ireturn, 1), (80, .iconst 0, 1), (81, .ireturn, 1)], RX4, 1, 2, some .boolean)
theorem okX4_isTraitValue : MOK yX4_isTraitValue cX4_isTraitValue mX4_isTraitValue := ⟨by decide +kernel, rfl, by decide +kernel⟩
def mX4_power : Mi := ([(0, .lconst 1, 1), (1, .lstore_n 2, 1), (2, .iconst 0, 1), (3, .istore 4, 2), (5, .iload 4, 2), (7, .iload_n 1, 1), (8, .if_icmp .ge 14, 3), (11, .lload_n 2, 1), (12, .iload_n 0, 1), (13, .i2l, 1), (14, .lmul, 1), (15, .lstore_n 2, 1), (16, .iinc 4 1, 3), (19, .goto (-14), 3), (22, .lload_n 2, 1), (23, .lreturn, 1)], RX4, 0, 5, some .long)
theorem okX4_power : MOK yX4_power cX4_power mX4_power := ⟨by decide +kernel, rfl, by decide +kernel⟩
def mX4_daysUntil : Mi := ([(0, .aload_n 0, 1), (1, .getfield 16, 3), (4, .aload_n 0, 1), (5, .getfield 12, 3), (8, .invokevirtual 172, 3), (11, .iconst 0, 1), (12, .istore 4, 2), (14, .iload 4, 2), (16, .bipush 100, 2), (18, .if_icmp .gt 29, 3), (21, .aload_n 0, 1), (22, .iload_n 1, 1), (23, .iload_n 2, 1), (24, .iload_n 3, 1), (25, .invokevirtual 278, 3), (28, .ifCond .eq 6, 3), (31, .iload 4, 2), (33, .ireturn, 1), (34, .aload_n 0, 1), (35, .getfield 16, 3), (38, .invokevirtual 212, 3), (41, .iinc 4 1, 3), (44, .goto (-30), 3), (47, .aload_n 0, 1), (48, .ldc 134, 2), (50, .invokevirtual 62, 3), (53, .ireturn, 1)], RX4, 6, 5, some .int)
theorem okX4_daysUntil : MOK yX4_daysUntil cX4_daysUntil mX4_daysUntil := ⟨by decide +kernel, rfl, by decide +kernel⟩
def mX4_hasCome : Mi := ([(0, .iload_n 1, 1), (1, .tableswitch 85 0 2 #[27, 41, 58], 27), (28, .aload_n 0, 1), (29, .getfield 16, 3), (32, .getfield 119, 3), (35, .iload_n 2, 1), (36, .iaload, 1), (37, .iload_n 3, 1), (38, .invokestatic 198, 3), (41, .ireturn, 1), (42, .aload_n 0, 1), (43, .getfield 16, 3), (46, .iload_n 2, 1), (47, .invokevirtual 184, 3), (50, .ifCond .ne 7, 3), (53, .iconst 1, 1), (54, .goto 4, 3), (57, .iconst 0, 1), (58, .ireturn, 1), (59, .aload_n 0, 1), (60, .getfield 16, 3), (63, .getfield 122, 3), (66, .iload_n 2, 1), (67, .iaload, 1), (68, .aload_n 0, 1), (69, .getfield 16, 3), (72, .getfield 122, 3), (75, .iload_n 3, 1), (76, .iaload, 1), (77, .if_icmp .ne 7, 3), (80, .iconst 1, 1), (81, .goto 4, 3), (84, .iconst 0, 1), (85, .ireturn, 1), (86, .aload_n 0, 1), (87, .getfield 16, 3), (90, .getfield 122, 3), (93, .iload_n 2, 1), (94, .iaload, 1), (95, .iload_n 3, 1), (96, .if_icmp .ne 7, 3), (99, .iconst 1, 1), (100, .goto 4, 3), (103, .iconst 0, 1), (104, .ireturn, 1)], RX4, 4, 4, some .boolean)
theorem okX4_hasCome : MOK yX4_hasCome cX4_hasCome mX4_hasCome := ⟨by decide +kernel, rfl, by decide +kernel⟩
def mX4_bestTrait : Mi := ([(0, .iconst 0, 1), (1, .istore 5, 2), (3, .iconst (-1), 1), (4, .istore 6, 2), (6, .iconst 0, 1), (7, .istore 7, 2), (9, .iload 7, 2), (11, .iload_n 3, 1), (12, .if_icmp .ge 69, 3), (15, .aload_n 0, 1), (16, .getfield 16, 3), (19, .aload_n 0, 1), (20, .getfield 12, 3), (23, .invokevirtual 172, 3), (26, .aload_n 0, 1), (27, .getfield 16, 3), (30, .iload_n 1, 1), (31, .iload_n 2, 1), (32, .iload 7, 2), (34, .invokevirtual 115, 3), (37, .aload_n 0, 1), (38, .getfield 16, 3), (41, .iload 4, 2), (43, .invokevirtual 148, 3), (46, .aload_n 0, 1), (47, .getfield 16, 3), (50, .getfield 119, 3), (53, .iload_n 1, 1), (54, .iaload, 1), (55, .invokestatic 190, 3), (58, .istore 8, 2), (60, .iload 8, 2), (62, .iload 6, 2), (64, .if_icmp .le 11, 3), (67, .iload 8, 2), (69, .istore 6, 2), (71, .iload 7, 2), (73, .istore 5, 2), (75, .iinc 7 1, 3), (78, .goto (-69), 3), (81, .iload 5, 2), (83, .ireturn, 1)], RX4, 7, 9, some .int)
theorem okX4_bestTrait : MOK yX4_bestTrait cX4_bestTrait mX4_bestTrait := ⟨by decide +kernel, rfl, by decide +kernel⟩
def mX4_isLostWithout : Mi := ([(0, .aload_n 0, 1), (1, .getfield 16, 3), (4, .aload_n 0, 1), (5, .getfield 12, 3), (8, .invokevirtual 172, 3), (11, .aload_n 0, 1), (12, .getfield 16, 3), (15, .iload_n 1, 1), (16, .putfield 281, 3), (19, .aload_n 0, 1), (20, .getfield 16, 3), (23, .iload_n 3, 1), (24, .invokevirtual 148, 3), (27, .aload_n 0, 1), (28, .getfield 16, 3), (31, .iload_n 2, 1), (32, .invokevirtual 184, 3), (35, .ifCond .ne 7, 3), (38, .iconst 1, 1), (39, .goto 4, 3), (42, .iconst 0, 1), (43, .ireturn, 1)], RX4, 7, 4, some .boolean)
theorem okX4_isLostWithout : MOK yX4_isLostWithout cX4_isLostWithout mX4_isLostWithout := ⟨by decide +kernel, rfl, by decide +kernel⟩
def mX4_traitsAsTold : Mi := ([(0, .iload_n 1, 1), (1, .invokestatic 246, 3), (4, .ifCond .ne 10, 3), (7, .aload_n 0, 1), (8, .ldc 61, 2), (10, .invokevirtual 62, 3), (13, .ireturn, 1), (14, .aload_n 0, 1), (15, .getfield 44, 3), (18, .iload_n 1, 1), (19, .aaload, 1), (20, .invokevirtual 254, 3), (23, .ifCond .eq 10, 3), (26, .aload_n 0, 1), (27, .ldc 238, 2), (29, .invokevirtual 62, 3), (32, .ireturn, 1), (33, .aload_n 0, 1), (34, .iload_n 2, 1), (35, .invokevirtual 94, 3), (38, .ifCond .ne 10, 3), (41, .aload_n 0, 1), (42, .ldc 61, 2), (44, .invokevirtual 62, 3), (47, .ireturn, 1), (48, .iconst 0, 1), (49, .istore 6, 2), (51, .iconst 0, 1), (52, .istore 7, 2), (54, .iload 7, 2), (56, .iload 4, 2), (58, .if_icmp .ge 56, 3), (61, .aload_n 0, 1), (62, .getfield 16, 3), (65, .aload_n 0, 1), (66, .getfield 12, 3), (69, .invokevirtual 172, 3), (72, .aload_n 0, 1), (73, .getfield 16, 3), (76, .iload_n 2, 1), (77, .iload_n 3, 1), (78, .iload 7, 2), (80, .invokevirtual 115, 3), (83, .aload_n 0, 1), (84, .aload_n 0, 1), (85, .getfield 44, 3), (88, .iload_n 1, 1), (89, .aaload, 1), (90, .iload_n 2, 1), (91, .iload 5, 2), (93, .invokevirtual 284, 3), (96, .ifCond .eq 12, 3), (99, .iload 6, 2), (101, .iconst 1, 1), (102, .iload 7, 2), (104, .ishl, 1), (105, .ior, 1), (106, .istore 6, 2), (108, .iinc 7 1, 3), (111, .goto (-57), 3), (114, .iload 6, 2), (116, .ireturn, 1)], RX4, 7, 8, some .int)
theorem okX4_traitsAsTold : MOK yX4_traitsAsTold cX4_traitsAsTold mX4_traitsAsTold := ⟨by decide +kernel, rfl, by decide +kernel⟩
def mX4_comesAsTold : Mi := ([(0, .iconst 0, 1), (1, .istore 4, 2), (3, .iload 4, 2), (5, .aload_n 1, 1), (6, .getfield 253, 3), (9, .if_icmp .ge 53, 3), (12, .iload 4, 2), (14, .ifCond .le 10, 3), (17, .aload_n 0, 1), (18, .getfield 16, 3), (21, .invokevirtual 212, 3), (24, .aload_n 1, 1), (25, .getfield 257, 3), (28, .iload 4, 2), (30, .iaload, 1), (31, .iconst (-1), 1), (32, .if_icmp .eq 24, 3), (35, .aload_n 1, 1), (36, .getfield 257, 3), (39, .iload 4, 2), (41, .iaload, 1), (42, .aload_n 0, 1), (43, .getfield 16, 3), (46, .iload_n 2, 1), (47, .iload_n 3, 1), (48, .invokevirtual 109, 3), (51, .if_icmp .eq 5, 3), (54, .iconst 0, 1), (55, .ireturn, 1), (56, .iinc 4 1, 3), (59, .goto (-56), 3), (62, .iconst 1, 1), (63, .ireturn, 1)], RX4, 6, 5, some .boolean)
theorem okX4_comesAsTold : MOK yX4_comesAsTold cX4_comesAsTold mX4_comesAsTold := ⟨by decide +kernel, rfl, by decide +kernel⟩
def mX5_isIn : Mi := ([(0, .lload_n 0, 1), (1, .lload_n 2, 1), (2, .lcmp, 1), (3, .ifCond .lt 14, 3), (6, .lload_n 0, 1), (7, .lload 4, 2), (9, .lcmp, 1), (10, .ifCond .gt 7, 3), (13, .iconst 1, 1), (14, .goto 4, 3), (17, .iconst 0, 1), (18, .ireturn, 1)], RX5, 0, 6, some .boolean)
theorem okX5_isIn : MOK yX5_isIn cX5_isIn mX5_isIn := ⟨by decide +kernel, rfl, by decide +kernel⟩
def mX5_finds : Mi := ([(0, .aload_n 0, 1), (1, .getfield 22, 3), (4, .iconst 0, 1), (5, .dup2, 1), (6, .iaload, 1), (7, .iconst 1, 1), (8, .iadd, 1), (9, .iastore, 1), (10, .aload_n 0, 1), (11, .getfield 22, 3), (14, .ldc 37, 2), (16, .iload_n 1, 1), (17, .isub, 1), (18, .iconst 1, 1), (19, .iadd, 1), (20, .dup2, 1), (21, .iaload, 1), (22, .iconst 1, 1), (23, .iadd, 1), (24, .iastore, 1), (25, .iload_n 1, 1), (26, .ireturn, 1)], RX5, 0, 2, some .int)
theorem okX5_finds : MOK yX5_finds cX5_finds mX5_finds := ⟨by decide +kernel, rfl, by decide +kernel⟩
def mX5_becomes : Mi := ([(0, .aload_n 0, 1), (1, .getfield 7, 3), (4, .iload_n 1, 1), (5, .iaload, 1), (6, .istore_n 3, 1), (7, .aload_n 0, 1), (8, .getfield 7, 3), (11, .iload_n 1, 1), (12, .iload_n 2, 1), (13, .iastore, 1), (14, .iload_n 3, 1), (15, .ireturn, 1)], RX5, 0, 4, some .int)
theorem okX5_becomes : MOK yX5_becomes cX5_becomes mX5_becomes := ⟨by decide +kernel, rfl, by decide +kernel⟩
def mX5_copyRow : Mi := ([(0, .iconst 0, 1), (1, .istore_n 2, 1), (2, .iload_n 2, 1), (3, .bipush 75, 2), (5, .if_icmp .ge 15, 3), (8, .aload_n 1, 1), (9, .iload_n 2, 1), (10, .aload_n 0, 1), (11, .iload_n 2, 1), (12, .iaload, 1), (13, .iastore, 1), (14, .iinc 2 1, 3), (17, .goto (-15), 3), (20, .return_, 1)], RX5, 0, 3, none)
theorem okX5_copyRow : MOK yX5_copyRow cX5_copyRow mX5_copyRow := ⟨by decide +kernel, rfl, by decide +kernel⟩
def mX5_isLedge : Mi := ([(0, .iload_n 0, 1), (1, .ifCond .lt 13, 3), (4, .iload_n 0, 1), (5, .bipush 12, 2), (7, .if_icmp .ge 7, 3), (10, .iconst 1, 1), (11, .goto 4, 3), (14, .iconst 0, 1), (15, .ireturn, 1)], RX5, 0, 1, some .boolean)
theorem okX5_isLedge : MOK yX5_isLedge cX5_isLedge mX5_isLedge := ⟨by decide +kernel, rfl, by decide +kernel⟩
def mX5_isPage : Mi := ([(0, .iload_n 0, 1), (1, .ifCond .lt 13, 3), (4, .iload_n 0, 1), (5, .bipush 16, 2), (7, .if_icmp .ge 7, 3), (10, .iconst 1, 1), (11, .goto 4, 3), (14, .iconst 0, 1), (15, .ireturn, 1)], RX5, 0, 1, some .boolean)
theorem okX5_isPage : MOK yX5_isPage cX5_isPage mX5_isPage := ⟨by decide +kernel, rfl, by decide +kernel⟩
def mX5_isGoat : Mi := ([(0, .iload_n 1, 1), (1, .ifCond .lt 17, 3), (4, .iload_n 1, 1), (5, .aload_n 0, 1), (6, .getfield 7, 3), (9, .iconst 0, 1), (10, .iaload, 1), (11, .if_icmp .ge 7, 3), (14, .iconst 1, 1), (15, .goto 4, 3), (18, .iconst 0, 1), (19, .ireturn, 1)], RX5, 0, 2, some .boolean)
theorem okX5_isGoat : MOK yX5_isGoat cX5_isGoat mX5_isGoat := ⟨by decide +kernel, rfl, by decide +kernel⟩
def mX5_at : Mi := ([(0, .bipush 17, 2), (2, .bipush 6, 2), (4, .iload_n 0, 1), (5, .imul, 1), (6, .iadd, 1), (7, .iload_n 1, 1), (8, .iadd, 1), (9, .ireturn, 1)], RX5, 0, 2, some .int)
theorem okX5_at : MOK yX5_at cX5_at mX5_at := ⟨by decide +kernel, rfl, by decide +kernel⟩
def mX5_its : Mi := ([(0, .aload_n 0, 1), (1, .getfield 7, 3), (4, .bipush 17, 2), (6, .bipush 6, 2), (8, .iload_n 1, 1), (9, .imul, 1), (10, .iadd, 1), (11, .iload_n 2, 1), (12, .iadd, 1), (13, .iaload, 1), (14, .ireturn, 1)], RX5, 0, 3, some .int)
theorem okX5_its : MOK yX5_its cX5_its mX5_its := ⟨by decide +kernel, rfl, by decide +kernel⟩
def mX5_least : Mi := ([(0, .iload_n 0, 1), (1, .iload_n 1, 1), (2, .if_icmp .ge 7, 3), (5, .iload_n 0, 1), (6, .goto 4, 3), (9, .iload_n 1, 1), (10, .ireturn, 1)], RX5, 0, 2, some .int)
theorem okX5_least : MOK yX5_least cX5_least mX5_least := ⟨by decide +kernel, rfl, by decide +kernel⟩
def mX5_greatest : Mi := ([(0, .iload_n 0, 1), (1, .iload_n 1, 1), (2, .if_icmp .le 7, 3), (5, .iload_n 0, 1), (6, .goto 4, 3), (9, .iload_n 1, 1), (10, .ireturn, 1)], RX5, 0, 2, some .int)
theorem okX5_greatest : MOK yX5_greatest cX5_greatest mX5_greatest := ⟨by decide +kernel, rfl, by decide +kernel⟩
def mX5_orNone : Mi := ([(0, .iload_n 1, 1), (1, .ifCond .ge 12, 3), (4, .aload_n 0, 1), (5, .ldc 38, 2), (7, .invokevirtual 39, 3), (10, .goto 4, 3), (13, .iload_n 1, 1), (14, .ireturn, 1)], RX5, 1, 2, some .int)
theorem okX5_orNone : MOK yX5_orNone cX5_orNone mX5_orNone := ⟨by decide +kernel, rfl, by decide +kernel⟩
def mX5_many : Mi := ([(0, .iconst 0, 1), (1, .istore_n 1, 1), (2, .iload_n 0, 1), (3, .istore_n 2, 1), (4, .iload_n 2, 1), (5, .ifCond .eq 15, 3), (8, .iinc 1 1, 3), (11, .iload_n 2, 1), (12, .iload_n 2, 1), (13, .iconst 1, 1), (14, .isub, 1), (15, .iand, 1), (16, .istore_n 2, 1), (17, .goto (-13), 3), (20, .iload_n 1, 1), (21, .ireturn, 1)], RX5, 0, 3, some .int)
theorem okX5_many : MOK yX5_many cX5_many mX5_many := ⟨by decide +kernel, rfl, by decide +kernel⟩
def mX5_grass : Mi := ([(0, .iload_n 1, 1), (1, .invokestatic 43, 3), (4, .ifCond .eq 26, 3), (7, .iload_n 2, 1), (8, .i2l, 1), (9, .lconst 0, 1), (10, .ldc2_w 47, 3), (13, .invokestatic 49, 3), (16, .ifCond .eq 14, 3), (19, .aload_n 0, 1), (20, .iconst 5, 1), (21, .iload_n 1, 1), (22, .iadd, 1), (23, .iload_n 2, 1), (24, .invokevirtual 53, 3), (27, .goto 9, 3), (30, .aload_n 0, 1), (31, .ldc 37, 2), (33, .invokevirtual 39, 3), (36, .ireturn, 1)], RX5, 1, 3, some .int)
theorem okX5_grass : MOK yX5_grass cX5_grass mX5_grass := ⟨by decide +kernel, rfl, by decide +kernel⟩
def mX5_there : Mi := ([(0, .iconst 0, 1), (1, .istore_n 2, 1), (2, .iconst 0, 1), (3, .istore_n 3, 1), (4, .iload_n 3, 1), (5, .aload_n 0, 1), (6, .getfield 7, 3), (9, .iconst 0, 1), (10, .iaload, 1), (11, .if_icmp .ge 29, 3), (14, .iload_n 2, 1), (15, .aload_n 0, 1), (16, .iload_n 3, 1), (17, .iconst 1, 1), (18, .invokevirtual 57, 3), (21, .iload_n 1, 1), (22, .if_icmp .ne 9, 3), (25, .iconst 1, 1), (26, .iload_n 3, 1), (27, .ishl, 1), (28, .goto 4, 3), (31, .iconst 0, 1), (32, .ior, 1), (33, .istore_n 2, 1), (34, .iinc 3 1, 3), (37, .goto (-33), 3), (40, .iload_n 2, 1), (41, .ireturn, 1)], RX5, 1, 4, some .int)
theorem okX5_there : MOK yX5_there cX5_there mX5_there := ⟨by decide +kernel, rfl, by decide +kernel⟩
def mX5_known : Mi := ([(0, .iconst 0, 1), (1, .istore_n 2, 1), (2, .iconst 0, 1), (3, .istore_n 3, 1), (4, .iload_n 3, 1), (5, .aload_n 0, 1), (6, .getfield 7, 3), (9, .iconst 0, 1), (10, .iaload, 1), (11, .if_icmp .ge 31, 3), (14, .iload_n 2, 1), (15, .iload_n 1, 1), (16, .iload_n 3, 1), (17, .ishr, 1), (18, .iconst 1, 1), (19, .iand, 1), (20, .iconst 1, 1), (21, .if_icmp .ne 12, 3), (24, .aload_n 0, 1), (25, .iload_n 3, 1), (26, .iconst 2, 1), (27, .invokevirtual 57, 3), (30, .goto 4, 3), (33, .iconst 0, 1), (34, .ior, 1), (35, .istore_n 2, 1), (36, .iinc 3 1, 3), (39, .goto (-35), 3), (42, .iload_n 2, 1), (43, .ireturn, 1)], RX5, 1, 4, some .int)
theorem okX5_known : MOK yX5_known cX5_known mX5_known := ⟨by decide +kernel, rfl, by decide +kernel⟩
def mX5_knownAll : Mi := ([(0, .aload_n 0, 1), (1, .sipush 255, 3), (4, .invokevirtual 60, 3), (7, .ireturn, 1)], RX5, 2, 1, some .int)
theorem okX5_knownAll : MOK yX5_knownAll cX5_knownAll mX5_knownAll := ⟨by decide +kernel, rfl, by decide +kernel⟩
def mX5_ledge : Mi := ([(0, .iload_n 1, 1), (1, .invokestatic 43, 3), (4, .ifCond .eq 15, 3), (7, .iload_n 2, 1), (8, .i2l, 1), (9, .lconst 0, 1), (10, .ldc2_w 63, 3), (13, .invokestatic 49, 3), (16, .ifCond .ne 10, 3), (19, .aload_n 0, 1), (20, .ldc 37, 2), (22, .invokevirtual 39, 3), (25, .ireturn, 1), (26, .iload_n 2, 1), (27, .ifCond .ne 14, 3), (30, .aload_n 0, 1), (31, .getfield 7, 3), (34, .iconst 5, 1), (35, .iload_n 1, 1), (36, .iadd, 1), (37, .iaload, 1), (38, .goto 25, 3), (41, .iload_n 2, 1), (42, .iconst 1, 1), (43, .if_icmp .ne 11, 3), (46, .aload_n 0, 1), (47, .iload_n 1, 1), (48, .invokevirtual 65, 3), (51, .goto 12, 3), (54, .aload_n 0, 1), (55, .aload_n 0, 1), (56, .iload_n 1, 1), (57, .invokevirtual 65, 3), (60, .invokevirtual 60, 3), (63, .ireturn, 1)], RX5, 2, 3, some .int)
theorem okX5_ledge : MOK yX5_ledge cX5_ledge mX5_ledge := ⟨by decide +kernel, rfl, by decide +kernel⟩
def mX5_set : Mi := ([(0, .iload_n 1, 1), (1, .i2l, 1), (2, .lconst 0, 1), (3, .lconst 1, 1), (4, .invokestatic 49, 3), (7, .ifCond .eq 36, 3), (10, .iload_n 2, 1), (11, .i2l, 1), (12, .lconst 0, 1), (13, .iload_n 1, 1), (14, .ifCond .ne 9, 3), (17, .ldc2_w 68, 3), (20, .goto 6, 3), (23, .ldc2_w 70, 3), (26, .invokestatic 49, 3), (29, .ifCond .eq 14, 3), (32, .aload_n 0, 1), (33, .iconst 3, 1), (34, .iload_n 1, 1), (35, .iadd, 1), (36, .iload_n 2, 1), (37, .invokevirtual 53, 3), (40, .goto 9, 3), (43, .aload_n 0, 1), (44, .ldc 37, 2), (46, .invokevirtual 39, 3), (49, .ireturn, 1)], RX5, 1, 3, some .int)
theorem okX5_set : MOK yX5_set cX5_set mX5_set := ⟨by decide +kernel, rfl, by decide +kernel⟩
def mX5_comes : Mi := ([(0, .aload_n 0, 1), (1, .getfield 7, 3), (4, .iconst 0, 1), (5, .iaload, 1), (6, .istore 4, 2), (8, .aload_n 0, 1), (9, .getfield 7, 3), (12, .iload 4, 2), (14, .iconst 0, 1), (15, .invokestatic 72, 3), (18, .iload_n 1, 1), (19, .iastore, 1), (20, .aload_n 0, 1), (21, .getfield 7, 3), (24, .iload 4, 2), (26, .iconst 1, 1), (27, .invokestatic 72, 3), (30, .iload_n 2, 1), (31, .iastore, 1), (32, .aload_n 0, 1), (33, .getfield 7, 3), (36, .iload 4, 2), (38, .iconst 2, 1), (39, .invokestatic 72, 3), (42, .iload_n 3, 1), (43, .iastore, 1), (44, .aload_n 0, 1), (45, .getfield 7, 3), (48, .iload 4, 2), (50, .iconst 3, 1), (51, .invokestatic 72, 3), (54, .iconst 0, 1), (55, .iastore, 1), (56, .aload_n 0, 1), (57, .getfield 7, 3), (60, .iload 4, 2), (62, .iconst 4, 1), (63, .invokestatic 72, 3), (66, .bipush 30, 2), (68, .iastore, 1), (69, .aload_n 0, 1), (70, .getfield 7, 3), (73, .iload 4, 2), (75, .iconst 5, 1), (76, .invokestatic 72, 3), (79, .iconst 0, 1), (80, .iastore, 1), (81, .aload_n 0, 1), (82, .getfield 7, 3), (85, .iconst 0, 1), (86, .dup2, 1), (87, .iaload, 1), (88, .iconst 1, 1), (89, .iadd, 1), (90, .iastore, 1), (91, .return_, 1)], RX5, 1, 5, none)
theorem okX5_comes : MOK yX5_comes cX5_comes mX5_comes := ⟨by decide +kernel, rfl, by decide +kernel⟩
def mX5_goat : Mi := ([(0, .iload_n 1, 1), (1, .i2l, 1), (2, .lconst 0, 1), (3, .ldc2_w 75, 3), (6, .invokestatic 49, 3), (9, .ifCond .eq 10, 3), (12, .iload_n 2, 1), (13, .invokestatic 43, 3), (16, .ifCond .ne 10, 3), (19, .aload_n 0, 1), (20, .ldc 37, 2), (22, .invokevirtual 39, 3), (25, .ireturn, 1), (26, .aload_n 0, 1), (27, .getfield 7, 3), (30, .iconst 0, 1), (31, .iaload, 1), (32, .bipush 8, 2), (34, .if_icmp .ne 10, 3), (37, .aload_n 0, 1), (38, .ldc 77, 2), (40, .invokevirtual 39, 3), (43, .ireturn, 1), (44, .aload_n 0, 1), (45, .iload_n 1, 1), (46, .iload_n 2, 1), (47, .iconst 0, 1), (48, .invokevirtual 78, 3), (51, .aload_n 0, 1), (52, .getfield 7, 3), (55, .iconst 0, 1), (56, .iaload, 1), (57, .iconst 1, 1), (58, .isub, 1), (59, .ireturn, 1)], RX5, 2, 3, some .int)
theorem okX5_goat : MOK yX5_goat cX5_goat mX5_goat := ⟨by decide +kernel, rfl, by decide +kernel⟩
def mX5_isQuoted : Mi := ([(0, .aload_n 0, 1), (1, .iload_n 1, 1), (2, .iconst 0, 1), (3, .invokevirtual 57, 3), (6, .tableswitch 131 1 6 #[38, 55, 131, 72, 91, 108], 38), (44, .aload_n 0, 1), (45, .iload_n 1, 1), (46, .iconst 4, 1), (47, .invokevirtual 57, 3), (50, .bipush 10, 2), (52, .if_icmp .lt 7, 3), (55, .iconst 1, 1), (56, .goto 4, 3), (59, .iconst 0, 1), (60, .ireturn, 1), (61, .aload_n 0, 1), (62, .iload_n 1, 1), (63, .iconst 1, 1), (64, .invokevirtual 57, 3), (67, .iconst 2, 1), (68, .irem, 1), (69, .ifCond .ne 7, 3), (72, .iconst 1, 1), (73, .goto 4, 3), (76, .iconst 0, 1), (77, .ireturn, 1), (78, .iload_n 2, 1), (79, .aload_n 0, 1), (80, .iload_n 1, 1), (81, .iconst 3, 1), (82, .invokevirtual 57, 3), (85, .iadd, 1), (86, .iconst 3, 1), (87, .irem, 1), (88, .ifCond .eq 7, 3), (91, .iconst 1, 1), (92, .goto 4, 3), (95, .iconst 0, 1), (96, .ireturn, 1), (97, .aload_n 0, 1), (98, .iload_n 1, 1), (99, .iconst 1, 1), (100, .invokevirtual 57, 3), (103, .bipush 11, 2), (105, .if_icmp .ne 7, 3), (108, .iconst 1, 1), (109, .goto 4, 3), (112, .iconst 0, 1), (113, .ireturn, 1), (114, .aload_n 0, 1), (115, .iload_n 1, 1), (116, .iconst 4, 1), (117, .invokevirtual 57, 3), (120, .bipush 10, 2), (122, .if_icmp .lt 13, 3), (125, .iload_n 2, 1), (126, .bipush 7, 2), (128, .if_icmp .gt 7, 3), (131, .iconst 1, 1), (132, .goto 4, 3), (135, .iconst 0, 1), (136, .ireturn, 1), (137, .iconst 1, 1), (138, .ireturn, 1)], RX5, 1, 3, some .boolean)
theorem okX5_isQuoted : MOK yX5_isQuoted cX5_isQuoted mX5_isQuoted := ⟨by decide +kernel, rfl, by decide +kernel⟩
def mX5_quotes : Mi := ([(0, .iconst 0, 1), (1, .istore_n 2, 1), (2, .iconst 0, 1), (3, .istore_n 3, 1), (4, .iload_n 3, 1), (5, .bipush 16, 2), (7, .if_icmp .ge 42, 3), (10, .iload_n 2, 1), (11, .aload_n 0, 1), (12, .iload_n 1, 1), (13, .iconst 2, 1), (14, .invokevirtual 57, 3), (17, .iload_n 3, 1), (18, .ishr, 1), (19, .iconst 1, 1), (20, .iand, 1), (21, .iconst 1, 1), (22, .if_icmp .ne 18, 3), (25, .aload_n 0, 1), (26, .iload_n 1, 1), (27, .iload_n 3, 1), (28, .invokevirtual 82, 3), (31, .ifCond .eq 9, 3), (34, .iconst 1, 1), (35, .iload_n 3, 1), (36, .ishl, 1), (37, .goto 4, 3), (40, .iconst 0, 1), (41, .ior, 1), (42, .istore_n 2, 1), (43, .iinc 3 1, 3), (46, .goto (-42), 3), (49, .iload_n 2, 1), (50, .ireturn, 1)], RX5, 2, 4, some .int)
theorem okX5_quotes : MOK yX5_quotes cX5_quotes mX5_quotes := ⟨by decide +kernel, rfl, by decide +kernel⟩
def mX5_costs : Mi := ([(0, .iconst 2, 1), (1, .aload_n 0, 1), (2, .iload_n 1, 1), (3, .iconst 2, 1), (4, .invokevirtual 57, 3), (7, .invokestatic 86, 3), (10, .iconst 2, 1), (11, .idiv, 1), (12, .iadd, 1), (13, .istore_n 2, 1), (14, .aload_n 0, 1), (15, .iload_n 1, 1), (16, .iconst 0, 1), (17, .invokevirtual 57, 3), (20, .tableswitch 83 1 6 #[40, 49, 51, 55, 69, 72], 40), (60, .iconst 2, 1), (61, .aload_n 0, 1), (62, .iload_n 1, 1), (63, .iconst 1, 1), (64, .invokevirtual 57, 3), (67, .iadd, 1), (68, .ireturn, 1), (69, .iload_n 2, 1), (70, .ireturn, 1), (71, .iload_n 2, 1), (72, .iconst 1, 1), (73, .isub, 1), (74, .ireturn, 1), (75, .iload_n 2, 1), (76, .iconst 1, 1), (77, .isub, 1), (78, .aload_n 0, 1), (79, .iload_n 1, 1), (80, .iconst 3, 1), (81, .invokevirtual 57, 3), (84, .bipush 10, 2), (86, .idiv, 1), (87, .iadd, 1), (88, .ireturn, 1), (89, .bipush 99, 2), (91, .ireturn, 1), (92, .iconst 2, 1), (93, .aload_n 0, 1), (94, .iload_n 1, 1), (95, .iconst 1, 1), (96, .invokevirtual 57, 3), (99, .iadd, 1), (100, .iconst 2, 1), (101, .idiv, 1), (102, .ireturn, 1), (103, .iconst 2, 1), (104, .ireturn, 1)], RX5, 1, 3, some .int)
theorem okX5_costs : MOK yX5_costs cX5_costs mX5_costs := ⟨by decide +kernel, rfl, by decide +kernel⟩
def mX5_grazes : Mi := ([(0, .aload_n 0, 1), (1, .iload_n 1, 1), (2, .iconst 0, 1), (3, .invokevirtual 57, 3), (6, .tableswitch 48 1 6 #[38, 41, 41, 41, 44, 46], 38), (44, .bipush 7, 2), (46, .ireturn, 1), (47, .bipush 6, 2), (49, .ireturn, 1), (50, .iconst 2, 1), (51, .ireturn, 1), (52, .iconst 3, 1), (53, .ireturn, 1), (54, .iconst 5, 1), (55, .ireturn, 1)], RX5, 1, 2, some .int)
theorem okX5_grazes : MOK yX5_grazes cX5_grazes mX5_grazes := ⟨by decide +kernel, rfl, by decide +kernel⟩
def mX5_greenest : Mi := ([(0, .iload_n 1, 1), (1, .istore_n 2, 1), (2, .iload_n 1, 1), (3, .iconst 1, 1), (4, .iadd, 1), (5, .bipush 12, 2), (7, .if_icmp .ge 30, 3), (10, .aload_n 0, 1), (11, .getfield 7, 3), (14, .iconst 5, 1), (15, .iload_n 1, 1), (16, .iadd, 1), (17, .iconst 1, 1), (18, .iadd, 1), (19, .iaload, 1), (20, .aload_n 0, 1), (21, .getfield 7, 3), (24, .iconst 5, 1), (25, .iload_n 2, 1), (26, .iadd, 1), (27, .iaload, 1), (28, .if_icmp .le 9, 3), (31, .iload_n 1, 1), (32, .iconst 1, 1), (33, .iadd, 1), (34, .goto 4, 3), (37, .iload_n 2, 1), (38, .istore_n 2, 1), (39, .iload_n 1, 1), (40, .ifCond .le 30, 3), (43, .aload_n 0, 1), (44, .getfield 7, 3), (47, .iconst 5, 1), (48, .iload_n 1, 1), (49, .iadd, 1), (50, .iconst 1, 1), (51, .isub, 1), (52, .iaload, 1), (53, .aload_n 0, 1), (54, .getfield 7, 3), (57, .iconst 5, 1), (58, .iload_n 2, 1), (59, .iadd, 1), (60, .iaload, 1), (61, .if_icmp .le 9, 3), (64, .iload_n 1, 1), (65, .iconst 1, 1), (66, .isub, 1), (67, .goto 4, 3), (70, .iload_n 2, 1), (71, .ireturn, 1)], RX5, 0, 3, some .int)
theorem okX5_greenest : MOK yX5_greenest cX5_greenest mX5_greenest := ⟨by decide +kernel, rfl, by decide +kernel⟩
def mX5_climbsTo : Mi := ([(0, .aload_n 0, 1), (1, .iload_n 1, 1), (2, .iconst 1, 1), (3, .invokevirtual 57, 3), (6, .istore_n 2, 1), (7, .aload_n 0, 1), (8, .iload_n 1, 1), (9, .iconst 0, 1), (10, .invokevirtual 57, 3), (13, .tableswitch 88 2 5 #[31, 54, 56, 79], 31), (44, .aload_n 0, 1), (45, .getfield 7, 3), (48, .iconst 1, 1), (49, .iaload, 1), (50, .iload_n 1, 1), (51, .iadd, 1), (52, .iconst 2, 1), (53, .irem, 1), (54, .ifCond .ne 11, 3), (57, .aload_n 0, 1), (58, .iload_n 2, 1), (59, .invokevirtual 89, 3), (62, .goto 4, 3), (65, .iload_n 2, 1), (66, .ireturn, 1), (67, .iload_n 2, 1), (68, .ireturn, 1), (69, .iload_n 2, 1), (70, .ifCond .le 20, 3), (73, .aload_n 0, 1), (74, .iload_n 1, 1), (75, .iconst 3, 1), (76, .invokevirtual 57, 3), (79, .iconst 5, 1), (80, .irem, 1), (81, .ifCond .ne 9, 3), (84, .iload_n 2, 1), (85, .iconst 1, 1), (86, .isub, 1), (87, .goto 4, 3), (90, .iload_n 2, 1), (91, .ireturn, 1), (92, .iload_n 2, 1), (93, .iconst 1, 1), (94, .iadd, 1), (95, .bipush 11, 2), (97, .invokestatic 92, 3), (100, .ireturn, 1), (101, .aload_n 0, 1), (102, .iload_n 2, 1), (103, .invokevirtual 89, 3), (106, .ireturn, 1)], RX5, 1, 3, some .int)
theorem okX5_climbsTo : MOK yX5_climbsTo cX5_climbsTo mX5_climbsTo := ⟨by decide +kernel, rfl, by decide +kernel⟩
def mX5_of : Mi := ([(0, .aload_n 0, 1), (1, .iload_n 1, 1), (2, .invokevirtual 95, 3), (5, .ifCond .eq 15, 3), (8, .iload_n 2, 1), (9, .i2l, 1), (10, .lconst 0, 1), (11, .ldc2_w 98, 3), (14, .invokestatic 49, 3), (17, .ifCond .ne 10, 3), (20, .aload_n 0, 1), (21, .ldc 37, 2), (23, .invokevirtual 39, 3), (26, .ireturn, 1), (27, .iload_n 2, 1), (28, .tableswitch 56 6 9 #[32, 38, 44, 50], 32), (60, .aload_n 0, 1), (61, .iload_n 1, 1), (62, .invokevirtual 100, 3), (65, .ireturn, 1), (66, .aload_n 0, 1), (67, .iload_n 1, 1), (68, .invokevirtual 103, 3), (71, .ireturn, 1), (72, .aload_n 0, 1), (73, .iload_n 1, 1), (74, .invokevirtual 106, 3), (77, .ireturn, 1), (78, .aload_n 0, 1), (79, .iload_n 1, 1), (80, .invokevirtual 109, 3), (83, .ireturn, 1), (84, .aload_n 0, 1), (85, .iload_n 1, 1), (86, .iload_n 2, 1), (87, .invokevirtual 57, 3), (90, .ireturn, 1)], RX5, 3, 3, some .int)
theorem okX5_of : MOK yX5_of cX5_of mX5_of := ⟨by decide +kernel, rfl, by decide +kernel⟩
def mX5_greatestOf : Mi := ([(0, .iload_n 0, 1), (1, .tableswitch 47 0 4 #[35, 38, 41, 47, 44], 35), (36, .bipush 6, 2), (38, .ireturn, 1), (39, .bipush 11, 2), (41, .ireturn, 1), (42, .ldc 112, 2), (44, .ireturn, 1), (45, .bipush 99, 2), (47, .ireturn, 1), (48, .sipush 9999, 3), (51, .ireturn, 1)], RX5, 0, 1, some .int)
theorem okX5_greatestOf : MOK yX5_greatestOf cX5_greatestOf mX5_greatestOf := ⟨by decide +kernel, rfl, by decide +kernel⟩
def mX5_change : Mi := ([(0, .aload_n 0, 1), (1, .iload_n 1, 1), (2, .invokevirtual 95, 3), (5, .ifCond .eq 33, 3), (8, .iload_n 2, 1), (9, .i2l, 1), (10, .lconst 0, 1), (11, .ldc2_w 113, 3), (14, .invokestatic 49, 3), (17, .ifCond .eq 21, 3), (20, .iload_n 3, 1), (21, .i2l, 1), (22, .lconst 0, 1), (23, .iload_n 2, 1), (24, .invokestatic 115, 3), (27, .i2l, 1), (28, .invokestatic 49, 3), (31, .ifCond .eq 7, 3), (34, .iconst 1, 1), (35, .goto 4, 3), (38, .iconst 0, 1), (39, .istore 4, 2), (41, .iload 4, 2), (43, .ifCond .eq 16, 3), (46, .aload_n 0, 1), (47, .iload_n 1, 1), (48, .iload_n 2, 1), (49, .invokestatic 72, 3), (52, .iload_n 3, 1), (53, .invokevirtual 53, 3), (56, .goto 9, 3), (59, .aload_n 0, 1), (60, .ldc 37, 2), (62, .invokevirtual 39, 3), (65, .ireturn, 1)], RX5, 1, 5, some .int)
theorem okX5_change : MOK yX5_change cX5_change mX5_change := ⟨by decide +kernel, rfl, by decide +kernel⟩
def mX5_birth : Mi := ([(0, .aload_n 0, 1), (1, .iload_n 1, 1), (2, .invokevirtual 95, 3), (5, .ifCond .ne 10, 3), (8, .aload_n 0, 1), (9, .ldc 37, 2), (11, .invokevirtual 39, 3), (14, .ireturn, 1), (15, .aload_n 0, 1), (16, .getfield 7, 3), (19, .iconst 0, 1), (20, .iaload, 1), (21, .bipush 8, 2), (23, .if_icmp .ne 10, 3), (26, .aload_n 0, 1), (27, .ldc 77, 2), (29, .invokevirtual 39, 3), (32, .ireturn, 1), (33, .aload_n 0, 1), (34, .iload_n 1, 1), (35, .iconst 2, 1), (36, .invokevirtual 57, 3), (39, .sipush 255, 3), (42, .iand, 1), (43, .istore_n 2, 1), (44, .aload_n 0, 1), (45, .bipush 6, 2), (47, .aload_n 0, 1), (48, .iload_n 1, 1), (49, .iconst 1, 1), (50, .invokevirtual 57, 3), (53, .iload_n 2, 1), (54, .iload_n 2, 1), (55, .iconst 1, 1), (56, .isub, 1), (57, .iand, 1), (58, .invokevirtual 78, 3), (61, .aload_n 0, 1), (62, .getfield 7, 3), (65, .iconst 0, 1), (66, .iaload, 1), (67, .iconst 1, 1), (68, .isub, 1), (69, .ireturn, 1)], RX5, 2, 3, some .int)
theorem okX5_birth : MOK yX5_birth cX5_birth mX5_birth := ⟨by decide +kernel, rfl, by decide +kernel⟩
def mX5_cheapest : Mi := ([(0, .iconst (-1), 1), (1, .istore_n 2, 1), (2, .iconst 0, 1), (3, .istore_n 3, 1), (4, .iload_n 3, 1), (5, .aload_n 0, 1), (6, .getfield 7, 3), (9, .iconst 0, 1), (10, .iaload, 1), (11, .if_icmp .ge 57, 3), (14, .aload_n 0, 1), (15, .iload_n 3, 1), (16, .invokevirtual 109, 3), (19, .iload_n 1, 1), (20, .ishr, 1), (21, .iconst 1, 1), (22, .iand, 1), (23, .iconst 1, 1), (24, .if_icmp .ne 7, 3), (27, .iconst 1, 1), (28, .goto 4, 3), (31, .iconst 0, 1), (32, .istore 4, 2), (34, .iload 4, 2), (36, .ifCond .eq 24, 3), (39, .iload_n 2, 1), (40, .ifCond .lt 16, 3), (43, .aload_n 0, 1), (44, .iload_n 3, 1), (45, .invokevirtual 100, 3), (48, .aload_n 0, 1), (49, .iload_n 2, 1), (50, .invokevirtual 100, 3), (53, .if_icmp .ge 7, 3), (56, .iload_n 3, 1), (57, .goto 4, 3), (60, .iload_n 2, 1), (61, .istore_n 2, 1), (62, .iinc 3 1, 3), (65, .goto (-61), 3), (68, .iload_n 2, 1), (69, .ireturn, 1)], RX5, 3, 5, some .int)
theorem okX5_cheapest : MOK yX5_cheapest cX5_cheapest mX5_cheapest := ⟨by decide +kernel, rfl, by decide +kernel⟩
def mX5_ask : Mi := ([(0, .iload_n 1, 1), (1, .invokestatic 118, 3), (4, .ifCond .ne 10, 3), (7, .aload_n 0, 1), (8, .ldc 37, 2), (10, .invokevirtual 39, 3), (13, .ireturn, 1), (14, .aload_n 0, 1), (15, .iload_n 1, 1), (16, .invokevirtual 121, 3), (19, .istore_n 2, 1), (20, .iload_n 2, 1), (21, .ifCond .ge 10, 3), (24, .aload_n 0, 1), (25, .ldc 38, 2), (27, .invokevirtual 39, 3), (30, .ireturn, 1), (31, .aload_n 0, 1), (32, .getfield 7, 3), (35, .iconst 4, 1), (36, .iaload, 1), (37, .aload_n 0, 1), (38, .iload_n 2, 1), (39, .invokevirtual 100, 3), (42, .if_icmp .ge 10, 3), (45, .aload_n 0, 1), (46, .ldc 124, 2), (48, .invokevirtual 39, 3), (51, .ireturn, 1), (52, .aload_n 0, 1), (53, .getfield 7, 3), (56, .iconst 4, 1), (57, .dup2, 1), (58, .iaload, 1), (59, .aload_n 0, 1), (60, .iload_n 2, 1), (61, .invokevirtual 100, 3), (64, .isub, 1), (65, .iastore, 1), (66, .aload_n 0, 1), (67, .getfield 7, 3), (70, .iload_n 2, 1), (71, .iconst 5, 1), (72, .invokestatic 72, 3), (75, .sipush 9999, 3), (78, .aload_n 0, 1), (79, .iload_n 2, 1), (80, .iconst 5, 1), (81, .invokevirtual 57, 3), (84, .iconst 1, 1), (85, .iadd, 1), (86, .invokestatic 92, 3), (89, .iastore, 1), (90, .iload_n 2, 1), (91, .ireturn, 1)], RX5, 4, 3, some .int)
theorem okX5_ask : MOK yX5_ask cX5_ask mX5_ask := ⟨by decide +kernel, rfl, by decide +kernel⟩
def mX5_lives : Mi := ([(0, .aload_n 0, 1), (1, .getfield 7, 3), (4, .iload_n 1, 1), (5, .iconst 1, 1), (6, .invokestatic 72, 3), (9, .aload_n 0, 1), (10, .iload_n 1, 1), (11, .invokevirtual 106, 3), (14, .iastore, 1), (15, .iconst 5, 1), (16, .aload_n 0, 1), (17, .iload_n 1, 1), (18, .iconst 1, 1), (19, .invokevirtual 57, 3), (22, .iadd, 1), (23, .istore_n 2, 1), (24, .aload_n 0, 1), (25, .iload_n 1, 1), (26, .invokevirtual 103, 3), (29, .aload_n 0, 1), (30, .getfield 7, 3), (33, .iload_n 2, 1), (34, .iaload, 1), (35, .invokestatic 92, 3), (38, .istore_n 3, 1), (39, .aload_n 0, 1), (40, .getfield 7, 3), (43, .iload_n 2, 1), (44, .dup2, 1), (45, .iaload, 1), (46, .iload_n 3, 1), (47, .isub, 1), (48, .iastore, 1), (49, .aload_n 0, 1), (50, .getfield 7, 3), (53, .iload_n 1, 1), (54, .iconst 4, 1), (55, .invokestatic 72, 3), (58, .iconst 0, 1), (59, .bipush 99, 2), (61, .aload_n 0, 1), (62, .iload_n 1, 1), (63, .iconst 4, 1), (64, .invokevirtual 57, 3), (67, .iload_n 3, 1), (68, .iadd, 1), (69, .invokestatic 92, 3), (72, .iconst 3, 1), (73, .isub, 1), (74, .invokestatic 125, 3), (77, .iastore, 1), (78, .return_, 1)], RX5, 2, 4, none)
theorem okX5_lives : MOK yX5_lives cX5_lives mX5_lives := ⟨by decide +kernel, rfl, by decide +kernel⟩
def mX5_lowestOf : Mi := ([(0, .iload_n 0, 1), (1, .iload_n 0, 1), (2, .ineg, 1), (3, .iand, 1), (4, .ireturn, 1)], RX5, 0, 1, some .int)
theorem okX5_lowestOf : MOK yX5_lowestOf cX5_lowestOf mX5_lowestOf := ⟨by decide +kernel, rfl, by decide +kernel⟩
def mX5_highestOf : Mi := ([(0, .iconst 0, 1), (1, .istore_n 1, 1), (2, .iload_n 0, 1), (3, .istore_n 2, 1), (4, .iload_n 2, 1), (5, .ifCond .eq 17, 3), (8, .iload_n 2, 1), (9, .invokestatic 128, 3), (12, .istore_n 1, 1), (13, .iload_n 2, 1), (14, .iload_n 2, 1), (15, .iconst 1, 1), (16, .isub, 1), (17, .iand, 1), (18, .istore_n 2, 1), (19, .goto (-15), 3), (22, .iload_n 1, 1), (23, .ireturn, 1)], RX5, 1, 3, some .int)
theorem okX5_highestOf : MOK yX5_highestOf cX5_highestOf mX5_highestOf := ⟨by decide +kernel, rfl, by decide +kernel⟩
def mX5_learnsOne : Mi := ([(0, .aload_n 0, 1), (1, .aload_n 0, 1), (2, .iload_n 1, 1), (3, .iconst 1, 1), (4, .invokevirtual 57, 3), (7, .invokevirtual 65, 3), (10, .iconst 1, 1), (11, .iload_n 1, 1), (12, .ishl, 1), (13, .iconst (-1), 1), (14, .ixor, 1), (15, .iand, 1), (16, .iload_n 2, 1), (17, .iconst (-1), 1), (18, .ixor, 1), (19, .iand, 1), (20, .istore_n 3, 1), (21, .aload_n 0, 1), (22, .iload_n 1, 1), (23, .iconst 4, 1), (24, .invokevirtual 57, 3), (27, .bipush 20, 2), (29, .if_icmp .lt 33, 3), (32, .aload_n 0, 1), (33, .getfield 7, 3), (36, .iload_n 1, 1), (37, .iconst 2, 1), (38, .invokestatic 72, 3), (41, .dup2, 1), (42, .iaload, 1), (43, .aload_n 0, 1), (44, .iload_n 3, 1), (45, .invokevirtual 60, 3), (48, .aload_n 0, 1), (49, .iload_n 1, 1), (50, .iconst 2, 1), (51, .invokevirtual 57, 3), (54, .iconst (-1), 1), (55, .ixor, 1), (56, .iand, 1), (57, .invokestatic 128, 3), (60, .ior, 1), (61, .iastore, 1), (62, .aload_n 0, 1), (63, .iload_n 1, 1), (64, .iconst 4, 1), (65, .invokevirtual 57, 3), (68, .ifCond .ne 27, 3), (71, .aload_n 0, 1), (72, .getfield 7, 3), (75, .iload_n 1, 1), (76, .iconst 2, 1), (77, .invokestatic 72, 3), (80, .dup2, 1), (81, .iaload, 1), (82, .aload_n 0, 1), (83, .iload_n 1, 1), (84, .iconst 2, 1), (85, .invokevirtual 57, 3), (88, .invokestatic 131, 3), (91, .iconst (-1), 1), (92, .ixor, 1), (93, .iand, 1), (94, .iastore, 1), (95, .aload_n 0, 1), (96, .getfield 7, 3), (99, .iload_n 1, 1), (100, .iconst 3, 1), (101, .invokestatic 72, 3), (104, .sipush 9999, 3), (107, .aload_n 0, 1), (108, .iload_n 1, 1), (109, .iconst 3, 1), (110, .invokevirtual 57, 3), (113, .iconst 1, 1), (114, .iadd, 1), (115, .invokestatic 92, 3), (118, .iastore, 1), (119, .return_, 1)], RX5, 2, 4, none)
theorem okX5_learnsOne : MOK yX5_learnsOne cX5_learnsOne mX5_learnsOne := ⟨by decide +kernel, rfl, by decide +kernel⟩
def mX5_dayBut : Mi := ([(0, .iconst 0, 1), (1, .istore_n 2, 1), (2, .iload_n 2, 1), (3, .aload_n 0, 1), (4, .getfield 7, 3), (7, .iconst 0, 1), (8, .iaload, 1), (9, .if_icmp .ge 22, 3), (12, .iload_n 1, 1), (13, .iload_n 2, 1), (14, .ishr, 1), (15, .iconst 1, 1), (16, .iand, 1), (17, .ifCond .ne 8, 3), (20, .aload_n 0, 1), (21, .iload_n 2, 1), (22, .invokevirtual 134, 3), (25, .iinc 2 1, 3), (28, .goto (-26), 3), (31, .iconst 0, 1), (32, .istore_n 2, 1), (33, .iload_n 2, 1), (34, .aload_n 0, 1), (35, .getfield 7, 3), (38, .iconst 0, 1), (39, .iaload, 1), (40, .if_icmp .ge 23, 3), (43, .iload_n 1, 1), (44, .iload_n 2, 1), (45, .ishr, 1), (46, .iconst 1, 1), (47, .iand, 1), (48, .ifCond .ne 9, 3), (51, .aload_n 0, 1), (52, .iload_n 2, 1), (53, .iload_n 1, 1), (54, .invokevirtual 138, 3), (57, .iinc 2 1, 3), (60, .goto (-27), 3), (63, .iconst 0, 1), (64, .istore_n 2, 1), (65, .iload_n 2, 1), (66, .bipush 12, 2), (68, .if_icmp .ge 37, 3), (71, .aload_n 0, 1), (72, .getfield 7, 3), (75, .iconst 5, 1), (76, .iload_n 2, 1), (77, .iadd, 1), (78, .bipush 99, 2), (80, .aload_n 0, 1), (81, .getfield 7, 3), (84, .iconst 5, 1), (85, .iload_n 2, 1), (86, .iadd, 1), (87, .iaload, 1), (88, .aload_n 0, 1), (89, .getfield 7, 3), (92, .iconst 3, 1), (93, .iaload, 1), (94, .iadd, 1), (95, .invokestatic 92, 3), (98, .iastore, 1), (99, .iinc 2 1, 3), (102, .goto (-37), 3), (105, .aload_n 0, 1), (106, .getfield 7, 3), (109, .iconst 1, 1), (110, .dup2, 1), (111, .iaload, 1), (112, .iconst 1, 1), (113, .iadd, 1), (114, .iastore, 1), (115, .return_, 1)], RX5, 3, 3, none)
theorem okX5_dayBut : MOK yX5_dayBut cX5_dayBut mX5_dayBut := ⟨by decide +kernel, rfl, by decide +kernel⟩
def mX5_goes : Mi := ([(0, .iconst 0, 1), (1, .istore_n 2, 1), (2, .iload_n 2, 1), (3, .iload_n 1, 1), (4, .if_icmp .ge 14, 3), (7, .aload_n 0, 1), (8, .iconst 0, 1), (9, .invokevirtual 142, 3), (12, .iinc 2 1, 3), (15, .goto (-13), 3), (18, .return_, 1)], RX5, 4, 3, none)
theorem okX5_goes : MOK yX5_goes cX5_goes mX5_goes := ⟨by decide +kernel, rfl, by decide +kernel⟩
def mX5_go : Mi := ([(0, .iload_n 1, 1), (1, .i2l, 1), (2, .lconst 1, 1), (3, .ldc2_w 145, 3), (6, .invokestatic 49, 3), (9, .ifCond .ne 10, 3), (12, .aload_n 0, 1), (13, .ldc 37, 2), (15, .invokevirtual 39, 3), (18, .ireturn, 1), (19, .aload_n 0, 1), (20, .getfield 7, 3), (23, .iconst 1, 1), (24, .iaload, 1), (25, .iload_n 1, 1), (26, .iadd, 1), (27, .ldc 147, 2), (29, .if_icmp .le 10, 3), (32, .aload_n 0, 1), (33, .ldc 124, 2), (35, .invokevirtual 39, 3), (38, .ireturn, 1), (39, .aload_n 0, 1), (40, .iload_n 1, 1), (41, .invokevirtual 148, 3), (44, .aload_n 0, 1), (45, .invokevirtual 151, 3), (48, .ireturn, 1)], RX5, 5, 2, some .int)
theorem okX5_go : MOK yX5_go cX5_go mX5_go := ⟨by decide +kernel, rfl, by decide +kernel⟩
def mX5_grassAll : Mi := ([(0, .iconst 0, 1), (1, .istore_n 1, 1), (2, .iconst 0, 1), (3, .istore_n 2, 1), (4, .iload_n 2, 1), (5, .bipush 12, 2), (7, .if_icmp .ge 20, 3), (10, .iload_n 1, 1), (11, .aload_n 0, 1), (12, .getfield 7, 3), (15, .iconst 5, 1), (16, .iload_n 2, 1), (17, .iadd, 1), (18, .iaload, 1), (19, .iadd, 1), (20, .istore_n 1, 1), (21, .iinc 2 1, 3), (24, .goto (-20), 3), (27, .iload_n 1, 1), (28, .ireturn, 1)], RX5, 0, 3, some .int)
theorem okX5_grassAll : MOK yX5_grassAll cX5_grassAll mX5_grassAll := ⟨by decide +kernel, rfl, by decide +kernel⟩
def mX5_livedOn : Mi := ([(0, .iconst 0, 1), (1, .istore_n 1, 1), (2, .iconst 0, 1), (3, .istore_n 2, 1), (4, .iload_n 2, 1), (5, .aload_n 0, 1), (6, .getfield 7, 3), (9, .iconst 0, 1), (10, .iaload, 1), (11, .if_icmp .ge 20, 3), (14, .iload_n 1, 1), (15, .iconst 1, 1), (16, .aload_n 0, 1), (17, .iload_n 2, 1), (18, .iconst 1, 1), (19, .invokevirtual 57, 3), (22, .ishl, 1), (23, .ior, 1), (24, .istore_n 1, 1), (25, .iinc 2 1, 3), (28, .goto (-24), 3), (31, .iload_n 1, 1), (32, .ireturn, 1)], RX5, 1, 3, some .int)
theorem okX5_livedOn : MOK yX5_livedOn cX5_livedOn mX5_livedOn := ⟨by decide +kernel, rfl, by decide +kernel⟩
def mX5_wisest : Mi := ([(0, .aload_n 0, 1), (1, .getfield 7, 3), (4, .iconst 0, 1), (5, .iaload, 1), (6, .ifCond .ne 7, 3), (9, .iconst (-1), 1), (10, .goto 4, 3), (13, .iconst 0, 1), (14, .istore_n 1, 1), (15, .iconst 1, 1), (16, .istore_n 2, 1), (17, .iload_n 2, 1), (18, .aload_n 0, 1), (19, .getfield 7, 3), (22, .iconst 0, 1), (23, .iaload, 1), (24, .if_icmp .ge 36, 3), (27, .aload_n 0, 1), (28, .iload_n 2, 1), (29, .iconst 2, 1), (30, .invokevirtual 57, 3), (33, .invokestatic 86, 3), (36, .aload_n 0, 1), (37, .iload_n 1, 1), (38, .iconst 2, 1), (39, .invokevirtual 57, 3), (42, .invokestatic 86, 3), (45, .if_icmp .le 7, 3), (48, .iload_n 2, 1), (49, .goto 4, 3), (52, .iload_n 1, 1), (53, .istore_n 1, 1), (54, .iinc 2 1, 3), (57, .goto (-40), 3), (60, .iload_n 1, 1), (61, .ireturn, 1)], RX5, 1, 3, some .int)
theorem okX5_wisest : MOK yX5_wisest cX5_wisest mX5_wisest := ⟨by decide +kernel, rfl, by decide +kernel⟩
def mX5_now : Mi := ([(0, .iconst 0, 1), (1, .istore_n 2, 1), (2, .iload_n 1, 1), (3, .tableswitch 107 0 6 #[41, 48, 53, 63, 68, 97, 102], 41), (44, .aload_n 0, 1), (45, .getfield 7, 3), (48, .iconst 1, 1), (49, .iaload, 1), (50, .ireturn, 1), (51, .aload_n 0, 1), (52, .invokevirtual 151, 3), (55, .ireturn, 1), (56, .ldc 112, 2), (58, .aload_n 0, 1), (59, .invokevirtual 151, 3), (62, .iconst (-1), 1), (63, .ixor, 1), (64, .iand, 1), (65, .ireturn, 1), (66, .aload_n 0, 1), (67, .invokevirtual 155, 3), (70, .ireturn, 1), (71, .iconst 0, 1), (72, .istore_n 3, 1), (73, .iload_n 3, 1), (74, .aload_n 0, 1), (75, .getfield 7, 3), (78, .iconst 0, 1), (79, .iaload, 1), (80, .if_icmp .ge 18, 3), (83, .iload_n 2, 1), (84, .aload_n 0, 1), (85, .iload_n 3, 1), (86, .iconst 4, 1), (87, .invokevirtual 57, 3), (90, .iadd, 1), (91, .istore_n 2, 1), (92, .iinc 3 1, 3), (95, .goto (-22), 3), (98, .iload_n 2, 1), (99, .ireturn, 1), (100, .aload_n 0, 1), (101, .invokevirtual 158, 3), (104, .ireturn, 1), (105, .aload_n 0, 1), (106, .invokevirtual 161, 3), (109, .ireturn, 1), (110, .aload_n 0, 1), (111, .ldc 37, 2), (113, .invokevirtual 39, 3), (116, .ireturn, 1)], RX5, 3, 4, some .int)
theorem okX5_now : MOK yX5_now cX5_now mX5_now := ⟨by decide +kernel, rfl, by decide +kernel⟩
def mX5_who : Mi := ([(0, .iload_n 1, 1), (1, .invokestatic 118, 3), (4, .ifCond .ne 10, 3), (7, .aload_n 0, 1), (8, .ldc 37, 2), (10, .invokevirtual 39, 3), (13, .ireturn, 1), (14, .iconst 0, 1), (15, .istore_n 2, 1), (16, .iconst 0, 1), (17, .istore_n 3, 1), (18, .iload_n 3, 1), (19, .aload_n 0, 1), (20, .getfield 7, 3), (23, .iconst 0, 1), (24, .iaload, 1), (25, .if_icmp .ge 33, 3), (28, .iload_n 2, 1), (29, .aload_n 0, 1), (30, .iload_n 3, 1), (31, .iconst 2, 1), (32, .invokevirtual 57, 3), (35, .iload_n 1, 1), (36, .ishr, 1), (37, .iconst 1, 1), (38, .iand, 1), (39, .iconst 1, 1), (40, .if_icmp .ne 9, 3), (43, .iconst 1, 1), (44, .iload_n 3, 1), (45, .ishl, 1), (46, .goto 4, 3), (49, .iconst 0, 1), (50, .ior, 1), (51, .istore_n 2, 1), (52, .iinc 3 1, 3), (55, .goto (-37), 3), (58, .iload_n 2, 1), (59, .ireturn, 1)], RX5, 1, 4, some .int)
theorem okX5_who : MOK yX5_who cX5_who mX5_who := ⟨by decide +kernel, rfl, by decide +kernel⟩
def mX5_then : Mi := ([(0, .aload_n 0, 1), (1, .getfield 7, 3), (4, .aload_n 0, 1), (5, .getfield 19, 3), (8, .invokestatic 164, 3), (11, .aload_n 0, 1), (12, .iload_n 3, 1), (13, .invokevirtual 148, 3), (16, .aload_n 0, 1), (17, .iload_n 1, 1), (18, .iload_n 2, 1), (19, .invokevirtual 57, 3), (22, .istore 4, 2), (24, .aload_n 0, 1), (25, .getfield 19, 3), (28, .aload_n 0, 1), (29, .getfield 7, 3), (32, .invokestatic 164, 3), (35, .iload 4, 2), (37, .ireturn, 1)], RX5, 5, 5, some .int)
theorem okX5_then : MOK yX5_then cX5_then mX5_then := ⟨by decide +kernel, rfl, by decide +kernel⟩
def mX5_ahead : Mi := ([(0, .aload_n 0, 1), (1, .iload_n 1, 1), (2, .invokevirtual 95, 3), (5, .ifCond .eq 37, 3), (8, .iload_n 2, 1), (9, .i2l, 1), (10, .lconst 1, 1), (11, .ldc2_w 168, 3), (14, .invokestatic 49, 3), (17, .ifCond .eq 25, 3), (20, .iload_n 3, 1), (21, .i2l, 1), (22, .lconst 0, 1), (23, .ldc2_w 170, 3), (26, .invokestatic 49, 3), (29, .ifCond .eq 13, 3), (32, .aload_n 0, 1), (33, .iload_n 1, 1), (34, .iload_n 2, 1), (35, .iload_n 3, 1), (36, .invokevirtual 172, 3), (39, .goto 9, 3), (42, .aload_n 0, 1), (43, .ldc 37, 2), (45, .invokevirtual 39, 3), (48, .ireturn, 1)], RX5, 6, 4, some .int)
theorem okX5_ahead : MOK yX5_ahead cX5_ahead mX5_ahead := ⟨by decide +kernel, rfl, by decide +kernel⟩
def mX5_learns : Mi := ([(0, .aload_n 0, 1), (1, .iload_n 1, 1), (2, .invokevirtual 95, 3), (5, .ifCond .eq 10, 3), (8, .iload_n 2, 1), (9, .invokestatic 118, 3), (12, .ifCond .ne 10, 3), (15, .aload_n 0, 1), (16, .ldc 37, 2), (18, .invokevirtual 39, 3), (21, .ireturn, 1), (22, .aload_n 0, 1), (23, .getfield 7, 3), (26, .aload_n 0, 1), (27, .getfield 19, 3), (30, .invokestatic 164, 3), (33, .iconst 0, 1), (34, .istore_n 3, 1), (35, .iload_n 3, 1), (36, .bipush 100, 2), (38, .if_icmp .gt 27, 3), (41, .aload_n 0, 1), (42, .iload_n 1, 1), (43, .iconst 2, 1), (44, .invokevirtual 57, 3), (47, .iload_n 2, 1), (48, .ishr, 1), (49, .iconst 1, 1), (50, .iand, 1), (51, .ifCond .ne 14, 3), (54, .aload_n 0, 1), (55, .iconst 0, 1), (56, .invokevirtual 142, 3), (59, .iinc 3 1, 3), (62, .goto (-27), 3), (65, .aload_n 0, 1), (66, .getfield 19, 3), (69, .aload_n 0, 1), (70, .getfield 7, 3), (73, .invokestatic 164, 3), (76, .iload_n 3, 1), (77, .bipush 100, 2), (79, .if_icmp .gt 7, 3), (82, .iload_n 3, 1), (83, .goto 9, 3), (86, .aload_n 0, 1), (87, .ldc 38, 2), (89, .invokevirtual 39, 3), (92, .ireturn, 1)], RX5, 4, 4, some .int)
theorem okX5_learns : MOK yX5_learns cX5_learns mX5_learns := ⟨by decide +kernel, rfl, by decide +kernel⟩
def mX5_lost : Mi := ([(0, .iload_n 1, 1), (1, .invokestatic 118, 3), (4, .ifCond .ne 10, 3), (7, .aload_n 0, 1), (8, .ldc 37, 2), (10, .invokevirtual 39, 3), (13, .ireturn, 1), (14, .aload_n 0, 1), (15, .getfield 7, 3), (18, .aload_n 0, 1), (19, .getfield 19, 3), (22, .invokestatic 164, 3), (25, .iconst 0, 1), (26, .istore_n 2, 1), (27, .iload_n 2, 1), (28, .bipush 100, 2), (30, .if_icmp .gt 26, 3), (33, .aload_n 0, 1), (34, .invokevirtual 151, 3), (37, .iload_n 1, 1), (38, .ishr, 1), (39, .iconst 1, 1), (40, .iand, 1), (41, .iconst 1, 1), (42, .if_icmp .ne 14, 3), (45, .aload_n 0, 1), (46, .iconst 0, 1), (47, .invokevirtual 142, 3), (50, .iinc 2 1, 3), (53, .goto (-26), 3), (56, .aload_n 0, 1), (57, .getfield 19, 3), (60, .aload_n 0, 1), (61, .getfield 7, 3), (64, .invokestatic 164, 3), (67, .iload_n 2, 1), (68, .bipush 100, 2), (70, .if_icmp .gt 7, 3), (73, .iload_n 2, 1), (74, .goto 9, 3), (77, .aload_n 0, 1), (78, .ldc 38, 2), (80, .invokevirtual 39, 3), (83, .ireturn, 1)], RX5, 4, 3, some .int)
theorem okX5_lost : MOK yX5_lost cX5_lost mX5_lost := ⟨by decide +kernel, rfl, by decide +kernel⟩
def mX5_meet : Mi := ([(0, .aload_n 0, 1), (1, .iload_n 1, 1), (2, .invokevirtual 95, 3), (5, .ifCond .eq 16, 3), (8, .aload_n 0, 1), (9, .iload_n 2, 1), (10, .invokevirtual 95, 3), (13, .ifCond .eq 8, 3), (16, .iload_n 1, 1), (17, .iload_n 2, 1), (18, .if_icmp .ne 10, 3), (21, .aload_n 0, 1), (22, .ldc 37, 2), (24, .invokevirtual 39, 3), (27, .ireturn, 1), (28, .aload_n 0, 1), (29, .getfield 7, 3), (32, .aload_n 0, 1), (33, .getfield 19, 3), (36, .invokestatic 164, 3), (39, .iconst 0, 1), (40, .istore_n 3, 1), (41, .iload_n 3, 1), (42, .bipush 100, 2), (44, .if_icmp .gt 29, 3), (47, .aload_n 0, 1), (48, .iload_n 1, 1), (49, .iconst 1, 1), (50, .invokevirtual 57, 3), (53, .aload_n 0, 1), (54, .iload_n 2, 1), (55, .iconst 1, 1), (56, .invokevirtual 57, 3), (59, .if_icmp .eq 14, 3), (62, .aload_n 0, 1), (63, .iconst 0, 1), (64, .invokevirtual 142, 3), (67, .iinc 3 1, 3), (70, .goto (-29), 3), (73, .aload_n 0, 1), (74, .getfield 19, 3), (77, .aload_n 0, 1), (78, .getfield 7, 3), (81, .invokestatic 164, 3), (84, .iload_n 3, 1), (85, .bipush 100, 2), (87, .if_icmp .gt 7, 3), (90, .iload_n 3, 1), (91, .goto 9, 3), (94, .aload_n 0, 1), (95, .ldc 38, 2), (97, .invokevirtual 39, 3), (100, .ireturn, 1)], RX5, 4, 4, some .int)
theorem okX5_meet : MOK yX5_meet cX5_meet mX5_meet := ⟨by decide +kernel, rfl, by decide +kernel⟩
def mX5_reach : Mi := ([(0, .aload_n 0, 1), (1, .iload_n 1, 1), (2, .invokevirtual 95, 3), (5, .ifCond .eq 10, 3), (8, .iload_n 2, 1), (9, .invokestatic 43, 3), (12, .ifCond .ne 10, 3), (15, .aload_n 0, 1), (16, .ldc 37, 2), (18, .invokevirtual 39, 3), (21, .ireturn, 1), (22, .aload_n 0, 1), (23, .getfield 7, 3), (26, .aload_n 0, 1), (27, .getfield 19, 3), (30, .invokestatic 164, 3), (33, .iconst 0, 1), (34, .istore_n 3, 1), (35, .iload_n 3, 1), (36, .bipush 100, 2), (38, .if_icmp .gt 24, 3), (41, .aload_n 0, 1), (42, .iload_n 1, 1), (43, .iconst 1, 1), (44, .invokevirtual 57, 3), (47, .iload_n 2, 1), (48, .if_icmp .eq 14, 3), (51, .aload_n 0, 1), (52, .iconst 0, 1), (53, .invokevirtual 142, 3), (56, .iinc 3 1, 3), (59, .goto (-24), 3), (62, .aload_n 0, 1), (63, .getfield 19, 3), (66, .aload_n 0, 1), (67, .getfield 7, 3), (70, .invokestatic 164, 3), (73, .iload_n 3, 1), (74, .bipush 100, 2), (76, .if_icmp .gt 7, 3), (79, .iload_n 3, 1), (80, .goto 9, 3), (83, .aload_n 0, 1), (84, .ldc 38, 2), (86, .invokevirtual 39, 3), (89, .ireturn, 1)], RX5, 4, 4, some .int)
theorem okX5_reach : MOK yX5_reach cX5_reach mX5_reach := ⟨by decide +kernel, rfl, by decide +kernel⟩
def mX5_isAsked : Mi := ([(0, .aload_n 0, 1), (1, .iload_n 1, 1), (2, .invokevirtual 95, 3), (5, .ifCond .eq 19, 3), (8, .iload_n 2, 1), (9, .i2l, 1), (10, .lconst 0, 1), (11, .ldc2_w 176, 3), (14, .invokestatic 49, 3), (17, .ifCond .eq 7, 3), (20, .iconst 1, 1), (21, .goto 4, 3), (24, .iconst 0, 1), (25, .ireturn, 1)], RX5, 1, 3, some .boolean)
theorem okX5_isAsked : MOK yX5_isAsked cX5_isAsked mX5_isAsked := ⟨by decide +kernel, rfl, by decide +kernel⟩
def mX5_wisestBy : Mi := ([(0, .aload_n 0, 1), (1, .iload_n 1, 1), (2, .iload_n 2, 1), (3, .invokevirtual 57, 3), (6, .istore 4, 2), (8, .iconst 0, 1), (9, .istore 5, 2), (11, .iconst (-1), 1), (12, .istore 6, 2), (14, .iconst 0, 1), (15, .istore 7, 2), (17, .iload 7, 2), (19, .iload_n 2, 1), (20, .invokestatic 115, 3), (23, .if_icmp .gt 58, 3), (26, .aload_n 0, 1), (27, .getfield 7, 3), (30, .iload_n 1, 1), (31, .iload_n 2, 1), (32, .invokestatic 72, 3), (35, .iload 7, 2), (37, .iastore, 1), (38, .aload_n 0, 1), (39, .iload_n 1, 1), (40, .iconst 2, 1), (41, .iload_n 3, 1), (42, .invokevirtual 172, 3), (45, .invokestatic 86, 3), (48, .istore 8, 2), (50, .iload 8, 2), (52, .iload 6, 2), (54, .if_icmp .le 8, 3), (57, .iload 7, 2), (59, .goto 5, 3), (62, .iload 5, 2), (64, .istore 5, 2), (66, .iload 6, 2), (68, .iload 8, 2), (70, .invokestatic 125, 3), (73, .istore 6, 2), (75, .iinc 7 1, 3), (78, .goto (-61), 3), (81, .aload_n 0, 1), (82, .getfield 7, 3), (85, .iload_n 1, 1), (86, .iload_n 2, 1), (87, .invokestatic 72, 3), (90, .iload 4, 2), (92, .iastore, 1), (93, .iload 5, 2), (95, .ireturn, 1)], RX5, 6, 9, some .int)
theorem okX5_wisestBy : MOK yX5_wisestBy cX5_wisestBy mX5_wisestBy := ⟨by decide +kernel, rfl, by decide +kernel⟩
def mX5_put : Mi := ([(0, .aload_n 0, 1), (1, .iload_n 1, 1), (2, .iload_n 2, 1), (3, .invokevirtual 178, 3), (6, .ifCond .eq 13, 3), (9, .aload_n 0, 1), (10, .iload_n 1, 1), (11, .iconst 1, 1), (12, .iload_n 2, 1), (13, .invokevirtual 181, 3), (16, .goto 9, 3), (19, .aload_n 0, 1), (20, .ldc 37, 2), (22, .invokevirtual 39, 3), (25, .ireturn, 1)], RX5, 7, 3, some .int)
theorem okX5_put : MOK yX5_put cX5_put mX5_put := ⟨by decide +kernel, rfl, by decide +kernel⟩
def mX5_kindFor : Mi := ([(0, .aload_n 0, 1), (1, .iload_n 1, 1), (2, .iload_n 2, 1), (3, .invokevirtual 178, 3), (6, .ifCond .eq 13, 3), (9, .aload_n 0, 1), (10, .iload_n 1, 1), (11, .iconst 0, 1), (12, .iload_n 2, 1), (13, .invokevirtual 181, 3), (16, .goto 9, 3), (19, .aload_n 0, 1), (20, .ldc 37, 2), (22, .invokevirtual 39, 3), (25, .ireturn, 1)], RX5, 7, 3, some .int)
theorem okX5_kindFor : MOK yX5_kindFor cX5_kindFor mX5_kindFor := ⟨by decide +kernel, rfl, by decide +kernel⟩
def mX5_growsFor : Mi := ([(0, .iload_n 1, 1), (1, .invokestatic 118, 3), (4, .ifCond .eq 15, 3), (7, .iload_n 2, 1), (8, .i2l, 1), (9, .lconst 0, 1), (10, .ldc2_w 176, 3), (13, .invokestatic 49, 3), (16, .ifCond .ne 10, 3), (19, .aload_n 0, 1), (20, .ldc 37, 2), (22, .invokevirtual 39, 3), (25, .ireturn, 1), (26, .iconst (-1), 1), (27, .istore_n 3, 1), (28, .aload_n 0, 1), (29, .getfield 7, 3), (32, .aload_n 0, 1), (33, .getfield 19, 3), (36, .invokestatic 164, 3), (39, .iconst 0, 1), (40, .istore 4, 2), (42, .iload 4, 2), (44, .bipush 20, 2), (46, .if_icmp .gt 56, 3), (49, .iload_n 3, 1), (50, .ifCond .ge 52, 3), (53, .aload_n 0, 1), (54, .getfield 7, 3), (57, .iconst 3, 1), (58, .iload 4, 2), (60, .iastore, 1), (61, .aload_n 0, 1), (62, .iload_n 2, 1), (63, .invokevirtual 148, 3), (66, .aload_n 0, 1), (67, .invokevirtual 151, 3), (70, .iload_n 1, 1), (71, .ishr, 1), (72, .iconst 1, 1), (73, .iand, 1), (74, .iconst 1, 1), (75, .if_icmp .ne 8, 3), (78, .iload 4, 2), (80, .goto 4, 3), (83, .iconst (-1), 1), (84, .istore_n 3, 1), (85, .aload_n 0, 1), (86, .getfield 19, 3), (89, .aload_n 0, 1), (90, .getfield 7, 3), (93, .invokestatic 164, 3), (96, .iinc 4 1, 3), (99, .goto (-57), 3), (102, .aload_n 0, 1), (103, .iload_n 3, 1), (104, .invokevirtual 184, 3), (107, .ireturn, 1)], RX5, 5, 5, some .int)
theorem okX5_growsFor : MOK yX5_growsFor cX5_growsFor mX5_growsFor := ⟨by decide +kernel, rfl, by decide +kernel⟩
def mX5_cover : Mi := ([(0, .iload_n 1, 1), (1, .i2l, 1), (2, .lconst 0, 1), (3, .ldc2_w 187, 3), (6, .invokestatic 49, 3), (9, .ifCond .ne 10, 3), (12, .aload_n 0, 1), (13, .ldc 37, 2), (15, .invokevirtual 39, 3), (18, .ireturn, 1), (19, .iconst (-1), 1), (20, .istore_n 2, 1), (21, .iconst 0, 1), (22, .istore_n 3, 1), (23, .iload_n 3, 1), (24, .iconst 1, 1), (25, .aload_n 0, 1), (26, .getfield 7, 3), (29, .iconst 0, 1), (30, .iaload, 1), (31, .ishl, 1), (32, .if_icmp .ge 42, 3), (35, .iload_n 2, 1), (36, .ifCond .lt 14, 3), (39, .iload_n 3, 1), (40, .invokestatic 86, 3), (43, .iload_n 2, 1), (44, .invokestatic 86, 3), (47, .if_icmp .ge 19, 3), (50, .iload_n 1, 1), (51, .aload_n 0, 1), (52, .iload_n 3, 1), (53, .invokevirtual 60, 3), (56, .iconst (-1), 1), (57, .ixor, 1), (58, .iand, 1), (59, .ifCond .ne 7, 3), (62, .iload_n 3, 1), (63, .goto 4, 3), (66, .iload_n 2, 1), (67, .istore_n 2, 1), (68, .iinc 3 1, 3), (71, .goto (-48), 3), (74, .aload_n 0, 1), (75, .iload_n 2, 1), (76, .invokevirtual 184, 3), (79, .ireturn, 1)], RX5, 2, 4, some .int)
theorem okX5_cover : MOK yX5_cover cX5_cover mX5_cover := ⟨by decide +kernel, rfl, by decide +kernel⟩
def mX5_price : Mi := ([(0, .iload_n 1, 1), (1, .i2l, 1), (2, .lconst 0, 1), (3, .ldc2_w 187, 3), (6, .invokestatic 49, 3), (9, .ifCond .ne 10, 3), (12, .aload_n 0, 1), (13, .ldc 37, 2), (15, .invokevirtual 39, 3), (18, .ireturn, 1), (19, .iconst 0, 1), (20, .istore_n 2, 1), (21, .iconst 0, 1), (22, .istore_n 3, 1), (23, .iload_n 3, 1), (24, .bipush 16, 2), (26, .if_icmp .ge 46, 3), (29, .iload_n 1, 1), (30, .iload_n 3, 1), (31, .ishr, 1), (32, .iconst 1, 1), (33, .iand, 1), (34, .iconst 1, 1), (35, .if_icmp .ne 31, 3), (38, .aload_n 0, 1), (39, .iload_n 3, 1), (40, .invokevirtual 121, 3), (43, .istore 4, 2), (45, .iload 4, 2), (47, .ifCond .ge 10, 3), (50, .aload_n 0, 1), (51, .ldc 38, 2), (53, .invokevirtual 39, 3), (56, .ireturn, 1), (57, .iload_n 2, 1), (58, .aload_n 0, 1), (59, .iload 4, 2), (61, .invokevirtual 100, 3), (64, .iadd, 1), (65, .istore_n 2, 1), (66, .iinc 3 1, 3), (69, .goto (-46), 3), (72, .iload_n 2, 1), (73, .ireturn, 1)], RX5, 4, 5, some .int)
theorem okX5_price : MOK yX5_price cX5_price mX5_price := ⟨by decide +kernel, rfl, by decide +kernel⟩
def mX5_censor : Mi := ([(0, .iload_n 1, 1), (1, .invokestatic 118, 3), (4, .ifCond .eq 15, 3), (7, .iload_n 2, 1), (8, .i2l, 1), (9, .lconst 0, 1), (10, .ldc2_w 189, 3), (13, .invokestatic 49, 3), (16, .ifCond .ne 10, 3), (19, .aload_n 0, 1), (20, .ldc 37, 2), (22, .invokevirtual 39, 3), (25, .ireturn, 1), (26, .iconst (-1), 1), (27, .istore_n 3, 1), (28, .aload_n 0, 1), (29, .getfield 7, 3), (32, .aload_n 0, 1), (33, .getfield 19, 3), (36, .invokestatic 164, 3), (39, .iconst 0, 1), (40, .istore 4, 2), (42, .iload 4, 2), (44, .iconst 1, 1), (45, .aload_n 0, 1), (46, .getfield 7, 3), (49, .iconst 0, 1), (50, .iaload, 1), (51, .ishl, 1), (52, .if_icmp .ge 83, 3), (55, .iload_n 3, 1), (56, .ifCond .lt 15, 3), (59, .iload 4, 2), (61, .invokestatic 86, 3), (64, .iload_n 3, 1), (65, .invokestatic 86, 3), (68, .if_icmp .ge 61, 3), (71, .iconst 0, 1), (72, .istore 5, 2), (74, .iload 5, 2), (76, .iload_n 2, 1), (77, .if_icmp .ge 15, 3), (80, .aload_n 0, 1), (81, .iload 4, 2), (83, .invokevirtual 142, 3), (86, .iinc 5 1, 3), (89, .goto (-15), 3), (92, .aload_n 0, 1), (93, .sipush 255, 3), (96, .iload 4, 2), (98, .iconst (-1), 1), (99, .ixor, 1), (100, .iand, 1), (101, .invokevirtual 60, 3), (104, .iload_n 1, 1), (105, .ishr, 1), (106, .iconst 1, 1), (107, .iand, 1), (108, .ifCond .ne 8, 3), (111, .iload 4, 2), (113, .goto 4, 3), (116, .iload_n 3, 1), (117, .istore_n 3, 1), (118, .aload_n 0, 1), (119, .getfield 19, 3), (122, .aload_n 0, 1), (123, .getfield 7, 3), (126, .invokestatic 164, 3), (129, .iinc 4 1, 3), (132, .goto (-90), 3), (135, .iload_n 3, 1), (136, .ireturn, 1)], RX5, 4, 6, some .int)
theorem okX5_censor : MOK yX5_censor cX5_censor mX5_censor := ⟨by decide +kernel, rfl, by decide +kernel⟩
def mX5_isTold : Mi := ([(0, .aload_n 0, 1), (1, .getfield 7, 3), (4, .aload_n 0, 1), (5, .getfield 19, 3), (8, .invokestatic 164, 3), (11, .iconst 1, 1), (12, .istore_n 3, 1), (13, .iconst 0, 1), (14, .istore 4, 2), (16, .iload 4, 2), (18, .aload_n 0, 1), (19, .getfield 31, 3), (22, .iload_n 1, 1), (23, .iaload, 1), (24, .if_icmp .ge 55, 3), (27, .iload_n 3, 1), (28, .ifCond .eq 51, 3), (31, .aload_n 0, 1), (32, .getfield 34, 3), (35, .bipush 40, 2), (37, .iload_n 1, 1), (38, .imul, 1), (39, .iload 4, 2), (41, .iadd, 1), (42, .iaload, 1), (43, .istore 5, 2), (45, .iload 5, 2), (47, .iconst (-1), 1), (48, .if_icmp .eq 14, 3), (51, .iload 5, 2), (53, .aload_n 0, 1), (54, .getfield 7, 3), (57, .iload_n 2, 1), (58, .iaload, 1), (59, .if_icmp .ne 7, 3), (62, .iconst 1, 1), (63, .goto 4, 3), (66, .iconst 0, 1), (67, .istore_n 3, 1), (68, .aload_n 0, 1), (69, .iconst 0, 1), (70, .invokevirtual 142, 3), (73, .iinc 4 1, 3), (76, .goto (-60), 3), (79, .aload_n 0, 1), (80, .getfield 19, 3), (83, .aload_n 0, 1), (84, .getfield 7, 3), (87, .invokestatic 164, 3), (90, .iload_n 3, 1), (91, .ireturn, 1)], RX5, 4, 6, some .boolean)
theorem okX5_isTold : MOK yX5_isTold cX5_isTold mX5_isTold := ⟨by decide +kernel, rfl, by decide +kernel⟩
def mX5_couldBe : Mi := ([(0, .aload_n 0, 1), (1, .iload_n 1, 1), (2, .invokevirtual 191, 3), (5, .ifCond .eq 11, 3), (8, .aload_n 0, 1), (9, .iload_n 1, 1), (10, .invokevirtual 191, 3), (13, .goto 17, 3), (16, .aload_n 0, 1), (17, .iload_n 2, 1), (18, .invokevirtual 95, 3), (21, .ifCond .eq 7, 3), (24, .iconst 0, 1), (25, .goto 5, 3), (28, .ldc 37, 2), (30, .istore 5, 2), (32, .iload 5, 2), (34, .ifCond .eq 10, 3), (37, .aload_n 0, 1), (38, .iload 5, 2), (40, .invokevirtual 39, 3), (43, .ireturn, 1), (44, .aload_n 0, 1), (45, .iload_n 2, 1), (46, .iload_n 3, 1), (47, .invokevirtual 57, 3), (50, .istore 6, 2), (52, .iconst 0, 1), (53, .istore 7, 2), (55, .iconst 0, 1), (56, .istore 8, 2), (58, .iload 8, 2), (60, .iload_n 3, 1), (61, .invokestatic 115, 3), (64, .if_icmp .gt 48, 3), (67, .aload_n 0, 1), (68, .getfield 7, 3), (71, .iload_n 2, 1), (72, .iload_n 3, 1), (73, .invokestatic 72, 3), (76, .iload 8, 2), (78, .iastore, 1), (79, .iload 7, 2), (81, .aload_n 0, 1), (82, .iload_n 1, 1), (83, .iload_n 2, 1), (84, .iload 4, 2), (86, .invokestatic 72, 3), (89, .invokevirtual 194, 3), (92, .ifCond .eq 10, 3), (95, .iconst 1, 1), (96, .iload 8, 2), (98, .ishl, 1), (99, .goto 4, 3), (102, .iconst 0, 1), (103, .ior, 1), (104, .istore 7, 2), (106, .iinc 8 1, 3), (109, .goto (-51), 3), (112, .aload_n 0, 1), (113, .getfield 7, 3), (116, .iload_n 2, 1), (117, .iload_n 3, 1), (118, .invokestatic 72, 3), (121, .iload 6, 2), (123, .iastore, 1), (124, .iload 7, 2), (126, .ireturn, 1)], RX5, 5, 9, some .int)
theorem okX5_couldBe : MOK yX5_couldBe cX5_couldBe mX5_couldBe := ⟨by decide +kernel, rfl, by decide +kernel⟩
def mX5_kinds : Mi := ([(0, .aload_n 0, 1), (1, .iload_n 1, 1), (2, .iload_n 2, 1), (3, .iconst 0, 1), (4, .iconst 1, 1), (5, .invokevirtual 197, 3), (8, .ireturn, 1)], RX5, 6, 3, some .int)
theorem okX5_kinds : MOK yX5_kinds cX5_kinds mX5_kinds := ⟨by decide +kernel, rfl, by decide +kernel⟩
def mX5_fits : Mi := ([(0, .aload_n 0, 1), (1, .iload_n 1, 1), (2, .iload_n 2, 1), (3, .iconst 1, 1), (4, .iconst 4, 1), (5, .invokevirtual 197, 3), (8, .ireturn, 1)], RX5, 6, 3, some .int)
theorem okX5_fits : MOK yX5_fits cX5_fits mX5_fits := ⟨by decide +kernel, rfl, by decide +kernel⟩
def mX5_draw : Mi := ([(0, .aload_n 0, 1), (1, .getfield 7, 3), (4, .iconst 2, 1), (5, .aload_n 0, 1), (6, .getfield 7, 3), (9, .iconst 2, 1), (10, .iaload, 1), (11, .ldc 201, 2), (13, .imul, 1), (14, .sipush 12345, 3), (17, .iadd, 1), (18, .iastore, 1), (19, .aload_n 0, 1), (20, .getfield 7, 3), (23, .iconst 2, 1), (24, .iaload, 1), (25, .bipush 8, 2), (27, .iushr, 1), (28, .ireturn, 1)], RX5, 0, 1, some .int)
theorem okX5_draw : MOK yX5_draw cX5_draw mX5_draw := ⟨by decide +kernel, rfl, by decide +kernel⟩
def mX5_slips : Mi := ([(0, .iload_n 1, 1), (1, .i2l, 1), (2, .lconst 1, 1), (3, .ldc2_w 68, 3), (6, .invokestatic 49, 3), (9, .ifCond .ne 10, 3), (12, .aload_n 0, 1), (13, .ldc 37, 2), (15, .invokevirtual 39, 3), (18, .ireturn, 1), (19, .aload_n 0, 1), (20, .getfield 7, 3), (23, .iconst 1, 1), (24, .iaload, 1), (25, .iload_n 1, 1), (26, .iadd, 1), (27, .ldc 147, 2), (29, .if_icmp .le 10, 3), (32, .aload_n 0, 1), (33, .ldc 124, 2), (35, .invokevirtual 39, 3), (38, .ireturn, 1), (39, .iconst 0, 1), (40, .istore_n 2, 1), (41, .iload_n 2, 1), (42, .iload_n 1, 1), (43, .if_icmp .ge 56, 3), (46, .aload_n 0, 1), (47, .getfield 7, 3), (50, .iconst 5, 1), (51, .aload_n 0, 1), (52, .invokevirtual 202, 3), (55, .bipush 12, 2), (57, .irem, 1), (58, .iadd, 1), (59, .iconst 0, 1), (60, .iastore, 1), (61, .aload_n 0, 1), (62, .invokevirtual 202, 3), (65, .bipush 8, 2), (67, .irem, 1), (68, .istore_n 3, 1), (69, .aload_n 0, 1), (70, .iload_n 3, 1), (71, .invokevirtual 95, 3), (74, .ifCond .eq 14, 3), (77, .aload_n 0, 1), (78, .getfield 7, 3), (81, .iload_n 3, 1), (82, .iconst 1, 1), (83, .invokestatic 72, 3), (86, .iconst 0, 1), (87, .iastore, 1), (88, .aload_n 0, 1), (89, .iconst 0, 1), (90, .invokevirtual 142, 3), (93, .iinc 2 1, 3), (96, .goto (-55), 3), (99, .aload_n 0, 1), (100, .invokevirtual 151, 3), (103, .ireturn, 1)], RX5, 4, 4, some .int)
theorem okX5_slips : MOK yX5_slips cX5_slips mX5_slips := ⟨by decide +kernel, rfl, by decide +kernel⟩
def mX5_odds : Mi := ([(0, .iload_n 1, 1), (1, .i2l, 1), (2, .lconst 0, 1), (3, .ldc2_w 205, 3), (6, .invokestatic 49, 3), (9, .ifCond .eq 13, 3), (12, .iload_n 2, 1), (13, .i2l, 1), (14, .lconst 0, 1), (15, .lconst 1, 1), (16, .invokestatic 49, 3), (19, .ifCond .ne 11, 3), (22, .aload_n 0, 1), (23, .ldc 37, 2), (25, .invokevirtual 39, 3), (28, .i2l, 1), (29, .lreturn, 1), (30, .lconst 1, 1), (31, .lstore_n 3, 1), (32, .lconst 1, 1), (33, .lstore 5, 2), (35, .aload_n 0, 1), (36, .invokevirtual 151, 3), (39, .invokestatic 86, 3), (42, .istore 7, 2), (44, .iconst 0, 1), (45, .istore 8, 2), (47, .iload 8, 2), (49, .iload_n 1, 1), (50, .if_icmp .ge 23, 3), (53, .lload_n 3, 1), (54, .iload 7, 2), (56, .i2l, 1), (57, .lmul, 1), (58, .lstore_n 3, 1), (59, .lload 5, 2), (61, .ldc2_w 207, 3), (64, .lmul, 1), (65, .lstore 5, 2), (67, .iinc 8 1, 3), (70, .goto (-23), 3), (73, .lload_n 3, 1), (74, .lconst 0, 1), (75, .lcmp, 1), (76, .ifCond .ne 7, 3), (79, .lconst 1, 1), (80, .goto 5, 3), (83, .lload 5, 2), (85, .lstore 5, 2), (87, .lload_n 3, 1), (88, .ldc2_w 63, 3), (91, .lrem, 1), (92, .lconst 0, 1), (93, .lcmp, 1), (94, .ifCond .ne 31, 3), (97, .lload 5, 2), (99, .ldc2_w 63, 3), (102, .lrem, 1), (103, .lconst 0, 1), (104, .lcmp, 1), (105, .ifCond .ne 20, 3), (108, .lload_n 3, 1), (109, .ldc2_w 63, 3), (112, .ldiv, 1), (113, .lstore_n 3, 1), (114, .lload 5, 2), (116, .ldc2_w 63, 3), (119, .ldiv, 1), (120, .lstore 5, 2), (122, .goto (-35), 3), (125, .iload_n 2, 1), (126, .ifCond .ne 7, 3), (129, .lload_n 3, 1), (130, .goto 5, 3), (133, .lload 5, 2), (135, .lreturn, 1)], RX5, 3, 9, some .long)
theorem okX5_odds : MOK yX5_odds cX5_odds mX5_odds := ⟨by decide +kernel, rfl, by decide +kernel⟩
def mX5_seed : Mi := ([(0, .aload_n 0, 1), (1, .iconst 2, 1), (2, .iload_n 1, 1), (3, .invokevirtual 53, 3), (6, .ireturn, 1)], RX5, 1, 2, some .int)
theorem okX5_seed : MOK yX5_seed cX5_seed mX5_seed := ⟨by decide +kernel, rfl, by decide +kernel⟩
def mX5_feed : Mi := ([(0, .iload_n 2, 1), (1, .i2l, 1), (2, .lconst 1, 1), (3, .ldc2_w 168, 3), (6, .invokestatic 49, 3), (9, .ifCond .ne 10, 3), (12, .aload_n 0, 1), (13, .ldc 37, 2), (15, .invokevirtual 39, 3), (18, .ireturn, 1), (19, .aload_n 0, 1), (20, .getfield 209, 3), (23, .iload_n 2, 1), (24, .iadd, 1), (25, .bipush 120, 2), (27, .if_icmp .le 10, 3), (30, .aload_n 0, 1), (31, .ldc 77, 2), (33, .invokevirtual 39, 3), (36, .ireturn, 1), (37, .iload_n 2, 1), (38, .iconst 1, 1), (39, .isub, 1), (40, .istore_n 3, 1), (41, .iload_n 3, 1), (42, .ifCond .lt 38, 3), (45, .aload_n 0, 1), (46, .getfield 25, 3), (49, .aload_n 0, 1), (50, .getfield 209, 3), (53, .iload_n 1, 1), (54, .bipush 8, 2), (56, .iload_n 3, 1), (57, .imul, 1), (58, .ishr, 1), (59, .sipush 255, 3), (62, .iand, 1), (63, .iastore, 1), (64, .aload_n 0, 1), (65, .dup, 1), (66, .getfield 209, 3), (69, .iconst 1, 1), (70, .iadd, 1), (71, .putfield 209, 3), (74, .iinc 3 (-1), 3), (77, .goto (-36), 3), (80, .aload_n 0, 1), (81, .getfield 209, 3), (84, .ireturn, 1)], RX5, 1, 4, some .int)
theorem okX5_feed : MOK yX5_feed cX5_feed mX5_feed := ⟨by decide +kernel, rfl, by decide +kernel⟩
def mX5_wipe : Mi := ([(0, .aload_n 0, 1), (1, .getfield 209, 3), (4, .istore_n 1, 1), (5, .aload_n 0, 1), (6, .iconst 0, 1), (7, .putfield 209, 3), (10, .iload_n 1, 1), (11, .ireturn, 1)], RX5, 0, 2, some .int)
theorem okX5_wipe : MOK yX5_wipe cX5_wipe mX5_wipe := ⟨by decide +kernel, rfl, by decide +kernel⟩
def mX5_isLetter : Mi := ([(0, .iload_n 0, 1), (1, .bipush 97, 2), (3, .if_icmp .lt 13, 3), (6, .iload_n 0, 1), (7, .bipush 122, 2), (9, .if_icmp .gt 7, 3), (12, .iconst 1, 1), (13, .goto 4, 3), (16, .iconst 0, 1), (17, .ireturn, 1)], RX5, 0, 1, some .boolean)
theorem okX5_isLetter : MOK yX5_isLetter cX5_isLetter mX5_isLetter := ⟨by decide +kernel, rfl, by decide +kernel⟩
def mX5_isDigit : Mi := ([(0, .iload_n 0, 1), (1, .bipush 48, 2), (3, .if_icmp .lt 13, 3), (6, .iload_n 0, 1), (7, .bipush 57, 2), (9, .if_icmp .gt 7, 3), (12, .iconst 1, 1), (13, .goto 4, 3), (16, .iconst 0, 1), (17, .ireturn, 1)], RX5, 0, 1, some .boolean)
theorem okX5_isDigit : MOK yX5_isDigit cX5_isDigit mX5_isDigit := ⟨by decide +kernel, rfl, by decide +kernel⟩
def mX5_byteAt : Mi := ([(0, .iload_n 1, 1), (1, .aload_n 0, 1), (2, .getfield 209, 3), (5, .if_icmp .ge 12, 3), (8, .aload_n 0, 1), (9, .getfield 25, 3), (12, .iload_n 1, 1), (13, .iaload, 1), (14, .goto 4, 3), (17, .iconst (-1), 1), (18, .ireturn, 1)], RX5, 0, 2, some .int)
theorem okX5_byteAt : MOK yX5_byteAt cX5_byteAt mX5_byteAt := ⟨by decide +kernel, rfl, by decide +kernel⟩
def mX5_nextToken : Mi := ([(0, .aload_n 0, 1), (1, .aload_n 0, 1), (2, .getfield 213, 3), (5, .putfield 216, 3), (8, .aload_n 0, 1), (9, .aload_n 0, 1), (10, .getfield 216, 3), (13, .invokevirtual 219, 3), (16, .bipush 32, 2), (18, .if_icmp .ne 16, 3), (21, .aload_n 0, 1), (22, .dup, 1), (23, .getfield 216, 3), (26, .iconst 1, 1), (27, .iadd, 1), (28, .putfield 216, 3), (31, .goto (-23), 3), (34, .aload_n 0, 1), (35, .aload_n 0, 1), (36, .getfield 216, 3), (39, .putfield 213, 3), (42, .aload_n 0, 1), (43, .aload_n 0, 1), (44, .getfield 216, 3), (47, .invokevirtual 219, 3), (50, .istore_n 1, 1), (51, .aload_n 0, 1), (52, .iload_n 1, 1), (53, .ifCond .ge 7, 3), (56, .iconst 0, 1), (57, .goto 36, 3), (60, .iload_n 1, 1), (61, .invokestatic 222, 3), (64, .ifCond .eq 7, 3), (67, .iconst 1, 1), (68, .goto 25, 3), (71, .iload_n 1, 1), (72, .invokestatic 225, 3), (75, .ifCond .eq 7, 3), (78, .iconst 2, 1), (79, .goto 14, 3), (82, .iload_n 1, 1), (83, .bipush 59, 2), (85, .if_icmp .ne 7, 3), (88, .iconst 3, 1), (89, .goto 4, 3), (92, .iconst 4, 1), (93, .putfield 228, 3), (96, .aload_n 0, 1), (97, .iconst 0, 1), (98, .putfield 231, 3), (101, .aload_n 0, 1), (102, .getfield 228, 3), (105, .iconst 1, 1), (106, .if_icmp .ne 30, 3), (109, .aload_n 0, 1), (110, .aload_n 0, 1), (111, .getfield 213, 3), (114, .invokevirtual 219, 3), (117, .invokestatic 222, 3), (120, .ifCond .eq 16, 3), (123, .aload_n 0, 1), (124, .dup, 1), (125, .getfield 213, 3), (128, .iconst 1, 1), (129, .iadd, 1), (130, .putfield 213, 3), (133, .goto (-32), 3), (136, .aload_n 0, 1), (137, .getfield 228, 3), (140, .iconst 2, 1), (141, .if_icmp .ne 69, 3), (144, .aload_n 0, 1), (145, .aload_n 0, 1), (146, .getfield 213, 3), (149, .invokevirtual 219, 3), (152, .invokestatic 225, 3), (155, .ifCond .eq 55, 3), (158, .aload_n 0, 1), (159, .aload_n 0, 1), (160, .getfield 231, 3), (163, .ldc 147, 2), (165, .if_icmp .le 10, 3), (168, .aload_n 0, 1), (169, .getfield 231, 3), (172, .goto 22, 3), (175, .bipush 10, 2), (177, .aload_n 0, 1), (178, .getfield 231, 3), (181, .imul, 1), (182, .aload_n 0, 1), (183, .aload_n 0, 1), (184, .getfield 213, 3), (187, .invokevirtual 219, 3), (190, .iadd, 1), (191, .bipush 48, 2), (193, .isub, 1), (194, .putfield 231, 3), (197, .aload_n 0, 1), (198, .dup, 1), (199, .getfield 213, 3), (202, .iconst 1, 1), (203, .iadd, 1), (204, .putfield 213, 3), (207, .goto (-71), 3), (210, .aload_n 0, 1), (211, .dup, 1), (212, .getfield 213, 3), (215, .aload_n 0, 1), (216, .getfield 228, 3), (219, .iconst 2, 1), (220, .if_icmp .le 7, 3), (223, .iconst 1, 1), (224, .goto 4, 3), (227, .iconst 0, 1), (228, .iadd, 1), (229, .putfield 213, 3), (232, .return_, 1)], RX5, 1, 2, none)
theorem okX5_nextToken : MOK yX5_nextToken cX5_nextToken mX5_nextToken := ⟨by decide +kernel, rfl, by decide +kernel⟩
def mX5_has3 : Mi := ([(0, .aload_n 0, 1), (1, .aload_n 0, 1), (2, .getfield 216, 3), (5, .iload_n 1, 1), (6, .iadd, 1), (7, .invokevirtual 219, 3), (10, .iload_n 2, 1), (11, .if_icmp .ne 40, 3), (14, .aload_n 0, 1), (15, .aload_n 0, 1), (16, .getfield 216, 3), (19, .iload_n 1, 1), (20, .iadd, 1), (21, .iconst 1, 1), (22, .iadd, 1), (23, .invokevirtual 219, 3), (26, .iload_n 3, 1), (27, .if_icmp .ne 24, 3), (30, .aload_n 0, 1), (31, .aload_n 0, 1), (32, .getfield 216, 3), (35, .iload_n 1, 1), (36, .iadd, 1), (37, .iconst 2, 1), (38, .iadd, 1), (39, .invokevirtual 219, 3), (42, .iload 4, 2), (44, .if_icmp .ne 7, 3), (47, .iconst 1, 1), (48, .goto 4, 3), (51, .iconst 0, 1), (52, .ireturn, 1)], RX5, 1, 5, some .boolean)
theorem okX5_has3 : MOK yX5_has3 cX5_has3 mX5_has3 := ⟨by decide +kernel, rfl, by decide +kernel⟩
def mX5_isWord : Mi := ([(0, .aload_n 0, 1), (1, .getfield 228, 3), (4, .iconst 1, 1), (5, .if_icmp .ne 20, 3), (8, .aload_n 0, 1), (9, .getfield 213, 3), (12, .aload_n 0, 1), (13, .getfield 216, 3), (16, .isub, 1), (17, .iload_n 1, 1), (18, .if_icmp .ne 7, 3), (21, .iconst 1, 1), (22, .goto 4, 3), (25, .iconst 0, 1), (26, .ireturn, 1)], RX5, 0, 2, some .boolean)
theorem okX5_isWord : MOK yX5_isWord cX5_isWord mX5_isWord := ⟨by decide +kernel, rfl, by decide +kernel⟩
def mX5_fails : Mi := ([(0, .aload_n 0, 1), (1, .aload_n 0, 1), (2, .getfield 216, 3), (5, .putfield 234, 3), (8, .iconst 0, 1), (9, .ireturn, 1)], RX5, 0, 1, some .boolean)
theorem okX5_fails : MOK yX5_fails cX5_fails mX5_fails := ⟨by decide +kernel, rfl, by decide +kernel⟩
def mX5_isFour : Mi := ([(0, .aload_n 0, 1), (1, .iconst 4, 1), (2, .invokevirtual 237, 3), (5, .ifCond .eq 30, 3), (8, .aload_n 0, 1), (9, .iconst 0, 1), (10, .iload_n 1, 1), (11, .iload_n 2, 1), (12, .iload_n 3, 1), (13, .invokevirtual 240, 3), (16, .ifCond .eq 19, 3), (19, .aload_n 0, 1), (20, .iconst 1, 1), (21, .iload_n 2, 1), (22, .iload_n 3, 1), (23, .iload 4, 2), (25, .invokevirtual 240, 3), (28, .ifCond .eq 7, 3), (31, .iconst 1, 1), (32, .goto 4, 3), (35, .iconst 0, 1), (36, .ireturn, 1)], RX5, 2, 5, some .boolean)
theorem okX5_isFour : MOK yX5_isFour cX5_isFour mX5_isFour := ⟨by decide +kernel, rfl, by decide +kernel⟩
def mX5_isFive : Mi := ([(0, .aload_n 0, 1), (1, .iconst 5, 1), (2, .invokevirtual 237, 3), (5, .ifCond .eq 31, 3), (8, .aload_n 0, 1), (9, .iconst 0, 1), (10, .iload_n 1, 1), (11, .iload_n 2, 1), (12, .iload_n 3, 1), (13, .invokevirtual 240, 3), (16, .ifCond .eq 20, 3), (19, .aload_n 0, 1), (20, .iconst 2, 1), (21, .iload_n 3, 1), (22, .iload 4, 2), (24, .iload 5, 2), (26, .invokevirtual 240, 3), (29, .ifCond .eq 7, 3), (32, .iconst 1, 1), (33, .goto 4, 3), (36, .iconst 0, 1), (37, .ireturn, 1)], RX5, 2, 6, some .boolean)
theorem okX5_isFive : MOK yX5_isFive cX5_isFive mX5_isFive := ⟨by decide +kernel, rfl, by decide +kernel⟩
def mX5_isNumber : Mi := ([(0, .aload_n 0, 1), (1, .getfield 228, 3), (4, .iconst 2, 1), (5, .if_icmp .ne 18, 3), (8, .aload_n 0, 1), (9, .getfield 231, 3), (12, .i2l, 1), (13, .iload_n 1, 1), (14, .i2l, 1), (15, .iload_n 2, 1), (16, .i2l, 1), (17, .invokestatic 49, 3), (20, .ifCond .ne 10, 3), (23, .aload_n 0, 1), (24, .invokevirtual 244, 3), (27, .ifCond .eq 7, 3), (30, .iconst 1, 1), (31, .goto 4, 3), (34, .iconst 0, 1), (35, .ireturn, 1)], RX5, 1, 3, some .boolean)
theorem okX5_isNumber : MOK yX5_isNumber cX5_isNumber mX5_isNumber := ⟨by decide +kernel, rfl, by decide +kernel⟩
def mX5_kindHere : Mi := ([(0, .aload_n 0, 1), (1, .bipush 103, 2), (3, .bipush 111, 2), (5, .bipush 97, 2), (7, .bipush 116, 2), (9, .invokevirtual 248, 3), (12, .ifCond .eq 5, 3), (15, .iconst 0, 1), (16, .ireturn, 1), (17, .aload_n 0, 1), (18, .bipush 110, 2), (20, .bipush 97, 2), (22, .bipush 110, 2), (24, .bipush 110, 2), (26, .bipush 121, 2), (28, .invokevirtual 251, 3), (31, .ifCond .eq 5, 3), (34, .iconst 1, 1), (35, .ireturn, 1), (36, .aload_n 0, 1), (37, .bipush 98, 2), (39, .bipush 105, 2), (41, .bipush 108, 2), (43, .bipush 108, 2), (45, .bipush 121, 2), (47, .invokevirtual 251, 3), (50, .ifCond .eq 5, 3), (53, .iconst 2, 1), (54, .ireturn, 1), (55, .aload_n 0, 1), (56, .bipush 103, 2), (58, .bipush 114, 2), (60, .bipush 101, 2), (62, .bipush 121, 2), (64, .invokevirtual 248, 3), (67, .ifCond .eq 5, 3), (70, .iconst 3, 1), (71, .ireturn, 1), (72, .aload_n 0, 1), (73, .iconst 3, 1), (74, .invokevirtual 237, 3), (77, .ifCond .eq 19, 3), (80, .aload_n 0, 1), (81, .iconst 0, 1), (82, .bipush 111, 2), (84, .bipush 108, 2), (86, .bipush 100, 2), (88, .invokevirtual 240, 3), (91, .ifCond .eq 5, 3), (94, .iconst 4, 1), (95, .ireturn, 1), (96, .aload_n 0, 1), (97, .bipush 119, 2), (99, .bipush 104, 2), (101, .bipush 105, 2), (103, .bipush 116, 2), (105, .bipush 101, 2), (107, .invokevirtual 251, 3), (110, .ifCond .eq 5, 3), (113, .iconst 5, 1), (114, .ireturn, 1), (115, .aload_n 0, 1), (116, .iconst 3, 1), (117, .invokevirtual 237, 3), (120, .ifCond .eq 22, 3), (123, .aload_n 0, 1), (124, .iconst 0, 1), (125, .bipush 107, 2), (127, .bipush 105, 2), (129, .bipush 100, 2), (131, .invokevirtual 240, 3), (134, .ifCond .eq 8, 3), (137, .bipush 6, 2), (139, .goto 4, 3), (142, .iconst (-1), 1), (143, .ireturn, 1)], RX5, 3, 1, some .int)
theorem okX5_kindHere : MOK yX5_kindHere cX5_kindHere mX5_kindHere := ⟨by decide +kernel, rfl, by decide +kernel⟩
def mX5_perhaps : Mi := ([(0, .iload_n 1, 1), (1, .ifCond .ne 5, 3), (4, .iconst 1, 1), (5, .ireturn, 1), (6, .aload_n 0, 1), (7, .invokevirtual 255, 3), (10, .aload_n 0, 1), (11, .iconst 0, 1), (12, .iload_n 3, 1), (13, .invokevirtual 258, 3), (16, .ifCond .ne 5, 3), (19, .iconst 0, 1), (20, .ireturn, 1), (21, .aload_n 0, 1), (22, .getfield 7, 3), (25, .iload_n 2, 1), (26, .aload_n 0, 1), (27, .getfield 231, 3), (30, .iastore, 1), (31, .aload_n 0, 1), (32, .invokevirtual 255, 3), (35, .iconst 1, 1), (36, .ireturn, 1)], RX5, 2, 4, some .boolean)
theorem okX5_perhaps : MOK yX5_perhaps cX5_perhaps mX5_perhaps := ⟨by decide +kernel, rfl, by decide +kernel⟩
def mX5_goatHere : Mi := ([(0, .aload_n 0, 1), (1, .getfield 7, 3), (4, .iconst 0, 1), (5, .iaload, 1), (6, .bipush 8, 2), (8, .if_icmp .ne 8, 3), (11, .aload_n 0, 1), (12, .invokevirtual 244, 3), (15, .ireturn, 1), (16, .aload_n 0, 1), (17, .iload_n 1, 1), (18, .iconst 0, 1), (19, .iconst 0, 1), (20, .invokevirtual 78, 3), (23, .aload_n 0, 1), (24, .getfield 7, 3), (27, .iconst 0, 1), (28, .iaload, 1), (29, .iconst 1, 1), (30, .isub, 1), (31, .istore_n 2, 1), (32, .aload_n 0, 1), (33, .invokevirtual 255, 3), (36, .aload_n 0, 1), (37, .aload_n 0, 1), (38, .iconst 2, 1), (39, .invokevirtual 237, 3), (42, .ifCond .eq 35, 3), (45, .aload_n 0, 1), (46, .aload_n 0, 1), (47, .getfield 216, 3), (50, .invokevirtual 219, 3), (53, .bipush 111, 2), (55, .if_icmp .ne 22, 3), (58, .aload_n 0, 1), (59, .aload_n 0, 1), (60, .getfield 216, 3), (63, .iconst 1, 1), (64, .iadd, 1), (65, .invokevirtual 219, 3), (68, .bipush 110, 2), (70, .if_icmp .ne 7, 3), (73, .iconst 1, 1), (74, .goto 4, 3), (77, .iconst 0, 1), (78, .iload_n 2, 1), (79, .iconst 1, 1), (80, .invokestatic 72, 3), (83, .bipush 11, 2), (85, .invokevirtual 261, 3), (88, .ifCond .eq 76, 3), (91, .aload_n 0, 1), (92, .aload_n 0, 1), (93, .bipush 107, 2), (95, .bipush 110, 2), (97, .bipush 111, 2), (99, .bipush 119, 2), (101, .bipush 115, 2), (103, .invokevirtual 251, 3), (106, .iload_n 2, 1), (107, .iconst 2, 1), (108, .invokestatic 72, 3), (111, .ldc 112, 2), (113, .invokevirtual 261, 3), (116, .ifCond .eq 48, 3), (119, .aload_n 0, 1), (120, .aload_n 0, 1), (121, .iconst 3, 1), (122, .invokevirtual 237, 3), (125, .ifCond .eq 21, 3), (128, .aload_n 0, 1), (129, .iconst 0, 1), (130, .bipush 102, 2), (132, .bipush 101, 2), (134, .bipush 100, 2), (136, .invokevirtual 240, 3), (139, .ifCond .eq 7, 3), (142, .iconst 1, 1), (143, .goto 4, 3), (146, .iconst 0, 1), (147, .iload_n 2, 1), (148, .iconst 4, 1), (149, .invokestatic 72, 3), (152, .bipush 99, 2), (154, .invokevirtual 261, 3), (157, .ifCond .eq 7, 3), (160, .iconst 1, 1), (161, .goto 4, 3), (164, .iconst 0, 1), (165, .ireturn, 1)], RX5, 3, 3, some .boolean)
theorem okX5_goatHere : MOK yX5_goatHere cX5_goatHere mX5_goatHere := ⟨by decide +kernel, rfl, by decide +kernel⟩
def mX5_grassHere : Mi := ([(0, .aload_n 0, 1), (1, .invokevirtual 255, 3), (4, .aload_n 0, 1), (5, .iconst 0, 1), (6, .bipush 11, 2), (8, .invokevirtual 258, 3), (11, .ifCond .eq 23, 3), (14, .aload_n 0, 1), (15, .iconst 1, 1), (16, .iconst 5, 1), (17, .aload_n 0, 1), (18, .getfield 231, 3), (21, .iadd, 1), (22, .bipush 99, 2), (24, .invokevirtual 261, 3), (27, .ifCond .eq 7, 3), (30, .iconst 1, 1), (31, .goto 4, 3), (34, .iconst 0, 1), (35, .ireturn, 1)], RX5, 3, 1, some .boolean)
theorem okX5_grassHere : MOK yX5_grassHere cX5_grassHere mX5_grassHere := ⟨by decide +kernel, rfl, by decide +kernel⟩
def mX5_itemHere : Mi := ([(0, .aload_n 0, 1), (1, .invokevirtual 265, 3), (4, .istore_n 1, 1), (5, .iload_n 1, 1), (6, .ifCond .lt 9, 3), (9, .aload_n 0, 1), (10, .iload_n 1, 1), (11, .invokevirtual 268, 3), (14, .ireturn, 1), (15, .aload_n 0, 1), (16, .bipush 103, 2), (18, .bipush 114, 2), (20, .bipush 97, 2), (22, .bipush 115, 2), (24, .bipush 115, 2), (26, .invokevirtual 251, 3), (29, .ifCond .eq 8, 3), (32, .aload_n 0, 1), (33, .invokevirtual 271, 3), (36, .ireturn, 1), (37, .aload_n 0, 1), (38, .bipush 103, 2), (40, .bipush 114, 2), (42, .bipush 111, 2), (44, .bipush 119, 2), (46, .bipush 115, 2), (48, .invokevirtual 251, 3), (51, .ifCond .eq 12, 3), (54, .aload_n 0, 1), (55, .iconst 1, 1), (56, .iconst 3, 1), (57, .bipush 20, 2), (59, .invokevirtual 261, 3), (62, .ireturn, 1), (63, .aload_n 0, 1), (64, .bipush 115, 2), (66, .bipush 97, 2), (68, .bipush 108, 2), (70, .bipush 116, 2), (72, .invokevirtual 248, 3), (75, .ifCond .eq 15, 3), (78, .aload_n 0, 1), (79, .iconst 1, 1), (80, .iconst 4, 1), (81, .sipush 9999, 3), (84, .invokevirtual 261, 3), (87, .goto 7, 3), (90, .aload_n 0, 1), (91, .invokevirtual 244, 3), (94, .ireturn, 1)], RX5, 4, 2, some .boolean)
theorem okX5_itemHere : MOK yX5_itemHere cX5_itemHere mX5_itemHere := ⟨by decide +kernel, rfl, by decide +kernel⟩
def mX5_text : Mi := ([(0, .aload_n 0, 1), (1, .getfield 7, 3), (4, .aload_n 0, 1), (5, .getfield 16, 3), (8, .invokestatic 164, 3), (11, .aload_n 0, 1), (12, .iconst 0, 1), (13, .putfield 213, 3), (16, .aload_n 0, 1), (17, .invokevirtual 255, 3), (20, .iconst 1, 1), (21, .istore_n 1, 1), (22, .aload_n 0, 1), (23, .invokevirtual 274, 3), (26, .istore_n 2, 1), (27, .iload_n 2, 1), (28, .ifCond .eq 26, 3), (31, .aload_n 0, 1), (32, .getfield 228, 3), (35, .iconst 3, 1), (36, .if_icmp .ne 18, 3), (39, .aload_n 0, 1), (40, .invokevirtual 255, 3), (43, .aload_n 0, 1), (44, .invokevirtual 274, 3), (47, .istore_n 2, 1), (48, .iinc 1 1, 3), (51, .goto (-24), 3), (54, .iload_n 2, 1), (55, .ifCond .eq 21, 3), (58, .aload_n 0, 1), (59, .getfield 228, 3), (62, .ifCond .eq 10, 3), (65, .aload_n 0, 1), (66, .invokevirtual 244, 3), (69, .ifCond .eq 7, 3), (72, .iconst 1, 1), (73, .goto 4, 3), (76, .iconst 0, 1), (77, .istore_n 2, 1), (78, .aload_n 0, 1), (79, .iconst 0, 1), (80, .putfield 209, 3), (83, .iload_n 2, 1), (84, .ifCond .ne 14, 3), (87, .aload_n 0, 1), (88, .getfield 16, 3), (91, .aload_n 0, 1), (92, .getfield 7, 3), (95, .invokestatic 164, 3), (98, .iload_n 2, 1), (99, .ifCond .eq 7, 3), (102, .iload_n 1, 1), (103, .goto 9, 3), (106, .iconst (-1), 1), (107, .aload_n 0, 1), (108, .getfield 234, 3), (111, .isub, 1), (112, .ireturn, 1)], RX5, 5, 3, some .int)
theorem okX5_text : MOK yX5_text cX5_text mX5_text := ⟨by decide +kernel, rfl, by decide +kernel⟩
def mX5_hold : Mi := ([(0, .iload_n 1, 1), (1, .i2l, 1), (2, .lconst 0, 1), (3, .ldc2_w 98, 3), (6, .invokestatic 49, 3), (9, .ifCond .eq 16, 3), (12, .iload_n 2, 1), (13, .iconst (-1), 1), (14, .if_icmp .eq 18, 3), (17, .aload_n 0, 1), (18, .iload_n 2, 1), (19, .invokevirtual 95, 3), (22, .ifCond .ne 10, 3), (25, .aload_n 0, 1), (26, .ldc 37, 2), (28, .invokevirtual 39, 3), (31, .ireturn, 1), (32, .aload_n 0, 1), (33, .getfield 7, 3), (36, .bipush 65, 2), (38, .iload_n 1, 1), (39, .iadd, 1), (40, .iload_n 2, 1), (41, .iastore, 1), (42, .iconst 1, 1), (43, .ireturn, 1)], RX5, 1, 3, some .int)
theorem okX5_hold : MOK yX5_hold cX5_hold mX5_hold := ⟨by decide +kernel, rfl, by decide +kernel⟩
def mX5_isUnder : Mi := ([(0, .iload_n 1, 1), (1, .ifCond .eq 44, 3), (4, .iload_n 0, 1), (5, .iload_n 1, 1), (6, .if_icmp .eq 39, 3), (9, .iload_n 1, 1), (10, .iconst 2, 1), (11, .if_icmp .ne 13, 3), (14, .iload_n 0, 1), (15, .iconst 3, 1), (16, .if_icmp .eq 29, 3), (19, .iload_n 0, 1), (20, .iconst 4, 1), (21, .if_icmp .eq 24, 3), (24, .iload_n 1, 1), (25, .iconst 3, 1), (26, .if_icmp .ne 8, 3), (29, .iload_n 0, 1), (30, .iconst 4, 1), (31, .if_icmp .eq 14, 3), (34, .iload_n 1, 1), (35, .iconst 1, 1), (36, .if_icmp .ne 13, 3), (39, .iload_n 0, 1), (40, .bipush 6, 2), (42, .if_icmp .ne 7, 3), (45, .iconst 1, 1), (46, .goto 4, 3), (49, .iconst 0, 1), (50, .ireturn, 1)], RX5, 0, 2, some .boolean)
theorem okX5_isUnder : MOK yX5_isUnder cX5_isUnder mX5_isUnder := ⟨by decide +kernel, rfl, by decide +kernel⟩
def mX5_as : Mi := ([(0, .iload_n 1, 1), (1, .i2l, 1), (2, .lconst 0, 1), (3, .ldc2_w 98, 3), (6, .invokestatic 49, 3), (9, .ifCond .eq 15, 3), (12, .iload_n 2, 1), (13, .i2l, 1), (14, .lconst 0, 1), (15, .ldc2_w 75, 3), (18, .invokestatic 49, 3), (21, .ifCond .ne 10, 3), (24, .aload_n 0, 1), (25, .ldc 37, 2), (27, .invokevirtual 39, 3), (30, .ireturn, 1), (31, .aload_n 0, 1), (32, .getfield 7, 3), (35, .bipush 65, 2), (37, .iload_n 1, 1), (38, .iadd, 1), (39, .iaload, 1), (40, .istore_n 3, 1), (41, .iload_n 3, 1), (42, .ifCond .ge 11, 3), (45, .aload_n 0, 1), (46, .ldc_w 277, 3), (49, .invokevirtual 39, 3), (52, .ireturn, 1), (53, .aload_n 0, 1), (54, .iload_n 3, 1), (55, .iconst 0, 1), (56, .invokevirtual 57, 3), (59, .iload_n 2, 1), (60, .invokestatic 278, 3), (63, .ifCond .eq 7, 3), (66, .iload_n 3, 1), (67, .goto 10, 3), (70, .aload_n 0, 1), (71, .ldc_w 281, 3), (74, .invokevirtual 39, 3), (77, .ireturn, 1)], RX5, 1, 4, some .int)
theorem okX5_as : MOK yX5_as cX5_as mX5_as := ⟨by decide +kernel, rfl, by decide +kernel⟩
def mX5_isSheet : Mi := ([(0, .iload_n 0, 1), (1, .ifCond .lt 12, 3), (4, .iload_n 0, 1), (5, .iconst 4, 1), (6, .if_icmp .ge 7, 3), (9, .iconst 1, 1), (10, .goto 4, 3), (13, .iconst 0, 1), (14, .ireturn, 1)], RX5, 0, 1, some .boolean)
theorem okX5_isSheet : MOK yX5_isSheet cX5_isSheet mX5_isSheet := ⟨by decide +kernel, rfl, by decide +kernel⟩
def mX5_sheet : Mi := ([(0, .iload_n 1, 1), (1, .invokestatic 282, 3), (4, .ifCond .eq 25, 3), (7, .iload_n 2, 1), (8, .ifCond .eq 28, 3), (11, .iload_n 2, 1), (12, .bipush 8, 2), (14, .if_icmp .eq 22, 3), (17, .iload_n 2, 1), (18, .bipush 16, 2), (20, .if_icmp .eq 16, 3), (23, .iload_n 2, 1), (24, .bipush 32, 2), (26, .if_icmp .eq 10, 3), (29, .aload_n 0, 1), (30, .ldc 37, 2), (32, .invokevirtual 39, 3), (35, .ireturn, 1), (36, .iload_n 3, 1), (37, .ifCond .ge 11, 3), (40, .aload_n 0, 1), (41, .ldc_w 285, 3), (44, .invokevirtual 39, 3), (47, .ireturn, 1), (48, .iload_n 3, 1), (49, .bipush 40, 2), (51, .if_icmp .le 10, 3), (54, .aload_n 0, 1), (55, .ldc 37, 2), (57, .invokevirtual 39, 3), (60, .ireturn, 1), (61, .aload_n 0, 1), (62, .getfield 28, 3), (65, .iload_n 1, 1), (66, .iload_n 2, 1), (67, .ifCond .ne 7, 3), (70, .iconst (-1), 1), (71, .goto 4, 3), (74, .iload_n 2, 1), (75, .iastore, 1), (76, .aload_n 0, 1), (77, .getfield 31, 3), (80, .iload_n 1, 1), (81, .iload_n 2, 1), (82, .ifCond .ne 7, 3), (85, .iconst 0, 1), (86, .goto 4, 3), (89, .iload_n 3, 1), (90, .iastore, 1), (91, .iconst 0, 1), (92, .istore 4, 2), (94, .iload 4, 2), (96, .bipush 40, 2), (98, .if_icmp .ge 22, 3), (101, .aload_n 0, 1), (102, .getfield 34, 3), (105, .bipush 40, 2), (107, .iload_n 1, 1), (108, .imul, 1), (109, .iload 4, 2), (111, .iadd, 1), (112, .iconst 0, 1), (113, .iastore, 1), (114, .iinc 4 1, 3), (117, .goto (-23), 3), (120, .aload_n 0, 1), (121, .getfield 31, 3), (124, .iload_n 1, 1), (125, .iaload, 1), (126, .ireturn, 1)], RX5, 1, 5, some .int)
theorem okX5_sheet : MOK yX5_sheet cX5_sheet mX5_sheet := ⟨by decide +kernel, rfl, by decide +kernel⟩
def mX5_write : Mi := ([(0, .iload_n 1, 1), (1, .invokestatic 282, 3), (4, .ifCond .ne 10, 3), (7, .aload_n 0, 1), (8, .ldc 37, 2), (10, .invokevirtual 39, 3), (13, .ireturn, 1), (14, .aload_n 0, 1), (15, .getfield 28, 3), (18, .iload_n 1, 1), (19, .iaload, 1), (20, .ifCond .ge 11, 3), (23, .aload_n 0, 1), (24, .ldc_w 277, 3), (27, .invokevirtual 39, 3), (30, .ireturn, 1), (31, .iload_n 2, 1), (32, .i2l, 1), (33, .lconst 0, 1), (34, .aload_n 0, 1), (35, .getfield 31, 3), (38, .iload_n 1, 1), (39, .iaload, 1), (40, .iconst 1, 1), (41, .isub, 1), (42, .i2l, 1), (43, .invokestatic 49, 3), (46, .ifCond .ne 10, 3), (49, .aload_n 0, 1), (50, .ldc 37, 2), (52, .invokevirtual 39, 3), (55, .ireturn, 1), (56, .aload_n 0, 1), (57, .getfield 34, 3), (60, .bipush 40, 2), (62, .iload_n 1, 1), (63, .imul, 1), (64, .iload_n 2, 1), (65, .iadd, 1), (66, .aload_n 0, 1), (67, .getfield 28, 3), (70, .iload_n 1, 1), (71, .iaload, 1), (72, .bipush 8, 2), (74, .if_icmp .ne 8, 3), (77, .iload_n 3, 1), (78, .i2b, 1), (79, .goto 20, 3), (82, .aload_n 0, 1), (83, .getfield 28, 3), (86, .iload_n 1, 1), (87, .iaload, 1), (88, .bipush 16, 2), (90, .if_icmp .ne 8, 3), (93, .iload_n 3, 1), (94, .i2s, 1), (95, .goto 4, 3), (98, .iload_n 3, 1), (99, .iastore, 1), (100, .iconst 1, 1), (101, .ireturn, 1)], RX5, 1, 4, some .int)
theorem okX5_write : MOK yX5_write cX5_write mX5_write := ⟨by decide +kernel, rfl, by decide +kernel⟩
def mX5_copy : Mi := ([(0, .iload_n 1, 1), (1, .invokestatic 282, 3), (4, .ifCond .eq 10, 3), (7, .iload_n 3, 1), (8, .invokestatic 282, 3), (11, .ifCond .ne 10, 3), (14, .aload_n 0, 1), (15, .ldc 37, 2), (17, .invokevirtual 39, 3), (20, .ireturn, 1), (21, .aload_n 0, 1), (22, .getfield 28, 3), (25, .iload_n 1, 1), (26, .iaload, 1), (27, .ifCond .lt 12, 3), (30, .aload_n 0, 1), (31, .getfield 28, 3), (34, .iload_n 3, 1), (35, .iaload, 1), (36, .ifCond .ge 11, 3), (39, .aload_n 0, 1), (40, .ldc_w 277, 3), (43, .invokevirtual 39, 3), (46, .ireturn, 1), (47, .aload_n 0, 1), (48, .getfield 28, 3), (51, .iload_n 1, 1), (52, .iaload, 1), (53, .aload_n 0, 1), (54, .getfield 28, 3), (57, .iload_n 3, 1), (58, .iaload, 1), (59, .if_icmp .eq 11, 3), (62, .aload_n 0, 1), (63, .ldc_w 281, 3), (66, .invokevirtual 39, 3), (69, .ireturn, 1), (70, .iload_n 2, 1), (71, .ifCond .lt 40, 3), (74, .iload 4, 2), (76, .ifCond .lt 35, 3), (79, .iload 5, 2), (81, .ifCond .lt 30, 3), (84, .iload 5, 2), (86, .aload_n 0, 1), (87, .getfield 31, 3), (90, .iload_n 1, 1), (91, .iaload, 1), (92, .iload_n 2, 1), (93, .isub, 1), (94, .if_icmp .gt 17, 3), (97, .iload 5, 2), (99, .aload_n 0, 1), (100, .getfield 31, 3), (103, .iload_n 3, 1), (104, .iaload, 1), (105, .iload 4, 2), (107, .isub, 1), (108, .if_icmp .le 10, 3), (111, .aload_n 0, 1), (112, .ldc 37, 2), (114, .invokevirtual 39, 3), (117, .ireturn, 1), (118, .bipush 40, 2), (120, .iload_n 1, 1), (121, .imul, 1), (122, .iload_n 2, 1), (123, .iadd, 1), (124, .istore 6, 2), (126, .bipush 40, 2), (128, .iload_n 3, 1), (129, .imul, 1), (130, .iload 4, 2), (132, .iadd, 1), (133, .istore 7, 2), (135, .iconst 0, 1), (136, .istore 8, 2), (138, .iload 8, 2), (140, .iload 5, 2), (142, .if_icmp .ge 50, 3), (145, .iload 6, 2), (147, .iload 7, 2), (149, .if_icmp .ge 13, 3), (152, .iload 5, 2), (154, .iconst 1, 1), (155, .isub, 1), (156, .iload 8, 2), (158, .isub, 1), (159, .goto 5, 3), (162, .iload 8, 2), (164, .istore 9, 2), (166, .aload_n 0, 1), (167, .getfield 34, 3), (170, .iload 7, 2), (172, .iload 9, 2), (174, .iadd, 1), (175, .aload_n 0, 1), (176, .getfield 34, 3), (179, .iload 6, 2), (181, .iload 9, 2), (183, .iadd, 1), (184, .iaload, 1), (185, .iastore, 1), (186, .iinc 8 1, 3), (189, .goto (-51), 3), (192, .iload 5, 2), (194, .ireturn, 1)], RX5, 1, 10, some .int)
theorem okX5_copy : MOK yX5_copy cX5_copy mX5_copy := ⟨by decide +kernel, rfl, by decide +kernel⟩
def mX5_wants : Mi := ([(0, .iload_n 1, 1), (1, .invokestatic 282, 3), (4, .ifCond .ne 8, 3), (7, .ldc 37, 2), (9, .goto 19, 3), (12, .aload_n 0, 1), (13, .getfield 28, 3), (16, .iload_n 1, 1), (17, .iaload, 1), (18, .ifCond .ge 9, 3), (21, .ldc_w 277, 3), (24, .goto 4, 3), (27, .iconst 0, 1), (28, .ireturn, 1)], RX5, 1, 2, some .int)
theorem okX5_wants : MOK yX5_wants cX5_wants mX5_wants := ⟨by decide +kernel, rfl, by decide +kernel⟩
def mX5_load : Mi := ([(0, .aload_n 0, 1), (1, .iload_n 1, 1), (2, .invokevirtual 191, 3), (5, .ifCond .eq 13, 3), (8, .aload_n 0, 1), (9, .aload_n 0, 1), (10, .iload_n 1, 1), (11, .invokevirtual 191, 3), (14, .invokevirtual 39, 3), (17, .ireturn, 1), (18, .iconst 0, 1), (19, .istore_n 2, 1), (20, .iload_n 2, 1), (21, .aload_n 0, 1), (22, .getfield 31, 3), (25, .iload_n 1, 1), (26, .iaload, 1), (27, .if_icmp .ge 56, 3), (30, .iload_n 2, 1), (31, .bipush 12, 2), (33, .if_icmp .ge 50, 3), (36, .aload_n 0, 1), (37, .getfield 34, 3), (40, .bipush 40, 2), (42, .iload_n 1, 1), (43, .imul, 1), (44, .iload_n 2, 1), (45, .iadd, 1), (46, .iaload, 1), (47, .i2l, 1), (48, .lconst 0, 1), (49, .ldc2_w 47, 3), (52, .invokestatic 49, 3), (55, .ifCond .eq 28, 3), (58, .aload_n 0, 1), (59, .getfield 7, 3), (62, .iconst 5, 1), (63, .iload_n 2, 1), (64, .iadd, 1), (65, .aload_n 0, 1), (66, .getfield 34, 3), (69, .bipush 40, 2), (71, .iload_n 1, 1), (72, .imul, 1), (73, .iload_n 2, 1), (74, .iadd, 1), (75, .iaload, 1), (76, .iastore, 1), (77, .iinc 2 1, 3), (80, .goto (-60), 3), (83, .iload_n 2, 1), (84, .ireturn, 1)], RX5, 2, 3, some .int)
theorem okX5_load : MOK yX5_load cX5_load mX5_load := ⟨by decide +kernel, rfl, by decide +kernel⟩
def mX5_judge : Mi := ([(0, .aload_n 0, 1), (1, .iload_n 1, 1), (2, .invokevirtual 191, 3), (5, .ifCond .eq 13, 3), (8, .aload_n 0, 1), (9, .aload_n 0, 1), (10, .iload_n 1, 1), (11, .invokevirtual 191, 3), (14, .invokevirtual 39, 3), (17, .ireturn, 1), (18, .iconst 0, 1), (19, .istore_n 2, 1), (20, .iload_n 2, 1), (21, .aload_n 0, 1), (22, .getfield 31, 3), (25, .iload_n 1, 1), (26, .iaload, 1), (27, .if_icmp .ge 37, 3), (30, .aload_n 0, 1), (31, .iload_n 2, 1), (32, .invokevirtual 95, 3), (35, .ifCond .eq 29, 3), (38, .aload_n 0, 1), (39, .getfield 34, 3), (42, .bipush 40, 2), (44, .iload_n 1, 1), (45, .imul, 1), (46, .iload_n 2, 1), (47, .iadd, 1), (48, .iaload, 1), (49, .aload_n 0, 1), (50, .iload_n 2, 1), (51, .iconst 2, 1), (52, .invokevirtual 57, 3), (55, .if_icmp .ne 9, 3), (58, .iinc 2 1, 3), (61, .goto (-41), 3), (64, .iload_n 2, 1), (65, .aload_n 0, 1), (66, .getfield 31, 3), (69, .iload_n 1, 1), (70, .iaload, 1), (71, .if_icmp .ge 9, 3), (74, .iconst 1, 1), (75, .iload_n 2, 1), (76, .iadd, 1), (77, .goto 4, 3), (80, .iconst 0, 1), (81, .ireturn, 1)], RX5, 2, 3, some .int)
theorem okX5_judge : MOK yX5_judge cX5_judge mX5_judge := ⟨by decide +kernel, rfl, by decide +kernel⟩
def mX5_image : Mi := ([(0, .aload_n 0, 1), (1, .getfield 7, 3), (4, .aload_n 0, 1), (5, .getfield 13, 3), (8, .invokestatic 164, 3), (11, .aload_n 0, 1), (12, .iconst 1, 1), (13, .putfield 286, 3), (16, .iconst 1, 1), (17, .ireturn, 1)], RX5, 1, 1, some .int)
theorem okX5_image : MOK yX5_image cX5_image mX5_image := ⟨by decide +kernel, rfl, by decide +kernel⟩
def mX5_undo : Mi := ([(0, .aload_n 0, 1), (1, .getfield 286, 3), (4, .ifCond .ne 10, 3), (7, .aload_n 0, 1), (8, .ldc 38, 2), (10, .invokevirtual 39, 3), (13, .ireturn, 1), (14, .aload_n 0, 1), (15, .getfield 13, 3), (18, .aload_n 0, 1), (19, .getfield 7, 3), (22, .invokestatic 164, 3), (25, .aload_n 0, 1), (26, .getfield 7, 3), (29, .iconst 1, 1), (30, .iaload, 1), (31, .ireturn, 1)], RX5, 1, 1, some .int)
theorem okX5_undo : MOK yX5_undo cX5_undo mX5_undo := ⟨by decide +kernel, rfl, by decide +kernel⟩
def mX5_tear : Mi := ([(0, .aload_n 0, 1), (1, .getfield 286, 3), (4, .istore_n 1, 1), (5, .aload_n 0, 1), (6, .iconst 0, 1), (7, .putfield 286, 3), (10, .iload_n 1, 1), (11, .ifCond .eq 7, 3), (14, .iconst 1, 1), (15, .goto 4, 3), (18, .iconst 0, 1), (19, .ireturn, 1)], RX5, 0, 2, some .int)
theorem okX5_tear : MOK yX5_tear cX5_tear mX5_tear := ⟨by decide +kernel, rfl, by decide +kernel⟩
def mX5_count : Mi := ([(0, .iconst 0, 1), (1, .istore_n 2, 1), (2, .iload_n 1, 1), (3, .tableswitch 127 0 7 #[45, 52, 59, 67, 74, 79, 84, 91], 45), (48, .aload_n 0, 1), (49, .getfield 7, 3), (52, .iconst 1, 1), (53, .iaload, 1), (54, .ireturn, 1), (55, .aload_n 0, 1), (56, .getfield 7, 3), (59, .iconst 0, 1), (60, .iaload, 1), (61, .ireturn, 1), (62, .aload_n 0, 1), (63, .invokevirtual 151, 3), (66, .invokestatic 86, 3), (69, .ireturn, 1), (70, .aload_n 0, 1), (71, .getfield 7, 3), (74, .iconst 4, 1), (75, .iaload, 1), (76, .ireturn, 1), (77, .aload_n 0, 1), (78, .invokevirtual 155, 3), (81, .ireturn, 1), (82, .aload_n 0, 1), (83, .getfield 209, 3), (86, .ireturn, 1), (87, .aload_n 0, 1), (88, .getfield 7, 3), (91, .iconst 2, 1), (92, .iaload, 1), (93, .ireturn, 1), (94, .iconst 0, 1), (95, .istore_n 3, 1), (96, .iload_n 3, 1), (97, .bipush 10, 2), (99, .if_icmp .ge 29, 3), (102, .iload_n 2, 1), (103, .aload_n 0, 1), (104, .getfield 7, 3), (107, .bipush 65, 2), (109, .iload_n 3, 1), (110, .iadd, 1), (111, .iaload, 1), (112, .ifCond .ge 7, 3), (115, .iconst 0, 1), (116, .goto 4, 3), (119, .iconst 1, 1), (120, .iadd, 1), (121, .istore_n 2, 1), (122, .iinc 3 1, 3), (125, .goto (-29), 3), (128, .iload_n 2, 1), (129, .ireturn, 1), (130, .aload_n 0, 1), (131, .ldc 37, 2), (133, .invokevirtual 39, 3), (136, .ireturn, 1)], RX5, 3, 4, some .int)
theorem okX5_count : MOK yX5_count cX5_count mX5_count := ⟨by decide +kernel, rfl, by decide +kernel⟩
def mX5_status : Mi := ([(0, .iload_n 1, 1), (1, .i2l, 1), (2, .ldc2_w 290, 3), (5, .ldc2_w 75, 3), (8, .invokestatic 49, 3), (11, .ifCond .eq 14, 3), (14, .aload_n 0, 1), (15, .getfield 22, 3), (18, .iload_n 1, 1), (19, .iconst 1, 1), (20, .iadd, 1), (21, .iaload, 1), (22, .goto 9, 3), (25, .aload_n 0, 1), (26, .ldc 37, 2), (28, .invokevirtual 39, 3), (31, .ireturn, 1)], RX5, 1, 2, some .int)
theorem okX5_status : MOK yX5_status cX5_status mX5_status := ⟨by decide +kernel, rfl, by decide +kernel⟩
end
section
theorem k_RJ6_265 : Cond.constant RJ6 265 (1431655765) ∈ TB := tb_mem 313 (by decide +kernel) (by decide +kernel)
theorem k_RJ6_266 : Cond.constant RJ6 266 (858993459) ∈ TB := tb_mem 314 (by decide +kernel) (by decide +kernel)
theorem k_RJ6_267 : Cond.constant RJ6 267 (252645135) ∈ TB := tb_mem 315 (by decide +kernel) (by decide +kernel)
theorem fl_RX0_11 : FL RX0 11 0 0 := ⟨RX0, TX0, 14, rfl, by decide, tb_mem 95 (by decide +kernel) (by decide +kernel), inX0⟩
theorem fl_RX0_15 : FL RX0 15 0 1 := ⟨RX0, TX0, 14, rfl, by decide, tb_mem 98 (by decide +kernel) (by decide +kernel), inX0⟩
theorem fl_RX0_18 : FL RX0 18 0 2 := ⟨RX0, TX0, 14, rfl, by decide, tb_mem 100 (by decide +kernel) (by decide +kernel), inX0⟩
theorem fl_RX0_21 : FL RX0 21 0 3 := ⟨RX0, TX0, 14, rfl, by decide, tb_mem 102 (by decide +kernel) (by decide +kernel), inX0⟩
theorem fl_RX0_24 : FL RX0 24 0 4 := ⟨RX0, TX0, 14, rfl, by decide, tb_mem 104 (by decide +kernel) (by decide +kernel), inX0⟩
theorem fl_RX0_27 : FL RX0 27 0 5 := ⟨RX0, TX0, 14, rfl, by decide, tb_mem 105 (by decide +kernel) (by decide +kernel), inX0⟩
theorem fl_RX0_30 : FL RX0 30 0 6 := ⟨RX0, TX0, 14, rfl, by decide, tb_mem 106 (by decide +kernel) (by decide +kernel), inX0⟩
theorem fl_RX0_33 : FL RX0 33 0 7 := ⟨RX0, TX0, 14, rfl, by decide, tb_mem 108 (by decide +kernel) (by decide +kernel), inX0⟩
theorem fl_RX0_52 : FL RX0 52 0 8 := ⟨RX0, TX0, 14, rfl, by decide, tb_mem 110 (by decide +kernel) (by decide +kernel), inX0⟩
theorem fl_RX0_55 : FL RX0 55 0 9 := ⟨RX0, TX0, 14, rfl, by decide, tb_mem 112 (by decide +kernel) (by decide +kernel), inX0⟩
theorem fl_RX0_36 : FL RX0 36 0 10 := ⟨RX0, TX0, 14, rfl, by decide, tb_mem 114 (by decide +kernel) (by decide +kernel), inX0⟩
theorem fl_RX0_40 : FL RX0 40 0 11 := ⟨RX0, TX0, 14, rfl, by decide, tb_mem 117 (by decide +kernel) (by decide +kernel), inX0⟩
theorem fl_RX0_58 : FL RX0 58 0 12 := ⟨RX0, TX0, 14, rfl, by decide, tb_mem 120 (by decide +kernel) (by decide +kernel), inX0⟩
theorem fl_RX0_43 : FL RX0 43 0 13 := ⟨RX0, TX0, 14, rfl, by decide, tb_mem 122 (by decide +kernel) (by decide +kernel), inX0⟩
theorem ml_RX0_46 : Cond.methodLink RX0 46 arraycopyName ∈ TB := tb_mem 449 (by decide +kernel) (by decide +kernel)
theorem cp_native : Cond.native arraycopyName ∈ TB := tb_mem 451 (by decide +kernel) (by decide +kernel)
theorem cp_static : Cond.static arraycopyName ∈ TB := tb_mem 450 (by decide +kernel) (by decide +kernel)
theorem cp_init : Cond.initialized "java/lang/System" ∈ TB := tb_mem 76 (by decide +kernel) (by decide +kernel)
theorem fp_0_8 : FP 0 8 .int := ⟨RX0, TX0, 14, tyX0, rfl, tyX0_ok, nmX0, rfl, by decide +kernel⟩
theorem fp_0_9 : FP 0 9 .int := ⟨RX0, TX0, 14, tyX0, rfl, tyX0_ok, nmX0, rfl, by decide +kernel⟩
theorem fp_0_10 : FP 0 10 .int := ⟨RX0, TX0, 14, tyX0, rfl, tyX0_ok, nmX0, rfl, by decide +kernel⟩
theorem fp_0_11 : FP 0 11 .int := ⟨RX0, TX0, 14, tyX0, rfl, tyX0_ok, nmX0, rfl, by decide +kernel⟩
theorem fp_0_12 : FP 0 12 .int := ⟨RX0, TX0, 14, tyX0, rfl, tyX0_ok, nmX0, rfl, by decide +kernel⟩
theorem fp_0_13 : FP 0 13 .int := ⟨RX0, TX0, 14, tyX0, rfl, tyX0_ok, nmX0, rfl, by decide +kernel⟩
theorem ml_RX0_61 : Cond.methodLink RX0 61 yX0_kindAbove ∈ TB := tb_mem 718 (by decide +kernel) (by decide +kernel)
theorem ms_X0_kindAbove : Cond.static yX0_kindAbove ∈ TB := tb_mem 719 (by decide +kernel) (by decide +kernel)
theorem lc_X0_kindAbove : LC yX0_kindAbove cX0_kindAbove mX0_kindAbove 1 := ⟨tb_mem 69 (by decide +kernel) (by decide +kernel), tb_mem 720 (by decide +kernel) (by decide +kernel), by decide +kernel, by decide +kernel, by decide +kernel⟩
theorem ml_RX0_65 : Cond.methodLink RX0 65 yX0_skippedAt ∈ TB := tb_mem 338 (by decide +kernel) (by decide +kernel)
theorem ms_X0_skippedAt : Cond.static yX0_skippedAt ∈ TB := tb_mem 339 (by decide +kernel) (by decide +kernel)
theorem lc_X0_skippedAt : LC yX0_skippedAt cX0_skippedAt mX0_skippedAt 1 := ⟨tb_mem 69 (by decide +kernel) (by decide +kernel), tb_mem 340 (by decide +kernel) (by decide +kernel), by decide +kernel, by decide +kernel, by decide +kernel⟩
theorem ml_RX0_68 : Cond.methodLink RX0 68 yJ6_bitCount_0f7a4 ∈ TB := tb_mem 310 (by decide +kernel) (by decide +kernel)
theorem ms_J6_bitCount_0f7a4 : Cond.static yJ6_bitCount_0f7a4 ∈ TB := tb_mem 311 (by decide +kernel) (by decide +kernel)
theorem lc_J6_bitCount_0f7a4 : LC yJ6_bitCount_0f7a4 cJ6_bitCount_0f7a4 mJ6_bitCount_0f7a4 1 := ⟨tb_mem 74 (by decide +kernel) (by decide +kernel), tb_mem 312 (by decide +kernel) (by decide +kernel), by decide +kernel, by decide +kernel, by decide +kernel⟩
theorem ml_RX0_73 : Cond.methodLink RX0 73 yX0_greenestNear ∈ TB := tb_mem 324 (by decide +kernel) (by decide +kernel)
theorem mi_X0_greenestNear : Cond.instanceMethod yX0_greenestNear ∈ TB := tb_mem 326 (by decide +kernel) (by decide +kernel)
theorem mv_X0_greenestNear : Cond.selects yX0_greenestNear.cls yX0_greenestNear yX0_greenestNear ∈ TB := tb_mem 3 (by decide +kernel) (by decide +kernel)
theorem lc_X0_greenestNear : LC yX0_greenestNear cX0_greenestNear mX0_greenestNear 1 := ⟨tb_mem 69 (by decide +kernel) (by decide +kernel), tb_mem 327 (by decide +kernel) (by decide +kernel), by decide +kernel, by decide +kernel, by decide +kernel⟩
theorem ml_RX0_76 : Cond.methodLink RX0 76 Lib.Math.max.name ∈ TB := tb_mem 328 (by decide +kernel) (by decide +kernel)
theorem mm_static_max : Cond.static Lib.Math.max.name ∈ TB := tb_mem 329 (by decide +kernel) (by decide +kernel)
theorem mm_code_max : Cond.code Lib.Math.max.name Lib.Math.max.code 2 (some .int) ∈ TB := tb_mem 330 (by decide +kernel) (by decide +kernel)
theorem mm_init : Cond.initialized "java/lang/Math" ∈ TB := tb_mem 75 (by decide +kernel) (by decide +kernel)
theorem ml_RX0_82 : Cond.methodLink RX0 82 Lib.Math.min.name ∈ TB := tb_mem 331 (by decide +kernel) (by decide +kernel)
theorem mm_static_min : Cond.static Lib.Math.min.name ∈ TB := tb_mem 332 (by decide +kernel) (by decide +kernel)
theorem mm_code_min : Cond.code Lib.Math.min.name Lib.Math.min.code 2 (some .int) ∈ TB := tb_mem 333 (by decide +kernel) (by decide +kernel)
theorem ml_RX0_115 : Cond.methodLinkNest RX0 115 yX4_hasBit RX4 ∈ nestW := by simp [nestW]
theorem ms_X4_hasBit : Cond.static yX4_hasBit ∈ TB := tb_mem 267 (by decide +kernel) (by decide +kernel)
theorem lc_X4_hasBit : LC yX4_hasBit cX4_hasBit mX4_hasBit 2 := ⟨tb_mem 68 (by decide +kernel) (by decide +kernel), tb_mem 268 (by decide +kernel) (by decide +kernel), by decide +kernel, by decide +kernel, by decide +kernel⟩
theorem ml_RX0_100 : Cond.methodLink RX0 100 yX0_climbsTo ∈ TB := tb_mem 397 (by decide +kernel) (by decide +kernel)
theorem mi_X0_climbsTo : Cond.instanceMethod yX0_climbsTo ∈ TB := tb_mem 321 (by decide +kernel) (by decide +kernel)
theorem mv_X0_climbsTo : Cond.selects yX0_climbsTo.cls yX0_climbsTo yX0_climbsTo ∈ TB := tb_mem 322 (by decide +kernel) (by decide +kernel)
theorem lc_X0_climbsTo : LC yX0_climbsTo cX0_climbsTo mX0_climbsTo 1 := ⟨tb_mem 69 (by decide +kernel) (by decide +kernel), tb_mem 323 (by decide +kernel) (by decide +kernel), by decide +kernel, by decide +kernel, by decide +kernel⟩
theorem ml_RX0_103 : Cond.methodLink RX0 103 yX0_grazes ∈ TB := tb_mem 398 (by decide +kernel) (by decide +kernel)
theorem mi_X0_grazes : Cond.instanceMethod yX0_grazes ∈ TB := tb_mem 317 (by decide +kernel) (by decide +kernel)
theorem mv_X0_grazes : Cond.selects yX0_grazes.cls yX0_grazes yX0_grazes ∈ TB := tb_mem 318 (by decide +kernel) (by decide +kernel)
theorem lc_X0_grazes : LC yX0_grazes cX0_grazes mX0_grazes 1 := ⟨tb_mem 69 (by decide +kernel) (by decide +kernel), tb_mem 319 (by decide +kernel) (by decide +kernel), by decide +kernel, by decide +kernel, by decide +kernel⟩
theorem ml_RX0_88 : Cond.methodLink RX0 88 yX0_isHere ∈ TB := tb_mem 262 (by decide +kernel) (by decide +kernel)
theorem mi_X0_isHere : Cond.instanceMethod yX0_isHere ∈ TB := tb_mem 264 (by decide +kernel) (by decide +kernel)
theorem mv_X0_isHere : Cond.selects yX0_isHere.cls yX0_isHere yX0_isHere ∈ TB := tb_mem 1 (by decide +kernel) (by decide +kernel)
theorem lc_X0_isHere : LC yX0_isHere cX0_isHere mX0_isHere 1 := ⟨tb_mem 69 (by decide +kernel) (by decide +kernel), tb_mem 265 (by decide +kernel) (by decide +kernel), by decide +kernel, by decide +kernel, by decide +kernel⟩
theorem ml_RX0_124 : Cond.methodLink RX0 124 yX0_goatsOn ∈ TB := tb_mem 273 (by decide +kernel) (by decide +kernel)
theorem mi_X0_goatsOn : Cond.instanceMethod yX0_goatsOn ∈ TB := tb_mem 259 (by decide +kernel) (by decide +kernel)
theorem mv_X0_goatsOn : Cond.selects yX0_goatsOn.cls yX0_goatsOn yX0_goatsOn ∈ TB := tb_mem 260 (by decide +kernel) (by decide +kernel)
theorem lc_X0_goatsOn : LC yX0_goatsOn cX0_goatsOn mX0_goatsOn 1 := ⟨tb_mem 69 (by decide +kernel) (by decide +kernel), tb_mem 261 (by decide +kernel) (by decide +kernel), by decide +kernel, by decide +kernel, by decide +kernel⟩
theorem ml_RX0_127 : Cond.methodLink RX0 127 yX0_pagesOf ∈ TB := tb_mem 274 (by decide +kernel) (by decide +kernel)
theorem mi_X0_pagesOf : Cond.instanceMethod yX0_pagesOf ∈ TB := tb_mem 275 (by decide +kernel) (by decide +kernel)
theorem mv_X0_pagesOf : Cond.selects yX0_pagesOf.cls yX0_pagesOf yX0_pagesOf ∈ TB := tb_mem 276 (by decide +kernel) (by decide +kernel)
theorem lc_X0_pagesOf : LC yX0_pagesOf cX0_pagesOf mX0_pagesOf 1 := ⟨tb_mem 69 (by decide +kernel) (by decide +kernel), tb_mem 277 (by decide +kernel) (by decide +kernel), by decide +kernel, by decide +kernel, by decide +kernel⟩
theorem ml_RX0_112 : Cond.methodLink RX0 112 yX0_withoutGreatest ∈ TB := tb_mem 405 (by decide +kernel) (by decide +kernel)
theorem ms_X0_withoutGreatest : Cond.static yX0_withoutGreatest ∈ TB := tb_mem 406 (by decide +kernel) (by decide +kernel)
theorem lc_X0_withoutGreatest : LC yX0_withoutGreatest cX0_withoutGreatest mX0_withoutGreatest 1 := ⟨tb_mem 69 (by decide +kernel) (by decide +kernel), tb_mem 407 (by decide +kernel) (by decide +kernel), by decide +kernel, by decide +kernel, by decide +kernel⟩
theorem ml_RX0_106 : Cond.methodLink RX0 106 yX0_pagesOn ∈ TB := tb_mem 403 (by decide +kernel) (by decide +kernel)
theorem mi_X0_pagesOn : Cond.instanceMethod yX0_pagesOn ∈ TB := tb_mem 270 (by decide +kernel) (by decide +kernel)
theorem mv_X0_pagesOn : Cond.selects yX0_pagesOn.cls yX0_pagesOn yX0_pagesOn ∈ TB := tb_mem 271 (by decide +kernel) (by decide +kernel)
theorem lc_X0_pagesOn : LC yX0_pagesOn cX0_pagesOn mX0_pagesOn 1 := ⟨tb_mem 69 (by decide +kernel) (by decide +kernel), tb_mem 272 (by decide +kernel) (by decide +kernel), by decide +kernel, by decide +kernel, by decide +kernel⟩
theorem ml_RX0_109 : Cond.methodLinkNest RX0 109 yX4_leastBit RX4 ∈ nestW := by simp [nestW]
theorem ms_X4_leastBit : Cond.static yX4_leastBit ∈ TB := tb_mem 362 (by decide +kernel) (by decide +kernel)
theorem lc_X4_leastBit : LC yX4_leastBit cX4_leastBit mX4_leastBit 1 := ⟨tb_mem 68 (by decide +kernel) (by decide +kernel), tb_mem 363 (by decide +kernel) (by decide +kernel), by decide +kernel, by decide +kernel, by decide +kernel⟩
theorem k_RX0_99 : Cond.constant RX0 99 (99999) ∈ TB := tb_mem 408 (by decide +kernel) (by decide +kernel)
theorem ml_RX0_96 : Cond.methodLink RX0 96 yX0_learnOrForget ∈ TB := tb_mem 399 (by decide +kernel) (by decide +kernel)
theorem mi_X0_learnOrForget : Cond.instanceMethod yX0_learnOrForget ∈ TB := tb_mem 401 (by decide +kernel) (by decide +kernel)
theorem mv_X0_learnOrForget : Cond.selects yX0_learnOrForget.cls yX0_learnOrForget yX0_learnOrForget ∈ TB := tb_mem 5 (by decide +kernel) (by decide +kernel)
theorem lc_X0_learnOrForget : LC yX0_learnOrForget cX0_learnOrForget mX0_learnOrForget 1 := ⟨tb_mem 69 (by decide +kernel) (by decide +kernel), tb_mem 402 (by decide +kernel) (by decide +kernel), by decide +kernel, by decide +kernel, by decide +kernel⟩
theorem ml_RX0_92 : Cond.methodLink RX0 92 yX0_climbAndGraze ∈ TB := tb_mem 393 (by decide +kernel) (by decide +kernel)
theorem mi_X0_climbAndGraze : Cond.instanceMethod yX0_climbAndGraze ∈ TB := tb_mem 395 (by decide +kernel) (by decide +kernel)
theorem mv_X0_climbAndGraze : Cond.selects yX0_climbAndGraze.cls yX0_climbAndGraze yX0_climbAndGraze ∈ TB := tb_mem 4 (by decide +kernel) (by decide +kernel)
theorem lc_X0_climbAndGraze : LC yX0_climbAndGraze cX0_climbAndGraze mX0_climbAndGraze 1 := ⟨tb_mem 69 (by decide +kernel) (by decide +kernel), tb_mem 396 (by decide +kernel) (by decide +kernel), by decide +kernel, by decide +kernel, by decide +kernel⟩
theorem ml_RX0_85 : Cond.methodLink RX0 85 yX0_passDay ∈ TB := tb_mem 389 (by decide +kernel) (by decide +kernel)
theorem mi_X0_passDay : Cond.instanceMethod yX0_passDay ∈ TB := tb_mem 390 (by decide +kernel) (by decide +kernel)
theorem mv_X0_passDay : Cond.selects yX0_passDay.cls yX0_passDay yX0_passDay ∈ TB := tb_mem 391 (by decide +kernel) (by decide +kernel)
theorem lc_X0_passDay : LC yX0_passDay cX0_passDay mX0_passDay 0 := ⟨tb_mem 69 (by decide +kernel) (by decide +kernel), tb_mem 392 (by decide +kernel) (by decide +kernel), by decide +kernel, by decide +kernel, by decide +kernel⟩
theorem k_RX0_123 : Cond.constant RX0 123 (1103515245) ∈ TB := tb_mem 553 (by decide +kernel) (by decide +kernel)
theorem ml_RX0_119 : Cond.methodLink RX0 119 yX0_draw ∈ TB := tb_mem 549 (by decide +kernel) (by decide +kernel)
theorem mi_X0_draw : Cond.instanceMethod yX0_draw ∈ TB := tb_mem 551 (by decide +kernel) (by decide +kernel)
theorem mv_X0_draw : Cond.selects yX0_draw.cls yX0_draw yX0_draw ∈ TB := tb_mem 12 (by decide +kernel) (by decide +kernel)
theorem lc_X0_draw : LC yX0_draw cX0_draw mX0_draw 0 := ⟨tb_mem 69 (by decide +kernel) (by decide +kernel), tb_mem 552 (by decide +kernel) (by decide +kernel), by decide +kernel, by decide +kernel, by decide +kernel⟩
theorem ml_RX0_130 : Cond.methodLink RX0 130 yX0_pagesKnown ∈ TB := tb_mem 469 (by decide +kernel) (by decide +kernel)
theorem mi_X0_pagesKnown : Cond.instanceMethod yX0_pagesKnown ∈ TB := tb_mem 410 (by decide +kernel) (by decide +kernel)
theorem mv_X0_pagesKnown : Cond.selects yX0_pagesKnown.cls yX0_pagesKnown yX0_pagesKnown ∈ TB := tb_mem 411 (by decide +kernel) (by decide +kernel)
theorem lc_X0_pagesKnown : LC yX0_pagesKnown cX0_pagesKnown mX0_pagesKnown 0 := ⟨tb_mem 69 (by decide +kernel) (by decide +kernel), tb_mem 412 (by decide +kernel) (by decide +kernel), by decide +kernel, by decide +kernel, by decide +kernel⟩
theorem ml_RX0_133 : Cond.methodLink RX0 133 yX0_quotes ∈ TB := tb_mem 375 (by decide +kernel) (by decide +kernel)
theorem mi_X0_quotes : Cond.instanceMethod yX0_quotes ∈ TB := tb_mem 335 (by decide +kernel) (by decide +kernel)
theorem mv_X0_quotes : Cond.selects yX0_quotes.cls yX0_quotes yX0_quotes ∈ TB := tb_mem 336 (by decide +kernel) (by decide +kernel)
theorem lc_X0_quotes : LC yX0_quotes cX0_quotes mX0_quotes 1 := ⟨tb_mem 69 (by decide +kernel) (by decide +kernel), tb_mem 337 (by decide +kernel) (by decide +kernel), by decide +kernel, by decide +kernel, by decide +kernel⟩
theorem ml_RX0_136 : Cond.methodLink RX0 136 yX0_costs ∈ TB := tb_mem 376 (by decide +kernel) (by decide +kernel)
theorem mi_X0_costs : Cond.instanceMethod yX0_costs ∈ TB := tb_mem 307 (by decide +kernel) (by decide +kernel)
theorem mv_X0_costs : Cond.selects yX0_costs.cls yX0_costs yX0_costs ∈ TB := tb_mem 308 (by decide +kernel) (by decide +kernel)
theorem lc_X0_costs : LC yX0_costs cX0_costs mX0_costs 1 := ⟨tb_mem 69 (by decide +kernel) (by decide +kernel), tb_mem 309 (by decide +kernel) (by decide +kernel), by decide +kernel, by decide +kernel, by decide +kernel⟩
theorem fl_RX2_13 : FL RX2 13 2 1 := ⟨RX2, TX2, 3, rfl, by decide, tb_mem 203 (by decide +kernel) (by decide +kernel), inX2⟩
theorem fl_RX2_9 : FL RX2 9 2 0 := ⟨RX2, TX2, 3, rfl, by decide, tb_mem 201 (by decide +kernel) (by decide +kernel), inX2⟩
theorem fl_RX2_17 : FL RX2 17 2 2 := ⟨RX2, TX2, 3, rfl, by decide, tb_mem 205 (by decide +kernel) (by decide +kernel), inX2⟩
theorem fp_2_2 : FP 2 2 .int := ⟨RX2, TX2, 3, tyX2, rfl, tyX2_ok, nmX2, rfl, by decide +kernel⟩
theorem fp_2_1 : FP 2 1 .int := ⟨RX2, TX2, 3, tyX2, rfl, tyX2_ok, nmX2, rfl, by decide +kernel⟩
theorem fl_RX3_9 : FL RX3 9 3 0 := ⟨RX3, TX3, 2, rfl, by decide, tb_mem 160 (by decide +kernel) (by decide +kernel), inX3⟩
theorem fl_RX3_13 : FL RX3 13 3 1 := ⟨RX3, TX3, 2, rfl, by decide, tb_mem 161 (by decide +kernel) (by decide +kernel), inX3⟩
theorem fp_3_1 : FP 3 1 .int := ⟨RX3, TX3, 2, tyX3, rfl, tyX3_ok, nmX3, rfl, by decide +kernel⟩
theorem fl_RX1_19 : FL RX1 19 1 4 := ⟨RX1, TX1, 6, rfl, by decide, tb_mem 179 (by decide +kernel) (by decide +kernel), inX1⟩
theorem fl_RX1_32 : FL RX1 32 1 3 := ⟨RX1, TX1, 6, rfl, by decide, tb_mem 178 (by decide +kernel) (by decide +kernel), inX1⟩
theorem fl_RX1_9 : FL RX1 9 1 0 := ⟨RX1, TX1, 6, rfl, by decide, tb_mem 175 (by decide +kernel) (by decide +kernel), inX1⟩
theorem fl_RX1_138 : FL RX1 138 3 1 := ⟨RX3, TX3, 2, rfl, by decide, tb_mem 162 (by decide +kernel) (by decide +kernel), inX3⟩
theorem fl_RX1_35 : FL RX1 35 1 2 := ⟨RX1, TX1, 6, rfl, by decide, tb_mem 177 (by decide +kernel) (by decide +kernel), inX1⟩
theorem ml_RX1_119 : Cond.methodLink RX1 119 yX3_byteAt ∈ TB := tb_mem 589 (by decide +kernel) (by decide +kernel)
theorem mi_X3_byteAt : Cond.instanceMethod yX3_byteAt ∈ TB := tb_mem 590 (by decide +kernel) (by decide +kernel)
theorem mv_X3_byteAt : Cond.selects yX3_byteAt.cls yX3_byteAt yX3_byteAt ∈ TB := tb_mem 591 (by decide +kernel) (by decide +kernel)
theorem lc_X3_byteAt : LC yX3_byteAt cX3_byteAt mX3_byteAt 1 := ⟨tb_mem 70 (by decide +kernel) (by decide +kernel), tb_mem 592 (by decide +kernel) (by decide +kernel), by decide +kernel, by decide +kernel, by decide +kernel⟩
theorem ml_RX1_140 : Cond.methodLink RX1 140 yX1_tokenBeginningWith ∈ TB := tb_mem 593 (by decide +kernel) (by decide +kernel)
theorem ms_X1_tokenBeginningWith : Cond.static yX1_tokenBeginningWith ∈ TB := tb_mem 594 (by decide +kernel) (by decide +kernel)
theorem lc_X1_tokenBeginningWith : LC yX1_tokenBeginningWith cX1_tokenBeginningWith mX1_tokenBeginningWith 1 := ⟨tb_mem 71 (by decide +kernel) (by decide +kernel), tb_mem 595 (by decide +kernel) (by decide +kernel), by decide +kernel, by decide +kernel, by decide +kernel⟩
theorem fp_1_4 : FP 1 4 .int := ⟨RX1, TX1, 6, tyX1, rfl, tyX1_ok, nmX1, rfl, by decide +kernel⟩
theorem fp_1_2 : FP 1 2 .int := ⟨RX1, TX1, 6, tyX1, rfl, tyX1_ok, nmX1, rfl, by decide +kernel⟩
theorem fp_1_3 : FP 1 3 .int := ⟨RX1, TX1, 6, tyX1, rfl, tyX1_ok, nmX1, rfl, by decide +kernel⟩
theorem ml_RX1_129 : Cond.methodLink RX1 129 yJ0_length_8abf5 ∈ TB := tb_mem 609 (by decide +kernel) (by decide +kernel)
theorem mi_J0_length_8abf5 : Cond.instanceMethod yJ0_length_8abf5 ∈ TB := tb_mem 610 (by decide +kernel) (by decide +kernel)
theorem mv_J0_length_8abf5 : Cond.selects yJ0_length_8abf5.cls yJ0_length_8abf5 yJ0_length_8abf5 ∈ TB := tb_mem 611 (by decide +kernel) (by decide +kernel)
theorem lc_J0_length_8abf5 : LC yJ0_length_8abf5 cJ0_length_8abf5 mJ0_length_8abf5 0 := ⟨tb_mem 77 (by decide +kernel) (by decide +kernel), tb_mem 612 (by decide +kernel) (by decide +kernel), by decide +kernel, by decide +kernel, by decide +kernel⟩
theorem ml_RX1_134 : Cond.methodLink RX1 134 yJ0_charAt_5068e ∈ TB := tb_mem 619 (by decide +kernel) (by decide +kernel)
theorem mi_J0_charAt_5068e : Cond.instanceMethod yJ0_charAt_5068e ∈ TB := tb_mem 620 (by decide +kernel) (by decide +kernel)
theorem mv_J0_charAt_5068e : Cond.selects yJ0_charAt_5068e.cls yJ0_charAt_5068e yJ0_charAt_5068e ∈ TB := tb_mem 621 (by decide +kernel) (by decide +kernel)
theorem lc_J0_charAt_5068e : LC yJ0_charAt_5068e cJ0_charAt_5068e mJ0_charAt_5068e 1 := ⟨tb_mem 77 (by decide +kernel) (by decide +kernel), tb_mem 622 (by decide +kernel) (by decide +kernel), by decide +kernel, by decide +kernel, by decide +kernel⟩
theorem ml_RX1_48 : Cond.methodLink RX1 48 yX1_isWord ∈ TB := tb_mem 605 (by decide +kernel) (by decide +kernel)
theorem mi_X1_isWord : Cond.instanceMethod yX1_isWord ∈ TB := tb_mem 607 (by decide +kernel) (by decide +kernel)
theorem mv_X1_isWord : Cond.selects yX1_isWord.cls yX1_isWord yX1_isWord ∈ TB := tb_mem 16 (by decide +kernel) (by decide +kernel)
theorem lc_X1_isWord : LC yX1_isWord cX1_isWord mX1_isWord 1 := ⟨tb_mem 71 (by decide +kernel) (by decide +kernel), tb_mem 608 (by decide +kernel) (by decide +kernel), by decide +kernel, by decide +kernel, by decide +kernel⟩
theorem k_RX1_123 : Cond.constant RX1 123 (100000) ∈ TB := tb_mem 682 (by decide +kernel) (by decide +kernel)
theorem ml_RX1_124 : Cond.methodLink RX1 124 Lib.Math.min.name ∈ TB := tb_mem 683 (by decide +kernel) (by decide +kernel)
theorem ml_RX1_116 : Cond.methodLink RX1 116 yX1_value ∈ TB := tb_mem 678 (by decide +kernel) (by decide +kernel)
theorem mi_X1_value : Cond.instanceMethod yX1_value ∈ TB := tb_mem 680 (by decide +kernel) (by decide +kernel)
theorem mv_X1_value : Cond.selects yX1_value.cls yX1_value yX1_value ∈ TB := tb_mem 20 (by decide +kernel) (by decide +kernel)
theorem lc_X1_value : LC yX1_value cX1_value mX1_value 0 := ⟨tb_mem 71 (by decide +kernel) (by decide +kernel), tb_mem 681 (by decide +kernel) (by decide +kernel), by decide +kernel, by decide +kernel, by decide +kernel⟩
theorem fl_RX1_102 : FL RX1 102 1 5 := ⟨RX1, TX1, 6, rfl, by decide, tb_mem 180 (by decide +kernel) (by decide +kernel), inX1⟩
theorem fp_1_5 : FP 1 5 .int := ⟨RX1, TX1, 6, tyX1, rfl, tyX1_ok, nmX1, rfl, by decide +kernel⟩
theorem ml_RX1_23 : Cond.methodLink RX1 23 yX1_stepOn ∈ TB := tb_mem 585 (by decide +kernel) (by decide +kernel)
theorem mi_X1_stepOn : Cond.instanceMethod yX1_stepOn ∈ TB := tb_mem 587 (by decide +kernel) (by decide +kernel)
theorem mv_X1_stepOn : Cond.selects yX1_stepOn.cls yX1_stepOn yX1_stepOn ∈ TB := tb_mem 13 (by decide +kernel) (by decide +kernel)
theorem lc_X1_stepOn : LC yX1_stepOn cX1_stepOn mX1_stepOn 0 := ⟨tb_mem 71 (by decide +kernel) (by decide +kernel), tb_mem 588 (by decide +kernel) (by decide +kernel), by decide +kernel, by decide +kernel, by decide +kernel⟩
theorem fl_RX1_15 : FL RX1 15 1 1 := ⟨RX1, TX1, 6, rfl, by decide, tb_mem 176 (by decide +kernel) (by decide +kernel), inX1⟩
theorem ml_RX1_99 : Cond.methodLink RX1 99 yX1_takeNumber ∈ TB := tb_mem 674 (by decide +kernel) (by decide +kernel)
theorem mi_X1_takeNumber : Cond.instanceMethod yX1_takeNumber ∈ TB := tb_mem 676 (by decide +kernel) (by decide +kernel)
theorem mv_X1_takeNumber : Cond.selects yX1_takeNumber.cls yX1_takeNumber yX1_takeNumber ∈ TB := tb_mem 19 (by decide +kernel) (by decide +kernel)
theorem lc_X1_takeNumber : LC yX1_takeNumber cX1_takeNumber mX1_takeNumber 1 := ⟨tb_mem 71 (by decide +kernel) (by decide +kernel), tb_mem 677 (by decide +kernel) (by decide +kernel), by decide +kernel, by decide +kernel, by decide +kernel⟩
theorem ml_RX1_105 : Cond.methodLink RX1 105 yX0_setTrait ∈ TB := tb_mem 684 (by decide +kernel) (by decide +kernel)
theorem mi_X0_setTrait : Cond.instanceMethod yX0_setTrait ∈ TB := tb_mem 354 (by decide +kernel) (by decide +kernel)
theorem mv_X0_setTrait : Cond.selects yX0_setTrait.cls yX0_setTrait yX0_setTrait ∈ TB := tb_mem 355 (by decide +kernel) (by decide +kernel)
theorem lc_X0_setTrait : LC yX0_setTrait cX0_setTrait mX0_setTrait 3 := ⟨tb_mem 69 (by decide +kernel) (by decide +kernel), tb_mem 356 (by decide +kernel) (by decide +kernel), by decide +kernel, by decide +kernel, by decide +kernel⟩
theorem ml_RX1_81 : Cond.methodLink RX1 81 yX0_isFull ∈ TB := tb_mem 667 (by decide +kernel) (by decide +kernel)
theorem mi_X0_isFull : Cond.instanceMethod yX0_isFull ∈ TB := tb_mem 290 (by decide +kernel) (by decide +kernel)
theorem mv_X0_isFull : Cond.selects yX0_isFull.cls yX0_isFull yX0_isFull ∈ TB := tb_mem 291 (by decide +kernel) (by decide +kernel)
theorem lc_X0_isFull : LC yX0_isFull cX0_isFull mX0_isFull 0 := ⟨tb_mem 69 (by decide +kernel) (by decide +kernel), tb_mem 292 (by decide +kernel) (by decide +kernel), by decide +kernel, by decide +kernel, by decide +kernel⟩
theorem ml_RX1_84 : Cond.methodLink RX1 84 yX0_addGoat ∈ TB := tb_mem 668 (by decide +kernel) (by decide +kernel)
theorem mi_X0_addGoat : Cond.instanceMethod yX0_addGoat ∈ TB := tb_mem 295 (by decide +kernel) (by decide +kernel)
theorem mv_X0_addGoat : Cond.selects yX0_addGoat.cls yX0_addGoat yX0_addGoat ∈ TB := tb_mem 296 (by decide +kernel) (by decide +kernel)
theorem lc_X0_addGoat : LC yX0_addGoat cX0_addGoat mX0_addGoat 2 := ⟨tb_mem 69 (by decide +kernel) (by decide +kernel), tb_mem 297 (by decide +kernel) (by decide +kernel), by decide +kernel, by decide +kernel, by decide +kernel⟩
theorem ml_RX1_90 : Cond.methodLink RX1 90 yX1_readTrait ∈ TB := tb_mem 670 (by decide +kernel) (by decide +kernel)
theorem mi_X1_readTrait : Cond.instanceMethod yX1_readTrait ∈ TB := tb_mem 672 (by decide +kernel) (by decide +kernel)
theorem mv_X1_readTrait : Cond.selects yX1_readTrait.cls yX1_readTrait yX1_readTrait ∈ TB := tb_mem 18 (by decide +kernel) (by decide +kernel)
theorem lc_X1_readTrait : LC yX1_readTrait cX1_readTrait mX1_readTrait 4 := ⟨tb_mem 71 (by decide +kernel) (by decide +kernel), tb_mem 673 (by decide +kernel) (by decide +kernel), by decide +kernel, by decide +kernel, by decide +kernel⟩
theorem k_RX1_96 : Cond.constant RX1 96 (65535) ∈ TB := tb_mem 686 (by decide +kernel) (by decide +kernel)
theorem fl_RX1_109 : FL RX1 109 0 0 := ⟨RX0, TX0, 14, rfl, by decide, tb_mem 97 (by decide +kernel) (by decide +kernel), inX0⟩
theorem fl_RX1_112 : FL RX1 112 0 10 := ⟨RX0, TX0, 14, rfl, by decide, tb_mem 116 (by decide +kernel) (by decide +kernel), inX0⟩
theorem fl_RX1_114 : FL RX1 114 0 11 := ⟨RX0, TX0, 14, rfl, by decide, tb_mem 119 (by decide +kernel) (by decide +kernel), inX0⟩
theorem ml_RX1_38 : Cond.methodLink RX1 38 yX1_kindTold ∈ TB := tb_mem 600 (by decide +kernel) (by decide +kernel)
theorem mi_X1_kindTold : Cond.instanceMethod yX1_kindTold ∈ TB := tb_mem 602 (by decide +kernel) (by decide +kernel)
theorem mv_X1_kindTold : Cond.selects yX1_kindTold.cls yX1_kindTold yX1_kindTold ∈ TB := tb_mem 15 (by decide +kernel) (by decide +kernel)
theorem lc_X1_kindTold : LC yX1_kindTold cX1_kindTold mX1_kindTold 0 := ⟨tb_mem 71 (by decide +kernel) (by decide +kernel), tb_mem 603 (by decide +kernel) (by decide +kernel), by decide +kernel, by decide +kernel, by decide +kernel⟩
theorem ml_RX1_62 : Cond.methodLink RX1 62 yX1_readSalt ∈ TB := tb_mem 699 (by decide +kernel) (by decide +kernel)
theorem mi_X1_readSalt : Cond.instanceMethod yX1_readSalt ∈ TB := tb_mem 701 (by decide +kernel) (by decide +kernel)
theorem mv_X1_readSalt : Cond.selects yX1_readSalt.cls yX1_readSalt yX1_readSalt ∈ TB := tb_mem 23 (by decide +kernel) (by decide +kernel)
theorem lc_X1_readSalt : LC yX1_readSalt cX1_readSalt mX1_readSalt 0 := ⟨tb_mem 71 (by decide +kernel) (by decide +kernel), tb_mem 702 (by decide +kernel) (by decide +kernel), by decide +kernel, by decide +kernel, by decide +kernel⟩
theorem ml_RX1_57 : Cond.methodLink RX1 57 yX1_readGrows ∈ TB := tb_mem 694 (by decide +kernel) (by decide +kernel)
theorem mi_X1_readGrows : Cond.instanceMethod yX1_readGrows ∈ TB := tb_mem 696 (by decide +kernel) (by decide +kernel)
theorem mv_X1_readGrows : Cond.selects yX1_readGrows.cls yX1_readGrows yX1_readGrows ∈ TB := tb_mem 22 (by decide +kernel) (by decide +kernel)
theorem lc_X1_readGrows : LC yX1_readGrows cX1_readGrows mX1_readGrows 0 := ⟨tb_mem 71 (by decide +kernel) (by decide +kernel), tb_mem 697 (by decide +kernel) (by decide +kernel), by decide +kernel, by decide +kernel, by decide +kernel⟩
theorem ml_RX1_52 : Cond.methodLink RX1 52 yX1_readGrass ∈ TB := tb_mem 689 (by decide +kernel) (by decide +kernel)
theorem mi_X1_readGrass : Cond.instanceMethod yX1_readGrass ∈ TB := tb_mem 691 (by decide +kernel) (by decide +kernel)
theorem mv_X1_readGrass : Cond.selects yX1_readGrass.cls yX1_readGrass yX1_readGrass ∈ TB := tb_mem 21 (by decide +kernel) (by decide +kernel)
theorem lc_X1_readGrass : LC yX1_readGrass cX1_readGrass mX1_readGrass 0 := ⟨tb_mem 71 (by decide +kernel) (by decide +kernel), tb_mem 692 (by decide +kernel) (by decide +kernel), by decide +kernel, by decide +kernel, by decide +kernel⟩
theorem ml_RX1_42 : Cond.methodLink RX1 42 yX1_readGoat ∈ TB := tb_mem 663 (by decide +kernel) (by decide +kernel)
theorem mi_X1_readGoat : Cond.instanceMethod yX1_readGoat ∈ TB := tb_mem 665 (by decide +kernel) (by decide +kernel)
theorem mv_X1_readGoat : Cond.selects yX1_readGoat.cls yX1_readGoat yX1_readGoat ∈ TB := tb_mem 17 (by decide +kernel) (by decide +kernel)
theorem lc_X1_readGoat : LC yX1_readGoat cX1_readGoat mX1_readGoat 1 := ⟨tb_mem 71 (by decide +kernel) (by decide +kernel), tb_mem 666 (by decide +kernel) (by decide +kernel), by decide +kernel, by decide +kernel, by decide +kernel⟩
theorem ml_RX1_28 : Cond.methodLink RX1 28 yX1_readItem ∈ TB := tb_mem 596 (by decide +kernel) (by decide +kernel)
theorem mi_X1_readItem : Cond.instanceMethod yX1_readItem ∈ TB := tb_mem 598 (by decide +kernel) (by decide +kernel)
theorem mv_X1_readItem : Cond.selects yX1_readItem.cls yX1_readItem yX1_readItem ∈ TB := tb_mem 14 (by decide +kernel) (by decide +kernel)
theorem lc_X1_readItem : LC yX1_readItem cX1_readItem mX1_readItem 0 := ⟨tb_mem 71 (by decide +kernel) (by decide +kernel), tb_mem 599 (by decide +kernel) (by decide +kernel), by decide +kernel, by decide +kernel, by decide +kernel⟩
theorem fl_RX4_49 : FL RX4 49 4 7 := ⟨RX4, TX4, 8, rfl, by decide, tb_mem 221 (by decide +kernel) (by decide +kernel), inX4⟩
theorem k_RX4_61 : Cond.constant RX4 61 (-1000001) ∈ TB := tb_mem 249 (by decide +kernel) (by decide +kernel)
theorem fl_RX4_12 : FL RX4 12 4 0 := ⟨RX4, TX4, 8, rfl, by decide, tb_mem 214 (by decide +kernel) (by decide +kernel), inX4⟩
theorem fl_RX4_66 : FL RX4 66 0 0 := ⟨RX0, TX0, 14, rfl, by decide, tb_mem 96 (by decide +kernel) (by decide +kernel), inX0⟩
theorem ml_RX4_62 : Cond.methodLink RX4 62 yX4_found ∈ TB := tb_mem 250 (by decide +kernel) (by decide +kernel)
theorem mi_X4_found : Cond.instanceMethod yX4_found ∈ TB := tb_mem 252 (by decide +kernel) (by decide +kernel)
theorem mv_X4_found : Cond.selects yX4_found.cls yX4_found yX4_found ∈ TB := tb_mem 0 (by decide +kernel) (by decide +kernel)
theorem lc_X4_found : LC yX4_found cX4_found mX4_found 1 := ⟨tb_mem 68 (by decide +kernel) (by decide +kernel), tb_mem 253 (by decide +kernel) (by decide +kernel), by decide +kernel, by decide +kernel, by decide +kernel⟩
theorem ml_RX4_53 : Cond.methodLink RX4 53 yX4_isLedge ∈ TB := tb_mem 243 (by decide +kernel) (by decide +kernel)
theorem ms_X4_isLedge : Cond.static yX4_isLedge ∈ TB := tb_mem 244 (by decide +kernel) (by decide +kernel)
theorem lc_X4_isLedge : LC yX4_isLedge cX4_isLedge mX4_isLedge 1 := ⟨tb_mem 68 (by decide +kernel) (by decide +kernel), tb_mem 245 (by decide +kernel) (by decide +kernel), by decide +kernel, by decide +kernel, by decide +kernel⟩
theorem ml_RX4_57 : Cond.methodLink RX4 57 yX4_isWithin ∈ TB := tb_mem 246 (by decide +kernel) (by decide +kernel)
theorem ms_X4_isWithin : Cond.static yX4_isWithin ∈ TB := tb_mem 247 (by decide +kernel) (by decide +kernel)
theorem lc_X4_isWithin : LC yX4_isWithin cX4_isWithin mX4_isWithin 2 := ⟨tb_mem 68 (by decide +kernel) (by decide +kernel), tb_mem 248 (by decide +kernel) (by decide +kernel), by decide +kernel, by decide +kernel, by decide +kernel⟩
theorem ml_RX4_69 : Cond.methodLink RX4 69 yX0_goatsOn ∈ TB := tb_mem 258 (by decide +kernel) (by decide +kernel)
theorem ml_RX4_72 : Cond.methodLink RX4 72 yX0_pagesOn ∈ TB := tb_mem 269 (by decide +kernel) (by decide +kernel)
theorem fl_RX4_75 : FL RX4 75 0 10 := ⟨RX0, TX0, 14, rfl, by decide, tb_mem 115 (by decide +kernel) (by decide +kernel), inX0⟩
theorem fl_RX4_79 : FL RX4 79 0 11 := ⟨RX0, TX0, 14, rfl, by decide, tb_mem 118 (by decide +kernel) (by decide +kernel), inX0⟩
theorem ml_RX4_82 : Cond.methodLink RX4 82 yX4_isKind ∈ TB := tb_mem 286 (by decide +kernel) (by decide +kernel)
theorem ms_X4_isKind : Cond.static yX4_isKind ∈ TB := tb_mem 287 (by decide +kernel) (by decide +kernel)
theorem lc_X4_isKind : LC yX4_isKind cX4_isKind mX4_isKind 1 := ⟨tb_mem 68 (by decide +kernel) (by decide +kernel), tb_mem 288 (by decide +kernel) (by decide +kernel), by decide +kernel, by decide +kernel, by decide +kernel⟩
theorem ml_RX4_85 : Cond.methodLink RX4 85 yX0_isFull ∈ TB := tb_mem 289 (by decide +kernel) (by decide +kernel)
theorem ml_RX4_90 : Cond.methodLink RX4 90 yX0_addGoat ∈ TB := tb_mem 294 (by decide +kernel) (by decide +kernel)
theorem k_RX4_89 : Cond.constant RX4 89 (-1000002) ∈ TB := tb_mem 293 (by decide +kernel) (by decide +kernel)
theorem fl_RX4_187 : FL RX4 187 0 8 := ⟨RX0, TX0, 14, rfl, by decide, tb_mem 111 (by decide +kernel) (by decide +kernel), inX0⟩
theorem ml_RX4_94 : Cond.methodLink RX4 94 yX4_isGoat ∈ TB := tb_mem 302 (by decide +kernel) (by decide +kernel)
theorem mi_X4_isGoat : Cond.instanceMethod yX4_isGoat ∈ TB := tb_mem 304 (by decide +kernel) (by decide +kernel)
theorem mv_X4_isGoat : Cond.selects yX4_isGoat.cls yX4_isGoat yX4_isGoat ∈ TB := tb_mem 2 (by decide +kernel) (by decide +kernel)
theorem lc_X4_isGoat : LC yX4_isGoat cX4_isGoat mX4_isGoat 1 := ⟨tb_mem 68 (by decide +kernel) (by decide +kernel), tb_mem 305 (by decide +kernel) (by decide +kernel), by decide +kernel, by decide +kernel, by decide +kernel⟩
theorem ml_RX4_97 : Cond.methodLink RX4 97 yX0_costs ∈ TB := tb_mem 306 (by decide +kernel) (by decide +kernel)
theorem ml_RX4_100 : Cond.methodLink RX4 100 yX0_grazes ∈ TB := tb_mem 316 (by decide +kernel) (by decide +kernel)
theorem ml_RX4_103 : Cond.methodLink RX4 103 yX0_climbsTo ∈ TB := tb_mem 320 (by decide +kernel) (by decide +kernel)
theorem ml_RX4_106 : Cond.methodLink RX4 106 yX0_quotes ∈ TB := tb_mem 334 (by decide +kernel) (by decide +kernel)
theorem ml_RX4_109 : Cond.methodLink RX4 109 yX0_trait ∈ TB := tb_mem 341 (by decide +kernel) (by decide +kernel)
theorem mi_X0_trait : Cond.instanceMethod yX0_trait ∈ TB := tb_mem 342 (by decide +kernel) (by decide +kernel)
theorem mv_X0_trait : Cond.selects yX0_trait.cls yX0_trait yX0_trait ∈ TB := tb_mem 343 (by decide +kernel) (by decide +kernel)
theorem lc_X0_trait : LC yX0_trait cX0_trait mX0_trait 2 := ⟨tb_mem 69 (by decide +kernel) (by decide +kernel), tb_mem 344 (by decide +kernel) (by decide +kernel), by decide +kernel, by decide +kernel, by decide +kernel⟩
theorem k_RX4_156 : Cond.constant RX4 156 (65535) ∈ TB := tb_mem 352 (by decide +kernel) (by decide +kernel)
theorem ml_RX4_112 : Cond.methodLink RX4 112 yX4_isTraitValue ∈ TB := tb_mem 349 (by decide +kernel) (by decide +kernel)
theorem ms_X4_isTraitValue : Cond.static yX4_isTraitValue ∈ TB := tb_mem 350 (by decide +kernel) (by decide +kernel)
theorem lc_X4_isTraitValue : LC yX4_isTraitValue cX4_isTraitValue mX4_isTraitValue 2 := ⟨tb_mem 68 (by decide +kernel) (by decide +kernel), tb_mem 351 (by decide +kernel) (by decide +kernel), by decide +kernel, by decide +kernel, by decide +kernel⟩
theorem ml_RX4_115 : Cond.methodLink RX4 115 yX0_setTrait ∈ TB := tb_mem 353 (by decide +kernel) (by decide +kernel)
theorem fl_RX4_119 : FL RX4 119 0 3 := ⟨RX0, TX0, 14, rfl, by decide, tb_mem 103 (by decide +kernel) (by decide +kernel), inX0⟩
theorem fl_RX4_122 : FL RX4 122 0 2 := ⟨RX0, TX0, 14, rfl, by decide, tb_mem 101 (by decide +kernel) (by decide +kernel), inX0⟩
theorem ml_RX4_125 : Cond.methodLink RX4 125 yX4_leastBit ∈ TB := tb_mem 361 (by decide +kernel) (by decide +kernel)
theorem fl_RX4_136 : FL RX4 136 0 6 := ⟨RX0, TX0, 14, rfl, by decide, tb_mem 107 (by decide +kernel) (by decide +kernel), inX0⟩
theorem ml_RX4_128 : Cond.methodLink RX4 128 yX4_isPage ∈ TB := tb_mem 368 (by decide +kernel) (by decide +kernel)
theorem ms_X4_isPage : Cond.static yX4_isPage ∈ TB := tb_mem 369 (by decide +kernel) (by decide +kernel)
theorem lc_X4_isPage : LC yX4_isPage cX4_isPage mX4_isPage 1 := ⟨tb_mem 68 (by decide +kernel) (by decide +kernel), tb_mem 370 (by decide +kernel) (by decide +kernel), by decide +kernel, by decide +kernel, by decide +kernel⟩
theorem ml_RX4_131 : Cond.methodLink RX4 131 yX0_cheapestQuoting ∈ TB := tb_mem 371 (by decide +kernel) (by decide +kernel)
theorem mi_X0_cheapestQuoting : Cond.instanceMethod yX0_cheapestQuoting ∈ TB := tb_mem 372 (by decide +kernel) (by decide +kernel)
theorem mv_X0_cheapestQuoting : Cond.selects yX0_cheapestQuoting.cls yX0_cheapestQuoting yX0_cheapestQuoting ∈ TB := tb_mem 373 (by decide +kernel) (by decide +kernel)
theorem lc_X0_cheapestQuoting : LC yX0_cheapestQuoting cX0_cheapestQuoting mX0_cheapestQuoting 1 := ⟨tb_mem 69 (by decide +kernel) (by decide +kernel), tb_mem 374 (by decide +kernel) (by decide +kernel), by decide +kernel, by decide +kernel, by decide +kernel⟩
theorem ml_RX4_139 : Cond.methodLink RX4 139 Lib.Math.min.name ∈ TB := tb_mem 379 (by decide +kernel) (by decide +kernel)
theorem k_RX4_135 : Cond.constant RX4 135 (-1000005) ∈ TB := tb_mem 378 (by decide +kernel) (by decide +kernel)
theorem k_RX4_134 : Cond.constant RX4 134 (-1000004) ∈ TB := tb_mem 377 (by decide +kernel) (by decide +kernel)
theorem fl_RX4_144 : FL RX4 144 0 12 := ⟨RX0, TX0, 14, rfl, by decide, tb_mem 121 (by decide +kernel) (by decide +kernel), inX0⟩
theorem k_RX4_147 : Cond.constant RX4 147 (99999) ∈ TB := tb_mem 384 (by decide +kernel) (by decide +kernel)
theorem ml_RX4_148 : Cond.methodLink RX4 148 yX0_passDays ∈ TB := tb_mem 385 (by decide +kernel) (by decide +kernel)
theorem mi_X0_passDays : Cond.instanceMethod yX0_passDays ∈ TB := tb_mem 386 (by decide +kernel) (by decide +kernel)
theorem mv_X0_passDays : Cond.selects yX0_passDays.cls yX0_passDays yX0_passDays ∈ TB := tb_mem 387 (by decide +kernel) (by decide +kernel)
theorem lc_X0_passDays : LC yX0_passDays cX0_passDays mX0_passDays 1 := ⟨tb_mem 69 (by decide +kernel) (by decide +kernel), tb_mem 388 (by decide +kernel) (by decide +kernel), by decide +kernel, by decide +kernel, by decide +kernel⟩
theorem ml_RX4_152 : Cond.methodLink RX4 152 yX0_pagesKnown ∈ TB := tb_mem 409 (by decide +kernel) (by decide +kernel)
theorem ml_RX4_157 : Cond.methodLink RX4 157 yX0_grassInAll ∈ TB := tb_mem 417 (by decide +kernel) (by decide +kernel)
theorem mi_X0_grassInAll : Cond.instanceMethod yX0_grassInAll ∈ TB := tb_mem 418 (by decide +kernel) (by decide +kernel)
theorem mv_X0_grassInAll : Cond.selects yX0_grassInAll.cls yX0_grassInAll yX0_grassInAll ∈ TB := tb_mem 419 (by decide +kernel) (by decide +kernel)
theorem lc_X0_grassInAll : LC yX0_grassInAll cX0_grassInAll mX0_grassInAll 0 := ⟨tb_mem 69 (by decide +kernel) (by decide +kernel), tb_mem 420 (by decide +kernel) (by decide +kernel), by decide +kernel, by decide +kernel, by decide +kernel⟩
theorem ml_RX4_160 : Cond.methodLink RX4 160 yX0_fedInAll ∈ TB := tb_mem 421 (by decide +kernel) (by decide +kernel)
theorem mi_X0_fedInAll : Cond.instanceMethod yX0_fedInAll ∈ TB := tb_mem 422 (by decide +kernel) (by decide +kernel)
theorem mv_X0_fedInAll : Cond.selects yX0_fedInAll.cls yX0_fedInAll yX0_fedInAll ∈ TB := tb_mem 423 (by decide +kernel) (by decide +kernel)
theorem lc_X0_fedInAll : LC yX0_fedInAll cX0_fedInAll mX0_fedInAll 0 := ⟨tb_mem 69 (by decide +kernel) (by decide +kernel), tb_mem 424 (by decide +kernel) (by decide +kernel), by decide +kernel, by decide +kernel, by decide +kernel⟩
theorem ml_RX4_163 : Cond.methodLink RX4 163 yX0_ledgesWithGoats ∈ TB := tb_mem 425 (by decide +kernel) (by decide +kernel)
theorem mi_X0_ledgesWithGoats : Cond.instanceMethod yX0_ledgesWithGoats ∈ TB := tb_mem 426 (by decide +kernel) (by decide +kernel)
theorem mv_X0_ledgesWithGoats : Cond.selects yX0_ledgesWithGoats.cls yX0_ledgesWithGoats yX0_ledgesWithGoats ∈ TB := tb_mem 427 (by decide +kernel) (by decide +kernel)
theorem lc_X0_ledgesWithGoats : LC yX0_ledgesWithGoats cX0_ledgesWithGoats mX0_ledgesWithGoats 0 := ⟨tb_mem 69 (by decide +kernel) (by decide +kernel), tb_mem 428 (by decide +kernel) (by decide +kernel), by decide +kernel, by decide +kernel, by decide +kernel⟩
theorem ml_RX4_166 : Cond.methodLink RX4 166 yX0_wisest ∈ TB := tb_mem 429 (by decide +kernel) (by decide +kernel)
theorem mi_X0_wisest : Cond.instanceMethod yX0_wisest ∈ TB := tb_mem 430 (by decide +kernel) (by decide +kernel)
theorem mv_X0_wisest : Cond.selects yX0_wisest.cls yX0_wisest yX0_wisest ∈ TB := tb_mem 431 (by decide +kernel) (by decide +kernel)
theorem lc_X0_wisest : LC yX0_wisest cX0_wisest mX0_wisest 0 := ⟨tb_mem 69 (by decide +kernel) (by decide +kernel), tb_mem 432 (by decide +kernel) (by decide +kernel), by decide +kernel, by decide +kernel, by decide +kernel⟩
theorem ml_RX4_169 : Cond.methodLink RX4 169 yX0_goatsKnowing ∈ TB := tb_mem 437 (by decide +kernel) (by decide +kernel)
theorem mi_X0_goatsKnowing : Cond.instanceMethod yX0_goatsKnowing ∈ TB := tb_mem 438 (by decide +kernel) (by decide +kernel)
theorem mv_X0_goatsKnowing : Cond.selects yX0_goatsKnowing.cls yX0_goatsKnowing yX0_goatsKnowing ∈ TB := tb_mem 439 (by decide +kernel) (by decide +kernel)
theorem lc_X0_goatsKnowing : LC yX0_goatsKnowing cX0_goatsKnowing mX0_goatsKnowing 1 := ⟨tb_mem 69 (by decide +kernel) (by decide +kernel), tb_mem 440 (by decide +kernel) (by decide +kernel), by decide +kernel, by decide +kernel, by decide +kernel⟩
theorem fl_RX4_16 : FL RX4 16 4 1 := ⟨RX4, TX4, 8, rfl, by decide, tb_mem 215 (by decide +kernel) (by decide +kernel), inX4⟩
theorem ml_RX4_172 : Cond.methodLink RX4 172 yX0_become ∈ TB := tb_mem 445 (by decide +kernel) (by decide +kernel)
theorem mi_X0_become : Cond.instanceMethod yX0_become ∈ TB := tb_mem 446 (by decide +kernel) (by decide +kernel)
theorem mv_X0_become : Cond.selects yX0_become.cls yX0_become yX0_become ∈ TB := tb_mem 447 (by decide +kernel) (by decide +kernel)
theorem lc_X0_become : LC yX0_become cX0_become mX0_become 1 := ⟨tb_mem 69 (by decide +kernel) (by decide +kernel), tb_mem 448 (by decide +kernel) (by decide +kernel), by decide +kernel, by decide +kernel, by decide +kernel⟩
theorem ml_RX4_198 : Cond.methodLink RX4 198 yX4_hasBit ∈ TB := tb_mem 464 (by decide +kernel) (by decide +kernel)
theorem ml_RX4_184 : Cond.methodLink RX4 184 yX0_isInPrint ∈ TB := tb_mem 465 (by decide +kernel) (by decide +kernel)
theorem mi_X0_isInPrint : Cond.instanceMethod yX0_isInPrint ∈ TB := tb_mem 466 (by decide +kernel) (by decide +kernel)
theorem mv_X0_isInPrint : Cond.selects yX0_isInPrint.cls yX0_isInPrint yX0_isInPrint ∈ TB := tb_mem 467 (by decide +kernel) (by decide +kernel)
theorem lc_X0_isInPrint : LC yX0_isInPrint cX0_isInPrint mX0_isInPrint 1 := ⟨tb_mem 69 (by decide +kernel) (by decide +kernel), tb_mem 468 (by decide +kernel) (by decide +kernel), by decide +kernel, by decide +kernel, by decide +kernel⟩
theorem ml_RX4_278 : Cond.methodLink RX4 278 yX4_hasCome ∈ TB := tb_mem 460 (by decide +kernel) (by decide +kernel)
theorem mi_X4_hasCome : Cond.instanceMethod yX4_hasCome ∈ TB := tb_mem 462 (by decide +kernel) (by decide +kernel)
theorem mv_X4_hasCome : Cond.selects yX4_hasCome.cls yX4_hasCome yX4_hasCome ∈ TB := tb_mem 7 (by decide +kernel) (by decide +kernel)
theorem lc_X4_hasCome : LC yX4_hasCome cX4_hasCome mX4_hasCome 3 := ⟨tb_mem 68 (by decide +kernel) (by decide +kernel), tb_mem 463 (by decide +kernel) (by decide +kernel), by decide +kernel, by decide +kernel, by decide +kernel⟩
theorem ml_RX4_212 : Cond.methodLink RX4 212 yX0_passDay ∈ TB := tb_mem 470 (by decide +kernel) (by decide +kernel)
theorem ml_RX4_176 : Cond.methodLink RX4 176 yX4_daysUntil ∈ TB := tb_mem 456 (by decide +kernel) (by decide +kernel)
theorem mi_X4_daysUntil : Cond.instanceMethod yX4_daysUntil ∈ TB := tb_mem 458 (by decide +kernel) (by decide +kernel)
theorem mv_X4_daysUntil : Cond.selects yX4_daysUntil.cls yX4_daysUntil yX4_daysUntil ∈ TB := tb_mem 6 (by decide +kernel) (by decide +kernel)
theorem lc_X4_daysUntil : LC yX4_daysUntil cX4_daysUntil mX4_daysUntil 3 := ⟨tb_mem 68 (by decide +kernel) (by decide +kernel), tb_mem 459 (by decide +kernel) (by decide +kernel), by decide +kernel, by decide +kernel, by decide +kernel⟩
theorem ml_RX4_190 : Cond.methodLink RX4 190 yJ6_bitCount_0f7a4 ∈ TB := tb_mem 491 (by decide +kernel) (by decide +kernel)
theorem ml_RX4_180 : Cond.methodLink RX4 180 yX4_bestTrait ∈ TB := tb_mem 487 (by decide +kernel) (by decide +kernel)
theorem mi_X4_bestTrait : Cond.instanceMethod yX4_bestTrait ∈ TB := tb_mem 489 (by decide +kernel) (by decide +kernel)
theorem mv_X4_bestTrait : Cond.selects yX4_bestTrait.cls yX4_bestTrait yX4_bestTrait ∈ TB := tb_mem 8 (by decide +kernel) (by decide +kernel)
theorem lc_X4_bestTrait : LC yX4_bestTrait cX4_bestTrait mX4_bestTrait 4 := ⟨tb_mem 68 (by decide +kernel) (by decide +kernel), tb_mem 490 (by decide +kernel) (by decide +kernel), by decide +kernel, by decide +kernel, by decide +kernel⟩
theorem ml_RX4_195 : Cond.methodLink RX4 195 yX0_pagesOf ∈ TB := tb_mem 504 (by decide +kernel) (by decide +kernel)
theorem fl_RX4_281 : FL RX4 281 0 9 := ⟨RX0, TX0, 14, rfl, by decide, tb_mem 113 (by decide +kernel) (by decide +kernel), inX0⟩
theorem ml_RX4_201 : Cond.methodLink RX4 201 yX4_isLostWithout ∈ TB := tb_mem 513 (by decide +kernel) (by decide +kernel)
theorem mi_X4_isLostWithout : Cond.instanceMethod yX4_isLostWithout ∈ TB := tb_mem 515 (by decide +kernel) (by decide +kernel)
theorem mv_X4_isLostWithout : Cond.selects yX4_isLostWithout.cls yX4_isLostWithout yX4_isLostWithout ∈ TB := tb_mem 9 (by decide +kernel) (by decide +kernel)
theorem lc_X4_isLostWithout : LC yX4_isLostWithout cX4_isLostWithout mX4_isLostWithout 3 := ⟨tb_mem 68 (by decide +kernel) (by decide +kernel), tb_mem 516 (by decide +kernel) (by decide +kernel), by decide +kernel, by decide +kernel, by decide +kernel⟩
theorem fl_RX4_253 : FL RX4 253 2 2 := ⟨RX2, TX2, 3, rfl, by decide, tb_mem 206 (by decide +kernel) (by decide +kernel), inX2⟩
theorem fl_RX4_257 : FL RX4 257 2 0 := ⟨RX2, TX2, 3, rfl, by decide, tb_mem 202 (by decide +kernel) (by decide +kernel), inX2⟩
theorem fl_RX4_44 : FL RX4 44 4 6 := ⟨RX4, TX4, 8, rfl, by decide, tb_mem 220 (by decide +kernel) (by decide +kernel), inX4⟩
theorem ml_RX4_284 : Cond.methodLink RX4 284 yX4_comesAsTold ∈ TB := tb_mem 533 (by decide +kernel) (by decide +kernel)
theorem mi_X4_comesAsTold : Cond.instanceMethod yX4_comesAsTold ∈ TB := tb_mem 535 (by decide +kernel) (by decide +kernel)
theorem mv_X4_comesAsTold : Cond.selects yX4_comesAsTold.cls yX4_comesAsTold yX4_comesAsTold ∈ TB := tb_mem 11 (by decide +kernel) (by decide +kernel)
theorem lc_X4_comesAsTold : LC yX4_comesAsTold cX4_comesAsTold mX4_comesAsTold 3 := ⟨tb_mem 68 (by decide +kernel) (by decide +kernel), tb_mem 536 (by decide +kernel) (by decide +kernel), by decide +kernel, by decide +kernel, by decide +kernel⟩
theorem ml_RX4_246 : Cond.methodLink RX4 246 yX4_isSheet ∈ TB := tb_mem 525 (by decide +kernel) (by decide +kernel)
theorem ms_X4_isSheet : Cond.static yX4_isSheet ∈ TB := tb_mem 526 (by decide +kernel) (by decide +kernel)
theorem lc_X4_isSheet : LC yX4_isSheet cX4_isSheet mX4_isSheet 1 := ⟨tb_mem 68 (by decide +kernel) (by decide +kernel), tb_mem 527 (by decide +kernel) (by decide +kernel), by decide +kernel, by decide +kernel, by decide +kernel⟩
theorem ml_RX4_254 : Cond.methodLink RX4 254 yX2_isMissing ∈ TB := tb_mem 528 (by decide +kernel) (by decide +kernel)
theorem mi_X2_isMissing : Cond.instanceMethod yX2_isMissing ∈ TB := tb_mem 529 (by decide +kernel) (by decide +kernel)
theorem mv_X2_isMissing : Cond.selects yX2_isMissing.cls yX2_isMissing yX2_isMissing ∈ TB := tb_mem 530 (by decide +kernel) (by decide +kernel)
theorem lc_X2_isMissing : LC yX2_isMissing cX2_isMissing mX2_isMissing 0 := ⟨tb_mem 72 (by decide +kernel) (by decide +kernel), tb_mem 531 (by decide +kernel) (by decide +kernel), by decide +kernel, by decide +kernel, by decide +kernel⟩
theorem k_RX4_238 : Cond.constant RX4 238 (-1000006) ∈ TB := tb_mem 532 (by decide +kernel) (by decide +kernel)
theorem ml_RX4_205 : Cond.methodLink RX4 205 yX4_traitsAsTold ∈ TB := tb_mem 521 (by decide +kernel) (by decide +kernel)
theorem mi_X4_traitsAsTold : Cond.instanceMethod yX4_traitsAsTold ∈ TB := tb_mem 523 (by decide +kernel) (by decide +kernel)
theorem mv_X4_traitsAsTold : Cond.selects yX4_traitsAsTold.cls yX4_traitsAsTold yX4_traitsAsTold ∈ TB := tb_mem 10 (by decide +kernel) (by decide +kernel)
theorem lc_X4_traitsAsTold : LC yX4_traitsAsTold cX4_traitsAsTold mX4_traitsAsTold 5 := ⟨tb_mem 68 (by decide +kernel) (by decide +kernel), tb_mem 524 (by decide +kernel) (by decide +kernel), by decide +kernel, by decide +kernel, by decide +kernel⟩
theorem ml_RX4_209 : Cond.methodLink RX4 209 yX0_slip ∈ TB := tb_mem 545 (by decide +kernel) (by decide +kernel)
theorem mi_X0_slip : Cond.instanceMethod yX0_slip ∈ TB := tb_mem 546 (by decide +kernel) (by decide +kernel)
theorem mv_X0_slip : Cond.selects yX0_slip.cls yX0_slip yX0_slip ∈ TB := tb_mem 547 (by decide +kernel) (by decide +kernel)
theorem lc_X0_slip : LC yX0_slip cX0_slip mX0_slip 0 := ⟨tb_mem 69 (by decide +kernel) (by decide +kernel), tb_mem 548 (by decide +kernel) (by decide +kernel), by decide +kernel, by decide +kernel, by decide +kernel⟩
theorem ml_RX4_215 : Cond.methodLink RX4 215 yX4_power ∈ TB := tb_mem 558 (by decide +kernel) (by decide +kernel)
theorem ms_X4_power : Cond.static yX4_power ∈ TB := tb_mem 559 (by decide +kernel) (by decide +kernel)
theorem lc_X4_power : LC yX4_power cX4_power mX4_power 2 := ⟨tb_mem 68 (by decide +kernel) (by decide +kernel), tb_mem 560 (by decide +kernel) (by decide +kernel), by decide +kernel, by decide +kernel, by decide +kernel⟩
theorem fl_RX4_219 : FL RX4 219 0 13 := ⟨RX0, TX0, 14, rfl, by decide, tb_mem 123 (by decide +kernel) (by decide +kernel), inX0⟩
theorem fl_RX4_29 : FL RX4 29 4 4 := ⟨RX4, TX4, 8, rfl, by decide, tb_mem 218 (by decide +kernel) (by decide +kernel), inX4⟩
theorem fl_RX4_222 : FL RX4 222 3 1 := ⟨RX3, TX3, 2, rfl, by decide, tb_mem 163 (by decide +kernel) (by decide +kernel), inX3⟩
theorem ml_RX4_225 : Cond.methodLink RX4 225 yX3_append ∈ TB := tb_mem 569 (by decide +kernel) (by decide +kernel)
theorem mi_X3_append : Cond.instanceMethod yX3_append ∈ TB := tb_mem 570 (by decide +kernel) (by decide +kernel)
theorem mv_X3_append : Cond.selects yX3_append.cls yX3_append yX3_append ∈ TB := tb_mem 571 (by decide +kernel) (by decide +kernel)
theorem lc_X3_append : LC yX3_append cX3_append mX3_append 2 := ⟨tb_mem 70 (by decide +kernel) (by decide +kernel), tb_mem 572 (by decide +kernel) (by decide +kernel), by decide +kernel, by decide +kernel, by decide +kernel⟩
theorem fl_RX4_38 : FL RX4 38 4 5 := ⟨RX4, TX4, 8, rfl, by decide, tb_mem 219 (by decide +kernel) (by decide +kernel), inX4⟩
theorem ml_RX4_229 : Cond.methodLink RX4 229 yX1_readText ∈ TB := tb_mem 581 (by decide +kernel) (by decide +kernel)
theorem mi_X1_readText : Cond.instanceMethod yX1_readText ∈ TB := tb_mem 582 (by decide +kernel) (by decide +kernel)
theorem mv_X1_readText : Cond.selects yX1_readText.cls yX1_readText yX1_readText ∈ TB := tb_mem 583 (by decide +kernel) (by decide +kernel)
theorem lc_X1_readText : LC yX1_readText cX1_readText mX1_readText 0 := ⟨tb_mem 71 (by decide +kernel) (by decide +kernel), tb_mem 584 (by decide +kernel) (by decide +kernel), by decide +kernel, by decide +kernel, by decide +kernel⟩
theorem fl_RX4_235 : FL RX4 235 0 7 := ⟨RX0, TX0, 14, rfl, by decide, tb_mem 109 (by decide +kernel) (by decide +kernel), inX0⟩
theorem ml_RX4_232 : Cond.methodLink RX4 232 yX4_isSpot ∈ TB := tb_mem 708 (by decide +kernel) (by decide +kernel)
theorem ms_X4_isSpot : Cond.static yX4_isSpot ∈ TB := tb_mem 709 (by decide +kernel) (by decide +kernel)
theorem lc_X4_isSpot : LC yX4_isSpot cX4_isSpot mX4_isSpot 1 := ⟨tb_mem 68 (by decide +kernel) (by decide +kernel), tb_mem 710 (by decide +kernel) (by decide +kernel), by decide +kernel, by decide +kernel, by decide +kernel⟩
theorem fl_RX4_239 : FL RX4 239 0 1 := ⟨RX0, TX0, 14, rfl, by decide, tb_mem 99 (by decide +kernel) (by decide +kernel), inX0⟩
theorem ml_RX4_242 : Cond.methodLink RX4 242 yX0_isOfKind ∈ TB := tb_mem 715 (by decide +kernel) (by decide +kernel)
theorem ms_X0_isOfKind : Cond.static yX0_isOfKind ∈ TB := tb_mem 716 (by decide +kernel) (by decide +kernel)
theorem lc_X0_isOfKind : LC yX0_isOfKind cX0_isOfKind mX0_isOfKind 2 := ⟨tb_mem 69 (by decide +kernel) (by decide +kernel), tb_mem 717 (by decide +kernel) (by decide +kernel), by decide +kernel, by decide +kernel, by decide +kernel⟩
theorem k_RX4_245 : Cond.constant RX4 245 (-1000003) ∈ TB := tb_mem 721 (by decide +kernel) (by decide +kernel)
theorem ml_RX4_250 : Cond.methodLink RX4 250 yX2_begin ∈ TB := tb_mem 727 (by decide +kernel) (by decide +kernel)
theorem mi_X2_begin : Cond.instanceMethod yX2_begin ∈ TB := tb_mem 728 (by decide +kernel) (by decide +kernel)
theorem mv_X2_begin : Cond.selects yX2_begin.cls yX2_begin yX2_begin ∈ TB := tb_mem 729 (by decide +kernel) (by decide +kernel)
theorem lc_X2_begin : LC yX2_begin cX2_begin mX2_begin 2 := ⟨tb_mem 72 (by decide +kernel) (by decide +kernel), tb_mem 730 (by decide +kernel) (by decide +kernel), by decide +kernel, by decide +kernel, by decide +kernel⟩
theorem k_RX4_249 : Cond.constant RX4 249 (-1000007) ∈ TB := tb_mem 726 (by decide +kernel) (by decide +kernel)
theorem ml_RX4_260 : Cond.methodLink RX4 260 yX2_cut ∈ TB := tb_mem 735 (by decide +kernel) (by decide +kernel)
theorem mi_X2_cut : Cond.instanceMethod yX2_cut ∈ TB := tb_mem 736 (by decide +kernel) (by decide +kernel)
theorem mv_X2_cut : Cond.selects yX2_cut.cls yX2_cut yX2_cut ∈ TB := tb_mem 737 (by decide +kernel) (by decide +kernel)
theorem lc_X2_cut : LC yX2_cut cX2_cut mX2_cut 1 := ⟨tb_mem 72 (by decide +kernel) (by decide +kernel), tb_mem 738 (by decide +kernel) (by decide +kernel), by decide +kernel, by decide +kernel, by decide +kernel⟩
theorem fl_RX4_263 : FL RX4 263 2 1 := ⟨RX2, TX2, 3, rfl, by decide, tb_mem 204 (by decide +kernel) (by decide +kernel), inX2⟩
theorem ml_RX4_266 : Cond.methodLink RX4 266 yX2_hasRange ∈ TB := tb_mem 743 (by decide +kernel) (by decide +kernel)
theorem mi_X2_hasRange : Cond.instanceMethod yX2_hasRange ∈ TB := tb_mem 744 (by decide +kernel) (by decide +kernel)
theorem mv_X2_hasRange : Cond.selects yX2_hasRange.cls yX2_hasRange yX2_hasRange ∈ TB := tb_mem 745 (by decide +kernel) (by decide +kernel)
theorem lc_X2_hasRange : LC yX2_hasRange cX2_hasRange mX2_hasRange 2 := ⟨tb_mem 72 (by decide +kernel) (by decide +kernel), tb_mem 746 (by decide +kernel) (by decide +kernel), by decide +kernel, by decide +kernel, by decide +kernel⟩
theorem ml_RX4_269 : Cond.methodLink RX4 269 arraycopyName ∈ TB := tb_mem 747 (by decide +kernel) (by decide +kernel)
theorem fl_RX4_19 : FL RX4 19 4 2 := ⟨RX4, TX4, 8, rfl, by decide, tb_mem 216 (by decide +kernel) (by decide +kernel), inX4⟩
theorem fl_RX4_22 : FL RX4 22 4 3 := ⟨RX4, TX4, 8, rfl, by decide, tb_mem 217 (by decide +kernel) (by decide +kernel), inX4⟩
theorem fp_4_3 : FP 4 3 .boolean := ⟨RX4, TX4, 8, tyX4, rfl, tyX4_ok, nmX4, rfl, by decide +kernel⟩
theorem ml_RX4_275 : Cond.methodLink RX4 275 yX0_spotsInUse ∈ TB := tb_mem 772 (by decide +kernel) (by decide +kernel)
theorem mi_X0_spotsInUse : Cond.instanceMethod yX0_spotsInUse ∈ TB := tb_mem 773 (by decide +kernel) (by decide +kernel)
theorem mv_X0_spotsInUse : Cond.selects yX0_spotsInUse.cls yX0_spotsInUse yX0_spotsInUse ∈ TB := tb_mem 774 (by decide +kernel) (by decide +kernel)
theorem lc_X0_spotsInUse : LC yX0_spotsInUse cX0_spotsInUse mX0_spotsInUse 0 := ⟨tb_mem 69 (by decide +kernel) (by decide +kernel), tb_mem 775 (by decide +kernel) (by decide +kernel), by decide +kernel, by decide +kernel, by decide +kernel⟩
theorem fl_RX5_22 : FL RX5 22 5 5 := ⟨RX5, TX5, 16, rfl, by decide, tb_mem 791 (by decide +kernel) (by decide +kernel), inX5⟩
theorem k_RX5_37 : Cond.constant RX5 37 (-1000001) ∈ TB := tb_mem 850 (by decide +kernel) (by decide +kernel)
theorem fl_RX5_7 : FL RX5 7 5 0 := ⟨RX5, TX5, 16, rfl, by decide, tb_mem 786 (by decide +kernel) (by decide +kernel), inX5⟩
theorem k_RX5_38 : Cond.constant RX5 38 (-1000004) ∈ TB := tb_mem 954 (by decide +kernel) (by decide +kernel)
theorem ml_RX5_39 : Cond.methodLink RX5 39 yX5_finds ∈ TB := tb_mem 851 (by decide +kernel) (by decide +kernel)
theorem mi_X5_finds : Cond.instanceMethod yX5_finds ∈ TB := tb_mem 853 (by decide +kernel) (by decide +kernel)
theorem mv_X5_finds : Cond.selects yX5_finds.cls yX5_finds yX5_finds ∈ TB := tb_mem 25 (by decide +kernel) (by decide +kernel)
theorem lc_X5_finds : LC yX5_finds cX5_finds mX5_finds 1 := ⟨tb_mem 73 (by decide +kernel) (by decide +kernel), tb_mem 854 (by decide +kernel) (by decide +kernel), by decide +kernel, by decide +kernel, by decide +kernel⟩
theorem ml_RX5_43 : Cond.methodLink RX5 43 yX5_isLedge ∈ TB := tb_mem 839 (by decide +kernel) (by decide +kernel)
theorem ms_X5_isLedge : Cond.static yX5_isLedge ∈ TB := tb_mem 840 (by decide +kernel) (by decide +kernel)
theorem lc_X5_isLedge : LC yX5_isLedge cX5_isLedge mX5_isLedge 1 := ⟨tb_mem 73 (by decide +kernel) (by decide +kernel), tb_mem 841 (by decide +kernel) (by decide +kernel), by decide +kernel, by decide +kernel, by decide +kernel⟩
theorem k_RX5_47 : Cond.constantLong RX5 47 (99) ∈ TB := tb_mem 842 (by decide +kernel) (by decide +kernel)
theorem ml_RX5_49 : Cond.methodLink RX5 49 yX5_isIn ∈ TB := tb_mem 843 (by decide +kernel) (by decide +kernel)
theorem ms_X5_isIn : Cond.static yX5_isIn ∈ TB := tb_mem 844 (by decide +kernel) (by decide +kernel)
theorem lc_X5_isIn : LC yX5_isIn cX5_isIn mX5_isIn 3 := ⟨tb_mem 73 (by decide +kernel) (by decide +kernel), tb_mem 845 (by decide +kernel) (by decide +kernel), by decide +kernel, by decide +kernel, by decide +kernel⟩
theorem ml_RX5_53 : Cond.methodLink RX5 53 yX5_becomes ∈ TB := tb_mem 846 (by decide +kernel) (by decide +kernel)
theorem mi_X5_becomes : Cond.instanceMethod yX5_becomes ∈ TB := tb_mem 848 (by decide +kernel) (by decide +kernel)
theorem mv_X5_becomes : Cond.selects yX5_becomes.cls yX5_becomes yX5_becomes ∈ TB := tb_mem 24 (by decide +kernel) (by decide +kernel)
theorem lc_X5_becomes : LC yX5_becomes cX5_becomes mX5_becomes 2 := ⟨tb_mem 73 (by decide +kernel) (by decide +kernel), tb_mem 849 (by decide +kernel) (by decide +kernel), by decide +kernel, by decide +kernel, by decide +kernel⟩
theorem ml_RX5_57 : Cond.methodLink RX5 57 yX5_its ∈ TB := tb_mem 864 (by decide +kernel) (by decide +kernel)
theorem mi_X5_its : Cond.instanceMethod yX5_its ∈ TB := tb_mem 866 (by decide +kernel) (by decide +kernel)
theorem mv_X5_its : Cond.selects yX5_its.cls yX5_its yX5_its ∈ TB := tb_mem 27 (by decide +kernel) (by decide +kernel)
theorem lc_X5_its : LC yX5_its cX5_its mX5_its 2 := ⟨tb_mem 73 (by decide +kernel) (by decide +kernel), tb_mem 867 (by decide +kernel) (by decide +kernel), by decide +kernel, by decide +kernel, by decide +kernel⟩
theorem ml_RX5_60 : Cond.methodLink RX5 60 yX5_known ∈ TB := tb_mem 868 (by decide +kernel) (by decide +kernel)
theorem mi_X5_known : Cond.instanceMethod yX5_known ∈ TB := tb_mem 870 (by decide +kernel) (by decide +kernel)
theorem mv_X5_known : Cond.selects yX5_known.cls yX5_known yX5_known ∈ TB := tb_mem 28 (by decide +kernel) (by decide +kernel)
theorem lc_X5_known : LC yX5_known cX5_known mX5_known 1 := ⟨tb_mem 73 (by decide +kernel) (by decide +kernel), tb_mem 871 (by decide +kernel) (by decide +kernel), by decide +kernel, by decide +kernel, by decide +kernel⟩
theorem k_RX5_63 : Cond.constantLong RX5 63 (2) ∈ TB := tb_mem 859 (by decide +kernel) (by decide +kernel)
theorem ml_RX5_65 : Cond.methodLink RX5 65 yX5_there ∈ TB := tb_mem 860 (by decide +kernel) (by decide +kernel)
theorem mi_X5_there : Cond.instanceMethod yX5_there ∈ TB := tb_mem 862 (by decide +kernel) (by decide +kernel)
theorem mv_X5_there : Cond.selects yX5_there.cls yX5_there yX5_there ∈ TB := tb_mem 26 (by decide +kernel) (by decide +kernel)
theorem lc_X5_there : LC yX5_there cX5_there mX5_there 1 := ⟨tb_mem 73 (by decide +kernel) (by decide +kernel), tb_mem 863 (by decide +kernel) (by decide +kernel), by decide +kernel, by decide +kernel, by decide +kernel⟩
theorem k_RX5_70 : Cond.constantLong RX5 70 (9999) ∈ TB := tb_mem 877 (by decide +kernel) (by decide +kernel)
theorem k_RX5_68 : Cond.constantLong RX5 68 (20) ∈ TB := tb_mem 876 (by decide +kernel) (by decide +kernel)
theorem ml_RX5_72 : Cond.methodLink RX5 72 yX5_at ∈ TB := tb_mem 888 (by decide +kernel) (by decide +kernel)
theorem ms_X5_at : Cond.static yX5_at ∈ TB := tb_mem 889 (by decide +kernel) (by decide +kernel)
theorem lc_X5_at : LC yX5_at cX5_at mX5_at 2 := ⟨tb_mem 73 (by decide +kernel) (by decide +kernel), tb_mem 890 (by decide +kernel) (by decide +kernel), by decide +kernel, by decide +kernel, by decide +kernel⟩
theorem k_RX5_75 : Cond.constantLong RX5 75 (6) ∈ TB := tb_mem 882 (by decide +kernel) (by decide +kernel)
theorem ml_RX5_78 : Cond.methodLink RX5 78 yX5_comes ∈ TB := tb_mem 884 (by decide +kernel) (by decide +kernel)
theorem mi_X5_comes : Cond.instanceMethod yX5_comes ∈ TB := tb_mem 886 (by decide +kernel) (by decide +kernel)
theorem mv_X5_comes : Cond.selects yX5_comes.cls yX5_comes yX5_comes ∈ TB := tb_mem 29 (by decide +kernel) (by decide +kernel)
theorem lc_X5_comes : LC yX5_comes cX5_comes mX5_comes 3 := ⟨tb_mem 73 (by decide +kernel) (by decide +kernel), tb_mem 887 (by decide +kernel) (by decide +kernel), by decide +kernel, by decide +kernel, by decide +kernel⟩
theorem k_RX5_77 : Cond.constant RX5 77 (-1000002) ∈ TB := tb_mem 883 (by decide +kernel) (by decide +kernel)
theorem ml_RX5_82 : Cond.methodLink RX5 82 yX5_isQuoted ∈ TB := tb_mem 926 (by decide +kernel) (by decide +kernel)
theorem mi_X5_isQuoted : Cond.instanceMethod yX5_isQuoted ∈ TB := tb_mem 928 (by decide +kernel) (by decide +kernel)
theorem mv_X5_isQuoted : Cond.selects yX5_isQuoted.cls yX5_isQuoted yX5_isQuoted ∈ TB := tb_mem 36 (by decide +kernel) (by decide +kernel)
theorem lc_X5_isQuoted : LC yX5_isQuoted cX5_isQuoted mX5_isQuoted 2 := ⟨tb_mem 73 (by decide +kernel) (by decide +kernel), tb_mem 929 (by decide +kernel) (by decide +kernel), by decide +kernel, by decide +kernel, by decide +kernel⟩
theorem ml_RX5_86 : Cond.methodLink RX5 86 yX5_many ∈ TB := tb_mem 904 (by decide +kernel) (by decide +kernel)
theorem ms_X5_many : Cond.static yX5_many ∈ TB := tb_mem 905 (by decide +kernel) (by decide +kernel)
theorem lc_X5_many : LC yX5_many cX5_many mX5_many 1 := ⟨tb_mem 73 (by decide +kernel) (by decide +kernel), tb_mem 906 (by decide +kernel) (by decide +kernel), by decide +kernel, by decide +kernel, by decide +kernel⟩
theorem ml_RX5_89 : Cond.methodLink RX5 89 yX5_greenest ∈ TB := tb_mem 915 (by decide +kernel) (by decide +kernel)
theorem mi_X5_greenest : Cond.instanceMethod yX5_greenest ∈ TB := tb_mem 917 (by decide +kernel) (by decide +kernel)
theorem mv_X5_greenest : Cond.selects yX5_greenest.cls yX5_greenest yX5_greenest ∈ TB := tb_mem 34 (by decide +kernel) (by decide +kernel)
theorem lc_X5_greenest : LC yX5_greenest cX5_greenest mX5_greenest 1 := ⟨tb_mem 73 (by decide +kernel) (by decide +kernel), tb_mem 918 (by decide +kernel) (by decide +kernel), by decide +kernel, by decide +kernel, by decide +kernel⟩
theorem ml_RX5_92 : Cond.methodLink RX5 92 yX5_least ∈ TB := tb_mem 919 (by decide +kernel) (by decide +kernel)
theorem ms_X5_least : Cond.static yX5_least ∈ TB := tb_mem 920 (by decide +kernel) (by decide +kernel)
theorem lc_X5_least : LC yX5_least cX5_least mX5_least 2 := ⟨tb_mem 73 (by decide +kernel) (by decide +kernel), tb_mem 921 (by decide +kernel) (by decide +kernel), by decide +kernel, by decide +kernel, by decide +kernel⟩
theorem ml_RX5_95 : Cond.methodLink RX5 95 yX5_isGoat ∈ TB := tb_mem 895 (by decide +kernel) (by decide +kernel)
theorem mi_X5_isGoat : Cond.instanceMethod yX5_isGoat ∈ TB := tb_mem 897 (by decide +kernel) (by decide +kernel)
theorem mv_X5_isGoat : Cond.selects yX5_isGoat.cls yX5_isGoat yX5_isGoat ∈ TB := tb_mem 30 (by decide +kernel) (by decide +kernel)
theorem lc_X5_isGoat : LC yX5_isGoat cX5_isGoat mX5_isGoat 1 := ⟨tb_mem 73 (by decide +kernel) (by decide +kernel), tb_mem 898 (by decide +kernel) (by decide +kernel), by decide +kernel, by decide +kernel, by decide +kernel⟩
theorem k_RX5_98 : Cond.constantLong RX5 98 (9) ∈ TB := tb_mem 899 (by decide +kernel) (by decide +kernel)
theorem ml_RX5_100 : Cond.methodLink RX5 100 yX5_costs ∈ TB := tb_mem 900 (by decide +kernel) (by decide +kernel)
theorem mi_X5_costs : Cond.instanceMethod yX5_costs ∈ TB := tb_mem 902 (by decide +kernel) (by decide +kernel)
theorem mv_X5_costs : Cond.selects yX5_costs.cls yX5_costs yX5_costs ∈ TB := tb_mem 31 (by decide +kernel) (by decide +kernel)
theorem lc_X5_costs : LC yX5_costs cX5_costs mX5_costs 1 := ⟨tb_mem 73 (by decide +kernel) (by decide +kernel), tb_mem 903 (by decide +kernel) (by decide +kernel), by decide +kernel, by decide +kernel, by decide +kernel⟩
theorem ml_RX5_103 : Cond.methodLink RX5 103 yX5_grazes ∈ TB := tb_mem 907 (by decide +kernel) (by decide +kernel)
theorem mi_X5_grazes : Cond.instanceMethod yX5_grazes ∈ TB := tb_mem 909 (by decide +kernel) (by decide +kernel)
theorem mv_X5_grazes : Cond.selects yX5_grazes.cls yX5_grazes yX5_grazes ∈ TB := tb_mem 32 (by decide +kernel) (by decide +kernel)
theorem lc_X5_grazes : LC yX5_grazes cX5_grazes mX5_grazes 1 := ⟨tb_mem 73 (by decide +kernel) (by decide +kernel), tb_mem 910 (by decide +kernel) (by decide +kernel), by decide +kernel, by decide +kernel, by decide +kernel⟩
theorem ml_RX5_106 : Cond.methodLink RX5 106 yX5_climbsTo ∈ TB := tb_mem 911 (by decide +kernel) (by decide +kernel)
theorem mi_X5_climbsTo : Cond.instanceMethod yX5_climbsTo ∈ TB := tb_mem 913 (by decide +kernel) (by decide +kernel)
theorem mv_X5_climbsTo : Cond.selects yX5_climbsTo.cls yX5_climbsTo yX5_climbsTo ∈ TB := tb_mem 33 (by decide +kernel) (by decide +kernel)
theorem lc_X5_climbsTo : LC yX5_climbsTo cX5_climbsTo mX5_climbsTo 1 := ⟨tb_mem 73 (by decide +kernel) (by decide +kernel), tb_mem 914 (by decide +kernel) (by decide +kernel), by decide +kernel, by decide +kernel, by decide +kernel⟩
theorem ml_RX5_109 : Cond.methodLink RX5 109 yX5_quotes ∈ TB := tb_mem 922 (by decide +kernel) (by decide +kernel)
theorem mi_X5_quotes : Cond.instanceMethod yX5_quotes ∈ TB := tb_mem 924 (by decide +kernel) (by decide +kernel)
theorem mv_X5_quotes : Cond.selects yX5_quotes.cls yX5_quotes yX5_quotes ∈ TB := tb_mem 35 (by decide +kernel) (by decide +kernel)
theorem lc_X5_quotes : LC yX5_quotes cX5_quotes mX5_quotes 1 := ⟨tb_mem 73 (by decide +kernel) (by decide +kernel), tb_mem 925 (by decide +kernel) (by decide +kernel), by decide +kernel, by decide +kernel, by decide +kernel⟩
theorem k_RX5_112 : Cond.constant RX5 112 (65535) ∈ TB := tb_mem 938 (by decide +kernel) (by decide +kernel)
theorem k_RX5_113 : Cond.constantLong RX5 113 (5) ∈ TB := tb_mem 934 (by decide +kernel) (by decide +kernel)
theorem ml_RX5_115 : Cond.methodLink RX5 115 yX5_greatestOf ∈ TB := tb_mem 935 (by decide +kernel) (by decide +kernel)
theorem ms_X5_greatestOf : Cond.static yX5_greatestOf ∈ TB := tb_mem 936 (by decide +kernel) (by decide +kernel)
theorem lc_X5_greatestOf : LC yX5_greatestOf cX5_greatestOf mX5_greatestOf 1 := ⟨tb_mem 73 (by decide +kernel) (by decide +kernel), tb_mem 937 (by decide +kernel) (by decide +kernel), by decide +kernel, by decide +kernel, by decide +kernel⟩
theorem ml_RX5_118 : Cond.methodLink RX5 118 yX5_isPage ∈ TB := tb_mem 947 (by decide +kernel) (by decide +kernel)
theorem ms_X5_isPage : Cond.static yX5_isPage ∈ TB := tb_mem 948 (by decide +kernel) (by decide +kernel)
theorem lc_X5_isPage : LC yX5_isPage cX5_isPage mX5_isPage 1 := ⟨tb_mem 73 (by decide +kernel) (by decide +kernel), tb_mem 949 (by decide +kernel) (by decide +kernel), by decide +kernel, by decide +kernel, by decide +kernel⟩
theorem ml_RX5_121 : Cond.methodLink RX5 121 yX5_cheapest ∈ TB := tb_mem 950 (by decide +kernel) (by decide +kernel)
theorem mi_X5_cheapest : Cond.instanceMethod yX5_cheapest ∈ TB := tb_mem 952 (by decide +kernel) (by decide +kernel)
theorem mv_X5_cheapest : Cond.selects yX5_cheapest.cls yX5_cheapest yX5_cheapest ∈ TB := tb_mem 37 (by decide +kernel) (by decide +kernel)
theorem lc_X5_cheapest : LC yX5_cheapest cX5_cheapest mX5_cheapest 1 := ⟨tb_mem 73 (by decide +kernel) (by decide +kernel), tb_mem 953 (by decide +kernel) (by decide +kernel), by decide +kernel, by decide +kernel, by decide +kernel⟩
theorem k_RX5_124 : Cond.constant RX5 124 (-1000005) ∈ TB := tb_mem 955 (by decide +kernel) (by decide +kernel)
theorem ml_RX5_125 : Cond.methodLink RX5 125 yX5_greatest ∈ TB := tb_mem 974 (by decide +kernel) (by decide +kernel)
theorem ms_X5_greatest : Cond.static yX5_greatest ∈ TB := tb_mem 975 (by decide +kernel) (by decide +kernel)
theorem lc_X5_greatest : LC yX5_greatest cX5_greatest mX5_greatest 2 := ⟨tb_mem 73 (by decide +kernel) (by decide +kernel), tb_mem 976 (by decide +kernel) (by decide +kernel), by decide +kernel, by decide +kernel, by decide +kernel⟩
theorem ml_RX5_128 : Cond.methodLink RX5 128 yX5_lowestOf ∈ TB := tb_mem 981 (by decide +kernel) (by decide +kernel)
theorem ms_X5_lowestOf : Cond.static yX5_lowestOf ∈ TB := tb_mem 982 (by decide +kernel) (by decide +kernel)
theorem lc_X5_lowestOf : LC yX5_lowestOf cX5_lowestOf mX5_lowestOf 1 := ⟨tb_mem 73 (by decide +kernel) (by decide +kernel), tb_mem 983 (by decide +kernel) (by decide +kernel), by decide +kernel, by decide +kernel, by decide +kernel⟩
theorem ml_RX5_131 : Cond.methodLink RX5 131 yX5_highestOf ∈ TB := tb_mem 984 (by decide +kernel) (by decide +kernel)
theorem ms_X5_highestOf : Cond.static yX5_highestOf ∈ TB := tb_mem 985 (by decide +kernel) (by decide +kernel)
theorem lc_X5_highestOf : LC yX5_highestOf cX5_highestOf mX5_highestOf 1 := ⟨tb_mem 73 (by decide +kernel) (by decide +kernel), tb_mem 986 (by decide +kernel) (by decide +kernel), by decide +kernel, by decide +kernel, by decide +kernel⟩
theorem ml_RX5_138 : Cond.methodLink RX5 138 yX5_learnsOne ∈ TB := tb_mem 977 (by decide +kernel) (by decide +kernel)
theorem mi_X5_learnsOne : Cond.instanceMethod yX5_learnsOne ∈ TB := tb_mem 979 (by decide +kernel) (by decide +kernel)
theorem mv_X5_learnsOne : Cond.selects yX5_learnsOne.cls yX5_learnsOne yX5_learnsOne ∈ TB := tb_mem 41 (by decide +kernel) (by decide +kernel)
theorem lc_X5_learnsOne : LC yX5_learnsOne cX5_learnsOne mX5_learnsOne 2 := ⟨tb_mem 73 (by decide +kernel) (by decide +kernel), tb_mem 980 (by decide +kernel) (by decide +kernel), by decide +kernel, by decide +kernel, by decide +kernel⟩
theorem ml_RX5_134 : Cond.methodLink RX5 134 yX5_lives ∈ TB := tb_mem 970 (by decide +kernel) (by decide +kernel)
theorem mi_X5_lives : Cond.instanceMethod yX5_lives ∈ TB := tb_mem 972 (by decide +kernel) (by decide +kernel)
theorem mv_X5_lives : Cond.selects yX5_lives.cls yX5_lives yX5_lives ∈ TB := tb_mem 40 (by decide +kernel) (by decide +kernel)
theorem lc_X5_lives : LC yX5_lives cX5_lives mX5_lives 1 := ⟨tb_mem 73 (by decide +kernel) (by decide +kernel), tb_mem 973 (by decide +kernel) (by decide +kernel), by decide +kernel, by decide +kernel, by decide +kernel⟩
theorem ml_RX5_142 : Cond.methodLink RX5 142 yX5_dayBut ∈ TB := tb_mem 966 (by decide +kernel) (by decide +kernel)
theorem mi_X5_dayBut : Cond.instanceMethod yX5_dayBut ∈ TB := tb_mem 968 (by decide +kernel) (by decide +kernel)
theorem mv_X5_dayBut : Cond.selects yX5_dayBut.cls yX5_dayBut yX5_dayBut ∈ TB := tb_mem 39 (by decide +kernel) (by decide +kernel)
theorem lc_X5_dayBut : LC yX5_dayBut cX5_dayBut mX5_dayBut 1 := ⟨tb_mem 73 (by decide +kernel) (by decide +kernel), tb_mem 969 (by decide +kernel) (by decide +kernel), by decide +kernel, by decide +kernel, by decide +kernel⟩
theorem k_RX5_145 : Cond.constantLong RX5 145 (60) ∈ TB := tb_mem 960 (by decide +kernel) (by decide +kernel)
theorem k_RX5_147 : Cond.constant RX5 147 (99999) ∈ TB := tb_mem 961 (by decide +kernel) (by decide +kernel)
theorem ml_RX5_148 : Cond.methodLink RX5 148 yX5_goes ∈ TB := tb_mem 962 (by decide +kernel) (by decide +kernel)
theorem mi_X5_goes : Cond.instanceMethod yX5_goes ∈ TB := tb_mem 964 (by decide +kernel) (by decide +kernel)
theorem mv_X5_goes : Cond.selects yX5_goes.cls yX5_goes yX5_goes ∈ TB := tb_mem 38 (by decide +kernel) (by decide +kernel)
theorem lc_X5_goes : LC yX5_goes cX5_goes mX5_goes 1 := ⟨tb_mem 73 (by decide +kernel) (by decide +kernel), tb_mem 965 (by decide +kernel) (by decide +kernel), by decide +kernel, by decide +kernel, by decide +kernel⟩
theorem ml_RX5_151 : Cond.methodLink RX5 151 yX5_knownAll ∈ TB := tb_mem 987 (by decide +kernel) (by decide +kernel)
theorem mi_X5_knownAll : Cond.instanceMethod yX5_knownAll ∈ TB := tb_mem 989 (by decide +kernel) (by decide +kernel)
theorem mv_X5_knownAll : Cond.selects yX5_knownAll.cls yX5_knownAll yX5_knownAll ∈ TB := tb_mem 42 (by decide +kernel) (by decide +kernel)
theorem lc_X5_knownAll : LC yX5_knownAll cX5_knownAll mX5_knownAll 0 := ⟨tb_mem 73 (by decide +kernel) (by decide +kernel), tb_mem 990 (by decide +kernel) (by decide +kernel), by decide +kernel, by decide +kernel, by decide +kernel⟩
theorem ml_RX5_155 : Cond.methodLink RX5 155 yX5_grassAll ∈ TB := tb_mem 995 (by decide +kernel) (by decide +kernel)
theorem mi_X5_grassAll : Cond.instanceMethod yX5_grassAll ∈ TB := tb_mem 997 (by decide +kernel) (by decide +kernel)
theorem mv_X5_grassAll : Cond.selects yX5_grassAll.cls yX5_grassAll yX5_grassAll ∈ TB := tb_mem 43 (by decide +kernel) (by decide +kernel)
theorem lc_X5_grassAll : LC yX5_grassAll cX5_grassAll mX5_grassAll 0 := ⟨tb_mem 73 (by decide +kernel) (by decide +kernel), tb_mem 998 (by decide +kernel) (by decide +kernel), by decide +kernel, by decide +kernel, by decide +kernel⟩
theorem ml_RX5_158 : Cond.methodLink RX5 158 yX5_livedOn ∈ TB := tb_mem 999 (by decide +kernel) (by decide +kernel)
theorem mi_X5_livedOn : Cond.instanceMethod yX5_livedOn ∈ TB := tb_mem 1001 (by decide +kernel) (by decide +kernel)
theorem mv_X5_livedOn : Cond.selects yX5_livedOn.cls yX5_livedOn yX5_livedOn ∈ TB := tb_mem 44 (by decide +kernel) (by decide +kernel)
theorem lc_X5_livedOn : LC yX5_livedOn cX5_livedOn mX5_livedOn 0 := ⟨tb_mem 73 (by decide +kernel) (by decide +kernel), tb_mem 1002 (by decide +kernel) (by decide +kernel), by decide +kernel, by decide +kernel, by decide +kernel⟩
theorem ml_RX5_161 : Cond.methodLink RX5 161 yX5_wisest ∈ TB := tb_mem 1003 (by decide +kernel) (by decide +kernel)
theorem mi_X5_wisest : Cond.instanceMethod yX5_wisest ∈ TB := tb_mem 1005 (by decide +kernel) (by decide +kernel)
theorem mv_X5_wisest : Cond.selects yX5_wisest.cls yX5_wisest yX5_wisest ∈ TB := tb_mem 45 (by decide +kernel) (by decide +kernel)
theorem lc_X5_wisest : LC yX5_wisest cX5_wisest mX5_wisest 0 := ⟨tb_mem 73 (by decide +kernel) (by decide +kernel), tb_mem 1006 (by decide +kernel) (by decide +kernel), by decide +kernel, by decide +kernel, by decide +kernel⟩
theorem fl_RX5_19 : FL RX5 19 5 3 := ⟨RX5, TX5, 16, rfl, by decide, tb_mem 789 (by decide +kernel) (by decide +kernel), inX5⟩
theorem ml_RX5_164 : Cond.methodLink RX5 164 yX5_copyRow ∈ TB := tb_mem 1021 (by decide +kernel) (by decide +kernel)
theorem ms_X5_copyRow : Cond.static yX5_copyRow ∈ TB := tb_mem 1022 (by decide +kernel) (by decide +kernel)
theorem lc_X5_copyRow : LC yX5_copyRow cX5_copyRow mX5_copyRow 2 := ⟨tb_mem 73 (by decide +kernel) (by decide +kernel), tb_mem 1023 (by decide +kernel) (by decide +kernel), by decide +kernel, by decide +kernel, by decide +kernel⟩
theorem k_RX5_168 : Cond.constantLong RX5 168 (4) ∈ TB := tb_mem 1015 (by decide +kernel) (by decide +kernel)
theorem k_RX5_170 : Cond.constantLong RX5 170 (100) ∈ TB := tb_mem 1016 (by decide +kernel) (by decide +kernel)
theorem ml_RX5_172 : Cond.methodLink RX5 172 yX5_then ∈ TB := tb_mem 1017 (by decide +kernel) (by decide +kernel)
theorem mi_X5_then : Cond.instanceMethod yX5_then ∈ TB := tb_mem 1019 (by decide +kernel) (by decide +kernel)
theorem mv_X5_then : Cond.selects yX5_then.cls yX5_then yX5_then ∈ TB := tb_mem 46 (by decide +kernel) (by decide +kernel)
theorem lc_X5_then : LC yX5_then cX5_then mX5_then 3 := ⟨tb_mem 73 (by decide +kernel) (by decide +kernel), tb_mem 1020 (by decide +kernel) (by decide +kernel), by decide +kernel, by decide +kernel, by decide +kernel⟩
theorem k_RX5_176 : Cond.constantLong RX5 176 (40) ∈ TB := tb_mem 1048 (by decide +kernel) (by decide +kernel)
theorem ml_RX5_178 : Cond.methodLink RX5 178 yX5_isAsked ∈ TB := tb_mem 1044 (by decide +kernel) (by decide +kernel)
theorem mi_X5_isAsked : Cond.instanceMethod yX5_isAsked ∈ TB := tb_mem 1046 (by decide +kernel) (by decide +kernel)
theorem mv_X5_isAsked : Cond.selects yX5_isAsked.cls yX5_isAsked yX5_isAsked ∈ TB := tb_mem 47 (by decide +kernel) (by decide +kernel)
theorem lc_X5_isAsked : LC yX5_isAsked cX5_isAsked mX5_isAsked 2 := ⟨tb_mem 73 (by decide +kernel) (by decide +kernel), tb_mem 1047 (by decide +kernel) (by decide +kernel), by decide +kernel, by decide +kernel, by decide +kernel⟩
theorem ml_RX5_181 : Cond.methodLink RX5 181 yX5_wisestBy ∈ TB := tb_mem 1049 (by decide +kernel) (by decide +kernel)
theorem mi_X5_wisestBy : Cond.instanceMethod yX5_wisestBy ∈ TB := tb_mem 1051 (by decide +kernel) (by decide +kernel)
theorem mv_X5_wisestBy : Cond.selects yX5_wisestBy.cls yX5_wisestBy yX5_wisestBy ∈ TB := tb_mem 48 (by decide +kernel) (by decide +kernel)
theorem lc_X5_wisestBy : LC yX5_wisestBy cX5_wisestBy mX5_wisestBy 3 := ⟨tb_mem 73 (by decide +kernel) (by decide +kernel), tb_mem 1052 (by decide +kernel) (by decide +kernel), by decide +kernel, by decide +kernel, by decide +kernel⟩
theorem ml_RX5_184 : Cond.methodLink RX5 184 yX5_orNone ∈ TB := tb_mem 1061 (by decide +kernel) (by decide +kernel)
theorem mi_X5_orNone : Cond.instanceMethod yX5_orNone ∈ TB := tb_mem 1063 (by decide +kernel) (by decide +kernel)
theorem mv_X5_orNone : Cond.selects yX5_orNone.cls yX5_orNone yX5_orNone ∈ TB := tb_mem 49 (by decide +kernel) (by decide +kernel)
theorem lc_X5_orNone : LC yX5_orNone cX5_orNone mX5_orNone 1 := ⟨tb_mem 73 (by decide +kernel) (by decide +kernel), tb_mem 1064 (by decide +kernel) (by decide +kernel), by decide +kernel, by decide +kernel, by decide +kernel⟩
theorem k_RX5_187 : Cond.constantLong RX5 187 (65535) ∈ TB := tb_mem 1069 (by decide +kernel) (by decide +kernel)
theorem k_RX5_189 : Cond.constantLong RX5 189 (12) ∈ TB := tb_mem 1078 (by decide +kernel) (by decide +kernel)
theorem fl_RX5_31 : FL RX5 31 5 9 := ⟨RX5, TX5, 16, rfl, by decide, tb_mem 795 (by decide +kernel) (by decide +kernel), inX5⟩
theorem fl_RX5_34 : FL RX5 34 5 10 := ⟨RX5, TX5, 16, rfl, by decide, tb_mem 796 (by decide +kernel) (by decide +kernel), inX5⟩
theorem fl_RX5_28 : FL RX5 28 5 8 := ⟨RX5, TX5, 16, rfl, by decide, tb_mem 794 (by decide +kernel) (by decide +kernel), inX5⟩
theorem ml_RX5_282 : Cond.methodLink RX5 282 yX5_isSheet ∈ TB := tb_mem 1091 (by decide +kernel) (by decide +kernel)
theorem ms_X5_isSheet : Cond.static yX5_isSheet ∈ TB := tb_mem 1092 (by decide +kernel) (by decide +kernel)
theorem lc_X5_isSheet : LC yX5_isSheet cX5_isSheet mX5_isSheet 1 := ⟨tb_mem 73 (by decide +kernel) (by decide +kernel), tb_mem 1093 (by decide +kernel) (by decide +kernel), by decide +kernel, by decide +kernel, by decide +kernel⟩
theorem k_RX5_277 : Cond.constant RX5 277 (-1000006) ∈ TB := tb_mem 1094 (by decide +kernel) (by decide +kernel)
theorem ml_RX5_194 : Cond.methodLink RX5 194 yX5_isTold ∈ TB := tb_mem 1095 (by decide +kernel) (by decide +kernel)
theorem mi_X5_isTold : Cond.instanceMethod yX5_isTold ∈ TB := tb_mem 1097 (by decide +kernel) (by decide +kernel)
theorem mv_X5_isTold : Cond.selects yX5_isTold.cls yX5_isTold yX5_isTold ∈ TB := tb_mem 52 (by decide +kernel) (by decide +kernel)
theorem lc_X5_isTold : LC yX5_isTold cX5_isTold mX5_isTold 2 := ⟨tb_mem 73 (by decide +kernel) (by decide +kernel), tb_mem 1098 (by decide +kernel) (by decide +kernel), by decide +kernel, by decide +kernel, by decide +kernel⟩
theorem ml_RX5_191 : Cond.methodLink RX5 191 yX5_wants ∈ TB := tb_mem 1087 (by decide +kernel) (by decide +kernel)
theorem mi_X5_wants : Cond.instanceMethod yX5_wants ∈ TB := tb_mem 1089 (by decide +kernel) (by decide +kernel)
theorem mv_X5_wants : Cond.selects yX5_wants.cls yX5_wants yX5_wants ∈ TB := tb_mem 51 (by decide +kernel) (by decide +kernel)
theorem lc_X5_wants : LC yX5_wants cX5_wants mX5_wants 1 := ⟨tb_mem 73 (by decide +kernel) (by decide +kernel), tb_mem 1090 (by decide +kernel) (by decide +kernel), by decide +kernel, by decide +kernel, by decide +kernel⟩
theorem ml_RX5_197 : Cond.methodLink RX5 197 yX5_couldBe ∈ TB := tb_mem 1083 (by decide +kernel) (by decide +kernel)
theorem mi_X5_couldBe : Cond.instanceMethod yX5_couldBe ∈ TB := tb_mem 1085 (by decide +kernel) (by decide +kernel)
theorem mv_X5_couldBe : Cond.selects yX5_couldBe.cls yX5_couldBe yX5_couldBe ∈ TB := tb_mem 50 (by decide +kernel) (by decide +kernel)
theorem lc_X5_couldBe : LC yX5_couldBe cX5_couldBe mX5_couldBe 4 := ⟨tb_mem 73 (by decide +kernel) (by decide +kernel), tb_mem 1086 (by decide +kernel) (by decide +kernel), by decide +kernel, by decide +kernel, by decide +kernel⟩
theorem k_RX5_201 : Cond.constant RX5 201 (1103515245) ∈ TB := tb_mem 1111 (by decide +kernel) (by decide +kernel)
theorem ml_RX5_202 : Cond.methodLink RX5 202 yX5_draw ∈ TB := tb_mem 1107 (by decide +kernel) (by decide +kernel)
theorem mi_X5_draw : Cond.instanceMethod yX5_draw ∈ TB := tb_mem 1109 (by decide +kernel) (by decide +kernel)
theorem mv_X5_draw : Cond.selects yX5_draw.cls yX5_draw yX5_draw ∈ TB := tb_mem 53 (by decide +kernel) (by decide +kernel)
theorem lc_X5_draw : LC yX5_draw cX5_draw mX5_draw 0 := ⟨tb_mem 73 (by decide +kernel) (by decide +kernel), tb_mem 1110 (by decide +kernel) (by decide +kernel), by decide +kernel, by decide +kernel, by decide +kernel⟩
theorem k_RX5_207 : Cond.constantLong RX5 207 (16) ∈ TB := tb_mem 1117 (by decide +kernel) (by decide +kernel)
theorem k_RX5_205 : Cond.constantLong RX5 205 (15) ∈ TB := tb_mem 1116 (by decide +kernel) (by decide +kernel)
theorem fl_RX5_209 : FL RX5 209 5 7 := ⟨RX5, TX5, 16, rfl, by decide, tb_mem 793 (by decide +kernel) (by decide +kernel), inX5⟩
theorem fl_RX5_25 : FL RX5 25 5 6 := ⟨RX5, TX5, 16, rfl, by decide, tb_mem 792 (by decide +kernel) (by decide +kernel), inX5⟩
theorem fp_5_7 : FP 5 7 .int := ⟨RX5, TX5, 16, tyX5, rfl, tyX5_ok, nmX5, rfl, by decide +kernel⟩
theorem fl_RX5_213 : FL RX5 213 5 13 := ⟨RX5, TX5, 16, rfl, by decide, tb_mem 799 (by decide +kernel) (by decide +kernel), inX5⟩
theorem fl_RX5_216 : FL RX5 216 5 12 := ⟨RX5, TX5, 16, rfl, by decide, tb_mem 798 (by decide +kernel) (by decide +kernel), inX5⟩
theorem fl_RX5_228 : FL RX5 228 5 11 := ⟨RX5, TX5, 16, rfl, by decide, tb_mem 797 (by decide +kernel) (by decide +kernel), inX5⟩
theorem fl_RX5_231 : FL RX5 231 5 14 := ⟨RX5, TX5, 16, rfl, by decide, tb_mem 800 (by decide +kernel) (by decide +kernel), inX5⟩
theorem fp_5_14 : FP 5 14 .int := ⟨RX5, TX5, 16, tyX5, rfl, tyX5_ok, nmX5, rfl, by decide +kernel⟩
theorem fp_5_13 : FP 5 13 .int := ⟨RX5, TX5, 16, tyX5, rfl, tyX5_ok, nmX5, rfl, by decide +kernel⟩
theorem ml_RX5_219 : Cond.methodLink RX5 219 yX5_byteAt ∈ TB := tb_mem 1138 (by decide +kernel) (by decide +kernel)
theorem mi_X5_byteAt : Cond.instanceMethod yX5_byteAt ∈ TB := tb_mem 1140 (by decide +kernel) (by decide +kernel)
theorem mv_X5_byteAt : Cond.selects yX5_byteAt.cls yX5_byteAt yX5_byteAt ∈ TB := tb_mem 55 (by decide +kernel) (by decide +kernel)
theorem lc_X5_byteAt : LC yX5_byteAt cX5_byteAt mX5_byteAt 1 := ⟨tb_mem 73 (by decide +kernel) (by decide +kernel), tb_mem 1141 (by decide +kernel) (by decide +kernel), by decide +kernel, by decide +kernel, by decide +kernel⟩
theorem ml_RX5_225 : Cond.methodLink RX5 225 yX5_isDigit ∈ TB := tb_mem 1145 (by decide +kernel) (by decide +kernel)
theorem ms_X5_isDigit : Cond.static yX5_isDigit ∈ TB := tb_mem 1146 (by decide +kernel) (by decide +kernel)
theorem lc_X5_isDigit : LC yX5_isDigit cX5_isDigit mX5_isDigit 1 := ⟨tb_mem 73 (by decide +kernel) (by decide +kernel), tb_mem 1147 (by decide +kernel) (by decide +kernel), by decide +kernel, by decide +kernel, by decide +kernel⟩
theorem ml_RX5_222 : Cond.methodLink RX5 222 yX5_isLetter ∈ TB := tb_mem 1142 (by decide +kernel) (by decide +kernel)
theorem ms_X5_isLetter : Cond.static yX5_isLetter ∈ TB := tb_mem 1143 (by decide +kernel) (by decide +kernel)
theorem lc_X5_isLetter : LC yX5_isLetter cX5_isLetter mX5_isLetter 1 := ⟨tb_mem 73 (by decide +kernel) (by decide +kernel), tb_mem 1144 (by decide +kernel) (by decide +kernel), by decide +kernel, by decide +kernel, by decide +kernel⟩
theorem fp_5_11 : FP 5 11 .int := ⟨RX5, TX5, 16, tyX5, rfl, tyX5_ok, nmX5, rfl, by decide +kernel⟩
theorem fp_5_12 : FP 5 12 .int := ⟨RX5, TX5, 16, tyX5, rfl, tyX5_ok, nmX5, rfl, by decide +kernel⟩
theorem fl_RX5_234 : FL RX5 234 5 15 := ⟨RX5, TX5, 16, rfl, by decide, tb_mem 801 (by decide +kernel) (by decide +kernel), inX5⟩
theorem fp_5_15 : FP 5 15 .int := ⟨RX5, TX5, 16, tyX5, rfl, tyX5_ok, nmX5, rfl, by decide +kernel⟩
theorem ml_RX5_237 : Cond.methodLink RX5 237 yX5_isWord ∈ TB := tb_mem 1160 (by decide +kernel) (by decide +kernel)
theorem mi_X5_isWord : Cond.instanceMethod yX5_isWord ∈ TB := tb_mem 1162 (by decide +kernel) (by decide +kernel)
theorem mv_X5_isWord : Cond.selects yX5_isWord.cls yX5_isWord yX5_isWord ∈ TB := tb_mem 59 (by decide +kernel) (by decide +kernel)
theorem lc_X5_isWord : LC yX5_isWord cX5_isWord mX5_isWord 1 := ⟨tb_mem 73 (by decide +kernel) (by decide +kernel), tb_mem 1163 (by decide +kernel) (by decide +kernel), by decide +kernel, by decide +kernel, by decide +kernel⟩
theorem ml_RX5_240 : Cond.methodLink RX5 240 yX5_has3 ∈ TB := tb_mem 1164 (by decide +kernel) (by decide +kernel)
theorem mi_X5_has3 : Cond.instanceMethod yX5_has3 ∈ TB := tb_mem 1166 (by decide +kernel) (by decide +kernel)
theorem mv_X5_has3 : Cond.selects yX5_has3.cls yX5_has3 yX5_has3 ∈ TB := tb_mem 60 (by decide +kernel) (by decide +kernel)
theorem lc_X5_has3 : LC yX5_has3 cX5_has3 mX5_has3 4 := ⟨tb_mem 73 (by decide +kernel) (by decide +kernel), tb_mem 1167 (by decide +kernel) (by decide +kernel), by decide +kernel, by decide +kernel, by decide +kernel⟩
theorem ml_RX5_244 : Cond.methodLink RX5 244 yX5_fails ∈ TB := tb_mem 1176 (by decide +kernel) (by decide +kernel)
theorem mi_X5_fails : Cond.instanceMethod yX5_fails ∈ TB := tb_mem 1178 (by decide +kernel) (by decide +kernel)
theorem mv_X5_fails : Cond.selects yX5_fails.cls yX5_fails yX5_fails ∈ TB := tb_mem 63 (by decide +kernel) (by decide +kernel)
theorem lc_X5_fails : LC yX5_fails cX5_fails mX5_fails 0 := ⟨tb_mem 73 (by decide +kernel) (by decide +kernel), tb_mem 1179 (by decide +kernel) (by decide +kernel), by decide +kernel, by decide +kernel, by decide +kernel⟩
theorem ml_RX5_251 : Cond.methodLink RX5 251 yX5_isFive ∈ TB := tb_mem 1168 (by decide +kernel) (by decide +kernel)
theorem mi_X5_isFive : Cond.instanceMethod yX5_isFive ∈ TB := tb_mem 1170 (by decide +kernel) (by decide +kernel)
theorem mv_X5_isFive : Cond.selects yX5_isFive.cls yX5_isFive yX5_isFive ∈ TB := tb_mem 61 (by decide +kernel) (by decide +kernel)
theorem lc_X5_isFive : LC yX5_isFive cX5_isFive mX5_isFive 5 := ⟨tb_mem 73 (by decide +kernel) (by decide +kernel), tb_mem 1171 (by decide +kernel) (by decide +kernel), by decide +kernel, by decide +kernel, by decide +kernel⟩
theorem ml_RX5_248 : Cond.methodLink RX5 248 yX5_isFour ∈ TB := tb_mem 1156 (by decide +kernel) (by decide +kernel)
theorem mi_X5_isFour : Cond.instanceMethod yX5_isFour ∈ TB := tb_mem 1158 (by decide +kernel) (by decide +kernel)
theorem mv_X5_isFour : Cond.selects yX5_isFour.cls yX5_isFour yX5_isFour ∈ TB := tb_mem 58 (by decide +kernel) (by decide +kernel)
theorem lc_X5_isFour : LC yX5_isFour cX5_isFour mX5_isFour 4 := ⟨tb_mem 73 (by decide +kernel) (by decide +kernel), tb_mem 1159 (by decide +kernel) (by decide +kernel), by decide +kernel, by decide +kernel, by decide +kernel⟩
theorem ml_RX5_255 : Cond.methodLink RX5 255 yX5_nextToken ∈ TB := tb_mem 1134 (by decide +kernel) (by decide +kernel)
theorem mi_X5_nextToken : Cond.instanceMethod yX5_nextToken ∈ TB := tb_mem 1136 (by decide +kernel) (by decide +kernel)
theorem mv_X5_nextToken : Cond.selects yX5_nextToken.cls yX5_nextToken yX5_nextToken ∈ TB := tb_mem 54 (by decide +kernel) (by decide +kernel)
theorem lc_X5_nextToken : LC yX5_nextToken cX5_nextToken mX5_nextToken 0 := ⟨tb_mem 73 (by decide +kernel) (by decide +kernel), tb_mem 1137 (by decide +kernel) (by decide +kernel), by decide +kernel, by decide +kernel, by decide +kernel⟩
theorem ml_RX5_258 : Cond.methodLink RX5 258 yX5_isNumber ∈ TB := tb_mem 1184 (by decide +kernel) (by decide +kernel)
theorem mi_X5_isNumber : Cond.instanceMethod yX5_isNumber ∈ TB := tb_mem 1186 (by decide +kernel) (by decide +kernel)
theorem mv_X5_isNumber : Cond.selects yX5_isNumber.cls yX5_isNumber yX5_isNumber ∈ TB := tb_mem 65 (by decide +kernel) (by decide +kernel)
theorem lc_X5_isNumber : LC yX5_isNumber cX5_isNumber mX5_isNumber 2 := ⟨tb_mem 73 (by decide +kernel) (by decide +kernel), tb_mem 1187 (by decide +kernel) (by decide +kernel), by decide +kernel, by decide +kernel, by decide +kernel⟩
theorem ml_RX5_261 : Cond.methodLink RX5 261 yX5_perhaps ∈ TB := tb_mem 1180 (by decide +kernel) (by decide +kernel)
theorem mi_X5_perhaps : Cond.instanceMethod yX5_perhaps ∈ TB := tb_mem 1182 (by decide +kernel) (by decide +kernel)
theorem mv_X5_perhaps : Cond.selects yX5_perhaps.cls yX5_perhaps yX5_perhaps ∈ TB := tb_mem 64 (by decide +kernel) (by decide +kernel)
theorem lc_X5_perhaps : LC yX5_perhaps cX5_perhaps mX5_perhaps 3 := ⟨tb_mem 73 (by decide +kernel) (by decide +kernel), tb_mem 1183 (by decide +kernel) (by decide +kernel), by decide +kernel, by decide +kernel, by decide +kernel⟩
theorem ml_RX5_265 : Cond.methodLink RX5 265 yX5_kindHere ∈ TB := tb_mem 1152 (by decide +kernel) (by decide +kernel)
theorem mi_X5_kindHere : Cond.instanceMethod yX5_kindHere ∈ TB := tb_mem 1154 (by decide +kernel) (by decide +kernel)
theorem mv_X5_kindHere : Cond.selects yX5_kindHere.cls yX5_kindHere yX5_kindHere ∈ TB := tb_mem 57 (by decide +kernel) (by decide +kernel)
theorem lc_X5_kindHere : LC yX5_kindHere cX5_kindHere mX5_kindHere 0 := ⟨tb_mem 73 (by decide +kernel) (by decide +kernel), tb_mem 1155 (by decide +kernel) (by decide +kernel), by decide +kernel, by decide +kernel, by decide +kernel⟩
theorem ml_RX5_271 : Cond.methodLink RX5 271 yX5_grassHere ∈ TB := tb_mem 1188 (by decide +kernel) (by decide +kernel)
theorem mi_X5_grassHere : Cond.instanceMethod yX5_grassHere ∈ TB := tb_mem 1190 (by decide +kernel) (by decide +kernel)
theorem mv_X5_grassHere : Cond.selects yX5_grassHere.cls yX5_grassHere yX5_grassHere ∈ TB := tb_mem 66 (by decide +kernel) (by decide +kernel)
theorem lc_X5_grassHere : LC yX5_grassHere cX5_grassHere mX5_grassHere 0 := ⟨tb_mem 73 (by decide +kernel) (by decide +kernel), tb_mem 1191 (by decide +kernel) (by decide +kernel), by decide +kernel, by decide +kernel, by decide +kernel⟩
theorem ml_RX5_268 : Cond.methodLink RX5 268 yX5_goatHere ∈ TB := tb_mem 1172 (by decide +kernel) (by decide +kernel)
theorem mi_X5_goatHere : Cond.instanceMethod yX5_goatHere ∈ TB := tb_mem 1174 (by decide +kernel) (by decide +kernel)
theorem mv_X5_goatHere : Cond.selects yX5_goatHere.cls yX5_goatHere yX5_goatHere ∈ TB := tb_mem 62 (by decide +kernel) (by decide +kernel)
theorem lc_X5_goatHere : LC yX5_goatHere cX5_goatHere mX5_goatHere 1 := ⟨tb_mem 73 (by decide +kernel) (by decide +kernel), tb_mem 1175 (by decide +kernel) (by decide +kernel), by decide +kernel, by decide +kernel, by decide +kernel⟩
theorem fl_RX5_16 : FL RX5 16 5 2 := ⟨RX5, TX5, 16, rfl, by decide, tb_mem 788 (by decide +kernel) (by decide +kernel), inX5⟩
theorem ml_RX5_274 : Cond.methodLink RX5 274 yX5_itemHere ∈ TB := tb_mem 1148 (by decide +kernel) (by decide +kernel)
theorem mi_X5_itemHere : Cond.instanceMethod yX5_itemHere ∈ TB := tb_mem 1150 (by decide +kernel) (by decide +kernel)
theorem mv_X5_itemHere : Cond.selects yX5_itemHere.cls yX5_itemHere yX5_itemHere ∈ TB := tb_mem 56 (by decide +kernel) (by decide +kernel)
theorem lc_X5_itemHere : LC yX5_itemHere cX5_itemHere mX5_itemHere 0 := ⟨tb_mem 73 (by decide +kernel) (by decide +kernel), tb_mem 1151 (by decide +kernel) (by decide +kernel), by decide +kernel, by decide +kernel, by decide +kernel⟩
theorem ml_RX5_278 : Cond.methodLink RX5 278 yX5_isUnder ∈ TB := tb_mem 1200 (by decide +kernel) (by decide +kernel)
theorem ms_X5_isUnder : Cond.static yX5_isUnder ∈ TB := tb_mem 1201 (by decide +kernel) (by decide +kernel)
theorem lc_X5_isUnder : LC yX5_isUnder cX5_isUnder mX5_isUnder 2 := ⟨tb_mem 73 (by decide +kernel) (by decide +kernel), tb_mem 1202 (by decide +kernel) (by decide +kernel), by decide +kernel, by decide +kernel, by decide +kernel⟩
theorem k_RX5_281 : Cond.constant RX5 281 (-1000003) ∈ TB := tb_mem 1203 (by decide +kernel) (by decide +kernel)
theorem k_RX5_285 : Cond.constant RX5 285 (-1000007) ∈ TB := tb_mem 1208 (by decide +kernel) (by decide +kernel)
theorem fl_RX5_13 : FL RX5 13 5 1 := ⟨RX5, TX5, 16, rfl, by decide, tb_mem 787 (by decide +kernel) (by decide +kernel), inX5⟩
theorem fl_RX5_286 : FL RX5 286 5 4 := ⟨RX5, TX5, 16, rfl, by decide, tb_mem 790 (by decide +kernel) (by decide +kernel), inX5⟩
theorem fp_5_4 : FP 5 4 .boolean := ⟨RX5, TX5, 16, tyX5, rfl, tyX5_ok, nmX5, rfl, by decide +kernel⟩
theorem k_RX5_290 : Cond.constantLong RX5 290 (-1) ∈ TB := tb_mem 1245 (by decide +kernel) (by decide +kernel)
end
section
-- bitCount(I)I
def fJ6_bitCount_0f7a4 (a1 : Int32) (S : St) : Option (Int32 × St) :=
  bnd (a1 - ((((a1 : Int32).toUInt32 >>> ((1 : Int32).toUInt32 &&& Int32.toUInt32 31)).toInt32) &&& 1431655765)) fun v1 =>
  bnd ((v1 &&& 858993459) + ((((v1 : Int32).toUInt32 >>> ((2 : Int32).toUInt32 &&& Int32.toUInt32 31)).toInt32) &&& 858993459)) fun v2 =>
  bnd ((v2 + (((v2 : Int32).toUInt32 >>> ((4 : Int32).toUInt32 &&& Int32.toUInt32 31)).toInt32)) &&& 252645135) fun v3 =>
  bnd (v3 + (((v3 : Int32).toUInt32 >>> ((8 : Int32).toUInt32 &&& Int32.toUInt32 31)).toInt32)) fun v4 =>
  bnd (v4 + (((v4 : Int32).toUInt32 >>> ((16 : Int32).toUInt32 &&& Int32.toUInt32 31)).toInt32)) fun v5 =>
  some (v5 &&& 63, S)
theorem sJ6_bitCount_0f7a4 {a1 : Int32} {S : St} {r : Int32} {S9 : St} (h : fJ6_bitCount_0f7a4 a1 S = some (r, S9)) : PW mJ6_bitCount_0f7a4 (some (.int r), S9) 0 [some (.int a1)] [] S := by
  unfold fJ6_bitCount_0f7a4 at h
  refine p_iload_n (k := 0) (i := 0) rfl rfl rfl ?_
  refine p_iload_n (k := 1) (i := 0) rfl rfl rfl ?_
  refine p_iconst (k := 2) 1 rfl (by decide) ?_
  refine p_iushr (k := 3) rfl ?_
  refine p_ldcw (k := 4) rfl k_RJ6_265 ?_
  refine p_iand (k := 5) rfl ?_
  refine p_isub (k := 6) rfl ?_
  refine s_bnd h (fun v1 h => ?_)
  refine p_istore_n (k := 7) 0 [some (.int v1)] rfl rfl rfl (by decide) rfl ?_
  refine p_iload_n (k := 8) (i := 0) rfl rfl rfl ?_
  refine p_ldcw (k := 9) rfl k_RJ6_266 ?_
  refine p_iand (k := 10) rfl ?_
  refine p_iload_n (k := 11) (i := 0) rfl rfl rfl ?_
  refine p_iconst (k := 12) 2 rfl (by decide) ?_
  refine p_iushr (k := 13) rfl ?_
  refine p_ldcw (k := 14) rfl k_RJ6_266 ?_
  refine p_iand (k := 15) rfl ?_
  refine p_iadd (k := 16) rfl ?_
  refine s_bnd h (fun v2 h => ?_)
  refine p_istore_n (k := 17) 0 [some (.int v2)] rfl rfl rfl (by decide) rfl ?_
  refine p_iload_n (k := 18) (i := 0) rfl rfl rfl ?_
  refine p_iload_n (k := 19) (i := 0) rfl rfl rfl ?_
  refine p_iconst (k := 20) 4 rfl (by decide) ?_
  refine p_iushr (k := 21) rfl ?_
  refine p_iadd (k := 22) rfl ?_
  refine p_ldcw (k := 23) rfl k_RJ6_267 ?_
  refine p_iand (k := 24) rfl ?_
  refine s_bnd h (fun v3 h => ?_)
  refine p_istore_n (k := 25) 0 [some (.int v3)] rfl rfl rfl (by decide) rfl ?_
  refine p_iload_n (k := 26) (i := 0) rfl rfl rfl ?_
  refine p_iload_n (k := 27) (i := 0) rfl rfl rfl ?_
  refine p_bipush (k := 28) 8 rfl (by decide) ?_
  refine p_iushr (k := 29) rfl ?_
  refine p_iadd (k := 30) rfl ?_
  refine s_bnd h (fun v4 h => ?_)
  refine p_istore_n (k := 31) 0 [some (.int v4)] rfl rfl rfl (by decide) rfl ?_
  refine p_iload_n (k := 32) (i := 0) rfl rfl rfl ?_
  refine p_iload_n (k := 33) (i := 0) rfl rfl rfl ?_
  refine p_bipush (k := 34) 16 rfl (by decide) ?_
  refine p_iushr (k := 35) rfl ?_
  refine p_iadd (k := 36) rfl ?_
  refine s_bnd h (fun v5 h => ?_)
  refine p_istore_n (k := 37) 0 [some (.int v5)] rfl rfl rfl (by decide) rfl ?_
  refine p_iload_n (k := 38) (i := 0) rfl rfl rfl ?_
  refine p_bipush (k := 39) 63 rfl (by decide) ?_
  refine p_iand (k := 40) rfl ?_
  exact s_iret h (k := 41) rfl rfl
theorem tJ6_bitCount_0f7a4 {a1 : Int32} {S : St} {r : Int32} {S9 : St} (h : fJ6_bitCount_0f7a4 a1 S = some (r, S9)) : MR yJ6_bitCount_0f7a4 cJ6_bitCount_0f7a4 mJ6_bitCount_0f7a4 [.int a1] S (some (.int r), S9) := MR.of (n := 0) okJ6_bitCount_0f7a4 rfl rfl (sJ6_bitCount_0f7a4 h)
-- hasBit(II)Z
def fX4_hasBit_L13 (y0 : Int32) (S : St) : Option (Int32 × St) :=
  retN .boolean y0 S
theorem sX4_hasBit_L13 {r : Int32} {S9 : St} {y0 : Int32} {S : St} (h : fX4_hasBit_L13 y0 S = some (r, S9)) : PW mX4_hasBit (some (.int r), S9) 13 [none, none] [.int y0] S := by
  unfold fX4_hasBit_L13 at h
  exact s_zret h (k := 9) rfl rfl
def fX4_hasBit (a1 : Int32) (a2 : Int32) (S : St) : Option (Int32 × St) :=
  if ((a1 >>> (a2 &&& 31)) &&& 1) = 0 then
    fX4_hasBit_L13 0 S
  else
    fX4_hasBit_L13 1 S
theorem sX4_hasBit {a1 : Int32} {a2 : Int32} {S : St} {r : Int32} {S9 : St} (h : fX4_hasBit a1 a2 S = some (r, S9)) : PW mX4_hasBit (some (.int r), S9) 0 [some (.int a1), some (.int a2)] [] S := by
  unfold fX4_hasBit at h
  refine p_iload_n (k := 0) (i := 0) rfl rfl rfl ?_
  refine p_iload_n (k := 1) (i := 1) rfl rfl rfl ?_
  refine p_ishr (k := 2) rfl ?_
  refine p_iconst (k := 3) 1 rfl (by decide) ?_
  refine p_iand (k := 4) rfl ?_
  refine p_if_eq (k := 5) 12 rfl (by decide) (fun hc => ?_) (fun hc => ?_)
  · rw [if_pos hc] at h
    refine p_iconst (k := 8) 0 rfl (by decide) ?_
    refine p_msk [false, false] (L2 := [none, none]) rfl ?_
    exact sX4_hasBit_L13 h
  · rw [if_neg hc] at h
    refine p_iconst (k := 6) 1 rfl (by decide) ?_
    refine p_goto (k := 7) 13 rfl (by decide) ?_
    refine p_msk [false, false] (L2 := [none, none]) rfl ?_
    exact sX4_hasBit_L13 h
theorem tX4_hasBit {a1 : Int32} {a2 : Int32} {S : St} {r : Int32} {S9 : St} (h : fX4_hasBit a1 a2 S = some (r, S9)) : MR yX4_hasBit cX4_hasBit mX4_hasBit [.int a1, .int a2] S (some (.int r), S9) := MR.of (n := 0) okX4_hasBit rfl rfl (sX4_hasBit h)
-- leastBit(I)I
def fX4_leastBit (a1 : Int32) (S : St) : Option (Int32 × St) :=
  some (a1 &&& (-a1), S)
theorem sX4_leastBit {a1 : Int32} {S : St} {r : Int32} {S9 : St} (h : fX4_leastBit a1 S = some (r, S9)) : PW mX4_leastBit (some (.int r), S9) 0 [some (.int a1)] [] S := by
  unfold fX4_leastBit at h
  refine p_iload_n (k := 0) (i := 0) rfl rfl rfl ?_
  refine p_iload_n (k := 1) (i := 0) rfl rfl rfl ?_
  refine p_ineg (k := 2) rfl ?_
  refine p_iand (k := 3) rfl ?_
  exact s_iret h (k := 4) rfl rfl
theorem tX4_leastBit {a1 : Int32} {S : St} {r : Int32} {S9 : St} (h : fX4_leastBit a1 S = some (r, S9)) : MR yX4_leastBit cX4_leastBit mX4_leastBit [.int a1] S (some (.int r), S9) := MR.of (n := 0) okX4_leastBit rfl rfl (sX4_leastBit h)
-- become(LGoatShelves$Cliff;)V
def fX0_become (b : Nat) (a1 : Nat) (S : St) : Option (Unit × St) :=
  ac S (a1 + 1) (b + 1) 12 12 0 0 12 fun S1 =>
  ac S1 (a1 + 2) (b + 2) 8 8 0 0 8 fun S2 =>
  ac S2 (a1 + 3) (b + 3) 8 8 0 0 8 fun S3 =>
  ac S3 (a1 + 4) (b + 4) 8 8 0 0 8 fun S4 =>
  ac S4 (a1 + 5) (b + 5) 8 8 0 0 8 fun S5 =>
  ac S5 (a1 + 6) (b + 6) 8 8 0 0 8 fun S6 =>
  ac S6 (a1 + 7) (b + 7) 8 8 0 0 8 fun S7 =>
  ac S7 (a1 + 8) (b + 8) 10 10 0 0 10 fun S8 =>
  bnd (up2 S8 b 8 (S8 a1 8)) fun S9 =>
  bnd (up2 S9 b 9 (S9 a1 9)) fun S10 =>
  bnd (up2 S10 b 10 (S10 a1 10)) fun S11 =>
  bnd (up2 S11 b 11 (S11 a1 11)) fun S12 =>
  bnd (up2 S12 b 12 (S12 a1 12)) fun S13 =>
  bnd (up2 S13 b 13 (S13 a1 13)) fun S14 =>
  some ((), S14)
theorem sX0_become {b : Nat} {a1 : Nat} (hb : isC b) (h1 : isC a1) {S : St} {r : Unit} {S9 : St} (h : fX0_become b a1 S = some (r, S9)) : PW mX0_become (none, S9) 0 [some (.ref b), some (.ref a1)] [] S := by
  unfold fX0_become at h
  refine p_aload_n (k := 0) (i := 1) rfl rfl rfl ?_
  refine p_getr (k := 1) rfl (lay_c h1) rfl fl_RX0_11 ?_
  refine p_iconst (k := 2) 0 rfl (by decide) ?_
  refine p_aload_n (k := 3) (i := 0) rfl rfl rfl ?_
  refine p_getr (k := 4) rfl (lay_c hb) rfl fl_RX0_11 ?_
  refine p_iconst (k := 5) 0 rfl (by decide) ?_
  refine p_bipush (k := 6) 12 rfl (by decide) ?_
  refine s_ac [] h (k := 7) rfl ml_RX0_46 cp_native cp_static cp_init (lay_c0 h1) (lay_c0 hb) (by decide) (Nat.le_of_ble_eq_true rfl) (fun S1 h => ?_)
  refine p_aload_n (k := 8) (i := 1) rfl rfl rfl ?_
  refine p_getr (k := 9) rfl (lay_c h1) rfl fl_RX0_15 ?_
  refine p_iconst (k := 10) 0 rfl (by decide) ?_
  refine p_aload_n (k := 11) (i := 0) rfl rfl rfl ?_
  refine p_getr (k := 12) rfl (lay_c hb) rfl fl_RX0_15 ?_
  refine p_iconst (k := 13) 0 rfl (by decide) ?_
  refine p_bipush (k := 14) 8 rfl (by decide) ?_
  refine s_ac [] h (k := 15) rfl ml_RX0_46 cp_native cp_static cp_init (lay_c1 h1) (lay_c1 hb) (by decide) (Nat.le_of_ble_eq_true rfl) (fun S2 h => ?_)
  refine p_aload_n (k := 16) (i := 1) rfl rfl rfl ?_
  refine p_getr (k := 17) rfl (lay_c h1) rfl fl_RX0_18 ?_
  refine p_iconst (k := 18) 0 rfl (by decide) ?_
  refine p_aload_n (k := 19) (i := 0) rfl rfl rfl ?_
  refine p_getr (k := 20) rfl (lay_c hb) rfl fl_RX0_18 ?_
  refine p_iconst (k := 21) 0 rfl (by decide) ?_
  refine p_bipush (k := 22) 8 rfl (by decide) ?_
  refine s_ac [] h (k := 23) rfl ml_RX0_46 cp_native cp_static cp_init (lay_c2 h1) (lay_c2 hb) (by decide) (Nat.le_of_ble_eq_true rfl) (fun S3 h => ?_)
  refine p_aload_n (k := 24) (i := 1) rfl rfl rfl ?_
  refine p_getr (k := 25) rfl (lay_c h1) rfl fl_RX0_21 ?_
  refine p_iconst (k := 26) 0 rfl (by decide) ?_
  refine p_aload_n (k := 27) (i := 0) rfl rfl rfl ?_
  refine p_getr (k := 28) rfl (lay_c hb) rfl fl_RX0_21 ?_
  refine p_iconst (k := 29) 0 rfl (by decide) ?_
  refine p_bipush (k := 30) 8 rfl (by decide) ?_
  refine s_ac [] h (k := 31) rfl ml_RX0_46 cp_native cp_static cp_init (lay_c3 h1) (lay_c3 hb) (by decide) (Nat.le_of_ble_eq_true rfl) (fun S4 h => ?_)
  refine p_aload_n (k := 32) (i := 1) rfl rfl rfl ?_
  refine p_getr (k := 33) rfl (lay_c h1) rfl fl_RX0_24 ?_
  refine p_iconst (k := 34) 0 rfl (by decide) ?_
  refine p_aload_n (k := 35) (i := 0) rfl rfl rfl ?_
  refine p_getr (k := 36) rfl (lay_c hb) rfl fl_RX0_24 ?_
  refine p_iconst (k := 37) 0 rfl (by decide) ?_
  refine p_bipush (k := 38) 8 rfl (by decide) ?_
  refine s_ac [] h (k := 39) rfl ml_RX0_46 cp_native cp_static cp_init (lay_c4 h1) (lay_c4 hb) (by decide) (Nat.le_of_ble_eq_true rfl) (fun S5 h => ?_)
  refine p_aload_n (k := 40) (i := 1) rfl rfl rfl ?_
  refine p_getr (k := 41) rfl (lay_c h1) rfl fl_RX0_27 ?_
  refine p_iconst (k := 42) 0 rfl (by decide) ?_
  refine p_aload_n (k := 43) (i := 0) rfl rfl rfl ?_
  refine p_getr (k := 44) rfl (lay_c hb) rfl fl_RX0_27 ?_
  refine p_iconst (k := 45) 0 rfl (by decide) ?_
  refine p_bipush (k := 46) 8 rfl (by decide) ?_
  refine s_ac [] h (k := 47) rfl ml_RX0_46 cp_native cp_static cp_init (lay_c5 h1) (lay_c5 hb) (by decide) (Nat.le_of_ble_eq_true rfl) (fun S6 h => ?_)
  refine p_aload_n (k := 48) (i := 1) rfl rfl rfl ?_
  refine p_getr (k := 49) rfl (lay_c h1) rfl fl_RX0_30 ?_
  refine p_iconst (k := 50) 0 rfl (by decide) ?_
  refine p_aload_n (k := 51) (i := 0) rfl rfl rfl ?_
  refine p_getr (k := 52) rfl (lay_c hb) rfl fl_RX0_30 ?_
  refine p_iconst (k := 53) 0 rfl (by decide) ?_
  refine p_bipush (k := 54) 8 rfl (by decide) ?_
  refine s_ac [] h (k := 55) rfl ml_RX0_46 cp_native cp_static cp_init (lay_c6 h1) (lay_c6 hb) (by decide) (Nat.le_of_ble_eq_true rfl) (fun S7 h => ?_)
  refine p_aload_n (k := 56) (i := 1) rfl rfl rfl ?_
  refine p_getr (k := 57) rfl (lay_c h1) rfl fl_RX0_33 ?_
  refine p_iconst (k := 58) 0 rfl (by decide) ?_
  refine p_aload_n (k := 59) (i := 0) rfl rfl rfl ?_
  refine p_getr (k := 60) rfl (lay_c hb) rfl fl_RX0_33 ?_
  refine p_iconst (k := 61) 0 rfl (by decide) ?_
  refine p_bipush (k := 62) 10 rfl (by decide) ?_
  refine s_ac [] h (k := 63) rfl ml_RX0_46 cp_native cp_static cp_init (lay_c7 h1) (lay_c7 hb) (by decide) (Nat.le_of_ble_eq_true rfl) (fun S8 h => ?_)
  refine p_aload_n (k := 64) (i := 0) rfl rfl rfl ?_
  refine p_aload_n (k := 65) (i := 1) rfl rfl rfl ?_
  refine p_geti (k := 66) rfl (lay_c h1) rfl fl_RX0_52 ?_
  refine s_put h (k := 67) rfl (lay_c hb) rfl fl_RX0_52 fp_0_8 rfl rfl (fun S9 h => ?_)
  refine p_aload_n (k := 68) (i := 0) rfl rfl rfl ?_
  refine p_aload_n (k := 69) (i := 1) rfl rfl rfl ?_
  refine p_geti (k := 70) rfl (lay_c h1) rfl fl_RX0_55 ?_
  refine s_put h (k := 71) rfl (lay_c hb) rfl fl_RX0_55 fp_0_9 rfl rfl (fun S10 h => ?_)
  refine p_aload_n (k := 72) (i := 0) rfl rfl rfl ?_
  refine p_aload_n (k := 73) (i := 1) rfl rfl rfl ?_
  refine p_geti (k := 74) rfl (lay_c h1) rfl fl_RX0_36 ?_
  refine s_put h (k := 75) rfl (lay_c hb) rfl fl_RX0_36 fp_0_10 rfl rfl (fun S11 h => ?_)
  refine p_aload_n (k := 76) (i := 0) rfl rfl rfl ?_
  refine p_aload_n (k := 77) (i := 1) rfl rfl rfl ?_
  refine p_geti (k := 78) rfl (lay_c h1) rfl fl_RX0_40 ?_
  refine s_put h (k := 79) rfl (lay_c hb) rfl fl_RX0_40 fp_0_11 rfl rfl (fun S12 h => ?_)
  refine p_aload_n (k := 80) (i := 0) rfl rfl rfl ?_
  refine p_aload_n (k := 81) (i := 1) rfl rfl rfl ?_
  refine p_geti (k := 82) rfl (lay_c h1) rfl fl_RX0_58 ?_
  refine s_put h (k := 83) rfl (lay_c hb) rfl fl_RX0_58 fp_0_12 rfl rfl (fun S13 h => ?_)
  refine p_aload_n (k := 84) (i := 0) rfl rfl rfl ?_
  refine p_aload_n (k := 85) (i := 1) rfl rfl rfl ?_
  refine p_geti (k := 86) rfl (lay_c h1) rfl fl_RX0_43 ?_
  refine s_put h (k := 87) rfl (lay_c hb) rfl fl_RX0_43 fp_0_13 rfl rfl (fun S14 h => ?_)
  exact s_vret h (k := 88) rfl rfl
theorem tX0_become {b : Nat} {a1 : Nat} (hb : isC b) (h1 : isC a1) {S : St} {r : Unit} {S9 : St} (h : fX0_become b a1 S = some (r, S9)) : MR yX0_become cX0_become mX0_become [.ref b, .ref a1] S (none, S9) := MR.of (n := 0) okX0_become rfl rfl (sX0_become hb h1 h)
-- isFull()Z
def fX0_isFull_L14 (b : Nat) (y0 : Int32) (S : St) : Option (Int32 × St) :=
  retN .boolean y0 S
theorem sX0_isFull_L14 {b : Nat} (hb : isC b) {r : Int32} {S9 : St} {y0 : Int32} {S : St} (h : fX0_isFull_L14 b y0 S = some (r, S9)) : PW mX0_isFull (some (.int r), S9) 14 [none] [.int y0] S := by
  unfold fX0_isFull_L14 at h
  exact s_zret h (k := 7) rfl rfl
def fX0_isFull (b : Nat) (S : St) : Option (Int32 × St) :=
  if (S b 8) < 8 then
    fX0_isFull_L14 b 0 S
  else
    fX0_isFull_L14 b 1 S
theorem sX0_isFull {b : Nat} (hb : isC b) {S : St} {r : Int32} {S9 : St} (h : fX0_isFull b S = some (r, S9)) : PW mX0_isFull (some (.int r), S9) 0 [some (.ref b)] [] S := by
  unfold fX0_isFull at h
  refine p_aload_n (k := 0) (i := 0) rfl rfl rfl ?_
  refine p_geti (k := 1) rfl (lay_c hb) rfl fl_RX0_52 ?_
  refine p_bipush (k := 2) 8 rfl (by decide) ?_
  refine p_icmp_lt (k := 3) 13 rfl (by decide) (fun hc => ?_) (fun hc => ?_)
  · rw [if_pos hc] at h
    refine p_iconst (k := 6) 0 rfl (by decide) ?_
    refine p_msk [false] (L2 := [none]) rfl ?_
    exact sX0_isFull_L14 hb h
  · rw [if_neg hc] at h
    refine p_iconst (k := 4) 1 rfl (by decide) ?_
    refine p_goto (k := 5) 14 rfl (by decide) ?_
    refine p_msk [false] (L2 := [none]) rfl ?_
    exact sX0_isFull_L14 hb h
theorem tX0_isFull {b : Nat} (hb : isC b) {S : St} {r : Int32} {S9 : St} (h : fX0_isFull b S = some (r, S9)) : MR yX0_isFull cX0_isFull mX0_isFull [.ref b] S (some (.int r), S9) := MR.of (n := 0) okX0_isFull rfl rfl (sX0_isFull hb h)
-- addGoat(II)I
def fX0_addGoat (b : Nat) (a1 : Int32) (a2 : Int32) (S : St) : Option (Int32 × St) :=
  bnd (S b 8) fun v1 =>
  wr S (b + 2) 8 v1 a1 fun S1 =>
  wr S1 (b + 3) 8 v1 a2 fun S2 =>
  wr S2 (b + 4) 8 v1 0 fun S3 =>
  wr S3 (b + 5) 8 v1 0 fun S4 =>
  wr S4 (b + 6) 8 v1 30 fun S5 =>
  wr S5 (b + 7) 8 v1 0 fun S6 =>
  bnd (up2 S6 b 8 ((S6 b 8) + 1)) fun S7 =>
  some (v1, S7)
theorem sX0_addGoat {b : Nat} {a1 : Int32} {a2 : Int32} (hb : isC b) {S : St} {r : Int32} {S9 : St} (h : fX0_addGoat b a1 a2 S = some (r, S9)) : PW mX0_addGoat (some (.int r), S9) 0 [some (.ref b), some (.int a1), some (.int a2), none] [] S := by
  unfold fX0_addGoat at h
  refine p_aload_n (k := 0) (i := 0) rfl rfl rfl ?_
  refine p_geti (k := 1) rfl (lay_c hb) rfl fl_RX0_52 ?_
  refine s_bnd h (fun v1 h => ?_)
  refine p_istore_n (k := 2) 3 [some (.ref b), some (.int a1), some (.int a2), some (.int v1)] rfl rfl rfl (by decide) rfl ?_
  refine p_aload_n (k := 3) (i := 0) rfl rfl rfl ?_
  refine p_getr (k := 4) rfl (lay_c hb) rfl fl_RX0_15 ?_
  refine p_iload_n (k := 5) (i := 3) rfl rfl rfl ?_
  refine p_iload_n (k := 6) (i := 1) rfl rfl rfl ?_
  refine s_wr h (k := 7) rfl (lay_c1 hb) (fun S1 h => ?_)
  refine p_aload_n (k := 8) (i := 0) rfl rfl rfl ?_
  refine p_getr (k := 9) rfl (lay_c hb) rfl fl_RX0_18 ?_
  refine p_iload_n (k := 10) (i := 3) rfl rfl rfl ?_
  refine p_iload_n (k := 11) (i := 2) rfl rfl rfl ?_
  refine s_wr h (k := 12) rfl (lay_c2 hb) (fun S2 h => ?_)
  refine p_aload_n (k := 13) (i := 0) rfl rfl rfl ?_
  refine p_getr (k := 14) rfl (lay_c hb) rfl fl_RX0_21 ?_
  refine p_iload_n (k := 15) (i := 3) rfl rfl rfl ?_
  refine p_iconst (k := 16) 0 rfl (by decide) ?_
  refine s_wr h (k := 17) rfl (lay_c3 hb) (fun S3 h => ?_)
  refine p_aload_n (k := 18) (i := 0) rfl rfl rfl ?_
  refine p_getr (k := 19) rfl (lay_c hb) rfl fl_RX0_24 ?_
  refine p_iload_n (k := 20) (i := 3) rfl rfl rfl ?_
  refine p_iconst (k := 21) 0 rfl (by decide) ?_
  refine s_wr h (k := 22) rfl (lay_c4 hb) (fun S4 h => ?_)
  refine p_aload_n (k := 23) (i := 0) rfl rfl rfl ?_
  refine p_getr (k := 24) rfl (lay_c hb) rfl fl_RX0_27 ?_
  refine p_iload_n (k := 25) (i := 3) rfl rfl rfl ?_
  refine p_bipush (k := 26) 30 rfl (by decide) ?_
  refine s_wr h (k := 27) rfl (lay_c5 hb) (fun S5 h => ?_)
  refine p_aload_n (k := 28) (i := 0) rfl rfl rfl ?_
  refine p_getr (k := 29) rfl (lay_c hb) rfl fl_RX0_30 ?_
  refine p_iload_n (k := 30) (i := 3) rfl rfl rfl ?_
  refine p_iconst (k := 31) 0 rfl (by decide) ?_
  refine s_wr h (k := 32) rfl (lay_c6 hb) (fun S6 h => ?_)
  refine p_aload_n (k := 33) (i := 0) rfl rfl rfl ?_
  refine p_dup (k := 34) rfl rfl ?_
  refine p_geti (k := 35) rfl (lay_c hb) rfl fl_RX0_52 ?_
  refine p_iconst (k := 36) 1 rfl (by decide) ?_
  refine p_iadd (k := 37) rfl ?_
  refine s_put h (k := 38) rfl (lay_c hb) rfl fl_RX0_52 fp_0_8 rfl rfl (fun S7 h => ?_)
  refine p_iload_n (k := 39) (i := 3) rfl rfl rfl ?_
  exact s_iret h (k := 40) rfl rfl
theorem tX0_addGoat {b : Nat} {a1 : Int32} {a2 : Int32} (hb : isC b) {S : St} {r : Int32} {S9 : St} (h : fX0_addGoat b a1 a2 S = some (r, S9)) : MR yX0_addGoat cX0_addGoat mX0_addGoat [.ref b, .int a1, .int a2] S (some (.int r), S9) := MR.of (n := 1) okX0_addGoat rfl rfl (sX0_addGoat hb h)
-- trait(II)I
def fX0_trait (b : Nat) (a1 : Int32) (a2 : Int32) (S : St) : Option (Int32 × St) :=
  if a2 = 0 then
    rd S (b + 2) 8 a1 fun v1 =>
    some (v1, S)
  else
  if a2 = 1 then
    rd S (b + 3) 8 a1 fun v2 =>
    some (v2, S)
  else
  if a2 = 2 then
    rd S (b + 4) 8 a1 fun v3 =>
    some (v3, S)
  else
  if a2 = 3 then
    rd S (b + 5) 8 a1 fun v4 =>
    some (v4, S)
  else
  if a2 = 4 then
    rd S (b + 6) 8 a1 fun v5 =>
    some (v5, S)
  else
  rd S (b + 7) 8 a1 fun v6 =>
  some (v6, S)
theorem sX0_trait {b : Nat} {a1 : Int32} {a2 : Int32} (hb : isC b) {S : St} {r : Int32} {S9 : St} (h : fX0_trait b a1 a2 S = some (r, S9)) : PW mX0_trait (some (.int r), S9) 0 [some (.ref b), some (.int a1), some (.int a2)] [] S := by
  unfold fX0_trait at h
  refine p_iload_n (k := 0) (i := 2) rfl rfl rfl ?_
  by_cases hx0 : a2 = 0
  · rw [if_pos hx0] at h
    refine p_tableIn (k := 1) (off := 35) 36 rfl (by rw [hx0]; decide) (by rw [hx0]; decide) (by rw [hx0]; decide) (by decide) ?_
    refine p_aload_n (k := 2) (i := 0) rfl rfl rfl ?_
    refine p_getr (k := 3) rfl (lay_c hb) rfl fl_RX0_15 ?_
    refine p_iload_n (k := 4) (i := 1) rfl rfl rfl ?_
    refine s_rd h (k := 5) rfl (lay_c1 hb) (fun v1 h => ?_)
    exact s_iret h (k := 6) rfl rfl
  rw [if_neg hx0] at h
  by_cases hx1 : a2 = 1
  · rw [if_pos hx1] at h
    refine p_tableIn (k := 1) (off := 42) 43 rfl (by rw [hx1]; decide) (by rw [hx1]; decide) (by rw [hx1]; decide) (by decide) ?_
    refine p_aload_n (k := 7) (i := 0) rfl rfl rfl ?_
    refine p_getr (k := 8) rfl (lay_c hb) rfl fl_RX0_18 ?_
    refine p_iload_n (k := 9) (i := 1) rfl rfl rfl ?_
    refine s_rd h (k := 10) rfl (lay_c2 hb) (fun v2 h => ?_)
    exact s_iret h (k := 11) rfl rfl
  rw [if_neg hx1] at h
  by_cases hx2 : a2 = 2
  · rw [if_pos hx2] at h
    refine p_tableIn (k := 1) (off := 49) 50 rfl (by rw [hx2]; decide) (by rw [hx2]; decide) (by rw [hx2]; decide) (by decide) ?_
    refine p_aload_n (k := 12) (i := 0) rfl rfl rfl ?_
    refine p_getr (k := 13) rfl (lay_c hb) rfl fl_RX0_21 ?_
    refine p_iload_n (k := 14) (i := 1) rfl rfl rfl ?_
    refine s_rd h (k := 15) rfl (lay_c3 hb) (fun v3 h => ?_)
    exact s_iret h (k := 16) rfl rfl
  rw [if_neg hx2] at h
  by_cases hx3 : a2 = 3
  · rw [if_pos hx3] at h
    refine p_tableIn (k := 1) (off := 56) 57 rfl (by rw [hx3]; decide) (by rw [hx3]; decide) (by rw [hx3]; decide) (by decide) ?_
    refine p_aload_n (k := 17) (i := 0) rfl rfl rfl ?_
    refine p_getr (k := 18) rfl (lay_c hb) rfl fl_RX0_24 ?_
    refine p_iload_n (k := 19) (i := 1) rfl rfl rfl ?_
    refine s_rd h (k := 20) rfl (lay_c4 hb) (fun v4 h => ?_)
    exact s_iret h (k := 21) rfl rfl
  rw [if_neg hx3] at h
  by_cases hx4 : a2 = 4
  · rw [if_pos hx4] at h
    refine p_tableIn (k := 1) (off := 63) 64 rfl (by rw [hx4]; decide) (by rw [hx4]; decide) (by rw [hx4]; decide) (by decide) ?_
    refine p_aload_n (k := 22) (i := 0) rfl rfl rfl ?_
    refine p_getr (k := 23) rfl (lay_c hb) rfl fl_RX0_27 ?_
    refine p_iload_n (k := 24) (i := 1) rfl rfl rfl ?_
    refine s_rd h (k := 25) rfl (lay_c5 hb) (fun v5 h => ?_)
    exact s_iret h (k := 26) rfl rfl
  rw [if_neg hx4] at h
  have hz0 := toInt_ne hx0 (z := 0) (by decide)
  have hz1 := toInt_ne hx1 (z := 1) (by decide)
  have hz2 := toInt_ne hx2 (z := 2) (by decide)
  have hz3 := toInt_ne hx3 (z := 3) (by decide)
  have hz4 := toInt_ne hx4 (z := 4) (by decide)
  refine p_tableOut (k := 1) 71 rfl (by omega) (by decide) ?_
  refine p_aload_n (k := 27) (i := 0) rfl rfl rfl ?_
  refine p_getr (k := 28) rfl (lay_c hb) rfl fl_RX0_30 ?_
  refine p_iload_n (k := 29) (i := 1) rfl rfl rfl ?_
  refine s_rd h (k := 30) rfl (lay_c6 hb) (fun v6 h => ?_)
  exact s_iret h (k := 31) rfl rfl
theorem tX0_trait {b : Nat} {a1 : Int32} {a2 : Int32} (hb : isC b) {S : St} {r : Int32} {S9 : St} (h : fX0_trait b a1 a2 S = some (r, S9)) : MR yX0_trait cX0_trait mX0_trait [.ref b, .int a1, .int a2] S (some (.int r), S9) := MR.of (n := 0) okX0_trait rfl rfl (sX0_trait hb h)
-- setTrait(III)V
def fX0_setTrait_L93 (b : Nat) (S : St) : Option (Unit × St) :=
  some ((), S)
theorem sX0_setTrait_L93 {b : Nat} (hb : isC b) {r : Unit} {S9 : St}  {S : St} (h : fX0_setTrait_L93 b S = some (r, S9)) : PW mX0_setTrait (none, S9) 93 [none, none, none, none] [] S := by
  unfold fX0_setTrait_L93 at h
  exact s_vret h (k := 37) rfl rfl
def fX0_setTrait (b : Nat) (a1 : Int32) (a2 : Int32) (a3 : Int32) (S : St) : Option (Unit × St) :=
  if a2 = 0 then
    wr S (b + 2) 8 a1 a3 fun S1 =>
    fX0_setTrait_L93 b S1
  else
  if a2 = 1 then
    wr S (b + 3) 8 a1 a3 fun S2 =>
    fX0_setTrait_L93 b S2
  else
  if a2 = 2 then
    wr S (b + 4) 8 a1 a3 fun S3 =>
    fX0_setTrait_L93 b S3
  else
  if a2 = 3 then
    wr S (b + 5) 8 a1 a3 fun S4 =>
    fX0_setTrait_L93 b S4
  else
  if a2 = 4 then
    wr S (b + 6) 8 a1 a3 fun S5 =>
    fX0_setTrait_L93 b S5
  else
  wr S (b + 7) 8 a1 a3 fun S6 =>
  fX0_setTrait_L93 b S6
theorem sX0_setTrait {b : Nat} {a1 : Int32} {a2 : Int32} {a3 : Int32} (hb : isC b) {S : St} {r : Unit} {S9 : St} (h : fX0_setTrait b a1 a2 a3 S = some (r, S9)) : PW mX0_setTrait (none, S9) 0 [some (.ref b), some (.int a1), some (.int a2), some (.int a3)] [] S := by
  unfold fX0_setTrait at h
  refine p_iload_n (k := 0) (i := 2) rfl rfl rfl ?_
  by_cases hx0 : a2 = 0
  · rw [if_pos hx0] at h
    refine p_tableIn (k := 1) (off := 35) 36 rfl (by rw [hx0]; decide) (by rw [hx0]; decide) (by rw [hx0]; decide) (by decide) ?_
    refine p_aload_n (k := 2) (i := 0) rfl rfl rfl ?_
    refine p_getr (k := 3) rfl (lay_c hb) rfl fl_RX0_15 ?_
    refine p_iload_n (k := 4) (i := 1) rfl rfl rfl ?_
    refine p_iload_n (k := 5) (i := 3) rfl rfl rfl ?_
    refine s_wr h (k := 6) rfl (lay_c1 hb) (fun S1 h => ?_)
    refine p_goto (k := 7) 93 rfl (by decide) ?_
    refine p_msk [false, false, false, false] (L2 := [none, none, none, none]) rfl ?_
    exact sX0_setTrait_L93 hb h
  rw [if_neg hx0] at h
  by_cases hx1 : a2 = 1
  · rw [if_pos hx1] at h
    refine p_tableIn (k := 1) (off := 45) 46 rfl (by rw [hx1]; decide) (by rw [hx1]; decide) (by rw [hx1]; decide) (by decide) ?_
    refine p_aload_n (k := 8) (i := 0) rfl rfl rfl ?_
    refine p_getr (k := 9) rfl (lay_c hb) rfl fl_RX0_18 ?_
    refine p_iload_n (k := 10) (i := 1) rfl rfl rfl ?_
    refine p_iload_n (k := 11) (i := 3) rfl rfl rfl ?_
    refine s_wr h (k := 12) rfl (lay_c2 hb) (fun S2 h => ?_)
    refine p_goto (k := 13) 93 rfl (by decide) ?_
    refine p_msk [false, false, false, false] (L2 := [none, none, none, none]) rfl ?_
    exact sX0_setTrait_L93 hb h
  rw [if_neg hx1] at h
  by_cases hx2 : a2 = 2
  · rw [if_pos hx2] at h
    refine p_tableIn (k := 1) (off := 55) 56 rfl (by rw [hx2]; decide) (by rw [hx2]; decide) (by rw [hx2]; decide) (by decide) ?_
    refine p_aload_n (k := 14) (i := 0) rfl rfl rfl ?_
    refine p_getr (k := 15) rfl (lay_c hb) rfl fl_RX0_21 ?_
    refine p_iload_n (k := 16) (i := 1) rfl rfl rfl ?_
    refine p_iload_n (k := 17) (i := 3) rfl rfl rfl ?_
    refine s_wr h (k := 18) rfl (lay_c3 hb) (fun S3 h => ?_)
    refine p_goto (k := 19) 93 rfl (by decide) ?_
    refine p_msk [false, false, false, false] (L2 := [none, none, none, none]) rfl ?_
    exact sX0_setTrait_L93 hb h
  rw [if_neg hx2] at h
  by_cases hx3 : a2 = 3
  · rw [if_pos hx3] at h
    refine p_tableIn (k := 1) (off := 65) 66 rfl (by rw [hx3]; decide) (by rw [hx3]; decide) (by rw [hx3]; decide) (by decide) ?_
    refine p_aload_n (k := 20) (i := 0) rfl rfl rfl ?_
    refine p_getr (k := 21) rfl (lay_c hb) rfl fl_RX0_24 ?_
    refine p_iload_n (k := 22) (i := 1) rfl rfl rfl ?_
    refine p_iload_n (k := 23) (i := 3) rfl rfl rfl ?_
    refine s_wr h (k := 24) rfl (lay_c4 hb) (fun S4 h => ?_)
    refine p_goto (k := 25) 93 rfl (by decide) ?_
    refine p_msk [false, false, false, false] (L2 := [none, none, none, none]) rfl ?_
    exact sX0_setTrait_L93 hb h
  rw [if_neg hx3] at h
  by_cases hx4 : a2 = 4
  · rw [if_pos hx4] at h
    refine p_tableIn (k := 1) (off := 75) 76 rfl (by rw [hx4]; decide) (by rw [hx4]; decide) (by rw [hx4]; decide) (by decide) ?_
    refine p_aload_n (k := 26) (i := 0) rfl rfl rfl ?_
    refine p_getr (k := 27) rfl (lay_c hb) rfl fl_RX0_27 ?_
    refine p_iload_n (k := 28) (i := 1) rfl rfl rfl ?_
    refine p_iload_n (k := 29) (i := 3) rfl rfl rfl ?_
    refine s_wr h (k := 30) rfl (lay_c5 hb) (fun S5 h => ?_)
    refine p_goto (k := 31) 93 rfl (by decide) ?_
    refine p_msk [false, false, false, false] (L2 := [none, none, none, none]) rfl ?_
    exact sX0_setTrait_L93 hb h
  rw [if_neg hx4] at h
  have hz0 := toInt_ne hx0 (z := 0) (by decide)
  have hz1 := toInt_ne hx1 (z := 1) (by decide)
  have hz2 := toInt_ne hx2 (z := 2) (by decide)
  have hz3 := toInt_ne hx3 (z := 3) (by decide)
  have hz4 := toInt_ne hx4 (z := 4) (by decide)
  refine p_tableOut (k := 1) 86 rfl (by omega) (by decide) ?_
  refine p_aload_n (k := 32) (i := 0) rfl rfl rfl ?_
  refine p_getr (k := 33) rfl (lay_c hb) rfl fl_RX0_30 ?_
  refine p_iload_n (k := 34) (i := 1) rfl rfl rfl ?_
  refine p_iload_n (k := 35) (i := 3) rfl rfl rfl ?_
  refine s_wr h (k := 36) rfl (lay_c6 hb) (fun S6 h => ?_)
  refine p_msk [false, false, false, false] (L2 := [none, none, none, none]) rfl ?_
  exact sX0_setTrait_L93 hb h
theorem tX0_setTrait {b : Nat} {a1 : Int32} {a2 : Int32} {a3 : Int32} (hb : isC b) {S : St} {r : Unit} {S9 : St} (h : fX0_setTrait b a1 a2 a3 S = some (r, S9)) : MR yX0_setTrait cX0_setTrait mX0_setTrait [.ref b, .int a1, .int a2, .int a3] S (none, S9) := MR.of (n := 0) okX0_setTrait rfl rfl (sX0_setTrait hb h)
-- kindAbove(I)I
def fX0_kindAbove_L38 (S : St) : Option (Int32 × St) :=
  some (0, S)
theorem sX0_kindAbove_L38 {r : Int32} {S9 : St}  {S : St} (h : fX0_kindAbove_L38 S = some (r, S9)) : PW mX0_kindAbove (some (.int r), S9) 38 [none] [] S := by
  unfold fX0_kindAbove_L38 at h
  refine p_iconst (k := 8) 0 rfl (by decide) ?_
  exact s_iret h (k := 9) rfl rfl
def fX0_kindAbove (a1 : Int32) (S : St) : Option (Int32 × St) :=
  if a1 = 3 then
    some (2, S)
  else
  if a1 = 4 then
    some (3, S)
  else
  if a1 = 5 then
    fX0_kindAbove_L38 S
  else
  if a1 = 6 then
    some (1, S)
  else
  fX0_kindAbove_L38 S
theorem sX0_kindAbove {a1 : Int32} {S : St} {r : Int32} {S9 : St} (h : fX0_kindAbove a1 S = some (r, S9)) : PW mX0_kindAbove (some (.int r), S9) 0 [some (.int a1)] [] S := by
  unfold fX0_kindAbove at h
  refine p_iload_n (k := 0) (i := 0) rfl rfl rfl ?_
  by_cases hx0 : a1 = 3
  · rw [if_pos hx0] at h
    refine p_tableIn (k := 1) (off := 31) 32 rfl (by rw [hx0]; decide) (by rw [hx0]; decide) (by rw [hx0]; decide) (by decide) ?_
    refine p_iconst (k := 2) 2 rfl (by decide) ?_
    exact s_iret h (k := 3) rfl rfl
  rw [if_neg hx0] at h
  by_cases hx1 : a1 = 4
  · rw [if_pos hx1] at h
    refine p_tableIn (k := 1) (off := 33) 34 rfl (by rw [hx1]; decide) (by rw [hx1]; decide) (by rw [hx1]; decide) (by decide) ?_
    refine p_iconst (k := 4) 3 rfl (by decide) ?_
    exact s_iret h (k := 5) rfl rfl
  rw [if_neg hx1] at h
  by_cases hx2 : a1 = 5
  · rw [if_pos hx2] at h
    refine p_tableIn (k := 1) (off := 37) 38 rfl (by rw [hx2]; decide) (by rw [hx2]; decide) (by rw [hx2]; decide) (by decide) ?_
    refine p_msk [false] (L2 := [none]) rfl ?_
    exact sX0_kindAbove_L38 h
  rw [if_neg hx2] at h
  by_cases hx3 : a1 = 6
  · rw [if_pos hx3] at h
    refine p_tableIn (k := 1) (off := 35) 36 rfl (by rw [hx3]; decide) (by rw [hx3]; decide) (by rw [hx3]; decide) (by decide) ?_
    refine p_iconst (k := 6) 1 rfl (by decide) ?_
    exact s_iret h (k := 7) rfl rfl
  rw [if_neg hx3] at h
  have hz0 := toInt_ne hx0 (z := 3) (by decide)
  have hz1 := toInt_ne hx1 (z := 4) (by decide)
  have hz2 := toInt_ne hx2 (z := 5) (by decide)
  have hz3 := toInt_ne hx3 (z := 6) (by decide)
  refine p_tableOut (k := 1) 38 rfl (by omega) (by decide) ?_
  refine p_msk [false] (L2 := [none]) rfl ?_
  exact sX0_kindAbove_L38 h
theorem tX0_kindAbove {a1 : Int32} {S : St} {r : Int32} {S9 : St} (h : fX0_kindAbove a1 S = some (r, S9)) : MR yX0_kindAbove cX0_kindAbove mX0_kindAbove [.int a1] S (some (.int r), S9) := MR.of (n := 0) okX0_kindAbove rfl rfl (sX0_kindAbove h)
-- isOfKind(II)Z
def fX0_isOfKind_L40 (y0 : Int32) (S : St) : Option (Int32 × St) :=
  retN .boolean y0 S
theorem sX0_isOfKind_L40 {r : Int32} {S9 : St} {y0 : Int32} {S : St} (h : fX0_isOfKind_L40 y0 S = some (r, S9)) : PW mX0_isOfKind (some (.int r), S9) 40 [none, none, none, none] [.int y0] S := by
  unfold fX0_isOfKind_L40 at h
  exact s_zret h (k := 23) rfl rfl
def fX0_isOfKind_L30 (x1 : Int32) (x2 : Int32) (S : St) : Option (Int32 × St) :=
  if x2 = x1 then
    fX0_isOfKind_L40 1 S
  else
    fX0_isOfKind_L40 0 S
theorem sX0_isOfKind_L30 {r : Int32} {S9 : St} {x1 : Int32} {x2 : Int32} {S : St} (h : fX0_isOfKind_L30 x1 x2 S = some (r, S9)) : PW mX0_isOfKind (some (.int r), S9) 30 [none, some (.int x1), some (.int x2), none] [] S := by
  unfold fX0_isOfKind_L30 at h
  refine p_iload_n (k := 17) (i := 2) rfl rfl rfl ?_
  refine p_iload_n (k := 18) (i := 1) rfl rfl rfl ?_
  refine p_icmp_ne (k := 19) 39 rfl (by decide) (fun hc => ?_) (fun hc => ?_)
  · rw [if_neg hc] at h
    refine p_iconst (k := 22) 0 rfl (by decide) ?_
    refine p_msk [false, false, false, false] (L2 := [none, none, none, none]) rfl ?_
    exact sX0_isOfKind_L40 h
  · rw [if_pos hc] at h
    refine p_iconst (k := 20) 1 rfl (by decide) ?_
    refine p_goto (k := 21) 40 rfl (by decide) ?_
    refine p_msk [false, false, false, false] (L2 := [none, none, none, none]) rfl ?_
    exact sX0_isOfKind_L40 h
def fX0_isOfKind_L4 : Nat → Int32 → Int32 → Int32 → St → Option (Int32 × St)
  | 0 => fun _ _ _ _ => none
  | n + 1 => fun x1 x2 x3 S =>
    if 7 ≤ x3 then
      fX0_isOfKind_L30 x1 x2 S
    else
      if x2 = x1 then
        fX0_isOfKind_L30 x1 x2 S
      else
        if x2 = 0 then
          fX0_isOfKind_L30 x1 x2 S
        else
          cl (fX0_kindAbove x2 S) fun v1 S1 =>
          bnd (x3 + 1) fun v2 =>
          fX0_isOfKind_L4 n x1 v1 v2 S1
theorem sX0_isOfKind_L4 {r : Int32} {S9 : St} : ∀ (n : Nat) (x1 : Int32) (x2 : Int32) (x3 : Int32) (S : St), fX0_isOfKind_L4 n x1 x2 x3 S = some (r, S9) → PW mX0_isOfKind (some (.int r), S9) 4 [none, some (.int x1), some (.int x2), some (.int x3)] [] S := by
  intro n
  induction n with
  | zero => intro x1 x2 x3 S h; cases h
  | succ n ih =>
    intro x1 x2 x3 S h
    unfold fX0_isOfKind_L4 at h
    refine p_iload_n (k := 4) (i := 3) rfl rfl rfl ?_
    refine p_bipush (k := 5) 7 rfl (by decide) ?_
    refine p_icmp_ge (k := 6) 30 rfl (by decide) (fun hc => ?_) (fun hc => ?_)
    · rw [if_pos hc] at h
      refine p_msk [false, true, true, false] (L2 := [none, some (.int x1), some (.int x2), none]) rfl ?_
      exact sX0_isOfKind_L30 h
    · rw [if_neg hc] at h
      refine p_iload_n (k := 7) (i := 2) rfl rfl rfl ?_
      refine p_iload_n (k := 8) (i := 1) rfl rfl rfl ?_
      refine p_icmp_eq (k := 9) 30 rfl (by decide) (fun hc => ?_) (fun hc => ?_)
      · rw [if_pos hc] at h
        refine p_msk [false, true, true, false] (L2 := [none, some (.int x1), some (.int x2), none]) rfl ?_
        exact sX0_isOfKind_L30 h
      · rw [if_neg hc] at h
        refine p_iload_n (k := 10) (i := 2) rfl rfl rfl ?_
        refine p_if_eq (k := 11) 30 rfl (by decide) (fun hc => ?_) (fun hc => ?_)
        · rw [if_pos hc] at h
          refine p_msk [false, true, true, false] (L2 := [none, some (.int x1), some (.int x2), none]) rfl ?_
          exact sX0_isOfKind_L30 h
        · rw [if_neg hc] at h
          refine p_iload_n (k := 12) (i := 2) rfl rfl rfl ?_
          obtain ⟨v1, S1, hcS1, h⟩ := cl_some h
          refine p_callS (k := 13) [.int x2] [] rfl (tX0_kindAbove hcS1) lc_X0_kindAbove ml_RX0_61 ms_X0_kindAbove (by decide) (by decide) (Nat.le_of_ble_eq_true rfl) rfl ?_
          refine p_istore_n (k := 14) 2 [none, some (.int x1), some (.int v1), some (.int x3)] rfl rfl rfl (by decide) rfl ?_
          obtain ⟨v2, ev2, h⟩ := bnd_ex h
          refine p_iinc (k := 15) v2 [none, some (.int x1), some (.int v1), some (.int v2)] rfl rfl (by rw [← ev2]; rfl) rfl (by decide) rfl ?_
          refine p_goto (k := 16) 4 rfl (by decide) ?_
          refine p_msk [false, true, true, true] (L2 := [none, some (.int x1), some (.int v1), some (.int v2)]) rfl ?_
          exact ih _ _ _ _ h
def fX0_isOfKind (a1 : Int32) (a2 : Int32) (S : St) : Option (Int32 × St) :=
  fX0_isOfKind_L4 FU a2 a1 0 S
theorem sX0_isOfKind {a1 : Int32} {a2 : Int32} {S : St} {r : Int32} {S9 : St} (h : fX0_isOfKind a1 a2 S = some (r, S9)) : PW mX0_isOfKind (some (.int r), S9) 0 [some (.int a1), some (.int a2), none, none] [] S := by
  unfold fX0_isOfKind at h
  refine p_iload_n (k := 0) (i := 0) rfl rfl rfl ?_
  refine p_istore_n (k := 1) 2 [some (.int a1), some (.int a2), some (.int a1), none] rfl rfl rfl (by decide) rfl ?_
  refine p_iconst (k := 2) 0 rfl (by decide) ?_
  refine p_istore_n (k := 3) 3 [some (.int a1), some (.int a2), some (.int a1), some (.int 0)] rfl rfl rfl (by decide) rfl ?_
  refine p_msk [false, true, true, true] (L2 := [none, some (.int a2), some (.int a1), some (.int 0)]) rfl ?_
  exact sX0_isOfKind_L4 _ _ _ _ _ h
theorem tX0_isOfKind {a1 : Int32} {a2 : Int32} {S : St} {r : Int32} {S9 : St} (h : fX0_isOfKind a1 a2 S = some (r, S9)) : MR yX0_isOfKind cX0_isOfKind mX0_isOfKind [.int a1, .int a2] S (some (.int r), S9) := MR.of (n := 2) okX0_isOfKind rfl rfl (sX0_isOfKind h)
-- skippedAt(I)I
def fX0_skippedAt_L24 (k4 : Int32 → Int32 → Int32 → St → Option (Int32 × St)) (x0 : Int32) (x1 : Int32) (x2 : Int32) (S : St) : Option (Int32 × St) :=
  bnd (x2 + 1) fun v1 =>
  k4 x0 x1 v1 S
theorem sX0_skippedAt_L24 {r : Int32} {S9 : St} {k4 : Int32 → Int32 → Int32 → St → Option (Int32 × St)} (hk4 : ∀ x0 x1 x2 S, k4 x0 x1 x2 S = some (r, S9) → PW mX0_skippedAt (some (.int r), S9) 4 [some (.int x0), some (.int x1), some (.int x2)] [] S) {x0 : Int32} {x1 : Int32} {x2 : Int32} {S : St} (h : fX0_skippedAt_L24 k4 x0 x1 x2 S = some (r, S9)) : PW mX0_skippedAt (some (.int r), S9) 24 [some (.int x0), some (.int x1), some (.int x2)] [] S := by
  unfold fX0_skippedAt_L24 at h
  obtain ⟨v1, ev1, h⟩ := bnd_ex h
  refine p_iinc (k := 19) v1 [some (.int x0), some (.int x1), some (.int v1)] rfl rfl (by rw [← ev1]; rfl) rfl (by decide) rfl ?_
  refine p_goto (k := 20) 4 rfl (by decide) ?_
  refine p_msk [true, true, true] (L2 := [some (.int x0), some (.int x1), some (.int v1)]) rfl ?_
  exact hk4 _ _ _ _ h
def fX0_skippedAt_L4 : Nat → Int32 → Int32 → Int32 → St → Option (Int32 × St)
  | 0 => fun _ _ _ _ => none
  | n + 1 => fun x0 x1 x2 S =>
    if 16 ≤ x2 then
      some (x1, S)
    else
      if ((x2 + x0) - (x2 + x0) / 3 * 3) = 0 then
        bnd (x1 ||| (1 <<< (x2 &&& 31))) fun v1 =>
        fX0_skippedAt_L24 (fun x0 x1 x2 S => fX0_skippedAt_L4 n x0 x1 x2 S) x0 v1 x2 S
      else
        fX0_skippedAt_L24 (fun x0 x1 x2 S => fX0_skippedAt_L4 n x0 x1 x2 S) x0 x1 x2 S
theorem sX0_skippedAt_L4 {r : Int32} {S9 : St} : ∀ (n : Nat) (x0 : Int32) (x1 : Int32) (x2 : Int32) (S : St), fX0_skippedAt_L4 n x0 x1 x2 S = some (r, S9) → PW mX0_skippedAt (some (.int r), S9) 4 [some (.int x0), some (.int x1), some (.int x2)] [] S := by
  intro n
  induction n with
  | zero => intro x0 x1 x2 S h; cases h
  | succ n ih =>
    intro x0 x1 x2 S h
    unfold fX0_skippedAt_L4 at h
    refine p_iload_n (k := 4) (i := 2) rfl rfl rfl ?_
    refine p_bipush (k := 5) 16 rfl (by decide) ?_
    refine p_icmp_ge (k := 6) 30 rfl (by decide) (fun hc => ?_) (fun hc => ?_)
    · rw [if_pos hc] at h
      refine p_iload_n (k := 21) (i := 1) rfl rfl rfl ?_
      exact s_iret h (k := 22) rfl rfl
    · rw [if_neg hc] at h
      refine p_iload_n (k := 7) (i := 2) rfl rfl rfl ?_
      refine p_iload_n (k := 8) (i := 0) rfl rfl rfl ?_
      refine p_iadd (k := 9) rfl ?_
      refine p_iconst (k := 10) 3 rfl (by decide) ?_
      refine p_irem (k := 11) rfl (by decide) ?_
      refine p_if_ne (k := 12) 24 rfl (by decide) (fun hc => ?_) (fun hc => ?_)
      · rw [if_neg hc] at h
        refine p_msk [true, true, true] (L2 := [some (.int x0), some (.int x1), some (.int x2)]) rfl ?_
        exact sX0_skippedAt_L24 ih h
      · rw [if_pos hc] at h
        refine p_iload_n (k := 13) (i := 1) rfl rfl rfl ?_
        refine p_iconst (k := 14) 1 rfl (by decide) ?_
        refine p_iload_n (k := 15) (i := 2) rfl rfl rfl ?_
        refine p_ishl (k := 16) rfl ?_
        refine p_ior (k := 17) rfl ?_
        refine s_bnd h (fun v1 h => ?_)
        refine p_istore_n (k := 18) 1 [some (.int x0), some (.int v1), some (.int x2)] rfl rfl rfl (by decide) rfl ?_
        refine p_msk [true, true, true] (L2 := [some (.int x0), some (.int v1), some (.int x2)]) rfl ?_
        exact sX0_skippedAt_L24 ih h
def fX0_skippedAt (a1 : Int32) (S : St) : Option (Int32 × St) :=
  fX0_skippedAt_L4 FU a1 0 0 S
theorem sX0_skippedAt {a1 : Int32} {S : St} {r : Int32} {S9 : St} (h : fX0_skippedAt a1 S = some (r, S9)) : PW mX0_skippedAt (some (.int r), S9) 0 [some (.int a1), none, none] [] S := by
  unfold fX0_skippedAt at h
  refine p_iconst (k := 0) 0 rfl (by decide) ?_
  refine p_istore_n (k := 1) 1 [some (.int a1), some (.int 0), none] rfl rfl rfl (by decide) rfl ?_
  refine p_iconst (k := 2) 0 rfl (by decide) ?_
  refine p_istore_n (k := 3) 2 [some (.int a1), some (.int 0), some (.int 0)] rfl rfl rfl (by decide) rfl ?_
  refine p_msk [true, true, true] (L2 := [some (.int a1), some (.int 0), some (.int 0)]) rfl ?_
  exact sX0_skippedAt_L4 _ _ _ _ _ h
theorem tX0_skippedAt {a1 : Int32} {S : St} {r : Int32} {S9 : St} (h : fX0_skippedAt a1 S = some (r, S9)) : MR yX0_skippedAt cX0_skippedAt mX0_skippedAt [.int a1] S (some (.int r), S9) := MR.of (n := 2) okX0_skippedAt rfl rfl (sX0_skippedAt h)
-- quotes(I)I
def fX0_quotes_L65 (b : Nat) (y0 : Int32) (S : St) : Option (Int32 × St) :=
  some (y0, S)
theorem sX0_quotes_L65 {b : Nat} (hb : isC b) {r : Int32} {S9 : St} {y0 : Int32} {S : St} (h : fX0_quotes_L65 b y0 S = some (r, S9)) : PW mX0_quotes (some (.int r), S9) 65 [none, none] [.int y0] S := by
  unfold fX0_quotes_L65 at h
  exact s_iret h (k := 17) rfl rfl
def fX0_quotes_L91 (b : Nat) (y0 : Int32) (S : St) : Option (Int32 × St) :=
  some (y0, S)
theorem sX0_quotes_L91 {b : Nat} (hb : isC b) {r : Int32} {S9 : St} {y0 : Int32} {S : St} (h : fX0_quotes_L91 b y0 S = some (r, S9)) : PW mX0_quotes (some (.int r), S9) 91 [none, none] [.int y0] S := by
  unfold fX0_quotes_L91 at h
  exact s_iret h (k := 32) rfl rfl
def fX0_quotes_L113 (b : Nat) (y0 : Int32) (S : St) : Option (Int32 × St) :=
  some (y0, S)
theorem sX0_quotes_L113 {b : Nat} (hb : isC b) {r : Int32} {S9 : St} {y0 : Int32} {S : St} (h : fX0_quotes_L113 b y0 S = some (r, S9)) : PW mX0_quotes (some (.int r), S9) 113 [none, none] [.int y0] S := by
  unfold fX0_quotes_L113 at h
  exact s_iret h (k := 46) rfl rfl
def fX0_quotes_L154 (b : Nat) (y0 : Int32) (S : St) : Option (Int32 × St) :=
  some (y0, S)
theorem sX0_quotes_L154 {b : Nat} (hb : isC b) {r : Int32} {S9 : St} {y0 : Int32} {S : St} (h : fX0_quotes_L154 b y0 S = some (r, S9)) : PW mX0_quotes (some (.int r), S9) 154 [none, none] [.int y0] S := by
  unfold fX0_quotes_L154 at h
  exact s_iret h (k := 72) rfl rfl
def fX0_quotes_L155 (b : Nat) (x1 : Int32) (S : St) : Option (Int32 × St) :=
  rd S (b + 4) 8 x1 fun v1 =>
  some (v1, S)
theorem sX0_quotes_L155 {b : Nat} (hb : isC b) {r : Int32} {S9 : St} {x1 : Int32} {S : St} (h : fX0_quotes_L155 b x1 S = some (r, S9)) : PW mX0_quotes (some (.int r), S9) 155 [some (.ref b), some (.int x1)] [] S := by
  unfold fX0_quotes_L155 at h
  refine p_aload_n (k := 73) (i := 0) rfl rfl rfl ?_
  refine p_getr (k := 74) rfl (lay_c hb) rfl fl_RX0_21 ?_
  refine p_iload_n (k := 75) (i := 1) rfl rfl rfl ?_
  refine s_rd h (k := 76) rfl (lay_c3 hb) (fun v1 h => ?_)
  exact s_iret h (k := 77) rfl rfl
def fX0_quotes (b : Nat) (a1 : Int32) (S : St) : Option (Int32 × St) :=
  rd S (b + 2) 8 a1 fun v1 =>
  if v1 = 1 then
    rd S (b + 6) 8 a1 fun v2 =>
    if v2 < 10 then
      fX0_quotes_L65 b 0 S
    else
      rd S (b + 4) 8 a1 fun v3 =>
      fX0_quotes_L65 b v3 S
  else
  if v1 = 2 then
    rd S (b + 3) 8 a1 fun v4 =>
    if (v4 - v4 / 2 * 2) = 0 then
      rd S (b + 4) 8 a1 fun v5 =>
      fX0_quotes_L113 b v5 S
    else
      fX0_quotes_L113 b 0 S
  else
  if v1 = 3 then
    fX0_quotes_L155 b a1 S
  else
  if v1 = 4 then
    rd S (b + 4) 8 a1 fun v6 =>
    rd S (b + 5) 8 a1 fun v7 =>
    cl (fX0_skippedAt v7 S) fun v8 S1 =>
    some (v6 &&& (v8 ^^^ (-1)), S1)
  else
  if v1 = 5 then
    rd S (b + 3) 8 a1 fun v9 =>
    if v9 = 11 then
      rd S (b + 4) 8 a1 fun v10 =>
      fX0_quotes_L154 b v10 S
    else
      fX0_quotes_L154 b 0 S
  else
  if v1 = 6 then
    rd S (b + 6) 8 a1 fun v11 =>
    if v11 < 10 then
      fX0_quotes_L91 b 0 S
    else
      rd S (b + 4) 8 a1 fun v12 =>
      fX0_quotes_L91 b (v12 &&& 255) S
  else
  fX0_quotes_L155 b a1 S
theorem sX0_quotes {b : Nat} {a1 : Int32} (hb : isC b) {S : St} {r : Int32} {S9 : St} (h : fX0_quotes b a1 S = some (r, S9)) : PW mX0_quotes (some (.int r), S9) 0 [some (.ref b), some (.int a1)] [] S := by
  unfold fX0_quotes at h
  refine p_aload_n (k := 0) (i := 0) rfl rfl rfl ?_
  refine p_getr (k := 1) rfl (lay_c hb) rfl fl_RX0_15 ?_
  refine p_iload_n (k := 2) (i := 1) rfl rfl rfl ?_
  refine s_rd h (k := 3) rfl (lay_c1 hb) (fun v1 h => ?_)
  by_cases hx0 : v1 = 1
  · rw [if_pos hx0] at h
    refine p_tableIn (k := 4) (off := 38) 44 rfl (by rw [hx0]; decide) (by rw [hx0]; decide) (by rw [hx0]; decide) (by decide) ?_
    refine p_aload_n (k := 5) (i := 0) rfl rfl rfl ?_
    refine p_getr (k := 6) rfl (lay_c hb) rfl fl_RX0_27 ?_
    refine p_iload_n (k := 7) (i := 1) rfl rfl rfl ?_
    refine s_rd h (k := 8) rfl (lay_c5 hb) (fun v2 h => ?_)
    refine p_bipush (k := 9) 10 rfl (by decide) ?_
    refine p_icmp_lt (k := 10) 64 rfl (by decide) (fun hc => ?_) (fun hc => ?_)
    · rw [if_pos hc] at h
      refine p_iconst (k := 16) 0 rfl (by decide) ?_
      refine p_msk [false, false] (L2 := [none, none]) rfl ?_
      exact sX0_quotes_L65 hb h
    · rw [if_neg hc] at h
      refine p_aload_n (k := 11) (i := 0) rfl rfl rfl ?_
      refine p_getr (k := 12) rfl (lay_c hb) rfl fl_RX0_21 ?_
      refine p_iload_n (k := 13) (i := 1) rfl rfl rfl ?_
      refine s_rd h (k := 14) rfl (lay_c3 hb) (fun v3 h => ?_)
      refine p_goto (k := 15) 65 rfl (by decide) ?_
      refine p_msk [false, false] (L2 := [none, none]) rfl ?_
      exact sX0_quotes_L65 hb h
  rw [if_neg hx0] at h
  by_cases hx1 : v1 = 2
  · rw [if_pos hx1] at h
    refine p_tableIn (k := 4) (off := 86) 92 rfl (by rw [hx1]; decide) (by rw [hx1]; decide) (by rw [hx1]; decide) (by decide) ?_
    refine p_aload_n (k := 33) (i := 0) rfl rfl rfl ?_
    refine p_getr (k := 34) rfl (lay_c hb) rfl fl_RX0_18 ?_
    refine p_iload_n (k := 35) (i := 1) rfl rfl rfl ?_
    refine s_rd h (k := 36) rfl (lay_c2 hb) (fun v4 h => ?_)
    refine p_iconst (k := 37) 2 rfl (by decide) ?_
    refine p_irem (k := 38) rfl (by decide) ?_
    refine p_if_ne (k := 39) 112 rfl (by decide) (fun hc => ?_) (fun hc => ?_)
    · rw [if_neg hc] at h
      refine p_iconst (k := 45) 0 rfl (by decide) ?_
      refine p_msk [false, false] (L2 := [none, none]) rfl ?_
      exact sX0_quotes_L113 hb h
    · rw [if_pos hc] at h
      refine p_aload_n (k := 40) (i := 0) rfl rfl rfl ?_
      refine p_getr (k := 41) rfl (lay_c hb) rfl fl_RX0_21 ?_
      refine p_iload_n (k := 42) (i := 1) rfl rfl rfl ?_
      refine s_rd h (k := 43) rfl (lay_c3 hb) (fun v5 h => ?_)
      refine p_goto (k := 44) 113 rfl (by decide) ?_
      refine p_msk [false, false] (L2 := [none, none]) rfl ?_
      exact sX0_quotes_L113 hb h
  rw [if_neg hx1] at h
  by_cases hx2 : v1 = 3
  · rw [if_pos hx2] at h
    refine p_tableIn (k := 4) (off := 149) 155 rfl (by rw [hx2]; decide) (by rw [hx2]; decide) (by rw [hx2]; decide) (by decide) ?_
    refine p_msk [true, true] (L2 := [some (.ref b), some (.int a1)]) rfl ?_
    exact sX0_quotes_L155 hb h
  rw [if_neg hx2] at h
  by_cases hx3 : v1 = 4
  · rw [if_pos hx3] at h
    refine p_tableIn (k := 4) (off := 108) 114 rfl (by rw [hx3]; decide) (by rw [hx3]; decide) (by rw [hx3]; decide) (by decide) ?_
    refine p_aload_n (k := 47) (i := 0) rfl rfl rfl ?_
    refine p_getr (k := 48) rfl (lay_c hb) rfl fl_RX0_21 ?_
    refine p_iload_n (k := 49) (i := 1) rfl rfl rfl ?_
    refine s_rd h (k := 50) rfl (lay_c3 hb) (fun v6 h => ?_)
    refine p_aload_n (k := 51) (i := 0) rfl rfl rfl ?_
    refine p_getr (k := 52) rfl (lay_c hb) rfl fl_RX0_24 ?_
    refine p_iload_n (k := 53) (i := 1) rfl rfl rfl ?_
    refine s_rd h (k := 54) rfl (lay_c4 hb) (fun v7 h => ?_)
    obtain ⟨v8, S1, hcS1, h⟩ := cl_some h
    refine p_callS (k := 55) [.int v7] [.int v6] rfl (tX0_skippedAt hcS1) lc_X0_skippedAt ml_RX0_65 ms_X0_skippedAt (by decide) (by decide) (Nat.le_of_ble_eq_true rfl) rfl ?_
    refine p_iconst (k := 56) (-1) rfl (by decide) ?_
    refine p_ixor (k := 57) rfl ?_
    refine p_iand (k := 58) rfl ?_
    exact s_iret h (k := 59) rfl rfl
  rw [if_neg hx3] at h
  by_cases hx4 : v1 = 5
  · rw [if_pos hx4] at h
    refine p_tableIn (k := 4) (off := 127) 133 rfl (by rw [hx4]; decide) (by rw [hx4]; decide) (by rw [hx4]; decide) (by decide) ?_
    refine p_aload_n (k := 60) (i := 0) rfl rfl rfl ?_
    refine p_getr (k := 61) rfl (lay_c hb) rfl fl_RX0_18 ?_
    refine p_iload_n (k := 62) (i := 1) rfl rfl rfl ?_
    refine s_rd h (k := 63) rfl (lay_c2 hb) (fun v9 h => ?_)
    refine p_bipush (k := 64) 11 rfl (by decide) ?_
    refine p_icmp_ne (k := 65) 153 rfl (by decide) (fun hc => ?_) (fun hc => ?_)
    · rw [if_neg hc] at h
      refine p_iconst (k := 71) 0 rfl (by decide) ?_
      refine p_msk [false, false] (L2 := [none, none]) rfl ?_
      exact sX0_quotes_L154 hb h
    · rw [if_pos hc] at h
      refine p_aload_n (k := 66) (i := 0) rfl rfl rfl ?_
      refine p_getr (k := 67) rfl (lay_c hb) rfl fl_RX0_21 ?_
      refine p_iload_n (k := 68) (i := 1) rfl rfl rfl ?_
      refine s_rd h (k := 69) rfl (lay_c3 hb) (fun v10 h => ?_)
      refine p_goto (k := 70) 154 rfl (by decide) ?_
      refine p_msk [false, false] (L2 := [none, none]) rfl ?_
      exact sX0_quotes_L154 hb h
  rw [if_neg hx4] at h
  by_cases hx5 : v1 = 6
  · rw [if_pos hx5] at h
    refine p_tableIn (k := 4) (off := 60) 66 rfl (by rw [hx5]; decide) (by rw [hx5]; decide) (by rw [hx5]; decide) (by decide) ?_
    refine p_aload_n (k := 18) (i := 0) rfl rfl rfl ?_
    refine p_getr (k := 19) rfl (lay_c hb) rfl fl_RX0_27 ?_
    refine p_iload_n (k := 20) (i := 1) rfl rfl rfl ?_
    refine s_rd h (k := 21) rfl (lay_c5 hb) (fun v11 h => ?_)
    refine p_bipush (k := 22) 10 rfl (by decide) ?_
    refine p_icmp_lt (k := 23) 90 rfl (by decide) (fun hc => ?_) (fun hc => ?_)
    · rw [if_pos hc] at h
      refine p_iconst (k := 31) 0 rfl (by decide) ?_
      refine p_msk [false, false] (L2 := [none, none]) rfl ?_
      exact sX0_quotes_L91 hb h
    · rw [if_neg hc] at h
      refine p_aload_n (k := 24) (i := 0) rfl rfl rfl ?_
      refine p_getr (k := 25) rfl (lay_c hb) rfl fl_RX0_21 ?_
      refine p_iload_n (k := 26) (i := 1) rfl rfl rfl ?_
      refine s_rd h (k := 27) rfl (lay_c3 hb) (fun v12 h => ?_)
      refine p_sipush (k := 28) 255 rfl (by decide) ?_
      refine p_iand (k := 29) rfl ?_
      refine p_goto (k := 30) 91 rfl (by decide) ?_
      refine p_msk [false, false] (L2 := [none, none]) rfl ?_
      exact sX0_quotes_L91 hb h
  rw [if_neg hx5] at h
  have hz0 := toInt_ne hx0 (z := 1) (by decide)
  have hz1 := toInt_ne hx1 (z := 2) (by decide)
  have hz2 := toInt_ne hx2 (z := 3) (by decide)
  have hz3 := toInt_ne hx3 (z := 4) (by decide)
  have hz4 := toInt_ne hx4 (z := 5) (by decide)
  have hz5 := toInt_ne hx5 (z := 6) (by decide)
  refine p_tableOut (k := 4) 155 rfl (by omega) (by decide) ?_
  refine p_msk [true, true] (L2 := [some (.ref b), some (.int a1)]) rfl ?_
  exact sX0_quotes_L155 hb h
theorem tX0_quotes {b : Nat} {a1 : Int32} (hb : isC b) {S : St} {r : Int32} {S9 : St} (h : fX0_quotes b a1 S = some (r, S9)) : MR yX0_quotes cX0_quotes mX0_quotes [.ref b, .int a1] S (some (.int r), S9) := MR.of (n := 0) okX0_quotes rfl rfl (sX0_quotes hb h)
-- costs(I)I
def fX0_costs (b : Nat) (a1 : Int32) (S : St) : Option (Int32 × St) :=
  rd S (b + 3) 8 a1 fun v1 =>
  bnd (2 + v1) fun v2 =>
  rd S (b + 4) 8 a1 fun v3 =>
  cl (fJ6_bitCount_0f7a4 v3 S) fun v4 S1 =>
  bnd (2 + (v4 / 2)) fun v5 =>
  rd S1 (b + 2) 8 a1 fun v6 =>
  if v6 = 1 then
    some (v2, S1)
  else
  if v6 = 2 then
    some (v5, S1)
  else
  if v6 = 3 then
    some (v5 - 1, S1)
  else
  if v6 = 4 then
    rd S1 (b + 5) 8 a1 fun v7 =>
    some ((v5 - 1) + (v7 / 10), S1)
  else
  if v6 = 5 then
    some (99, S1)
  else
  if v6 = 6 then
    some (v2 / 2, S1)
  else
  some (2, S1)
theorem sX0_costs {b : Nat} {a1 : Int32} (hb : isC b) {S : St} {r : Int32} {S9 : St} (h : fX0_costs b a1 S = some (r, S9)) : PW mX0_costs (some (.int r), S9) 0 [some (.ref b), some (.int a1), none, none] [] S := by
  unfold fX0_costs at h
  refine p_iconst (k := 0) 2 rfl (by decide) ?_
  refine p_aload_n (k := 1) (i := 0) rfl rfl rfl ?_
  refine p_getr (k := 2) rfl (lay_c hb) rfl fl_RX0_18 ?_
  refine p_iload_n (k := 3) (i := 1) rfl rfl rfl ?_
  refine s_rd h (k := 4) rfl (lay_c2 hb) (fun v1 h => ?_)
  refine p_iadd (k := 5) rfl ?_
  refine s_bnd h (fun v2 h => ?_)
  refine p_istore_n (k := 6) 2 [some (.ref b), some (.int a1), some (.int v2), none] rfl rfl rfl (by decide) rfl ?_
  refine p_iconst (k := 7) 2 rfl (by decide) ?_
  refine p_aload_n (k := 8) (i := 0) rfl rfl rfl ?_
  refine p_getr (k := 9) rfl (lay_c hb) rfl fl_RX0_21 ?_
  refine p_iload_n (k := 10) (i := 1) rfl rfl rfl ?_
  refine s_rd h (k := 11) rfl (lay_c3 hb) (fun v3 h => ?_)
  obtain ⟨v4, S1, hcS1, h⟩ := cl_some h
  refine p_callS (k := 12) [.int v3] [.int 2] rfl (tJ6_bitCount_0f7a4 hcS1) lc_J6_bitCount_0f7a4 ml_RX0_68 ms_J6_bitCount_0f7a4 (by decide) (by decide) (Nat.le_of_ble_eq_true rfl) rfl ?_
  refine p_iconst (k := 13) 2 rfl (by decide) ?_
  refine p_idiv (k := 14) rfl (by decide) ?_
  refine p_iadd (k := 15) rfl ?_
  refine s_bnd h (fun v5 h => ?_)
  refine p_istore_n (k := 16) 3 [some (.ref b), some (.int a1), some (.int v2), some (.int v5)] rfl rfl rfl (by decide) rfl ?_
  refine p_aload_n (k := 17) (i := 0) rfl rfl rfl ?_
  refine p_getr (k := 18) rfl (lay_c hb) rfl fl_RX0_15 ?_
  refine p_iload_n (k := 19) (i := 1) rfl rfl rfl ?_
  refine s_rd h (k := 20) rfl (lay_c1 hb) (fun v6 h => ?_)
  by_cases hx0 : v6 = 1
  · rw [if_pos hx0] at h
    refine p_tableIn (k := 21) (off := 39) 68 rfl (by rw [hx0]; decide) (by rw [hx0]; decide) (by rw [hx0]; decide) (by decide) ?_
    refine p_iload_n (k := 22) (i := 2) rfl rfl rfl ?_
    exact s_iret h (k := 23) rfl rfl
  rw [if_neg hx0] at h
  by_cases hx1 : v6 = 2
  · rw [if_pos hx1] at h
    refine p_tableIn (k := 21) (off := 45) 74 rfl (by rw [hx1]; decide) (by rw [hx1]; decide) (by rw [hx1]; decide) (by decide) ?_
    refine p_iload_n (k := 28) (i := 3) rfl rfl rfl ?_
    exact s_iret h (k := 29) rfl rfl
  rw [if_neg hx1] at h
  by_cases hx2 : v6 = 3
  · rw [if_pos hx2] at h
    refine p_tableIn (k := 21) (off := 47) 76 rfl (by rw [hx2]; decide) (by rw [hx2]; decide) (by rw [hx2]; decide) (by decide) ?_
    refine p_iload_n (k := 30) (i := 3) rfl rfl rfl ?_
    refine p_iconst (k := 31) 1 rfl (by decide) ?_
    refine p_isub (k := 32) rfl ?_
    exact s_iret h (k := 33) rfl rfl
  rw [if_neg hx2] at h
  by_cases hx3 : v6 = 4
  · rw [if_pos hx3] at h
    refine p_tableIn (k := 21) (off := 51) 80 rfl (by rw [hx3]; decide) (by rw [hx3]; decide) (by rw [hx3]; decide) (by decide) ?_
    refine p_iload_n (k := 34) (i := 3) rfl rfl rfl ?_
    refine p_iconst (k := 35) 1 rfl (by decide) ?_
    refine p_isub (k := 36) rfl ?_
    refine p_aload_n (k := 37) (i := 0) rfl rfl rfl ?_
    refine p_getr (k := 38) rfl (lay_c hb) rfl fl_RX0_24 ?_
    refine p_iload_n (k := 39) (i := 1) rfl rfl rfl ?_
    refine s_rd h (k := 40) rfl (lay_c4 hb) (fun v7 h => ?_)
    refine p_bipush (k := 41) 10 rfl (by decide) ?_
    refine p_idiv (k := 42) rfl (by decide) ?_
    refine p_iadd (k := 43) rfl ?_
    exact s_iret h (k := 44) rfl rfl
  rw [if_neg hx3] at h
  by_cases hx4 : v6 = 5
  · rw [if_pos hx4] at h
    refine p_tableIn (k := 21) (off := 65) 94 rfl (by rw [hx4]; decide) (by rw [hx4]; decide) (by rw [hx4]; decide) (by decide) ?_
    refine p_bipush (k := 45) 99 rfl (by decide) ?_
    exact s_iret h (k := 46) rfl rfl
  rw [if_neg hx4] at h
  by_cases hx5 : v6 = 6
  · rw [if_pos hx5] at h
    refine p_tableIn (k := 21) (off := 41) 70 rfl (by rw [hx5]; decide) (by rw [hx5]; decide) (by rw [hx5]; decide) (by decide) ?_
    refine p_iload_n (k := 24) (i := 2) rfl rfl rfl ?_
    refine p_iconst (k := 25) 2 rfl (by decide) ?_
    refine p_idiv (k := 26) rfl (by decide) ?_
    exact s_iret h (k := 27) rfl rfl
  rw [if_neg hx5] at h
  have hz0 := toInt_ne hx0 (z := 1) (by decide)
  have hz1 := toInt_ne hx1 (z := 2) (by decide)
  have hz2 := toInt_ne hx2 (z := 3) (by decide)
  have hz3 := toInt_ne hx3 (z := 4) (by decide)
  have hz4 := toInt_ne hx4 (z := 5) (by decide)
  have hz5 := toInt_ne hx5 (z := 6) (by decide)
  refine p_tableOut (k := 21) 97 rfl (by omega) (by decide) ?_
  refine p_iconst (k := 47) 2 rfl (by decide) ?_
  exact s_iret h (k := 48) rfl rfl
theorem tX0_costs {b : Nat} {a1 : Int32} (hb : isC b) {S : St} {r : Int32} {S9 : St} (h : fX0_costs b a1 S = some (r, S9)) : MR yX0_costs cX0_costs mX0_costs [.ref b, .int a1] S (some (.int r), S9) := MR.of (n := 2) okX0_costs rfl rfl (sX0_costs hb h)
-- grazes(I)I
def fX0_grazes_L49 (b : Nat) (S : St) : Option (Int32 × St) :=
  some (6, S)
theorem sX0_grazes_L49 {b : Nat} (hb : isC b) {r : Int32} {S9 : St}  {S : St} (h : fX0_grazes_L49 b S = some (r, S9)) : PW mX0_grazes (some (.int r), S9) 49 [none, none] [] S := by
  unfold fX0_grazes_L49 at h
  refine p_bipush (k := 9) 6 rfl (by decide) ?_
  exact s_iret h (k := 10) rfl rfl
def fX0_grazes (b : Nat) (a1 : Int32) (S : St) : Option (Int32 × St) :=
  rd S (b + 2) 8 a1 fun v1 =>
  if v1 = 1 then
    some (7, S)
  else
  if v1 = 2 then
    fX0_grazes_L49 b S
  else
  if v1 = 3 then
    fX0_grazes_L49 b S
  else
  if v1 = 4 then
    fX0_grazes_L49 b S
  else
  if v1 = 5 then
    some (2, S)
  else
  if v1 = 6 then
    some (3, S)
  else
  some (5, S)
theorem sX0_grazes {b : Nat} {a1 : Int32} (hb : isC b) {S : St} {r : Int32} {S9 : St} (h : fX0_grazes b a1 S = some (r, S9)) : PW mX0_grazes (some (.int r), S9) 0 [some (.ref b), some (.int a1)] [] S := by
  unfold fX0_grazes at h
  refine p_aload_n (k := 0) (i := 0) rfl rfl rfl ?_
  refine p_getr (k := 1) rfl (lay_c hb) rfl fl_RX0_15 ?_
  refine p_iload_n (k := 2) (i := 1) rfl rfl rfl ?_
  refine s_rd h (k := 3) rfl (lay_c1 hb) (fun v1 h => ?_)
  by_cases hx0 : v1 = 1
  · rw [if_pos hx0] at h
    refine p_tableIn (k := 4) (off := 38) 44 rfl (by rw [hx0]; decide) (by rw [hx0]; decide) (by rw [hx0]; decide) (by decide) ?_
    refine p_bipush (k := 5) 7 rfl (by decide) ?_
    exact s_iret h (k := 6) rfl rfl
  rw [if_neg hx0] at h
  by_cases hx1 : v1 = 2
  · rw [if_pos hx1] at h
    refine p_tableIn (k := 4) (off := 43) 49 rfl (by rw [hx1]; decide) (by rw [hx1]; decide) (by rw [hx1]; decide) (by decide) ?_
    refine p_msk [false, false] (L2 := [none, none]) rfl ?_
    exact sX0_grazes_L49 hb h
  rw [if_neg hx1] at h
  by_cases hx2 : v1 = 3
  · rw [if_pos hx2] at h
    refine p_tableIn (k := 4) (off := 43) 49 rfl (by rw [hx2]; decide) (by rw [hx2]; decide) (by rw [hx2]; decide) (by decide) ?_
    refine p_msk [false, false] (L2 := [none, none]) rfl ?_
    exact sX0_grazes_L49 hb h
  rw [if_neg hx2] at h
  by_cases hx3 : v1 = 4
  · rw [if_pos hx3] at h
    refine p_tableIn (k := 4) (off := 43) 49 rfl (by rw [hx3]; decide) (by rw [hx3]; decide) (by rw [hx3]; decide) (by decide) ?_
    refine p_msk [false, false] (L2 := [none, none]) rfl ?_
    exact sX0_grazes_L49 hb h
  rw [if_neg hx3] at h
  by_cases hx4 : v1 = 5
  · rw [if_pos hx4] at h
    refine p_tableIn (k := 4) (off := 46) 52 rfl (by rw [hx4]; decide) (by rw [hx4]; decide) (by rw [hx4]; decide) (by decide) ?_
    refine p_iconst (k := 11) 2 rfl (by decide) ?_
    exact s_iret h (k := 12) rfl rfl
  rw [if_neg hx4] at h
  by_cases hx5 : v1 = 6
  · rw [if_pos hx5] at h
    refine p_tableIn (k := 4) (off := 41) 47 rfl (by rw [hx5]; decide) (by rw [hx5]; decide) (by rw [hx5]; decide) (by decide) ?_
    refine p_iconst (k := 7) 3 rfl (by decide) ?_
    exact s_iret h (k := 8) rfl rfl
  rw [if_neg hx5] at h
  have hz0 := toInt_ne hx0 (z := 1) (by decide)
  have hz1 := toInt_ne hx1 (z := 2) (by decide)
  have hz2 := toInt_ne hx2 (z := 3) (by decide)
  have hz3 := toInt_ne hx3 (z := 4) (by decide)
  have hz4 := toInt_ne hx4 (z := 5) (by decide)
  have hz5 := toInt_ne hx5 (z := 6) (by decide)
  refine p_tableOut (k := 4) 54 rfl (by omega) (by decide) ?_
  refine p_iconst (k := 13) 5 rfl (by decide) ?_
  exact s_iret h (k := 14) rfl rfl
theorem tX0_grazes {b : Nat} {a1 : Int32} (hb : isC b) {S : St} {r : Int32} {S9 : St} (h : fX0_grazes b a1 S = some (r, S9)) : MR yX0_grazes cX0_grazes mX0_grazes [.ref b, .int a1] S (some (.int r), S9) := MR.of (n := 0) okX0_grazes rfl rfl (sX0_grazes hb h)
-- greenestNear(I)I
def fX0_greenestNear_L56 (b : Nat) (x2 : Int32) (S : St) : Option (Int32 × St) :=
  some (x2, S)
theorem sX0_greenestNear_L56 {b : Nat} (hb : isC b) {r : Int32} {S9 : St} {x2 : Int32} {S : St} (h : fX0_greenestNear_L56 b x2 S = some (r, S9)) : PW mX0_greenestNear (some (.int r), S9) 56 [none, none, some (.int x2)] [] S := by
  unfold fX0_greenestNear_L56 at h
  refine p_iload_n (k := 39) (i := 2) rfl rfl rfl ?_
  exact s_iret h (k := 40) rfl rfl
def fX0_greenestNear_L31 (b : Nat) (x1 : Int32) (x2 : Int32) (S : St) : Option (Int32 × St) :=
  if x1 ≤ 0 then
    fX0_greenestNear_L56 b x2 S
  else
    rd S (b + 1) 12 (x1 - 1) fun v1 =>
    rd S (b + 1) 12 x2 fun v2 =>
    if v1 ≤ v2 then
      fX0_greenestNear_L56 b x2 S
    else
      bnd (x1 - 1) fun v3 =>
      fX0_greenestNear_L56 b v3 S
theorem sX0_greenestNear_L31 {b : Nat} (hb : isC b) {r : Int32} {S9 : St} {x1 : Int32} {x2 : Int32} {S : St} (h : fX0_greenestNear_L31 b x1 x2 S = some (r, S9)) : PW mX0_greenestNear (some (.int r), S9) 31 [some (.ref b), some (.int x1), some (.int x2)] [] S := by
  unfold fX0_greenestNear_L31 at h
  refine p_iload_n (k := 22) (i := 1) rfl rfl rfl ?_
  refine p_if_le (k := 23) 56 rfl (by decide) (fun hc => ?_) (fun hc => ?_)
  · rw [if_pos hc] at h
    refine p_msk [false, false, true] (L2 := [none, none, some (.int x2)]) rfl ?_
    exact sX0_greenestNear_L56 hb h
  · rw [if_neg hc] at h
    refine p_aload_n (k := 24) (i := 0) rfl rfl rfl ?_
    refine p_getr (k := 25) rfl (lay_c hb) rfl fl_RX0_11 ?_
    refine p_iload_n (k := 26) (i := 1) rfl rfl rfl ?_
    refine p_iconst (k := 27) 1 rfl (by decide) ?_
    refine p_isub (k := 28) rfl ?_
    refine s_rd h (k := 29) rfl (lay_c0 hb) (fun v1 h => ?_)
    refine p_aload_n (k := 30) (i := 0) rfl rfl rfl ?_
    refine p_getr (k := 31) rfl (lay_c hb) rfl fl_RX0_11 ?_
    refine p_iload_n (k := 32) (i := 2) rfl rfl rfl ?_
    refine s_rd h (k := 33) rfl (lay_c0 hb) (fun v2 h => ?_)
    refine p_icmp_le (k := 34) 56 rfl (by decide) (fun hc => ?_) (fun hc => ?_)
    · rw [if_pos hc] at h
      refine p_msk [false, false, true] (L2 := [none, none, some (.int x2)]) rfl ?_
      exact sX0_greenestNear_L56 hb h
    · rw [if_neg hc] at h
      refine p_iload_n (k := 35) (i := 1) rfl rfl rfl ?_
      refine p_iconst (k := 36) 1 rfl (by decide) ?_
      refine p_isub (k := 37) rfl ?_
      refine s_bnd h (fun v3 h => ?_)
      refine p_istore_n (k := 38) 2 [some (.ref b), some (.int x1), some (.int v3)] rfl rfl rfl (by decide) rfl ?_
      refine p_msk [false, false, true] (L2 := [none, none, some (.int v3)]) rfl ?_
      exact sX0_greenestNear_L56 hb h
def fX0_greenestNear (b : Nat) (a1 : Int32) (S : St) : Option (Int32 × St) :=
  if 12 ≤ (a1 + 1) then
    fX0_greenestNear_L31 b a1 a1 S
  else
    rd S (b + 1) 12 (a1 + 1) fun v1 =>
    rd S (b + 1) 12 a1 fun v2 =>
    if v1 ≤ v2 then
      fX0_greenestNear_L31 b a1 a1 S
    else
      bnd (a1 + 1) fun v3 =>
      fX0_greenestNear_L31 b a1 v3 S
theorem sX0_greenestNear {b : Nat} {a1 : Int32} (hb : isC b) {S : St} {r : Int32} {S9 : St} (h : fX0_greenestNear b a1 S = some (r, S9)) : PW mX0_greenestNear (some (.int r), S9) 0 [some (.ref b), some (.int a1), none] [] S := by
  unfold fX0_greenestNear at h
  refine p_iload_n (k := 0) (i := 1) rfl rfl rfl ?_
  refine p_istore_n (k := 1) 2 [some (.ref b), some (.int a1), some (.int a1)] rfl rfl rfl (by decide) rfl ?_
  refine p_iload_n (k := 2) (i := 1) rfl rfl rfl ?_
  refine p_iconst (k := 3) 1 rfl (by decide) ?_
  refine p_iadd (k := 4) rfl ?_
  refine p_bipush (k := 5) 12 rfl (by decide) ?_
  refine p_icmp_ge (k := 6) 31 rfl (by decide) (fun hc => ?_) (fun hc => ?_)
  · rw [if_pos hc] at h
    refine p_msk [true, true, true] (L2 := [some (.ref b), some (.int a1), some (.int a1)]) rfl ?_
    exact sX0_greenestNear_L31 hb h
  · rw [if_neg hc] at h
    refine p_aload_n (k := 7) (i := 0) rfl rfl rfl ?_
    refine p_getr (k := 8) rfl (lay_c hb) rfl fl_RX0_11 ?_
    refine p_iload_n (k := 9) (i := 1) rfl rfl rfl ?_
    refine p_iconst (k := 10) 1 rfl (by decide) ?_
    refine p_iadd (k := 11) rfl ?_
    refine s_rd h (k := 12) rfl (lay_c0 hb) (fun v1 h => ?_)
    refine p_aload_n (k := 13) (i := 0) rfl rfl rfl ?_
    refine p_getr (k := 14) rfl (lay_c hb) rfl fl_RX0_11 ?_
    refine p_iload_n (k := 15) (i := 2) rfl rfl rfl ?_
    refine s_rd h (k := 16) rfl (lay_c0 hb) (fun v2 h => ?_)
    refine p_icmp_le (k := 17) 31 rfl (by decide) (fun hc => ?_) (fun hc => ?_)
    · rw [if_pos hc] at h
      refine p_msk [true, true, true] (L2 := [some (.ref b), some (.int a1), some (.int a1)]) rfl ?_
      exact sX0_greenestNear_L31 hb h
    · rw [if_neg hc] at h
      refine p_iload_n (k := 18) (i := 1) rfl rfl rfl ?_
      refine p_iconst (k := 19) 1 rfl (by decide) ?_
      refine p_iadd (k := 20) rfl ?_
      refine s_bnd h (fun v3 h => ?_)
      refine p_istore_n (k := 21) 2 [some (.ref b), some (.int a1), some (.int v3)] rfl rfl rfl (by decide) rfl ?_
      refine p_msk [true, true, true] (L2 := [some (.ref b), some (.int a1), some (.int v3)]) rfl ?_
      exact sX0_greenestNear_L31 hb h
theorem tX0_greenestNear {b : Nat} {a1 : Int32} (hb : isC b) {S : St} {r : Int32} {S9 : St} (h : fX0_greenestNear b a1 S = some (r, S9)) : MR yX0_greenestNear cX0_greenestNear mX0_greenestNear [.ref b, .int a1] S (some (.int r), S9) := MR.of (n := 1) okX0_greenestNear rfl rfl (sX0_greenestNear hb h)
-- climbsTo(I)I
def fX0_climbsTo_L64 (b : Nat) (y0 : Int32) (S : St) : Option (Int32 × St) :=
  some (y0, S)
theorem sX0_climbsTo_L64 {b : Nat} (hb : isC b) {r : Int32} {S9 : St} {y0 : Int32} {S : St} (h : fX0_climbsTo_L64 b y0 S = some (r, S9)) : PW mX0_climbsTo (some (.int r), S9) 64 [none, none, none] [.int y0] S := by
  unfold fX0_climbsTo_L64 at h
  exact s_iret h (k := 22) rfl rfl
def fX0_climbsTo_L89 (b : Nat) (y0 : Int32) (S : St) : Option (Int32 × St) :=
  some (y0, S)
theorem sX0_climbsTo_L89 {b : Nat} (hb : isC b) {r : Int32} {S9 : St} {y0 : Int32} {S : St} (h : fX0_climbsTo_L89 b y0 S = some (r, S9)) : PW mX0_climbsTo (some (.int r), S9) 89 [none, none, none] [.int y0] S := by
  unfold fX0_climbsTo_L89 at h
  exact s_iret h (k := 39) rfl rfl
def fX0_climbsTo (b : Nat) (a1 : Int32) (S : St) : Option (Int32 × St) :=
  rd S (b + 3) 8 a1 fun v1 =>
  rd S (b + 2) 8 a1 fun v2 =>
  if v2 = 2 then
    if (((S b 12) + a1) - ((S b 12) + a1) / 2 * 2) = 0 then
      cl (fX0_greenestNear b v1 S) fun v3 S1 =>
      fX0_climbsTo_L64 b v3 S1
    else
      fX0_climbsTo_L64 b v1 S
  else
  if v2 = 3 then
    some (v1, S)
  else
  if v2 = 4 then
    rd S (b + 5) 8 a1 fun v4 =>
    if (v4 - v4 / 5 * 5) = 0 then
      fX0_climbsTo_L89 b (mxI (v1 - 1) 0) S
    else
      fX0_climbsTo_L89 b v1 S
  else
  if v2 = 5 then
    some (mnI (v1 + 1) 11, S)
  else
  cl (fX0_greenestNear b v1 S) fun v5 S2 =>
  some (v5, S2)
theorem sX0_climbsTo {b : Nat} {a1 : Int32} (hb : isC b) {S : St} {r : Int32} {S9 : St} (h : fX0_climbsTo b a1 S = some (r, S9)) : PW mX0_climbsTo (some (.int r), S9) 0 [some (.ref b), some (.int a1), none] [] S := by
  unfold fX0_climbsTo at h
  refine p_aload_n (k := 0) (i := 0) rfl rfl rfl ?_
  refine p_getr (k := 1) rfl (lay_c hb) rfl fl_RX0_18 ?_
  refine p_iload_n (k := 2) (i := 1) rfl rfl rfl ?_
  refine s_rd h (k := 3) rfl (lay_c2 hb) (fun v1 h => ?_)
  refine p_istore_n (k := 4) 2 [some (.ref b), some (.int a1), some (.int v1)] rfl rfl rfl (by decide) rfl ?_
  refine p_aload_n (k := 5) (i := 0) rfl rfl rfl ?_
  refine p_getr (k := 6) rfl (lay_c hb) rfl fl_RX0_15 ?_
  refine p_iload_n (k := 7) (i := 1) rfl rfl rfl ?_
  refine s_rd h (k := 8) rfl (lay_c1 hb) (fun v2 h => ?_)
  by_cases hx0 : v2 = 2
  · rw [if_pos hx0] at h
    refine p_tableIn (k := 9) (off := 31) 44 rfl (by rw [hx0]; decide) (by rw [hx0]; decide) (by rw [hx0]; decide) (by decide) ?_
    refine p_aload_n (k := 10) (i := 0) rfl rfl rfl ?_
    refine p_geti (k := 11) rfl (lay_c hb) rfl fl_RX0_58 ?_
    refine p_iload_n (k := 12) (i := 1) rfl rfl rfl ?_
    refine p_iadd (k := 13) rfl ?_
    refine p_iconst (k := 14) 2 rfl (by decide) ?_
    refine p_irem (k := 15) rfl (by decide) ?_
    refine p_if_ne (k := 16) 63 rfl (by decide) (fun hc => ?_) (fun hc => ?_)
    · rw [if_neg hc] at h
      refine p_iload_n (k := 21) (i := 2) rfl rfl rfl ?_
      refine p_msk [false, false, false] (L2 := [none, none, none]) rfl ?_
      exact sX0_climbsTo_L64 hb h
    · rw [if_pos hc] at h
      refine p_aload_n (k := 17) (i := 0) rfl rfl rfl ?_
      refine p_iload_n (k := 18) (i := 2) rfl rfl rfl ?_
      obtain ⟨v3, S1, hcS1, h⟩ := cl_some h
      refine p_callV (k := 19) [.int v1] [] rfl (tX0_greenestNear hb hcS1) (lay_c hb) rfl lc_X0_greenestNear ml_RX0_73 mi_X0_greenestNear mv_X0_greenestNear (by decide) (by decide) (Nat.le_of_ble_eq_true rfl) rfl ?_
      refine p_goto (k := 20) 64 rfl (by decide) ?_
      refine p_msk [false, false, false] (L2 := [none, none, none]) rfl ?_
      exact sX0_climbsTo_L64 hb h
  rw [if_neg hx0] at h
  by_cases hx1 : v2 = 3
  · rw [if_pos hx1] at h
    refine p_tableIn (k := 9) (off := 52) 65 rfl (by rw [hx1]; decide) (by rw [hx1]; decide) (by rw [hx1]; decide) (by decide) ?_
    refine p_iload_n (k := 23) (i := 2) rfl rfl rfl ?_
    exact s_iret h (k := 24) rfl rfl
  rw [if_neg hx1] at h
  by_cases hx2 : v2 = 4
  · rw [if_pos hx2] at h
    refine p_tableIn (k := 9) (off := 54) 67 rfl (by rw [hx2]; decide) (by rw [hx2]; decide) (by rw [hx2]; decide) (by decide) ?_
    refine p_aload_n (k := 25) (i := 0) rfl rfl rfl ?_
    refine p_getr (k := 26) rfl (lay_c hb) rfl fl_RX0_24 ?_
    refine p_iload_n (k := 27) (i := 1) rfl rfl rfl ?_
    refine s_rd h (k := 28) rfl (lay_c4 hb) (fun v4 h => ?_)
    refine p_iconst (k := 29) 5 rfl (by decide) ?_
    refine p_irem (k := 30) rfl (by decide) ?_
    refine p_if_ne (k := 31) 88 rfl (by decide) (fun hc => ?_) (fun hc => ?_)
    · rw [if_neg hc] at h
      refine p_iload_n (k := 38) (i := 2) rfl rfl rfl ?_
      refine p_msk [false, false, false] (L2 := [none, none, none]) rfl ?_
      exact sX0_climbsTo_L89 hb h
    · rw [if_pos hc] at h
      refine p_iload_n (k := 32) (i := 2) rfl rfl rfl ?_
      refine p_iconst (k := 33) 1 rfl (by decide) ?_
      refine p_isub (k := 34) rfl ?_
      refine p_iconst (k := 35) 0 rfl (by decide) ?_
      refine p_mmax (k := 36) rfl ml_RX0_76 mm_static_max mm_init mm_code_max (by decide) (Nat.le_of_ble_eq_true rfl) ?_
      refine p_goto (k := 37) 89 rfl (by decide) ?_
      refine p_msk [false, false, false] (L2 := [none, none, none]) rfl ?_
      exact sX0_climbsTo_L89 hb h
  rw [if_neg hx2] at h
  by_cases hx3 : v2 = 5
  · rw [if_pos hx3] at h
    refine p_tableIn (k := 9) (off := 77) 90 rfl (by rw [hx3]; decide) (by rw [hx3]; decide) (by rw [hx3]; decide) (by decide) ?_
    refine p_iload_n (k := 40) (i := 2) rfl rfl rfl ?_
    refine p_iconst (k := 41) 1 rfl (by decide) ?_
    refine p_iadd (k := 42) rfl ?_
    refine p_bipush (k := 43) 11 rfl (by decide) ?_
    refine p_mmin (k := 44) rfl ml_RX0_82 mm_static_min mm_init mm_code_min (by decide) (Nat.le_of_ble_eq_true rfl) ?_
    exact s_iret h (k := 45) rfl rfl
  rw [if_neg hx3] at h
  have hz0 := toInt_ne hx0 (z := 2) (by decide)
  have hz1 := toInt_ne hx1 (z := 3) (by decide)
  have hz2 := toInt_ne hx2 (z := 4) (by decide)
  have hz3 := toInt_ne hx3 (z := 5) (by decide)
  refine p_tableOut (k := 9) 99 rfl (by omega) (by decide) ?_
  refine p_aload_n (k := 46) (i := 0) rfl rfl rfl ?_
  refine p_iload_n (k := 47) (i := 2) rfl rfl rfl ?_
  obtain ⟨v5, S2, hcS2, h⟩ := cl_some h
  refine p_callV (k := 48) [.int v1] [] rfl (tX0_greenestNear hb hcS2) (lay_c hb) rfl lc_X0_greenestNear ml_RX0_73 mi_X0_greenestNear mv_X0_greenestNear (by decide) (by decide) (Nat.le_of_ble_eq_true rfl) rfl ?_
  exact s_iret h (k := 49) rfl rfl
theorem tX0_climbsTo {b : Nat} {a1 : Int32} (hb : isC b) {S : St} {r : Int32} {S9 : St} (h : fX0_climbsTo b a1 S = some (r, S9)) : MR yX0_climbsTo cX0_climbsTo mX0_climbsTo [.ref b, .int a1] S (some (.int r), S9) := MR.of (n := 1) okX0_climbsTo rfl rfl (sX0_climbsTo hb h)
-- isHere(I)Z
def fX0_isHere_L16 (b : Nat) (y0 : Int32) (S : St) : Option (Int32 × St) :=
  retN .boolean y0 S
theorem sX0_isHere_L16 {b : Nat} (hb : isC b) {r : Int32} {S9 : St} {y0 : Int32} {S : St} (h : fX0_isHere_L16 b y0 S = some (r, S9)) : PW mX0_isHere (some (.int r), S9) 16 [none, none] [.int y0] S := by
  unfold fX0_isHere_L16 at h
  exact s_zret h (k := 8) rfl rfl
def fX0_isHere (b : Nat) (a1 : Int32) (S : St) : Option (Int32 × St) :=
  cl (fX4_hasBit (S b 9) a1 S) fun v1 S1 =>
  if v1 = 0 then
    fX0_isHere_L16 b 1 S1
  else
    fX0_isHere_L16 b 0 S1
theorem sX0_isHere {b : Nat} {a1 : Int32} (hb : isC b) {S : St} {r : Int32} {S9 : St} (h : fX0_isHere b a1 S = some (r, S9)) : PW mX0_isHere (some (.int r), S9) 0 [some (.ref b), some (.int a1)] [] S := by
  unfold fX0_isHere at h
  refine p_aload_n (k := 0) (i := 0) rfl rfl rfl ?_
  refine p_geti (k := 1) rfl (lay_c hb) rfl fl_RX0_55 ?_
  refine p_iload_n (k := 2) (i := 1) rfl rfl rfl ?_
  obtain ⟨v1, S1, hcS1, h⟩ := cl_some h
  refine p_callSN (k := 3) [.int (S b 9), .int a1] [] rfl (tX4_hasBit hcS1) lc_X4_hasBit ml_RX0_115 ms_X4_hasBit (by decide) (by decide) (Nat.le_of_ble_eq_true rfl) rfl ?_
  refine p_if_ne (k := 4) 15 rfl (by decide) (fun hc => ?_) (fun hc => ?_)
  · rw [if_neg hc] at h
    refine p_iconst (k := 7) 0 rfl (by decide) ?_
    refine p_msk [false, false] (L2 := [none, none]) rfl ?_
    exact sX0_isHere_L16 hb h
  · rw [if_pos hc] at h
    refine p_iconst (k := 5) 1 rfl (by decide) ?_
    refine p_goto (k := 6) 16 rfl (by decide) ?_
    refine p_msk [false, false] (L2 := [none, none]) rfl ?_
    exact sX0_isHere_L16 hb h
theorem tX0_isHere {b : Nat} {a1 : Int32} (hb : isC b) {S : St} {r : Int32} {S9 : St} (h : fX0_isHere b a1 S = some (r, S9)) : MR yX0_isHere cX0_isHere mX0_isHere [.ref b, .int a1] S (some (.int r), S9) := MR.of (n := 0) okX0_isHere rfl rfl (sX0_isHere hb h)
-- climbAndGraze(I)V
def fX0_climbAndGraze (b : Nat) (a1 : Int32) (S : St) : Option (Unit × St) :=
  cl (fX0_climbsTo b a1 S) fun v1 S1 =>
  wr S1 (b + 3) 8 a1 v1 fun S2 =>
  cl (fX0_grazes b a1 S2) fun v2 S3 =>
  rd S3 (b + 1) 12 v1 fun v3 =>
  bnd (mnI v2 v3) fun v4 =>
  rd S3 (b + 1) 12 v1 fun v5 =>
  wr S3 (b + 1) 12 v1 (v5 - v4) fun S4 =>
  rd S4 (b + 6) 8 a1 fun v6 =>
  wr S4 (b + 6) 8 a1 (mxI ((mnI (v6 + v4) 99) - 3) 0) fun S5 =>
  some ((), S5)
theorem sX0_climbAndGraze {b : Nat} {a1 : Int32} (hb : isC b) {S : St} {r : Unit} {S9 : St} (h : fX0_climbAndGraze b a1 S = some (r, S9)) : PW mX0_climbAndGraze (none, S9) 0 [some (.ref b), some (.int a1), none, none] [] S := by
  unfold fX0_climbAndGraze at h
  refine p_aload_n (k := 0) (i := 0) rfl rfl rfl ?_
  refine p_iload_n (k := 1) (i := 1) rfl rfl rfl ?_
  obtain ⟨v1, S1, hcS1, h⟩ := cl_some h
  refine p_callV (k := 2) [.int a1] [] rfl (tX0_climbsTo hb hcS1) (lay_c hb) rfl lc_X0_climbsTo ml_RX0_100 mi_X0_climbsTo mv_X0_climbsTo (by decide) (by decide) (Nat.le_of_ble_eq_true rfl) rfl ?_
  refine p_istore_n (k := 3) 2 [some (.ref b), some (.int a1), some (.int v1), none] rfl rfl rfl (by decide) rfl ?_
  refine p_aload_n (k := 4) (i := 0) rfl rfl rfl ?_
  refine p_getr (k := 5) rfl (lay_c hb) rfl fl_RX0_18 ?_
  refine p_iload_n (k := 6) (i := 1) rfl rfl rfl ?_
  refine p_iload_n (k := 7) (i := 2) rfl rfl rfl ?_
  refine s_wr h (k := 8) rfl (lay_c2 hb) (fun S2 h => ?_)
  refine p_aload_n (k := 9) (i := 0) rfl rfl rfl ?_
  refine p_iload_n (k := 10) (i := 1) rfl rfl rfl ?_
  obtain ⟨v2, S3, hcS3, h⟩ := cl_some h
  refine p_callV (k := 11) [.int a1] [] rfl (tX0_grazes hb hcS3) (lay_c hb) rfl lc_X0_grazes ml_RX0_103 mi_X0_grazes mv_X0_grazes (by decide) (by decide) (Nat.le_of_ble_eq_true rfl) rfl ?_
  refine p_aload_n (k := 12) (i := 0) rfl rfl rfl ?_
  refine p_getr (k := 13) rfl (lay_c hb) rfl fl_RX0_11 ?_
  refine p_iload_n (k := 14) (i := 2) rfl rfl rfl ?_
  refine s_rd h (k := 15) rfl (lay_c0 hb) (fun v3 h => ?_)
  refine p_mmin (k := 16) rfl ml_RX0_82 mm_static_min mm_init mm_code_min (by decide) (Nat.le_of_ble_eq_true rfl) ?_
  refine s_bnd h (fun v4 h => ?_)
  refine p_istore_n (k := 17) 3 [some (.ref b), some (.int a1), some (.int v1), some (.int v4)] rfl rfl rfl (by decide) rfl ?_
  refine p_aload_n (k := 18) (i := 0) rfl rfl rfl ?_
  refine p_getr (k := 19) rfl (lay_c hb) rfl fl_RX0_11 ?_
  refine p_iload_n (k := 20) (i := 2) rfl rfl rfl ?_
  refine p_dup2 (k := 21) rfl rfl rfl ?_
  refine s_rd h (k := 22) rfl (lay_c0 hb) (fun v5 h => ?_)
  refine p_iload_n (k := 23) (i := 3) rfl rfl rfl ?_
  refine p_isub (k := 24) rfl ?_
  refine s_wr h (k := 25) rfl (lay_c0 hb) (fun S4 h => ?_)
  refine p_aload_n (k := 26) (i := 0) rfl rfl rfl ?_
  refine p_getr (k := 27) rfl (lay_c hb) rfl fl_RX0_27 ?_
  refine p_iload_n (k := 28) (i := 1) rfl rfl rfl ?_
  refine p_aload_n (k := 29) (i := 0) rfl rfl rfl ?_
  refine p_getr (k := 30) rfl (lay_c hb) rfl fl_RX0_27 ?_
  refine p_iload_n (k := 31) (i := 1) rfl rfl rfl ?_
  refine s_rd h (k := 32) rfl (lay_c5 hb) (fun v6 h => ?_)
  refine p_iload_n (k := 33) (i := 3) rfl rfl rfl ?_
  refine p_iadd (k := 34) rfl ?_
  refine p_bipush (k := 35) 99 rfl (by decide) ?_
  refine p_mmin (k := 36) rfl ml_RX0_82 mm_static_min mm_init mm_code_min (by decide) (Nat.le_of_ble_eq_true rfl) ?_
  refine p_iconst (k := 37) 3 rfl (by decide) ?_
  refine p_isub (k := 38) rfl ?_
  refine p_iconst (k := 39) 0 rfl (by decide) ?_
  refine p_mmax (k := 40) rfl ml_RX0_76 mm_static_max mm_init mm_code_max (by decide) (Nat.le_of_ble_eq_true rfl) ?_
  refine s_wr h (k := 41) rfl (lay_c5 hb) (fun S5 h => ?_)
  exact s_vret h (k := 42) rfl rfl
theorem tX0_climbAndGraze {b : Nat} {a1 : Int32} (hb : isC b) {S : St} {r : Unit} {S9 : St} (h : fX0_climbAndGraze b a1 S = some (r, S9)) : MR yX0_climbAndGraze cX0_climbAndGraze mX0_climbAndGraze [.ref b, .int a1] S (none, S9) := MR.of (n := 2) okX0_climbAndGraze rfl rfl (sX0_climbAndGraze hb h)
-- goatsOn(I)I
def fX0_goatsOn_L36 (b : Nat) (k4 : Int32 → Int32 → Int32 → St → Option (Int32 × St)) (x1 : Int32) (x2 : Int32) (x3 : Int32) (S : St) : Option (Int32 × St) :=
  bnd (x3 + 1) fun v1 =>
  k4 x1 x2 v1 S
theorem sX0_goatsOn_L36 {b : Nat} (hb : isC b) {r : Int32} {S9 : St} {k4 : Int32 → Int32 → Int32 → St → Option (Int32 × St)} (hk4 : ∀ x1 x2 x3 S, k4 x1 x2 x3 S = some (r, S9) → PW mX0_goatsOn (some (.int r), S9) 4 [some (.ref b), some (.int x1), some (.int x2), some (.int x3)] [] S) {x1 : Int32} {x2 : Int32} {x3 : Int32} {S : St} (h : fX0_goatsOn_L36 b k4 x1 x2 x3 S = some (r, S9)) : PW mX0_goatsOn (some (.int r), S9) 36 [some (.ref b), some (.int x1), some (.int x2), some (.int x3)] [] S := by
  unfold fX0_goatsOn_L36 at h
  obtain ⟨v1, ev1, h⟩ := bnd_ex h
  refine p_iinc (k := 24) v1 [some (.ref b), some (.int x1), some (.int x2), some (.int v1)] rfl rfl (by rw [← ev1]; rfl) rfl (by decide) rfl ?_
  refine p_goto (k := 25) 4 rfl (by decide) ?_
  refine p_msk [true, true, true, true] (L2 := [some (.ref b), some (.int x1), some (.int x2), some (.int v1)]) rfl ?_
  exact hk4 _ _ _ _ h
def fX0_goatsOn_L4 (b : Nat) : Nat → Int32 → Int32 → Int32 → St → Option (Int32 × St)
  | 0 => fun _ _ _ _ => none
  | n + 1 => fun x1 x2 x3 S =>
    if (S b 8) ≤ x3 then
      some (x2, S)
    else
      cl (fX0_isHere b x3 S) fun v1 S1 =>
      if v1 = 0 then
        fX0_goatsOn_L36 b (fun x1 x2 x3 S => fX0_goatsOn_L4 b n x1 x2 x3 S) x1 x2 x3 S1
      else
        rd S1 (b + 3) 8 x3 fun v2 =>
        if v2 = x1 then
          bnd (x2 ||| (1 <<< (x3 &&& 31))) fun v3 =>
          fX0_goatsOn_L36 b (fun x1 x2 x3 S => fX0_goatsOn_L4 b n x1 x2 x3 S) x1 v3 x3 S1
        else
          fX0_goatsOn_L36 b (fun x1 x2 x3 S => fX0_goatsOn_L4 b n x1 x2 x3 S) x1 x2 x3 S1
theorem sX0_goatsOn_L4 {b : Nat} (hb : isC b) {r : Int32} {S9 : St} : ∀ (n : Nat) (x1 : Int32) (x2 : Int32) (x3 : Int32) (S : St), fX0_goatsOn_L4 b n x1 x2 x3 S = some (r, S9) → PW mX0_goatsOn (some (.int r), S9) 4 [some (.ref b), some (.int x1), some (.int x2), some (.int x3)] [] S := by
  intro n
  induction n with
  | zero => intro x1 x2 x3 S h; cases h
  | succ n ih =>
    intro x1 x2 x3 S h
    unfold fX0_goatsOn_L4 at h
    refine p_iload_n (k := 4) (i := 3) rfl rfl rfl ?_
    refine p_aload_n (k := 5) (i := 0) rfl rfl rfl ?_
    refine p_geti (k := 6) rfl (lay_c hb) rfl fl_RX0_52 ?_
    refine p_icmp_ge (k := 7) 42 rfl (by decide) (fun hc => ?_) (fun hc => ?_)
    · rw [if_pos hc] at h
      refine p_iload_n (k := 26) (i := 2) rfl rfl rfl ?_
      exact s_iret h (k := 27) rfl rfl
    · rw [if_neg hc] at h
      refine p_aload_n (k := 8) (i := 0) rfl rfl rfl ?_
      refine p_iload_n (k := 9) (i := 3) rfl rfl rfl ?_
      obtain ⟨v1, S1, hcS1, h⟩ := cl_some h
      refine p_callV (k := 10) [.int x3] [] rfl (tX0_isHere hb hcS1) (lay_c hb) rfl lc_X0_isHere ml_RX0_88 mi_X0_isHere mv_X0_isHere (by decide) (by decide) (Nat.le_of_ble_eq_true rfl) rfl ?_
      refine p_if_eq (k := 11) 36 rfl (by decide) (fun hc => ?_) (fun hc => ?_)
      · rw [if_pos hc] at h
        refine p_msk [true, true, true, true] (L2 := [some (.ref b), some (.int x1), some (.int x2), some (.int x3)]) rfl ?_
        exact sX0_goatsOn_L36 hb ih h
      · rw [if_neg hc] at h
        refine p_aload_n (k := 12) (i := 0) rfl rfl rfl ?_
        refine p_getr (k := 13) rfl (lay_c hb) rfl fl_RX0_18 ?_
        refine p_iload_n (k := 14) (i := 3) rfl rfl rfl ?_
        refine s_rd h (k := 15) rfl (lay_c2 hb) (fun v2 h => ?_)
        refine p_iload_n (k := 16) (i := 1) rfl rfl rfl ?_
        refine p_icmp_ne (k := 17) 36 rfl (by decide) (fun hc => ?_) (fun hc => ?_)
        · rw [if_neg hc] at h
          refine p_msk [true, true, true, true] (L2 := [some (.ref b), some (.int x1), some (.int x2), some (.int x3)]) rfl ?_
          exact sX0_goatsOn_L36 hb ih h
        · rw [if_pos hc] at h
          refine p_iload_n (k := 18) (i := 2) rfl rfl rfl ?_
          refine p_iconst (k := 19) 1 rfl (by decide) ?_
          refine p_iload_n (k := 20) (i := 3) rfl rfl rfl ?_
          refine p_ishl (k := 21) rfl ?_
          refine p_ior (k := 22) rfl ?_
          refine s_bnd h (fun v3 h => ?_)
          refine p_istore_n (k := 23) 2 [some (.ref b), some (.int x1), some (.int v3), some (.int x3)] rfl rfl rfl (by decide) rfl ?_
          refine p_msk [true, true, true, true] (L2 := [some (.ref b), some (.int x1), some (.int v3), some (.int x3)]) rfl ?_
          exact sX0_goatsOn_L36 hb ih h
def fX0_goatsOn (b : Nat) (a1 : Int32) (S : St) : Option (Int32 × St) :=
  fX0_goatsOn_L4 b FU a1 0 0 S
theorem sX0_goatsOn {b : Nat} {a1 : Int32} (hb : isC b) {S : St} {r : Int32} {S9 : St} (h : fX0_goatsOn b a1 S = some (r, S9)) : PW mX0_goatsOn (some (.int r), S9) 0 [some (.ref b), some (.int a1), none, none] [] S := by
  unfold fX0_goatsOn at h
  refine p_iconst (k := 0) 0 rfl (by decide) ?_
  refine p_istore_n (k := 1) 2 [some (.ref b), some (.int a1), some (.int 0), none] rfl rfl rfl (by decide) rfl ?_
  refine p_iconst (k := 2) 0 rfl (by decide) ?_
  refine p_istore_n (k := 3) 3 [some (.ref b), some (.int a1), some (.int 0), some (.int 0)] rfl rfl rfl (by decide) rfl ?_
  refine p_msk [true, true, true, true] (L2 := [some (.ref b), some (.int a1), some (.int 0), some (.int 0)]) rfl ?_
  exact sX0_goatsOn_L4 hb _ _ _ _ _ h
theorem tX0_goatsOn {b : Nat} {a1 : Int32} (hb : isC b) {S : St} {r : Int32} {S9 : St} (h : fX0_goatsOn b a1 S = some (r, S9)) : MR yX0_goatsOn cX0_goatsOn mX0_goatsOn [.ref b, .int a1] S (some (.int r), S9) := MR.of (n := 2) okX0_goatsOn rfl rfl (sX0_goatsOn hb h)
-- pagesOf(I)I
def fX0_pagesOf_L29 (b : Nat) (k4 : Int32 → Int32 → Int32 → St → Option (Int32 × St)) (x1 : Int32) (x2 : Int32) (x3 : Int32) (S : St) : Option (Int32 × St) :=
  bnd (x3 + 1) fun v1 =>
  k4 x1 x2 v1 S
theorem sX0_pagesOf_L29 {b : Nat} (hb : isC b) {r : Int32} {S9 : St} {k4 : Int32 → Int32 → Int32 → St → Option (Int32 × St)} (hk4 : ∀ x1 x2 x3 S, k4 x1 x2 x3 S = some (r, S9) → PW mX0_pagesOf (some (.int r), S9) 4 [some (.ref b), some (.int x1), some (.int x2), some (.int x3)] [] S) {x1 : Int32} {x2 : Int32} {x3 : Int32} {S : St} (h : fX0_pagesOf_L29 b k4 x1 x2 x3 S = some (r, S9)) : PW mX0_pagesOf (some (.int r), S9) 29 [some (.ref b), some (.int x1), some (.int x2), some (.int x3)] [] S := by
  unfold fX0_pagesOf_L29 at h
  obtain ⟨v1, ev1, h⟩ := bnd_ex h
  refine p_iinc (k := 19) v1 [some (.ref b), some (.int x1), some (.int x2), some (.int v1)] rfl rfl (by rw [← ev1]; rfl) rfl (by decide) rfl ?_
  refine p_goto (k := 20) 4 rfl (by decide) ?_
  refine p_msk [true, true, true, true] (L2 := [some (.ref b), some (.int x1), some (.int x2), some (.int v1)]) rfl ?_
  exact hk4 _ _ _ _ h
def fX0_pagesOf_L4 (b : Nat) : Nat → Int32 → Int32 → Int32 → St → Option (Int32 × St)
  | 0 => fun _ _ _ _ => none
  | n + 1 => fun x1 x2 x3 S =>
    if (S b 8) ≤ x3 then
      some (x2, S)
    else
      cl (fX4_hasBit x1 x3 S) fun v1 S1 =>
      if v1 = 0 then
        fX0_pagesOf_L29 b (fun x1 x2 x3 S => fX0_pagesOf_L4 b n x1 x2 x3 S) x1 x2 x3 S1
      else
        rd S1 (b + 4) 8 x3 fun v2 =>
        bnd (x2 ||| v2) fun v3 =>
        fX0_pagesOf_L29 b (fun x1 x2 x3 S => fX0_pagesOf_L4 b n x1 x2 x3 S) x1 v3 x3 S1
theorem sX0_pagesOf_L4 {b : Nat} (hb : isC b) {r : Int32} {S9 : St} : ∀ (n : Nat) (x1 : Int32) (x2 : Int32) (x3 : Int32) (S : St), fX0_pagesOf_L4 b n x1 x2 x3 S = some (r, S9) → PW mX0_pagesOf (some (.int r), S9) 4 [some (.ref b), some (.int x1), some (.int x2), some (.int x3)] [] S := by
  intro n
  induction n with
  | zero => intro x1 x2 x3 S h; cases h
  | succ n ih =>
    intro x1 x2 x3 S h
    unfold fX0_pagesOf_L4 at h
    refine p_iload_n (k := 4) (i := 3) rfl rfl rfl ?_
    refine p_aload_n (k := 5) (i := 0) rfl rfl rfl ?_
    refine p_geti (k := 6) rfl (lay_c hb) rfl fl_RX0_52 ?_
    refine p_icmp_ge (k := 7) 35 rfl (by decide) (fun hc => ?_) (fun hc => ?_)
    · rw [if_pos hc] at h
      refine p_iload_n (k := 21) (i := 2) rfl rfl rfl ?_
      exact s_iret h (k := 22) rfl rfl
    · rw [if_neg hc] at h
      refine p_iload_n (k := 8) (i := 1) rfl rfl rfl ?_
      refine p_iload_n (k := 9) (i := 3) rfl rfl rfl ?_
      obtain ⟨v1, S1, hcS1, h⟩ := cl_some h
      refine p_callSN (k := 10) [.int x1, .int x3] [] rfl (tX4_hasBit hcS1) lc_X4_hasBit ml_RX0_115 ms_X4_hasBit (by decide) (by decide) (Nat.le_of_ble_eq_true rfl) rfl ?_
      refine p_if_eq (k := 11) 29 rfl (by decide) (fun hc => ?_) (fun hc => ?_)
      · rw [if_pos hc] at h
        refine p_msk [true, true, true, true] (L2 := [some (.ref b), some (.int x1), some (.int x2), some (.int x3)]) rfl ?_
        exact sX0_pagesOf_L29 hb ih h
      · rw [if_neg hc] at h
        refine p_iload_n (k := 12) (i := 2) rfl rfl rfl ?_
        refine p_aload_n (k := 13) (i := 0) rfl rfl rfl ?_
        refine p_getr (k := 14) rfl (lay_c hb) rfl fl_RX0_21 ?_
        refine p_iload_n (k := 15) (i := 3) rfl rfl rfl ?_
        refine s_rd h (k := 16) rfl (lay_c3 hb) (fun v2 h => ?_)
        refine p_ior (k := 17) rfl ?_
        refine s_bnd h (fun v3 h => ?_)
        refine p_istore_n (k := 18) 2 [some (.ref b), some (.int x1), some (.int v3), some (.int x3)] rfl rfl rfl (by decide) rfl ?_
        refine p_msk [true, true, true, true] (L2 := [some (.ref b), some (.int x1), some (.int v3), some (.int x3)]) rfl ?_
        exact sX0_pagesOf_L29 hb ih h
def fX0_pagesOf (b : Nat) (a1 : Int32) (S : St) : Option (Int32 × St) :=
  fX0_pagesOf_L4 b FU a1 0 0 S
theorem sX0_pagesOf {b : Nat} {a1 : Int32} (hb : isC b) {S : St} {r : Int32} {S9 : St} (h : fX0_pagesOf b a1 S = some (r, S9)) : PW mX0_pagesOf (some (.int r), S9) 0 [some (.ref b), some (.int a1), none, none] [] S := by
  unfold fX0_pagesOf at h
  refine p_iconst (k := 0) 0 rfl (by decide) ?_
  refine p_istore_n (k := 1) 2 [some (.ref b), some (.int a1), some (.int 0), none] rfl rfl rfl (by decide) rfl ?_
  refine p_iconst (k := 2) 0 rfl (by decide) ?_
  refine p_istore_n (k := 3) 3 [some (.ref b), some (.int a1), some (.int 0), some (.int 0)] rfl rfl rfl (by decide) rfl ?_
  refine p_msk [true, true, true, true] (L2 := [some (.ref b), some (.int a1), some (.int 0), some (.int 0)]) rfl ?_
  exact sX0_pagesOf_L4 hb _ _ _ _ _ h
theorem tX0_pagesOf {b : Nat} {a1 : Int32} (hb : isC b) {S : St} {r : Int32} {S9 : St} (h : fX0_pagesOf b a1 S = some (r, S9)) : MR yX0_pagesOf cX0_pagesOf mX0_pagesOf [.ref b, .int a1] S (some (.int r), S9) := MR.of (n := 2) okX0_pagesOf rfl rfl (sX0_pagesOf hb h)
-- pagesOn(I)I
def fX0_pagesOn (b : Nat) (a1 : Int32) (S : St) : Option (Int32 × St) :=
  cl (fX0_goatsOn b a1 S) fun v1 S1 =>
  cl (fX0_pagesOf b v1 S1) fun v2 S2 =>
  some (v2, S2)
theorem sX0_pagesOn {b : Nat} {a1 : Int32} (hb : isC b) {S : St} {r : Int32} {S9 : St} (h : fX0_pagesOn b a1 S = some (r, S9)) : PW mX0_pagesOn (some (.int r), S9) 0 [some (.ref b), some (.int a1)] [] S := by
  unfold fX0_pagesOn at h
  refine p_aload_n (k := 0) (i := 0) rfl rfl rfl ?_
  refine p_aload_n (k := 1) (i := 0) rfl rfl rfl ?_
  refine p_iload_n (k := 2) (i := 1) rfl rfl rfl ?_
  obtain ⟨v1, S1, hcS1, h⟩ := cl_some h
  refine p_callV (k := 3) [.int a1] [.ref b] rfl (tX0_goatsOn hb hcS1) (lay_c hb) rfl lc_X0_goatsOn ml_RX0_124 mi_X0_goatsOn mv_X0_goatsOn (by decide) (by decide) (Nat.le_of_ble_eq_true rfl) rfl ?_
  obtain ⟨v2, S2, hcS2, h⟩ := cl_some h
  refine p_callV (k := 4) [.int v1] [] rfl (tX0_pagesOf hb hcS2) (lay_c hb) rfl lc_X0_pagesOf ml_RX0_127 mi_X0_pagesOf mv_X0_pagesOf (by decide) (by decide) (Nat.le_of_ble_eq_true rfl) rfl ?_
  exact s_iret h (k := 5) rfl rfl
theorem tX0_pagesOn {b : Nat} {a1 : Int32} (hb : isC b) {S : St} {r : Int32} {S9 : St} (h : fX0_pagesOn b a1 S = some (r, S9)) : MR yX0_pagesOn cX0_pagesOn mX0_pagesOn [.ref b, .int a1] S (some (.int r), S9) := MR.of (n := 0) okX0_pagesOn rfl rfl (sX0_pagesOn hb h)
-- withoutGreatest(I)I
def fX0_withoutGreatest_L3 : Nat → Int32 → Int32 → St → Option (Int32 × St)
  | 0 => fun _ _ _ => none
  | n + 1 => fun x0 x1 S =>
    if x1 < 0 then
      some (x0, S)
    else
      cl (fX4_hasBit x0 x1 S) fun v1 S1 =>
      if v1 = 0 then
        bnd (x1 + (-1)) fun v2 =>
        fX0_withoutGreatest_L3 n x0 v2 S1
      else
        some (x0 &&& ((1 <<< (x1 &&& 31)) ^^^ (-1)), S1)
theorem sX0_withoutGreatest_L3 {r : Int32} {S9 : St} : ∀ (n : Nat) (x0 : Int32) (x1 : Int32) (S : St), fX0_withoutGreatest_L3 n x0 x1 S = some (r, S9) → PW mX0_withoutGreatest (some (.int r), S9) 3 [some (.int x0), some (.int x1)] [] S := by
  intro n
  induction n with
  | zero => intro x0 x1 S h; cases h
  | succ n ih =>
    intro x0 x1 S h
    unfold fX0_withoutGreatest_L3 at h
    refine p_iload_n (k := 2) (i := 1) rfl rfl rfl ?_
    refine p_if_lt (k := 3) 29 rfl (by decide) (fun hc => ?_) (fun hc => ?_)
    · rw [if_pos hc] at h
      refine p_iload_n (k := 18) (i := 0) rfl rfl rfl ?_
      exact s_iret h (k := 19) rfl rfl
    · rw [if_neg hc] at h
      refine p_iload_n (k := 4) (i := 0) rfl rfl rfl ?_
      refine p_iload_n (k := 5) (i := 1) rfl rfl rfl ?_
      obtain ⟨v1, S1, hcS1, h⟩ := cl_some h
      refine p_callSN (k := 6) [.int x0, .int x1] [] rfl (tX4_hasBit hcS1) lc_X4_hasBit ml_RX0_115 ms_X4_hasBit (by decide) (by decide) (Nat.le_of_ble_eq_true rfl) rfl ?_
      refine p_if_eq (k := 7) 23 rfl (by decide) (fun hc => ?_) (fun hc => ?_)
      · rw [if_pos hc] at h
        obtain ⟨v2, ev2, h⟩ := bnd_ex h
        refine p_iinc (k := 16) v2 [some (.int x0), some (.int v2)] rfl rfl (by rw [← ev2]; rfl) rfl (by decide) rfl ?_
        refine p_goto (k := 17) 3 rfl (by decide) ?_
        refine p_msk [true, true] (L2 := [some (.int x0), some (.int v2)]) rfl ?_
        exact ih _ _ _ h
      · rw [if_neg hc] at h
        refine p_iload_n (k := 8) (i := 0) rfl rfl rfl ?_
        refine p_iconst (k := 9) 1 rfl (by decide) ?_
        refine p_iload_n (k := 10) (i := 1) rfl rfl rfl ?_
        refine p_ishl (k := 11) rfl ?_
        refine p_iconst (k := 12) (-1) rfl (by decide) ?_
        refine p_ixor (k := 13) rfl ?_
        refine p_iand (k := 14) rfl ?_
        exact s_iret h (k := 15) rfl rfl
def fX0_withoutGreatest (a1 : Int32) (S : St) : Option (Int32 × St) :=
  fX0_withoutGreatest_L3 FU a1 15 S
theorem sX0_withoutGreatest {a1 : Int32} {S : St} {r : Int32} {S9 : St} (h : fX0_withoutGreatest a1 S = some (r, S9)) : PW mX0_withoutGreatest (some (.int r), S9) 0 [some (.int a1), none] [] S := by
  unfold fX0_withoutGreatest at h
  refine p_bipush (k := 0) 15 rfl (by decide) ?_
  refine p_istore_n (k := 1) 1 [some (.int a1), some (.int 15)] rfl rfl rfl (by decide) rfl ?_
  refine p_msk [true, true] (L2 := [some (.int a1), some (.int 15)]) rfl ?_
  exact sX0_withoutGreatest_L3 _ _ _ _ h
theorem tX0_withoutGreatest {a1 : Int32} {S : St} {r : Int32} {S9 : St} (h : fX0_withoutGreatest a1 S = some (r, S9)) : MR yX0_withoutGreatest cX0_withoutGreatest mX0_withoutGreatest [.int a1] S (some (.int r), S9) := MR.of (n := 1) okX0_withoutGreatest rfl rfl (sX0_withoutGreatest h)
-- learnOrForget(I)V
def fX0_learnOrForget_L66 (b : Nat) (S : St) : Option (Unit × St) :=
  some ((), S)
theorem sX0_learnOrForget_L66 {b : Nat} (hb : isC b) {r : Unit} {S9 : St}  {S : St} (h : fX0_learnOrForget_L66 b S = some (r, S9)) : PW mX0_learnOrForget (none, S9) 66 [none, none] [] S := by
  unfold fX0_learnOrForget_L66 at h
  exact s_vret h (k := 41) rfl rfl
def fX0_learnOrForget_L42 (b : Nat) (x1 : Int32) (S : St) : Option (Unit × St) :=
  rd S (b + 6) 8 x1 fun v1 =>
  if v1 = 0 then
    rd S (b + 4) 8 x1 fun v2 =>
    cl (fX0_withoutGreatest v2 S) fun v3 S1 =>
    wr S1 (b + 4) 8 x1 v3 fun S2 =>
    fX0_learnOrForget_L66 b S2
  else
    fX0_learnOrForget_L66 b S
theorem sX0_learnOrForget_L42 {b : Nat} (hb : isC b) {r : Unit} {S9 : St} {x1 : Int32} {S : St} (h : fX0_learnOrForget_L42 b x1 S = some (r, S9)) : PW mX0_learnOrForget (none, S9) 42 [some (.ref b), some (.int x1)] [] S := by
  unfold fX0_learnOrForget_L42 at h
  refine p_aload_n (k := 27) (i := 0) rfl rfl rfl ?_
  refine p_getr (k := 28) rfl (lay_c hb) rfl fl_RX0_27 ?_
  refine p_iload_n (k := 29) (i := 1) rfl rfl rfl ?_
  refine s_rd h (k := 30) rfl (lay_c5 hb) (fun v1 h => ?_)
  refine p_if_ne (k := 31) 66 rfl (by decide) (fun hc => ?_) (fun hc => ?_)
  · rw [if_neg hc] at h
    refine p_msk [false, false] (L2 := [none, none]) rfl ?_
    exact sX0_learnOrForget_L66 hb h
  · rw [if_pos hc] at h
    refine p_aload_n (k := 32) (i := 0) rfl rfl rfl ?_
    refine p_getr (k := 33) rfl (lay_c hb) rfl fl_RX0_21 ?_
    refine p_iload_n (k := 34) (i := 1) rfl rfl rfl ?_
    refine p_aload_n (k := 35) (i := 0) rfl rfl rfl ?_
    refine p_getr (k := 36) rfl (lay_c hb) rfl fl_RX0_21 ?_
    refine p_iload_n (k := 37) (i := 1) rfl rfl rfl ?_
    refine s_rd h (k := 38) rfl (lay_c3 hb) (fun v2 h => ?_)
    obtain ⟨v3, S1, hcS1, h⟩ := cl_some h
    refine p_callS (k := 39) [.int v2] [.int x1, .ref (b + 4)] rfl (tX0_withoutGreatest hcS1) lc_X0_withoutGreatest ml_RX0_112 ms_X0_withoutGreatest (by decide) (by decide) (Nat.le_of_ble_eq_true rfl) rfl ?_
    refine s_wr h (k := 40) rfl (lay_c3 hb) (fun S2 h => ?_)
    refine p_msk [false, false] (L2 := [none, none]) rfl ?_
    exact sX0_learnOrForget_L66 hb h
def fX0_learnOrForget (b : Nat) (a1 : Int32) (S : St) : Option (Unit × St) :=
  rd S (b + 6) 8 a1 fun v1 =>
  if v1 < 20 then
    fX0_learnOrForget_L42 b a1 S
  else
    rd S (b + 4) 8 a1 fun v2 =>
    rd S (b + 3) 8 a1 fun v3 =>
    cl (fX0_pagesOn b v3 S) fun v4 S1 =>
    rd S1 (b + 4) 8 a1 fun v5 =>
    cl (fX4_leastBit (v4 &&& (v5 ^^^ (-1))) S1) fun v6 S2 =>
    wr S2 (b + 4) 8 a1 (v2 ||| v6) fun S3 =>
    fX0_learnOrForget_L42 b a1 S3
theorem sX0_learnOrForget {b : Nat} {a1 : Int32} (hb : isC b) {S : St} {r : Unit} {S9 : St} (h : fX0_learnOrForget b a1 S = some (r, S9)) : PW mX0_learnOrForget (none, S9) 0 [some (.ref b), some (.int a1)] [] S := by
  unfold fX0_learnOrForget at h
  refine p_aload_n (k := 0) (i := 0) rfl rfl rfl ?_
  refine p_getr (k := 1) rfl (lay_c hb) rfl fl_RX0_27 ?_
  refine p_iload_n (k := 2) (i := 1) rfl rfl rfl ?_
  refine s_rd h (k := 3) rfl (lay_c5 hb) (fun v1 h => ?_)
  refine p_bipush (k := 4) 20 rfl (by decide) ?_
  refine p_icmp_lt (k := 5) 42 rfl (by decide) (fun hc => ?_) (fun hc => ?_)
  · rw [if_pos hc] at h
    refine p_msk [true, true] (L2 := [some (.ref b), some (.int a1)]) rfl ?_
    exact sX0_learnOrForget_L42 hb h
  · rw [if_neg hc] at h
    refine p_aload_n (k := 6) (i := 0) rfl rfl rfl ?_
    refine p_getr (k := 7) rfl (lay_c hb) rfl fl_RX0_21 ?_
    refine p_iload_n (k := 8) (i := 1) rfl rfl rfl ?_
    refine p_dup2 (k := 9) rfl rfl rfl ?_
    refine s_rd h (k := 10) rfl (lay_c3 hb) (fun v2 h => ?_)
    refine p_aload_n (k := 11) (i := 0) rfl rfl rfl ?_
    refine p_aload_n (k := 12) (i := 0) rfl rfl rfl ?_
    refine p_getr (k := 13) rfl (lay_c hb) rfl fl_RX0_18 ?_
    refine p_iload_n (k := 14) (i := 1) rfl rfl rfl ?_
    refine s_rd h (k := 15) rfl (lay_c2 hb) (fun v3 h => ?_)
    obtain ⟨v4, S1, hcS1, h⟩ := cl_some h
    refine p_callV (k := 16) [.int v3] [.int v2, .int a1, .ref (b + 4)] rfl (tX0_pagesOn hb hcS1) (lay_c hb) rfl lc_X0_pagesOn ml_RX0_106 mi_X0_pagesOn mv_X0_pagesOn (by decide) (by decide) (Nat.le_of_ble_eq_true rfl) rfl ?_
    refine p_aload_n (k := 17) (i := 0) rfl rfl rfl ?_
    refine p_getr (k := 18) rfl (lay_c hb) rfl fl_RX0_21 ?_
    refine p_iload_n (k := 19) (i := 1) rfl rfl rfl ?_
    refine s_rd h (k := 20) rfl (lay_c3 hb) (fun v5 h => ?_)
    refine p_iconst (k := 21) (-1) rfl (by decide) ?_
    refine p_ixor (k := 22) rfl ?_
    refine p_iand (k := 23) rfl ?_
    obtain ⟨v6, S2, hcS2, h⟩ := cl_some h
    refine p_callSN (k := 24) [.int (v4 &&& (v5 ^^^ (-1)))] [.int v2, .int a1, .ref (b + 4)] rfl (tX4_leastBit hcS2) lc_X4_leastBit ml_RX0_109 ms_X4_leastBit (by decide) (by decide) (Nat.le_of_ble_eq_true rfl) rfl ?_
    refine p_ior (k := 25) rfl ?_
    refine s_wr h (k := 26) rfl (lay_c3 hb) (fun S3 h => ?_)
    refine p_msk [true, true] (L2 := [some (.ref b), some (.int a1)]) rfl ?_
    exact sX0_learnOrForget_L42 hb h
theorem tX0_learnOrForget {b : Nat} {a1 : Int32} (hb : isC b) {S : St} {r : Unit} {S9 : St} (h : fX0_learnOrForget b a1 S = some (r, S9)) : MR yX0_learnOrForget cX0_learnOrForget mX0_learnOrForget [.ref b, .int a1] S (none, S9) := MR.of (n := 0) okX0_learnOrForget rfl rfl (sX0_learnOrForget hb h)
-- passDay()V
def fX0_passDay_L23 (b : Nat) (k2 : Int32 → St → Option (Unit × St)) (x1 : Int32) (S : St) : Option (Unit × St) :=
  bnd (x1 + 1) fun v1 =>
  k2 v1 S
theorem sX0_passDay_L23 {b : Nat} (hb : isC b) {r : Unit} {S9 : St} {k2 : Int32 → St → Option (Unit × St)} (hk2 : ∀ x1 S, k2 x1 S = some (r, S9) → PW mX0_passDay (none, S9) 2 [some (.ref b), some (.int x1)] [] S) {x1 : Int32} {S : St} (h : fX0_passDay_L23 b k2 x1 S = some (r, S9)) : PW mX0_passDay (none, S9) 23 [some (.ref b), some (.int x1)] [] S := by
  unfold fX0_passDay_L23 at h
  obtain ⟨v1, ev1, h⟩ := bnd_ex h
  refine p_iinc (k := 13) v1 [some (.ref b), some (.int v1)] rfl rfl (by rw [← ev1]; rfl) rfl (by decide) rfl ?_
  refine p_goto (k := 14) 2 rfl (by decide) ?_
  refine p_msk [true, true] (L2 := [some (.ref b), some (.int v1)]) rfl ?_
  exact hk2 _ _ h
def fX0_passDay_L72 (b : Nat) (k31 : Int32 → St → Option (Unit × St)) (x1 : Int32) (S : St) : Option (Unit × St) :=
  bnd (x1 + 1) fun v1 =>
  k31 v1 S
theorem sX0_passDay_L72 {b : Nat} (hb : isC b) {r : Unit} {S9 : St} {k31 : Int32 → St → Option (Unit × St)} (hk31 : ∀ x1 S, k31 x1 S = some (r, S9) → PW mX0_passDay (none, S9) 31 [some (.ref b), some (.int x1)] [] S) {x1 : Int32} {S : St} (h : fX0_passDay_L72 b k31 x1 S = some (r, S9)) : PW mX0_passDay (none, S9) 72 [some (.ref b), some (.int x1)] [] S := by
  unfold fX0_passDay_L72 at h
  obtain ⟨v1, ev1, h⟩ := bnd_ex h
  refine p_iinc (k := 40) v1 [some (.ref b), some (.int v1)] rfl rfl (by rw [← ev1]; rfl) rfl (by decide) rfl ?_
  refine p_goto (k := 41) 31 rfl (by decide) ?_
  refine p_msk [true, true] (L2 := [some (.ref b), some (.int v1)]) rfl ?_
  exact hk31 _ _ h
def fX0_passDay_L80 (b : Nat) : Nat → Int32 → St → Option (Unit × St)
  | 0 => fun _ _ => none
  | n + 1 => fun x1 S =>
    if 12 ≤ x1 then
      bnd (up2 S b 12 (mnI ((S b 12) + 1) 99999)) fun S1 =>
      some ((), S1)
    else
      rd S (b + 1) 12 x1 fun v1 =>
      wr S (b + 1) 12 x1 (mnI (v1 + (S b 10)) 99) fun S2 =>
      bnd (x1 + 1) fun v2 =>
      fX0_passDay_L80 b n v2 S2
theorem sX0_passDay_L80 {b : Nat} (hb : isC b) {r : Unit} {S9 : St} : ∀ (n : Nat) (x1 : Int32) (S : St), fX0_passDay_L80 b n x1 S = some (r, S9) → PW mX0_passDay (none, S9) 80 [some (.ref b), some (.int x1)] [] S := by
  intro n
  induction n with
  | zero => intro x1 S h; cases h
  | succ n ih =>
    intro x1 S h
    unfold fX0_passDay_L80 at h
    refine p_iload_n (k := 44) (i := 1) rfl rfl rfl ?_
    refine p_bipush (k := 45) 12 rfl (by decide) ?_
    refine p_icmp_ge (k := 46) 114 rfl (by decide) (fun hc => ?_) (fun hc => ?_)
    · rw [if_pos hc] at h
      refine p_aload_n (k := 62) (i := 0) rfl rfl rfl ?_
      refine p_aload_n (k := 63) (i := 0) rfl rfl rfl ?_
      refine p_geti (k := 64) rfl (lay_c hb) rfl fl_RX0_58 ?_
      refine p_iconst (k := 65) 1 rfl (by decide) ?_
      refine p_iadd (k := 66) rfl ?_
      refine p_ldc (k := 67) rfl k_RX0_99 ?_
      refine p_mmin (k := 68) rfl ml_RX0_82 mm_static_min mm_init mm_code_min (by decide) (Nat.le_of_ble_eq_true rfl) ?_
      refine s_put h (k := 69) rfl (lay_c hb) rfl fl_RX0_58 fp_0_12 rfl rfl (fun S1 h => ?_)
      exact s_vret h (k := 70) rfl rfl
    · rw [if_neg hc] at h
      refine p_aload_n (k := 47) (i := 0) rfl rfl rfl ?_
      refine p_getr (k := 48) rfl (lay_c hb) rfl fl_RX0_11 ?_
      refine p_iload_n (k := 49) (i := 1) rfl rfl rfl ?_
      refine p_aload_n (k := 50) (i := 0) rfl rfl rfl ?_
      refine p_getr (k := 51) rfl (lay_c hb) rfl fl_RX0_11 ?_
      refine p_iload_n (k := 52) (i := 1) rfl rfl rfl ?_
      refine s_rd h (k := 53) rfl (lay_c0 hb) (fun v1 h => ?_)
      refine p_aload_n (k := 54) (i := 0) rfl rfl rfl ?_
      refine p_geti (k := 55) rfl (lay_c hb) rfl fl_RX0_36 ?_
      refine p_iadd (k := 56) rfl ?_
      refine p_bipush (k := 57) 99 rfl (by decide) ?_
      refine p_mmin (k := 58) rfl ml_RX0_82 mm_static_min mm_init mm_code_min (by decide) (Nat.le_of_ble_eq_true rfl) ?_
      refine s_wr h (k := 59) rfl (lay_c0 hb) (fun S2 h => ?_)
      obtain ⟨v2, ev2, h⟩ := bnd_ex h
      refine p_iinc (k := 60) v2 [some (.ref b), some (.int v2)] rfl rfl (by rw [← ev2]; rfl) rfl (by decide) rfl ?_
      refine p_goto (k := 61) 80 rfl (by decide) ?_
      refine p_msk [true, true] (L2 := [some (.ref b), some (.int v2)]) rfl ?_
      exact ih _ _ h
def fX0_passDay_L31 (b : Nat) : Nat → Int32 → St → Option (Unit × St)
  | 0 => fun _ _ => none
  | n + 1 => fun x1 S =>
    if (S b 8) ≤ x1 then
      fX0_passDay_L80 b FU 0 S
    else
      cl (fX0_isHere b x1 S) fun v1 S1 =>
      if v1 = 0 then
        fX0_passDay_L72 b (fun x1 S => fX0_passDay_L31 b n x1 S) x1 S1
      else
        cl (fX0_learnOrForget b x1 S1) fun _ S2 =>
        rd S2 (b + 5) 8 x1 fun v2 =>
        wr S2 (b + 5) 8 x1 (mnI (v2 + 1) 9999) fun S3 =>
        fX0_passDay_L72 b (fun x1 S => fX0_passDay_L31 b n x1 S) x1 S3
theorem sX0_passDay_L31 {b : Nat} (hb : isC b) {r : Unit} {S9 : St} : ∀ (n : Nat) (x1 : Int32) (S : St), fX0_passDay_L31 b n x1 S = some (r, S9) → PW mX0_passDay (none, S9) 31 [some (.ref b), some (.int x1)] [] S := by
  intro n
  induction n with
  | zero => intro x1 S h; cases h
  | succ n ih =>
    intro x1 S h
    unfold fX0_passDay_L31 at h
    refine p_iload_n (k := 17) (i := 1) rfl rfl rfl ?_
    refine p_aload_n (k := 18) (i := 0) rfl rfl rfl ?_
    refine p_geti (k := 19) rfl (lay_c hb) rfl fl_RX0_52 ?_
    refine p_icmp_ge (k := 20) 78 rfl (by decide) (fun hc => ?_) (fun hc => ?_)
    · rw [if_pos hc] at h
      refine p_iconst (k := 42) 0 rfl (by decide) ?_
      refine p_istore_n (k := 43) 1 [some (.ref b), some (.int 0)] rfl rfl rfl (by decide) rfl ?_
      refine p_msk [true, true] (L2 := [some (.ref b), some (.int 0)]) rfl ?_
      exact sX0_passDay_L80 hb _ _ _ h
    · rw [if_neg hc] at h
      refine p_aload_n (k := 21) (i := 0) rfl rfl rfl ?_
      refine p_iload_n (k := 22) (i := 1) rfl rfl rfl ?_
      obtain ⟨v1, S1, hcS1, h⟩ := cl_some h
      refine p_callV (k := 23) [.int x1] [] rfl (tX0_isHere hb hcS1) (lay_c hb) rfl lc_X0_isHere ml_RX0_88 mi_X0_isHere mv_X0_isHere (by decide) (by decide) (Nat.le_of_ble_eq_true rfl) rfl ?_
      refine p_if_eq (k := 24) 72 rfl (by decide) (fun hc => ?_) (fun hc => ?_)
      · rw [if_pos hc] at h
        refine p_msk [true, true] (L2 := [some (.ref b), some (.int x1)]) rfl ?_
        exact sX0_passDay_L72 hb ih h
      · rw [if_neg hc] at h
        refine p_aload_n (k := 25) (i := 0) rfl rfl rfl ?_
        refine p_iload_n (k := 26) (i := 1) rfl rfl rfl ?_
        obtain ⟨_, S2, hcS2, h⟩ := cl_some h
        refine p_callV (k := 27) [.int x1] [] rfl (tX0_learnOrForget hb hcS2) (lay_c hb) rfl lc_X0_learnOrForget ml_RX0_96 mi_X0_learnOrForget mv_X0_learnOrForget (by decide) (by decide) (Nat.le_of_ble_eq_true rfl) rfl ?_
        refine p_aload_n (k := 28) (i := 0) rfl rfl rfl ?_
        refine p_getr (k := 29) rfl (lay_c hb) rfl fl_RX0_24 ?_
        refine p_iload_n (k := 30) (i := 1) rfl rfl rfl ?_
        refine p_aload_n (k := 31) (i := 0) rfl rfl rfl ?_
        refine p_getr (k := 32) rfl (lay_c hb) rfl fl_RX0_24 ?_
        refine p_iload_n (k := 33) (i := 1) rfl rfl rfl ?_
        refine s_rd h (k := 34) rfl (lay_c4 hb) (fun v2 h => ?_)
        refine p_iconst (k := 35) 1 rfl (by decide) ?_
        refine p_iadd (k := 36) rfl ?_
        refine p_sipush (k := 37) 9999 rfl (by decide) ?_
        refine p_mmin (k := 38) rfl ml_RX0_82 mm_static_min mm_init mm_code_min (by decide) (Nat.le_of_ble_eq_true rfl) ?_
        refine s_wr h (k := 39) rfl (lay_c4 hb) (fun S3 h => ?_)
        refine p_msk [true, true] (L2 := [some (.ref b), some (.int x1)]) rfl ?_
        exact sX0_passDay_L72 hb ih h
def fX0_passDay_L2 (b : Nat) : Nat → Int32 → St → Option (Unit × St)
  | 0 => fun _ _ => none
  | n + 1 => fun x1 S =>
    if (S b 8) ≤ x1 then
      fX0_passDay_L31 b FU 0 S
    else
      cl (fX0_isHere b x1 S) fun v1 S1 =>
      if v1 = 0 then
        fX0_passDay_L23 b (fun x1 S => fX0_passDay_L2 b n x1 S) x1 S1
      else
        cl (fX0_climbAndGraze b x1 S1) fun _ S2 =>
        fX0_passDay_L23 b (fun x1 S => fX0_passDay_L2 b n x1 S) x1 S2
theorem sX0_passDay_L2 {b : Nat} (hb : isC b) {r : Unit} {S9 : St} : ∀ (n : Nat) (x1 : Int32) (S : St), fX0_passDay_L2 b n x1 S = some (r, S9) → PW mX0_passDay (none, S9) 2 [some (.ref b), some (.int x1)] [] S := by
  intro n
  induction n with
  | zero => intro x1 S h; cases h
  | succ n ih =>
    intro x1 S h
    unfold fX0_passDay_L2 at h
    refine p_iload_n (k := 2) (i := 1) rfl rfl rfl ?_
    refine p_aload_n (k := 3) (i := 0) rfl rfl rfl ?_
    refine p_geti (k := 4) rfl (lay_c hb) rfl fl_RX0_52 ?_
    refine p_icmp_ge (k := 5) 29 rfl (by decide) (fun hc => ?_) (fun hc => ?_)
    · rw [if_pos hc] at h
      refine p_iconst (k := 15) 0 rfl (by decide) ?_
      refine p_istore_n (k := 16) 1 [some (.ref b), some (.int 0)] rfl rfl rfl (by decide) rfl ?_
      refine p_msk [true, true] (L2 := [some (.ref b), some (.int 0)]) rfl ?_
      exact sX0_passDay_L31 hb _ _ _ h
    · rw [if_neg hc] at h
      refine p_aload_n (k := 6) (i := 0) rfl rfl rfl ?_
      refine p_iload_n (k := 7) (i := 1) rfl rfl rfl ?_
      obtain ⟨v1, S1, hcS1, h⟩ := cl_some h
      refine p_callV (k := 8) [.int x1] [] rfl (tX0_isHere hb hcS1) (lay_c hb) rfl lc_X0_isHere ml_RX0_88 mi_X0_isHere mv_X0_isHere (by decide) (by decide) (Nat.le_of_ble_eq_true rfl) rfl ?_
      refine p_if_eq (k := 9) 23 rfl (by decide) (fun hc => ?_) (fun hc => ?_)
      · rw [if_pos hc] at h
        refine p_msk [true, true] (L2 := [some (.ref b), some (.int x1)]) rfl ?_
        exact sX0_passDay_L23 hb ih h
      · rw [if_neg hc] at h
        refine p_aload_n (k := 10) (i := 0) rfl rfl rfl ?_
        refine p_iload_n (k := 11) (i := 1) rfl rfl rfl ?_
        obtain ⟨_, S2, hcS2, h⟩ := cl_some h
        refine p_callV (k := 12) [.int x1] [] rfl (tX0_climbAndGraze hb hcS2) (lay_c hb) rfl lc_X0_climbAndGraze ml_RX0_92 mi_X0_climbAndGraze mv_X0_climbAndGraze (by decide) (by decide) (Nat.le_of_ble_eq_true rfl) rfl ?_
        refine p_msk [true, true] (L2 := [some (.ref b), some (.int x1)]) rfl ?_
        exact sX0_passDay_L23 hb ih h
def fX0_passDay (b : Nat) (S : St) : Option (Unit × St) :=
  fX0_passDay_L2 b FU 0 S
theorem sX0_passDay {b : Nat} (hb : isC b) {S : St} {r : Unit} {S9 : St} (h : fX0_passDay b S = some (r, S9)) : PW mX0_passDay (none, S9) 0 [some (.ref b), none] [] S := by
  unfold fX0_passDay at h
  refine p_iconst (k := 0) 0 rfl (by decide) ?_
  refine p_istore_n (k := 1) 1 [some (.ref b), some (.int 0)] rfl rfl rfl (by decide) rfl ?_
  refine p_msk [true, true] (L2 := [some (.ref b), some (.int 0)]) rfl ?_
  exact sX0_passDay_L2 hb _ _ _ h
theorem tX0_passDay {b : Nat} (hb : isC b) {S : St} {r : Unit} {S9 : St} (h : fX0_passDay b S = some (r, S9)) : MR yX0_passDay cX0_passDay mX0_passDay [.ref b] S (none, S9) := MR.of (n := 1) okX0_passDay rfl rfl (sX0_passDay hb h)
-- passDays(I)V
def fX0_passDays_L2 (b : Nat) : Nat → Int32 → Int32 → St → Option (Unit × St)
  | 0 => fun _ _ _ => none
  | n + 1 => fun x1 x2 S =>
    if x1 ≤ x2 then
      some ((), S)
    else
      cl (fX0_passDay b S) fun _ S1 =>
      bnd (x2 + 1) fun v1 =>
      fX0_passDays_L2 b n x1 v1 S1
theorem sX0_passDays_L2 {b : Nat} (hb : isC b) {r : Unit} {S9 : St} : ∀ (n : Nat) (x1 : Int32) (x2 : Int32) (S : St), fX0_passDays_L2 b n x1 x2 S = some (r, S9) → PW mX0_passDays (none, S9) 2 [some (.ref b), some (.int x1), some (.int x2)] [] S := by
  intro n
  induction n with
  | zero => intro x1 x2 S h; cases h
  | succ n ih =>
    intro x1 x2 S h
    unfold fX0_passDays_L2 at h
    refine p_iload_n (k := 2) (i := 2) rfl rfl rfl ?_
    refine p_iload_n (k := 3) (i := 1) rfl rfl rfl ?_
    refine p_icmp_ge (k := 4) 17 rfl (by decide) (fun hc => ?_) (fun hc => ?_)
    · rw [if_pos hc] at h
      exact s_vret h (k := 9) rfl rfl
    · rw [if_neg hc] at h
      refine p_aload_n (k := 5) (i := 0) rfl rfl rfl ?_
      obtain ⟨_, S1, hcS1, h⟩ := cl_some h
      refine p_callV (k := 6) [] [] rfl (tX0_passDay hb hcS1) (lay_c hb) rfl lc_X0_passDay ml_RX0_85 mi_X0_passDay mv_X0_passDay (by decide) (by decide) (Nat.le_of_ble_eq_true rfl) rfl ?_
      obtain ⟨v1, ev1, h⟩ := bnd_ex h
      refine p_iinc (k := 7) v1 [some (.ref b), some (.int x1), some (.int v1)] rfl rfl (by rw [← ev1]; rfl) rfl (by decide) rfl ?_
      refine p_goto (k := 8) 2 rfl (by decide) ?_
      refine p_msk [true, true, true] (L2 := [some (.ref b), some (.int x1), some (.int v1)]) rfl ?_
      exact ih _ _ _ h
def fX0_passDays (b : Nat) (a1 : Int32) (S : St) : Option (Unit × St) :=
  fX0_passDays_L2 b FU a1 0 S
theorem sX0_passDays {b : Nat} {a1 : Int32} (hb : isC b) {S : St} {r : Unit} {S9 : St} (h : fX0_passDays b a1 S = some (r, S9)) : PW mX0_passDays (none, S9) 0 [some (.ref b), some (.int a1), none] [] S := by
  unfold fX0_passDays at h
  refine p_iconst (k := 0) 0 rfl (by decide) ?_
  refine p_istore_n (k := 1) 2 [some (.ref b), some (.int a1), some (.int 0)] rfl rfl rfl (by decide) rfl ?_
  refine p_msk [true, true, true] (L2 := [some (.ref b), some (.int a1), some (.int 0)]) rfl ?_
  exact sX0_passDays_L2 hb _ _ _ _ h
theorem tX0_passDays {b : Nat} {a1 : Int32} (hb : isC b) {S : St} {r : Unit} {S9 : St} (h : fX0_passDays b a1 S = some (r, S9)) : MR yX0_passDays cX0_passDays mX0_passDays [.ref b, .int a1] S (none, S9) := MR.of (n := 1) okX0_passDays rfl rfl (sX0_passDays hb h)
-- draw()I
def fX0_draw (b : Nat) (S : St) : Option (Int32 × St) :=
  bnd (up2 S b 13 (((S b 13) * 1103515245) + 12345)) fun S1 =>
  some (((S1 b 13 : Int32).toUInt32 >>> ((8 : Int32).toUInt32 &&& Int32.toUInt32 31)).toInt32, S1)
theorem sX0_draw {b : Nat} (hb : isC b) {S : St} {r : Int32} {S9 : St} (h : fX0_draw b S = some (r, S9)) : PW mX0_draw (some (.int r), S9) 0 [some (.ref b)] [] S := by
  unfold fX0_draw at h
  refine p_aload_n (k := 0) (i := 0) rfl rfl rfl ?_
  refine p_aload_n (k := 1) (i := 0) rfl rfl rfl ?_
  refine p_geti (k := 2) rfl (lay_c hb) rfl fl_RX0_43 ?_
  refine p_ldc (k := 3) rfl k_RX0_123 ?_
  refine p_imul (k := 4) rfl ?_
  refine p_sipush (k := 5) 12345 rfl (by decide) ?_
  refine p_iadd (k := 6) rfl ?_
  refine s_put h (k := 7) rfl (lay_c hb) rfl fl_RX0_43 fp_0_13 rfl rfl (fun S1 h => ?_)
  refine p_aload_n (k := 8) (i := 0) rfl rfl rfl ?_
  refine p_geti (k := 9) rfl (lay_c hb) rfl fl_RX0_43 ?_
  refine p_bipush (k := 10) 8 rfl (by decide) ?_
  refine p_iushr (k := 11) rfl ?_
  exact s_iret h (k := 12) rfl rfl
theorem tX0_draw {b : Nat} (hb : isC b) {S : St} {r : Int32} {S9 : St} (h : fX0_draw b S = some (r, S9)) : MR yX0_draw cX0_draw mX0_draw [.ref b] S (some (.int r), S9) := MR.of (n := 0) okX0_draw rfl rfl (sX0_draw hb h)
-- slip()V
def fX0_slip_L36 (b : Nat) (S : St) : Option (Unit × St) :=
  some ((), S)
theorem sX0_slip_L36 {b : Nat} (hb : isC b) {r : Unit} {S9 : St}  {S : St} (h : fX0_slip_L36 b S = some (r, S9)) : PW mX0_slip (none, S9) 36 [none, none] [] S := by
  unfold fX0_slip_L36 at h
  exact s_vret h (k := 22) rfl rfl
def fX0_slip (b : Nat) (S : St) : Option (Unit × St) :=
  cl (fX0_draw b S) fun v1 S1 =>
  wr S1 (b + 1) 12 (v1 - v1 / 12 * 12) 0 fun S2 =>
  cl (fX0_draw b S2) fun v2 S3 =>
  bnd (v2 - v2 / 8 * 8) fun v3 =>
  if (S3 b 8) ≤ v3 then
    fX0_slip_L36 b S3
  else
    wr S3 (b + 3) 8 v3 0 fun S4 =>
    fX0_slip_L36 b S4
theorem sX0_slip {b : Nat} (hb : isC b) {S : St} {r : Unit} {S9 : St} (h : fX0_slip b S = some (r, S9)) : PW mX0_slip (none, S9) 0 [some (.ref b), none] [] S := by
  unfold fX0_slip at h
  refine p_aload_n (k := 0) (i := 0) rfl rfl rfl ?_
  refine p_getr (k := 1) rfl (lay_c hb) rfl fl_RX0_11 ?_
  refine p_aload_n (k := 2) (i := 0) rfl rfl rfl ?_
  obtain ⟨v1, S1, hcS1, h⟩ := cl_some h
  refine p_callV (k := 3) [] [.ref (b + 1)] rfl (tX0_draw hb hcS1) (lay_c hb) rfl lc_X0_draw ml_RX0_119 mi_X0_draw mv_X0_draw (by decide) (by decide) (Nat.le_of_ble_eq_true rfl) rfl ?_
  refine p_bipush (k := 4) 12 rfl (by decide) ?_
  refine p_irem (k := 5) rfl (by decide) ?_
  refine p_iconst (k := 6) 0 rfl (by decide) ?_
  refine s_wr h (k := 7) rfl (lay_c0 hb) (fun S2 h => ?_)
  refine p_aload_n (k := 8) (i := 0) rfl rfl rfl ?_
  obtain ⟨v2, S3, hcS3, h⟩ := cl_some h
  refine p_callV (k := 9) [] [] rfl (tX0_draw hb hcS3) (lay_c hb) rfl lc_X0_draw ml_RX0_119 mi_X0_draw mv_X0_draw (by decide) (by decide) (Nat.le_of_ble_eq_true rfl) rfl ?_
  refine p_bipush (k := 10) 8 rfl (by decide) ?_
  refine p_irem (k := 11) rfl (by decide) ?_
  refine s_bnd h (fun v3 h => ?_)
  refine p_istore_n (k := 12) 1 [some (.ref b), some (.int v3)] rfl rfl rfl (by decide) rfl ?_
  refine p_iload_n (k := 13) (i := 1) rfl rfl rfl ?_
  refine p_aload_n (k := 14) (i := 0) rfl rfl rfl ?_
  refine p_geti (k := 15) rfl (lay_c hb) rfl fl_RX0_52 ?_
  refine p_icmp_ge (k := 16) 36 rfl (by decide) (fun hc => ?_) (fun hc => ?_)
  · rw [if_pos hc] at h
    refine p_msk [false, false] (L2 := [none, none]) rfl ?_
    exact sX0_slip_L36 hb h
  · rw [if_neg hc] at h
    refine p_aload_n (k := 17) (i := 0) rfl rfl rfl ?_
    refine p_getr (k := 18) rfl (lay_c hb) rfl fl_RX0_18 ?_
    refine p_iload_n (k := 19) (i := 1) rfl rfl rfl ?_
    refine p_iconst (k := 20) 0 rfl (by decide) ?_
    refine s_wr h (k := 21) rfl (lay_c2 hb) (fun S4 h => ?_)
    refine p_msk [false, false] (L2 := [none, none]) rfl ?_
    exact sX0_slip_L36 hb h
theorem tX0_slip {b : Nat} (hb : isC b) {S : St} {r : Unit} {S9 : St} (h : fX0_slip b S = some (r, S9)) : MR yX0_slip cX0_slip mX0_slip [.ref b] S (none, S9) := MR.of (n := 1) okX0_slip rfl rfl (sX0_slip hb h)
-- goatsKnowing(I)I
def fX0_goatsKnowing_L39 (b : Nat) (k4 : Int32 → Int32 → Int32 → St → Option (Int32 × St)) (x1 : Int32) (x2 : Int32) (x3 : Int32) (S : St) : Option (Int32 × St) :=
  bnd (x3 + 1) fun v1 =>
  k4 x1 x2 v1 S
theorem sX0_goatsKnowing_L39 {b : Nat} (hb : isC b) {r : Int32} {S9 : St} {k4 : Int32 → Int32 → Int32 → St → Option (Int32 × St)} (hk4 : ∀ x1 x2 x3 S, k4 x1 x2 x3 S = some (r, S9) → PW mX0_goatsKnowing (some (.int r), S9) 4 [some (.ref b), some (.int x1), some (.int x2), some (.int x3)] [] S) {x1 : Int32} {x2 : Int32} {x3 : Int32} {S : St} (h : fX0_goatsKnowing_L39 b k4 x1 x2 x3 S = some (r, S9)) : PW mX0_goatsKnowing (some (.int r), S9) 39 [some (.ref b), some (.int x1), some (.int x2), some (.int x3)] [] S := by
  unfold fX0_goatsKnowing_L39 at h
  obtain ⟨v1, ev1, h⟩ := bnd_ex h
  refine p_iinc (k := 25) v1 [some (.ref b), some (.int x1), some (.int x2), some (.int v1)] rfl rfl (by rw [← ev1]; rfl) rfl (by decide) rfl ?_
  refine p_goto (k := 26) 4 rfl (by decide) ?_
  refine p_msk [true, true, true, true] (L2 := [some (.ref b), some (.int x1), some (.int x2), some (.int v1)]) rfl ?_
  exact hk4 _ _ _ _ h
def fX0_goatsKnowing_L4 (b : Nat) : Nat → Int32 → Int32 → Int32 → St → Option (Int32 × St)
  | 0 => fun _ _ _ _ => none
  | n + 1 => fun x1 x2 x3 S =>
    if (S b 8) ≤ x3 then
      some (x2, S)
    else
      cl (fX0_isHere b x3 S) fun v1 S1 =>
      if v1 = 0 then
        fX0_goatsKnowing_L39 b (fun x1 x2 x3 S => fX0_goatsKnowing_L4 b n x1 x2 x3 S) x1 x2 x3 S1
      else
        rd S1 (b + 4) 8 x3 fun v2 =>
        cl (fX4_hasBit v2 x1 S1) fun v3 S2 =>
        if v3 = 0 then
          fX0_goatsKnowing_L39 b (fun x1 x2 x3 S => fX0_goatsKnowing_L4 b n x1 x2 x3 S) x1 x2 x3 S2
        else
          bnd (x2 ||| (1 <<< (x3 &&& 31))) fun v4 =>
          fX0_goatsKnowing_L39 b (fun x1 x2 x3 S => fX0_goatsKnowing_L4 b n x1 x2 x3 S) x1 v4 x3 S2
theorem sX0_goatsKnowing_L4 {b : Nat} (hb : isC b) {r : Int32} {S9 : St} : ∀ (n : Nat) (x1 : Int32) (x2 : Int32) (x3 : Int32) (S : St), fX0_goatsKnowing_L4 b n x1 x2 x3 S = some (r, S9) → PW mX0_goatsKnowing (some (.int r), S9) 4 [some (.ref b), some (.int x1), some (.int x2), some (.int x3)] [] S := by
  intro n
  induction n with
  | zero => intro x1 x2 x3 S h; cases h
  | succ n ih =>
    intro x1 x2 x3 S h
    unfold fX0_goatsKnowing_L4 at h
    refine p_iload_n (k := 4) (i := 3) rfl rfl rfl ?_
    refine p_aload_n (k := 5) (i := 0) rfl rfl rfl ?_
    refine p_geti (k := 6) rfl (lay_c hb) rfl fl_RX0_52 ?_
    refine p_icmp_ge (k := 7) 45 rfl (by decide) (fun hc => ?_) (fun hc => ?_)
    · rw [if_pos hc] at h
      refine p_iload_n (k := 27) (i := 2) rfl rfl rfl ?_
      exact s_iret h (k := 28) rfl rfl
    · rw [if_neg hc] at h
      refine p_aload_n (k := 8) (i := 0) rfl rfl rfl ?_
      refine p_iload_n (k := 9) (i := 3) rfl rfl rfl ?_
      obtain ⟨v1, S1, hcS1, h⟩ := cl_some h
      refine p_callV (k := 10) [.int x3] [] rfl (tX0_isHere hb hcS1) (lay_c hb) rfl lc_X0_isHere ml_RX0_88 mi_X0_isHere mv_X0_isHere (by decide) (by decide) (Nat.le_of_ble_eq_true rfl) rfl ?_
      refine p_if_eq (k := 11) 39 rfl (by decide) (fun hc => ?_) (fun hc => ?_)
      · rw [if_pos hc] at h
        refine p_msk [true, true, true, true] (L2 := [some (.ref b), some (.int x1), some (.int x2), some (.int x3)]) rfl ?_
        exact sX0_goatsKnowing_L39 hb ih h
      · rw [if_neg hc] at h
        refine p_aload_n (k := 12) (i := 0) rfl rfl rfl ?_
        refine p_getr (k := 13) rfl (lay_c hb) rfl fl_RX0_21 ?_
        refine p_iload_n (k := 14) (i := 3) rfl rfl rfl ?_
        refine s_rd h (k := 15) rfl (lay_c3 hb) (fun v2 h => ?_)
        refine p_iload_n (k := 16) (i := 1) rfl rfl rfl ?_
        obtain ⟨v3, S2, hcS2, h⟩ := cl_some h
        refine p_callSN (k := 17) [.int v2, .int x1] [] rfl (tX4_hasBit hcS2) lc_X4_hasBit ml_RX0_115 ms_X4_hasBit (by decide) (by decide) (Nat.le_of_ble_eq_true rfl) rfl ?_
        refine p_if_eq (k := 18) 39 rfl (by decide) (fun hc => ?_) (fun hc => ?_)
        · rw [if_pos hc] at h
          refine p_msk [true, true, true, true] (L2 := [some (.ref b), some (.int x1), some (.int x2), some (.int x3)]) rfl ?_
          exact sX0_goatsKnowing_L39 hb ih h
        · rw [if_neg hc] at h
          refine p_iload_n (k := 19) (i := 2) rfl rfl rfl ?_
          refine p_iconst (k := 20) 1 rfl (by decide) ?_
          refine p_iload_n (k := 21) (i := 3) rfl rfl rfl ?_
          refine p_ishl (k := 22) rfl ?_
          refine p_ior (k := 23) rfl ?_
          refine s_bnd h (fun v4 h => ?_)
          refine p_istore_n (k := 24) 2 [some (.ref b), some (.int x1), some (.int v4), some (.int x3)] rfl rfl rfl (by decide) rfl ?_
          refine p_msk [true, true, true, true] (L2 := [some (.ref b), some (.int x1), some (.int v4), some (.int x3)]) rfl ?_
          exact sX0_goatsKnowing_L39 hb ih h
def fX0_goatsKnowing (b : Nat) (a1 : Int32) (S : St) : Option (Int32 × St) :=
  fX0_goatsKnowing_L4 b FU a1 0 0 S
theorem sX0_goatsKnowing {b : Nat} {a1 : Int32} (hb : isC b) {S : St} {r : Int32} {S9 : St} (h : fX0_goatsKnowing b a1 S = some (r, S9)) : PW mX0_goatsKnowing (some (.int r), S9) 0 [some (.ref b), some (.int a1), none, none] [] S := by
  unfold fX0_goatsKnowing at h
  refine p_iconst (k := 0) 0 rfl (by decide) ?_
  refine p_istore_n (k := 1) 2 [some (.ref b), some (.int a1), some (.int 0), none] rfl rfl rfl (by decide) rfl ?_
  refine p_iconst (k := 2) 0 rfl (by decide) ?_
  refine p_istore_n (k := 3) 3 [some (.ref b), some (.int a1), some (.int 0), some (.int 0)] rfl rfl rfl (by decide) rfl ?_
  refine p_msk [true, true, true, true] (L2 := [some (.ref b), some (.int a1), some (.int 0), some (.int 0)]) rfl ?_
  exact sX0_goatsKnowing_L4 hb _ _ _ _ _ h
theorem tX0_goatsKnowing {b : Nat} {a1 : Int32} (hb : isC b) {S : St} {r : Int32} {S9 : St} (h : fX0_goatsKnowing b a1 S = some (r, S9)) : MR yX0_goatsKnowing cX0_goatsKnowing mX0_goatsKnowing [.ref b, .int a1] S (some (.int r), S9) := MR.of (n := 2) okX0_goatsKnowing rfl rfl (sX0_goatsKnowing hb h)
-- pagesKnown()I
def fX0_pagesKnown (b : Nat) (S : St) : Option (Int32 × St) :=
  cl (fX0_pagesOf b ((S b 9) ^^^ (-1)) S) fun v1 S1 =>
  some (v1, S1)
theorem sX0_pagesKnown {b : Nat} (hb : isC b) {S : St} {r : Int32} {S9 : St} (h : fX0_pagesKnown b S = some (r, S9)) : PW mX0_pagesKnown (some (.int r), S9) 0 [some (.ref b)] [] S := by
  unfold fX0_pagesKnown at h
  refine p_aload_n (k := 0) (i := 0) rfl rfl rfl ?_
  refine p_aload_n (k := 1) (i := 0) rfl rfl rfl ?_
  refine p_geti (k := 2) rfl (lay_c hb) rfl fl_RX0_55 ?_
  refine p_iconst (k := 3) (-1) rfl (by decide) ?_
  refine p_ixor (k := 4) rfl ?_
  obtain ⟨v1, S1, hcS1, h⟩ := cl_some h
  refine p_callV (k := 5) [.int ((S b 9) ^^^ (-1))] [] rfl (tX0_pagesOf hb hcS1) (lay_c hb) rfl lc_X0_pagesOf ml_RX0_127 mi_X0_pagesOf mv_X0_pagesOf (by decide) (by decide) (Nat.le_of_ble_eq_true rfl) rfl ?_
  exact s_iret h (k := 6) rfl rfl
theorem tX0_pagesKnown {b : Nat} (hb : isC b) {S : St} {r : Int32} {S9 : St} (h : fX0_pagesKnown b S = some (r, S9)) : MR yX0_pagesKnown cX0_pagesKnown mX0_pagesKnown [.ref b] S (some (.int r), S9) := MR.of (n := 0) okX0_pagesKnown rfl rfl (sX0_pagesKnown hb h)
-- isInPrint(I)Z
def fX0_isInPrint (b : Nat) (a1 : Int32) (S : St) : Option (Int32 × St) :=
  cl (fX0_pagesKnown b S) fun v1 S1 =>
  cl (fX4_hasBit v1 a1 S1) fun v2 S2 =>
  retN .boolean v2 S2
theorem sX0_isInPrint {b : Nat} {a1 : Int32} (hb : isC b) {S : St} {r : Int32} {S9 : St} (h : fX0_isInPrint b a1 S = some (r, S9)) : PW mX0_isInPrint (some (.int r), S9) 0 [some (.ref b), some (.int a1)] [] S := by
  unfold fX0_isInPrint at h
  refine p_aload_n (k := 0) (i := 0) rfl rfl rfl ?_
  obtain ⟨v1, S1, hcS1, h⟩ := cl_some h
  refine p_callV (k := 1) [] [] rfl (tX0_pagesKnown hb hcS1) (lay_c hb) rfl lc_X0_pagesKnown ml_RX0_130 mi_X0_pagesKnown mv_X0_pagesKnown (by decide) (by decide) (Nat.le_of_ble_eq_true rfl) rfl ?_
  refine p_iload_n (k := 2) (i := 1) rfl rfl rfl ?_
  obtain ⟨v2, S2, hcS2, h⟩ := cl_some h
  refine p_callSN (k := 3) [.int v1, .int a1] [] rfl (tX4_hasBit hcS2) lc_X4_hasBit ml_RX0_115 ms_X4_hasBit (by decide) (by decide) (Nat.le_of_ble_eq_true rfl) rfl ?_
  exact s_zret h (k := 4) rfl rfl
theorem tX0_isInPrint {b : Nat} {a1 : Int32} (hb : isC b) {S : St} {r : Int32} {S9 : St} (h : fX0_isInPrint b a1 S = some (r, S9)) : MR yX0_isInPrint cX0_isInPrint mX0_isInPrint [.ref b, .int a1] S (some (.int r), S9) := MR.of (n := 0) okX0_isInPrint rfl rfl (sX0_isInPrint hb h)
-- cheapestQuoting(I)I
def fX0_cheapestQuoting_L43 (b : Nat) (k4 : Int32 → Int32 → Int32 → St → Option (Int32 × St)) (x1 : Int32) (x2 : Int32) (x3 : Int32) (S : St) : Option (Int32 × St) :=
  bnd (x3 + 1) fun v1 =>
  k4 x1 x2 v1 S
theorem sX0_cheapestQuoting_L43 {b : Nat} (hb : isC b) {r : Int32} {S9 : St} {k4 : Int32 → Int32 → Int32 → St → Option (Int32 × St)} (hk4 : ∀ x1 x2 x3 S, k4 x1 x2 x3 S = some (r, S9) → PW mX0_cheapestQuoting (some (.int r), S9) 4 [some (.ref b), some (.int x1), some (.int x2), some (.int x3)] [] S) {x1 : Int32} {x2 : Int32} {x3 : Int32} {S : St} (h : fX0_cheapestQuoting_L43 b k4 x1 x2 x3 S = some (r, S9)) : PW mX0_cheapestQuoting (some (.int r), S9) 43 [some (.ref b), some (.int x1), some (.int x2), some (.int x3)] [] S := by
  unfold fX0_cheapestQuoting_L43 at h
  obtain ⟨v1, ev1, h⟩ := bnd_ex h
  refine p_iinc (k := 25) v1 [some (.ref b), some (.int x1), some (.int x2), some (.int v1)] rfl rfl (by rw [← ev1]; rfl) rfl (by decide) rfl ?_
  refine p_goto (k := 26) 4 rfl (by decide) ?_
  refine p_msk [true, true, true, true] (L2 := [some (.ref b), some (.int x1), some (.int x2), some (.int v1)]) rfl ?_
  exact hk4 _ _ _ _ h
def fX0_cheapestQuoting_L41 (b : Nat) (k4 : Int32 → Int32 → Int32 → St → Option (Int32 × St)) (x1 : Int32) (x3 : Int32) (S : St) : Option (Int32 × St) :=
  fX0_cheapestQuoting_L43 b k4 x1 x3 x3 S
theorem sX0_cheapestQuoting_L41 {b : Nat} (hb : isC b) {r : Int32} {S9 : St} {k4 : Int32 → Int32 → Int32 → St → Option (Int32 × St)} (hk4 : ∀ x1 x2 x3 S, k4 x1 x2 x3 S = some (r, S9) → PW mX0_cheapestQuoting (some (.int r), S9) 4 [some (.ref b), some (.int x1), some (.int x2), some (.int x3)] [] S) {x1 : Int32} {x3 : Int32} {S : St} (h : fX0_cheapestQuoting_L41 b k4 x1 x3 S = some (r, S9)) : PW mX0_cheapestQuoting (some (.int r), S9) 41 [some (.ref b), some (.int x1), none, some (.int x3)] [] S := by
  unfold fX0_cheapestQuoting_L41 at h
  refine p_iload_n (k := 23) (i := 3) rfl rfl rfl ?_
  refine p_istore_n (k := 24) 2 [some (.ref b), some (.int x1), some (.int x3), some (.int x3)] rfl rfl rfl (by decide) rfl ?_
  refine p_msk [true, true, true, true] (L2 := [some (.ref b), some (.int x1), some (.int x3), some (.int x3)]) rfl ?_
  exact sX0_cheapestQuoting_L43 hb hk4 h
def fX0_cheapestQuoting_L4 (b : Nat) : Nat → Int32 → Int32 → Int32 → St → Option (Int32 × St)
  | 0 => fun _ _ _ _ => none
  | n + 1 => fun x1 x2 x3 S =>
    if (S b 8) ≤ x3 then
      some (x2, S)
    else
      cl (fX0_quotes b x3 S) fun v1 S1 =>
      cl (fX4_hasBit v1 x1 S1) fun v2 S2 =>
      if v2 = 0 then
        fX0_cheapestQuoting_L43 b (fun x1 x2 x3 S => fX0_cheapestQuoting_L4 b n x1 x2 x3 S) x1 x2 x3 S2
      else
        if x2 < 0 then
          fX0_cheapestQuoting_L41 b (fun x1 x2 x3 S => fX0_cheapestQuoting_L4 b n x1 x2 x3 S) x1 x3 S2
        else
          cl (fX0_costs b x3 S2) fun v3 S3 =>
          cl (fX0_costs b x2 S3) fun v4 S4 =>
          if v4 ≤ v3 then
            fX0_cheapestQuoting_L43 b (fun x1 x2 x3 S => fX0_cheapestQuoting_L4 b n x1 x2 x3 S) x1 x2 x3 S4
          else
            fX0_cheapestQuoting_L41 b (fun x1 x2 x3 S => fX0_cheapestQuoting_L4 b n x1 x2 x3 S) x1 x3 S4
theorem sX0_cheapestQuoting_L4 {b : Nat} (hb : isC b) {r : Int32} {S9 : St} : ∀ (n : Nat) (x1 : Int32) (x2 : Int32) (x3 : Int32) (S : St), fX0_cheapestQuoting_L4 b n x1 x2 x3 S = some (r, S9) → PW mX0_cheapestQuoting (some (.int r), S9) 4 [some (.ref b), some (.int x1), some (.int x2), some (.int x3)] [] S := by
  intro n
  induction n with
  | zero => intro x1 x2 x3 S h; cases h
  | succ n ih =>
    intro x1 x2 x3 S h
    unfold fX0_cheapestQuoting_L4 at h
    refine p_iload_n (k := 4) (i := 3) rfl rfl rfl ?_
    refine p_aload_n (k := 5) (i := 0) rfl rfl rfl ?_
    refine p_geti (k := 6) rfl (lay_c hb) rfl fl_RX0_52 ?_
    refine p_icmp_ge (k := 7) 49 rfl (by decide) (fun hc => ?_) (fun hc => ?_)
    · rw [if_pos hc] at h
      refine p_iload_n (k := 27) (i := 2) rfl rfl rfl ?_
      exact s_iret h (k := 28) rfl rfl
    · rw [if_neg hc] at h
      refine p_aload_n (k := 8) (i := 0) rfl rfl rfl ?_
      refine p_iload_n (k := 9) (i := 3) rfl rfl rfl ?_
      obtain ⟨v1, S1, hcS1, h⟩ := cl_some h
      refine p_callV (k := 10) [.int x3] [] rfl (tX0_quotes hb hcS1) (lay_c hb) rfl lc_X0_quotes ml_RX0_133 mi_X0_quotes mv_X0_quotes (by decide) (by decide) (Nat.le_of_ble_eq_true rfl) rfl ?_
      refine p_iload_n (k := 11) (i := 1) rfl rfl rfl ?_
      obtain ⟨v2, S2, hcS2, h⟩ := cl_some h
      refine p_callSN (k := 12) [.int v1, .int x1] [] rfl (tX4_hasBit hcS2) lc_X4_hasBit ml_RX0_115 ms_X4_hasBit (by decide) (by decide) (Nat.le_of_ble_eq_true rfl) rfl ?_
      refine p_if_eq (k := 13) 43 rfl (by decide) (fun hc => ?_) (fun hc => ?_)
      · rw [if_pos hc] at h
        refine p_msk [true, true, true, true] (L2 := [some (.ref b), some (.int x1), some (.int x2), some (.int x3)]) rfl ?_
        exact sX0_cheapestQuoting_L43 hb ih h
      · rw [if_neg hc] at h
        refine p_iload_n (k := 14) (i := 2) rfl rfl rfl ?_
        refine p_if_lt (k := 15) 41 rfl (by decide) (fun hc => ?_) (fun hc => ?_)
        · rw [if_pos hc] at h
          refine p_msk [true, true, false, true] (L2 := [some (.ref b), some (.int x1), none, some (.int x3)]) rfl ?_
          exact sX0_cheapestQuoting_L41 hb ih h
        · rw [if_neg hc] at h
          refine p_aload_n (k := 16) (i := 0) rfl rfl rfl ?_
          refine p_iload_n (k := 17) (i := 3) rfl rfl rfl ?_
          obtain ⟨v3, S3, hcS3, h⟩ := cl_some h
          refine p_callV (k := 18) [.int x3] [] rfl (tX0_costs hb hcS3) (lay_c hb) rfl lc_X0_costs ml_RX0_136 mi_X0_costs mv_X0_costs (by decide) (by decide) (Nat.le_of_ble_eq_true rfl) rfl ?_
          refine p_aload_n (k := 19) (i := 0) rfl rfl rfl ?_
          refine p_iload_n (k := 20) (i := 2) rfl rfl rfl ?_
          obtain ⟨v4, S4, hcS4, h⟩ := cl_some h
          refine p_callV (k := 21) [.int x2] [.int v3] rfl (tX0_costs hb hcS4) (lay_c hb) rfl lc_X0_costs ml_RX0_136 mi_X0_costs mv_X0_costs (by decide) (by decide) (Nat.le_of_ble_eq_true rfl) rfl ?_
          refine p_icmp_ge (k := 22) 43 rfl (by decide) (fun hc => ?_) (fun hc => ?_)
          · rw [if_pos hc] at h
            refine p_msk [true, true, true, true] (L2 := [some (.ref b), some (.int x1), some (.int x2), some (.int x3)]) rfl ?_
            exact sX0_cheapestQuoting_L43 hb ih h
          · rw [if_neg hc] at h
            refine p_msk [true, true, false, true] (L2 := [some (.ref b), some (.int x1), none, some (.int x3)]) rfl ?_
            exact sX0_cheapestQuoting_L41 hb ih h
def fX0_cheapestQuoting (b : Nat) (a1 : Int32) (S : St) : Option (Int32 × St) :=
  fX0_cheapestQuoting_L4 b FU a1 (-1) 0 S
theorem sX0_cheapestQuoting {b : Nat} {a1 : Int32} (hb : isC b) {S : St} {r : Int32} {S9 : St} (h : fX0_cheapestQuoting b a1 S = some (r, S9)) : PW mX0_cheapestQuoting (some (.int r), S9) 0 [some (.ref b), some (.int a1), none, none] [] S := by
  unfold fX0_cheapestQuoting at h
  refine p_iconst (k := 0) (-1) rfl (by decide) ?_
  refine p_istore_n (k := 1) 2 [some (.ref b), some (.int a1), some (.int (-1)), none] rfl rfl rfl (by decide) rfl ?_
  refine p_iconst (k := 2) 0 rfl (by decide) ?_
  refine p_istore_n (k := 3) 3 [some (.ref b), some (.int a1), some (.int (-1)), some (.int 0)] rfl rfl rfl (by decide) rfl ?_
  refine p_msk [true, true, true, true] (L2 := [some (.ref b), some (.int a1), some (.int (-1)), some (.int 0)]) rfl ?_
  exact sX0_cheapestQuoting_L4 hb _ _ _ _ _ h
theorem tX0_cheapestQuoting {b : Nat} {a1 : Int32} (hb : isC b) {S : St} {r : Int32} {S9 : St} (h : fX0_cheapestQuoting b a1 S = some (r, S9)) : MR yX0_cheapestQuoting cX0_cheapestQuoting mX0_cheapestQuoting [.ref b, .int a1] S (some (.int r), S9) := MR.of (n := 2) okX0_cheapestQuoting rfl rfl (sX0_cheapestQuoting hb h)
-- wisest()I
def fX0_wisest_L39 (b : Nat) (k4 : Int32 → Int32 → St → Option (Int32 × St)) (x1 : Int32) (x2 : Int32) (S : St) : Option (Int32 × St) :=
  bnd (x2 + 1) fun v1 =>
  k4 x1 v1 S
theorem sX0_wisest_L39 {b : Nat} (hb : isC b) {r : Int32} {S9 : St} {k4 : Int32 → Int32 → St → Option (Int32 × St)} (hk4 : ∀ x1 x2 S, k4 x1 x2 S = some (r, S9) → PW mX0_wisest (some (.int r), S9) 4 [some (.ref b), some (.int x1), some (.int x2)] [] S) {x1 : Int32} {x2 : Int32} {S : St} (h : fX0_wisest_L39 b k4 x1 x2 S = some (r, S9)) : PW mX0_wisest (some (.int r), S9) 39 [some (.ref b), some (.int x1), some (.int x2)] [] S := by
  unfold fX0_wisest_L39 at h
  obtain ⟨v1, ev1, h⟩ := bnd_ex h
  refine p_iinc (k := 23) v1 [some (.ref b), some (.int x1), some (.int v1)] rfl rfl (by rw [← ev1]; rfl) rfl (by decide) rfl ?_
  refine p_goto (k := 24) 4 rfl (by decide) ?_
  refine p_msk [true, true, true] (L2 := [some (.ref b), some (.int x1), some (.int v1)]) rfl ?_
  exact hk4 _ _ _ h
def fX0_wisest_L37 (b : Nat) (k4 : Int32 → Int32 → St → Option (Int32 × St)) (x2 : Int32) (S : St) : Option (Int32 × St) :=
  fX0_wisest_L39 b k4 x2 x2 S
theorem sX0_wisest_L37 {b : Nat} (hb : isC b) {r : Int32} {S9 : St} {k4 : Int32 → Int32 → St → Option (Int32 × St)} (hk4 : ∀ x1 x2 S, k4 x1 x2 S = some (r, S9) → PW mX0_wisest (some (.int r), S9) 4 [some (.ref b), some (.int x1), some (.int x2)] [] S) {x2 : Int32} {S : St} (h : fX0_wisest_L37 b k4 x2 S = some (r, S9)) : PW mX0_wisest (some (.int r), S9) 37 [some (.ref b), none, some (.int x2)] [] S := by
  unfold fX0_wisest_L37 at h
  refine p_iload_n (k := 21) (i := 2) rfl rfl rfl ?_
  refine p_istore_n (k := 22) 1 [some (.ref b), some (.int x2), some (.int x2)] rfl rfl rfl (by decide) rfl ?_
  refine p_msk [true, true, true] (L2 := [some (.ref b), some (.int x2), some (.int x2)]) rfl ?_
  exact sX0_wisest_L39 hb hk4 h
def fX0_wisest_L4 (b : Nat) : Nat → Int32 → Int32 → St → Option (Int32 × St)
  | 0 => fun _ _ _ => none
  | n + 1 => fun x1 x2 S =>
    if (S b 8) ≤ x2 then
      some (x1, S)
    else
      if x1 < 0 then
        fX0_wisest_L37 b (fun x1 x2 S => fX0_wisest_L4 b n x1 x2 S) x2 S
      else
        rd S (b + 4) 8 x2 fun v1 =>
        cl (fJ6_bitCount_0f7a4 v1 S) fun v2 S1 =>
        rd S1 (b + 4) 8 x1 fun v3 =>
        cl (fJ6_bitCount_0f7a4 v3 S1) fun v4 S2 =>
        if v2 ≤ v4 then
          fX0_wisest_L39 b (fun x1 x2 S => fX0_wisest_L4 b n x1 x2 S) x1 x2 S2
        else
          fX0_wisest_L37 b (fun x1 x2 S => fX0_wisest_L4 b n x1 x2 S) x2 S2
theorem sX0_wisest_L4 {b : Nat} (hb : isC b) {r : Int32} {S9 : St} : ∀ (n : Nat) (x1 : Int32) (x2 : Int32) (S : St), fX0_wisest_L4 b n x1 x2 S = some (r, S9) → PW mX0_wisest (some (.int r), S9) 4 [some (.ref b), some (.int x1), some (.int x2)] [] S := by
  intro n
  induction n with
  | zero => intro x1 x2 S h; cases h
  | succ n ih =>
    intro x1 x2 S h
    unfold fX0_wisest_L4 at h
    refine p_iload_n (k := 4) (i := 2) rfl rfl rfl ?_
    refine p_aload_n (k := 5) (i := 0) rfl rfl rfl ?_
    refine p_geti (k := 6) rfl (lay_c hb) rfl fl_RX0_52 ?_
    refine p_icmp_ge (k := 7) 45 rfl (by decide) (fun hc => ?_) (fun hc => ?_)
    · rw [if_pos hc] at h
      refine p_iload_n (k := 25) (i := 1) rfl rfl rfl ?_
      exact s_iret h (k := 26) rfl rfl
    · rw [if_neg hc] at h
      refine p_iload_n (k := 8) (i := 1) rfl rfl rfl ?_
      refine p_if_lt (k := 9) 37 rfl (by decide) (fun hc => ?_) (fun hc => ?_)
      · rw [if_pos hc] at h
        refine p_msk [true, false, true] (L2 := [some (.ref b), none, some (.int x2)]) rfl ?_
        exact sX0_wisest_L37 hb ih h
      · rw [if_neg hc] at h
        refine p_aload_n (k := 10) (i := 0) rfl rfl rfl ?_
        refine p_getr (k := 11) rfl (lay_c hb) rfl fl_RX0_21 ?_
        refine p_iload_n (k := 12) (i := 2) rfl rfl rfl ?_
        refine s_rd h (k := 13) rfl (lay_c3 hb) (fun v1 h => ?_)
        obtain ⟨v2, S1, hcS1, h⟩ := cl_some h
        refine p_callS (k := 14) [.int v1] [] rfl (tJ6_bitCount_0f7a4 hcS1) lc_J6_bitCount_0f7a4 ml_RX0_68 ms_J6_bitCount_0f7a4 (by decide) (by decide) (Nat.le_of_ble_eq_true rfl) rfl ?_
        refine p_aload_n (k := 15) (i := 0) rfl rfl rfl ?_
        refine p_getr (k := 16) rfl (lay_c hb) rfl fl_RX0_21 ?_
        refine p_iload_n (k := 17) (i := 1) rfl rfl rfl ?_
        refine s_rd h (k := 18) rfl (lay_c3 hb) (fun v3 h => ?_)
        obtain ⟨v4, S2, hcS2, h⟩ := cl_some h
        refine p_callS (k := 19) [.int v3] [.int v2] rfl (tJ6_bitCount_0f7a4 hcS2) lc_J6_bitCount_0f7a4 ml_RX0_68 ms_J6_bitCount_0f7a4 (by decide) (by decide) (Nat.le_of_ble_eq_true rfl) rfl ?_
        refine p_icmp_le (k := 20) 39 rfl (by decide) (fun hc => ?_) (fun hc => ?_)
        · rw [if_pos hc] at h
          refine p_msk [true, true, true] (L2 := [some (.ref b), some (.int x1), some (.int x2)]) rfl ?_
          exact sX0_wisest_L39 hb ih h
        · rw [if_neg hc] at h
          refine p_msk [true, false, true] (L2 := [some (.ref b), none, some (.int x2)]) rfl ?_
          exact sX0_wisest_L37 hb ih h
def fX0_wisest (b : Nat) (S : St) : Option (Int32 × St) :=
  fX0_wisest_L4 b FU (-1) 0 S
theorem sX0_wisest {b : Nat} (hb : isC b) {S : St} {r : Int32} {S9 : St} (h : fX0_wisest b S = some (r, S9)) : PW mX0_wisest (some (.int r), S9) 0 [some (.ref b), none, none] [] S := by
  unfold fX0_wisest at h
  refine p_iconst (k := 0) (-1) rfl (by decide) ?_
  refine p_istore_n (k := 1) 1 [some (.ref b), some (.int (-1)), none] rfl rfl rfl (by decide) rfl ?_
  refine p_iconst (k := 2) 0 rfl (by decide) ?_
  refine p_istore_n (k := 3) 2 [some (.ref b), some (.int (-1)), some (.int 0)] rfl rfl rfl (by decide) rfl ?_
  refine p_msk [true, true, true] (L2 := [some (.ref b), some (.int (-1)), some (.int 0)]) rfl ?_
  exact sX0_wisest_L4 hb _ _ _ _ h
theorem tX0_wisest {b : Nat} (hb : isC b) {S : St} {r : Int32} {S9 : St} (h : fX0_wisest b S = some (r, S9)) : MR yX0_wisest cX0_wisest mX0_wisest [.ref b] S (some (.int r), S9) := MR.of (n := 2) okX0_wisest rfl rfl (sX0_wisest hb h)
-- grassInAll()I
def fX0_grassInAll_L4 (b : Nat) : Nat → Int32 → Int32 → St → Option (Int32 × St)
  | 0 => fun _ _ _ => none
  | n + 1 => fun x1 x2 S =>
    if 12 ≤ x2 then
      some (x1, S)
    else
      rd S (b + 1) 12 x2 fun v1 =>
      bnd (x1 + v1) fun v2 =>
      bnd (x2 + 1) fun v3 =>
      fX0_grassInAll_L4 b n v2 v3 S
theorem sX0_grassInAll_L4 {b : Nat} (hb : isC b) {r : Int32} {S9 : St} : ∀ (n : Nat) (x1 : Int32) (x2 : Int32) (S : St), fX0_grassInAll_L4 b n x1 x2 S = some (r, S9) → PW mX0_grassInAll (some (.int r), S9) 4 [some (.ref b), some (.int x1), some (.int x2)] [] S := by
  intro n
  induction n with
  | zero => intro x1 x2 S h; cases h
  | succ n ih =>
    intro x1 x2 S h
    unfold fX0_grassInAll_L4 at h
    refine p_iload_n (k := 4) (i := 2) rfl rfl rfl ?_
    refine p_bipush (k := 5) 12 rfl (by decide) ?_
    refine p_icmp_ge (k := 6) 25 rfl (by decide) (fun hc => ?_) (fun hc => ?_)
    · rw [if_pos hc] at h
      refine p_iload_n (k := 16) (i := 1) rfl rfl rfl ?_
      exact s_iret h (k := 17) rfl rfl
    · rw [if_neg hc] at h
      refine p_iload_n (k := 7) (i := 1) rfl rfl rfl ?_
      refine p_aload_n (k := 8) (i := 0) rfl rfl rfl ?_
      refine p_getr (k := 9) rfl (lay_c hb) rfl fl_RX0_11 ?_
      refine p_iload_n (k := 10) (i := 2) rfl rfl rfl ?_
      refine s_rd h (k := 11) rfl (lay_c0 hb) (fun v1 h => ?_)
      refine p_iadd (k := 12) rfl ?_
      refine s_bnd h (fun v2 h => ?_)
      refine p_istore_n (k := 13) 1 [some (.ref b), some (.int v2), some (.int x2)] rfl rfl rfl (by decide) rfl ?_
      obtain ⟨v3, ev3, h⟩ := bnd_ex h
      refine p_iinc (k := 14) v3 [some (.ref b), some (.int v2), some (.int v3)] rfl rfl (by rw [← ev3]; rfl) rfl (by decide) rfl ?_
      refine p_goto (k := 15) 4 rfl (by decide) ?_
      refine p_msk [true, true, true] (L2 := [some (.ref b), some (.int v2), some (.int v3)]) rfl ?_
      exact ih _ _ _ h
def fX0_grassInAll (b : Nat) (S : St) : Option (Int32 × St) :=
  fX0_grassInAll_L4 b FU 0 0 S
theorem sX0_grassInAll {b : Nat} (hb : isC b) {S : St} {r : Int32} {S9 : St} (h : fX0_grassInAll b S = some (r, S9)) : PW mX0_grassInAll (some (.int r), S9) 0 [some (.ref b), none, none] [] S := by
  unfold fX0_grassInAll at h
  refine p_iconst (k := 0) 0 rfl (by decide) ?_
  refine p_istore_n (k := 1) 1 [some (.ref b), some (.int 0), none] rfl rfl rfl (by decide) rfl ?_
  refine p_iconst (k := 2) 0 rfl (by decide) ?_
  refine p_istore_n (k := 3) 2 [some (.ref b), some (.int 0), some (.int 0)] rfl rfl rfl (by decide) rfl ?_
  refine p_msk [true, true, true] (L2 := [some (.ref b), some (.int 0), some (.int 0)]) rfl ?_
  exact sX0_grassInAll_L4 hb _ _ _ _ h
theorem tX0_grassInAll {b : Nat} (hb : isC b) {S : St} {r : Int32} {S9 : St} (h : fX0_grassInAll b S = some (r, S9)) : MR yX0_grassInAll cX0_grassInAll mX0_grassInAll [.ref b] S (some (.int r), S9) := MR.of (n := 2) okX0_grassInAll rfl rfl (sX0_grassInAll hb h)
-- fedInAll()I
def fX0_fedInAll_L4 (b : Nat) : Nat → Int32 → Int32 → St → Option (Int32 × St)
  | 0 => fun _ _ _ => none
  | n + 1 => fun x1 x2 S =>
    if (S b 8) ≤ x2 then
      some (x1, S)
    else
      rd S (b + 6) 8 x2 fun v1 =>
      bnd (x1 + v1) fun v2 =>
      bnd (x2 + 1) fun v3 =>
      fX0_fedInAll_L4 b n v2 v3 S
theorem sX0_fedInAll_L4 {b : Nat} (hb : isC b) {r : Int32} {S9 : St} : ∀ (n : Nat) (x1 : Int32) (x2 : Int32) (S : St), fX0_fedInAll_L4 b n x1 x2 S = some (r, S9) → PW mX0_fedInAll (some (.int r), S9) 4 [some (.ref b), some (.int x1), some (.int x2)] [] S := by
  intro n
  induction n with
  | zero => intro x1 x2 S h; cases h
  | succ n ih =>
    intro x1 x2 S h
    unfold fX0_fedInAll_L4 at h
    refine p_iload_n (k := 4) (i := 2) rfl rfl rfl ?_
    refine p_aload_n (k := 5) (i := 0) rfl rfl rfl ?_
    refine p_geti (k := 6) rfl (lay_c hb) rfl fl_RX0_52 ?_
    refine p_icmp_ge (k := 7) 27 rfl (by decide) (fun hc => ?_) (fun hc => ?_)
    · rw [if_pos hc] at h
      refine p_iload_n (k := 17) (i := 1) rfl rfl rfl ?_
      exact s_iret h (k := 18) rfl rfl
    · rw [if_neg hc] at h
      refine p_iload_n (k := 8) (i := 1) rfl rfl rfl ?_
      refine p_aload_n (k := 9) (i := 0) rfl rfl rfl ?_
      refine p_getr (k := 10) rfl (lay_c hb) rfl fl_RX0_27 ?_
      refine p_iload_n (k := 11) (i := 2) rfl rfl rfl ?_
      refine s_rd h (k := 12) rfl (lay_c5 hb) (fun v1 h => ?_)
      refine p_iadd (k := 13) rfl ?_
      refine s_bnd h (fun v2 h => ?_)
      refine p_istore_n (k := 14) 1 [some (.ref b), some (.int v2), some (.int x2)] rfl rfl rfl (by decide) rfl ?_
      obtain ⟨v3, ev3, h⟩ := bnd_ex h
      refine p_iinc (k := 15) v3 [some (.ref b), some (.int v2), some (.int v3)] rfl rfl (by rw [← ev3]; rfl) rfl (by decide) rfl ?_
      refine p_goto (k := 16) 4 rfl (by decide) ?_
      refine p_msk [true, true, true] (L2 := [some (.ref b), some (.int v2), some (.int v3)]) rfl ?_
      exact ih _ _ _ h
def fX0_fedInAll (b : Nat) (S : St) : Option (Int32 × St) :=
  fX0_fedInAll_L4 b FU 0 0 S
theorem sX0_fedInAll {b : Nat} (hb : isC b) {S : St} {r : Int32} {S9 : St} (h : fX0_fedInAll b S = some (r, S9)) : PW mX0_fedInAll (some (.int r), S9) 0 [some (.ref b), none, none] [] S := by
  unfold fX0_fedInAll at h
  refine p_iconst (k := 0) 0 rfl (by decide) ?_
  refine p_istore_n (k := 1) 1 [some (.ref b), some (.int 0), none] rfl rfl rfl (by decide) rfl ?_
  refine p_iconst (k := 2) 0 rfl (by decide) ?_
  refine p_istore_n (k := 3) 2 [some (.ref b), some (.int 0), some (.int 0)] rfl rfl rfl (by decide) rfl ?_
  refine p_msk [true, true, true] (L2 := [some (.ref b), some (.int 0), some (.int 0)]) rfl ?_
  exact sX0_fedInAll_L4 hb _ _ _ _ h
theorem tX0_fedInAll {b : Nat} (hb : isC b) {S : St} {r : Int32} {S9 : St} (h : fX0_fedInAll b S = some (r, S9)) : MR yX0_fedInAll cX0_fedInAll mX0_fedInAll [.ref b] S (some (.int r), S9) := MR.of (n := 2) okX0_fedInAll rfl rfl (sX0_fedInAll hb h)
-- ledgesWithGoats()I
def fX0_ledgesWithGoats_L4 (b : Nat) : Nat → Int32 → Int32 → St → Option (Int32 × St)
  | 0 => fun _ _ _ => none
  | n + 1 => fun x1 x2 S =>
    if (S b 8) ≤ x2 then
      some (x1, S)
    else
      rd S (b + 3) 8 x2 fun v1 =>
      bnd (x1 ||| (1 <<< (v1 &&& 31))) fun v2 =>
      bnd (x2 + 1) fun v3 =>
      fX0_ledgesWithGoats_L4 b n v2 v3 S
theorem sX0_ledgesWithGoats_L4 {b : Nat} (hb : isC b) {r : Int32} {S9 : St} : ∀ (n : Nat) (x1 : Int32) (x2 : Int32) (S : St), fX0_ledgesWithGoats_L4 b n x1 x2 S = some (r, S9) → PW mX0_ledgesWithGoats (some (.int r), S9) 4 [some (.ref b), some (.int x1), some (.int x2)] [] S := by
  intro n
  induction n with
  | zero => intro x1 x2 S h; cases h
  | succ n ih =>
    intro x1 x2 S h
    unfold fX0_ledgesWithGoats_L4 at h
    refine p_iload_n (k := 4) (i := 2) rfl rfl rfl ?_
    refine p_aload_n (k := 5) (i := 0) rfl rfl rfl ?_
    refine p_geti (k := 6) rfl (lay_c hb) rfl fl_RX0_52 ?_
    refine p_icmp_ge (k := 7) 29 rfl (by decide) (fun hc => ?_) (fun hc => ?_)
    · rw [if_pos hc] at h
      refine p_iload_n (k := 19) (i := 1) rfl rfl rfl ?_
      exact s_iret h (k := 20) rfl rfl
    · rw [if_neg hc] at h
      refine p_iload_n (k := 8) (i := 1) rfl rfl rfl ?_
      refine p_iconst (k := 9) 1 rfl (by decide) ?_
      refine p_aload_n (k := 10) (i := 0) rfl rfl rfl ?_
      refine p_getr (k := 11) rfl (lay_c hb) rfl fl_RX0_18 ?_
      refine p_iload_n (k := 12) (i := 2) rfl rfl rfl ?_
      refine s_rd h (k := 13) rfl (lay_c2 hb) (fun v1 h => ?_)
      refine p_ishl (k := 14) rfl ?_
      refine p_ior (k := 15) rfl ?_
      refine s_bnd h (fun v2 h => ?_)
      refine p_istore_n (k := 16) 1 [some (.ref b), some (.int v2), some (.int x2)] rfl rfl rfl (by decide) rfl ?_
      obtain ⟨v3, ev3, h⟩ := bnd_ex h
      refine p_iinc (k := 17) v3 [some (.ref b), some (.int v2), some (.int v3)] rfl rfl (by rw [← ev3]; rfl) rfl (by decide) rfl ?_
      refine p_goto (k := 18) 4 rfl (by decide) ?_
      refine p_msk [true, true, true] (L2 := [some (.ref b), some (.int v2), some (.int v3)]) rfl ?_
      exact ih _ _ _ h
def fX0_ledgesWithGoats (b : Nat) (S : St) : Option (Int32 × St) :=
  fX0_ledgesWithGoats_L4 b FU 0 0 S
theorem sX0_ledgesWithGoats {b : Nat} (hb : isC b) {S : St} {r : Int32} {S9 : St} (h : fX0_ledgesWithGoats b S = some (r, S9)) : PW mX0_ledgesWithGoats (some (.int r), S9) 0 [some (.ref b), none, none] [] S := by
  unfold fX0_ledgesWithGoats at h
  refine p_iconst (k := 0) 0 rfl (by decide) ?_
  refine p_istore_n (k := 1) 1 [some (.ref b), some (.int 0), none] rfl rfl rfl (by decide) rfl ?_
  refine p_iconst (k := 2) 0 rfl (by decide) ?_
  refine p_istore_n (k := 3) 2 [some (.ref b), some (.int 0), some (.int 0)] rfl rfl rfl (by decide) rfl ?_
  refine p_msk [true, true, true] (L2 := [some (.ref b), some (.int 0), some (.int 0)]) rfl ?_
  exact sX0_ledgesWithGoats_L4 hb _ _ _ _ h
theorem tX0_ledgesWithGoats {b : Nat} (hb : isC b) {S : St} {r : Int32} {S9 : St} (h : fX0_ledgesWithGoats b S = some (r, S9)) : MR yX0_ledgesWithGoats cX0_ledgesWithGoats mX0_ledgesWithGoats [.ref b] S (some (.int r), S9) := MR.of (n := 2) okX0_ledgesWithGoats rfl rfl (sX0_ledgesWithGoats hb h)
-- spotsInUse()I
def fX0_spotsInUse_L22 (b : Nat) (k4 : Int32 → Int32 → St → Option (Int32 × St)) (x1 : Int32) (x2 : Int32) (S : St) : Option (Int32 × St) :=
  bnd (x2 + 1) fun v1 =>
  k4 x1 v1 S
theorem sX0_spotsInUse_L22 {b : Nat} (hb : isC b) {r : Int32} {S9 : St} {k4 : Int32 → Int32 → St → Option (Int32 × St)} (hk4 : ∀ x1 x2 S, k4 x1 x2 S = some (r, S9) → PW mX0_spotsInUse (some (.int r), S9) 4 [some (.ref b), some (.int x1), some (.int x2)] [] S) {x1 : Int32} {x2 : Int32} {S : St} (h : fX0_spotsInUse_L22 b k4 x1 x2 S = some (r, S9)) : PW mX0_spotsInUse (some (.int r), S9) 22 [some (.ref b), some (.int x1), some (.int x2)] [] S := by
  unfold fX0_spotsInUse_L22 at h
  obtain ⟨v1, ev1, h⟩ := bnd_ex h
  refine p_iinc (k := 13) v1 [some (.ref b), some (.int x1), some (.int v1)] rfl rfl (by rw [← ev1]; rfl) rfl (by decide) rfl ?_
  refine p_goto (k := 14) 4 rfl (by decide) ?_
  refine p_msk [true, true, true] (L2 := [some (.ref b), some (.int x1), some (.int v1)]) rfl ?_
  exact hk4 _ _ _ h
def fX0_spotsInUse_L4 (b : Nat) : Nat → Int32 → Int32 → St → Option (Int32 × St)
  | 0 => fun _ _ _ => none
  | n + 1 => fun x1 x2 S =>
    if 10 ≤ x2 then
      some (x1, S)
    else
      rd S (b + 8) 10 x2 fun v1 =>
      if v1 < 0 then
        fX0_spotsInUse_L22 b (fun x1 x2 S => fX0_spotsInUse_L4 b n x1 x2 S) x1 x2 S
      else
        bnd (x1 + 1) fun v2 =>
        fX0_spotsInUse_L22 b (fun x1 x2 S => fX0_spotsInUse_L4 b n x1 x2 S) v2 x2 S
theorem sX0_spotsInUse_L4 {b : Nat} (hb : isC b) {r : Int32} {S9 : St} : ∀ (n : Nat) (x1 : Int32) (x2 : Int32) (S : St), fX0_spotsInUse_L4 b n x1 x2 S = some (r, S9) → PW mX0_spotsInUse (some (.int r), S9) 4 [some (.ref b), some (.int x1), some (.int x2)] [] S := by
  intro n
  induction n with
  | zero => intro x1 x2 S h; cases h
  | succ n ih =>
    intro x1 x2 S h
    unfold fX0_spotsInUse_L4 at h
    refine p_iload_n (k := 4) (i := 2) rfl rfl rfl ?_
    refine p_bipush (k := 5) 10 rfl (by decide) ?_
    refine p_icmp_ge (k := 6) 28 rfl (by decide) (fun hc => ?_) (fun hc => ?_)
    · rw [if_pos hc] at h
      refine p_iload_n (k := 15) (i := 1) rfl rfl rfl ?_
      exact s_iret h (k := 16) rfl rfl
    · rw [if_neg hc] at h
      refine p_aload_n (k := 7) (i := 0) rfl rfl rfl ?_
      refine p_getr (k := 8) rfl (lay_c hb) rfl fl_RX0_33 ?_
      refine p_iload_n (k := 9) (i := 2) rfl rfl rfl ?_
      refine s_rd h (k := 10) rfl (lay_c7 hb) (fun v1 h => ?_)
      refine p_if_lt (k := 11) 22 rfl (by decide) (fun hc => ?_) (fun hc => ?_)
      · rw [if_pos hc] at h
        refine p_msk [true, true, true] (L2 := [some (.ref b), some (.int x1), some (.int x2)]) rfl ?_
        exact sX0_spotsInUse_L22 hb ih h
      · rw [if_neg hc] at h
        obtain ⟨v2, ev2, h⟩ := bnd_ex h
        refine p_iinc (k := 12) v2 [some (.ref b), some (.int v2), some (.int x2)] rfl rfl (by rw [← ev2]; rfl) rfl (by decide) rfl ?_
        refine p_msk [true, true, true] (L2 := [some (.ref b), some (.int v2), some (.int x2)]) rfl ?_
        exact sX0_spotsInUse_L22 hb ih h
def fX0_spotsInUse (b : Nat) (S : St) : Option (Int32 × St) :=
  fX0_spotsInUse_L4 b FU 0 0 S
theorem sX0_spotsInUse {b : Nat} (hb : isC b) {S : St} {r : Int32} {S9 : St} (h : fX0_spotsInUse b S = some (r, S9)) : PW mX0_spotsInUse (some (.int r), S9) 0 [some (.ref b), none, none] [] S := by
  unfold fX0_spotsInUse at h
  refine p_iconst (k := 0) 0 rfl (by decide) ?_
  refine p_istore_n (k := 1) 1 [some (.ref b), some (.int 0), none] rfl rfl rfl (by decide) rfl ?_
  refine p_iconst (k := 2) 0 rfl (by decide) ?_
  refine p_istore_n (k := 3) 2 [some (.ref b), some (.int 0), some (.int 0)] rfl rfl rfl (by decide) rfl ?_
  refine p_msk [true, true, true] (L2 := [some (.ref b), some (.int 0), some (.int 0)]) rfl ?_
  exact sX0_spotsInUse_L4 hb _ _ _ _ h
theorem tX0_spotsInUse {b : Nat} (hb : isC b) {S : St} {r : Int32} {S9 : St} (h : fX0_spotsInUse b S = some (r, S9)) : MR yX0_spotsInUse cX0_spotsInUse mX0_spotsInUse [.ref b] S (some (.int r), S9) := MR.of (n := 2) okX0_spotsInUse rfl rfl (sX0_spotsInUse hb h)
end
