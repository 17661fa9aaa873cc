section
-- ===== PART A: goes FIRST, ahead of the names: the tables' words, and 'selects' of the private methods out of them =====
/-- a private method of a class that the tables say can be made, by its rows of tables_1 -/
def lw_okq (q : MethodName × Nat) : Prop := (q.1.cls ≠ "java/lang/invoke/MethodHandle" ∧ q.1.cls ≠ "java/lang/invoke/VarHandle") ∧ Cond.instantiable q.1.cls q.2 ∈ tables_1 ∧ Cond.privateMethod q.1 ∈ tables_1 ∧ Cond.instanceMethod q.1 ∈ tables_1
theorem lw_p0 : lw_okq (⟨"GoatShelves", "found", "(I)I"⟩, 8) := ⟨⟨by decide +kernel, by decide +kernel⟩, List.mem_of_getElem? (i := 15) (by decide +kernel), List.mem_of_getElem? (i := 184) (by decide +kernel), List.mem_of_getElem? (i := 185) (by decide +kernel)⟩
theorem lw_p1 : lw_okq (⟨"GoatShelves$Cliff", "isHere", "(I)Z"⟩, 14) := ⟨⟨by decide +kernel, by decide +kernel⟩, List.mem_of_getElem? (i := 23) (by decide +kernel), List.mem_of_getElem? (i := 196) (by decide +kernel), List.mem_of_getElem? (i := 197) (by decide +kernel)⟩
theorem lw_p2 : lw_okq (⟨"GoatShelves", "isGoat", "(I)Z"⟩, 8) := ⟨⟨by decide +kernel, by decide +kernel⟩, List.mem_of_getElem? (i := 15) (by decide +kernel), List.mem_of_getElem? (i := 236) (by decide +kernel), List.mem_of_getElem? (i := 237) (by decide +kernel)⟩
theorem lw_p3 : lw_okq (⟨"GoatShelves$Cliff", "greenestNear", "(I)I"⟩, 14) := ⟨⟨by decide +kernel, by decide +kernel⟩, List.mem_of_getElem? (i := 23) (by decide +kernel), List.mem_of_getElem? (i := 258) (by decide +kernel), List.mem_of_getElem? (i := 259) (by decide +kernel)⟩
theorem lw_p4 : lw_okq (⟨"GoatShelves$Cliff", "climbAndGraze", "(I)V"⟩, 14) := ⟨⟨by decide +kernel, by decide +kernel⟩, List.mem_of_getElem? (i := 23) (by decide +kernel), List.mem_of_getElem? (i := 327) (by decide +kernel), List.mem_of_getElem? (i := 328) (by decide +kernel)⟩
theorem lw_p5 : lw_okq (⟨"GoatShelves$Cliff", "learnOrForget", "(I)V"⟩, 14) := ⟨⟨by decide +kernel, by decide +kernel⟩, List.mem_of_getElem? (i := 23) (by decide +kernel), List.mem_of_getElem? (i := 333) (by decide +kernel), List.mem_of_getElem? (i := 334) (by decide +kernel)⟩
theorem lw_p6 : lw_okq (⟨"GoatShelves", "daysUntil", "(III)I"⟩, 8) := ⟨⟨by decide +kernel, by decide +kernel⟩, List.mem_of_getElem? (i := 15) (by decide +kernel), List.mem_of_getElem? (i := 390) (by decide +kernel), List.mem_of_getElem? (i := 391) (by decide +kernel)⟩
theorem lw_p7 : lw_okq (⟨"GoatShelves", "hasCome", "(III)Z"⟩, 8) := ⟨⟨by decide +kernel, by decide +kernel⟩, List.mem_of_getElem? (i := 15) (by decide +kernel), List.mem_of_getElem? (i := 394) (by decide +kernel), List.mem_of_getElem? (i := 395) (by decide +kernel)⟩
theorem lw_p8 : lw_okq (⟨"GoatShelves", "bestTrait", "(IIII)I"⟩, 8) := ⟨⟨by decide +kernel, by decide +kernel⟩, List.mem_of_getElem? (i := 15) (by decide +kernel), List.mem_of_getElem? (i := 421) (by decide +kernel), List.mem_of_getElem? (i := 422) (by decide +kernel)⟩
theorem lw_p9 : lw_okq (⟨"GoatShelves", "isLostWithout", "(III)Z"⟩, 8) := ⟨⟨by decide +kernel, by decide +kernel⟩, List.mem_of_getElem? (i := 15) (by decide +kernel), List.mem_of_getElem? (i := 447) (by decide +kernel), List.mem_of_getElem? (i := 448) (by decide +kernel)⟩
theorem lw_p10 : lw_okq (⟨"GoatShelves", "traitsAsTold", "(IIIII)I"⟩, 8) := ⟨⟨by decide +kernel, by decide +kernel⟩, List.mem_of_getElem? (i := 15) (by decide +kernel), List.mem_of_getElem? (i := 455) (by decide +kernel), List.mem_of_getElem? (i := 456) (by decide +kernel)⟩
theorem lw_p11 : lw_okq (⟨"GoatShelves", "comesAsTold", "(LGoatShelves$Sheet;II)Z"⟩, 8) := ⟨⟨by decide +kernel, by decide +kernel⟩, List.mem_of_getElem? (i := 15) (by decide +kernel), List.mem_of_getElem? (i := 467) (by decide +kernel), List.mem_of_getElem? (i := 468) (by decide +kernel)⟩
theorem lw_p12 : lw_okq (⟨"GoatShelves$Cliff", "draw", "()I"⟩, 14) := ⟨⟨by decide +kernel, by decide +kernel⟩, List.mem_of_getElem? (i := 23) (by decide +kernel), List.mem_of_getElem? (i := 483) (by decide +kernel), List.mem_of_getElem? (i := 484) (by decide +kernel)⟩
theorem lw_p13 : lw_okq (⟨"GoatShelves$Reader", "stepOn", "()V"⟩, 6) := ⟨⟨by decide +kernel, by decide +kernel⟩, List.mem_of_getElem? (i := 103) (by decide +kernel), List.mem_of_getElem? (i := 519) (by decide +kernel), List.mem_of_getElem? (i := 520) (by decide +kernel)⟩
theorem lw_p14 : lw_okq (⟨"GoatShelves$Reader", "readItem", "()Z"⟩, 6) := ⟨⟨by decide +kernel, by decide +kernel⟩, List.mem_of_getElem? (i := 103) (by decide +kernel), List.mem_of_getElem? (i := 530) (by decide +kernel), List.mem_of_getElem? (i := 531) (by decide +kernel)⟩
theorem lw_p15 : lw_okq (⟨"GoatShelves$Reader", "kindTold", "()I"⟩, 6) := ⟨⟨by decide +kernel, by decide +kernel⟩, List.mem_of_getElem? (i := 103) (by decide +kernel), List.mem_of_getElem? (i := 534) (by decide +kernel), List.mem_of_getElem? (i := 535) (by decide +kernel)⟩
def lw_privs_1 : List (MethodName × Nat) := [(⟨"GoatShelves", "found", "(I)I"⟩, 8), (⟨"GoatShelves$Cliff", "isHere", "(I)Z"⟩, 14), (⟨"GoatShelves", "isGoat", "(I)Z"⟩, 8), (⟨"GoatShelves$Cliff", "greenestNear", "(I)I"⟩, 14), (⟨"GoatShelves$Cliff", "climbAndGraze", "(I)V"⟩, 14), (⟨"GoatShelves$Cliff", "learnOrForget", "(I)V"⟩, 14), (⟨"GoatShelves", "daysUntil", "(III)I"⟩, 8), (⟨"GoatShelves", "hasCome", "(III)Z"⟩, 8), (⟨"GoatShelves", "bestTrait", "(IIII)I"⟩, 8), (⟨"GoatShelves", "isLostWithout", "(III)Z"⟩, 8), (⟨"GoatShelves", "traitsAsTold", "(IIIII)I"⟩, 8), (⟨"GoatShelves", "comesAsTold", "(LGoatShelves$Sheet;II)Z"⟩, 8), (⟨"GoatShelves$Cliff", "draw", "()I"⟩, 14), (⟨"GoatShelves$Reader", "stepOn", "()V"⟩, 6), (⟨"GoatShelves$Reader", "readItem", "()Z"⟩, 6), (⟨"GoatShelves$Reader", "kindTold", "()I"⟩, 6)]
theorem lw_r1 : ∀ q ∈ lw_privs_1, lw_okq q := List.forall_mem_cons.mpr ⟨lw_p0, List.forall_mem_cons.mpr ⟨lw_p1, List.forall_mem_cons.mpr ⟨lw_p2, List.forall_mem_cons.mpr ⟨lw_p3, List.forall_mem_cons.mpr ⟨lw_p4, List.forall_mem_cons.mpr ⟨lw_p5, List.forall_mem_cons.mpr ⟨lw_p6, List.forall_mem_cons.mpr ⟨lw_p7, List.forall_mem_cons.mpr ⟨lw_p8, List.forall_mem_cons.mpr ⟨lw_p9, List.forall_mem_cons.mpr ⟨lw_p10, List.forall_mem_cons.mpr ⟨lw_p11, List.forall_mem_cons.mpr ⟨lw_p12, List.forall_mem_cons.mpr ⟨lw_p13, List.forall_mem_cons.mpr ⟨lw_p14, List.forall_mem_cons.mpr ⟨lw_p15, fun _ h => absurd h List.not_mem_nil⟩⟩⟩⟩⟩⟩⟩⟩⟩⟩⟩⟩⟩⟩⟩⟩
theorem lw_p16 : lw_okq (⟨"GoatShelves$Reader", "isWord", "(Ljava/lang/String;)Z"⟩, 6) := ⟨⟨by decide +kernel, by decide +kernel⟩, List.mem_of_getElem? (i := 103) (by decide +kernel), List.mem_of_getElem? (i := 539) (by decide +kernel), List.mem_of_getElem? (i := 540) (by decide +kernel)⟩
theorem lw_p17 : lw_okq (⟨"GoatShelves$Reader", "readGoat", "(I)Z"⟩, 6) := ⟨⟨by decide +kernel, by decide +kernel⟩, List.mem_of_getElem? (i := 103) (by decide +kernel), List.mem_of_getElem? (i := 597) (by decide +kernel), List.mem_of_getElem? (i := 598) (by decide +kernel)⟩
theorem lw_p18 : lw_okq (⟨"GoatShelves$Reader", "readTrait", "(Ljava/lang/String;III)Z"⟩, 6) := ⟨⟨by decide +kernel, by decide +kernel⟩, List.mem_of_getElem? (i := 103) (by decide +kernel), List.mem_of_getElem? (i := 604) (by decide +kernel), List.mem_of_getElem? (i := 605) (by decide +kernel)⟩
theorem lw_p19 : lw_okq (⟨"GoatShelves$Reader", "takeNumber", "(I)Z"⟩, 6) := ⟨⟨by decide +kernel, by decide +kernel⟩, List.mem_of_getElem? (i := 103) (by decide +kernel), List.mem_of_getElem? (i := 608) (by decide +kernel), List.mem_of_getElem? (i := 609) (by decide +kernel)⟩
theorem lw_p20 : lw_okq (⟨"GoatShelves$Reader", "value", "()I"⟩, 6) := ⟨⟨by decide +kernel, by decide +kernel⟩, List.mem_of_getElem? (i := 103) (by decide +kernel), List.mem_of_getElem? (i := 612) (by decide +kernel), List.mem_of_getElem? (i := 613) (by decide +kernel)⟩
theorem lw_p21 : lw_okq (⟨"GoatShelves$Reader", "readGrass", "()Z"⟩, 6) := ⟨⟨by decide +kernel, by decide +kernel⟩, List.mem_of_getElem? (i := 103) (by decide +kernel), List.mem_of_getElem? (i := 623) (by decide +kernel), List.mem_of_getElem? (i := 624) (by decide +kernel)⟩
theorem lw_p22 : lw_okq (⟨"GoatShelves$Reader", "readGrows", "()Z"⟩, 6) := ⟨⟨by decide +kernel, by decide +kernel⟩, List.mem_of_getElem? (i := 103) (by decide +kernel), List.mem_of_getElem? (i := 628) (by decide +kernel), List.mem_of_getElem? (i := 629) (by decide +kernel)⟩
theorem lw_p23 : lw_okq (⟨"GoatShelves$Reader", "readSalt", "()Z"⟩, 6) := ⟨⟨by decide +kernel, by decide +kernel⟩, List.mem_of_getElem? (i := 103) (by decide +kernel), List.mem_of_getElem? (i := 633) (by decide +kernel), List.mem_of_getElem? (i := 634) (by decide +kernel)⟩
theorem lw_p24 : lw_okq (⟨"GoatShelvesModel", "becomes", "(II)I"⟩, 16) := ⟨⟨by decide +kernel, by decide +kernel⟩, List.mem_of_getElem? (i := 714) (by decide +kernel), List.mem_of_getElem? (i := 780) (by decide +kernel), List.mem_of_getElem? (i := 781) (by decide +kernel)⟩
theorem lw_p25 : lw_okq (⟨"GoatShelvesModel", "finds", "(I)I"⟩, 16) := ⟨⟨by decide +kernel, by decide +kernel⟩, List.mem_of_getElem? (i := 714) (by decide +kernel), List.mem_of_getElem? (i := 785) (by decide +kernel), List.mem_of_getElem? (i := 786) (by decide +kernel)⟩
theorem lw_p26 : lw_okq (⟨"GoatShelvesModel", "there", "(I)I"⟩, 16) := ⟨⟨by decide +kernel, by decide +kernel⟩, List.mem_of_getElem? (i := 714) (by decide +kernel), List.mem_of_getElem? (i := 794) (by decide +kernel), List.mem_of_getElem? (i := 795) (by decide +kernel)⟩
theorem lw_p27 : lw_okq (⟨"GoatShelvesModel", "its", "(II)I"⟩, 16) := ⟨⟨by decide +kernel, by decide +kernel⟩, List.mem_of_getElem? (i := 714) (by decide +kernel), List.mem_of_getElem? (i := 798) (by decide +kernel), List.mem_of_getElem? (i := 799) (by decide +kernel)⟩
theorem lw_p28 : lw_okq (⟨"GoatShelvesModel", "known", "(I)I"⟩, 16) := ⟨⟨by decide +kernel, by decide +kernel⟩, List.mem_of_getElem? (i := 714) (by decide +kernel), List.mem_of_getElem? (i := 802) (by decide +kernel), List.mem_of_getElem? (i := 803) (by decide +kernel)⟩
theorem lw_p29 : lw_okq (⟨"GoatShelvesModel", "comes", "(III)V"⟩, 16) := ⟨⟨by decide +kernel, by decide +kernel⟩, List.mem_of_getElem? (i := 714) (by decide +kernel), List.mem_of_getElem? (i := 818) (by decide +kernel), List.mem_of_getElem? (i := 819) (by decide +kernel)⟩
theorem lw_p30 : lw_okq (⟨"GoatShelvesModel", "isGoat", "(I)Z"⟩, 16) := ⟨⟨by decide +kernel, by decide +kernel⟩, List.mem_of_getElem? (i := 714) (by decide +kernel), List.mem_of_getElem? (i := 829) (by decide +kernel), List.mem_of_getElem? (i := 830) (by decide +kernel)⟩
theorem lw_p31 : lw_okq (⟨"GoatShelvesModel", "costs", "(I)I"⟩, 16) := ⟨⟨by decide +kernel, by decide +kernel⟩, List.mem_of_getElem? (i := 714) (by decide +kernel), List.mem_of_getElem? (i := 834) (by decide +kernel), List.mem_of_getElem? (i := 835) (by decide +kernel)⟩
def lw_privs_2 : List (MethodName × Nat) := [(⟨"GoatShelves$Reader", "isWord", "(Ljava/lang/String;)Z"⟩, 6), (⟨"GoatShelves$Reader", "readGoat", "(I)Z"⟩, 6), (⟨"GoatShelves$Reader", "readTrait", "(Ljava/lang/String;III)Z"⟩, 6), (⟨"GoatShelves$Reader", "takeNumber", "(I)Z"⟩, 6), (⟨"GoatShelves$Reader", "value", "()I"⟩, 6), (⟨"GoatShelves$Reader", "readGrass", "()Z"⟩, 6), (⟨"GoatShelves$Reader", "readGrows", "()Z"⟩, 6), (⟨"GoatShelves$Reader", "readSalt", "()Z"⟩, 6), (⟨"GoatShelvesModel", "becomes", "(II)I"⟩, 16), (⟨"GoatShelvesModel", "finds", "(I)I"⟩, 16), (⟨"GoatShelvesModel", "there", "(I)I"⟩, 16), (⟨"GoatShelvesModel", "its", "(II)I"⟩, 16), (⟨"GoatShelvesModel", "known", "(I)I"⟩, 16), (⟨"GoatShelvesModel", "comes", "(III)V"⟩, 16), (⟨"GoatShelvesModel", "isGoat", "(I)Z"⟩, 16), (⟨"GoatShelvesModel", "costs", "(I)I"⟩, 16)]
theorem lw_r2 : ∀ q ∈ lw_privs_2, lw_okq q := List.forall_mem_cons.mpr ⟨lw_p16, List.forall_mem_cons.mpr ⟨lw_p17, List.forall_mem_cons.mpr ⟨lw_p18, List.forall_mem_cons.mpr ⟨lw_p19, List.forall_mem_cons.mpr ⟨lw_p20, List.forall_mem_cons.mpr ⟨lw_p21, List.forall_mem_cons.mpr ⟨lw_p22, List.forall_mem_cons.mpr ⟨lw_p23, List.forall_mem_cons.mpr ⟨lw_p24, List.forall_mem_cons.mpr ⟨lw_p25, List.forall_mem_cons.mpr ⟨lw_p26, List.forall_mem_cons.mpr ⟨lw_p27, List.forall_mem_cons.mpr ⟨lw_p28, List.forall_mem_cons.mpr ⟨lw_p29, List.forall_mem_cons.mpr ⟨lw_p30, List.forall_mem_cons.mpr ⟨lw_p31, fun _ h => absurd h List.not_mem_nil⟩⟩⟩⟩⟩⟩⟩⟩⟩⟩⟩⟩⟩⟩⟩⟩
theorem lw_p32 : lw_okq (⟨"GoatShelvesModel", "grazes", "(I)I"⟩, 16) := ⟨⟨by decide +kernel, by decide +kernel⟩, List.mem_of_getElem? (i := 714) (by decide +kernel), List.mem_of_getElem? (i := 841) (by decide +kernel), List.mem_of_getElem? (i := 842) (by decide +kernel)⟩
theorem lw_p33 : lw_okq (⟨"GoatShelvesModel", "climbsTo", "(I)I"⟩, 16) := ⟨⟨by decide +kernel, by decide +kernel⟩, List.mem_of_getElem? (i := 714) (by decide +kernel), List.mem_of_getElem? (i := 845) (by decide +kernel), List.mem_of_getElem? (i := 846) (by decide +kernel)⟩
theorem lw_p34 : lw_okq (⟨"GoatShelvesModel", "greenest", "(I)I"⟩, 16) := ⟨⟨by decide +kernel, by decide +kernel⟩, List.mem_of_getElem? (i := 714) (by decide +kernel), List.mem_of_getElem? (i := 849) (by decide +kernel), List.mem_of_getElem? (i := 850) (by decide +kernel)⟩
theorem lw_p35 : lw_okq (⟨"GoatShelvesModel", "quotes", "(I)I"⟩, 16) := ⟨⟨by decide +kernel, by decide +kernel⟩, List.mem_of_getElem? (i := 714) (by decide +kernel), List.mem_of_getElem? (i := 856) (by decide +kernel), List.mem_of_getElem? (i := 857) (by decide +kernel)⟩
theorem lw_p36 : lw_okq (⟨"GoatShelvesModel", "isQuoted", "(II)Z"⟩, 16) := ⟨⟨by decide +kernel, by decide +kernel⟩, List.mem_of_getElem? (i := 714) (by decide +kernel), List.mem_of_getElem? (i := 860) (by decide +kernel), List.mem_of_getElem? (i := 861) (by decide +kernel)⟩
theorem lw_p37 : lw_okq (⟨"GoatShelvesModel", "cheapest", "(I)I"⟩, 16) := ⟨⟨by decide +kernel, by decide +kernel⟩, List.mem_of_getElem? (i := 714) (by decide +kernel), List.mem_of_getElem? (i := 884) (by decide +kernel), List.mem_of_getElem? (i := 885) (by decide +kernel)⟩
theorem lw_p38 : lw_okq (⟨"GoatShelvesModel", "goes", "(I)V"⟩, 16) := ⟨⟨by decide +kernel, by decide +kernel⟩, List.mem_of_getElem? (i := 714) (by decide +kernel), List.mem_of_getElem? (i := 896) (by decide +kernel), List.mem_of_getElem? (i := 897) (by decide +kernel)⟩
theorem lw_p39 : lw_okq (⟨"GoatShelvesModel", "dayBut", "(I)V"⟩, 16) := ⟨⟨by decide +kernel, by decide +kernel⟩, List.mem_of_getElem? (i := 714) (by decide +kernel), List.mem_of_getElem? (i := 900) (by decide +kernel), List.mem_of_getElem? (i := 901) (by decide +kernel)⟩
theorem lw_p40 : lw_okq (⟨"GoatShelvesModel", "lives", "(I)V"⟩, 16) := ⟨⟨by decide +kernel, by decide +kernel⟩, List.mem_of_getElem? (i := 714) (by decide +kernel), List.mem_of_getElem? (i := 904) (by decide +kernel), List.mem_of_getElem? (i := 905) (by decide +kernel)⟩
theorem lw_p41 : lw_okq (⟨"GoatShelvesModel", "learnsOne", "(II)V"⟩, 16) := ⟨⟨by decide +kernel, by decide +kernel⟩, List.mem_of_getElem? (i := 714) (by decide +kernel), List.mem_of_getElem? (i := 911) (by decide +kernel), List.mem_of_getElem? (i := 912) (by decide +kernel)⟩
theorem lw_p42 : lw_okq (⟨"GoatShelvesModel", "knownAll", "()I"⟩, 16) := ⟨⟨by decide +kernel, by decide +kernel⟩, List.mem_of_getElem? (i := 714) (by decide +kernel), List.mem_of_getElem? (i := 921) (by decide +kernel), List.mem_of_getElem? (i := 922) (by decide +kernel)⟩
theorem lw_p43 : lw_okq (⟨"GoatShelvesModel", "grassAll", "()I"⟩, 16) := ⟨⟨by decide +kernel, by decide +kernel⟩, List.mem_of_getElem? (i := 714) (by decide +kernel), List.mem_of_getElem? (i := 929) (by decide +kernel), List.mem_of_getElem? (i := 930) (by decide +kernel)⟩
theorem lw_p44 : lw_okq (⟨"GoatShelvesModel", "livedOn", "()I"⟩, 16) := ⟨⟨by decide +kernel, by decide +kernel⟩, List.mem_of_getElem? (i := 714) (by decide +kernel), List.mem_of_getElem? (i := 933) (by decide +kernel), List.mem_of_getElem? (i := 934) (by decide +kernel)⟩
theorem lw_p45 : lw_okq (⟨"GoatShelvesModel", "wisest", "()I"⟩, 16) := ⟨⟨by decide +kernel, by decide +kernel⟩, List.mem_of_getElem? (i := 714) (by decide +kernel), List.mem_of_getElem? (i := 937) (by decide +kernel), List.mem_of_getElem? (i := 938) (by decide +kernel)⟩
theorem lw_p46 : lw_okq (⟨"GoatShelvesModel", "then", "(III)I"⟩, 16) := ⟨⟨by decide +kernel, by decide +kernel⟩, List.mem_of_getElem? (i := 714) (by decide +kernel), List.mem_of_getElem? (i := 951) (by decide +kernel), List.mem_of_getElem? (i := 952) (by decide +kernel)⟩
theorem lw_p47 : lw_okq (⟨"GoatShelvesModel", "isAsked", "(II)Z"⟩, 16) := ⟨⟨by decide +kernel, by decide +kernel⟩, List.mem_of_getElem? (i := 714) (by decide +kernel), List.mem_of_getElem? (i := 978) (by decide +kernel), List.mem_of_getElem? (i := 979) (by decide +kernel)⟩
def lw_privs_3 : List (MethodName × Nat) := [(⟨"GoatShelvesModel", "grazes", "(I)I"⟩, 16), (⟨"GoatShelvesModel", "climbsTo", "(I)I"⟩, 16), (⟨"GoatShelvesModel", "greenest", "(I)I"⟩, 16), (⟨"GoatShelvesModel", "quotes", "(I)I"⟩, 16), (⟨"GoatShelvesModel", "isQuoted", "(II)Z"⟩, 16), (⟨"GoatShelvesModel", "cheapest", "(I)I"⟩, 16), (⟨"GoatShelvesModel", "goes", "(I)V"⟩, 16), (⟨"GoatShelvesModel", "dayBut", "(I)V"⟩, 16), (⟨"GoatShelvesModel", "lives", "(I)V"⟩, 16), (⟨"GoatShelvesModel", "learnsOne", "(II)V"⟩, 16), (⟨"GoatShelvesModel", "knownAll", "()I"⟩, 16), (⟨"GoatShelvesModel", "grassAll", "()I"⟩, 16), (⟨"GoatShelvesModel", "livedOn", "()I"⟩, 16), (⟨"GoatShelvesModel", "wisest", "()I"⟩, 16), (⟨"GoatShelvesModel", "then", "(III)I"⟩, 16), (⟨"GoatShelvesModel", "isAsked", "(II)Z"⟩, 16)]
theorem lw_r3 : ∀ q ∈ lw_privs_3, lw_okq q := List.forall_mem_cons.mpr ⟨lw_p32, List.forall_mem_cons.mpr ⟨lw_p33, List.forall_mem_cons.mpr ⟨lw_p34, List.forall_mem_cons.mpr ⟨lw_p35, List.forall_mem_cons.mpr ⟨lw_p36, List.forall_mem_cons.mpr ⟨lw_p37, List.forall_mem_cons.mpr ⟨lw_p38, List.forall_mem_cons.mpr ⟨lw_p39, List.forall_mem_cons.mpr ⟨lw_p40, List.forall_mem_cons.mpr ⟨lw_p41, List.forall_mem_cons.mpr ⟨lw_p42, List.forall_mem_cons.mpr ⟨lw_p43, List.forall_mem_cons.mpr ⟨lw_p44, List.forall_mem_cons.mpr ⟨lw_p45, List.forall_mem_cons.mpr ⟨lw_p46, List.forall_mem_cons.mpr ⟨lw_p47, fun _ h => absurd h List.not_mem_nil⟩⟩⟩⟩⟩⟩⟩⟩⟩⟩⟩⟩⟩⟩⟩⟩
theorem lw_p48 : lw_okq (⟨"GoatShelvesModel", "wisestBy", "(III)I"⟩, 16) := ⟨⟨by decide +kernel, by decide +kernel⟩, List.mem_of_getElem? (i := 714) (by decide +kernel), List.mem_of_getElem? (i := 983) (by decide +kernel), List.mem_of_getElem? (i := 984) (by decide +kernel)⟩
theorem lw_p49 : lw_okq (⟨"GoatShelvesModel", "orNone", "(I)I"⟩, 16) := ⟨⟨by decide +kernel, by decide +kernel⟩, List.mem_of_getElem? (i := 714) (by decide +kernel), List.mem_of_getElem? (i := 995) (by decide +kernel), List.mem_of_getElem? (i := 996) (by decide +kernel)⟩
theorem lw_p50 : lw_okq (⟨"GoatShelvesModel", "couldBe", "(IIII)I"⟩, 16) := ⟨⟨by decide +kernel, by decide +kernel⟩, List.mem_of_getElem? (i := 714) (by decide +kernel), List.mem_of_getElem? (i := 1017) (by decide +kernel), List.mem_of_getElem? (i := 1018) (by decide +kernel)⟩
theorem lw_p51 : lw_okq (⟨"GoatShelvesModel", "wants", "(I)I"⟩, 16) := ⟨⟨by decide +kernel, by decide +kernel⟩, List.mem_of_getElem? (i := 714) (by decide +kernel), List.mem_of_getElem? (i := 1021) (by decide +kernel), List.mem_of_getElem? (i := 1022) (by decide +kernel)⟩
theorem lw_p52 : lw_okq (⟨"GoatShelvesModel", "isTold", "(II)Z"⟩, 16) := ⟨⟨by decide +kernel, by decide +kernel⟩, List.mem_of_getElem? (i := 714) (by decide +kernel), List.mem_of_getElem? (i := 1029) (by decide +kernel), List.mem_of_getElem? (i := 1030) (by decide +kernel)⟩
theorem lw_p53 : lw_okq (⟨"GoatShelvesModel", "draw", "()I"⟩, 16) := ⟨⟨by decide +kernel, by decide +kernel⟩, List.mem_of_getElem? (i := 714) (by decide +kernel), List.mem_of_getElem? (i := 1041) (by decide +kernel), List.mem_of_getElem? (i := 1042) (by decide +kernel)⟩
theorem lw_p54 : lw_okq (⟨"GoatShelvesModel", "nextToken", "()V"⟩, 16) := ⟨⟨by decide +kernel, by decide +kernel⟩, List.mem_of_getElem? (i := 714) (by decide +kernel), List.mem_of_getElem? (i := 1068) (by decide +kernel), List.mem_of_getElem? (i := 1069) (by decide +kernel)⟩
theorem lw_p55 : lw_okq (⟨"GoatShelvesModel", "byteAt", "(I)I"⟩, 16) := ⟨⟨by decide +kernel, by decide +kernel⟩, List.mem_of_getElem? (i := 714) (by decide +kernel), List.mem_of_getElem? (i := 1072) (by decide +kernel), List.mem_of_getElem? (i := 1073) (by decide +kernel)⟩
theorem lw_p56 : lw_okq (⟨"GoatShelvesModel", "itemHere", "()Z"⟩, 16) := ⟨⟨by decide +kernel, by decide +kernel⟩, List.mem_of_getElem? (i := 714) (by decide +kernel), List.mem_of_getElem? (i := 1082) (by decide +kernel), List.mem_of_getElem? (i := 1083) (by decide +kernel)⟩
theorem lw_p57 : lw_okq (⟨"GoatShelvesModel", "kindHere", "()I"⟩, 16) := ⟨⟨by decide +kernel, by decide +kernel⟩, List.mem_of_getElem? (i := 714) (by decide +kernel), List.mem_of_getElem? (i := 1086) (by decide +kernel), List.mem_of_getElem? (i := 1087) (by decide +kernel)⟩
theorem lw_p58 : lw_okq (⟨"GoatShelvesModel", "isFour", "(IIII)Z"⟩, 16) := ⟨⟨by decide +kernel, by decide +kernel⟩, List.mem_of_getElem? (i := 714) (by decide +kernel), List.mem_of_getElem? (i := 1090) (by decide +kernel), List.mem_of_getElem? (i := 1091) (by decide +kernel)⟩
theorem lw_p59 : lw_okq (⟨"GoatShelvesModel", "isWord", "(I)Z"⟩, 16) := ⟨⟨by decide +kernel, by decide +kernel⟩, List.mem_of_getElem? (i := 714) (by decide +kernel), List.mem_of_getElem? (i := 1094) (by decide +kernel), List.mem_of_getElem? (i := 1095) (by decide +kernel)⟩
theorem lw_p60 : lw_okq (⟨"GoatShelvesModel", "has3", "(IIII)Z"⟩, 16) := ⟨⟨by decide +kernel, by decide +kernel⟩, List.mem_of_getElem? (i := 714) (by decide +kernel), List.mem_of_getElem? (i := 1098) (by decide +kernel), List.mem_of_getElem? (i := 1099) (by decide +kernel)⟩
theorem lw_p61 : lw_okq (⟨"GoatShelvesModel", "isFive", "(IIIII)Z"⟩, 16) := ⟨⟨by decide +kernel, by decide +kernel⟩, List.mem_of_getElem? (i := 714) (by decide +kernel), List.mem_of_getElem? (i := 1102) (by decide +kernel), List.mem_of_getElem? (i := 1103) (by decide +kernel)⟩
theorem lw_p62 : lw_okq (⟨"GoatShelvesModel", "goatHere", "(I)Z"⟩, 16) := ⟨⟨by decide +kernel, by decide +kernel⟩, List.mem_of_getElem? (i := 714) (by decide +kernel), List.mem_of_getElem? (i := 1106) (by decide +kernel), List.mem_of_getElem? (i := 1107) (by decide +kernel)⟩
theorem lw_p63 : lw_okq (⟨"GoatShelvesModel", "fails", "()Z"⟩, 16) := ⟨⟨by decide +kernel, by decide +kernel⟩, List.mem_of_getElem? (i := 714) (by decide +kernel), List.mem_of_getElem? (i := 1110) (by decide +kernel), List.mem_of_getElem? (i := 1111) (by decide +kernel)⟩
def lw_privs_4 : List (MethodName × Nat) := [(⟨"GoatShelvesModel", "wisestBy", "(III)I"⟩, 16), (⟨"GoatShelvesModel", "orNone", "(I)I"⟩, 16), (⟨"GoatShelvesModel", "couldBe", "(IIII)I"⟩, 16), (⟨"GoatShelvesModel", "wants", "(I)I"⟩, 16), (⟨"GoatShelvesModel", "isTold", "(II)Z"⟩, 16), (⟨"GoatShelvesModel", "draw", "()I"⟩, 16), (⟨"GoatShelvesModel", "nextToken", "()V"⟩, 16), (⟨"GoatShelvesModel", "byteAt", "(I)I"⟩, 16), (⟨"GoatShelvesModel", "itemHere", "()Z"⟩, 16), (⟨"GoatShelvesModel", "kindHere", "()I"⟩, 16), (⟨"GoatShelvesModel", "isFour", "(IIII)Z"⟩, 16), (⟨"GoatShelvesModel", "isWord", "(I)Z"⟩, 16), (⟨"GoatShelvesModel", "has3", "(IIII)Z"⟩, 16), (⟨"GoatShelvesModel", "isFive", "(IIIII)Z"⟩, 16), (⟨"GoatShelvesModel", "goatHere", "(I)Z"⟩, 16), (⟨"GoatShelvesModel", "fails", "()Z"⟩, 16)]
theorem lw_r4 : ∀ q ∈ lw_privs_4, lw_okq q := List.forall_mem_cons.mpr ⟨lw_p48, List.forall_mem_cons.mpr ⟨lw_p49, List.forall_mem_cons.mpr ⟨lw_p50, List.forall_mem_cons.mpr ⟨lw_p51, List.forall_mem_cons.mpr ⟨lw_p52, List.forall_mem_cons.mpr ⟨lw_p53, List.forall_mem_cons.mpr ⟨lw_p54, List.forall_mem_cons.mpr ⟨lw_p55, List.forall_mem_cons.mpr ⟨lw_p56, List.forall_mem_cons.mpr ⟨lw_p57, List.forall_mem_cons.mpr ⟨lw_p58, List.forall_mem_cons.mpr ⟨lw_p59, List.forall_mem_cons.mpr ⟨lw_p60, List.forall_mem_cons.mpr ⟨lw_p61, List.forall_mem_cons.mpr ⟨lw_p62, List.forall_mem_cons.mpr ⟨lw_p63, fun _ h => absurd h List.not_mem_nil⟩⟩⟩⟩⟩⟩⟩⟩⟩⟩⟩⟩⟩⟩⟩⟩
theorem lw_p64 : lw_okq (⟨"GoatShelvesModel", "perhaps", "(ZII)Z"⟩, 16) := ⟨⟨by decide +kernel, by decide +kernel⟩, List.mem_of_getElem? (i := 714) (by decide +kernel), List.mem_of_getElem? (i := 1114) (by decide +kernel), List.mem_of_getElem? (i := 1115) (by decide +kernel)⟩
theorem lw_p65 : lw_okq (⟨"GoatShelvesModel", "isNumber", "(II)Z"⟩, 16) := ⟨⟨by decide +kernel, by decide +kernel⟩, List.mem_of_getElem? (i := 714) (by decide +kernel), List.mem_of_getElem? (i := 1118) (by decide +kernel), List.mem_of_getElem? (i := 1119) (by decide +kernel)⟩
theorem lw_p66 : lw_okq (⟨"GoatShelvesModel", "grassHere", "()Z"⟩, 16) := ⟨⟨by decide +kernel, by decide +kernel⟩, List.mem_of_getElem? (i := 714) (by decide +kernel), List.mem_of_getElem? (i := 1122) (by decide +kernel), List.mem_of_getElem? (i := 1123) (by decide +kernel)⟩
def lw_privs_5 : List (MethodName × Nat) := [(⟨"GoatShelvesModel", "perhaps", "(ZII)Z"⟩, 16), (⟨"GoatShelvesModel", "isNumber", "(II)Z"⟩, 16), (⟨"GoatShelvesModel", "grassHere", "()Z"⟩, 16)]
theorem lw_r5 : ∀ q ∈ lw_privs_5, lw_okq q := List.forall_mem_cons.mpr ⟨lw_p64, List.forall_mem_cons.mpr ⟨lw_p65, List.forall_mem_cons.mpr ⟨lw_p66, fun _ h => absurd h List.not_mem_nil⟩⟩⟩
def lw_privs : List (MethodName × Nat) := lw_privs_1 ++ (lw_privs_2 ++ (lw_privs_3 ++ (lw_privs_4 ++ (lw_privs_5))))
def lw_tbl : List Cond := k2_sels lw_privs ++ tables_1
theorem lw_privs_ok : ∀ q ∈ lw_privs, lw_okq q := by
  show ∀ q ∈ lw_privs_1 ++ (lw_privs_2 ++ (lw_privs_3 ++ (lw_privs_4 ++ (lw_privs_5)))), lw_okq q
  exact List.forall_mem_append.mpr ⟨lw_r1, List.forall_mem_append.mpr ⟨lw_r2, List.forall_mem_append.mpr ⟨lw_r3, List.forall_mem_append.mpr ⟨lw_r4, lw_r5⟩⟩⟩⟩
-- ===== end of PART A; then your names; then what follows =====
end
section
-- names: classes, fields in the order of the slots, code and name of each method (printed by the task's program), and the words that every method is given
def RX0 : String := "GoatShelves$Cliff"
def TX0 : u_T := fun k => match k with
  | 0 => ("GoatShelves$Cliff", "grass", "[I", true)
  | 1 => ("GoatShelves$Cliff", "kind", "[I", true)
  | 2 => ("GoatShelves$Cliff", "ledge", "[I", true)
  | 3 => ("GoatShelves$Cliff", "knows", "[I", true)
  | 4 => ("GoatShelves$Cliff", "age", "[I", true)
  | 5 => ("GoatShelves$Cliff", "fed", "[I", true)
  | 6 => ("GoatShelves$Cliff", "asked", "[I", true)
  | 7 => ("GoatShelves$Cliff", "spots", "[I", true)
  | 8 => ("GoatShelves$Cliff", "goats", "I", false)
  | 9 => ("GoatShelves$Cliff", "gone", "I", false)
  | 10 => ("GoatShelves$Cliff", "grows", "I", false)
  | 11 => ("GoatShelves$Cliff", "salt", "I", false)
  | 12 => ("GoatShelves$Cliff", "day", "I", false)
  | _ => ("GoatShelves$Cliff", "z", "I", false)
def tyX0 : Nat → FieldType := fun k => match k with
  | 0 => .array .int
  | 1 => .array .int
  | 2 => .array .int
  | 3 => .array .int
  | 4 => .array .int
  | 5 => .array .int
  | 6 => .array .int
  | 7 => .array .int
  | 8 => .int
  | 9 => .int
  | 10 => .int
  | 11 => .int
  | 12 => .int
  | _ => .int
abbrev wsX00 : List Cond := u_ws RX0 TX0 14
theorem nmX0 : ∀ a, a < 14 → ∀ b, b < 14 → a ≠ b → (TX0 a).2.1 ≠ (TX0 b).2.1 := by decide +kernel
theorem tyX0_ok : ∀ k, k < 14 → parseFieldDescriptor (TX0 k).2.2.1 = some (tyX0 k) := by decide +kernel
abbrev cX0_init : ByteArray := prog_2_method_1_code
def yX0_init : MethodName := ⟨RX0, "<init>", "()V"⟩
abbrev cX0_become : ByteArray := prog_2_method_2_code
def yX0_become : MethodName := ⟨RX0, "become", "(LGoatShelves$Cliff;)V"⟩
abbrev cX0_isFull : ByteArray := prog_2_method_3_code
def yX0_isFull : MethodName := ⟨RX0, "isFull", "()Z"⟩
abbrev cX0_addGoat : ByteArray := prog_2_method_4_code
def yX0_addGoat : MethodName := ⟨RX0, "addGoat", "(II)I"⟩
abbrev cX0_trait : ByteArray := prog_2_method_5_code
def yX0_trait : MethodName := ⟨RX0, "trait", "(II)I"⟩
abbrev cX0_setTrait : ByteArray := prog_2_method_6_code
def yX0_setTrait : MethodName := ⟨RX0, "setTrait", "(III)V"⟩
abbrev cX0_isOfKind : ByteArray := prog_2_method_7_code
def yX0_isOfKind : MethodName := ⟨RX0, "isOfKind", "(II)Z"⟩
abbrev cX0_kindAbove : ByteArray := prog_2_method_8_code
def yX0_kindAbove : MethodName := ⟨RX0, "kindAbove", "(I)I"⟩
abbrev cX0_quotes : ByteArray := prog_2_method_9_code
def yX0_quotes : MethodName := ⟨RX0, "quotes", "(I)I"⟩
abbrev cX0_skippedAt : ByteArray := prog_2_method_10_code
def yX0_skippedAt : MethodName := ⟨RX0, "skippedAt", "(I)I"⟩
abbrev cX0_costs : ByteArray := prog_2_method_11_code
def yX0_costs : MethodName := ⟨RX0, "costs", "(I)I"⟩
abbrev cX0_grazes : ByteArray := prog_2_method_12_code
def yX0_grazes : MethodName := ⟨RX0, "grazes", "(I)I"⟩
abbrev cX0_climbsTo : ByteArray := prog_2_method_13_code
def yX0_climbsTo : MethodName := ⟨RX0, "climbsTo", "(I)I"⟩
abbrev cX0_greenestNear : ByteArray := prog_2_method_14_code
def yX0_greenestNear : MethodName := ⟨RX0, "greenestNear", "(I)I"⟩
abbrev cX0_passDays : ByteArray := prog_2_method_15_code
def yX0_passDays : MethodName := ⟨RX0, "passDays", "(I)V"⟩
abbrev cX0_passDay : ByteArray := prog_2_method_16_code
def yX0_passDay : MethodName := ⟨RX0, "passDay", "()V"⟩
abbrev cX0_climbAndGraze : ByteArray := prog_2_method_17_code
def yX0_climbAndGraze : MethodName := ⟨RX0, "climbAndGraze", "(I)V"⟩
abbrev cX0_learnOrForget : ByteArray := prog_2_method_18_code
def yX0_learnOrForget : MethodName := ⟨RX0, "learnOrForget", "(I)V"⟩
abbrev cX0_withoutGreatest : ByteArray := prog_2_method_19_code
def yX0_withoutGreatest : MethodName := ⟨RX0, "withoutGreatest", "(I)I"⟩
abbrev cX0_slip : ByteArray := prog_2_method_20_code
def yX0_slip : MethodName := ⟨RX0, "slip", "()V"⟩
abbrev cX0_draw : ByteArray := prog_2_method_21_code
def yX0_draw : MethodName := ⟨RX0, "draw", "()I"⟩
abbrev cX0_isHere : ByteArray := prog_2_method_22_code
def yX0_isHere : MethodName := ⟨RX0, "isHere", "(I)Z"⟩
abbrev cX0_goatsOn : ByteArray := prog_2_method_23_code
def yX0_goatsOn : MethodName := ⟨RX0, "goatsOn", "(I)I"⟩
abbrev cX0_goatsKnowing : ByteArray := prog_2_method_24_code
def yX0_goatsKnowing : MethodName := ⟨RX0, "goatsKnowing", "(I)I"⟩
abbrev cX0_pagesOf : ByteArray := prog_2_method_25_code
def yX0_pagesOf : MethodName := ⟨RX0, "pagesOf", "(I)I"⟩
abbrev cX0_pagesOn : ByteArray := prog_2_method_26_code
def yX0_pagesOn : MethodName := ⟨RX0, "pagesOn", "(I)I"⟩
abbrev cX0_pagesKnown : ByteArray := prog_2_method_27_code
def yX0_pagesKnown : MethodName := ⟨RX0, "pagesKnown", "()I"⟩
abbrev cX0_isInPrint : ByteArray := prog_2_method_28_code
def yX0_isInPrint : MethodName := ⟨RX0, "isInPrint", "(I)Z"⟩
abbrev cX0_cheapestQuoting : ByteArray := prog_2_method_29_code
def yX0_cheapestQuoting : MethodName := ⟨RX0, "cheapestQuoting", "(I)I"⟩
abbrev cX0_wisest : ByteArray := prog_2_method_30_code
def yX0_wisest : MethodName := ⟨RX0, "wisest", "()I"⟩
abbrev cX0_grassInAll : ByteArray := prog_2_method_31_code
def yX0_grassInAll : MethodName := ⟨RX0, "grassInAll", "()I"⟩
abbrev cX0_fedInAll : ByteArray := prog_2_method_32_code
def yX0_fedInAll : MethodName := ⟨RX0, "fedInAll", "()I"⟩
abbrev cX0_ledgesWithGoats : ByteArray := prog_2_method_33_code
def yX0_ledgesWithGoats : MethodName := ⟨RX0, "ledgesWithGoats", "()I"⟩
abbrev cX0_spotsInUse : ByteArray := prog_2_method_34_code
def yX0_spotsInUse : MethodName := ⟨RX0, "spotsInUse", "()I"⟩
def RX1 : String := "GoatShelves$Reader"
def TX1 : u_T := fun k => match k with
  | 0 => ("GoatShelves$Reader", "tape", "LGoatShelves$Tape;", true)
  | 1 => ("GoatShelves$Reader", "into", "LGoatShelves$Cliff;", true)
  | 2 => ("GoatShelves$Reader", "token", "I", false)
  | 3 => ("GoatShelves$Reader", "begin", "I", false)
  | 4 => ("GoatShelves$Reader", "end", "I", false)
  | _ => ("GoatShelves$Reader", "number", "I", false)
def tyX1 : Nat → FieldType := fun k => match k with
  | 0 => .object "GoatShelves$Tape"
  | 1 => .object "GoatShelves$Cliff"
  | 2 => .int
  | 3 => .int
  | 4 => .int
  | _ => .int
abbrev wsX10 : List Cond := u_ws RX1 TX1 6
theorem nmX1 : ∀ a, a < 6 → ∀ b, b < 6 → a ≠ b → (TX1 a).2.1 ≠ (TX1 b).2.1 := by decide +kernel
theorem tyX1_ok : ∀ k, k < 6 → parseFieldDescriptor (TX1 k).2.2.1 = some (tyX1 k) := by decide +kernel
abbrev cX1_init : ByteArray := prog_3_method_1_code
def yX1_init : MethodName := ⟨RX1, "<init>", "(LGoatShelves$Tape;LGoatShelves$Cliff;)V"⟩
abbrev cX1_readText : ByteArray := prog_3_method_2_code
def yX1_readText : MethodName := ⟨RX1, "readText", "()I"⟩
abbrev cX1_readItem : ByteArray := prog_3_method_3_code
def yX1_readItem : MethodName := ⟨RX1, "readItem", "()Z"⟩
abbrev cX1_kindTold : ByteArray := prog_3_method_4_code
def yX1_kindTold : MethodName := ⟨RX1, "kindTold", "()I"⟩
abbrev cX1_readGoat : ByteArray := prog_3_method_5_code
def yX1_readGoat : MethodName := ⟨RX1, "readGoat", "(I)Z"⟩
abbrev cX1_readTrait : ByteArray := prog_3_method_6_code
def yX1_readTrait : MethodName := ⟨RX1, "readTrait", "(Ljava/lang/String;III)Z"⟩
abbrev cX1_readGrass : ByteArray := prog_3_method_7_code
def yX1_readGrass : MethodName := ⟨RX1, "readGrass", "()Z"⟩
abbrev cX1_readGrows : ByteArray := prog_3_method_8_code
def yX1_readGrows : MethodName := ⟨RX1, "readGrows", "()Z"⟩
abbrev cX1_readSalt : ByteArray := prog_3_method_9_code
def yX1_readSalt : MethodName := ⟨RX1, "readSalt", "()Z"⟩
abbrev cX1_takeNumber : ByteArray := prog_3_method_10_code
def yX1_takeNumber : MethodName := ⟨RX1, "takeNumber", "(I)Z"⟩
abbrev cX1_value : ByteArray := prog_3_method_11_code
def yX1_value : MethodName := ⟨RX1, "value", "()I"⟩
abbrev cX1_isWord : ByteArray := prog_3_method_12_code
def yX1_isWord : MethodName := ⟨RX1, "isWord", "(Ljava/lang/String;)Z"⟩
abbrev cX1_stepOn : ByteArray := prog_3_method_13_code
def yX1_stepOn : MethodName := ⟨RX1, "stepOn", "()V"⟩
abbrev cX1_tokenBeginningWith : ByteArray := prog_3_method_14_code
def yX1_tokenBeginningWith : MethodName := ⟨RX1, "tokenBeginningWith", "(I)I"⟩
def RX2 : String := "GoatShelves$Sheet"
def TX2 : u_T := fun k => match k with
  | 0 => ("GoatShelves$Sheet", "numbers", "[I", true)
  | 1 => ("GoatShelves$Sheet", "bits", "I", false)
  | _ => ("GoatShelves$Sheet", "length", "I", false)
def tyX2 : Nat → FieldType := fun k => match k with
  | 0 => .array .int
  | 1 => .int
  | _ => .int
abbrev wsX20 : List Cond := u_ws RX2 TX2 3
theorem nmX2 : ∀ a, a < 3 → ∀ b, b < 3 → a ≠ b → (TX2 a).2.1 ≠ (TX2 b).2.1 := by decide +kernel
theorem tyX2_ok : ∀ k, k < 3 → parseFieldDescriptor (TX2 k).2.2.1 = some (tyX2 k) := by decide +kernel
abbrev cX2_init : ByteArray := prog_4_method_1_code
def yX2_init : MethodName := ⟨RX2, "<init>", "()V"⟩
abbrev cX2_isMissing : ByteArray := prog_4_method_2_code
def yX2_isMissing : MethodName := ⟨RX2, "isMissing", "()Z"⟩
abbrev cX2_begin : ByteArray := prog_4_method_3_code
def yX2_begin : MethodName := ⟨RX2, "begin", "(II)V"⟩
abbrev cX2_cut : ByteArray := prog_4_method_4_code
def yX2_cut : MethodName := ⟨RX2, "cut", "(I)I"⟩
abbrev cX2_hasRange : ByteArray := prog_4_method_5_code
def yX2_hasRange : MethodName := ⟨RX2, "hasRange", "(II)Z"⟩
def RX3 : String := "GoatShelves$Tape"
def TX3 : u_T := fun k => match k with
  | 0 => ("GoatShelves$Tape", "bytes", "[I", true)
  | _ => ("GoatShelves$Tape", "length", "I", false)
def tyX3 : Nat → FieldType := fun k => match k with
  | 0 => .array .int
  | _ => .int
abbrev wsX30 : List Cond := u_ws RX3 TX3 2
theorem nmX3 : ∀ a, a < 2 → ∀ b, b < 2 → a ≠ b → (TX3 a).2.1 ≠ (TX3 b).2.1 := by decide +kernel
theorem tyX3_ok : ∀ k, k < 2 → parseFieldDescriptor (TX3 k).2.2.1 = some (tyX3 k) := by decide +kernel
abbrev cX3_init : ByteArray := prog_5_method_1_code
def yX3_init : MethodName := ⟨RX3, "<init>", "()V"⟩
abbrev cX3_append : ByteArray := prog_5_method_2_code
def yX3_append : MethodName := ⟨RX3, "append", "(II)V"⟩
abbrev cX3_byteAt : ByteArray := prog_5_method_3_code
def yX3_byteAt : MethodName := ⟨RX3, "byteAt", "(I)I"⟩
def RX4 : String := "GoatShelves"
def TX4 : u_T := fun k => match k with
  | 0 => ("GoatShelves", "cliff", "LGoatShelves$Cliff;", true)
  | 1 => ("GoatShelves", "trial", "LGoatShelves$Cliff;", true)
  | 2 => ("GoatShelves", "kept", "LGoatShelves$Cliff;", true)
  | 3 => ("GoatShelves", "isKept", "Z", false)
  | 4 => ("GoatShelves", "tape", "LGoatShelves$Tape;", true)
  | 5 => ("GoatShelves", "reader", "LGoatShelves$Reader;", true)
  | 6 => ("GoatShelves", "sheets", "[LGoatShelves$Sheet;", true)
  | _ => ("GoatShelves", "findings", "[I", true)
def tyX4 : Nat → FieldType := fun k => match k with
  | 0 => .object "GoatShelves$Cliff"
  | 1 => .object "GoatShelves$Cliff"
  | 2 => .object "GoatShelves$Cliff"
  | 3 => .boolean
  | 4 => .object "GoatShelves$Tape"
  | 5 => .object "GoatShelves$Reader"
  | 6 => .array (.object "GoatShelves$Sheet")
  | _ => .array .int
abbrev wsX40 : List Cond := u_ws RX4 TX4 8
theorem nmX4 : ∀ a, a < 8 → ∀ b, b < 8 → a ≠ b → (TX4 a).2.1 ≠ (TX4 b).2.1 := by decide +kernel
theorem tyX4_ok : ∀ k, k < 8 → parseFieldDescriptor (TX4 k).2.2.1 = some (tyX4 k) := by decide +kernel
abbrev cX4_init : ByteArray := prog_1_method_1_code
def yX4_init : MethodName := ⟨RX4, "<init>", "()V"⟩
abbrev cX4_grass : ByteArray := prog_1_method_2_code
def yX4_grass : MethodName := ⟨RX4, "grass", "(II)I"⟩
abbrev cX4_ledge : ByteArray := prog_1_method_3_code
def yX4_ledge : MethodName := ⟨RX4, "ledge", "(II)I"⟩
abbrev cX4_set : ByteArray := prog_1_method_4_code
def yX4_set : MethodName := ⟨RX4, "set", "(II)I"⟩
abbrev cX4_goat : ByteArray := prog_1_method_5_code
def yX4_goat : MethodName := ⟨RX4, "goat", "(II)I"⟩
abbrev cX4_of : ByteArray := prog_1_method_6_code
def yX4_of : MethodName := ⟨RX4, "of", "(II)I"⟩
abbrev cX4_change : ByteArray := prog_1_method_7_code
def yX4_change : MethodName := ⟨RX4, "change", "(III)I"⟩
abbrev cX4_birth : ByteArray := prog_1_method_8_code
def yX4_birth : MethodName := ⟨RX4, "birth", "(I)I"⟩
abbrev cX4_ask : ByteArray := prog_1_method_9_code
def yX4_ask : MethodName := ⟨RX4, "ask", "(I)I"⟩
abbrev cX4_go : ByteArray := prog_1_method_10_code
def yX4_go : MethodName := ⟨RX4, "go", "(I)I"⟩
abbrev cX4_now : ByteArray := prog_1_method_11_code
def yX4_now : MethodName := ⟨RX4, "now", "(I)I"⟩
abbrev cX4_who : ByteArray := prog_1_method_12_code
def yX4_who : MethodName := ⟨RX4, "who", "(I)I"⟩
abbrev cX4_ahead : ByteArray := prog_1_method_13_code
def yX4_ahead : MethodName := ⟨RX4, "ahead", "(III)I"⟩
abbrev cX4_learns : ByteArray := prog_1_method_14_code
def yX4_learns : MethodName := ⟨RX4, "learns", "(II)I"⟩
abbrev cX4_lost : ByteArray := prog_1_method_15_code
def yX4_lost : MethodName := ⟨RX4, "lost", "(I)I"⟩
abbrev cX4_meet : ByteArray := prog_1_method_16_code
def yX4_meet : MethodName := ⟨RX4, "meet", "(II)I"⟩
abbrev cX4_reach : ByteArray := prog_1_method_17_code
def yX4_reach : MethodName := ⟨RX4, "reach", "(II)I"⟩
abbrev cX4_put : ByteArray := prog_1_method_18_code
def yX4_put : MethodName := ⟨RX4, "put", "(II)I"⟩
abbrev cX4_kindFor : ByteArray := prog_1_method_19_code
def yX4_kindFor : MethodName := ⟨RX4, "kindFor", "(II)I"⟩
abbrev cX4_growsFor : ByteArray := prog_1_method_20_code
def yX4_growsFor : MethodName := ⟨RX4, "growsFor", "(II)I"⟩
abbrev cX4_cover : ByteArray := prog_1_method_21_code
def yX4_cover : MethodName := ⟨RX4, "cover", "(I)I"⟩
abbrev cX4_price : ByteArray := prog_1_method_22_code
def yX4_price : MethodName := ⟨RX4, "price", "(I)I"⟩
abbrev cX4_censor : ByteArray := prog_1_method_23_code
def yX4_censor : MethodName := ⟨RX4, "censor", "(II)I"⟩
abbrev cX4_kinds : ByteArray := prog_1_method_24_code
def yX4_kinds : MethodName := ⟨RX4, "kinds", "(II)I"⟩
abbrev cX4_fits : ByteArray := prog_1_method_25_code
def yX4_fits : MethodName := ⟨RX4, "fits", "(II)I"⟩
abbrev cX4_slips : ByteArray := prog_1_method_26_code
def yX4_slips : MethodName := ⟨RX4, "slips", "(I)I"⟩
abbrev cX4_odds : ByteArray := prog_1_method_27_code
def yX4_odds : MethodName := ⟨RX4, "odds", "(II)J"⟩
abbrev cX4_seed : ByteArray := prog_1_method_28_code
def yX4_seed : MethodName := ⟨RX4, "seed", "(I)I"⟩
abbrev cX4_feed : ByteArray := prog_1_method_29_code
def yX4_feed : MethodName := ⟨RX4, "feed", "(II)I"⟩
abbrev cX4_wipe : ByteArray := prog_1_method_30_code
def yX4_wipe : MethodName := ⟨RX4, "wipe", "()I"⟩
abbrev cX4_text : ByteArray := prog_1_method_31_code
def yX4_text : MethodName := ⟨RX4, "text", "()I"⟩
abbrev cX4_hold : ByteArray := prog_1_method_32_code
def yX4_hold : MethodName := ⟨RX4, "hold", "(II)I"⟩
abbrev cX4_as : ByteArray := prog_1_method_33_code
def yX4_as : MethodName := ⟨RX4, "as", "(II)I"⟩
abbrev cX4_sheet : ByteArray := prog_1_method_34_code
def yX4_sheet : MethodName := ⟨RX4, "sheet", "(III)I"⟩
abbrev cX4_write : ByteArray := prog_1_method_35_code
def yX4_write : MethodName := ⟨RX4, "write", "(III)I"⟩
abbrev cX4_copy : ByteArray := prog_1_method_36_code
def yX4_copy : MethodName := ⟨RX4, "copy", "(IIIII)I"⟩
abbrev cX4_load : ByteArray := prog_1_method_37_code
def yX4_load : MethodName := ⟨RX4, "load", "(I)I"⟩
abbrev cX4_judge : ByteArray := prog_1_method_38_code
def yX4_judge : MethodName := ⟨RX4, "judge", "(I)I"⟩
abbrev cX4_image : ByteArray := prog_1_method_39_code
def yX4_image : MethodName := ⟨RX4, "image", "()I"⟩
abbrev cX4_undo : ByteArray := prog_1_method_40_code
def yX4_undo : MethodName := ⟨RX4, "undo", "()I"⟩
abbrev cX4_tear : ByteArray := prog_1_method_41_code
def yX4_tear : MethodName := ⟨RX4, "tear", "()I"⟩
abbrev cX4_count : ByteArray := prog_1_method_42_code
def yX4_count : MethodName := ⟨RX4, "count", "(I)I"⟩
abbrev cX4_status : ByteArray := prog_1_method_43_code
def yX4_status : MethodName := ⟨RX4, "status", "(I)I"⟩
abbrev cX4_found : ByteArray := prog_1_method_44_code
def yX4_found : MethodName := ⟨RX4, "found", "(I)I"⟩
abbrev cX4_isGoat : ByteArray := prog_1_method_45_code
def yX4_isGoat : MethodName := ⟨RX4, "isGoat", "(I)Z"⟩
abbrev cX4_isWithin : ByteArray := prog_1_method_46_code
def yX4_isWithin : MethodName := ⟨RX4, "isWithin", "(II)Z"⟩
abbrev cX4_isLedge : ByteArray := prog_1_method_47_code
def yX4_isLedge : MethodName := ⟨RX4, "isLedge", "(I)Z"⟩
abbrev cX4_isPage : ByteArray := prog_1_method_48_code
def yX4_isPage : MethodName := ⟨RX4, "isPage", "(I)Z"⟩
abbrev cX4_isKind : ByteArray := prog_1_method_49_code
def yX4_isKind : MethodName := ⟨RX4, "isKind", "(I)Z"⟩
abbrev cX4_isSpot : ByteArray := prog_1_method_50_code
def yX4_isSpot : MethodName := ⟨RX4, "isSpot", "(I)Z"⟩
abbrev cX4_isSheet : ByteArray := prog_1_method_51_code
def yX4_isSheet : MethodName := ⟨RX4, "isSheet", "(I)Z"⟩
abbrev cX4_hasBit : ByteArray := prog_1_method_52_code
def yX4_hasBit : MethodName := ⟨RX4, "hasBit", "(II)Z"⟩
abbrev cX4_leastBit : ByteArray := prog_1_method_53_code
def yX4_leastBit : MethodName := ⟨RX4, "leastBit", "(I)I"⟩
abbrev cX4_isTraitValue : ByteArray := prog_1_method_54_code
def yX4_isTraitValue : MethodName := ⟨RX4, "isTraitValue", "(II)Z"⟩
abbrev cX4_power : ByteArray := prog_1_method_55_code
def yX4_power : MethodName := ⟨RX4, "power", "(II)J"⟩
abbrev cX4_daysUntil : ByteArray := prog_1_method_56_code
def yX4_daysUntil : MethodName := ⟨RX4, "daysUntil", "(III)I"⟩
abbrev cX4_hasCome : ByteArray := prog_1_method_57_code
def yX4_hasCome : MethodName := ⟨RX4, "hasCome", "(III)Z"⟩
abbrev cX4_bestTrait : ByteArray := prog_1_method_58_code
def yX4_bestTrait : MethodName := ⟨RX4, "bestTrait", "(IIII)I"⟩
abbrev cX4_isLostWithout : ByteArray := prog_1_method_59_code
def yX4_isLostWithout : MethodName := ⟨RX4, "isLostWithout", "(III)Z"⟩
abbrev cX4_traitsAsTold : ByteArray := prog_1_method_60_code
def yX4_traitsAsTold : MethodName := ⟨RX4, "traitsAsTold", "(IIIII)I"⟩
abbrev cX4_comesAsTold : ByteArray := prog_1_method_61_code
def yX4_comesAsTold : MethodName := ⟨RX4, "comesAsTold", "(LGoatShelves$Sheet;II)Z"⟩
def RX5 : String := "GoatShelvesModel"
def TX5 : u_T := fun k => match k with
  | 0 => ("GoatShelvesModel", "s", "[I", true)
  | 1 => ("GoatShelvesModel", "kept", "[I", true)
  | 2 => ("GoatShelvesModel", "before", "[I", true)
  | 3 => ("GoatShelvesModel", "aside", "[I", true)
  | 4 => ("GoatShelvesModel", "isKept", "Z", false)
  | 5 => ("GoatShelvesModel", "findings", "[I", true)
  | 6 => ("GoatShelvesModel", "tape", "[I", true)
  | 7 => ("GoatShelvesModel", "taped", "I", false)
  | 8 => ("GoatShelvesModel", "bitsOf", "[I", true)
  | 9 => ("GoatShelvesModel", "sizes", "[I", true)
  | 10 => ("GoatShelvesModel", "numbers", "[I", true)
  | 11 => ("GoatShelvesModel", "token", "I", false)
  | 12 => ("GoatShelvesModel", "from", "I", false)
  | 13 => ("GoatShelvesModel", "to", "I", false)
  | 14 => ("GoatShelvesModel", "value", "I", false)
  | _ => ("GoatShelvesModel", "faultAt", "I", false)
def tyX5 : Nat → FieldType := fun k => match k with
  | 0 => .array .int
  | 1 => .array .int
  | 2 => .array .int
  | 3 => .array .int
  | 4 => .boolean
  | 5 => .array .int
  | 6 => .array .int
  | 7 => .int
  | 8 => .array .int
  | 9 => .array .int
  | 10 => .array .int
  | 11 => .int
  | 12 => .int
  | 13 => .int
  | 14 => .int
  | _ => .int
abbrev wsX50 : List Cond := u_ws RX5 TX5 16
theorem nmX5 : ∀ a, a < 16 → ∀ b, b < 16 → a ≠ b → (TX5 a).2.1 ≠ (TX5 b).2.1 := by decide +kernel
theorem tyX5_ok : ∀ k, k < 16 → parseFieldDescriptor (TX5 k).2.2.1 = some (tyX5 k) := by decide +kernel
abbrev cX5_init : ByteArray := prog_7_method_1_code
def yX5_init : MethodName := ⟨RX5, "<init>", "()V"⟩
abbrev cX5_isIn : ByteArray := prog_7_method_2_code
def yX5_isIn : MethodName := ⟨RX5, "isIn", "(JJJ)Z"⟩
abbrev cX5_finds : ByteArray := prog_7_method_3_code
def yX5_finds : MethodName := ⟨RX5, "finds", "(I)I"⟩
abbrev cX5_becomes : ByteArray := prog_7_method_4_code
def yX5_becomes : MethodName := ⟨RX5, "becomes", "(II)I"⟩
abbrev cX5_copyRow : ByteArray := prog_7_method_5_code
def yX5_copyRow : MethodName := ⟨RX5, "copyRow", "([I[I)V"⟩
abbrev cX5_isLedge : ByteArray := prog_7_method_6_code
def yX5_isLedge : MethodName := ⟨RX5, "isLedge", "(I)Z"⟩
abbrev cX5_isPage : ByteArray := prog_7_method_7_code
def yX5_isPage : MethodName := ⟨RX5, "isPage", "(I)Z"⟩
abbrev cX5_isGoat : ByteArray := prog_7_method_8_code
def yX5_isGoat : MethodName := ⟨RX5, "isGoat", "(I)Z"⟩
abbrev cX5_at : ByteArray := prog_7_method_9_code
def yX5_at : MethodName := ⟨RX5, "at", "(II)I"⟩
abbrev cX5_its : ByteArray := prog_7_method_10_code
def yX5_its : MethodName := ⟨RX5, "its", "(II)I"⟩
abbrev cX5_least : ByteArray := prog_7_method_11_code
def yX5_least : MethodName := ⟨RX5, "least", "(II)I"⟩
abbrev cX5_greatest : ByteArray := prog_7_method_12_code
def yX5_greatest : MethodName := ⟨RX5, "greatest", "(II)I"⟩
abbrev cX5_orNone : ByteArray := prog_7_method_13_code
def yX5_orNone : MethodName := ⟨RX5, "orNone", "(I)I"⟩
abbrev cX5_many : ByteArray := prog_7_method_14_code
def yX5_many : MethodName := ⟨RX5, "many", "(I)I"⟩
abbrev cX5_grass : ByteArray := prog_7_method_15_code
def yX5_grass : MethodName := ⟨RX5, "grass", "(II)I"⟩
abbrev cX5_there : ByteArray := prog_7_method_16_code
def yX5_there : MethodName := ⟨RX5, "there", "(I)I"⟩
abbrev cX5_known : ByteArray := prog_7_method_17_code
def yX5_known : MethodName := ⟨RX5, "known", "(I)I"⟩
abbrev cX5_knownAll : ByteArray := prog_7_method_18_code
def yX5_knownAll : MethodName := ⟨RX5, "knownAll", "()I"⟩
abbrev cX5_ledge : ByteArray := prog_7_method_19_code
def yX5_ledge : MethodName := ⟨RX5, "ledge", "(II)I"⟩
abbrev cX5_set : ByteArray := prog_7_method_20_code
def yX5_set : MethodName := ⟨RX5, "set", "(II)I"⟩
abbrev cX5_comes : ByteArray := prog_7_method_21_code
def yX5_comes : MethodName := ⟨RX5, "comes", "(III)V"⟩
abbrev cX5_goat : ByteArray := prog_7_method_22_code
def yX5_goat : MethodName := ⟨RX5, "goat", "(II)I"⟩
abbrev cX5_isQuoted : ByteArray := prog_7_method_23_code
def yX5_isQuoted : MethodName := ⟨RX5, "isQuoted", "(II)Z"⟩
abbrev cX5_quotes : ByteArray := prog_7_method_24_code
def yX5_quotes : MethodName := ⟨RX5, "quotes", "(I)I"⟩
abbrev cX5_costs : ByteArray := prog_7_method_25_code
def yX5_costs : MethodName := ⟨RX5, "costs", "(I)I"⟩
abbrev cX5_grazes : ByteArray := prog_7_method_26_code
def yX5_grazes : MethodName := ⟨RX5, "grazes", "(I)I"⟩
abbrev cX5_greenest : ByteArray := prog_7_method_27_code
def yX5_greenest : MethodName := ⟨RX5, "greenest", "(I)I"⟩
abbrev cX5_climbsTo : ByteArray := prog_7_method_28_code
def yX5_climbsTo : MethodName := ⟨RX5, "climbsTo", "(I)I"⟩
abbrev cX5_of : ByteArray := prog_7_method_29_code
def yX5_of : MethodName := ⟨RX5, "of", "(II)I"⟩
abbrev cX5_greatestOf : ByteArray := prog_7_method_30_code
def yX5_greatestOf : MethodName := ⟨RX5, "greatestOf", "(I)I"⟩
abbrev cX5_change : ByteArray := prog_7_method_31_code
def yX5_change : MethodName := ⟨RX5, "change", "(III)I"⟩
abbrev cX5_birth : ByteArray := prog_7_method_32_code
def yX5_birth : MethodName := ⟨RX5, "birth", "(I)I"⟩
abbrev cX5_cheapest : ByteArray := prog_7_method_33_code
def yX5_cheapest : MethodName := ⟨RX5, "cheapest", "(I)I"⟩
abbrev cX5_ask : ByteArray := prog_7_method_34_code
def yX5_ask : MethodName := ⟨RX5, "ask", "(I)I"⟩
abbrev cX5_lives : ByteArray := prog_7_method_35_code
def yX5_lives : MethodName := ⟨RX5, "lives", "(I)V"⟩
abbrev cX5_lowestOf : ByteArray := prog_7_method_36_code
def yX5_lowestOf : MethodName := ⟨RX5, "lowestOf", "(I)I"⟩
abbrev cX5_highestOf : ByteArray := prog_7_method_37_code
def yX5_highestOf : MethodName := ⟨RX5, "highestOf", "(I)I"⟩
abbrev cX5_learnsOne : ByteArray := prog_7_method_38_code
def yX5_learnsOne : MethodName := ⟨RX5, "learnsOne", "(II)V"⟩
abbrev cX5_dayBut : ByteArray := prog_7_method_39_code
def yX5_dayBut : MethodName := ⟨RX5, "dayBut", "(I)V"⟩
abbrev cX5_goes : ByteArray := prog_7_method_40_code
def yX5_goes : MethodName := ⟨RX5, "goes", "(I)V"⟩
abbrev cX5_go : ByteArray := prog_7_method_41_code
def yX5_go : MethodName := ⟨RX5, "go", "(I)I"⟩
abbrev cX5_grassAll : ByteArray := prog_7_method_42_code
def yX5_grassAll : MethodName := ⟨RX5, "grassAll", "()I"⟩
abbrev cX5_livedOn : ByteArray := prog_7_method_43_code
def yX5_livedOn : MethodName := ⟨RX5, "livedOn", "()I"⟩
abbrev cX5_wisest : ByteArray := prog_7_method_44_code
def yX5_wisest : MethodName := ⟨RX5, "wisest", "()I"⟩
abbrev cX5_now : ByteArray := prog_7_method_45_code
def yX5_now : MethodName := ⟨RX5, "now", "(I)I"⟩
abbrev cX5_who : ByteArray := prog_7_method_46_code
def yX5_who : MethodName := ⟨RX5, "who", "(I)I"⟩
abbrev cX5_then : ByteArray := prog_7_method_47_code
def yX5_then : MethodName := ⟨RX5, "then", "(III)I"⟩
abbrev cX5_ahead : ByteArray := prog_7_method_48_code
def yX5_ahead : MethodName := ⟨RX5, "ahead", "(III)I"⟩
abbrev cX5_learns : ByteArray := prog_7_method_49_code
def yX5_learns : MethodName := ⟨RX5, "learns", "(II)I"⟩
abbrev cX5_lost : ByteArray := prog_7_method_50_code
def yX5_lost : MethodName := ⟨RX5, "lost", "(I)I"⟩
abbrev cX5_meet : ByteArray := prog_7_method_51_code
def yX5_meet : MethodName := ⟨RX5, "meet", "(II)I"⟩
abbrev cX5_reach : ByteArray := prog_7_method_52_code
def yX5_reach : MethodName := ⟨RX5, "reach", "(II)I"⟩
abbrev cX5_isAsked : ByteArray := prog_7_method_53_code
def yX5_isAsked : MethodName := ⟨RX5, "isAsked", "(II)Z"⟩
abbrev cX5_wisestBy : ByteArray := prog_7_method_54_code
def yX5_wisestBy : MethodName := ⟨RX5, "wisestBy", "(III)I"⟩
abbrev cX5_put : ByteArray := prog_7_method_55_code
def yX5_put : MethodName := ⟨RX5, "put", "(II)I"⟩
abbrev cX5_kindFor : ByteArray := prog_7_method_56_code
def yX5_kindFor : MethodName := ⟨RX5, "kindFor", "(II)I"⟩
abbrev cX5_growsFor : ByteArray := prog_7_method_57_code
def yX5_growsFor : MethodName := ⟨RX5, "growsFor", "(II)I"⟩
abbrev cX5_cover : ByteArray := prog_7_method_58_code
def yX5_cover : MethodName := ⟨RX5, "cover", "(I)I"⟩
abbrev cX5_price : ByteArray := prog_7_method_59_code
def yX5_price : MethodName := ⟨RX5, "price", "(I)I"⟩
abbrev cX5_censor : ByteArray := prog_7_method_60_code
def yX5_censor : MethodName := ⟨RX5, "censor", "(II)I"⟩
abbrev cX5_isTold : ByteArray := prog_7_method_61_code
def yX5_isTold : MethodName := ⟨RX5, "isTold", "(II)Z"⟩
abbrev cX5_couldBe : ByteArray := prog_7_method_62_code
def yX5_couldBe : MethodName := ⟨RX5, "couldBe", "(IIII)I"⟩
abbrev cX5_kinds : ByteArray := prog_7_method_63_code
def yX5_kinds : MethodName := ⟨RX5, "kinds", "(II)I"⟩
abbrev cX5_fits : ByteArray := prog_7_method_64_code
def yX5_fits : MethodName := ⟨RX5, "fits", "(II)I"⟩
abbrev cX5_draw : ByteArray := prog_7_method_65_code
def yX5_draw : MethodName := ⟨RX5, "draw", "()I"⟩
abbrev cX5_slips : ByteArray := prog_7_method_66_code
def yX5_slips : MethodName := ⟨RX5, "slips", "(I)I"⟩
abbrev cX5_odds : ByteArray := prog_7_method_67_code
def yX5_odds : MethodName := ⟨RX5, "odds", "(II)J"⟩
abbrev cX5_seed : ByteArray := prog_7_method_68_code
def yX5_seed : MethodName := ⟨RX5, "seed", "(I)I"⟩
abbrev cX5_feed : ByteArray := prog_7_method_69_code
def yX5_feed : MethodName := ⟨RX5, "feed", "(II)I"⟩
abbrev cX5_wipe : ByteArray := prog_7_method_70_code
def yX5_wipe : MethodName := ⟨RX5, "wipe", "()I"⟩
abbrev cX5_isLetter : ByteArray := prog_7_method_71_code
def yX5_isLetter : MethodName := ⟨RX5, "isLetter", "(I)Z"⟩
abbrev cX5_isDigit : ByteArray := prog_7_method_72_code
def yX5_isDigit : MethodName := ⟨RX5, "isDigit", "(I)Z"⟩
abbrev cX5_byteAt : ByteArray := prog_7_method_73_code
def yX5_byteAt : MethodName := ⟨RX5, "byteAt", "(I)I"⟩
abbrev cX5_nextToken : ByteArray := prog_7_method_74_code
def yX5_nextToken : MethodName := ⟨RX5, "nextToken", "()V"⟩
abbrev cX5_has3 : ByteArray := prog_7_method_75_code
def yX5_has3 : MethodName := ⟨RX5, "has3", "(IIII)Z"⟩
abbrev cX5_isWord : ByteArray := prog_7_method_76_code
def yX5_isWord : MethodName := ⟨RX5, "isWord", "(I)Z"⟩
abbrev cX5_fails : ByteArray := prog_7_method_77_code
def yX5_fails : MethodName := ⟨RX5, "fails", "()Z"⟩
abbrev cX5_isFour : ByteArray := prog_7_method_78_code
def yX5_isFour : MethodName := ⟨RX5, "isFour", "(IIII)Z"⟩
abbrev cX5_isFive : ByteArray := prog_7_method_79_code
def yX5_isFive : MethodName := ⟨RX5, "isFive", "(IIIII)Z"⟩
abbrev cX5_isNumber : ByteArray := prog_7_method_81_code
def yX5_isNumber : MethodName := ⟨RX5, "isNumber", "(II)Z"⟩
abbrev cX5_kindHere : ByteArray := prog_7_method_82_code
def yX5_kindHere : MethodName := ⟨RX5, "kindHere", "()I"⟩
abbrev cX5_perhaps : ByteArray := prog_7_method_83_code
def yX5_perhaps : MethodName := ⟨RX5, "perhaps", "(ZII)Z"⟩
abbrev cX5_goatHere : ByteArray := prog_7_method_84_code
def yX5_goatHere : MethodName := ⟨RX5, "goatHere", "(I)Z"⟩
abbrev cX5_grassHere : ByteArray := prog_7_method_85_code
def yX5_grassHere : MethodName := ⟨RX5, "grassHere", "()Z"⟩
abbrev cX5_itemHere : ByteArray := prog_7_method_86_code
def yX5_itemHere : MethodName := ⟨RX5, "itemHere", "()Z"⟩
abbrev cX5_text : ByteArray := prog_7_method_87_code
def yX5_text : MethodName := ⟨RX5, "text", "()I"⟩
abbrev cX5_hold : ByteArray := prog_7_method_88_code
def yX5_hold : MethodName := ⟨RX5, "hold", "(II)I"⟩
abbrev cX5_isUnder : ByteArray := prog_7_method_89_code
def yX5_isUnder : MethodName := ⟨RX5, "isUnder", "(II)Z"⟩
abbrev cX5_as : ByteArray := prog_7_method_90_code
def yX5_as : MethodName := ⟨RX5, "as", "(II)I"⟩
abbrev cX5_isSheet : ByteArray := prog_7_method_91_code
def yX5_isSheet : MethodName := ⟨RX5, "isSheet", "(I)Z"⟩
abbrev cX5_sheet : ByteArray := prog_7_method_92_code
def yX5_sheet : MethodName := ⟨RX5, "sheet", "(III)I"⟩
abbrev cX5_write : ByteArray := prog_7_method_93_code
def yX5_write : MethodName := ⟨RX5, "write", "(III)I"⟩
abbrev cX5_copy : ByteArray := prog_7_method_94_code
def yX5_copy : MethodName := ⟨RX5, "copy", "(IIIII)I"⟩
abbrev cX5_wants : ByteArray := prog_7_method_95_code
def yX5_wants : MethodName := ⟨RX5, "wants", "(I)I"⟩
abbrev cX5_load : ByteArray := prog_7_method_96_code
def yX5_load : MethodName := ⟨RX5, "load", "(I)I"⟩
abbrev cX5_judge : ByteArray := prog_7_method_97_code
def yX5_judge : MethodName := ⟨RX5, "judge", "(I)I"⟩
abbrev cX5_image : ByteArray := prog_7_method_98_code
def yX5_image : MethodName := ⟨RX5, "image", "()I"⟩
abbrev cX5_undo : ByteArray := prog_7_method_99_code
def yX5_undo : MethodName := ⟨RX5, "undo", "()I"⟩
abbrev cX5_tear : ByteArray := prog_7_method_100_code
def yX5_tear : MethodName := ⟨RX5, "tear", "()I"⟩
abbrev cX5_count : ByteArray := prog_7_method_101_code
def yX5_count : MethodName := ⟨RX5, "count", "(I)I"⟩
abbrev cX5_status : ByteArray := prog_7_method_102_code
def yX5_status : MethodName := ⟨RX5, "status", "(I)I"⟩
def RJ6 : String := "java/lang/Integer"
abbrev cJ6_bitCount_0f7a4 : ByteArray := prog_8_method_49_code
def yJ6_bitCount_0f7a4 : MethodName := ⟨RJ6, "bitCount", "(I)I"⟩
def RJ9 : String := "java/lang/Math"
abbrev cJ9_max_7cf53 : ByteArray := prog_9_method_65_code
def yJ9_max_7cf53 : MethodName := ⟨RJ9, "max", "(II)I"⟩
abbrev cJ9_min_7cf53 : ByteArray := prog_9_method_69_code
def yJ9_min_7cf53 : MethodName := ⟨RJ9, "min", "(II)I"⟩
def RJ0 : String := "java/lang/String"
abbrev cJ0_length_8abf5 : ByteArray := prog_10_method_54_code
def yJ0_length_8abf5 : MethodName := ⟨RJ0, "length", "()I"⟩
abbrev cJ0_charAt_5068e : ByteArray := prog_10_method_56_code
def yJ0_charAt_5068e : MethodName := ⟨RJ0, "charAt", "(I)C"⟩
abbrev cJ0_coder_7d493 : ByteArray := prog_10_method_152_code
def yJ0_coder_7d493 : MethodName := ⟨RJ0, "coder", "()B"⟩
abbrev cJ0_isLatin1_aae02 : ByteArray := prog_10_method_154_code
def yJ0_isLatin1_aae02 : MethodName := ⟨RJ0, "isLatin1", "()Z"⟩
abbrev cJ0_checkIndex_df160 : ByteArray := prog_10_method_155_code
def yJ0_checkIndex_df160 : MethodName := ⟨RJ0, "checkIndex", "(II)V"⟩
def RJ1 : String := "java/lang/StringLatin1"
abbrev cJ1_charAt_3b067 : ByteArray := prog_11_method_2_code
def yJ1_charAt_3b067 : MethodName := ⟨RJ1, "charAt", "([BI)C"⟩
def RJ2 : String := "java/lang/StringUTF16"
abbrev cJ2_getChar_3b067 : ByteArray := prog_12_method_5_code
def yJ2_getChar_3b067 : MethodName := ⟨RJ2, "getChar", "([BI)C"⟩
abbrev cJ2_length_9d52b : ByteArray := prog_12_method_6_code
def yJ2_length_9d52b : MethodName := ⟨RJ2, "length", "([B)I"⟩
abbrev cJ2_charAt_3b067 : ByteArray := prog_12_method_83_code
def yJ2_charAt_3b067 : MethodName := ⟨RJ2, "charAt", "([BI)C"⟩
abbrev cJ2_checkIndex_2214a : ByteArray := prog_12_method_91_code
def yJ2_checkIndex_2214a : MethodName := ⟨RJ2, "checkIndex", "(I[B)V"⟩
def RJ10 : String := "java/lang/System"
def RJ3 : String := "jdk/internal/util/Preconditions"
abbrev cJ3_checkIndex_8e157 : ByteArray := prog_14_method_11_code
def yJ3_checkIndex_8e157 : MethodName := ⟨RJ3, "checkIndex", "(IILjava/util/function/BiFunction;)I"⟩
def RL : String := "GoatShelvesLaw"
def yL_law : MethodName := ⟨RL, "law", "([I)Z"⟩
abbrev vwCl : List vw_C := [(RX0, TX0, 14), (RX1, TX1, 6), (RX2, TX2, 3), (RX3, TX3, 2), (RX4, TX4, 8), (RX5, TX5, 16)]
/-- the words that every method is given: those of the tables that stay as the machine runs -/
def TB : List Cond := lw_tbl.filter goodWord
theorem tb_mem {w : Cond} (i : Nat) (h : lw_tbl[i]? = some w) (hg : goodWord w = true) : w ∈ TB := List.mem_filter.mpr ⟨List.mem_of_getElem? h, hg⟩
theorem tb_lw {w : Cond} (h : w ∈ TB) : w ∈ lw_tbl := (List.mem_filter.mp h).1
theorem tb_gd {w : Cond} (h : w ∈ TB) : goodWord w = true := (List.mem_filter.mp h).2
theorem tb_all (ws : List Cond) (ps : List Nat) (hp : ws = ps.filterMap (fun i => lw_tbl[i]?)) (h : ws.all goodWord = true) : ∀ w ∈ ws, w ∈ TB := by
  intro w hw
  have h1 := List.all_eq_true.mp h w hw
  rw [hp] at hw
  obtain ⟨i, -, hi⟩ := List.mem_filterMap.mp hw
  exact tb_mem i hi h1
theorem tb_goodIn {y : MethodName} {cc : ByteArray} {n : Nat} {ret : Option FieldType} (h : Cond.code y cc n ret ∈ TB) : GoodIn TB (Cond.code y cc n ret :: TB) := by
  intro w hw
  rcases List.mem_cons.mp hw with rfl | hw
  · exact ⟨h, good_of_word (tb_gd h)⟩
  · exact ⟨hw, good_of_word (tb_gd hw)⟩
theorem inX0 : ∀ w ∈ u_ws RX0 TX0 14, w ∈ TB := tb_all _ [124, 126, 128, 130, 132, 134, 136, 138, 140, 142, 144, 146, 148, 150] (by decide +kernel) (by decide +kernel)
theorem inX1 : ∀ w ∈ u_ws RX1 TX1 6, w ∈ TB := tb_all _ [181, 183, 185, 187, 189, 191] (by decide +kernel) (by decide +kernel)
theorem inX2 : ∀ w ∈ u_ws RX2 TX2 3, w ∈ TB := tb_all _ [207, 209, 211] (by decide +kernel) (by decide +kernel)
theorem inX3 : ∀ w ∈ u_ws RX3 TX3 2, w ∈ TB := tb_all _ [164, 166] (by decide +kernel) (by decide +kernel)
theorem inX4 : ∀ w ∈ u_ws RX4 TX4 8, w ∈ TB := tb_all _ [222, 224, 226, 228, 230, 232, 234, 236] (by decide +kernel) (by decide +kernel)
theorem inX5 : ∀ w ∈ u_ws RX5 TX5 16, w ∈ TB := tb_all _ [802, 804, 806, 808, 810, 812, 814, 816, 818, 820, 822, 824, 826, 828, 830, 832] (by decide +kernel) (by decide +kernel)
end
section
/-! The whole heap of class and reference as ONE fixed layout: place k of 'lay' is an array of numbers or an object; all references in it are fixed; what changes is S : place -> index -> number. PW: 'the walk from here comes to an end with this outcome', over any machine that fits. -/
abbrev St : Type := Nat → Nat → Int32
def upR (S : St) (q : Nat) (r : Nat → Int32) : St := fun a => if a = q then r else S a
def up2 (S : St) (q i : Nat) (x : Int32) : St := upR S q (upd (S q) i x)
/-- an array of n numbers; an object: class, fields (a fixed place, or a number); the array of sheets -/
abbrev Sh : Type := Nat ⊕ ((Nat × List (Option Nat)) ⊕ (Nat → Nat))
def cliffSh (b : Nat) : Sh := .inr (.inl (0, [some (b + 1), some (b + 2), some (b + 3), some (b + 4), some (b + 5), some (b + 6), some (b + 7), some (b + 8), none, none, none, none, none, none]))
def cliffAt (b : Nat) : List Sh := [cliffSh b, .inl 12, .inl 8, .inl 8, .inl 8, .inl 8, .inl 8, .inl 8, .inl 10]
def sheetAt (b : Nat) : List Sh := [.inr (.inl (2, [some (b + 1), none, none])), .inl 40]
/-- 0 GoatShelves; 1, 10, 19 its cliffs; 28 tape, 29 its bytes; 30 reader; 31 the array of sheets; 32 .. 39 sheets; 40 findings; 41 GoatShelvesModel; 42 .. 50 its rows -/
def lay : List Sh := [.inr (.inl (4, [some 1, some 10, some 19, none, some 28, some 30, some 31, some 40]))] ++ (cliffAt 1 ++ (cliffAt 10 ++ (cliffAt 19 ++ ([.inr (.inl (3, [some 29, none])), .inl 120, .inr (.inl (1, [some 28, some 10, none, none, none, none])), .inr (.inr (fun j => 32 + 2 * j))] ++ (sheetAt 32 ++ (sheetAt 34 ++ (sheetAt 36 ++ (sheetAt 38 ++ [.inl 7, .inr (.inl (5, [some 42, some 43, some 44, some 45, none, some 46, some 47, none, some 48, some 49, some 50, none, none, none, none, none])), .inl 75, .inl 75, .inl 75, .inl 75, .inl 8, .inl 120, .inl 4, .inl 4, .inl 160])))))))) 
def fV (ad : Nat → Nat) (f : Nat → Int32) : List (Option Nat) → Nat → List Value
  | [], _ => []
  | none :: r, k => .int (f k) :: fV ad f r (k + 1)
  | some q :: r, k => .ref (ad q) :: fV ad f r (k + 1)
def cE (cT : Nat → ClassId) (ad : Nat → Nat) (f : Nat → Int32) : Sh → va_E
  | .inl n => .inl (cT 0, n, .inl f)
  | .inr (.inl x) => .inr (x.1, fV ad f x.2 0)
  | .inr (.inr g) => .inl (cT 1, 4, .inr (.inr (.inr (.inr (fun j => some (ad (g j)))))))
def wlF (cT : Nat → ClassId) (ad : Nat → Nat) (S : St) : List Sh → Nat → va_W
  | [], _ => []
  | sh :: r, k => (ad k, cE cT ad (S k) sh) :: wlF cT ad S r (k + 1)
def wl (cT : Nat → ClassId) (ad : Nat → Nat) (S : St) : va_W := wlF cT ad S lay 0
theorem wlF_get {cT : Nat → ClassId} {ad : Nat → Nat} {S : St} : ∀ {l : List Sh} {k q : Nat} {sh : Sh}, l[q]? = some sh → (wlF cT ad S l k)[q]? = some (ad (k + q), cE cT ad (S (k + q)) sh)
  | [], k, q, sh, h => by simp at h
  | s0 :: r, k, 0, sh, h => by
    rw [List.getElem?_cons_zero] at h
    cases h
    rfl
  | s0 :: r, k, q + 1, sh, h => by
    rw [List.getElem?_cons_succ] at h
    have := wlF_get (cT := cT) (ad := ad) (S := S) (k := k + 1) h
    rw [show k + 1 + q = k + (q + 1) by omega] at this
    exact this
theorem wl_get {cT : Nat → ClassId} {ad : Nat → Nat} {S : St} {q : Nat} {sh : Sh} (h : lay[q]? = some sh) : (wl cT ad S)[q]? = some (ad q, cE cT ad (S q) sh) := by
  have := wlF_get (cT := cT) (ad := ad) (S := S) (k := 0) h
  rw [Nat.zero_add] at this
  exact this
theorem wlF_same {cT : Nat → ClassId} {ad : Nat → Nat} {S S' : St} : ∀ {l : List Sh} {k : Nat}, (∀ j, j < l.length → S' (k + j) = S (k + j)) → wlF cT ad S' l k = wlF cT ad S l k
  | [], k, _ => rfl
  | s0 :: r, k, h => by
    have h0 := h 0 (by simp)
    rw [Nat.add_zero] at h0
    simp only [wlF]
    rw [h0, wlF_same (S := S) (S' := S') (l := r) (k := k + 1) (fun j hj => by rw [show k + 1 + j = k + (j + 1) by omega]; exact h (j + 1) (by simp only [List.length_cons]; omega))]
theorem wlF_set {cT : Nat → ClassId} {ad : Nat → Nat} {S : St} {f : Nat → Int32} : ∀ {l : List Sh} {k q : Nat} {sh : Sh}, l[q]? = some sh → (wlF cT ad S l k).set q (ad (k + q), cE cT ad f sh) = wlF cT ad (upR S (k + q) f) l k
  | [], k, q, sh, h => by simp at h
  | s0 :: r, k, 0, sh, h => by
    rw [List.getElem?_cons_zero] at h
    cases h
    simp only [wlF, List.set_cons_zero, Nat.add_zero]
    rw [show upR S k f k = f by simp [upR], wlF_same (S' := upR S k f) (S := S) (fun j hj => by show (if k + 1 + j = k then f else S (k + 1 + j)) = _; rw [if_neg (by omega)])]
  | s0 :: r, k, q + 1, sh, h => by
    rw [List.getElem?_cons_succ] at h
    have := wlF_set (cT := cT) (ad := ad) (S := S) (f := f) (k := k + 1) h
    rw [show k + 1 + q = k + (q + 1) by omega] at this
    simp only [wlF, List.set_cons_succ]
    rw [this, show upR S (k + (q + 1)) f k = S k by show (if k = k + (q + 1) then f else S k) = _; rw [if_neg (by omega)]]
theorem wl_set {cT : Nat → ClassId} {ad : Nat → Nat} {S : St} {f : Nat → Int32} {q : Nat} {sh : Sh} (h : lay[q]? = some sh) : (wl cT ad S).set q (ad q, cE cT ad f sh) = wl cT ad (upR S q f) := by
  have := wlF_set (cT := cT) (ad := ad) (S := S) (f := f) (k := 0) h
  rw [Nat.zero_add] at this
  exact this
theorem wlF_addr {cT : Nat → ClassId} {ad : Nat → Nat} {S S' : St} : ∀ {l : List Sh} {k i : Nat} {q : Nat × va_E}, (wlF cT ad S l k)[i]? = some q → ∃ e, (wlF cT ad S' l k)[i]? = some (q.1, e)
  | [], k, i, q, h => by simp [wlF] at h
  | s0 :: r, k, 0, q, h => by
    simp only [wlF, List.getElem?_cons_zero] at h
    cases h
    exact ⟨_, rfl⟩
  | s0 :: r, k, i + 1, q, h => by
    simp only [wlF, List.getElem?_cons_succ] at h
    exact wlF_addr (k := k + 1) h
theorem wl_addr {cT : Nat → ClassId} {ad : Nat → Nat} {S : St} (S' : St) {i : Nat} {q : Nat × va_E} (h : (wl cT ad S)[i]? = some q) : ∃ e, (wl cT ad S')[i]? = some (q.1, e) := wlF_addr h
theorem wl_D {cT : Nat → ClassId} {ad : Nat → Nat} {S : St} (S' : St) {A : Nat → Prop} (h : va_D A (wl cT ad S)) : va_D A (wl cT ad S') := by
  refine ⟨fun i j p q hi hj e => ?_, fun k q hk => ?_⟩
  · obtain ⟨e1, h1⟩ := wl_addr S hi
    obtain ⟨e2, h2⟩ := wl_addr S hj
    exact h.1 i j _ _ h1 h2 e
  · obtain ⟨e1, h1⟩ := wl_addr S hk
    exact h.2 k (q.1, e1) h1
theorem wl_A {cT : Nat → ClassId} {ad : Nat → Nat} {S : St} (S' : St) {n m q : Nat} (hm : n ≤ m) (h : va_A (wl cT ad S) m q) : va_A (wl cT ad S') n q := by
  rcases h with ⟨k, e, h⟩ | h
  · obtain ⟨e', h'⟩ := wl_addr S' h
    exact Or.inl ⟨k, e', h'⟩
  · exact Or.inr (by omega)
theorem fV_get {ad : Nat → Nat} {f : Nat → Int32} : ∀ {l : List (Option Nat)} {k j : Nat} {x : Option Nat}, l[j]? = some x → (fV ad f l k)[j]? = some (match x with | none => .int (f (k + j)) | some q => .ref (ad q))
  | [], k, j, x, h => by simp at h
  | none :: r, k, 0, x, h => by rw [List.getElem?_cons_zero] at h; cases h; rfl
  | some q :: r, k, 0, x, h => by rw [List.getElem?_cons_zero] at h; cases h; rfl
  | none :: r, k, j + 1, x, h => by
    rw [List.getElem?_cons_succ] at h
    have := fV_get (ad := ad) (f := f) (k := k + 1) h
    rw [show k + 1 + j = k + (j + 1) by omega] at this
    exact this
  | some q :: r, k, j + 1, x, h => by
    rw [List.getElem?_cons_succ] at h
    have := fV_get (ad := ad) (f := f) (k := k + 1) h
    rw [show k + 1 + j = k + (j + 1) by omega] at this
    exact this
theorem fV_same {ad : Nat → Nat} {f g : Nat → Int32} : ∀ {l : List (Option Nat)} {k : Nat}, (∀ j, k ≤ j → g j = f j) → fV ad g l k = fV ad f l k
  | [], k, _ => rfl
  | none :: r, k, h => by simp only [fV]; rw [h k (Nat.le_refl k), fV_same (fun j hj => h j (by omega))]
  | some q :: r, k, h => by simp only [fV]; rw [fV_same (fun j hj => h j (by omega))]
theorem fV_set {ad : Nat → Nat} {f : Nat → Int32} {v : Int32} : ∀ {l : List (Option Nat)} {k j : Nat}, l[j]? = some none → (fV ad f l k).set j (.int v) = fV ad (upd f (k + j) v) l k
  | [], k, j, h => by simp at h
  | none :: r, k, 0, h => by
    simp only [fV, List.set_cons_zero, Nat.add_zero]
    rw [show upd f k v k = v by simp [upd], fV_same (g := upd f k v) (f := f) (fun j hj => by show (if j = k then v else f j) = _; rw [if_neg (by omega)])]
  | some q :: r, k, 0, h => by simp at h
  | none :: r, k, j + 1, h => by
    rw [List.getElem?_cons_succ] at h
    have := fV_set (ad := ad) (f := f) (v := v) (k := k + 1) h
    rw [show k + 1 + j = k + (j + 1) by omega] at this
    simp only [fV, List.set_cons_succ]
    rw [this, show upd f (k + (j + 1)) v k = f k by show (if k = k + (j + 1) then v else f k) = _; rw [if_neg (by omega)]]
  | some q :: r, k, j + 1, h => by
    rw [List.getElem?_cons_succ] at h
    have := fV_set (ad := ad) (f := f) (v := v) (k := k + 1) h
    rw [show k + 1 + j = k + (j + 1) by omega] at this
    simp only [fV, List.set_cons_succ]
    rw [this]
theorem fV_len {ad : Nat → Nat} {f : Nat → Int32} : ∀ {l : List (Option Nat)} {k : Nat}, (fV ad f l k).length = l.length
  | [], _ => rfl
  | none :: r, k => by simp only [fV, List.length_cons]; rw [fV_len]
  | some q :: r, k => by simp only [fV, List.length_cons]; rw [fV_len]
/-- values by places: a reference is a place of the layout; 100 .. the literals, 200 .. their bytes, 300 what checkIndex is handed -/
def cv (ad : Nat → Nat) : Value → Value
  | .ref a => .ref (ad a)
  | v => v
theorem cv_cat (ad : Nat → Nat) (v : Value) : (cv ad v).category = v.category := by cases v <;> rfl
/-- the locals that are known -/
def LR (ad : Nat → Nat) (ls : Array Slot) (nL : Nat) (L : List (Option Value)) : Prop := ls.size = nL ∧ lv_wf ls ∧ ∀ (i : Nat) (v : Value), L[i]? = some (some v) → ls[i]? = some (.val (cv ad v))
def asc (ad : Nat → Nat) (L : List (Option Value)) : List (Nat × Value) := (List.range L.length).filterMap (fun i => match L[i]? with | some (some v) => some (i, cv ad v) | _ => none)
theorem asc_mem {ad : Nat → Nat} {L : List (Option Value)} {q : Nat × Value} : q ∈ asc ad L ↔ ∃ v, L[q.1]? = some (some v) ∧ q.2 = cv ad v := by
  obtain ⟨i, w⟩ := q
  constructor
  · intro h
    obtain ⟨j, -, hj⟩ := List.mem_filterMap.mp h
    split at hj
    · rename_i v hv
      cases hj
      exact ⟨v, hv, rfl⟩
    · cases hj
  · rintro ⟨v, hv, hw⟩
    refine List.mem_filterMap.mpr ⟨i, List.mem_range.mpr (List.getElem?_eq_some_iff.mp hv).1, ?_⟩
    dsimp only at hv hw
    rw [hv, hw]
theorem LR.has {ad : Nat → Nat} {ls : Array Slot} {nL : Nat} {L : List (Option Value)} (h : LR ad ls nL L) : lv_has ls nL (asc ad L) := by
  refine ⟨h.1, h.2.1, fun q hq => ?_⟩
  obtain ⟨v, h1, h2⟩ := asc_mem.mp hq
  rw [h2]
  exact h.2.2 _ _ h1
/-- does a long stand just below? -/
def lg2 (L : List (Option Value)) : Nat → Bool
  | 0 => false
  | i + 1 => match L[i]? with
    | some (some v) => v.category == 2
    | _ => false
theorem LR.set1 {ad : Nat → Nat} {ls' : Array Slot} {nL i : Nat} {L : List (Option Value)} {v : Value} (hg : lg2 L i = false)
    (h : lv_has ls' nL ((i, cv ad v) :: (asc ad L).filter (fun q => !(q.1 == i) && !(q.1 + 1 == i && q.2.category == 2)))) : LR ad ls' nL (L.set i (some v)) := by
  refine ⟨h.1, h.2.1, fun j w hj => ?_⟩
  by_cases hji : j = i
  · subst hji
    by_cases hl : j < L.length
    · rw [List.getElem?_set_self hl] at hj
      cases hj
      exact h.2.2 _ List.mem_cons_self
    · rw [List.getElem?_eq_none (by simp; omega)] at hj
      cases hj
  · rw [List.getElem?_set_ne (Ne.symm hji)] at hj
    refine h.2.2 (j, cv ad w) (List.mem_cons_of_mem _ (List.mem_filter.mpr ⟨asc_mem.mpr ⟨w, hj, rfl⟩, ?_⟩))
    have e1 : (j == i) = false := by simp [hji]
    have e2 : (j + 1 == i && (cv ad w).category == 2) = false := by
      by_cases hj1 : j + 1 = i
      · subst hj1
        simp only [lg2, hj] at hg
        rw [cv_cat]
        simp [hg]
      · simp [hj1]
    simp [e1, e2]
theorem LR.set2 {ad : Nat → Nat} {ls' : Array Slot} {nL i : Nat} {L : List (Option Value)} {v : Value} (hg : lg2 L i = false)
    (h : lv_has ls' nL ((i, cv ad v) :: (asc ad L).filter (fun q => !(q.1 == i) && (!(q.1 == i + 1) && !(q.1 + 1 == i && q.2.category == 2))))) : LR ad ls' nL ((L.set i (some v)).set (i + 1) none) := by
  refine ⟨h.1, h.2.1, fun j w hj => ?_⟩
  by_cases hj1 : j = i + 1
  · subst hj1
    by_cases hl : i + 1 < (L.set i (some v)).length
    · rw [List.getElem?_set_self hl] at hj
      cases hj
    · rw [List.getElem?_eq_none (by simp at hl; simp; omega)] at hj
      cases hj
  · rw [List.getElem?_set_ne (Ne.symm hj1)] at hj
    by_cases hji : j = i
    · subst hji
      by_cases hl : j < L.length
      · rw [List.getElem?_set_self hl] at hj
        cases hj
        exact h.2.2 _ List.mem_cons_self
      · rw [List.getElem?_eq_none (by simp; omega)] at hj
        cases hj
    · rw [List.getElem?_set_ne (Ne.symm hji)] at hj
      refine h.2.2 (j, cv ad w) (List.mem_cons_of_mem _ (List.mem_filter.mpr ⟨asc_mem.mpr ⟨w, hj, rfl⟩, ?_⟩))
      have e1 : (j == i) = false := by simp [hji]
      have e3 : (j == i + 1) = false := by simp [hj1]
      have e2 : (j + 1 == i && (cv ad w).category == 2) = false := by
        by_cases hj2 : j + 1 = i
        · subst hj2
          simp only [lg2, hj] at hg
          rw [cv_cat]
          simp [hg]
        · simp [hj2]
      simp [e1, e2, e3]
/-- fewer locals -/
def msk : List Bool → List (Option Value) → List (Option Value)
  | [], _ => []
  | _, [] => []
  | true :: r, x :: l => x :: msk r l
  | false :: r, _ :: l => none :: msk r l
theorem msk_get : ∀ {bs : List Bool} {L : List (Option Value)} {i : Nat} {v : Value}, (msk bs L)[i]? = some (some v) → L[i]? = some (some v)
  | [], L, i, v, h => by simp [msk] at h
  | b :: r, [], i, v, h => by simp [msk] at h
  | true :: r, x :: l, 0, v, h => by simpa [msk] using h
  | false :: r, x :: l, 0, v, h => by simp [msk] at h
  | true :: r, x :: l, i + 1, v, h => by
    simp only [msk, List.getElem?_cons_succ] at h ⊢
    exact msk_get h
  | false :: r, x :: l, i + 1, v, h => by
    simp only [msk, List.getElem?_cons_succ] at h ⊢
    exact msk_get h
theorem LR.fewer {ad : Nat → Nat} {ls : Array Slot} {nL : Nat} {L : List (Option Value)} (bs : List Bool) (h : LR ad ls nL L) : LR ad ls nL (msk bs L) := ⟨h.1, h.2.1, fun i v hi => h.2.2 i v (msk_get hi)⟩
end
section
/-! what lies in the heap beside the world: links between nest mates, the literals, two statics of the JDK's -/
def nestW : List Cond := [.methodLinkNest RX0 115 yX4_hasBit RX4, .methodLinkNest RX0 109 yX4_leastBit RX4]
def sTab : List (Nat × String × List Int32) := [(65, "goat", [103, 111, 97, 116]), (69, "nanny", [110, 97, 110, 110, 121]), (71, "billy", [98, 105, 108, 108, 121]), (73, "grey", [103, 114, 101, 121]), (75, "old", [111, 108, 100]), (77, "white", [119, 104, 105, 116, 101]), (79, "kid", [107, 105, 100]), (88, "on", [111, 110]), (94, "knows", [107, 110, 111, 119, 115]), (97, "fed", [102, 101, 100]), (46, "grass", [103, 114, 97, 115, 115]), (55, "grows", [103, 114, 111, 119, 115]), (60, "salt", [115, 97, 108, 116])]
def sIdx (i : Nat) : Nat := (sTab.getD i (0, "", [])).1
def sTxt (i : Nat) : String := (sTab.getD i (0, "", [])).2.1
def sLen : List Nat := sTab.map (fun q => q.2.2.length)
def sByt : List (List Int32) := sTab.map (fun q => q.2.2)
def OL (ad : Nat → Nat) (A : Nat → Prop) (U : State) (H : Heap) : Prop :=
  (∀ w ∈ nestW, va_Nw w U) ∧ vk_S 13 sLen sByt (fun i => ad (100 + i)) (fun i => ad (200 + i)) A U H ∧ va_Z RJ0 "COMPACT_STRINGS" "Z" (.int 1) A U H ∧ (va_Z RJ3 "SIOOBE_FORMATTER" "Ljava/util/function/BiFunction;" .null A U H ∨ va_Z RJ3 "SIOOBE_FORMATTER" "Ljava/util/function/BiFunction;" (.ref (ad 300)) A U H) ∧ ∀ i : Nat, i < 13 → vk_R RX1 (sIdx i) (sTxt i) (ad (100 + i)) U
theorem OL.kept {ad : Nat → Nat} {A : Nat → Prop} {U : State} {H H1 : Heap} (h : OL ad A U H) (hq : ∀ a : Nat, a < H.size → ¬ A a → H1[a]? = H[a]?) : OL ad A U H1 :=
  ⟨h.1, vk_S.kept h.2.1 hq, va_Z.kept h.2.2.1 hq, h.2.2.2.1.imp (fun z => va_Z.kept z hq) (fun z => va_Z.kept z hq), h.2.2.2.2⟩
theorem OL.narrow {ad : Nat → Nat} {A B : Nat → Prop} {U : State} {H : Heap} (h : OL ad A U H) (hAB : ∀ q, B q → A q) : OL ad B U H :=
  ⟨h.1, vk_S.narrow h.2.1 hAB, va_Z.narrow h.2.2.1 hAB, h.2.2.2.1.imp (fun z => va_Z.narrow z hAB) (fun z => va_Z.narrow z hAB), h.2.2.2.2⟩
theorem OL.warm {ad : Nat → Nat} {A : Nat → Prop} {s U : State} {H : Heap} (hW : s.WarmedH U.vm) (h : OL ad A s H) : OL ad A U H := by
  refine ⟨fun w hw => ?_, vk_S.moved hW.alike h.2.1, va_Z.moved hW.alike h.2.2.1, h.2.2.2.1.imp (fun z => va_Z.moved hW.alike z) (fun z => va_Z.moved hW.alike z), fun i hi => vk_R.warm hW (h.2.2.2.2 i hi)⟩
  have h1 := h.1 w hw
  simp only [nestW, List.mem_cons, List.not_mem_nil, or_false] at hw
  rcases hw with rfl | rfl
  · exact va_Nw.warmM hW h1
  · exact va_Nw.warmM hW h1
theorem OL.blind {ad : Nat → Nat} {A : Nat → Prop} {U : State} {H : Heap} (g : JFrame) (mk : MethodId) (a : Array Value) (h : OL ad A U H) : OL ad A (U.calling g mk a) H := by
  refine ⟨fun w hw => ?_, vk_S.moved (u := U) (U := U.calling g mk a) (Vm.Alike.refl U.vm) h.2.1, va_Z.moved (u := U) (U := U.calling g mk a) (Vm.Alike.refl U.vm) h.2.2.1, h.2.2.2.1.imp (fun z => va_Z.moved (u := U) (U := U.calling g mk a) (Vm.Alike.refl U.vm) z) (fun z => va_Z.moved (u := U) (U := U.calling g mk a) (Vm.Alike.refl U.vm) z), fun i hi => vk_R.same (u := U) (U := U.calling g mk a) rfl (h.2.2.2.2 i hi)⟩
  have h1 := h.1 w hw
  simp only [nestW, List.mem_cons, List.not_mem_nil, or_false] at hw
  rcases hw with rfl | rfl
  · exact va_Nw.same rfl (u := U) (U := U.calling g mk a) rfl h1
  · exact va_Nw.same rfl (u := U) (U := U.calling g mk a) rfl h1
/-! the walk's picture -/
/-- a method: its decoded rows, its class, the depth of its calls, its locals, its answer's type -/
abbrev Mi : Type := List (Nat × Instr × Nat) × String × Nat × Nat × Option FieldType
def rmd (d : Nat) : Room := { frames := d, cells := 0, slots := 0, locals := 32 * d }
def tyl (cT : Nat → ClassId) : List (ClassId × FieldType) := [(cT 0, .int), (cT 1, .object RX2)]
abbrev Out : Type := Option Value × St
def QO (D : va_G) (cT : Nat → ClassId) (ad : Nat → Nat) (A : Nat → Prop) (out : Out) : Array Value → State → Outcome → State → Prop := fun _ st oc t => oc = .returned (out.1.map (cv ad)) ∧ va_P D vwCl (wl cT ad out.2) t.heap ∧ va_F A st t
def CX (M : Mi) (p : Program) (e : Env) (s : State) (m : MethodId) (args : Array Value) (meth : Method) (c : Code) (D : va_G) (cT : Nat → ClassId) (ad : Nat → Nat) (A : Nat → Prop) : Prop :=
  p.tables.exec = Jvm.exec ∧ (∀ q ∈ M.1, decode c.code q.1 = .ok q.2) ∧ meth.sig.returnType = M.2.2.2.2 ∧ c.maxLocals = M.2.2.2.1 ∧ s.vm.findClass M.2.1 = some m.cls ∧ (∀ w ∈ TB, w.before args s = true) ∧ meth.locks = false ∧ va_K D vwCl (tyl cT) s ∧ (∀ S : St, va_D A (wl cT ad S)) ∧ (∀ q, s.heap.size ≤ q → A q) ∧ OL ad A s s.heap
def PW (M : Mi) (out : Out) (pc : Nat) (L : List (Option Value)) (st : List Value) (S : St) : Prop :=
  ∀ (p : Program) (l : Launch) (e : Env) (s : State) (m : MethodId) (args : Array Value) (below : List Frame) (meth : Method) (c : Code) (D : va_G) (cT : Nat → ClassId) (ad : Nat → Nat) (A : Nat → Prop), CX M p e s m args meth c D cT ad A →
  ∀ (H : Heap) (locs : List Loc) (ls : Array Slot), LR ad ls M.2.2.2.1 L → va_P D vwCl (wl cT ad S) H → va_S A s.heap H locs →
  W p l e (rmd M.2.2.1) s m args below meth c H locs 0 0 (MQ below (QO D cT ad A out) args s 0 0 A) (F0 m pc ls (st.map (cv ad)))
end
section
theorem CX.dec {M : Mi} {p : Program} {e : Env} {s : State} {m : MethodId} {args : Array Value} {meth : Method} {c : Code} {D : va_G} {cT : Nat → ClassId} {ad : Nat → Nat} {A : Nat → Prop} (C : CX M p e s m args meth c D cT ad A) {k pc len : Nat} {i : Instr} (h : M.1[k]? = some (pc, i, len)) : decode c.code pc = .ok (i, len) := by
  have h1 := C.2.1 _ (List.mem_of_getElem? h)
  exact h1
section ROWS
variable {M : Mi} {out : Out} {pc k : Nat} {L : List (Option Value)} {st : List Value} {S : St}
theorem p_iconst {n : Int} (v : Int32) (h : M.1[k]? = some (pc, .iconst n, 1)) (hv : Int32.ofInt n = v) (nx : PW M out (pc + 1) L (.int v :: st) S) : PW M out pc L st S := by
  intro p l e s m args below meth c D cT ad A C H locs ls hL hP hS
  obtain ⟨hx, hT, hr, hml, hown, hts, hlk, hK, hD, hA, hO⟩ := id C
  exact lv_iconst hx rfl (CX.dec C h) hv (nx p l e s m args below meth c D cT ad A C H locs ls hL hP hS)
theorem p_bipush {n : Int} (v : Int32) (h : M.1[k]? = some (pc, .bipush n, 2)) (hv : (Int8.ofInt n).toInt32 = v) (nx : PW M out (pc + 2) L (.int v :: st) S) : PW M out pc L st S := by
  intro p l e s m args below meth c D cT ad A C H locs ls hL hP hS
  obtain ⟨hx, hT, hr, hml, hown, hts, hlk, hK, hD, hA, hO⟩ := id C
  exact lv_bipush hx rfl (CX.dec C h) hv (nx p l e s m args below meth c D cT ad A C H locs ls hL hP hS)
theorem p_sipush {n : Int} (v : Int32) (h : M.1[k]? = some (pc, .sipush n, 3)) (hv : (Int16.ofInt n).toInt32 = v) (nx : PW M out (pc + 3) L (.int v :: st) S) : PW M out pc L st S := by
  intro p l e s m args below meth c D cT ad A C H locs ls hL hP hS
  obtain ⟨hx, hT, hr, hml, hown, hts, hlk, hK, hD, hA, hO⟩ := id C
  exact lv_sipush hx rfl (CX.dec C h) hv (nx p l e s m args below meth c D cT ad A C H locs ls hL hP hS)
theorem p_lconst {n : Fin 2} (v : Int64) (h : M.1[k]? = some (pc, .lconst n, 1)) (hv : Int64.ofNat (n : Nat) = v) (nx : PW M out (pc + 1) L (.long v :: st) S) : PW M out pc L st S := by
  intro p l e s m args below meth c D cT ad A C H locs ls hL hP hS
  obtain ⟨hx, hT, hr, hml, hown, hts, hlk, hK, hD, hA, hO⟩ := id C
  exact lv_lconst hx rfl (CX.dec C h) hv (nx p l e s m args below meth c D cT ad A C H locs ls hL hP hS)
theorem p_ldc {i : Nat} {v : Int32} (h : M.1[k]? = some (pc, .ldc i, 2)) (hc : Cond.constant M.2.1 i v ∈ TB) (nx : PW M out (pc + 2) L (.int v :: st) S) : PW M out pc L st S := by
  intro p l e s m args below meth c D cT ad A C H locs ls hL hP hS
  obtain ⟨hx, hT, hr, hml, hown, hts, hlk, hK, hD, hA, hO⟩ := id C
  exact lv_ldc hx rfl hown (hts _ hc) (CX.dec C h) (nx p l e s m args below meth c D cT ad A C H locs ls hL hP hS)
theorem p_ldcw {i : Nat} {v : Int32} (h : M.1[k]? = some (pc, .ldc_w i, 3)) (hc : Cond.constant M.2.1 i v ∈ TB) (nx : PW M out (pc + 3) L (.int v :: st) S) : PW M out pc L st S := by
  intro p l e s m args below meth c D cT ad A C H locs ls hL hP hS
  obtain ⟨hx, hT, hr, hml, hown, hts, hlk, hK, hD, hA, hO⟩ := id C
  exact lv_ldcw hx rfl hown (hts _ hc) (CX.dec C h) (nx p l e s m args below meth c D cT ad A C H locs ls hL hP hS)
theorem p_ldc2 {i : Nat} {v : Int64} (h : M.1[k]? = some (pc, .ldc2_w i, 3)) (hc : Cond.constantLong M.2.1 i v ∈ TB) (nx : PW M out (pc + 3) L (.long v :: st) S) : PW M out pc L st S := by
  intro p l e s m args below meth c D cT ad A C H locs ls hL hP hS
  obtain ⟨hx, hT, hr, hml, hown, hts, hlk, hK, hD, hA, hO⟩ := id C
  exact lv_ldc2 hx rfl hown (hts _ hc) (CX.dec C h) (nx p l e s m args below meth c D cT ad A C H locs ls hL hP hS)
theorem p_iload_n {n : Fin 4} {i : Nat} {x : Int32} (h : M.1[k]? = some (pc, .iload_n n, 1)) (hi : (n : Nat) = i) (hl : L[i]? = some (some (.int x))) (nx : PW M out (pc + 1) L (.int x :: st) S) : PW M out pc L st S := by
  intro p l e s m args below meth c D cT ad A C H locs ls hL hP hS
  obtain ⟨hx, hT, hr, hml, hown, hts, hlk, hK, hD, hA, hO⟩ := id C
  exact lv_iload_n hx rfl (CX.dec C h) hi (hL.2.2 _ _ hl) (nx p l e s m args below meth c D cT ad A C H locs ls hL hP hS)
theorem p_iload {i : Nat} {x : Int32} (h : M.1[k]? = some (pc, .iload i, 2)) (hl : L[i]? = some (some (.int x))) (nx : PW M out (pc + 2) L (.int x :: st) S) : PW M out pc L st S := by
  intro p l e s m args below meth c D cT ad A C H locs ls hL hP hS
  obtain ⟨hx, hT, hr, hml, hown, hts, hlk, hK, hD, hA, hO⟩ := id C
  exact lv_iload hx rfl (CX.dec C h) (hL.2.2 _ _ hl) (nx p l e s m args below meth c D cT ad A C H locs ls hL hP hS)
theorem p_lload_n {n : Fin 4} {i : Nat} {x : Int64} (h : M.1[k]? = some (pc, .lload_n n, 1)) (hi : (n : Nat) = i) (hl : L[i]? = some (some (.long x))) (nx : PW M out (pc + 1) L (.long x :: st) S) : PW M out pc L st S := by
  intro p l e s m args below meth c D cT ad A C H locs ls hL hP hS
  obtain ⟨hx, hT, hr, hml, hown, hts, hlk, hK, hD, hA, hO⟩ := id C
  exact lv_lload_n hx rfl (CX.dec C h) hi (hL.2.2 _ _ hl) (nx p l e s m args below meth c D cT ad A C H locs ls hL hP hS)
theorem p_lload {i : Nat} {x : Int64} (h : M.1[k]? = some (pc, .lload i, 2)) (hl : L[i]? = some (some (.long x))) (nx : PW M out (pc + 2) L (.long x :: st) S) : PW M out pc L st S := by
  intro p l e s m args below meth c D cT ad A C H locs ls hL hP hS
  obtain ⟨hx, hT, hr, hml, hown, hts, hlk, hK, hD, hA, hO⟩ := id C
  exact lv_lload hx rfl (CX.dec C h) (hL.2.2 _ _ hl) (nx p l e s m args below meth c D cT ad A C H locs ls hL hP hS)
theorem p_aload_n {n : Fin 4} {i : Nat} {x : Nat} (h : M.1[k]? = some (pc, .aload_n n, 1)) (hi : (n : Nat) = i) (hl : L[i]? = some (some (.ref x))) (nx : PW M out (pc + 1) L (.ref x :: st) S) : PW M out pc L st S := by
  intro p l e s m args below meth c D cT ad A C H locs ls hL hP hS
  obtain ⟨hx, hT, hr, hml, hown, hts, hlk, hK, hD, hA, hO⟩ := id C
  exact lv_aload_n hx rfl (CX.dec C h) hi (hL.2.2 _ _ hl) (nx p l e s m args below meth c D cT ad A C H locs ls hL hP hS)
theorem p_aload {i : Nat} {x : Nat} (h : M.1[k]? = some (pc, .aload i, 2)) (hl : L[i]? = some (some (.ref x))) (nx : PW M out (pc + 2) L (.ref x :: st) S) : PW M out pc L st S := by
  intro p l e s m args below meth c D cT ad A C H locs ls hL hP hS
  obtain ⟨hx, hT, hr, hml, hown, hts, hlk, hK, hD, hA, hO⟩ := id C
  exact lv_aload hx rfl (CX.dec C h) (hL.2.2 _ _ hl) (nx p l e s m args below meth c D cT ad A C H locs ls hL hP hS)
theorem p_istore_n {n : Fin 4} (i : Nat) {x : Int32} (L' : List (Option Value)) (h : M.1[k]? = some (pc, .istore_n n, 1)) (hi : (n : Nat) = i) (hg : lg2 L i = false) (hn : i < M.2.2.2.1) (hset : L.set i (some (.int x)) = L') (nx : PW M out (pc + 1) L' st S) : PW M out pc L (.int x :: st) S := by
  intro p l e s m args below meth c D cT ad A C H locs ls hL hP hS
  obtain ⟨hx, hT, hr, hml, hown, hts, hlk, hK, hD, hA, hO⟩ := id C
  exact lv_istore_n hx rfl (CX.dec C h) hi hL.has hn rfl (fun ls2 h2 => nx p l e s m args below meth c D cT ad A C H locs ls2 (hset ▸ LR.set1 (v := .int x) hg h2) hP hS)
theorem p_istore {i : Nat} {x : Int32} (L' : List (Option Value)) (h : M.1[k]? = some (pc, .istore i, 2)) (hg : lg2 L i = false) (hn : i < M.2.2.2.1) (hset : L.set i (some (.int x)) = L') (nx : PW M out (pc + 2) L' st S) : PW M out pc L (.int x :: st) S := by
  intro p l e s m args below meth c D cT ad A C H locs ls hL hP hS
  obtain ⟨hx, hT, hr, hml, hown, hts, hlk, hK, hD, hA, hO⟩ := id C
  exact lv_istore hx rfl (CX.dec C h) hL.has hn rfl (fun ls2 h2 => nx p l e s m args below meth c D cT ad A C H locs ls2 (hset ▸ LR.set1 (v := .int x) hg h2) hP hS)
theorem p_lstore_n {n : Fin 4} (i : Nat) {x : Int64} (L' : List (Option Value)) (h : M.1[k]? = some (pc, .lstore_n n, 1)) (hi : (n : Nat) = i) (hg : lg2 L i = false) (hn : i + 1 < M.2.2.2.1) (hset : (L.set i (some (.long x))).set (i + 1) none = L') (nx : PW M out (pc + 1) L' st S) : PW M out pc L (.long x :: st) S := by
  intro p l e s m args below meth c D cT ad A C H locs ls hL hP hS
  obtain ⟨hx, hT, hr, hml, hown, hts, hlk, hK, hD, hA, hO⟩ := id C
  exact lv_lstore_n hx rfl (CX.dec C h) hi hL.has hn rfl (fun ls2 h2 => nx p l e s m args below meth c D cT ad A C H locs ls2 (hset ▸ LR.set2 (v := .long x) hg h2) hP hS)
theorem p_lstore {i : Nat} {x : Int64} (L' : List (Option Value)) (h : M.1[k]? = some (pc, .lstore i, 2)) (hg : lg2 L i = false) (hn : i + 1 < M.2.2.2.1) (hset : (L.set i (some (.long x))).set (i + 1) none = L') (nx : PW M out (pc + 2) L' st S) : PW M out pc L (.long x :: st) S := by
  intro p l e s m args below meth c D cT ad A C H locs ls hL hP hS
  obtain ⟨hx, hT, hr, hml, hown, hts, hlk, hK, hD, hA, hO⟩ := id C
  exact lv_lstore hx rfl (CX.dec C h) hL.has hn rfl (fun ls2 h2 => nx p l e s m args below meth c D cT ad A C H locs ls2 (hset ▸ LR.set2 (v := .long x) hg h2) hP hS)
theorem p_iinc {i : Nat} {n : Int} {x : Int32} (v : Int32) (L' : List (Option Value)) (h : M.1[k]? = some (pc, .iinc i n, 3)) (hl : L[i]? = some (some (.int x))) (hv : x + Int32.ofInt n = v) (hg : lg2 L i = false) (hn : i < M.2.2.2.1) (hset : L.set i (some (.int v)) = L') (nx : PW M out (pc + 3) L' st S) : PW M out pc L st S := by
  intro p l e s m args below meth c D cT ad A C H locs ls hL hP hS
  obtain ⟨hx, hT, hr, hml, hown, hts, hlk, hK, hD, hA, hO⟩ := id C
  obtain ⟨j, hj⟩ := List.getElem?_of_mem (asc_mem (ad := ad) (q := (i, .int x)).mpr ⟨.int x, hl, rfl⟩)
  exact lv_iinc hx rfl (CX.dec C h) hL.has hj hv hn rfl (fun ls2 h2 => nx p l e s m args below meth c D cT ad A C H locs ls2 (hset ▸ LR.set1 (v := .int v) hg h2) hP hS)
theorem p_iadd {x y : Int32} (h : M.1[k]? = some (pc, .iadd, 1)) (nx : PW M out (pc + 1) L (.int (x + y) :: st) S) : PW M out pc L (.int y :: .int x :: st) S := by
  intro p l e s m args below meth c D cT ad A C H locs ls hL hP hS
  obtain ⟨hx, hT, hr, hml, hown, hts, hlk, hK, hD, hA, hO⟩ := id C
  exact lv_iadd hx rfl (CX.dec C h) (nx p l e s m args below meth c D cT ad A C H locs ls hL hP hS)
theorem p_isub {x y : Int32} (h : M.1[k]? = some (pc, .isub, 1)) (nx : PW M out (pc + 1) L (.int (x - y) :: st) S) : PW M out pc L (.int y :: .int x :: st) S := by
  intro p l e s m args below meth c D cT ad A C H locs ls hL hP hS
  obtain ⟨hx, hT, hr, hml, hown, hts, hlk, hK, hD, hA, hO⟩ := id C
  exact lv_isub hx rfl (CX.dec C h) (nx p l e s m args below meth c D cT ad A C H locs ls hL hP hS)
theorem p_imul {x y : Int32} (h : M.1[k]? = some (pc, .imul, 1)) (nx : PW M out (pc + 1) L (.int (x * y) :: st) S) : PW M out pc L (.int y :: .int x :: st) S := by
  intro p l e s m args below meth c D cT ad A C H locs ls hL hP hS
  obtain ⟨hx, hT, hr, hml, hown, hts, hlk, hK, hD, hA, hO⟩ := id C
  exact lv_imul hx rfl (CX.dec C h) (nx p l e s m args below meth c D cT ad A C H locs ls hL hP hS)
theorem p_iand {x y : Int32} (h : M.1[k]? = some (pc, .iand, 1)) (nx : PW M out (pc + 1) L (.int (x &&& y) :: st) S) : PW M out pc L (.int y :: .int x :: st) S := by
  intro p l e s m args below meth c D cT ad A C H locs ls hL hP hS
  obtain ⟨hx, hT, hr, hml, hown, hts, hlk, hK, hD, hA, hO⟩ := id C
  exact lv_iand hx rfl (CX.dec C h) (nx p l e s m args below meth c D cT ad A C H locs ls hL hP hS)
theorem p_ior {x y : Int32} (h : M.1[k]? = some (pc, .ior, 1)) (nx : PW M out (pc + 1) L (.int (x ||| y) :: st) S) : PW M out pc L (.int y :: .int x :: st) S := by
  intro p l e s m args below meth c D cT ad A C H locs ls hL hP hS
  obtain ⟨hx, hT, hr, hml, hown, hts, hlk, hK, hD, hA, hO⟩ := id C
  exact lv_ior hx rfl (CX.dec C h) (nx p l e s m args below meth c D cT ad A C H locs ls hL hP hS)
theorem p_ixor {x y : Int32} (h : M.1[k]? = some (pc, .ixor, 1)) (nx : PW M out (pc + 1) L (.int (x ^^^ y) :: st) S) : PW M out pc L (.int y :: .int x :: st) S := by
  intro p l e s m args below meth c D cT ad A C H locs ls hL hP hS
  obtain ⟨hx, hT, hr, hml, hown, hts, hlk, hK, hD, hA, hO⟩ := id C
  exact lv_ixor hx rfl (CX.dec C h) (nx p l e s m args below meth c D cT ad A C H locs ls hL hP hS)
theorem p_idiv {x y : Int32} (h : M.1[k]? = some (pc, .idiv, 1)) (hne : ¬ y = 0) (nx : PW M out (pc + 1) L (.int (x / y) :: st) S) : PW M out pc L (.int y :: .int x :: st) S := by
  intro p l e s m args below meth c D cT ad A C H locs ls hL hP hS
  obtain ⟨hx, hT, hr, hml, hown, hts, hlk, hK, hD, hA, hO⟩ := id C
  exact lv_idiv hx rfl (CX.dec C h) hne (nx p l e s m args below meth c D cT ad A C H locs ls hL hP hS)
theorem p_irem {x y : Int32} (h : M.1[k]? = some (pc, .irem, 1)) (hne : ¬ y = 0) (nx : PW M out (pc + 1) L (.int (x - x / y * y) :: st) S) : PW M out pc L (.int y :: .int x :: st) S := by
  intro p l e s m args below meth c D cT ad A C H locs ls hL hP hS
  obtain ⟨hx, hT, hr, hml, hown, hts, hlk, hK, hD, hA, hO⟩ := id C
  exact lv_irem hx rfl (CX.dec C h) hne (nx p l e s m args below meth c D cT ad A C H locs ls hL hP hS)
theorem p_ishl {x y : Int32} (h : M.1[k]? = some (pc, .ishl, 1)) (nx : PW M out (pc + 1) L (.int (x <<< (y &&& 31)) :: st) S) : PW M out pc L (.int y :: .int x :: st) S := by
  intro p l e s m args below meth c D cT ad A C H locs ls hL hP hS
  obtain ⟨hx, hT, hr, hml, hown, hts, hlk, hK, hD, hA, hO⟩ := id C
  exact lv_ishl hx rfl (CX.dec C h) (nx p l e s m args below meth c D cT ad A C H locs ls hL hP hS)
theorem p_ishr {x y : Int32} (h : M.1[k]? = some (pc, .ishr, 1)) (nx : PW M out (pc + 1) L (.int (x >>> (y &&& 31)) :: st) S) : PW M out pc L (.int y :: .int x :: st) S := by
  intro p l e s m args below meth c D cT ad A C H locs ls hL hP hS
  obtain ⟨hx, hT, hr, hml, hown, hts, hlk, hK, hD, hA, hO⟩ := id C
  exact lv_ishr hx rfl (CX.dec C h) (nx p l e s m args below meth c D cT ad A C H locs ls hL hP hS)
theorem p_iushr {x y : Int32} (h : M.1[k]? = some (pc, .iushr, 1)) (nx : PW M out (pc + 1) L (.int (x.toUInt32 >>> (y.toUInt32 &&& Int32.toUInt32 31)).toInt32 :: st) S) : PW M out pc L (.int y :: .int x :: st) S := by
  intro p l e s m args below meth c D cT ad A C H locs ls hL hP hS
  obtain ⟨hx, hT, hr, hml, hown, hts, hlk, hK, hD, hA, hO⟩ := id C
  exact lv_iushr hx rfl (CX.dec C h) rfl (nx p l e s m args below meth c D cT ad A C H locs ls hL hP hS)
theorem p_ineg {x : Int32} (h : M.1[k]? = some (pc, .ineg, 1)) (nx : PW M out (pc + 1) L (.int (-x) :: st) S) : PW M out pc L (.int x :: st) S := by
  intro p l e s m args below meth c D cT ad A C H locs ls hL hP hS
  obtain ⟨hx, hT, hr, hml, hown, hts, hlk, hK, hD, hA, hO⟩ := id C
  exact lv_ineg hx rfl (CX.dec C h) (nx p l e s m args below meth c D cT ad A C H locs ls hL hP hS)
theorem p_lmul {x y : Int64} (h : M.1[k]? = some (pc, .lmul, 1)) (nx : PW M out (pc + 1) L (.long (x * y) :: st) S) : PW M out pc L (.long y :: .long x :: st) S := by
  intro p l e s m args below meth c D cT ad A C H locs ls hL hP hS
  obtain ⟨hx, hT, hr, hml, hown, hts, hlk, hK, hD, hA, hO⟩ := id C
  exact lv_lmul hx rfl (CX.dec C h) (nx p l e s m args below meth c D cT ad A C H locs ls hL hP hS)
theorem p_ldiv {x y : Int64} (h : M.1[k]? = some (pc, .ldiv, 1)) (hne : ¬ y = 0) (nx : PW M out (pc + 1) L (.long (x / y) :: st) S) : PW M out pc L (.long y :: .long x :: st) S := by
  intro p l e s m args below meth c D cT ad A C H locs ls hL hP hS
  obtain ⟨hx, hT, hr, hml, hown, hts, hlk, hK, hD, hA, hO⟩ := id C
  exact lv_ldiv hx rfl (CX.dec C h) hne (nx p l e s m args below meth c D cT ad A C H locs ls hL hP hS)
theorem p_lrem {x y : Int64} (h : M.1[k]? = some (pc, .lrem, 1)) (hne : ¬ y = 0) (nx : PW M out (pc + 1) L (.long (x - x / y * y) :: st) S) : PW M out pc L (.long y :: .long x :: st) S := by
  intro p l e s m args below meth c D cT ad A C H locs ls hL hP hS
  obtain ⟨hx, hT, hr, hml, hown, hts, hlk, hK, hD, hA, hO⟩ := id C
  exact lv_lrem hx rfl (CX.dec C h) hne (nx p l e s m args below meth c D cT ad A C H locs ls hL hP hS)
theorem p_lcmp {x y : Int64} (h : M.1[k]? = some (pc, .lcmp, 1)) (nx : PW M out (pc + 1) L (.int (lg_cmp x y) :: st) S) : PW M out pc L (.long y :: .long x :: st) S := by
  intro p l e s m args below meth c D cT ad A C H locs ls hL hP hS
  obtain ⟨hx, hT, hr, hml, hown, hts, hlk, hK, hD, hA, hO⟩ := id C
  exact W.lcmp hx rfl (CX.dec C h) (nx p l e s m args below meth c D cT ad A C H locs ls hL hP hS)
theorem p_i2l {x : Int32} (h : M.1[k]? = some (pc, .i2l, 1)) (nx : PW M out (pc + 1) L (.long x.toInt64 :: st) S) : PW M out pc L (.int x :: st) S := by
  intro p l e s m args below meth c D cT ad A C H locs ls hL hP hS
  obtain ⟨hx, hT, hr, hml, hown, hts, hlk, hK, hD, hA, hO⟩ := id C
  exact lv_i2l hx rfl (CX.dec C h) rfl (nx p l e s m args below meth c D cT ad A C H locs ls hL hP hS)
theorem p_i2b {x : Int32} (h : M.1[k]? = some (pc, .i2b, 1)) (nx : PW M out (pc + 1) L (.int x.toInt8.toInt32 :: st) S) : PW M out pc L (.int x :: st) S := by
  intro p l e s m args below meth c D cT ad A C H locs ls hL hP hS
  obtain ⟨hx, hT, hr, hml, hown, hts, hlk, hK, hD, hA, hO⟩ := id C
  exact lv_i2b hx rfl (CX.dec C h) rfl (nx p l e s m args below meth c D cT ad A C H locs ls hL hP hS)
theorem p_i2s {x : Int32} (h : M.1[k]? = some (pc, .i2s, 1)) (nx : PW M out (pc + 1) L (.int x.toInt16.toInt32 :: st) S) : PW M out pc L (.int x :: st) S := by
  intro p l e s m args below meth c D cT ad A C H locs ls hL hP hS
  obtain ⟨hx, hT, hr, hml, hown, hts, hlk, hK, hD, hA, hO⟩ := id C
  exact lv_i2s hx rfl (CX.dec C h) rfl (nx p l e s m args below meth c D cT ad A C H locs ls hL hP hS)
theorem p_i2c {x : Int32} (h : M.1[k]? = some (pc, .i2c, 1)) (nx : PW M out (pc + 1) L (.int (x.toUInt32 % 65536).toInt32 :: st) S) : PW M out pc L (.int x :: st) S := by
  intro p l e s m args below meth c D cT ad A C H locs ls hL hP hS
  obtain ⟨hx, hT, hr, hml, hown, hts, hlk, hK, hD, hA, hO⟩ := id C
  exact lv_i2c hx rfl (CX.dec C h) rfl (nx p l e s m args below meth c D cT ad A C H locs ls hL hP hS)
theorem p_dup {v : Value} (h : M.1[k]? = some (pc, .dup, 1)) (hv : v.category = 1) (nx : PW M out (pc + 1) L (v :: v :: st) S) : PW M out pc L (v :: st) S := by
  intro p l e s m args below meth c D cT ad A C H locs ls hL hP hS
  obtain ⟨hx, hT, hr, hml, hown, hts, hlk, hK, hD, hA, hO⟩ := id C
  exact lv_dup hx rfl (CX.dec C h) (by rw [cv_cat]; exact hv) (nx p l e s m args below meth c D cT ad A C H locs ls hL hP hS)
theorem p_pop {v : Value} (h : M.1[k]? = some (pc, .pop, 1)) (hv : v.category = 1) (nx : PW M out (pc + 1) L st S) : PW M out pc L (v :: st) S := by
  intro p l e s m args below meth c D cT ad A C H locs ls hL hP hS
  obtain ⟨hx, hT, hr, hml, hown, hts, hlk, hK, hD, hA, hO⟩ := id C
  exact lv_pop hx rfl (CX.dec C h) (by rw [cv_cat]; exact hv) (nx p l e s m args below meth c D cT ad A C H locs ls hL hP hS)
theorem p_dup2 {v w : Value} (h : M.1[k]? = some (pc, .dup2, 1)) (hv : v.category = 1) (hw : w.category = 1) (nx : PW M out (pc + 1) L (v :: w :: v :: w :: st) S) : PW M out pc L (v :: w :: st) S := by
  intro p l e s m args below meth c D cT ad A C H locs ls hL hP hS
  obtain ⟨hx, hT, hr, hml, hown, hts, hlk, hK, hD, hA, hO⟩ := id C
  exact lv_dup2_11 hx rfl (CX.dec C h) (by rw [cv_cat]; exact hv) (by rw [cv_cat]; exact hw) (nx p l e s m args below meth c D cT ad A C H locs ls hL hP hS)
theorem p_dup_x1 {v w : Value} (h : M.1[k]? = some (pc, .dup_x1, 1)) (hv : v.category = 1) (hw : w.category = 1) (nx : PW M out (pc + 1) L (v :: w :: v :: st) S) : PW M out pc L (v :: w :: st) S := by
  intro p l e s m args below meth c D cT ad A C H locs ls hL hP hS
  obtain ⟨hx, hT, hr, hml, hown, hts, hlk, hK, hD, hA, hO⟩ := id C
  exact lv_dup_x1 hx rfl (CX.dec C h) (by rw [cv_cat]; exact hv) (by rw [cv_cat]; exact hw) (nx p l e s m args below meth c D cT ad A C H locs ls hL hP hS)
theorem p_icmp_eq {x y : Int32} {off : Int} (tgt : Nat) (h : M.1[k]? = some (pc, .if_icmp .eq off, 3)) (ht : (pc : Int) + off = (tgt : Int)) (kt : x = y → PW M out tgt L st S) (kf : ¬ x = y → PW M out (pc + 3) L st S) : PW M out pc L (.int y :: .int x :: st) S := by
  intro p l e s m args below meth c D cT ad A C H locs ls hL hP hS
  obtain ⟨hx, hT, hr, hml, hown, hts, hlk, hK, hD, hA, hO⟩ := id C
  exact lv_icmp_eq hx rfl (CX.dec C h) ht (fun q => kt q p l e s m args below meth c D cT ad A C H locs ls hL hP hS) (fun q => kf q p l e s m args below meth c D cT ad A C H locs ls hL hP hS)
theorem p_if_eq {x : Int32} {off : Int} (tgt : Nat) (h : M.1[k]? = some (pc, .ifCond .eq off, 3)) (ht : (pc : Int) + off = (tgt : Int)) (kt : x = 0 → PW M out tgt L st S) (kf : ¬ x = 0 → PW M out (pc + 3) L st S) : PW M out pc L (.int x :: st) S := by
  intro p l e s m args below meth c D cT ad A C H locs ls hL hP hS
  obtain ⟨hx, hT, hr, hml, hown, hts, hlk, hK, hD, hA, hO⟩ := id C
  exact lv_if_eq hx rfl (CX.dec C h) ht (fun q => kt q p l e s m args below meth c D cT ad A C H locs ls hL hP hS) (fun q => kf q p l e s m args below meth c D cT ad A C H locs ls hL hP hS)
theorem p_icmp_ne {x y : Int32} {off : Int} (tgt : Nat) (h : M.1[k]? = some (pc, .if_icmp .ne off, 3)) (ht : (pc : Int) + off = (tgt : Int)) (kt : ¬ x = y → PW M out tgt L st S) (kf : x = y → PW M out (pc + 3) L st S) : PW M out pc L (.int y :: .int x :: st) S := by
  intro p l e s m args below meth c D cT ad A C H locs ls hL hP hS
  obtain ⟨hx, hT, hr, hml, hown, hts, hlk, hK, hD, hA, hO⟩ := id C
  exact lv_icmp_ne hx rfl (CX.dec C h) ht (fun q => kt q p l e s m args below meth c D cT ad A C H locs ls hL hP hS) (fun q => kf q p l e s m args below meth c D cT ad A C H locs ls hL hP hS)
theorem p_if_ne {x : Int32} {off : Int} (tgt : Nat) (h : M.1[k]? = some (pc, .ifCond .ne off, 3)) (ht : (pc : Int) + off = (tgt : Int)) (kt : ¬ x = 0 → PW M out tgt L st S) (kf : x = 0 → PW M out (pc + 3) L st S) : PW M out pc L (.int x :: st) S := by
  intro p l e s m args below meth c D cT ad A C H locs ls hL hP hS
  obtain ⟨hx, hT, hr, hml, hown, hts, hlk, hK, hD, hA, hO⟩ := id C
  exact lv_if_ne hx rfl (CX.dec C h) ht (fun q => kt q p l e s m args below meth c D cT ad A C H locs ls hL hP hS) (fun q => kf q p l e s m args below meth c D cT ad A C H locs ls hL hP hS)
theorem p_icmp_lt {x y : Int32} {off : Int} (tgt : Nat) (h : M.1[k]? = some (pc, .if_icmp .lt off, 3)) (ht : (pc : Int) + off = (tgt : Int)) (kt : x < y → PW M out tgt L st S) (kf : ¬ x < y → PW M out (pc + 3) L st S) : PW M out pc L (.int y :: .int x :: st) S := by
  intro p l e s m args below meth c D cT ad A C H locs ls hL hP hS
  obtain ⟨hx, hT, hr, hml, hown, hts, hlk, hK, hD, hA, hO⟩ := id C
  exact lv_icmp_lt hx rfl (CX.dec C h) ht (fun q => kt q p l e s m args below meth c D cT ad A C H locs ls hL hP hS) (fun q => kf q p l e s m args below meth c D cT ad A C H locs ls hL hP hS)
theorem p_if_lt {x : Int32} {off : Int} (tgt : Nat) (h : M.1[k]? = some (pc, .ifCond .lt off, 3)) (ht : (pc : Int) + off = (tgt : Int)) (kt : x < 0 → PW M out tgt L st S) (kf : ¬ x < 0 → PW M out (pc + 3) L st S) : PW M out pc L (.int x :: st) S := by
  intro p l e s m args below meth c D cT ad A C H locs ls hL hP hS
  obtain ⟨hx, hT, hr, hml, hown, hts, hlk, hK, hD, hA, hO⟩ := id C
  exact lv_if_lt hx rfl (CX.dec C h) ht (fun q => kt q p l e s m args below meth c D cT ad A C H locs ls hL hP hS) (fun q => kf q p l e s m args below meth c D cT ad A C H locs ls hL hP hS)
theorem p_icmp_ge {x y : Int32} {off : Int} (tgt : Nat) (h : M.1[k]? = some (pc, .if_icmp .ge off, 3)) (ht : (pc : Int) + off = (tgt : Int)) (kt : y ≤ x → PW M out tgt L st S) (kf : ¬ y ≤ x → PW M out (pc + 3) L st S) : PW M out pc L (.int y :: .int x :: st) S := by
  intro p l e s m args below meth c D cT ad A C H locs ls hL hP hS
  obtain ⟨hx, hT, hr, hml, hown, hts, hlk, hK, hD, hA, hO⟩ := id C
  exact lv_icmp_ge hx rfl (CX.dec C h) ht (fun q => kt q p l e s m args below meth c D cT ad A C H locs ls hL hP hS) (fun q => kf q p l e s m args below meth c D cT ad A C H locs ls hL hP hS)
theorem p_if_ge {x : Int32} {off : Int} (tgt : Nat) (h : M.1[k]? = some (pc, .ifCond .ge off, 3)) (ht : (pc : Int) + off = (tgt : Int)) (kt : 0 ≤ x → PW M out tgt L st S) (kf : ¬ 0 ≤ x → PW M out (pc + 3) L st S) : PW M out pc L (.int x :: st) S := by
  intro p l e s m args below meth c D cT ad A C H locs ls hL hP hS
  obtain ⟨hx, hT, hr, hml, hown, hts, hlk, hK, hD, hA, hO⟩ := id C
  exact lv_if_ge hx rfl (CX.dec C h) ht (fun q => kt q p l e s m args below meth c D cT ad A C H locs ls hL hP hS) (fun q => kf q p l e s m args below meth c D cT ad A C H locs ls hL hP hS)
theorem p_icmp_gt {x y : Int32} {off : Int} (tgt : Nat) (h : M.1[k]? = some (pc, .if_icmp .gt off, 3)) (ht : (pc : Int) + off = (tgt : Int)) (kt : y < x → PW M out tgt L st S) (kf : ¬ y < x → PW M out (pc + 3) L st S) : PW M out pc L (.int y :: .int x :: st) S := by
  intro p l e s m args below meth c D cT ad A C H locs ls hL hP hS
  obtain ⟨hx, hT, hr, hml, hown, hts, hlk, hK, hD, hA, hO⟩ := id C
  exact lv_icmp_gt hx rfl (CX.dec C h) ht (fun q => kt q p l e s m args below meth c D cT ad A C H locs ls hL hP hS) (fun q => kf q p l e s m args below meth c D cT ad A C H locs ls hL hP hS)
theorem p_if_gt {x : Int32} {off : Int} (tgt : Nat) (h : M.1[k]? = some (pc, .ifCond .gt off, 3)) (ht : (pc : Int) + off = (tgt : Int)) (kt : 0 < x → PW M out tgt L st S) (kf : ¬ 0 < x → PW M out (pc + 3) L st S) : PW M out pc L (.int x :: st) S := by
  intro p l e s m args below meth c D cT ad A C H locs ls hL hP hS
  obtain ⟨hx, hT, hr, hml, hown, hts, hlk, hK, hD, hA, hO⟩ := id C
  exact lv_if_gt hx rfl (CX.dec C h) ht (fun q => kt q p l e s m args below meth c D cT ad A C H locs ls hL hP hS) (fun q => kf q p l e s m args below meth c D cT ad A C H locs ls hL hP hS)
theorem p_icmp_le {x y : Int32} {off : Int} (tgt : Nat) (h : M.1[k]? = some (pc, .if_icmp .le off, 3)) (ht : (pc : Int) + off = (tgt : Int)) (kt : x ≤ y → PW M out tgt L st S) (kf : ¬ x ≤ y → PW M out (pc + 3) L st S) : PW M out pc L (.int y :: .int x :: st) S := by
  intro p l e s m args below meth c D cT ad A C H locs ls hL hP hS
  obtain ⟨hx, hT, hr, hml, hown, hts, hlk, hK, hD, hA, hO⟩ := id C
  exact lv_icmp_le hx rfl (CX.dec C h) ht (fun q => kt q p l e s m args below meth c D cT ad A C H locs ls hL hP hS) (fun q => kf q p l e s m args below meth c D cT ad A C H locs ls hL hP hS)
theorem p_if_le {x : Int32} {off : Int} (tgt : Nat) (h : M.1[k]? = some (pc, .ifCond .le off, 3)) (ht : (pc : Int) + off = (tgt : Int)) (kt : x ≤ 0 → PW M out tgt L st S) (kf : ¬ x ≤ 0 → PW M out (pc + 3) L st S) : PW M out pc L (.int x :: st) S := by
  intro p l e s m args below meth c D cT ad A C H locs ls hL hP hS
  obtain ⟨hx, hT, hr, hml, hown, hts, hlk, hK, hD, hA, hO⟩ := id C
  exact lv_if_le hx rfl (CX.dec C h) ht (fun q => kt q p l e s m args below meth c D cT ad A C H locs ls hL hP hS) (fun q => kf q p l e s m args below meth c D cT ad A C H locs ls hL hP hS)
theorem p_goto {off : Int} (tgt : Nat) (h : M.1[k]? = some (pc, .goto off, 3)) (ht : (pc : Int) + off = (tgt : Int)) (nx : PW M out tgt L st S) : PW M out pc L st S := by
  intro p l e s m args below meth c D cT ad A C H locs ls hL hP hS
  obtain ⟨hx, hT, hr, hml, hown, hts, hlk, hK, hD, hA, hO⟩ := id C
  exact lv_goto hx rfl (CX.dec C h) ht (nx p l e s m args below meth c D cT ad A C H locs ls hL hP hS)
theorem p_lookup {dflt : Int} {ps : Array (Int × Int)} {len : Nat} {x : Int32} {off : Int} (tgt : Nat) (h : M.1[k]? = some (pc, .lookupswitch dflt ps, len)) (hp : (ps.toList.zip (ps.toList.drop 1)).all (fun (a, next) => a.1 < next.1) = true) (ho : Op.lookupswitch.offset ps.toList dflt x.toInt = off) (ht : (pc : Int) + off = (tgt : Int)) (nx : PW M out tgt L st S) : PW M out pc L (.int x :: st) S := by
  intro p l e s m args below meth c D cT ad A C H locs ls hL hP hS
  obtain ⟨hx, hT, hr, hml, hown, hts, hlk, hK, hD, hA, hO⟩ := id C
  exact lv_lookup hx rfl (CX.dec C h) hp ho ht (nx p l e s m args below meth c D cT ad A C H locs ls hL hP hS)
theorem p_tableOut {dflt lo hi : Int} {offs : Array Int} {len : Nat} {x : Int32} (tgt : Nat) (h : M.1[k]? = some (pc, .tableswitch dflt lo hi offs, len)) (hz : x.toInt < lo ∨ hi < x.toInt) (ht : (pc : Int) + dflt = (tgt : Int)) (nx : PW M out tgt L st S) : PW M out pc L (.int x :: st) S := by
  intro p l e s m args below meth c D cT ad A C H locs ls hL hP hS
  obtain ⟨hx, hT, hr, hml, hown, hts, hlk, hK, hD, hA, hO⟩ := id C
  exact lv_tableOut hx rfl (CX.dec C h) hz ht (nx p l e s m args below meth c D cT ad A C H locs ls hL hP hS)
theorem p_tableIn {dflt lo hi : Int} {offs : Array Int} {len : Nat} {x : Int32} {off : Int} (tgt : Nat) (h : M.1[k]? = some (pc, .tableswitch dflt lo hi offs, len)) (h1 : ¬ x.toInt < lo) (h2 : ¬ hi < x.toInt) (ho : offs[(x.toInt - lo).toNat]? = some off) (ht : (pc : Int) + off = (tgt : Int)) (nx : PW M out tgt L st S) : PW M out pc L (.int x :: st) S := by
  intro p l e s m args below meth c D cT ad A C H locs ls hL hP hS
  obtain ⟨hx, hT, hr, hml, hown, hts, hlk, hK, hD, hA, hO⟩ := id C
  exact lv_tableIn hx rfl (CX.dec C h) h1 h2 ho ht (nx p l e s m args below meth c D cT ad A C H locs ls hL hP hS)
/-- a field's link: class ci's field j, linked at idx of 'own' -/
def FL (own : String) (idx ci j : Nat) : Prop := ∃ (C : String) (T : u_T) (N : Nat), vwCl[ci]? = some (C, T, N) ∧ j < N ∧ Cond.fieldLink own idx (T j).1 (T j).2.1 (T j).2.2.1 ∈ TB ∧ ∀ w ∈ u_ws C T N, w ∈ TB
/-- what a store into class ci's field j needs more -/
def FP (ci j : Nat) (ty : FieldType) : Prop := ∃ (C : String) (T : u_T) (N : Nat) (ty0 : Nat → FieldType), vwCl[ci]? = some (C, T, N) ∧ (∀ k, k < N → parseFieldDescriptor (T k).2.2.1 = some (ty0 k)) ∧ (∀ a, a < N → ∀ b, b < N → a ≠ b → (T a).2.1 ≠ (T b).2.1) ∧ (T j).2.2.2 = false ∧ parseFieldDescriptor (T j).2.2.1 = some ty
theorem p_getr {idx ci j q q2 : Nat} {fs : List (Option Nat)} (h : M.1[k]? = some (pc, .getfield idx, 3)) (hl : lay[q]? = some (.inr (.inl (ci, fs)))) (hf : fs[j]? = some (some q2)) (hF : FL M.2.1 idx ci j) (nx : PW M out (pc + 3) L (.ref q2 :: st) S) : PW M out pc L (.ref q :: st) S := by
  intro p l e s m args below meth c D cT ad A C H locs ls hL hP hS
  obtain ⟨hx, hT, hr, hml, hown, hts, hlk, hK, hD, hA, hO⟩ := id C
  obtain ⟨C0, T, N, hc, hj, hlink, hin⟩ := hF
  refine va_get (D := D) (cl := vwCl) (ci := ci) (v := .ref (ad q2)) (C := C0) (T := T) (N := N) hx rfl hts hin hown hK hP q (wl_get hl) hc j hj (hts _ hlink) (fun _ h9 => h9) ?_ (CX.dec C h) (nx p l e s m args below meth c D cT ad A C H locs ls hL hP hS)
  exact fV_get hf
theorem p_geti {idx ci j q : Nat} {fs : List (Option Nat)} (h : M.1[k]? = some (pc, .getfield idx, 3)) (hl : lay[q]? = some (.inr (.inl (ci, fs)))) (hf : fs[j]? = some none) (hF : FL M.2.1 idx ci j) (nx : PW M out (pc + 3) L (.int (S q j) :: st) S) : PW M out pc L (.ref q :: st) S := by
  intro p l e s m args below meth c D cT ad A C H locs ls hL hP hS
  obtain ⟨hx, hT, hr, hml, hown, hts, hlk, hK, hD, hA, hO⟩ := id C
  obtain ⟨C0, T, N, hc, hj, hlink, hin⟩ := hF
  refine va_get (D := D) (cl := vwCl) (ci := ci) (v := .int (S q j)) (C := C0) (T := T) (N := N) hx rfl hts hin hown hK hP q (wl_get hl) hc j hj (hts _ hlink) (fun _ h9 => h9) ?_ (CX.dec C h) (nx p l e s m args below meth c D cT ad A C H locs ls hL hP hS)
  have := fV_get (ad := ad) (f := S q) (k := 0) hf
  rw [Nat.zero_add] at this
  exact this
theorem p_puti {idx ci j q : Nat} {fs : List (Option Nat)} {v : Int32} {ty : FieldType} (h : M.1[k]? = some (pc, .putfield idx, 3)) (hl : lay[q]? = some (.inr (.inl (ci, fs)))) (hf : fs[j]? = some none) (hF : FL M.2.1 idx ci j) (hG : FP ci j ty) (hn : narrow ty (.int v) = .int v) (hfit : fits ty (.int v) = true) (nx : PW M out (pc + 3) L st (up2 S q j v)) : PW M out pc L (.int v :: .ref q :: st) S := by
  intro p l e0 s m args below meth c D cT ad A C H locs ls hL hP hS
  obtain ⟨hx, hT, hr, hml, hown, hts, hlk, hK, hD, hA, hO⟩ := id C
  obtain ⟨C0, T, N, hc, hj, hlink, hin⟩ := hF
  obtain ⟨C1, T1, N1, ty0, hc1, hty, hnm, hfin, hty1⟩ := hG
  cases hc.symm.trans hc1
  refine va_put (D := D) (cl := vwCl) (ci := ci) (v := .int v) (ty := ty) (C := C0) (T := T) (N := N) hx rfl hts hin ty0 hty hnm hown hK hP (hD S) hS q (wl_get hl) hc j hj (hts _ hlink) (fun _ h9 => h9) hfin hty1 hn hfit ?_ (CX.dec C h) (fun H1 locs1 hP1 hD1 hS1 => ?_)
  · rw [fV_len]
    exact (List.getElem?_eq_some_iff.mp hf).1
  · have e : (wl cT ad S).set q (ad q, .inr (ci, (fV ad (S q) fs 0).set j (.int v))) = wl cT ad (up2 S q j v) := by
      have h2 := fV_set (ad := ad) (f := S q) (v := v) (k := 0) hf
      rw [Nat.zero_add] at h2
      rw [h2]
      exact wl_set (f := upd (S q) j v) hl
    have hP2 : va_P D vwCl ((wl cT ad S).set q (ad q, .inr (ci, (fV ad (S q) fs 0).set j (.int v)))) H1 := hP1
    rw [e] at hP2
    exact nx p l e0 s m args below meth c D cT ad A C H1 locs1 ls hL hP2 hS1
theorem p_iald {q n : Nat} {i : Int32} (h : M.1[k]? = some (pc, .iaload, 1)) (hl : lay[q]? = some (.inl n)) (hin : vp_in i n) (nx : PW M out (pc + 1) L (.int (S q i.toNatClampNeg) :: st) S) : PW M out pc L (.int i :: .ref q :: st) S := by
  intro p l e s m args below meth c D cT ad A C H locs ls hL hP hS
  obtain ⟨hx, hT, hr, hml, hown, hts, hlk, hK, hD, hA, hO⟩ := id C
  exact va_iald hx rfl hK hP q 0 (f := S q) (wl_get hl) rfl hin (CX.dec C h) (nx p l e s m args below meth c D cT ad A C H locs ls hL hP hS)
theorem p_iast {q n : Nat} {i x : Int32} (h : M.1[k]? = some (pc, .iastore, 1)) (hl : lay[q]? = some (.inl n)) (hin : vp_in i n) (nx : PW M out (pc + 1) L st (up2 S q i.toNatClampNeg x)) : PW M out pc L (.int x :: .int i :: .ref q :: st) S := by
  intro p l e0 s m args below meth c D cT ad A C H locs ls hL hP hS
  obtain ⟨hx, hT, hr, hml, hown, hts, hlk, hK, hD, hA, hO⟩ := id C
  refine va_iast hx rfl hK hP (hD S) hS q 0 (f := S q) (wl_get hl) rfl hin (CX.dec C h) (fun H1 locs1 hP1 hD1 hS1 => ?_)
  have e : (wl cT ad S).set q (ad q, .inl (cT 0, n, .inl (upd (S q) i.toNatClampNeg x))) = wl cT ad (up2 S q i.toNatClampNeg x) := wl_set (f := upd (S q) i.toNatClampNeg x) hl
  rw [e] at hP1
  exact nx p l e0 s m args below meth c D cT ad A C H1 locs1 ls hL hP1 hS1
theorem p_aald {q : Nat} {g : Nat → Nat} {i : Int32} (h : M.1[k]? = some (pc, .aaload, 1)) (hl : lay[q]? = some (.inr (.inr g))) (hin : vp_in i 4) (nx : PW M out (pc + 1) L (.ref (g i.toNatClampNeg) :: st) S) : PW M out pc L (.int i :: .ref q :: st) S := by
  intro p l e s m args below meth c D cT ad A C H locs ls hL hP hS
  obtain ⟨hx, hT, hr, hml, hown, hts, hlk, hK, hD, hA, hO⟩ := id C
  exact va_aldq hx rfl hK hP q 1 (wl_get hl) rfl hin (CX.dec C h) (nx p l e s m args below meth c D cT ad A C H locs ls hL hP hS)
theorem p_iret {v : Int32} {ty : FieldType} (h : M.1[k]? = some (pc, .ireturn, 1)) (hty : M.2.2.2.2 = some ty) (hn : narrow ty (.int v) = .int v) : PW M (some (.int v), S) pc L [.int v] S := by
  intro p l e s m args below meth c D cT ad A C H locs ls hL hP hS
  obtain ⟨hx, hT, hr, hml, hown, hts, hlk, hK, hD, hA, hO⟩ := id C
  exact W.zret hx rfl (hr.trans hty) hn (fun t ht hW => ⟨rfl, by rw [ht]; exact hP, hS.F ht⟩) hS.2.2 (CX.dec C h) hlk
theorem p_lret {v : Int64} (h : M.1[k]? = some (pc, .lreturn, 1)) (hty : M.2.2.2.2 = some .long) : PW M (some (.long v), S) pc L [.long v] S := by
  intro p l e s m args below meth c D cT ad A C H locs ls hL hP hS
  obtain ⟨hx, hT, hr, hml, hown, hts, hlk, hK, hD, hA, hO⟩ := id C
  exact W.lret hx rfl (hr.trans hty) (fun t ht hW => ⟨rfl, by rw [ht]; exact hP, hS.F ht⟩) hS.2.2 (CX.dec C h) hlk
theorem p_vret  (h : M.1[k]? = some (pc, .return_, 1)) (hty : M.2.2.2.2 = none) : PW M (none, S) pc L [] S := by
  intro p l e s m args below meth c D cT ad A C H locs ls hL hP hS
  obtain ⟨hx, hT, hr, hml, hown, hts, hlk, hK, hD, hA, hO⟩ := id C
  exact W.vret hx rfl (hr.trans hty) (fun t ht hW => ⟨rfl, by rw [ht]; exact hP, hS.F ht⟩) hS.2.2 (CX.dec C h) hlk
theorem p_msk (bs : List Bool) {L2 : List (Option Value)} (e : msk bs L = L2) (nx : PW M out pc L2 st S) : PW M out pc L st S := by
  subst e
  intro p l e s m args below meth c D cT ad A C H locs ls hL hP hS
  exact nx p l e s m args below meth c D cT ad A C H locs ls (hL.fewer bs) hP hS
end ROWS
end
section
/-! A method's contract over the whole layout: called with these arguments at this state it comes back with this outcome. -/
abbrev Mi.nL (M : Mi) : Nat := M.2.2.2.1
abbrev Mi.dep (M : Mi) : Nat := M.2.2.1
abbrev Mi.own (M : Mi) : String := M.2.1
abbrev Mi.ty (M : Mi) : Option FieldType := M.2.2.2.2
def WD (D : va_G) (cT : Nat → ClassId) (ad : Nat → Nat) (sz : Nat) (S : St) (U : State) : Prop := U.heap.size = sz ∧ va_P D vwCl (wl cT ad S) U.heap ∧ va_K D vwCl (tyl cT) U ∧ va_D (fun _ => True) (wl cT ad S) ∧ OL ad (va_A (wl cT ad S) sz) U U.heap
def MR (y : MethodName) (cc : ByteArray) (M : Mi) (args : List Value) (S : St) (out : Out) : Prop :=
  ∀ (l : Launch) (D : va_G) (cT : Nat → ClassId) (ad : Nat → Nat) (sz : Nat), Met l y (Cond.code y cc M.nL M.ty :: TB) (rmd M.dep) (va_Pc (args.map (cv ad)) (WD D cT ad sz S)) (QO D cT ad (va_A (wl cT ad S) sz) out) 0 0 (va_A (wl cT ad S) sz)
/-- the locals at the entry -/
def entL : List Value → List (Option Value)
  | [] => []
  | v :: r => if v.category = 2 then some v :: none :: entL r else some v :: entL r
theorem entL_len : ∀ (as : List Value), (lg_sl as).length = (entL as).length
  | [] => rfl
  | v :: r => by
    have ih := entL_len r
    simp only [lg_sl] at ih
    simp only [lg_sl, entL, List.flatMap_cons, List.length_append]
    by_cases h : v.category = 2
    · rw [if_pos h, if_pos h]
      simp only [List.length_cons, List.length_nil]
      omega
    · rw [if_neg h, if_neg h]
      simp only [List.length_cons, List.length_nil]
      omega
theorem lg_cv (ad : Nat → Nat) (as : List Value) : (lg_sl (as.map (cv ad))).length = (lg_sl as).length := by
  rw [entL_len, entL_len]
  induction as with
  | nil => rfl
  | cons v r ih =>
    simp only [List.map_cons, entL, cv_cat]
    by_cases h : v.category = 2
    · rw [if_pos h, if_pos h]; simp only [List.length_cons]; omega
    · rw [if_neg h, if_neg h]; simp only [List.length_cons]; omega
theorem entL_in (ad : Nat → Nat) : ∀ (as : List Value) (n k i : Nat) (v : Value), (entL as ++ List.replicate n none)[i]? = some (some v) → (k + i, cv ad v) ∈ lv_args k (as.map (cv ad))
  | [], n, k, i, v, h => by
    simp only [entL, List.nil_append] at h
    have h2 := List.mem_of_getElem? h
    have h3 := (List.mem_replicate.mp h2).2
    cases h3
  | a :: r, n, k, i, v, h => by
    simp only [entL] at h
    simp only [List.map_cons, lv_args, cv_cat]
    by_cases hc : a.category = 2
    · rw [if_pos hc] at h
      rw [if_pos hc]
      match i, h with
      | 0, h =>
        simp at h
        rw [h]
        exact List.mem_cons_self
      | 1, h => simp at h
      | i + 2, h =>
        simp only [List.cons_append, List.getElem?_cons_succ] at h
        have := entL_in ad r n (k + 2) i v h
        rw [show k + 2 + i = k + (i + 2) by omega] at this
        exact List.mem_cons_of_mem _ this
    · rw [if_neg hc] at h
      rw [if_neg hc]
      match i, h with
      | 0, h =>
        simp at h
        rw [h]
        exact List.mem_cons_self
      | i + 1, h =>
        simp only [List.cons_append, List.getElem?_cons_succ] at h
        have := entL_in ad r n (k + 1) i v h
        rw [show k + 1 + i = k + (i + 1) by omega] at this
        exact List.mem_cons_of_mem _ this
/-- what a program decides of a method -/
def MOK (y : MethodName) (cc : ByteArray) (M : Mi) : Prop := plainName y.cls = true ∧ y.cls = M.own ∧ ∀ q ∈ M.1, decode cc q.1 = .ok q.2
theorem MR.of {y : MethodName} {cc : ByteArray} {M : Mi} {as : List Value} {S : St} {out : Out} {n : Nat} {L : List (Option Value)} (ok : MOK y cc M) (hL : entL as ++ List.replicate n none = L) (hn : L.length = M.nL) (h : PW M out 0 L [] S) : MR y cc M as S out := by
  obtain ⟨hy, hcls, hT⟩ := ok
  intro l D cT ad sz
  refine Met.ofW (cc := cc) (maxL := M.nL) (ret := M.ty) hy rfl ?_
  intro p e s m args below meth c s₁ B hml hv
  obtain ⟨rfl, hsz, hP, hK, hD0, hO⟩ := hv
  have hb := B.bytes
  have hts := atoms_spec (ws := Cond.code y cc M.nL M.ty :: TB) B.pre
  have hown : s.vm.findClass y.cls = some m.cls := findClass_of_methodNamed B.named
  rw [hcls] at hown
  subst hsz
  have hlen : (lg_sl (as.map (cv ad))).length ≤ M.nL := by
    rw [lg_cv, entL_len, ← hn, ← hL, List.length_append]
    omega
  have hl := lv_entry (as.map (cv ad)) (n := M.nL) hlen
  rw [lg_entry_eq]
  have hLR : LR ad ((lg_sl (as.map (cv ad)) ++ List.replicate (M.nL - (lg_sl (as.map (cv ad))).length) Slot.unset).toArray) M.nL L := by
    refine ⟨hl.1, hl.2.1, fun i v hi => ?_⟩
    rw [← hL] at hi
    have h1 := entL_in ad as n 0 i v hi
    rw [Nat.zero_add] at h1
    exact hl.2.2 _ h1
  have hC : CX M p e s m (as.map (cv ad)).toArray meth c D cT ad (va_A (wl cT ad S) s.heap.size) :=
    ⟨B.exec, by rw [hb]; exact hT, B.returns, hml, hown, fun w hw => hts w (List.mem_cons_of_mem _ hw), B.notSynchronized, hK, fun S' => (wl_D S' hD0).self.weaken (fun _ _ _ q => wl_A S (Nat.le_refl _) q), fun q hq => Or.inr hq, hO⟩
  exact h p l e s m _ below meth c D cT ad _ hC s.heap [] _ hLR hP va_S.rf
section CALLS
variable {M : Mi} {out : Out} {pc k : Nat} {L : List (Option Value)} {st : List Value} {S : St}
theorem W_call {p : Program} {l : Launch} {e : Env} {R : Room} {s : State} {m : MethodId} {args : Array Value} {below : List Frame} {meth : Method} {c : Code} {H : Heap} {locs : List Loc} {Q : State → Prop} {ls : Array Slot} {rest st0 : List Value} {a : Array Value} {A A1 : Nat → Prop} {D : va_G} {cT : Nat → ClassId} {ad : Nat → Nat} {out2 : Out}
    (hr : va_Run p l e R s m args below meth c H locs 0 0 0 0 (F0 m pc ls st0) rest (QO D cT ad A1 out2 a) A1) (hS : va_S A s.heap H locs) (hA : ∀ q, A1 q → A q)
    (kk : ∀ (H1 : Heap) (locs1 : List Loc), va_P D vwCl (wl cT ad out2.2) H1 → va_S A s.heap H1 locs1 → W p l e R s m args below meth c H1 locs1 0 0 Q (F0 m (pc + 3) ls ((out2.1.map (cv ad)).toList ++ rest))) : W p l e R s m args below meth c H locs 0 0 Q (F0 m pc ls st0) := by
  intro T hT X
  obtain ⟨v, st₀, t, T', L, h0, X', hL, e1, e2, ⟨hv, hP, hz, hk⟩, st⟩ := hr T hT X
  cases hv
  rw [h0] at hz hk
  obtain ⟨t2, a1, b1⟩ := kk T'.heap (locs ++ L) (by rw [e1]; exact hP)
    ⟨Nat.le_trans hS.1 (by rw [e1]; exact hz), fun q h1 h2 => by rw [e1, hk q (Nat.lt_of_lt_of_le h1 hS.1) (fun z => h2 (hA q z))]; exact hS.2.1 q h1 h2, fun q hq => by
      rcases List.mem_append.mp hq with h | h
      · exact hS.2.2 q h
      · exact hA _ (hL q h)⟩ T' rfl X'
  exact ⟨t2, st t2 a1, b1⟩
theorem WD_of {p : Program} {e : Env} {s : State} {m : MethodId} {args : Array Value} {meth : Method} {c : Code} {D : va_G} {cT : Nat → ClassId} {ad : Nat → Nat} {A : Nat → Prop} (C : CX M p e s m args meth c D cT ad A) {H : Heap} {locs : List Loc} (hP : va_P D vwCl (wl cT ad S) H) (hS : va_S A s.heap H locs) :
    (∀ q, va_A (wl cT ad S) H.size q → A q) ∧ ∀ U : State, U.heap = H → s.WarmedH U.vm → WD D cT ad H.size S U := by
  obtain ⟨hx, hT, hr, hml, hown, hts, hlk, hK, hD, hA, hO⟩ := id C
  have hF : ∀ q, va_A (wl cT ad S) H.size q → A q := by
    intro q h
    rcases h with ⟨k, e, h⟩ | h
    · exact (hD S).2 k _ h
    · exact hA q (Nat.le_trans hS.1 h)
  refine ⟨hF, fun U hU hW => ⟨by rw [hU], by rw [hU]; exact hP, va_K.moved hW.alike hK, (hD S).weaken (fun _ _ _ _ => trivial), ?_⟩⟩
  rw [hU]
  exact ((hO.kept (H1 := H) hS.2.1).warm hW).narrow hF
theorem WD.blind {as : List Value} {D : va_G} {cT : Nat → ClassId} {ad : Nat → Nat} {sz : Nat} : FrameBlind (va_Pc (as.map (cv ad)) (WD D cT ad sz S)) := by
  intro a U g mk q
  obtain ⟨q0, q1, qP, qK, qD, qO⟩ := q
  exact ⟨q0, q1, qP, va_K.moved (u := U) (U := U.calling g mk a) (Vm.Alike.refl U.vm) qK, qD, qO.blind g mk a⟩
/-- what the tables say of a callee: its code, its class, how many it takes -/
def LC (y : MethodName) (cc : ByteArray) (M2 : Mi) (n : Nat) : Prop := Cond.initialized y.cls ∈ TB ∧ Cond.code y cc M2.nL M2.ty ∈ TB ∧ (y.cls ≠ "java/lang/invoke/MethodHandle" ∧ y.cls ≠ "java/lang/invoke/VarHandle" ∧ (parseMethodDescriptor y.desc).map (fun d => d.parameters.length) = some n)
theorem rm_ok {M2 : Mi} (hd : M2.dep < M.dep) (hnl : M2.nL ≤ 13) : (rmd M2.dep).frames + 1 ≤ (rmd M.dep).frames ∧ 8 + (M2.nL + 11) + (rmd M2.dep).locals ≤ (rmd M.dep).locals := by
  show M2.dep + 1 ≤ M.dep ∧ 8 + (M2.nL + 11) + 32 * M2.dep ≤ 32 * M.dep
  omega
theorem p_callS {idx : Nat} {y : MethodName} {cc : ByteArray} {M2 : Mi} {out2 : Out} (As rest : List Value) (h : M.1[k]? = some (pc, .invokestatic idx, 3)) (hM : MR y cc M2 As S out2) (hlc : LC y cc M2 As.length) (hl1 : Cond.methodLink M.own idx y ∈ TB) (hl2 : Cond.static y ∈ TB) (hd : M2.dep < M.dep) (hnl : M2.nL ≤ 13) (hw : (rest.map fun v => v.category).sum ≤ 8) (hst : As.reverse ++ rest = st) (nx : PW M out (pc + 3) L (out2.1.toList ++ rest) out2.2) : PW M out pc L st S := by
  subst hst
  intro p l e s m args below meth c D cT ad A C H locs ls hL hP hS
  obtain ⟨hx, hT, hr, hml, hown, hts, hlk, hK, hD, hA, hO⟩ := id C
  obtain ⟨hF, hWD⟩ := WD_of C hP hS
  have hG : GoodIn TB (va_wsS M.own idx y (Cond.code y cc M2.nL M2.ty :: TB)) := by
    intro w hw
    rcases List.mem_append.mp hw with hw | hw
    · simp only [List.mem_cons, List.not_mem_nil, or_false] at hw
      rcases hw with rfl | rfl | rfl
      · exact ⟨hl1, good_of_word (tb_gd hl1)⟩
      · exact ⟨hl2, good_of_word (tb_gd hl2)⟩
      · exact ⟨hlc.1, good_of_word (tb_gd hlc.1)⟩
    · exact tb_goodIn hlc.2.1 w hw
  have hrw : ((rest.map (cv ad)).map fun v => v.category).sum ≤ 8 := by
    rw [List.map_map]
    rw [show ((fun v : Value => v.category) ∘ cv ad) = (fun v : Value => v.category) from funext (fun v => cv_cat ad v)]
    exact hw
  have hrun := va_runS (p := p) (l := l) (e := e) (R := rmd M.dep) (s := s) (m := m) (args := args) (below := below) (meth := meth) (c := c) (H := H) (locs := locs) (cells := 0) (slots := 0) (As := As.map (cv ad)) (rest := rest.map (cv ad)) (g := F0 m pc ls ((As.reverse ++ rest).map (cv ad))) ⟨hx, rfl, hml, hown, hts⟩ (hM l D cT ad H.size) (va_cwS As.length hts hG rfl rfl rfl hlc.2.2 (rm_ok hd hnl)) ⟨WD.blind, fun U hU hW => ⟨rfl, hWD U hU hW⟩⟩ rfl (by rw [List.length_map]) hL.1 (by rw [List.map_append, ← List.map_reverse]) (lv_room hrw) (C.dec h) ⟨Nat.zero_le _, Nat.zero_le _⟩
  refine W_call hrun hS hF (fun H1 locs1 hP1 hS1 => ?_)
  have := nx p l e s m args below meth c D cT ad A C H1 locs1 ls hL hP1 hS1
  rw [List.map_append] at this
  rw [show ((out2.1.map (cv ad)).toList) = (out2.1.toList.map (cv ad)) by cases out2.1 <;> rfl]
  exact this
theorem p_callV {idx q ci : Nat} {fs : List (Option Nat)} {y : MethodName} {cc : ByteArray} {M2 : Mi} {out2 : Out} {Tf : u_T} {N : Nat} (As rest : List Value) (h : M.1[k]? = some (pc, .invokevirtual idx, 3)) (hM : MR y cc M2 (.ref q :: As) S out2) (hlay : lay[q]? = some (.inr (.inl (ci, fs)))) (hcl : vwCl[ci]? = some (y.cls, Tf, N)) (hlc : LC y cc M2 As.length) (hl1 : Cond.methodLink M.own idx y ∈ TB) (hl2 : Cond.instanceMethod y ∈ TB) (hl3 : Cond.selects y.cls y y ∈ TB) (hd : M2.dep < M.dep) (hnl : M2.nL ≤ 13) (hw : (rest.map fun v => v.category).sum ≤ 8) (hst : As.reverse ++ .ref q :: rest = st) (nx : PW M out (pc + 3) L (out2.1.toList ++ rest) out2.2) : PW M out pc L st S := by
  subst hst
  intro p l e s m args below meth c D cT ad A C H locs ls hL hP hS
  obtain ⟨hx, hT, hr, hml, hown, hts, hlk, hK, hD, hA, hO⟩ := id C
  obtain ⟨hF, hWD⟩ := WD_of C hP hS
  have hG : GoodIn TB (wsV M.own idx y.cls y (Cond.code y cc M2.nL M2.ty :: TB)) := by
    intro w hw
    rcases List.mem_append.mp hw with hw | hw
    · simp only [List.mem_cons, List.not_mem_nil, or_false] at hw
      rcases hw with rfl | rfl | rfl | rfl
      · exact ⟨hl1, good_of_word (tb_gd hl1)⟩
      · exact ⟨hl2, good_of_word (tb_gd hl2)⟩
      · exact ⟨hl3, good_of_word (tb_gd hl3)⟩
      · exact ⟨hlc.1, good_of_word (tb_gd hlc.1)⟩
    · exact tb_goodIn hlc.2.1 w hw
  have hrw : ((rest.map (cv ad)).map fun v => v.category).sum ≤ 8 := by
    rw [List.map_map]
    rw [show ((fun v : Value => v.category) ∘ cv ad) = (fun v : Value => v.category) from funext (fun v => cv_cat ad v)]
    exact hw
  have hrun := va_runV (p := p) (l := l) (e := e) (R := rmd M.dep) (s := s) (m := m) (args := args) (below := below) (meth := meth) (c := c) (H := H) (locs := locs) (cells := 0) (slots := 0) (b := ad q) (As := As.map (cv ad)) (rest := rest.map (cv ad)) (g := F0 m pc ls ((As.reverse ++ .ref q :: rest).map (cv ad))) ⟨hx, rfl, hml, hown, hts⟩ (hM l D cT ad H.size) (cwV As.length hts hG rfl rfl rfl ⟨rfl, hlc.2.2⟩ (rm_ok hd hnl)) ⟨WD.blind, va_recv hK hP hcl (wl_get hlay), fun U hU hW => ⟨rfl, hWD U hU hW⟩⟩ rfl (by rw [List.length_map]) hL.1 (by rw [List.map_append, ← List.map_reverse]; rfl) (lv_room hrw) (C.dec h) ⟨Nat.zero_le _, Nat.zero_le _⟩
  refine W_call hrun hS hF (fun H1 locs1 hP1 hS1 => ?_)
  have := nx p l e s m args below meth c D cT ad A C H1 locs1 ls hL hP1 hS1
  rw [List.map_append] at this
  rw [show ((out2.1.map (cv ad)).toList) = (out2.1.toList.map (cv ad)) by cases out2.1 <;> rfl]
  exact this
/-- a private static method of a nest mate -/
theorem p_callSN {idx : Nat} {y : MethodName} {cc : ByteArray} {M2 : Mi} {out2 : Out} {host : String} (As rest : List Value) (h : M.1[k]? = some (pc, .invokestatic idx, 3)) (hM : MR y cc M2 As S out2) (hlc : LC y cc M2 As.length) (hl1 : Cond.methodLinkNest M.own idx y host ∈ nestW) (hl2 : Cond.static y ∈ TB) (hd : M2.dep < M.dep) (hnl : M2.nL ≤ 13) (hw : (rest.map fun v => v.category).sum ≤ 8) (hst : As.reverse ++ rest = st) (nx : PW M out (pc + 3) L (out2.1.toList ++ rest) out2.2) : PW M out pc L st S := by
  subst hst
  intro p l e s m args below meth c D cT ad A C H locs ls hL hP hS
  obtain ⟨hx, hT, hr, hml, hown, hts, hlk, hK, hD, hA, hO⟩ := id C
  obtain ⟨hF, hWD⟩ := WD_of C hP hS
  have hrw : ((rest.map (cv ad)).map fun v => v.category).sum ≤ 8 := by
    rw [List.map_map]
    rw [show ((fun v : Value => v.category) ∘ cv ad) = (fun v : Value => v.category) from funext (fun v => cv_cat ad v)]
    exact hw
  have hrun := va_runSN (p := p) (l := l) (e := e) (R := rmd M.dep) (s := s) (m := m) (args := args) (below := below) (meth := meth) (c := c) (H := H) (locs := locs) (cells := 0) (slots := 0) (As := As.map (cv ad)) (rest := rest.map (cv ad)) (g := F0 m pc ls ((As.reverse ++ rest).map (cv ad))) ⟨hx, rfl, hml, hown, hts⟩ (hM l D cT ad H.size) ⟨va_cnB As.length hts (tb_goodIn hlc.2.1) rfl rfl rfl (hO.1 _ hl1) (hts _ hlc.1) hlc.2.2 (rm_ok hd hnl), hts _ hl2, trivial⟩ ⟨WD.blind, fun U hU hW => ⟨rfl, hWD U hU hW⟩⟩ rfl (by rw [List.length_map]) hL.1 (by rw [List.map_append, ← List.map_reverse]) (lv_room hrw) (C.dec h) ⟨Nat.zero_le _, Nat.zero_le _⟩
  refine W_call hrun hS hF (fun H1 locs1 hP1 hS1 => ?_)
  have := nx p l e s m args below meth c D cT ad A C H1 locs1 ls hL hP1 hS1
  rw [List.map_append] at this
  rw [show ((out2.1.map (cv ad)).toList) = (out2.1.toList.map (cv ad)) by cases out2.1 <;> rfl]
  exact this
/-- System.arraycopy between two arrays of numbers -/
theorem p_copy {idx q0 q1 n0 n1 : Nat} {sp dp n : Int32} (rest : List Value) (h : M.1[k]? = some (pc, .invokestatic idx, 3)) (hl1 : Cond.methodLink M.own idx arraycopyName ∈ TB) (hl2 : Cond.native arraycopyName ∈ TB) (hl3 : Cond.static arraycopyName ∈ TB) (hl4 : Cond.initialized "java/lang/System" ∈ TB) (hq0 : lay[q0]? = some (.inl n0)) (hq1 : lay[q1]? = some (.inl n1)) (h1 : ¬ sp < 0) (h2 : ¬ dp < 0) (h3 : ¬ n < 0) (h4 : sp.toNatClampNeg + n.toNatClampNeg ≤ n0) (h5 : dp.toNatClampNeg + n.toNatClampNeg ≤ n1) (hd : 0 < M.dep) (hw : (rest.map fun v => v.category).sum ≤ 8)
    (nx : PW M out (pc + 3) L rest (upR S q1 (va_cpy (S q0) (S q1) sp.toNatClampNeg dp.toNatClampNeg n.toNatClampNeg))) : PW M out pc L (.int n :: .int dp :: .ref q1 :: .int sp :: .ref q0 :: rest) S := by
  intro p l e0 s m args below meth c D cT ad A C H locs ls hL hP hS
  obtain ⟨hx, hT, hr, hml, hown, hts, hlk, hK, hD, hA, hO⟩ := id C
  have hrw : ((rest.map (cv ad)).map fun v => v.category).sum ≤ 8 := by
    rw [List.map_map]
    rw [show ((fun v : Value => v.category) ∘ cv ad) = (fun v : Value => v.category) from funext (fun v => cv_cat ad v)]
    exact hw
  have hs : c.maxLocals = ls.size := hml.trans hL.1.symm
  have hfr : 1 ≤ (rmd M.dep).frames := hd
  have hlo : ((rest.map (cv ad)).map fun v => v.category).sum + (nativeFrameWords "java/lang/System" "arraycopy" 5 + 11) ≤ (rmd M.dep).locals := by
    have e1 : nativeFrameWords "java/lang/System" "arraycopy" 5 = 7 := by decide
    have e2 : (rmd M.dep).locals = 32 * M.dep := rfl
    rw [e1, e2]
    have : 0 < M.dep := hd
    omega
  refine va_copyi (rest := rest.map (cv ad)) hx rfl hs hown (hts _ hl1) (hts _ hl2) (hts _ hl3) (hts _ hl4) hK hP (hD S) hS q0 q1 0 0 (f := S q0) (g := S q1) (ty := .int) (wl_get hq0) (wl_get hq1) rfl rfl rfl h1 h2 h3 h4 h5 (fun _ _ => rfl) hfr hlo (C.dec h) (fun H1 locs1 hP1 hD1 hS1 => ?_)
  have e : (wl cT ad S).set q1 (ad q1, .inl (cT 0, n1, .inl (va_cpy (S q0) (S q1) sp.toNatClampNeg dp.toNatClampNeg n.toNatClampNeg))) = wl cT ad (upR S q1 (va_cpy (S q0) (S q1) sp.toNatClampNeg dp.toNatClampNeg n.toNatClampNeg)) := wl_set (f := va_cpy (S q0) (S q1) sp.toNatClampNeg dp.toNatClampNeg n.toNatClampNeg) hq1
  rw [e] at hP1
  exact nx p l e0 s m args below meth c D cT ad A C H1 locs1 ls hL hP1 hS1
end CALLS
end
