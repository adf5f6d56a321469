section
-- ===== PART A: goes FIRST, ahead of the names: the tables' words, and 'selects' of the private methods out of them =====
/-- a private method of a class that the tables say can be made, by its rows of tables_1 -/
def lw_okq (q : MethodName × Nat) : Prop := (q.1.cls ≠ "java/lang/invoke/MethodHandle" ∧ q.1.cls ≠ "java/lang/invoke/VarHandle") ∧ Cond.instantiable q.1.cls q.2 ∈ tables_1 ∧ Cond.privateMethod q.1 ∈ tables_1 ∧ Cond.instanceMethod q.1 ∈ tables_1
theorem lw_p0 : lw_okq (⟨"LouvreCraftLaw", "flies", "([I)Z"⟩, 6) := ⟨⟨by decide +kernel, by decide +kernel⟩, List.mem_of_getElem? (i := 26) (by decide +kernel), List.mem_of_getElem? (i := 521) (by decide +kernel), List.mem_of_getElem? (i := 522) (by decide +kernel)⟩
theorem lw_p1 : lw_okq (⟨"LouvreCraftLaw", "builds", "()Z"⟩, 6) := ⟨⟨by decide +kernel, by decide +kernel⟩, List.mem_of_getElem? (i := 26) (by decide +kernel), List.mem_of_getElem? (i := 525) (by decide +kernel), List.mem_of_getElem? (i := 526) (by decide +kernel)⟩
theorem lw_p2 : lw_okq (⟨"LouvreCraftLaw", "draw", "(I)I"⟩, 6) := ⟨⟨by decide +kernel, by decide +kernel⟩, List.mem_of_getElem? (i := 26) (by decide +kernel), List.mem_of_getElem? (i := 529) (by decide +kernel), List.mem_of_getElem? (i := 530) (by decide +kernel)⟩
theorem lw_p3 : lw_okq (⟨"LouvreCraftLaw", "balances", "()Z"⟩, 6) := ⟨⟨by decide +kernel, by decide +kernel⟩, List.mem_of_getElem? (i := 26) (by decide +kernel), List.mem_of_getElem? (i := 653) (by decide +kernel), List.mem_of_getElem? (i := 654) (by decide +kernel)⟩
theorem lw_p4 : lw_okq (⟨"LouvreCraft$Craft", "conductThrough", "(LLouvreCraft$Link;)V"⟩, 15) := ⟨⟨by decide +kernel, by decide +kernel⟩, List.mem_of_getElem? (i := 40) (by decide +kernel), List.mem_of_getElem? (i := 689) (by decide +kernel), List.mem_of_getElem? (i := 690) (by decide +kernel)⟩
theorem lw_p5 : lw_okq (⟨"LouvreCraftLaw", "put", "(Ljava/lang/String;)V"⟩, 6) := ⟨⟨by decide +kernel, by decide +kernel⟩, List.mem_of_getElem? (i := 26) (by decide +kernel), List.mem_of_getElem? (i := 726) (by decide +kernel), List.mem_of_getElem? (i := 727) (by decide +kernel)⟩
theorem lw_p6 : lw_okq (⟨"LouvreCraft$RuleReader", "splitText", "()V"⟩, 14) := ⟨⟨by decide +kernel, by decide +kernel⟩, List.mem_of_getElem? (i := 430) (by decide +kernel), List.mem_of_getElem? (i := 794) (by decide +kernel), List.mem_of_getElem? (i := 795) (by decide +kernel)⟩
theorem lw_p7 : lw_okq (⟨"LouvreCraft$RuleReader", "skipBlanks", "(I)I"⟩, 14) := ⟨⟨by decide +kernel, by decide +kernel⟩, List.mem_of_getElem? (i := 430) (by decide +kernel), List.mem_of_getElem? (i := 798) (by decide +kernel), List.mem_of_getElem? (i := 799) (by decide +kernel)⟩
theorem lw_p8 : lw_okq (⟨"LouvreCraft$RuleReader", "endOfToken", "(I)I"⟩, 14) := ⟨⟨by decide +kernel, by decide +kernel⟩, List.mem_of_getElem? (i := 430) (by decide +kernel), List.mem_of_getElem? (i := 802) (by decide +kernel), List.mem_of_getElem? (i := 803) (by decide +kernel)⟩
theorem lw_p9 : lw_okq (⟨"LouvreCraft$RuleReader", "kindOf", "(II)I"⟩, 14) := ⟨⟨by decide +kernel, by decide +kernel⟩, List.mem_of_getElem? (i := 430) (by decide +kernel), List.mem_of_getElem? (i := 812) (by decide +kernel), List.mem_of_getElem? (i := 813) (by decide +kernel)⟩
theorem lw_p10 : lw_okq (⟨"LouvreCraft$RuleReader", "kindOfWord", "(II)I"⟩, 14) := ⟨⟨by decide +kernel, by decide +kernel⟩, List.mem_of_getElem? (i := 430) (by decide +kernel), List.mem_of_getElem? (i := 816) (by decide +kernel), List.mem_of_getElem? (i := 817) (by decide +kernel)⟩
theorem lw_p11 : lw_okq (⟨"LouvreCraft$RuleReader", "isWord", "(IIII)Z"⟩, 14) := ⟨⟨by decide +kernel, by decide +kernel⟩, List.mem_of_getElem? (i := 430) (by decide +kernel), List.mem_of_getElem? (i := 823) (by decide +kernel), List.mem_of_getElem? (i := 824) (by decide +kernel)⟩
theorem lw_p12 : lw_okq (⟨"LouvreCraft$RuleReader", "numberIn", "(II)I"⟩, 14) := ⟨⟨by decide +kernel, by decide +kernel⟩, List.mem_of_getElem? (i := 430) (by decide +kernel), List.mem_of_getElem? (i := 885) (by decide +kernel), List.mem_of_getElem? (i := 886) (by decide +kernel)⟩
theorem lw_p13 : lw_okq (⟨"LouvreCraft$RuleReader", "kind", "()I"⟩, 14) := ⟨⟨by decide +kernel, by decide +kernel⟩, List.mem_of_getElem? (i := 430) (by decide +kernel), List.mem_of_getElem? (i := 891) (by decide +kernel), List.mem_of_getElem? (i := 892) (by decide +kernel)⟩
theorem lw_p14 : lw_okq (⟨"LouvreCraft$RuleReader", "readTest", "(I)Z"⟩, 14) := ⟨⟨by decide +kernel, by decide +kernel⟩, List.mem_of_getElem? (i := 430) (by decide +kernel), List.mem_of_getElem? (i := 895) (by decide +kernel), List.mem_of_getElem? (i := 896) (by decide +kernel)⟩
theorem lw_p15 : lw_okq (⟨"LouvreCraft$RuleReader", "readSum", "(I)Z"⟩, 14) := ⟨⟨by decide +kernel, by decide +kernel⟩, List.mem_of_getElem? (i := 430) (by decide +kernel), List.mem_of_getElem? (i := 899) (by decide +kernel), List.mem_of_getElem? (i := 900) (by decide +kernel)⟩
def lw_privs_1 : List (MethodName × Nat) := [(⟨"LouvreCraftLaw", "flies", "([I)Z"⟩, 6), (⟨"LouvreCraftLaw", "builds", "()Z"⟩, 6), (⟨"LouvreCraftLaw", "draw", "(I)I"⟩, 6), (⟨"LouvreCraftLaw", "balances", "()Z"⟩, 6), (⟨"LouvreCraft$Craft", "conductThrough", "(LLouvreCraft$Link;)V"⟩, 15), (⟨"LouvreCraftLaw", "put", "(Ljava/lang/String;)V"⟩, 6), (⟨"LouvreCraft$RuleReader", "splitText", "()V"⟩, 14), (⟨"LouvreCraft$RuleReader", "skipBlanks", "(I)I"⟩, 14), (⟨"LouvreCraft$RuleReader", "endOfToken", "(I)I"⟩, 14), (⟨"LouvreCraft$RuleReader", "kindOf", "(II)I"⟩, 14), (⟨"LouvreCraft$RuleReader", "kindOfWord", "(II)I"⟩, 14), (⟨"LouvreCraft$RuleReader", "isWord", "(IIII)Z"⟩, 14), (⟨"LouvreCraft$RuleReader", "numberIn", "(II)I"⟩, 14), (⟨"LouvreCraft$RuleReader", "kind", "()I"⟩, 14), (⟨"LouvreCraft$RuleReader", "readTest", "(I)Z"⟩, 14), (⟨"LouvreCraft$RuleReader", "readSum", "(I)Z"⟩, 14)]
theorem lw_r1 : ∀ q ∈ lw_privs_1, lw_okq q := List.forall_mem_cons.mpr ⟨lw_p0, List.forall_mem_cons.mpr ⟨lw_p1, List.forall_mem_cons.mpr ⟨lw_p2, List.forall_mem_cons.mpr ⟨lw_p3, List.forall_mem_cons.mpr ⟨lw_p4, List.forall_mem_cons.mpr ⟨lw_p5, List.forall_mem_cons.mpr ⟨lw_p6, List.forall_mem_cons.mpr ⟨lw_p7, List.forall_mem_cons.mpr ⟨lw_p8, List.forall_mem_cons.mpr ⟨lw_p9, List.forall_mem_cons.mpr ⟨lw_p10, List.forall_mem_cons.mpr ⟨lw_p11, List.forall_mem_cons.mpr ⟨lw_p12, List.forall_mem_cons.mpr ⟨lw_p13, List.forall_mem_cons.mpr ⟨lw_p14, List.forall_mem_cons.mpr ⟨lw_p15, fun _ h => absurd h List.not_mem_nil⟩⟩⟩⟩⟩⟩⟩⟩⟩⟩⟩⟩⟩⟩⟩⟩
theorem lw_p16 : lw_okq (⟨"LouvreCraft$RuleReader", "readProduct", "(I)Z"⟩, 14) := ⟨⟨by decide +kernel, by decide +kernel⟩, List.mem_of_getElem? (i := 430) (by decide +kernel), List.mem_of_getElem? (i := 903) (by decide +kernel), List.mem_of_getElem? (i := 904) (by decide +kernel)⟩
theorem lw_p17 : lw_okq (⟨"LouvreCraft$RuleReader", "readFactor", "(I)Z"⟩, 14) := ⟨⟨by decide +kernel, by decide +kernel⟩, List.mem_of_getElem? (i := 430) (by decide +kernel), List.mem_of_getElem? (i := 907) (by decide +kernel), List.mem_of_getElem? (i := 908) (by decide +kernel)⟩
theorem lw_p18 : lw_okq (⟨"LouvreCraft$RuleReader", "fail", "(I)Z"⟩, 14) := ⟨⟨by decide +kernel, by decide +kernel⟩, List.mem_of_getElem? (i := 430) (by decide +kernel), List.mem_of_getElem? (i := 911) (by decide +kernel), List.mem_of_getElem? (i := 912) (by decide +kernel)⟩
theorem lw_p19 : lw_okq (⟨"LouvreCraft$RuleReader", "take", "(I)Z"⟩, 14) := ⟨⟨by decide +kernel, by decide +kernel⟩, List.mem_of_getElem? (i := 430) (by decide +kernel), List.mem_of_getElem? (i := 915) (by decide +kernel), List.mem_of_getElem? (i := 916) (by decide +kernel)⟩
theorem lw_p20 : lw_okq (⟨"LouvreCraft$RuleReader", "takeNumber", "(I)Z"⟩, 14) := ⟨⟨by decide +kernel, by decide +kernel⟩, List.mem_of_getElem? (i := 430) (by decide +kernel), List.mem_of_getElem? (i := 923) (by decide +kernel), List.mem_of_getElem? (i := 924) (by decide +kernel)⟩
theorem lw_p21 : lw_okq (⟨"LouvreCraft$RuleReader", "takeComparison", "()Z"⟩, 14) := ⟨⟨by decide +kernel, by decide +kernel⟩, List.mem_of_getElem? (i := 430) (by decide +kernel), List.mem_of_getElem? (i := 927) (by decide +kernel), List.mem_of_getElem? (i := 928) (by decide +kernel)⟩
theorem lw_p22 : lw_okq (⟨"LouvreCraft$RuleReader", "readAction", "(I)Z"⟩, 14) := ⟨⟨by decide +kernel, by decide +kernel⟩, List.mem_of_getElem? (i := 430) (by decide +kernel), List.mem_of_getElem? (i := 931) (by decide +kernel), List.mem_of_getElem? (i := 932) (by decide +kernel)⟩
theorem lw_p23 : lw_okq (⟨"LouvreCraft$RuleReader", "takeWord", "(II)Z"⟩, 14) := ⟨⟨by decide +kernel, by decide +kernel⟩, List.mem_of_getElem? (i := 430) (by decide +kernel), List.mem_of_getElem? (i := 935) (by decide +kernel), List.mem_of_getElem? (i := 936) (by decide +kernel)⟩
theorem lw_p24 : lw_okq (⟨"LouvreCraftLaw", "moves", "()Z"⟩, 6) := ⟨⟨by decide +kernel, by decide +kernel⟩, List.mem_of_getElem? (i := 26) (by decide +kernel), List.mem_of_getElem? (i := 946) (by decide +kernel), List.mem_of_getElem? (i := 947) (by decide +kernel)⟩
theorem lw_p25 : lw_okq (⟨"LouvreCraft$Rules", "evaluate", "(IILLouvreCraft$Craft;)J"⟩, 10) := ⟨⟨by decide +kernel, by decide +kernel⟩, List.mem_of_getElem? (i := 142) (by decide +kernel), List.mem_of_getElem? (i := 1022) (by decide +kernel), List.mem_of_getElem? (i := 1023) (by decide +kernel)⟩
theorem lw_p26 : lw_okq (⟨"LouvreCraft$Craft", "moveLouvres", "()V"⟩, 15) := ⟨⟨by decide +kernel, by decide +kernel⟩, List.mem_of_getElem? (i := 40) (by decide +kernel), List.mem_of_getElem? (i := 1057) (by decide +kernel), List.mem_of_getElem? (i := 1058) (by decide +kernel)⟩
theorem lw_p27 : lw_okq (⟨"LouvreCraft$Craft", "decideWishes", "()V"⟩, 15) := ⟨⟨by decide +kernel, by decide +kernel⟩, List.mem_of_getElem? (i := 40) (by decide +kernel), List.mem_of_getElem? (i := 1067) (by decide +kernel), List.mem_of_getElem? (i := 1068) (by decide +kernel)⟩
theorem lw_p28 : lw_okq (⟨"LouvreCraft$Craft", "sharePower", "()V"⟩, 15) := ⟨⟨by decide +kernel, by decide +kernel⟩, List.mem_of_getElem? (i := 40) (by decide +kernel), List.mem_of_getElem? (i := 1075) (by decide +kernel), List.mem_of_getElem? (i := 1076) (by decide +kernel)⟩
theorem lw_p29 : lw_okq (⟨"LouvreCraft$Craft", "switchHeater", "(LLouvreCraft$Heater;J)I"⟩, 15) := ⟨⟨by decide +kernel, by decide +kernel⟩, List.mem_of_getElem? (i := 40) (by decide +kernel), List.mem_of_getElem? (i := 1083) (by decide +kernel), List.mem_of_getElem? (i := 1084) (by decide +kernel)⟩
theorem lw_p30 : lw_okq (⟨"LouvreCraft$Craft", "warmNodes", "()V"⟩, 15) := ⟨⟨by decide +kernel, by decide +kernel⟩, List.mem_of_getElem? (i := 40) (by decide +kernel), List.mem_of_getElem? (i := 1088) (by decide +kernel), List.mem_of_getElem? (i := 1089) (by decide +kernel)⟩
theorem lw_p31 : lw_okq (⟨"LouvreCraft$Craft", "recordTemperatures", "()Z"⟩, 15) := ⟨⟨by decide +kernel, by decide +kernel⟩, List.mem_of_getElem? (i := 40) (by decide +kernel), List.mem_of_getElem? (i := 1101) (by decide +kernel), List.mem_of_getElem? (i := 1102) (by decide +kernel)⟩
def lw_privs_2 : List (MethodName × Nat) := [(⟨"LouvreCraft$RuleReader", "readProduct", "(I)Z"⟩, 14), (⟨"LouvreCraft$RuleReader", "readFactor", "(I)Z"⟩, 14), (⟨"LouvreCraft$RuleReader", "fail", "(I)Z"⟩, 14), (⟨"LouvreCraft$RuleReader", "take", "(I)Z"⟩, 14), (⟨"LouvreCraft$RuleReader", "takeNumber", "(I)Z"⟩, 14), (⟨"LouvreCraft$RuleReader", "takeComparison", "()Z"⟩, 14), (⟨"LouvreCraft$RuleReader", "readAction", "(I)Z"⟩, 14), (⟨"LouvreCraft$RuleReader", "takeWord", "(II)Z"⟩, 14), (⟨"LouvreCraftLaw", "moves", "()Z"⟩, 6), (⟨"LouvreCraft$Rules", "evaluate", "(IILLouvreCraft$Craft;)J"⟩, 10), (⟨"LouvreCraft$Craft", "moveLouvres", "()V"⟩, 15), (⟨"LouvreCraft$Craft", "decideWishes", "()V"⟩, 15), (⟨"LouvreCraft$Craft", "sharePower", "()V"⟩, 15), (⟨"LouvreCraft$Craft", "switchHeater", "(LLouvreCraft$Heater;J)I"⟩, 15), (⟨"LouvreCraft$Craft", "warmNodes", "()V"⟩, 15), (⟨"LouvreCraft$Craft", "recordTemperatures", "()Z"⟩, 15)]
theorem lw_r2 : ∀ q ∈ lw_privs_2, lw_okq q := List.forall_mem_cons.mpr ⟨lw_p16, List.forall_mem_cons.mpr ⟨lw_p17, List.forall_mem_cons.mpr ⟨lw_p18, List.forall_mem_cons.mpr ⟨lw_p19, List.forall_mem_cons.mpr ⟨lw_p20, List.forall_mem_cons.mpr ⟨lw_p21, List.forall_mem_cons.mpr ⟨lw_p22, List.forall_mem_cons.mpr ⟨lw_p23, List.forall_mem_cons.mpr ⟨lw_p24, List.forall_mem_cons.mpr ⟨lw_p25, List.forall_mem_cons.mpr ⟨lw_p26, List.forall_mem_cons.mpr ⟨lw_p27, List.forall_mem_cons.mpr ⟨lw_p28, List.forall_mem_cons.mpr ⟨lw_p29, List.forall_mem_cons.mpr ⟨lw_p30, List.forall_mem_cons.mpr ⟨lw_p31, fun _ h => absurd h List.not_mem_nil⟩⟩⟩⟩⟩⟩⟩⟩⟩⟩⟩⟩⟩⟩⟩⟩
theorem lw_p32 : lw_okq (⟨"LouvreCraftLaw", "sheds", "()Z"⟩, 6) := ⟨⟨by decide +kernel, by decide +kernel⟩, List.mem_of_getElem? (i := 26) (by decide +kernel), List.mem_of_getElem? (i := 1148) (by decide +kernel), List.mem_of_getElem? (i := 1149) (by decide +kernel)⟩
theorem lw_p33 : lw_okq (⟨"LouvreCraftLaw", "changes", "()Z"⟩, 6) := ⟨⟨by decide +kernel, by decide +kernel⟩, List.mem_of_getElem? (i := 26) (by decide +kernel), List.mem_of_getElem? (i := 1152) (by decide +kernel), List.mem_of_getElem? (i := 1153) (by decide +kernel)⟩
theorem lw_p34 : lw_okq (⟨"LouvreCraftLaw", "holdsCharge", "()Z"⟩, 6) := ⟨⟨by decide +kernel, by decide +kernel⟩, List.mem_of_getElem? (i := 26) (by decide +kernel), List.mem_of_getElem? (i := 1365) (by decide +kernel), List.mem_of_getElem? (i := 1366) (by decide +kernel)⟩
theorem lw_p35 : lw_okq (⟨"LouvreCraftLaw", "rests", "()Z"⟩, 6) := ⟨⟨by decide +kernel, by decide +kernel⟩, List.mem_of_getElem? (i := 26) (by decide +kernel), List.mem_of_getElem? (i := 1374) (by decide +kernel), List.mem_of_getElem? (i := 1375) (by decide +kernel)⟩
theorem lw_p36 : lw_okq (⟨"LouvreCraftLaw", "cools", "()Z"⟩, 6) := ⟨⟨by decide +kernel, by decide +kernel⟩, List.mem_of_getElem? (i := 26) (by decide +kernel), List.mem_of_getElem? (i := 1423) (by decide +kernel), List.mem_of_getElem? (i := 1424) (by decide +kernel)⟩
def lw_privs_3 : List (MethodName × Nat) := [(⟨"LouvreCraftLaw", "sheds", "()Z"⟩, 6), (⟨"LouvreCraftLaw", "changes", "()Z"⟩, 6), (⟨"LouvreCraftLaw", "holdsCharge", "()Z"⟩, 6), (⟨"LouvreCraftLaw", "rests", "()Z"⟩, 6), (⟨"LouvreCraftLaw", "cools", "()Z"⟩, 6)]
theorem lw_r3 : ∀ q ∈ lw_privs_3, lw_okq q := List.forall_mem_cons.mpr ⟨lw_p32, List.forall_mem_cons.mpr ⟨lw_p33, List.forall_mem_cons.mpr ⟨lw_p34, List.forall_mem_cons.mpr ⟨lw_p35, List.forall_mem_cons.mpr ⟨lw_p36, fun _ h => absurd h List.not_mem_nil⟩⟩⟩⟩⟩
def lw_privs : List (MethodName × Nat) := lw_privs_1 ++ (lw_privs_2 ++ (lw_privs_3))
def lw_tbl : List Cond := k2_sels lw_privs ++ tables_1
theorem lw_privs_ok : ∀ q ∈ lw_privs, lw_okq q := by
  show ∀ q ∈ lw_privs_1 ++ (lw_privs_2 ++ (lw_privs_3)), lw_okq q
  exact List.forall_mem_append.mpr ⟨lw_r1, List.forall_mem_append.mpr ⟨lw_r2, lw_r3⟩⟩
end
section
def RX0 : String := "LouvreCraft$Craft"
def TX0 : u_T := fun k => match k with
  | 0 => ("LouvreCraft$Craft", "nodes", "[LLouvreCraft$Node;", true)
  | 1 => ("LouvreCraft$Craft", "links", "[LLouvreCraft$Link;", true)
  | 2 => ("LouvreCraft$Craft", "louvres", "[LLouvreCraft$Louvre;", true)
  | 3 => ("LouvreCraft$Craft", "heaters", "[LLouvreCraft$Heater;", true)
  | 4 => ("LouvreCraft$Craft", "ranking", "[I", true)
  | 5 => ("LouvreCraft$Craft", "nodeCount", "I", false)
  | 6 => ("LouvreCraft$Craft", "linkCount", "I", false)
  | 7 => ("LouvreCraft$Craft", "louvreCount", "I", false)
  | 8 => ("LouvreCraft$Craft", "heaterCount", "I", false)
  | 9 => ("LouvreCraft$Craft", "orbit", "LLouvreCraft$Orbit;", true)
  | 10 => ("LouvreCraft$Craft", "supply", "LLouvreCraft$Supply;", true)
  | 11 => ("LouvreCraft$Craft", "records", "LLouvreCraft$Records;", true)
  | 12 => ("LouvreCraft$Craft", "rules", "LLouvreCraft$Rules;", true)
  | 13 => ("LouvreCraft$Craft", "stepLength", "I", false)
  | _ => ("LouvreCraft$Craft", "time", "I", false)
def tyX0 : Nat → FieldType := fun k => match k with
  | 0 => .array (.object "LouvreCraft$Node")
  | 1 => .array (.object "LouvreCraft$Link")
  | 2 => .array (.object "LouvreCraft$Louvre")
  | 3 => .array (.object "LouvreCraft$Heater")
  | 4 => .array .int
  | 5 => .int
  | 6 => .int
  | 7 => .int
  | 8 => .int
  | 9 => .object "LouvreCraft$Orbit"
  | 10 => .object "LouvreCraft$Supply"
  | 11 => .object "LouvreCraft$Records"
  | 12 => .object "LouvreCraft$Rules"
  | 13 => .int
  | _ => .int
abbrev wsX00 : List Cond := u_ws RX0 TX0 15
theorem nmX0 : ∀ a, a < 15 → ∀ b, b < 15 → a ≠ b → (TX0 a).2.1 ≠ (TX0 b).2.1 := by decide +kernel
theorem tyX0_ok : ∀ k, k < 15 → parseFieldDescriptor (TX0 k).2.2.1 = some (tyX0 k) := by decide +kernel
abbrev cX0_init : ByteArray := prog_2_method_1_code
def yX0_init : MethodName := ⟨RX0, "<init>", "()V"⟩
abbrev cX0_copyFrom : ByteArray := prog_2_method_2_code
def yX0_copyFrom : MethodName := ⟨RX0, "copyFrom", "(LLouvreCraft$Craft;)V"⟩
abbrev cX0_hasNode : ByteArray := prog_2_method_3_code
def yX0_hasNode : MethodName := ⟨RX0, "hasNode", "(I)Z"⟩
abbrev cX0_hasLouvre : ByteArray := prog_2_method_4_code
def yX0_hasLouvre : MethodName := ⟨RX0, "hasLouvre", "(I)Z"⟩
abbrev cX0_hasHeater : ByteArray := prog_2_method_5_code
def yX0_hasHeater : MethodName := ⟨RX0, "hasHeater", "(I)Z"⟩
abbrev cX0_placeOfLink : ByteArray := prog_2_method_6_code
def yX0_placeOfLink : MethodName := ⟨RX0, "placeOfLink", "(II)I"⟩
abbrev cX0_makeLink : ByteArray := prog_2_method_7_code
def yX0_makeLink : MethodName := ⟨RX0, "makeLink", "(III)I"⟩
abbrev cX0_dropLink : ByteArray := prog_2_method_8_code
def yX0_dropLink : MethodName := ⟨RX0, "dropLink", "(I)V"⟩
abbrev cX0_rankHeater : ByteArray := prog_2_method_9_code
def yX0_rankHeater : MethodName := ⟨RX0, "rankHeater", "(I)V"⟩
abbrev cX0_phaseNow : ByteArray := prog_2_method_10_code
def yX0_phaseNow : MethodName := ⟨RX0, "phaseNow", "()I"⟩
abbrev cX0_hasSun : ByteArray := prog_2_method_11_code
def yX0_hasSun : MethodName := ⟨RX0, "hasSun", "()Z"⟩
abbrev cX0_temperatureAt : ByteArray := prog_2_method_13_code
def yX0_temperatureAt : MethodName := ⟨RX0, "temperatureAt", "(I)I"⟩
abbrev cX0_targetOf : ByteArray := prog_2_method_14_code
def yX0_targetOf : MethodName := ⟨RX0, "targetOf", "(LLouvreCraft$Louvre;)I"⟩
abbrev cX0_powerInUse : ByteArray := prog_2_method_15_code
def yX0_powerInUse : MethodName := ⟨RX0, "powerInUse", "()I"⟩
abbrev cX0_step : ByteArray := prog_2_method_16_code
def yX0_step : MethodName := ⟨RX0, "step", "()Z"⟩
abbrev cX0_moveLouvres : ByteArray := prog_2_method_17_code
def yX0_moveLouvres : MethodName := ⟨RX0, "moveLouvres", "()V"⟩
abbrev cX0_decideWishes : ByteArray := prog_2_method_18_code
def yX0_decideWishes : MethodName := ⟨RX0, "decideWishes", "()V"⟩
abbrev cX0_sharePower : ByteArray := prog_2_method_19_code
def yX0_sharePower : MethodName := ⟨RX0, "sharePower", "()V"⟩
abbrev cX0_switchHeater : ByteArray := prog_2_method_20_code
def yX0_switchHeater : MethodName := ⟨RX0, "switchHeater", "(LLouvreCraft$Heater;J)I"⟩
abbrev cX0_balanceHeat : ByteArray := prog_2_method_21_code
def yX0_balanceHeat : MethodName := ⟨RX0, "balanceHeat", "()V"⟩
abbrev cX0_conductThrough : ByteArray := prog_2_method_22_code
def yX0_conductThrough : MethodName := ⟨RX0, "conductThrough", "(LLouvreCraft$Link;)V"⟩
abbrev cX0_warmNodes : ByteArray := prog_2_method_23_code
def yX0_warmNodes : MethodName := ⟨RX0, "warmNodes", "()V"⟩
abbrev cX0_recordTemperatures : ByteArray := prog_2_method_24_code
def yX0_recordTemperatures : MethodName := ⟨RX0, "recordTemperatures", "()Z"⟩
def RX1 : String := "LouvreCraft$Heater"
def TX1 : u_T := fun k => match k with
  | 0 => ("LouvreCraft$Heater", "node", "I", false)
  | 1 => ("LouvreCraft$Heater", "power", "I", false)
  | 2 => ("LouvreCraft$Heater", "lower", "I", false)
  | 3 => ("LouvreCraft$Heater", "higher", "I", false)
  | 4 => ("LouvreCraft$Heater", "priority", "I", false)
  | 5 => ("LouvreCraft$Heater", "mode", "I", false)
  | 6 => ("LouvreCraft$Heater", "wish", "Z", false)
  | _ => ("LouvreCraft$Heater", "state", "I", false)
def tyX1 : Nat → FieldType := fun k => match k with
  | 0 => .int
  | 1 => .int
  | 2 => .int
  | 3 => .int
  | 4 => .int
  | 5 => .int
  | 6 => .boolean
  | _ => .int
abbrev wsX10 : List Cond := u_ws RX1 TX1 8
theorem nmX1 : ∀ a, a < 8 → ∀ b, b < 8 → a ≠ b → (TX1 a).2.1 ≠ (TX1 b).2.1 := by decide +kernel
theorem tyX1_ok : ∀ k, k < 8 → parseFieldDescriptor (TX1 k).2.2.1 = some (tyX1 k) := by decide +kernel
abbrev cX1_init : ByteArray := prog_3_method_1_code
def yX1_init : MethodName := ⟨RX1, "<init>", "()V"⟩
abbrev cX1_begin : ByteArray := prog_3_method_2_code
def yX1_begin : MethodName := ⟨RX1, "begin", "(IIIII)V"⟩
abbrev cX1_copyFrom : ByteArray := prog_3_method_3_code
def yX1_copyFrom : MethodName := ⟨RX1, "copyFrom", "(LLouvreCraft$Heater;)V"⟩
abbrev cX1_decideWish : ByteArray := prog_3_method_4_code
def yX1_decideWish : MethodName := ⟨RX1, "decideWish", "(I)V"⟩
def RX2 : String := "LouvreCraft$Link"
def TX2 : u_T := fun k => match k with
  | 0 => ("LouvreCraft$Link", "a", "I", false)
  | 1 => ("LouvreCraft$Link", "b", "I", false)
  | _ => ("LouvreCraft$Link", "conductance", "I", false)
def tyX2 : Nat → FieldType := fun k => match k with
  | 0 => .int
  | 1 => .int
  | _ => .int
abbrev wsX20 : List Cond := u_ws RX2 TX2 3
theorem nmX2 : ∀ a, a < 3 → ∀ b, b < 3 → a ≠ b → (TX2 a).2.1 ≠ (TX2 b).2.1 := by decide +kernel
theorem tyX2_ok : ∀ k, k < 3 → parseFieldDescriptor (TX2 k).2.2.1 = some (tyX2 k) := by decide +kernel
abbrev cX2_init : ByteArray := prog_4_method_1_code
def yX2_init : MethodName := ⟨RX2, "<init>", "()V"⟩
abbrev cX2_begin : ByteArray := prog_4_method_2_code
def yX2_begin : MethodName := ⟨RX2, "begin", "(III)V"⟩
abbrev cX2_copyFrom : ByteArray := prog_4_method_3_code
def yX2_copyFrom : MethodName := ⟨RX2, "copyFrom", "(LLouvreCraft$Link;)V"⟩
def RX3 : String := "LouvreCraft$Louvre"
def TX3 : u_T := fun k => match k with
  | 0 => ("LouvreCraft$Louvre", "node", "I", false)
  | 1 => ("LouvreCraft$Louvre", "area", "I", false)
  | 2 => ("LouvreCraft$Louvre", "closed", "I", false)
  | 3 => ("LouvreCraft$Louvre", "open", "I", false)
  | 4 => ("LouvreCraft$Louvre", "rate", "I", false)
  | 5 => ("LouvreCraft$Louvre", "opening", "I", false)
  | _ => ("LouvreCraft$Louvre", "held", "Z", false)
def tyX3 : Nat → FieldType := fun k => match k with
  | 0 => .int
  | 1 => .int
  | 2 => .int
  | 3 => .int
  | 4 => .int
  | 5 => .int
  | _ => .boolean
abbrev wsX30 : List Cond := u_ws RX3 TX3 7
theorem nmX3 : ∀ a, a < 7 → ∀ b, b < 7 → a ≠ b → (TX3 a).2.1 ≠ (TX3 b).2.1 := by decide +kernel
theorem tyX3_ok : ∀ k, k < 7 → parseFieldDescriptor (TX3 k).2.2.1 = some (tyX3 k) := by decide +kernel
abbrev cX3_init : ByteArray := prog_5_method_1_code
def yX3_init : MethodName := ⟨RX3, "<init>", "()V"⟩
abbrev cX3_begin : ByteArray := prog_5_method_2_code
def yX3_begin : MethodName := ⟨RX3, "begin", "(IIIII)V"⟩
abbrev cX3_copyFrom : ByteArray := prog_5_method_3_code
def yX3_copyFrom : MethodName := ⟨RX3, "copyFrom", "(LLouvreCraft$Louvre;)V"⟩
abbrev cX3_moveTowards : ByteArray := prog_5_method_4_code
def yX3_moveTowards : MethodName := ⟨RX3, "moveTowards", "(I)V"⟩
def RX4 : String := "LouvreCraft$Node"
def TX4 : u_T := fun k => match k with
  | 0 => ("LouvreCraft$Node", "capacity", "I", false)
  | 1 => ("LouvreCraft$Node", "temperature", "I", false)
  | 2 => ("LouvreCraft$Node", "emitting", "I", false)
  | 3 => ("LouvreCraft$Node", "absorbing", "I", false)
  | 4 => ("LouvreCraft$Node", "load", "I", false)
  | 5 => ("LouvreCraft$Node", "low", "I", false)
  | 6 => ("LouvreCraft$Node", "high", "I", false)
  | 7 => ("LouvreCraft$Node", "lowest", "I", false)
  | 8 => ("LouvreCraft$Node", "highest", "I", false)
  | 9 => ("LouvreCraft$Node", "violations", "I", false)
  | 10 => ("LouvreCraft$Node", "firstViolation", "I", false)
  | 11 => ("LouvreCraft$Node", "area", "J", false)
  | 12 => ("LouvreCraft$Node", "absorbed", "J", false)
  | 13 => ("LouvreCraft$Node", "emitted", "J", false)
  | 14 => ("LouvreCraft$Node", "conducted", "J", false)
  | 15 => ("LouvreCraft$Node", "heated", "J", false)
  | _ => ("LouvreCraft$Node", "remembered", "I", false)
def tyX4 : Nat → FieldType := fun k => match k with
  | 0 => .int
  | 1 => .int
  | 2 => .int
  | 3 => .int
  | 4 => .int
  | 5 => .int
  | 6 => .int
  | 7 => .int
  | 8 => .int
  | 9 => .int
  | 10 => .int
  | 11 => .long
  | 12 => .long
  | 13 => .long
  | 14 => .long
  | 15 => .long
  | _ => .int
abbrev wsX40 : List Cond := u_ws RX4 TX4 17
theorem nmX4 : ∀ a, a < 17 → ∀ b, b < 17 → a ≠ b → (TX4 a).2.1 ≠ (TX4 b).2.1 := by decide +kernel
theorem tyX4_ok : ∀ k, k < 17 → parseFieldDescriptor (TX4 k).2.2.1 = some (tyX4 k) := by decide +kernel
abbrev cX4_init : ByteArray := prog_6_method_1_code
def yX4_init : MethodName := ⟨RX4, "<init>", "()V"⟩
abbrev cX4_begin : ByteArray := prog_6_method_2_code
def yX4_begin : MethodName := ⟨RX4, "begin", "(IIIII)V"⟩
abbrev cX4_beginRecords : ByteArray := prog_6_method_3_code
def yX4_beginRecords : MethodName := ⟨RX4, "beginRecords", "()V"⟩
abbrev cX4_copyFrom : ByteArray := prog_6_method_4_code
def yX4_copyFrom : MethodName := ⟨RX4, "copyFrom", "(LLouvreCraft$Node;)V"⟩
abbrev cX4_emit : ByteArray := prog_6_method_5_code
def yX4_emit : MethodName := ⟨RX4, "emit", "()V"⟩
abbrev cX4_gain : ByteArray := prog_6_method_6_code
def yX4_gain : MethodName := ⟨RX4, "gain", "()J"⟩
abbrev cX4_warm : ByteArray := prog_6_method_7_code
def yX4_warm : MethodName := ⟨RX4, "warm", "(I)V"⟩
abbrev cX4_isOutside : ByteArray := prog_6_method_8_code
def yX4_isOutside : MethodName := ⟨RX4, "isOutside", "()Z"⟩
def RX5 : String := "LouvreCraft$Orbit"
def TX5 : u_T := fun k => match k with
  | 0 => ("LouvreCraft$Orbit", "period", "I", false)
  | 1 => ("LouvreCraft$Orbit", "shadeFrom", "I", false)
  | 2 => ("LouvreCraft$Orbit", "shadeTo", "I", false)
  | 3 => ("LouvreCraft$Orbit", "flux", "I", false)
  | 4 => ("LouvreCraft$Orbit", "albedo", "I", false)
  | _ => ("LouvreCraft$Orbit", "infrared", "I", false)
def tyX5 : Nat → FieldType := fun k => match k with
  | 0 => .int
  | 1 => .int
  | 2 => .int
  | 3 => .int
  | 4 => .int
  | _ => .int
abbrev wsX50 : List Cond := u_ws RX5 TX5 6
theorem nmX5 : ∀ a, a < 6 → ∀ b, b < 6 → a ≠ b → (TX5 a).2.1 ≠ (TX5 b).2.1 := by decide +kernel
theorem tyX5_ok : ∀ k, k < 6 → parseFieldDescriptor (TX5 k).2.2.1 = some (tyX5 k) := by decide +kernel
abbrev cX5_init : ByteArray := prog_7_method_1_code
def yX5_init : MethodName := ⟨RX5, "<init>", "()V"⟩
abbrev cX5_begin : ByteArray := prog_7_method_2_code
def yX5_begin : MethodName := ⟨RX5, "begin", "(IIIIII)V"⟩
abbrev cX5_copyFrom : ByteArray := prog_7_method_3_code
def yX5_copyFrom : MethodName := ⟨RX5, "copyFrom", "(LLouvreCraft$Orbit;)V"⟩
abbrev cX5_heatInto : ByteArray := prog_7_method_4_code
def yX5_heatInto : MethodName := ⟨RX5, "heatInto", "(LLouvreCraft$Node;Z)J"⟩
def RX6 : String := "LouvreCraft$Records"
def TX6 : u_T := fun k => match k with
  | 0 => ("LouvreCraft$Records", "violators", "[I", true)
  | 1 => ("LouvreCraft$Records", "violatorCount", "I", false)
  | 2 => ("LouvreCraft$Records", "shed", "I", false)
  | 3 => ("LouvreCraft$Records", "emitted", "J", false)
  | 4 => ("LouvreCraft$Records", "absorbed", "J", false)
  | _ => ("LouvreCraft$Records", "heated", "J", false)
def tyX6 : Nat → FieldType := fun k => match k with
  | 0 => .array .int
  | 1 => .int
  | 2 => .int
  | 3 => .long
  | 4 => .long
  | _ => .long
abbrev wsX60 : List Cond := u_ws RX6 TX6 6
theorem nmX6 : ∀ a, a < 6 → ∀ b, b < 6 → a ≠ b → (TX6 a).2.1 ≠ (TX6 b).2.1 := by decide +kernel
theorem tyX6_ok : ∀ k, k < 6 → parseFieldDescriptor (TX6 k).2.2.1 = some (tyX6 k) := by decide +kernel
abbrev cX6_init : ByteArray := prog_8_method_1_code
def yX6_init : MethodName := ⟨RX6, "<init>", "()V"⟩
abbrev cX6_clear : ByteArray := prog_8_method_2_code
def yX6_clear : MethodName := ⟨RX6, "clear", "()V"⟩
abbrev cX6_copyFrom : ByteArray := prog_8_method_3_code
def yX6_copyFrom : MethodName := ⟨RX6, "copyFrom", "(LLouvreCraft$Records;)V"⟩
abbrev cX6_addViolator : ByteArray := prog_8_method_4_code
def yX6_addViolator : MethodName := ⟨RX6, "addViolator", "(I)V"⟩
def RX7 : String := "LouvreCraft$RuleReader"
def TX7 : u_T := fun k => match k with
  | 0 => ("LouvreCraft$RuleReader", "text", "[B", true)
  | 1 => ("LouvreCraft$RuleReader", "length", "I", false)
  | 2 => ("LouvreCraft$RuleReader", "error", "I", false)
  | 3 => ("LouvreCraft$RuleReader", "errorAt", "I", false)
  | 4 => ("LouvreCraft$RuleReader", "rules", "LLouvreCraft$Rules;", true)
  | 5 => ("LouvreCraft$RuleReader", "kinds", "[I", true)
  | 6 => ("LouvreCraft$RuleReader", "starts", "[I", true)
  | 7 => ("LouvreCraft$RuleReader", "values", "[I", true)
  | 8 => ("LouvreCraft$RuleReader", "tokenCount", "I", false)
  | 9 => ("LouvreCraft$RuleReader", "at", "I", false)
  | 10 => ("LouvreCraft$RuleReader", "nodeCount", "I", false)
  | 11 => ("LouvreCraft$RuleReader", "louvreCount", "I", false)
  | 12 => ("LouvreCraft$RuleReader", "heaterCount", "I", false)
  | _ => ("LouvreCraft$RuleReader", "number", "I", false)
def tyX7 : Nat → FieldType := fun k => match k with
  | 0 => .array .byte
  | 1 => .int
  | 2 => .int
  | 3 => .int
  | 4 => .object "LouvreCraft$Rules"
  | 5 => .array .int
  | 6 => .array .int
  | 7 => .array .int
  | 8 => .int
  | 9 => .int
  | 10 => .int
  | 11 => .int
  | 12 => .int
  | _ => .int
abbrev wsX70 : List Cond := u_ws RX7 TX7 14
theorem nmX7 : ∀ a, a < 14 → ∀ b, b < 14 → a ≠ b → (TX7 a).2.1 ≠ (TX7 b).2.1 := by decide +kernel
theorem tyX7_ok : ∀ k, k < 14 → parseFieldDescriptor (TX7 k).2.2.1 = some (tyX7 k) := by decide +kernel
abbrev cX7_init : ByteArray := prog_9_method_1_code
def yX7_init : MethodName := ⟨RX7, "<init>", "()V"⟩
abbrev cX7_readRules : ByteArray := prog_9_method_2_code
def yX7_readRules : MethodName := ⟨RX7, "readRules", "(III)Z"⟩
abbrev cX7_splitText : ByteArray := prog_9_method_3_code
def yX7_splitText : MethodName := ⟨RX7, "splitText", "()V"⟩
abbrev cX7_skipBlanks : ByteArray := prog_9_method_4_code
def yX7_skipBlanks : MethodName := ⟨RX7, "skipBlanks", "(I)I"⟩
abbrev cX7_endOfToken : ByteArray := prog_9_method_5_code
def yX7_endOfToken : MethodName := ⟨RX7, "endOfToken", "(I)I"⟩
abbrev cX7_isLetter : ByteArray := prog_9_method_6_code
def yX7_isLetter : MethodName := ⟨RX7, "isLetter", "(B)Z"⟩
abbrev cX7_isDigit : ByteArray := prog_9_method_7_code
def yX7_isDigit : MethodName := ⟨RX7, "isDigit", "(B)Z"⟩
abbrev cX7_kindOf : ByteArray := prog_9_method_8_code
def yX7_kindOf : MethodName := ⟨RX7, "kindOf", "(II)I"⟩
abbrev cX7_kindOfWord : ByteArray := prog_9_method_9_code
def yX7_kindOfWord : MethodName := ⟨RX7, "kindOfWord", "(II)I"⟩
abbrev cX7_isWord : ByteArray := prog_9_method_10_code
def yX7_isWord : MethodName := ⟨RX7, "isWord", "(IIII)Z"⟩
abbrev cX7_numberIn : ByteArray := prog_9_method_11_code
def yX7_numberIn : MethodName := ⟨RX7, "numberIn", "(II)I"⟩
abbrev cX7_kind : ByteArray := prog_9_method_12_code
def yX7_kind : MethodName := ⟨RX7, "kind", "()I"⟩
abbrev cX7_fail : ByteArray := prog_9_method_13_code
def yX7_fail : MethodName := ⟨RX7, "fail", "(I)Z"⟩
abbrev cX7_take : ByteArray := prog_9_method_14_code
def yX7_take : MethodName := ⟨RX7, "take", "(I)Z"⟩
abbrev cX7_readTest : ByteArray := prog_9_method_15_code
def yX7_readTest : MethodName := ⟨RX7, "readTest", "(I)Z"⟩
abbrev cX7_takeComparison : ByteArray := prog_9_method_16_code
def yX7_takeComparison : MethodName := ⟨RX7, "takeComparison", "()Z"⟩
abbrev cX7_readSum : ByteArray := prog_9_method_17_code
def yX7_readSum : MethodName := ⟨RX7, "readSum", "(I)Z"⟩
abbrev cX7_readProduct : ByteArray := prog_9_method_18_code
def yX7_readProduct : MethodName := ⟨RX7, "readProduct", "(I)Z"⟩
abbrev cX7_readFactor : ByteArray := prog_9_method_19_code
def yX7_readFactor : MethodName := ⟨RX7, "readFactor", "(I)Z"⟩
abbrev cX7_takeNumber : ByteArray := prog_9_method_20_code
def yX7_takeNumber : MethodName := ⟨RX7, "takeNumber", "(I)Z"⟩
abbrev cX7_readAction : ByteArray := prog_9_method_21_code
def yX7_readAction : MethodName := ⟨RX7, "readAction", "(I)Z"⟩
abbrev cX7_takeWord : ByteArray := prog_9_method_22_code
def yX7_takeWord : MethodName := ⟨RX7, "takeWord", "(II)Z"⟩
def RX8 : String := "LouvreCraft$Rules"
def TX8 : u_T := fun k => match k with
  | 0 => ("LouvreCraft$Rules", "codes", "[I", true)
  | 1 => ("LouvreCraft$Rules", "arguments", "[I", true)
  | 2 => ("LouvreCraft$Rules", "testFrom", "[I", true)
  | 3 => ("LouvreCraft$Rules", "testTo", "[I", true)
  | 4 => ("LouvreCraft$Rules", "sumTo", "[I", true)
  | 5 => ("LouvreCraft$Rules", "actions", "[I", true)
  | 6 => ("LouvreCraft$Rules", "parts", "[I", true)
  | 7 => ("LouvreCraft$Rules", "size", "I", false)
  | 8 => ("LouvreCraft$Rules", "count", "I", false)
  | _ => ("LouvreCraft$Rules", "stack", "[J", true)
def tyX8 : Nat → FieldType := fun k => match k with
  | 0 => .array .int
  | 1 => .array .int
  | 2 => .array .int
  | 3 => .array .int
  | 4 => .array .int
  | 5 => .array .int
  | 6 => .array .int
  | 7 => .int
  | 8 => .int
  | _ => .array .long
abbrev wsX80 : List Cond := u_ws RX8 TX8 10
theorem nmX8 : ∀ a, a < 10 → ∀ b, b < 10 → a ≠ b → (TX8 a).2.1 ≠ (TX8 b).2.1 := by decide +kernel
theorem tyX8_ok : ∀ k, k < 10 → parseFieldDescriptor (TX8 k).2.2.1 = some (tyX8 k) := by decide +kernel
abbrev cX8_init : ByteArray := prog_10_method_1_code
def yX8_init : MethodName := ⟨RX8, "<init>", "()V"⟩
abbrev cX8_copyFrom : ByteArray := prog_10_method_2_code
def yX8_copyFrom : MethodName := ⟨RX8, "copyFrom", "(LLouvreCraft$Rules;)V"⟩
abbrev cX8_emitCode : ByteArray := prog_10_method_3_code
def yX8_emitCode : MethodName := ⟨RX8, "emitCode", "(II)V"⟩
abbrev cX8_isDue : ByteArray := prog_10_method_4_code
def yX8_isDue : MethodName := ⟨RX8, "isDue", "(ILLouvreCraft$Craft;)Z"⟩
abbrev cX8_act : ByteArray := prog_10_method_5_code
def yX8_act : MethodName := ⟨RX8, "act", "(ILLouvreCraft$Craft;)V"⟩
abbrev cX8_evaluate : ByteArray := prog_10_method_6_code
def yX8_evaluate : MethodName := ⟨RX8, "evaluate", "(IILLouvreCraft$Craft;)J"⟩
abbrev cX8_valueOf : ByteArray := prog_10_method_7_code
def yX8_valueOf : MethodName := ⟨RX8, "valueOf", "(IILLouvreCraft$Craft;)J"⟩
abbrev cX8_operate : ByteArray := prog_10_method_8_code
def yX8_operate : MethodName := ⟨RX8, "operate", "(IJJ)J"⟩
abbrev cX8_product : ByteArray := prog_10_method_9_code
def yX8_product : MethodName := ⟨RX8, "product", "(JJ)J"⟩
def RX9 : String := "LouvreCraft$Supply"
def TX9 : u_T := fun k => match k with
  | 0 => ("LouvreCraft$Supply", "array", "I", false)
  | 1 => ("LouvreCraft$Supply", "base", "I", false)
  | 2 => ("LouvreCraft$Supply", "capacity", "I", false)
  | _ => ("LouvreCraft$Supply", "charge", "I", false)
def tyX9 : Nat → FieldType := fun k => match k with
  | 0 => .int
  | 1 => .int
  | 2 => .int
  | _ => .int
abbrev wsX90 : List Cond := u_ws RX9 TX9 4
theorem nmX9 : ∀ a, a < 4 → ∀ b, b < 4 → a ≠ b → (TX9 a).2.1 ≠ (TX9 b).2.1 := by decide +kernel
theorem tyX9_ok : ∀ k, k < 4 → parseFieldDescriptor (TX9 k).2.2.1 = some (tyX9 k) := by decide +kernel
abbrev cX9_init : ByteArray := prog_11_method_1_code
def yX9_init : MethodName := ⟨RX9, "<init>", "()V"⟩
abbrev cX9_begin : ByteArray := prog_11_method_2_code
def yX9_begin : MethodName := ⟨RX9, "begin", "(IIII)V"⟩
abbrev cX9_copyFrom : ByteArray := prog_11_method_3_code
def yX9_copyFrom : MethodName := ⟨RX9, "copyFrom", "(LLouvreCraft$Supply;)V"⟩
def RX10 : String := "LouvreCraft"
def TX10 : u_T := fun k => match k with
  | 0 => ("LouvreCraft", "craft", "LLouvreCraft$Craft;", true)
  | 1 => ("LouvreCraft", "trial", "LLouvreCraft$Craft;", true)
  | 2 => ("LouvreCraft", "saved", "[LLouvreCraft$Craft;", true)
  | 3 => ("LouvreCraft", "isSaved", "[Z", true)
  | _ => ("LouvreCraft", "reader", "LLouvreCraft$RuleReader;", true)
def tyX10 : Nat → FieldType := fun k => match k with
  | 0 => .object "LouvreCraft$Craft"
  | 1 => .object "LouvreCraft$Craft"
  | 2 => .array (.object "LouvreCraft$Craft")
  | 3 => .array .boolean
  | _ => .object "LouvreCraft$RuleReader"
abbrev wsX100 : List Cond := u_ws RX10 TX10 5
theorem nmX10 : ∀ a, a < 5 → ∀ b, b < 5 → a ≠ b → (TX10 a).2.1 ≠ (TX10 b).2.1 := by decide +kernel
theorem tyX10_ok : ∀ k, k < 5 → parseFieldDescriptor (TX10 k).2.2.1 = some (tyX10 k) := by decide +kernel
abbrev cX10_init : ByteArray := prog_1_method_1_code
def yX10_init : MethodName := ⟨RX10, "<init>", "()V"⟩
abbrev cX10_addNode : ByteArray := prog_1_method_2_code
def yX10_addNode : MethodName := ⟨RX10, "addNode", "(IIIII)I"⟩
abbrev cX10_nodeCount : ByteArray := prog_1_method_3_code
def yX10_nodeCount : MethodName := ⟨RX10, "nodeCount", "()I"⟩
abbrev cX10_setLimits : ByteArray := prog_1_method_4_code
def yX10_setLimits : MethodName := ⟨RX10, "setLimits", "(III)I"⟩
abbrev cX10_link : ByteArray := prog_1_method_7_code
def yX10_link : MethodName := ⟨RX10, "link", "(III)I"⟩
abbrev cX10_conductance : ByteArray := prog_1_method_8_code
def yX10_conductance : MethodName := ⟨RX10, "conductance", "(II)I"⟩
abbrev cX10_linkCount : ByteArray := prog_1_method_9_code
def yX10_linkCount : MethodName := ⟨RX10, "linkCount", "()I"⟩
abbrev cX10_addLouvre : ByteArray := prog_1_method_10_code
def yX10_addLouvre : MethodName := ⟨RX10, "addLouvre", "(IIIII)I"⟩
abbrev cX10_addHeater : ByteArray := prog_1_method_11_code
def yX10_addHeater : MethodName := ⟨RX10, "addHeater", "(IIIII)I"⟩
abbrev cX10_louvreCount : ByteArray := prog_1_method_12_code
def yX10_louvreCount : MethodName := ⟨RX10, "louvreCount", "()I"⟩
abbrev cX10_opening : ByteArray := prog_1_method_13_code
def yX10_opening : MethodName := ⟨RX10, "opening", "(I)I"⟩
abbrev cX10_target : ByteArray := prog_1_method_14_code
def yX10_target : MethodName := ⟨RX10, "target", "(I)I"⟩
abbrev cX10_isHeld : ByteArray := prog_1_method_15_code
def yX10_isHeld : MethodName := ⟨RX10, "isHeld", "(I)I"⟩
abbrev cX10_heaterCount : ByteArray := prog_1_method_16_code
def yX10_heaterCount : MethodName := ⟨RX10, "heaterCount", "()I"⟩
abbrev cX10_heaterState : ByteArray := prog_1_method_17_code
def yX10_heaterState : MethodName := ⟨RX10, "heaterState", "(I)I"⟩
abbrev cX10_heaterMode : ByteArray := prog_1_method_18_code
def yX10_heaterMode : MethodName := ⟨RX10, "heaterMode", "(I)I"⟩
abbrev cX10_setMode : ByteArray := prog_1_method_19_code
def yX10_setMode : MethodName := ⟨RX10, "setMode", "(II)I"⟩
abbrev cX10_setOrbit : ByteArray := prog_1_method_20_code
def yX10_setOrbit : MethodName := ⟨RX10, "setOrbit", "(IIIIII)I"⟩
abbrev cX10_setPower : ByteArray := prog_1_method_21_code
def yX10_setPower : MethodName := ⟨RX10, "setPower", "(IIII)I"⟩
abbrev cX10_setStepLength : ByteArray := prog_1_method_22_code
def yX10_setStepLength : MethodName := ⟨RX10, "setStepLength", "(I)I"⟩
abbrev cX10_run : ByteArray := prog_1_method_23_code
def yX10_run : MethodName := ⟨RX10, "run", "(I)I"⟩
abbrev cX10_time : ByteArray := prog_1_method_24_code
def yX10_time : MethodName := ⟨RX10, "time", "()I"⟩
abbrev cX10_charge : ByteArray := prog_1_method_27_code
def yX10_charge : MethodName := ⟨RX10, "charge", "()I"⟩
abbrev cX10_usedPower : ByteArray := prog_1_method_28_code
def yX10_usedPower : MethodName := ⟨RX10, "usedPower", "()I"⟩
abbrev cX10_temperature : ByteArray := prog_1_method_29_code
def yX10_temperature : MethodName := ⟨RX10, "temperature", "(I)I"⟩
abbrev cX10_load : ByteArray := prog_1_method_30_code
def yX10_load : MethodName := ⟨RX10, "load", "(I)I"⟩
abbrev cX10_absorbedHeat : ByteArray := prog_1_method_31_code
def yX10_absorbedHeat : MethodName := ⟨RX10, "absorbedHeat", "(I)J"⟩
abbrev cX10_emittedHeat : ByteArray := prog_1_method_32_code
def yX10_emittedHeat : MethodName := ⟨RX10, "emittedHeat", "(I)J"⟩
abbrev cX10_conductedHeat : ByteArray := prog_1_method_33_code
def yX10_conductedHeat : MethodName := ⟨RX10, "conductedHeat", "(I)J"⟩
abbrev cX10_netHeat : ByteArray := prog_1_method_34_code
def yX10_netHeat : MethodName := ⟨RX10, "netHeat", "(I)J"⟩
abbrev cX10_margin : ByteArray := prog_1_method_35_code
def yX10_margin : MethodName := ⟨RX10, "margin", "(I)I"⟩
abbrev cX10_resetRecords : ByteArray := prog_1_method_36_code
def yX10_resetRecords : MethodName := ⟨RX10, "resetRecords", "()I"⟩
abbrev cX10_lowest : ByteArray := prog_1_method_37_code
def yX10_lowest : MethodName := ⟨RX10, "lowest", "(I)I"⟩
abbrev cX10_highest : ByteArray := prog_1_method_38_code
def yX10_highest : MethodName := ⟨RX10, "highest", "(I)I"⟩
abbrev cX10_violations : ByteArray := prog_1_method_39_code
def yX10_violations : MethodName := ⟨RX10, "violations", "(I)I"⟩
abbrev cX10_firstViolation : ByteArray := prog_1_method_40_code
def yX10_firstViolation : MethodName := ⟨RX10, "firstViolation", "(I)I"⟩
abbrev cX10_violatorCount : ByteArray := prog_1_method_41_code
def yX10_violatorCount : MethodName := ⟨RX10, "violatorCount", "()I"⟩
abbrev cX10_shedCount : ByteArray := prog_1_method_43_code
def yX10_shedCount : MethodName := ⟨RX10, "shedCount", "()I"⟩
abbrev cX10_energy : ByteArray := prog_1_method_44_code
def yX10_energy : MethodName := ⟨RX10, "energy", "(I)J"⟩
abbrev cX10_appendText : ByteArray := prog_1_method_51_code
def yX10_appendText : MethodName := ⟨RX10, "appendText", "(I)I"⟩
abbrev cX10_truncateText : ByteArray := prog_1_method_52_code
def yX10_truncateText : MethodName := ⟨RX10, "truncateText", "(I)I"⟩
abbrev cX10_loadRules : ByteArray := prog_1_method_53_code
def yX10_loadRules : MethodName := ⟨RX10, "loadRules", "()I"⟩
abbrev cX10_save : ByteArray := prog_1_method_58_code
def yX10_save : MethodName := ⟨RX10, "save", "(I)Z"⟩
abbrev cX10_restore : ByteArray := prog_1_method_59_code
def yX10_restore : MethodName := ⟨RX10, "restore", "(I)Z"⟩
abbrev cX10_within : ByteArray := prog_1_method_60_code
def yX10_within : MethodName := ⟨RX10, "within", "(III)Z"⟩
abbrev cX10_limited : ByteArray := prog_1_method_61_code
def yX10_limited : MethodName := ⟨RX10, "limited", "(JJJ)J"⟩
abbrev cX10_quotient : ByteArray := prog_1_method_62_code
def yX10_quotient : MethodName := ⟨RX10, "quotient", "(JJ)J"⟩
def RX11 : String := "LouvreCraftModel"
def TX11 : u_T := fun k => match k with
  | _ => ("", "", "", false)
def tyX11 : Nat → FieldType := fun k => match k with
  | _ => .int
abbrev wsX110 : List Cond := u_ws RX11 TX11 0
theorem nmX11 : ∀ a, a < 0 → ∀ b, b < 0 → a ≠ b → (TX11 a).2.1 ≠ (TX11 b).2.1 := by decide +kernel
theorem tyX11_ok : ∀ k, k < 0 → parseFieldDescriptor (TX11 k).2.2.1 = some (tyX11 k) := by decide +kernel
def RJx145de : String := "java/io/Serializable"
def TJx145de : u_T := fun k => match k with
  | _ => ("", "", "", false)
def tyJx145de : Nat → FieldType := fun k => match k with
  | _ => .int
def RJ5 : String := "java/lang/AbstractStringBuilder"
def TJ5 : u_T := fun k => match k with
  | _ => ("", "", "", false)
def tyJ5 : Nat → FieldType := fun k => match k with
  | _ => .int
abbrev cJ5_init_d00df : ByteArray := prog_14_method_2_code
def yJ5_init_d00df : MethodName := ⟨RJ5, "<init>", "(I)V"⟩
abbrev cJ5_length_8abf5 : ByteArray := prog_14_method_6_code
def yJ5_length_8abf5 : MethodName := ⟨RJ5, "length", "()I"⟩
abbrev cJ5_ensureCapacityInternal_d00df : ByteArray := prog_14_method_9_code
def yJ5_ensureCapacityInternal_d00df : MethodName := ⟨RJ5, "ensureCapacityInternal", "(I)V"⟩
abbrev cJ5_newCapacity_0f7a4 : ByteArray := prog_14_method_10_code
def yJ5_newCapacity_0f7a4 : MethodName := ⟨RJ5, "newCapacity", "(I)I"⟩
abbrev cJ5_inflate_da8c8 : ByteArray := prog_14_method_11_code
def yJ5_inflate_da8c8 : MethodName := ⟨RJ5, "inflate", "()V"⟩
abbrev cJ5_append_cf1ce : ByteArray := prog_14_method_22_code
def yJ5_append_cf1ce : MethodName := ⟨RJ5, "append", "(Ljava/lang/String;)Ljava/lang/AbstractStringBuilder;"⟩
abbrev cJ5_appendNull_278bc : ByteArray := prog_14_method_26_code
def yJ5_appendNull_278bc : MethodName := ⟨RJ5, "appendNull", "()Ljava/lang/AbstractStringBuilder;"⟩
abbrev cJ5_append_c97b9 : ByteArray := prog_14_method_32_code
def yJ5_append_c97b9 : MethodName := ⟨RJ5, "append", "(I)Ljava/lang/AbstractStringBuilder;"⟩
abbrev cJ5_getValue_6d5f1 : ByteArray := prog_14_method_64_code
def yJ5_getValue_6d5f1 : MethodName := ⟨RJ5, "getValue", "()[B"⟩
abbrev cJ5_isLatin1_aae02 : ByteArray := prog_14_method_68_code
def yJ5_isLatin1_aae02 : MethodName := ⟨RJ5, "isLatin1", "()Z"⟩
abbrev cJ5_inflateIfNeededFor_a7421 : ByteArray := prog_14_method_71_code
def yJ5_inflateIfNeededFor_a7421 : MethodName := ⟨RJ5, "inflateIfNeededFor", "(Ljava/lang/String;)V"⟩
abbrev cJ5_putStringAt_47b60 : ByteArray := prog_14_method_73_code
def yJ5_putStringAt_47b60 : MethodName := ⟨RJ5, "putStringAt", "(ILjava/lang/String;)V"⟩
def RJx2cfe8 : String := "java/lang/Appendable"
def TJx2cfe8 : u_T := fun k => match k with
  | _ => ("", "", "", false)
def tyJx2cfe8 : Nat → FieldType := fun k => match k with
  | _ => .int
def RJx9f9b0 : String := "java/lang/CharSequence"
def TJx9f9b0 : u_T := fun k => match k with
  | _ => ("", "", "", false)
def tyJx9f9b0 : Nat → FieldType := fun k => match k with
  | _ => .int
def RJ11 : String := "java/lang/Character"
def TJ11 : u_T := fun k => match k with
  | _ => ("", "", "", false)
def tyJ11 : Nat → FieldType := fun k => match k with
  | _ => .int
abbrev cJ11_isValidCodePoint_9a6ad : ByteArray := prog_15_method_11_code
def yJ11_isValidCodePoint_9a6ad : MethodName := ⟨RJ11, "isValidCodePoint", "(I)Z"⟩
abbrev cJ11_highSurrogate_5068e : ByteArray := prog_15_method_28_code
def yJ11_highSurrogate_5068e : MethodName := ⟨RJ11, "highSurrogate", "(I)C"⟩
abbrev cJ11_lowSurrogate_5068e : ByteArray := prog_15_method_29_code
def yJ11_lowSurrogate_5068e : MethodName := ⟨RJ11, "lowSurrogate", "(I)C"⟩
def RJx8e188 : String := "java/lang/Cloneable"
def TJx8e188 : u_T := fun k => match k with
  | _ => ("", "", "", false)
def tyJx8e188 : Nat → FieldType := fun k => match k with
  | _ => .int
def RJxb160c : String := "java/lang/Comparable"
def TJxb160c : u_T := fun k => match k with
  | _ => ("", "", "", false)
def tyJxb160c : Nat → FieldType := fun k => match k with
  | _ => .int
def RJ6 : String := "java/lang/Integer"
def TJ6 : u_T := fun k => match k with
  | _ => ("", "", "", false)
def tyJ6 : Nat → FieldType := fun k => match k with
  | _ => .int
abbrev cJ6_getChars_ba4f3 : ByteArray := prog_17_method_12_code
def yJ6_getChars_ba4f3 : MethodName := ⟨RJ6, "getChars", "(II[B)I"⟩
abbrev cJ6_stringSize_0f7a4 : ByteArray := prog_17_method_13_code
def yJ6_stringSize_0f7a4 : MethodName := ⟨RJ6, "stringSize", "(I)I"⟩
def RJ9 : String := "java/lang/Math"
def TJ9 : u_T := fun k => match k with
  | _ => ("", "", "", false)
def tyJ9 : Nat → FieldType := fun k => match k with
  | _ => .int
abbrev cJ9_abs_067f4 : ByteArray := prog_18_method_61_code
def yJ9_abs_067f4 : MethodName := ⟨RJ9, "abs", "(J)J"⟩
abbrev cJ9_max_7cf53 : ByteArray := prog_18_method_65_code
def yJ9_max_7cf53 : MethodName := ⟨RJ9, "max", "(II)I"⟩
abbrev cJ9_max_f86c9 : ByteArray := prog_18_method_66_code
def yJ9_max_f86c9 : MethodName := ⟨RJ9, "max", "(JJ)J"⟩
abbrev cJ9_min_7cf53 : ByteArray := prog_18_method_69_code
def yJ9_min_7cf53 : MethodName := ⟨RJ9, "min", "(II)I"⟩
def RJxd2413 : String := "java/lang/Number"
def TJxd2413 : u_T := fun k => match k with
  | _ => ("", "", "", false)
def tyJxd2413 : Nat → FieldType := fun k => match k with
  | _ => .int
def RJ0 : String := "java/lang/String"
def TJ0 : u_T := fun k => match k with
  | 0 => ("java/lang/String", "value", "[B", true)
  | 1 => ("java/lang/String", "coder", "B", true)
  | 2 => ("java/lang/String", "hash", "I", false)
  | _ => ("java/lang/String", "hashIsZero", "Z", false)
def tyJ0 : Nat → FieldType := fun k => match k with
  | 0 => .array .byte
  | 1 => .byte
  | 2 => .int
  | _ => .boolean
theorem nmJ0 : ∀ a, a < 4 → ∀ b, b < 4 → a ≠ b → (TJ0 a).2.1 ≠ (TJ0 b).2.1 := by decide +kernel
theorem tyJ0_ok : ∀ k, k < 4 → parseFieldDescriptor (TJ0 k).2.2.1 = some (tyJ0 k) := by decide +kernel
abbrev cJ0_init_81219 : ByteArray := prog_20_method_53_code
def yJ0_init_81219 : MethodName := ⟨RJ0, "<init>", "(Ljava/lang/StringBuilder;)V"⟩
abbrev cJ0_length_8abf5 : ByteArray := prog_20_method_54_code
def yJ0_length_8abf5 : MethodName := ⟨RJ0, "length", "()I"⟩
abbrev cJ0_charAt_5068e : ByteArray := prog_20_method_56_code
def yJ0_charAt_5068e : MethodName := ⟨RJ0, "charAt", "(I)C"⟩
abbrev cJ0_indexOf_0f7a4 : ByteArray := prog_20_method_79_code
def yJ0_indexOf_0f7a4 : MethodName := ⟨RJ0, "indexOf", "(I)I"⟩
abbrev cJ0_indexOf_7cf53 : ByteArray := prog_20_method_80_code
def yJ0_indexOf_7cf53 : MethodName := ⟨RJ0, "indexOf", "(II)I"⟩
abbrev cJ0_getBytes_840e7 : ByteArray := prog_20_method_147_code
def yJ0_getBytes_840e7 : MethodName := ⟨RJ0, "getBytes", "([BIB)V"⟩
abbrev cJ0_init_db425 : ByteArray := prog_20_method_150_code
def yJ0_init_db425 : MethodName := ⟨RJ0, "<init>", "(Ljava/lang/AbstractStringBuilder;Ljava/lang/Void;)V"⟩
abbrev cJ0_coder_7d493 : ByteArray := prog_20_method_152_code
def yJ0_coder_7d493 : MethodName := ⟨RJ0, "coder", "()B"⟩
abbrev cJ0_isLatin1_aae02 : ByteArray := prog_20_method_154_code
def yJ0_isLatin1_aae02 : MethodName := ⟨RJ0, "isLatin1", "()Z"⟩
abbrev cJ0_checkIndex_df160 : ByteArray := prog_20_method_155_code
def yJ0_checkIndex_df160 : MethodName := ⟨RJ0, "checkIndex", "(II)V"⟩
abbrev cJ0_checkBoundsOffCount_cabcc : ByteArray := prog_20_method_157_code
def yJ0_checkBoundsOffCount_cabcc : MethodName := ⟨RJ0, "checkBoundsOffCount", "(III)I"⟩
abbrev cJ0_checkBoundsBeginEnd_23922 : ByteArray := prog_20_method_158_code
def yJ0_checkBoundsBeginEnd_23922 : MethodName := ⟨RJ0, "checkBoundsBeginEnd", "(III)V"⟩
def RJ4 : String := "java/lang/StringBuilder"
def TJ4 : u_T := fun k => match k with
  | 0 => ("java/lang/AbstractStringBuilder", "value", "[B", false)
  | 1 => ("java/lang/AbstractStringBuilder", "coder", "B", false)
  | 2 => ("java/lang/AbstractStringBuilder", "maybeLatin1", "Z", false)
  | _ => ("java/lang/AbstractStringBuilder", "count", "I", false)
def tyJ4 : Nat → FieldType := fun k => match k with
  | 0 => .array .byte
  | 1 => .byte
  | 2 => .boolean
  | _ => .int
theorem nmJ4 : ∀ a, a < 4 → ∀ b, b < 4 → a ≠ b → (TJ4 a).2.1 ≠ (TJ4 b).2.1 := by decide +kernel
theorem tyJ4_ok : ∀ k, k < 4 → parseFieldDescriptor (TJ4 k).2.2.1 = some (tyJ4 k) := by decide +kernel
abbrev cJ4_init_da8c8 : ByteArray := prog_21_method_1_code
def yJ4_init_da8c8 : MethodName := ⟨RJ4, "<init>", "()V"⟩
abbrev cJ4_append_15ec4 : ByteArray := prog_21_method_7_code
def yJ4_append_15ec4 : MethodName := ⟨RJ4, "append", "(Ljava/lang/String;)Ljava/lang/StringBuilder;"⟩
abbrev cJ4_append_bf812 : ByteArray := prog_21_method_15_code
def yJ4_append_bf812 : MethodName := ⟨RJ4, "append", "(I)Ljava/lang/StringBuilder;"⟩
abbrev cJ4_toString_0e30d : ByteArray := prog_21_method_42_code
def yJ4_toString_0e30d : MethodName := ⟨RJ4, "toString", "()Ljava/lang/String;"⟩
abbrev cJ4_length_8abf5 : ByteArray := prog_21_method_93_code
def yJ4_length_8abf5 : MethodName := ⟨RJ4, "length", "()I"⟩
def RJ1 : String := "java/lang/StringLatin1"
def TJ1 : u_T := fun k => match k with
  | _ => ("", "", "", false)
def tyJ1 : Nat → FieldType := fun k => match k with
  | _ => .int
abbrev cJ1_charAt_3b067 : ByteArray := prog_22_method_2_code
def yJ1_charAt_3b067 : MethodName := ⟨RJ1, "charAt", "([BI)C"⟩
abbrev cJ1_canEncode_9a6ad : ByteArray := prog_22_method_4_code
def yJ1_canEncode_9a6ad : MethodName := ⟨RJ1, "canEncode", "(I)Z"⟩
abbrev cJ1_indexOf_4cfef : ByteArray := prog_22_method_22_code
def yJ1_indexOf_4cfef : MethodName := ⟨RJ1, "indexOf", "([BIII)I"⟩
abbrev cJ1_indexOfChar_4cfef : ByteArray := prog_22_method_23_code
def yJ1_indexOfChar_4cfef : MethodName := ⟨RJ1, "indexOfChar", "([BIII)I"⟩
abbrev cJ1_inflate_0e8fd : ByteArray := prog_22_method_50_code
def yJ1_inflate_0e8fd : MethodName := ⟨RJ1, "inflate", "([BI[BII)V"⟩
def RJ2 : String := "java/lang/StringUTF16"
def TJ2 : u_T := fun k => match k with
  | _ => ("", "", "", false)
def tyJ2 : Nat → FieldType := fun k => match k with
  | _ => .int
abbrev cJ2_newBytesFor_77867 : ByteArray := prog_23_method_2_code
def yJ2_newBytesFor_77867 : MethodName := ⟨RJ2, "newBytesFor", "(I)[B"⟩
abbrev cJ2_newBytesLength_0f7a4 : ByteArray := prog_23_method_3_code
def yJ2_newBytesLength_0f7a4 : MethodName := ⟨RJ2, "newBytesLength", "(I)I"⟩
abbrev cJ2_putChar_b72d1 : ByteArray := prog_23_method_4_code
def yJ2_putChar_b72d1 : MethodName := ⟨RJ2, "putChar", "([BII)V"⟩
abbrev cJ2_getChar_3b067 : ByteArray := prog_23_method_5_code
def yJ2_getChar_3b067 : MethodName := ⟨RJ2, "getChar", "([BI)C"⟩
abbrev cJ2_length_9d52b : ByteArray := prog_23_method_6_code
def yJ2_length_9d52b : MethodName := ⟨RJ2, "length", "([B)I"⟩
abbrev cJ2_coderFromArrayLen_85cad : ByteArray := prog_23_method_15_code
def yJ2_coderFromArrayLen_85cad : MethodName := ⟨RJ2, "coderFromArrayLen", "([BI)B"⟩
abbrev cJ2_compress_39247 : ByteArray := prog_23_method_17_code
def yJ2_compress_39247 : MethodName := ⟨RJ2, "compress", "([BII)[B"⟩
abbrev cJ2_compress_5af95 : ByteArray := prog_23_method_22_code
def yJ2_compress_5af95 : MethodName := ⟨RJ2, "compress", "([BI[BII)I"⟩
abbrev cJ2_indexOf_4cfef : ByteArray := prog_23_method_40_code
def yJ2_indexOf_4cfef : MethodName := ⟨RJ2, "indexOf", "([BIII)I"⟩
abbrev cJ2_indexOfChar_4cfef : ByteArray := prog_23_method_47_code
def yJ2_indexOfChar_4cfef : MethodName := ⟨RJ2, "indexOfChar", "([BIII)I"⟩
abbrev cJ2_indexOfCharUnsafe_4cfef : ByteArray := prog_23_method_48_code
def yJ2_indexOfCharUnsafe_4cfef : MethodName := ⟨RJ2, "indexOfCharUnsafe", "([BIII)I"⟩
abbrev cJ2_indexOfSupplementary_4cfef : ByteArray := prog_23_method_49_code
def yJ2_indexOfSupplementary_4cfef : MethodName := ⟨RJ2, "indexOfSupplementary", "([BIII)I"⟩
abbrev cJ2_getChars_46870 : ByteArray := prog_23_method_77_code
def yJ2_getChars_46870 : MethodName := ⟨RJ2, "getChars", "(III[B)I"⟩
abbrev cJ2_putCharsAt_cd4e5 : ByteArray := prog_23_method_81_code
def yJ2_putCharsAt_cd4e5 : MethodName := ⟨RJ2, "putCharsAt", "([BICCCC)I"⟩
abbrev cJ2_charAt_3b067 : ByteArray := prog_23_method_83_code
def yJ2_charAt_3b067 : MethodName := ⟨RJ2, "charAt", "([BI)C"⟩
abbrev cJ2_inflate_0e8fd : ByteArray := prog_23_method_86_code
def yJ2_inflate_0e8fd : MethodName := ⟨RJ2, "inflate", "([BI[BII)V"⟩
abbrev cJ2_getChars_ba4f3 : ByteArray := prog_23_method_89_code
def yJ2_getChars_ba4f3 : MethodName := ⟨RJ2, "getChars", "(II[B)I"⟩
abbrev cJ2_checkIndex_2214a : ByteArray := prog_23_method_91_code
def yJ2_checkIndex_2214a : MethodName := ⟨RJ2, "checkIndex", "(I[B)V"⟩
abbrev cJ2_checkBoundsBeginEnd_d044e : ByteArray := prog_23_method_93_code
def yJ2_checkBoundsBeginEnd_d044e : MethodName := ⟨RJ2, "checkBoundsBeginEnd", "(II[B)V"⟩
abbrev cJ2_checkBoundsOffCount_d044e : ByteArray := prog_23_method_94_code
def yJ2_checkBoundsOffCount_d044e : MethodName := ⟨RJ2, "checkBoundsOffCount", "(II[B)V"⟩
def RJ10 : String := "java/lang/System"
def TJ10 : u_T := fun k => match k with
  | _ => ("", "", "", false)
def tyJ10 : Nat → FieldType := fun k => match k with
  | _ => .int
def RJxfd54e : String := "java/lang/constant/Constable"
def TJxfd54e : u_T := fun k => match k with
  | _ => ("", "", "", false)
def tyJxfd54e : Nat → FieldType := fun k => match k with
  | _ => .int
def RJx3cf43 : String := "java/lang/constant/ConstantDesc"
def TJx3cf43 : u_T := fun k => match k with
  | _ => ("", "", "", false)
def tyJx3cf43 : Nat → FieldType := fun k => match k with
  | _ => .int
def RJ7 : String := "java/util/Arrays"
def TJ7 : u_T := fun k => match k with
  | _ => ("", "", "", false)
def tyJ7 : Nat → FieldType := fun k => match k with
  | _ => .int
abbrev cJ7_copyOf_9075b : ByteArray := prog_25_method_121_code
def yJ7_copyOf_9075b : MethodName := ⟨RJ7, "copyOf", "([BI)[B"⟩
abbrev cJ7_checkLength_df160 : ByteArray := prog_25_method_131_code
def yJ7_checkLength_df160 : MethodName := ⟨RJ7, "checkLength", "(II)V"⟩
abbrev cJ7_copyOfRange_39247 : ByteArray := prog_25_method_132_code
def yJ7_copyOfRange_39247 : MethodName := ⟨RJ7, "copyOfRange", "([BII)[B"⟩
abbrev cJ7_copyOfRangeByte_39247 : ByteArray := prog_25_method_133_code
def yJ7_copyOfRangeByte_39247 : MethodName := ⟨RJ7, "copyOfRangeByte", "([BII)[B"⟩
def RJ8 : String := "jdk/internal/util/ArraysSupport"
def TJ8 : u_T := fun k => match k with
  | _ => ("", "", "", false)
def tyJ8 : Nat → FieldType := fun k => match k with
  | _ => .int
abbrev cJ8_newLength_cabcc : ByteArray := prog_26_method_27_code
def yJ8_newLength_cabcc : MethodName := ⟨RJ8, "newLength", "(III)I"⟩
abbrev cJ8_hugeLength_7cf53 : ByteArray := prog_26_method_28_code
def yJ8_hugeLength_7cf53 : MethodName := ⟨RJ8, "hugeLength", "(II)I"⟩
def RJ3 : String := "jdk/internal/util/Preconditions"
def TJ3 : u_T := fun k => match k with
  | _ => ("", "", "", false)
def tyJ3 : Nat → FieldType := fun k => match k with
  | _ => .int
abbrev cJ3_checkIndex_8e157 : ByteArray := prog_27_method_11_code
def yJ3_checkIndex_8e157 : MethodName := ⟨RJ3, "checkIndex", "(IILjava/util/function/BiFunction;)I"⟩
abbrev cJ3_checkFromToIndex_8c36e : ByteArray := prog_27_method_12_code
def yJ3_checkFromToIndex_8c36e : MethodName := ⟨RJ3, "checkFromToIndex", "(IIILjava/util/function/BiFunction;)I"⟩
abbrev cJ3_checkFromIndexSize_8c36e : ByteArray := prog_27_method_13_code
def yJ3_checkFromIndexSize_8c36e : MethodName := ⟨RJ3, "checkFromIndexSize", "(IIILjava/util/function/BiFunction;)I"⟩
def RL : String := "LouvreCraftLaw"
def TL : u_T := fun k => match k with
  | 0 => ("LouvreCraftLaw", "x", "LLouvreCraft;", true)
  | 1 => ("LouvreCraftLaw", "ints", "[I", false)
  | 2 => ("LouvreCraftLaw", "next", "I", false)
  | 3 => ("LouvreCraftLaw", "priority", "[I", false)
  | 4 => ("LouvreCraftLaw", "power", "[I", false)
  | _ => ("LouvreCraftLaw", "rate", "[I", false)
def tyL : Nat → FieldType := fun k => match k with
  | 0 => .object "LouvreCraft"
  | 1 => .array .int
  | 2 => .int
  | 3 => .array .int
  | 4 => .array .int
  | _ => .array .int
theorem nmL : ∀ a, a < 6 → ∀ b, b < 6 → a ≠ b → (TL a).2.1 ≠ (TL b).2.1 := by decide +kernel
theorem tyL_ok : ∀ k, k < 6 → parseFieldDescriptor (TL k).2.2.1 = some (tyL k) := by decide +kernel
abbrev cL_init : ByteArray := method_1_code
def yL_init : MethodName := ⟨RL, "<init>", "()V"⟩
abbrev cL_at : ByteArray := method_2_code
def yL_at : MethodName := ⟨RL, "at", "([II)I"⟩
abbrev cL_draw : ByteArray := method_3_code
def yL_draw : MethodName := ⟨RL, "draw", "(I)I"⟩
abbrev cL_put : ByteArray := method_4_code
def yL_put : MethodName := ⟨RL, "put", "(Ljava/lang/String;)V"⟩
abbrev cL_builds : ByteArray := method_5_code
def yL_builds : MethodName := ⟨RL, "builds", "()Z"⟩
abbrev cL_balances : ByteArray := method_6_code
def yL_balances : MethodName := ⟨RL, "balances", "()Z"⟩
abbrev cL_moves : ByteArray := method_7_code
def yL_moves : MethodName := ⟨RL, "moves", "()Z"⟩
abbrev cL_sheds : ByteArray := method_8_code
def yL_sheds : MethodName := ⟨RL, "sheds", "()Z"⟩
abbrev cL_holdsCharge : ByteArray := method_9_code
def yL_holdsCharge : MethodName := ⟨RL, "holdsCharge", "()Z"⟩
abbrev cL_rests : ByteArray := method_10_code
def yL_rests : MethodName := ⟨RL, "rests", "()Z"⟩
abbrev cL_cools : ByteArray := method_11_code
def yL_cools : MethodName := ⟨RL, "cools", "()Z"⟩
abbrev cL_changes : ByteArray := method_12_code
def yL_changes : MethodName := ⟨RL, "changes", "()Z"⟩
abbrev cL_law : ByteArray := code
def yL_law : MethodName := ⟨RL, "law", "([I)Z"⟩
abbrev cL_flies : ByteArray := method_14_code
def yL_flies : MethodName := ⟨RL, "flies", "([I)Z"⟩
end
section
theorem dX0_init_0 : decode cX0_init 0 = .ok (.aload_n 0, 1) := by decide +kernel
theorem dX0_init_1 : decode cX0_init 1 = .ok (.invokespecial 3, 3) := by decide +kernel
theorem dX0_init_4 : decode cX0_init 4 = .ok (.aload_n 0, 1) := by decide +kernel
theorem dX0_init_5 : decode cX0_init 5 = .ok (.bipush 12, 2) := by decide +kernel
theorem dX0_init_7 : decode cX0_init 7 = .ok (.anewarray 9, 3) := by decide +kernel
theorem dX0_init_10 : decode cX0_init 10 = .ok (.putfield 11, 3) := by decide +kernel
theorem dX0_init_13 : decode cX0_init 13 = .ok (.aload_n 0, 1) := by decide +kernel
theorem dX0_init_14 : decode cX0_init 14 = .ok (.bipush 24, 2) := by decide +kernel
theorem dX0_init_16 : decode cX0_init 16 = .ok (.anewarray 17, 3) := by decide +kernel
theorem dX0_init_19 : decode cX0_init 19 = .ok (.putfield 19, 3) := by decide +kernel
theorem dX0_init_22 : decode cX0_init 22 = .ok (.aload_n 0, 1) := by decide +kernel
theorem dX0_init_23 : decode cX0_init 23 = .ok (.bipush 6, 2) := by decide +kernel
theorem dX0_init_25 : decode cX0_init 25 = .ok (.anewarray 23, 3) := by decide +kernel
theorem dX0_init_28 : decode cX0_init 28 = .ok (.putfield 25, 3) := by decide +kernel
theorem dX0_init_31 : decode cX0_init 31 = .ok (.aload_n 0, 1) := by decide +kernel
theorem dX0_init_32 : decode cX0_init 32 = .ok (.bipush 8, 2) := by decide +kernel
theorem dX0_init_34 : decode cX0_init 34 = .ok (.anewarray 29, 3) := by decide +kernel
theorem dX0_init_37 : decode cX0_init 37 = .ok (.putfield 31, 3) := by decide +kernel
theorem dX0_init_40 : decode cX0_init 40 = .ok (.aload_n 0, 1) := by decide +kernel
theorem dX0_init_41 : decode cX0_init 41 = .ok (.bipush 8, 2) := by decide +kernel
theorem dX0_init_43 : decode cX0_init 43 = .ok (.newarray .int, 2) := by decide +kernel
theorem dX0_init_45 : decode cX0_init 45 = .ok (.putfield 35, 3) := by decide +kernel
theorem dX0_init_48 : decode cX0_init 48 = .ok (.aload_n 0, 1) := by decide +kernel
theorem dX0_init_49 : decode cX0_init 49 = .ok (.new 39, 3) := by decide +kernel
theorem dX0_init_52 : decode cX0_init 52 = .ok (.dup, 1) := by decide +kernel
theorem dX0_init_53 : decode cX0_init 53 = .ok (.invokespecial 41, 3) := by decide +kernel
theorem dX0_init_56 : decode cX0_init 56 = .ok (.putfield 42, 3) := by decide +kernel
theorem dX0_init_59 : decode cX0_init 59 = .ok (.aload_n 0, 1) := by decide +kernel
theorem dX0_init_60 : decode cX0_init 60 = .ok (.new 46, 3) := by decide +kernel
theorem dX0_init_63 : decode cX0_init 63 = .ok (.dup, 1) := by decide +kernel
theorem dX0_init_64 : decode cX0_init 64 = .ok (.invokespecial 48, 3) := by decide +kernel
theorem dX0_init_67 : decode cX0_init 67 = .ok (.putfield 49, 3) := by decide +kernel
theorem dX0_init_70 : decode cX0_init 70 = .ok (.aload_n 0, 1) := by decide +kernel
theorem dX0_init_71 : decode cX0_init 71 = .ok (.new 53, 3) := by decide +kernel
theorem dX0_init_74 : decode cX0_init 74 = .ok (.dup, 1) := by decide +kernel
theorem dX0_init_75 : decode cX0_init 75 = .ok (.invokespecial 55, 3) := by decide +kernel
theorem dX0_init_78 : decode cX0_init 78 = .ok (.putfield 56, 3) := by decide +kernel
theorem dX0_init_81 : decode cX0_init 81 = .ok (.aload_n 0, 1) := by decide +kernel
theorem dX0_init_82 : decode cX0_init 82 = .ok (.new 60, 3) := by decide +kernel
theorem dX0_init_85 : decode cX0_init 85 = .ok (.dup, 1) := by decide +kernel
theorem dX0_init_86 : decode cX0_init 86 = .ok (.invokespecial 62, 3) := by decide +kernel
theorem dX0_init_89 : decode cX0_init 89 = .ok (.putfield 63, 3) := by decide +kernel
theorem dX0_init_92 : decode cX0_init 92 = .ok (.aload_n 0, 1) := by decide +kernel
theorem dX0_init_93 : decode cX0_init 93 = .ok (.bipush 10, 2) := by decide +kernel
theorem dX0_init_95 : decode cX0_init 95 = .ok (.putfield 67, 3) := by decide +kernel
theorem dX0_init_98 : decode cX0_init 98 = .ok (.iconst 0, 1) := by decide +kernel
theorem dX0_init_99 : decode cX0_init 99 = .ok (.istore_n 1, 1) := by decide +kernel
theorem dX0_init_100 : decode cX0_init 100 = .ok (.iload_n 1, 1) := by decide +kernel
theorem dX0_init_101 : decode cX0_init 101 = .ok (.bipush 12, 2) := by decide +kernel
theorem dX0_init_103 : decode cX0_init 103 = .ok (.if_icmp .ge 22, 3) := by decide +kernel
theorem dX0_init_106 : decode cX0_init 106 = .ok (.aload_n 0, 1) := by decide +kernel
theorem dX0_init_107 : decode cX0_init 107 = .ok (.getfield 11, 3) := by decide +kernel
theorem dX0_init_110 : decode cX0_init 110 = .ok (.iload_n 1, 1) := by decide +kernel
theorem dX0_init_111 : decode cX0_init 111 = .ok (.new 9, 3) := by decide +kernel
theorem dX0_init_114 : decode cX0_init 114 = .ok (.dup, 1) := by decide +kernel
theorem dX0_init_115 : decode cX0_init 115 = .ok (.invokespecial 71, 3) := by decide +kernel
theorem dX0_init_118 : decode cX0_init 118 = .ok (.aastore, 1) := by decide +kernel
theorem dX0_init_119 : decode cX0_init 119 = .ok (.iinc 1 1, 3) := by decide +kernel
theorem dX0_init_122 : decode cX0_init 122 = .ok (.goto (-22), 3) := by decide +kernel
theorem dX0_init_125 : decode cX0_init 125 = .ok (.iconst 0, 1) := by decide +kernel
theorem dX0_init_126 : decode cX0_init 126 = .ok (.istore_n 1, 1) := by decide +kernel
theorem dX0_init_127 : decode cX0_init 127 = .ok (.iload_n 1, 1) := by decide +kernel
theorem dX0_init_128 : decode cX0_init 128 = .ok (.bipush 24, 2) := by decide +kernel
theorem dX0_init_130 : decode cX0_init 130 = .ok (.if_icmp .ge 22, 3) := by decide +kernel
theorem dX0_init_133 : decode cX0_init 133 = .ok (.aload_n 0, 1) := by decide +kernel
theorem dX0_init_134 : decode cX0_init 134 = .ok (.getfield 19, 3) := by decide +kernel
theorem dX0_init_137 : decode cX0_init 137 = .ok (.iload_n 1, 1) := by decide +kernel
theorem dX0_init_138 : decode cX0_init 138 = .ok (.new 17, 3) := by decide +kernel
theorem dX0_init_141 : decode cX0_init 141 = .ok (.dup, 1) := by decide +kernel
theorem dX0_init_142 : decode cX0_init 142 = .ok (.invokespecial 72, 3) := by decide +kernel
theorem dX0_init_145 : decode cX0_init 145 = .ok (.aastore, 1) := by decide +kernel
theorem dX0_init_146 : decode cX0_init 146 = .ok (.iinc 1 1, 3) := by decide +kernel
theorem dX0_init_149 : decode cX0_init 149 = .ok (.goto (-22), 3) := by decide +kernel
theorem dX0_init_152 : decode cX0_init 152 = .ok (.iconst 0, 1) := by decide +kernel
theorem dX0_init_153 : decode cX0_init 153 = .ok (.istore_n 1, 1) := by decide +kernel
theorem dX0_init_154 : decode cX0_init 154 = .ok (.iload_n 1, 1) := by decide +kernel
theorem dX0_init_155 : decode cX0_init 155 = .ok (.bipush 6, 2) := by decide +kernel
theorem dX0_init_157 : decode cX0_init 157 = .ok (.if_icmp .ge 22, 3) := by decide +kernel
theorem dX0_init_160 : decode cX0_init 160 = .ok (.aload_n 0, 1) := by decide +kernel
theorem dX0_init_161 : decode cX0_init 161 = .ok (.getfield 25, 3) := by decide +kernel
theorem dX0_init_164 : decode cX0_init 164 = .ok (.iload_n 1, 1) := by decide +kernel
theorem dX0_init_165 : decode cX0_init 165 = .ok (.new 23, 3) := by decide +kernel
theorem dX0_init_168 : decode cX0_init 168 = .ok (.dup, 1) := by decide +kernel
theorem dX0_init_169 : decode cX0_init 169 = .ok (.invokespecial 73, 3) := by decide +kernel
theorem dX0_init_172 : decode cX0_init 172 = .ok (.aastore, 1) := by decide +kernel
theorem dX0_init_173 : decode cX0_init 173 = .ok (.iinc 1 1, 3) := by decide +kernel
theorem dX0_init_176 : decode cX0_init 176 = .ok (.goto (-22), 3) := by decide +kernel
theorem dX0_init_179 : decode cX0_init 179 = .ok (.iconst 0, 1) := by decide +kernel
theorem dX0_init_180 : decode cX0_init 180 = .ok (.istore_n 1, 1) := by decide +kernel
theorem dX0_init_181 : decode cX0_init 181 = .ok (.iload_n 1, 1) := by decide +kernel
theorem dX0_init_182 : decode cX0_init 182 = .ok (.bipush 8, 2) := by decide +kernel
theorem dX0_init_184 : decode cX0_init 184 = .ok (.if_icmp .ge 22, 3) := by decide +kernel
theorem dX0_init_187 : decode cX0_init 187 = .ok (.aload_n 0, 1) := by decide +kernel
theorem dX0_init_188 : decode cX0_init 188 = .ok (.getfield 31, 3) := by decide +kernel
theorem dX0_init_191 : decode cX0_init 191 = .ok (.iload_n 1, 1) := by decide +kernel
theorem dX0_init_192 : decode cX0_init 192 = .ok (.new 29, 3) := by decide +kernel
theorem dX0_init_195 : decode cX0_init 195 = .ok (.dup, 1) := by decide +kernel
theorem dX0_init_196 : decode cX0_init 196 = .ok (.invokespecial 74, 3) := by decide +kernel
theorem dX0_init_199 : decode cX0_init 199 = .ok (.aastore, 1) := by decide +kernel
theorem dX0_init_200 : decode cX0_init 200 = .ok (.iinc 1 1, 3) := by decide +kernel
theorem dX0_init_203 : decode cX0_init 203 = .ok (.goto (-22), 3) := by decide +kernel
theorem dX0_init_206 : decode cX0_init 206 = .ok (.return_, 1) := by decide +kernel
theorem dX0_copyFrom_0 : decode cX0_copyFrom 0 = .ok (.aload_n 0, 1) := by decide +kernel
theorem dX0_copyFrom_1 : decode cX0_copyFrom 1 = .ok (.aload_n 1, 1) := by decide +kernel
theorem dX0_copyFrom_2 : decode cX0_copyFrom 2 = .ok (.getfield 75, 3) := by decide +kernel
theorem dX0_copyFrom_5 : decode cX0_copyFrom 5 = .ok (.putfield 75, 3) := by decide +kernel
theorem dX0_copyFrom_8 : decode cX0_copyFrom 8 = .ok (.iconst 0, 1) := by decide +kernel
theorem dX0_copyFrom_9 : decode cX0_copyFrom 9 = .ok (.istore_n 2, 1) := by decide +kernel
theorem dX0_copyFrom_10 : decode cX0_copyFrom 10 = .ok (.iload_n 2, 1) := by decide +kernel
theorem dX0_copyFrom_11 : decode cX0_copyFrom 11 = .ok (.aload_n 0, 1) := by decide +kernel
theorem dX0_copyFrom_12 : decode cX0_copyFrom 12 = .ok (.getfield 75, 3) := by decide +kernel
theorem dX0_copyFrom_15 : decode cX0_copyFrom 15 = .ok (.if_icmp .ge 24, 3) := by decide +kernel
theorem dX0_copyFrom_18 : decode cX0_copyFrom 18 = .ok (.aload_n 0, 1) := by decide +kernel
theorem dX0_copyFrom_19 : decode cX0_copyFrom 19 = .ok (.getfield 11, 3) := by decide +kernel
theorem dX0_copyFrom_22 : decode cX0_copyFrom 22 = .ok (.iload_n 2, 1) := by decide +kernel
theorem dX0_copyFrom_23 : decode cX0_copyFrom 23 = .ok (.aaload, 1) := by decide +kernel
theorem dX0_copyFrom_24 : decode cX0_copyFrom 24 = .ok (.aload_n 1, 1) := by decide +kernel
theorem dX0_copyFrom_25 : decode cX0_copyFrom 25 = .ok (.getfield 11, 3) := by decide +kernel
theorem dX0_copyFrom_28 : decode cX0_copyFrom 28 = .ok (.iload_n 2, 1) := by decide +kernel
theorem dX0_copyFrom_29 : decode cX0_copyFrom 29 = .ok (.aaload, 1) := by decide +kernel
theorem dX0_copyFrom_30 : decode cX0_copyFrom 30 = .ok (.invokevirtual 78, 3) := by decide +kernel
theorem dX0_copyFrom_33 : decode cX0_copyFrom 33 = .ok (.iinc 2 1, 3) := by decide +kernel
theorem dX0_copyFrom_36 : decode cX0_copyFrom 36 = .ok (.goto (-26), 3) := by decide +kernel
theorem dX0_copyFrom_39 : decode cX0_copyFrom 39 = .ok (.aload_n 0, 1) := by decide +kernel
theorem dX0_copyFrom_40 : decode cX0_copyFrom 40 = .ok (.aload_n 1, 1) := by decide +kernel
theorem dX0_copyFrom_41 : decode cX0_copyFrom 41 = .ok (.getfield 82, 3) := by decide +kernel
theorem dX0_copyFrom_44 : decode cX0_copyFrom 44 = .ok (.putfield 82, 3) := by decide +kernel
theorem dX0_copyFrom_47 : decode cX0_copyFrom 47 = .ok (.iconst 0, 1) := by decide +kernel
theorem dX0_copyFrom_48 : decode cX0_copyFrom 48 = .ok (.istore_n 2, 1) := by decide +kernel
theorem dX0_copyFrom_49 : decode cX0_copyFrom 49 = .ok (.iload_n 2, 1) := by decide +kernel
theorem dX0_copyFrom_50 : decode cX0_copyFrom 50 = .ok (.aload_n 0, 1) := by decide +kernel
theorem dX0_copyFrom_51 : decode cX0_copyFrom 51 = .ok (.getfield 82, 3) := by decide +kernel
theorem dX0_copyFrom_54 : decode cX0_copyFrom 54 = .ok (.if_icmp .ge 24, 3) := by decide +kernel
theorem dX0_copyFrom_57 : decode cX0_copyFrom 57 = .ok (.aload_n 0, 1) := by decide +kernel
theorem dX0_copyFrom_58 : decode cX0_copyFrom 58 = .ok (.getfield 19, 3) := by decide +kernel
theorem dX0_copyFrom_61 : decode cX0_copyFrom 61 = .ok (.iload_n 2, 1) := by decide +kernel
theorem dX0_copyFrom_62 : decode cX0_copyFrom 62 = .ok (.aaload, 1) := by decide +kernel
theorem dX0_copyFrom_63 : decode cX0_copyFrom 63 = .ok (.aload_n 1, 1) := by decide +kernel
theorem dX0_copyFrom_64 : decode cX0_copyFrom 64 = .ok (.getfield 19, 3) := by decide +kernel
theorem dX0_copyFrom_67 : decode cX0_copyFrom 67 = .ok (.iload_n 2, 1) := by decide +kernel
theorem dX0_copyFrom_68 : decode cX0_copyFrom 68 = .ok (.aaload, 1) := by decide +kernel
theorem dX0_copyFrom_69 : decode cX0_copyFrom 69 = .ok (.invokevirtual 85, 3) := by decide +kernel
theorem dX0_copyFrom_72 : decode cX0_copyFrom 72 = .ok (.iinc 2 1, 3) := by decide +kernel
theorem dX0_copyFrom_75 : decode cX0_copyFrom 75 = .ok (.goto (-26), 3) := by decide +kernel
theorem dX0_copyFrom_78 : decode cX0_copyFrom 78 = .ok (.aload_n 0, 1) := by decide +kernel
theorem dX0_copyFrom_79 : decode cX0_copyFrom 79 = .ok (.aload_n 1, 1) := by decide +kernel
theorem dX0_copyFrom_80 : decode cX0_copyFrom 80 = .ok (.getfield 88, 3) := by decide +kernel
theorem dX0_copyFrom_83 : decode cX0_copyFrom 83 = .ok (.putfield 88, 3) := by decide +kernel
theorem dX0_copyFrom_86 : decode cX0_copyFrom 86 = .ok (.iconst 0, 1) := by decide +kernel
theorem dX0_copyFrom_87 : decode cX0_copyFrom 87 = .ok (.istore_n 2, 1) := by decide +kernel
theorem dX0_copyFrom_88 : decode cX0_copyFrom 88 = .ok (.iload_n 2, 1) := by decide +kernel
theorem dX0_copyFrom_89 : decode cX0_copyFrom 89 = .ok (.aload_n 0, 1) := by decide +kernel
theorem dX0_copyFrom_90 : decode cX0_copyFrom 90 = .ok (.getfield 88, 3) := by decide +kernel
theorem dX0_copyFrom_93 : decode cX0_copyFrom 93 = .ok (.if_icmp .ge 24, 3) := by decide +kernel
theorem dX0_copyFrom_96 : decode cX0_copyFrom 96 = .ok (.aload_n 0, 1) := by decide +kernel
theorem dX0_copyFrom_97 : decode cX0_copyFrom 97 = .ok (.getfield 25, 3) := by decide +kernel
theorem dX0_copyFrom_100 : decode cX0_copyFrom 100 = .ok (.iload_n 2, 1) := by decide +kernel
theorem dX0_copyFrom_101 : decode cX0_copyFrom 101 = .ok (.aaload, 1) := by decide +kernel
theorem dX0_copyFrom_102 : decode cX0_copyFrom 102 = .ok (.aload_n 1, 1) := by decide +kernel
theorem dX0_copyFrom_103 : decode cX0_copyFrom 103 = .ok (.getfield 25, 3) := by decide +kernel
theorem dX0_copyFrom_106 : decode cX0_copyFrom 106 = .ok (.iload_n 2, 1) := by decide +kernel
theorem dX0_copyFrom_107 : decode cX0_copyFrom 107 = .ok (.aaload, 1) := by decide +kernel
theorem dX0_copyFrom_108 : decode cX0_copyFrom 108 = .ok (.invokevirtual 91, 3) := by decide +kernel
theorem dX0_copyFrom_111 : decode cX0_copyFrom 111 = .ok (.iinc 2 1, 3) := by decide +kernel
theorem dX0_copyFrom_114 : decode cX0_copyFrom 114 = .ok (.goto (-26), 3) := by decide +kernel
theorem dX0_copyFrom_117 : decode cX0_copyFrom 117 = .ok (.aload_n 0, 1) := by decide +kernel
theorem dX0_copyFrom_118 : decode cX0_copyFrom 118 = .ok (.aload_n 1, 1) := by decide +kernel
theorem dX0_copyFrom_119 : decode cX0_copyFrom 119 = .ok (.getfield 94, 3) := by decide +kernel
theorem dX0_copyFrom_122 : decode cX0_copyFrom 122 = .ok (.putfield 94, 3) := by decide +kernel
theorem dX0_copyFrom_125 : decode cX0_copyFrom 125 = .ok (.iconst 0, 1) := by decide +kernel
theorem dX0_copyFrom_126 : decode cX0_copyFrom 126 = .ok (.istore_n 2, 1) := by decide +kernel
theorem dX0_copyFrom_127 : decode cX0_copyFrom 127 = .ok (.iload_n 2, 1) := by decide +kernel
theorem dX0_copyFrom_128 : decode cX0_copyFrom 128 = .ok (.aload_n 0, 1) := by decide +kernel
theorem dX0_copyFrom_129 : decode cX0_copyFrom 129 = .ok (.getfield 94, 3) := by decide +kernel
theorem dX0_copyFrom_132 : decode cX0_copyFrom 132 = .ok (.if_icmp .ge 36, 3) := by decide +kernel
theorem dX0_copyFrom_135 : decode cX0_copyFrom 135 = .ok (.aload_n 0, 1) := by decide +kernel
theorem dX0_copyFrom_136 : decode cX0_copyFrom 136 = .ok (.getfield 31, 3) := by decide +kernel
theorem dX0_copyFrom_139 : decode cX0_copyFrom 139 = .ok (.iload_n 2, 1) := by decide +kernel
theorem dX0_copyFrom_140 : decode cX0_copyFrom 140 = .ok (.aaload, 1) := by decide +kernel
theorem dX0_copyFrom_141 : decode cX0_copyFrom 141 = .ok (.aload_n 1, 1) := by decide +kernel
theorem dX0_copyFrom_142 : decode cX0_copyFrom 142 = .ok (.getfield 31, 3) := by decide +kernel
theorem dX0_copyFrom_145 : decode cX0_copyFrom 145 = .ok (.iload_n 2, 1) := by decide +kernel
theorem dX0_copyFrom_146 : decode cX0_copyFrom 146 = .ok (.aaload, 1) := by decide +kernel
theorem dX0_copyFrom_147 : decode cX0_copyFrom 147 = .ok (.invokevirtual 97, 3) := by decide +kernel
theorem dX0_copyFrom_150 : decode cX0_copyFrom 150 = .ok (.aload_n 0, 1) := by decide +kernel
theorem dX0_copyFrom_151 : decode cX0_copyFrom 151 = .ok (.getfield 35, 3) := by decide +kernel
theorem dX0_copyFrom_154 : decode cX0_copyFrom 154 = .ok (.iload_n 2, 1) := by decide +kernel
theorem dX0_copyFrom_155 : decode cX0_copyFrom 155 = .ok (.aload_n 1, 1) := by decide +kernel
theorem dX0_copyFrom_156 : decode cX0_copyFrom 156 = .ok (.getfield 35, 3) := by decide +kernel
theorem dX0_copyFrom_159 : decode cX0_copyFrom 159 = .ok (.iload_n 2, 1) := by decide +kernel
theorem dX0_copyFrom_160 : decode cX0_copyFrom 160 = .ok (.iaload, 1) := by decide +kernel
theorem dX0_copyFrom_161 : decode cX0_copyFrom 161 = .ok (.iastore, 1) := by decide +kernel
theorem dX0_copyFrom_162 : decode cX0_copyFrom 162 = .ok (.iinc 2 1, 3) := by decide +kernel
theorem dX0_copyFrom_165 : decode cX0_copyFrom 165 = .ok (.goto (-38), 3) := by decide +kernel
theorem dX0_copyFrom_168 : decode cX0_copyFrom 168 = .ok (.aload_n 0, 1) := by decide +kernel
theorem dX0_copyFrom_169 : decode cX0_copyFrom 169 = .ok (.getfield 42, 3) := by decide +kernel
theorem dX0_copyFrom_172 : decode cX0_copyFrom 172 = .ok (.aload_n 1, 1) := by decide +kernel
theorem dX0_copyFrom_173 : decode cX0_copyFrom 173 = .ok (.getfield 42, 3) := by decide +kernel
theorem dX0_copyFrom_176 : decode cX0_copyFrom 176 = .ok (.invokevirtual 100, 3) := by decide +kernel
theorem dX0_copyFrom_179 : decode cX0_copyFrom 179 = .ok (.aload_n 0, 1) := by decide +kernel
theorem dX0_copyFrom_180 : decode cX0_copyFrom 180 = .ok (.getfield 49, 3) := by decide +kernel
theorem dX0_copyFrom_183 : decode cX0_copyFrom 183 = .ok (.aload_n 1, 1) := by decide +kernel
theorem dX0_copyFrom_184 : decode cX0_copyFrom 184 = .ok (.getfield 49, 3) := by decide +kernel
theorem dX0_copyFrom_187 : decode cX0_copyFrom 187 = .ok (.invokevirtual 103, 3) := by decide +kernel
theorem dX0_copyFrom_190 : decode cX0_copyFrom 190 = .ok (.aload_n 0, 1) := by decide +kernel
theorem dX0_copyFrom_191 : decode cX0_copyFrom 191 = .ok (.getfield 56, 3) := by decide +kernel
theorem dX0_copyFrom_194 : decode cX0_copyFrom 194 = .ok (.aload_n 1, 1) := by decide +kernel
theorem dX0_copyFrom_195 : decode cX0_copyFrom 195 = .ok (.getfield 56, 3) := by decide +kernel
theorem dX0_copyFrom_198 : decode cX0_copyFrom 198 = .ok (.invokevirtual 106, 3) := by decide +kernel
theorem dX0_copyFrom_201 : decode cX0_copyFrom 201 = .ok (.aload_n 0, 1) := by decide +kernel
theorem dX0_copyFrom_202 : decode cX0_copyFrom 202 = .ok (.getfield 63, 3) := by decide +kernel
theorem dX0_copyFrom_205 : decode cX0_copyFrom 205 = .ok (.aload_n 1, 1) := by decide +kernel
theorem dX0_copyFrom_206 : decode cX0_copyFrom 206 = .ok (.getfield 63, 3) := by decide +kernel
theorem dX0_copyFrom_209 : decode cX0_copyFrom 209 = .ok (.invokevirtual 109, 3) := by decide +kernel
theorem dX0_copyFrom_212 : decode cX0_copyFrom 212 = .ok (.aload_n 0, 1) := by decide +kernel
theorem dX0_copyFrom_213 : decode cX0_copyFrom 213 = .ok (.aload_n 1, 1) := by decide +kernel
theorem dX0_copyFrom_214 : decode cX0_copyFrom 214 = .ok (.getfield 67, 3) := by decide +kernel
theorem dX0_copyFrom_217 : decode cX0_copyFrom 217 = .ok (.putfield 67, 3) := by decide +kernel
theorem dX0_copyFrom_220 : decode cX0_copyFrom 220 = .ok (.aload_n 0, 1) := by decide +kernel
theorem dX0_copyFrom_221 : decode cX0_copyFrom 221 = .ok (.aload_n 1, 1) := by decide +kernel
theorem dX0_copyFrom_222 : decode cX0_copyFrom 222 = .ok (.getfield 112, 3) := by decide +kernel
theorem dX0_copyFrom_225 : decode cX0_copyFrom 225 = .ok (.putfield 112, 3) := by decide +kernel
theorem dX0_copyFrom_228 : decode cX0_copyFrom 228 = .ok (.return_, 1) := by decide +kernel
theorem dX0_hasNode_0 : decode cX0_hasNode 0 = .ok (.iload_n 1, 1) := by decide +kernel
theorem dX0_hasNode_1 : decode cX0_hasNode 1 = .ok (.ifCond .lt 15, 3) := by decide +kernel
theorem dX0_hasNode_4 : decode cX0_hasNode 4 = .ok (.iload_n 1, 1) := by decide +kernel
theorem dX0_hasNode_5 : decode cX0_hasNode 5 = .ok (.aload_n 0, 1) := by decide +kernel
theorem dX0_hasNode_6 : decode cX0_hasNode 6 = .ok (.getfield 75, 3) := by decide +kernel
theorem dX0_hasNode_9 : decode cX0_hasNode 9 = .ok (.if_icmp .ge 7, 3) := by decide +kernel
theorem dX0_hasNode_12 : decode cX0_hasNode 12 = .ok (.iconst 1, 1) := by decide +kernel
theorem dX0_hasNode_13 : decode cX0_hasNode 13 = .ok (.goto 4, 3) := by decide +kernel
theorem dX0_hasNode_16 : decode cX0_hasNode 16 = .ok (.iconst 0, 1) := by decide +kernel
theorem dX0_hasNode_17 : decode cX0_hasNode 17 = .ok (.ireturn, 1) := by decide +kernel
theorem dX0_hasLouvre_0 : decode cX0_hasLouvre 0 = .ok (.iload_n 1, 1) := by decide +kernel
theorem dX0_hasLouvre_1 : decode cX0_hasLouvre 1 = .ok (.ifCond .lt 15, 3) := by decide +kernel
theorem dX0_hasLouvre_4 : decode cX0_hasLouvre 4 = .ok (.iload_n 1, 1) := by decide +kernel
theorem dX0_hasLouvre_5 : decode cX0_hasLouvre 5 = .ok (.aload_n 0, 1) := by decide +kernel
theorem dX0_hasLouvre_6 : decode cX0_hasLouvre 6 = .ok (.getfield 88, 3) := by decide +kernel
theorem dX0_hasLouvre_9 : decode cX0_hasLouvre 9 = .ok (.if_icmp .ge 7, 3) := by decide +kernel
theorem dX0_hasLouvre_12 : decode cX0_hasLouvre 12 = .ok (.iconst 1, 1) := by decide +kernel
theorem dX0_hasLouvre_13 : decode cX0_hasLouvre 13 = .ok (.goto 4, 3) := by decide +kernel
theorem dX0_hasLouvre_16 : decode cX0_hasLouvre 16 = .ok (.iconst 0, 1) := by decide +kernel
theorem dX0_hasLouvre_17 : decode cX0_hasLouvre 17 = .ok (.ireturn, 1) := by decide +kernel
theorem dX0_hasHeater_0 : decode cX0_hasHeater 0 = .ok (.iload_n 1, 1) := by decide +kernel
theorem dX0_hasHeater_1 : decode cX0_hasHeater 1 = .ok (.ifCond .lt 15, 3) := by decide +kernel
theorem dX0_hasHeater_4 : decode cX0_hasHeater 4 = .ok (.iload_n 1, 1) := by decide +kernel
theorem dX0_hasHeater_5 : decode cX0_hasHeater 5 = .ok (.aload_n 0, 1) := by decide +kernel
theorem dX0_hasHeater_6 : decode cX0_hasHeater 6 = .ok (.getfield 94, 3) := by decide +kernel
theorem dX0_hasHeater_9 : decode cX0_hasHeater 9 = .ok (.if_icmp .ge 7, 3) := by decide +kernel
theorem dX0_hasHeater_12 : decode cX0_hasHeater 12 = .ok (.iconst 1, 1) := by decide +kernel
theorem dX0_hasHeater_13 : decode cX0_hasHeater 13 = .ok (.goto 4, 3) := by decide +kernel
theorem dX0_hasHeater_16 : decode cX0_hasHeater 16 = .ok (.iconst 0, 1) := by decide +kernel
theorem dX0_hasHeater_17 : decode cX0_hasHeater 17 = .ok (.ireturn, 1) := by decide +kernel
theorem dX0_placeOfLink_0 : decode cX0_placeOfLink 0 = .ok (.iconst 0, 1) := by decide +kernel
theorem dX0_placeOfLink_1 : decode cX0_placeOfLink 1 = .ok (.istore_n 3, 1) := by decide +kernel
theorem dX0_placeOfLink_2 : decode cX0_placeOfLink 2 = .ok (.iload_n 3, 1) := by decide +kernel
theorem dX0_placeOfLink_3 : decode cX0_placeOfLink 3 = .ok (.aload_n 0, 1) := by decide +kernel
theorem dX0_placeOfLink_4 : decode cX0_placeOfLink 4 = .ok (.getfield 82, 3) := by decide +kernel
theorem dX0_placeOfLink_7 : decode cX0_placeOfLink 7 = .ok (.if_icmp .ge 55, 3) := by decide +kernel
theorem dX0_placeOfLink_10 : decode cX0_placeOfLink 10 = .ok (.aload_n 0, 1) := by decide +kernel
theorem dX0_placeOfLink_11 : decode cX0_placeOfLink 11 = .ok (.getfield 19, 3) := by decide +kernel
theorem dX0_placeOfLink_14 : decode cX0_placeOfLink 14 = .ok (.iload_n 3, 1) := by decide +kernel
theorem dX0_placeOfLink_15 : decode cX0_placeOfLink 15 = .ok (.aaload, 1) := by decide +kernel
theorem dX0_placeOfLink_16 : decode cX0_placeOfLink 16 = .ok (.astore 4, 2) := by decide +kernel
theorem dX0_placeOfLink_18 : decode cX0_placeOfLink 18 = .ok (.aload 4, 2) := by decide +kernel
theorem dX0_placeOfLink_20 : decode cX0_placeOfLink 20 = .ok (.getfield 115, 3) := by decide +kernel
theorem dX0_placeOfLink_23 : decode cX0_placeOfLink 23 = .ok (.iload_n 1, 1) := by decide +kernel
theorem dX0_placeOfLink_24 : decode cX0_placeOfLink 24 = .ok (.if_icmp .ne 12, 3) := by decide +kernel
theorem dX0_placeOfLink_27 : decode cX0_placeOfLink 27 = .ok (.aload 4, 2) := by decide +kernel
theorem dX0_placeOfLink_29 : decode cX0_placeOfLink 29 = .ok (.getfield 118, 3) := by decide +kernel
theorem dX0_placeOfLink_32 : decode cX0_placeOfLink 32 = .ok (.iload_n 2, 1) := by decide +kernel
theorem dX0_placeOfLink_33 : decode cX0_placeOfLink 33 = .ok (.if_icmp .eq 21, 3) := by decide +kernel
theorem dX0_placeOfLink_36 : decode cX0_placeOfLink 36 = .ok (.aload 4, 2) := by decide +kernel
theorem dX0_placeOfLink_38 : decode cX0_placeOfLink 38 = .ok (.getfield 115, 3) := by decide +kernel
theorem dX0_placeOfLink_41 : decode cX0_placeOfLink 41 = .ok (.iload_n 2, 1) := by decide +kernel
theorem dX0_placeOfLink_42 : decode cX0_placeOfLink 42 = .ok (.if_icmp .ne 14, 3) := by decide +kernel
theorem dX0_placeOfLink_45 : decode cX0_placeOfLink 45 = .ok (.aload 4, 2) := by decide +kernel
theorem dX0_placeOfLink_47 : decode cX0_placeOfLink 47 = .ok (.getfield 118, 3) := by decide +kernel
theorem dX0_placeOfLink_50 : decode cX0_placeOfLink 50 = .ok (.iload_n 1, 1) := by decide +kernel
theorem dX0_placeOfLink_51 : decode cX0_placeOfLink 51 = .ok (.if_icmp .ne 5, 3) := by decide +kernel
theorem dX0_placeOfLink_54 : decode cX0_placeOfLink 54 = .ok (.iload_n 3, 1) := by decide +kernel
theorem dX0_placeOfLink_55 : decode cX0_placeOfLink 55 = .ok (.ireturn, 1) := by decide +kernel
theorem dX0_placeOfLink_56 : decode cX0_placeOfLink 56 = .ok (.iinc 3 1, 3) := by decide +kernel
theorem dX0_placeOfLink_59 : decode cX0_placeOfLink 59 = .ok (.goto (-57), 3) := by decide +kernel
theorem dX0_placeOfLink_62 : decode cX0_placeOfLink 62 = .ok (.iconst (-1), 1) := by decide +kernel
theorem dX0_placeOfLink_63 : decode cX0_placeOfLink 63 = .ok (.ireturn, 1) := by decide +kernel
theorem dX0_makeLink_0 : decode cX0_makeLink 0 = .ok (.iload_n 3, 1) := by decide +kernel
theorem dX0_makeLink_1 : decode cX0_makeLink 1 = .ok (.ifCond .ne 5, 3) := by decide +kernel
theorem dX0_makeLink_4 : decode cX0_makeLink 4 = .ok (.iconst 0, 1) := by decide +kernel
theorem dX0_makeLink_5 : decode cX0_makeLink 5 = .ok (.ireturn, 1) := by decide +kernel
theorem dX0_makeLink_6 : decode cX0_makeLink 6 = .ok (.aload_n 0, 1) := by decide +kernel
theorem dX0_makeLink_7 : decode cX0_makeLink 7 = .ok (.getfield 82, 3) := by decide +kernel
theorem dX0_makeLink_10 : decode cX0_makeLink 10 = .ok (.bipush 24, 2) := by decide +kernel
theorem dX0_makeLink_12 : decode cX0_makeLink 12 = .ok (.if_icmp .lt 6, 3) := by decide +kernel
theorem dX0_makeLink_15 : decode cX0_makeLink 15 = .ok (.ldc 121, 2) := by decide +kernel
theorem dX0_makeLink_17 : decode cX0_makeLink 17 = .ok (.ireturn, 1) := by decide +kernel
theorem dX0_makeLink_18 : decode cX0_makeLink 18 = .ok (.aload_n 0, 1) := by decide +kernel
theorem dX0_makeLink_19 : decode cX0_makeLink 19 = .ok (.getfield 19, 3) := by decide +kernel
theorem dX0_makeLink_22 : decode cX0_makeLink 22 = .ok (.aload_n 0, 1) := by decide +kernel
theorem dX0_makeLink_23 : decode cX0_makeLink 23 = .ok (.getfield 82, 3) := by decide +kernel
theorem dX0_makeLink_26 : decode cX0_makeLink 26 = .ok (.aaload, 1) := by decide +kernel
theorem dX0_makeLink_27 : decode cX0_makeLink 27 = .ok (.iload_n 1, 1) := by decide +kernel
theorem dX0_makeLink_28 : decode cX0_makeLink 28 = .ok (.iload_n 2, 1) := by decide +kernel
theorem dX0_makeLink_29 : decode cX0_makeLink 29 = .ok (.iload_n 3, 1) := by decide +kernel
theorem dX0_makeLink_30 : decode cX0_makeLink 30 = .ok (.invokevirtual 122, 3) := by decide +kernel
theorem dX0_makeLink_33 : decode cX0_makeLink 33 = .ok (.aload_n 0, 1) := by decide +kernel
theorem dX0_makeLink_34 : decode cX0_makeLink 34 = .ok (.dup, 1) := by decide +kernel
theorem dX0_makeLink_35 : decode cX0_makeLink 35 = .ok (.getfield 82, 3) := by decide +kernel
theorem dX0_makeLink_38 : decode cX0_makeLink 38 = .ok (.iconst 1, 1) := by decide +kernel
theorem dX0_makeLink_39 : decode cX0_makeLink 39 = .ok (.iadd, 1) := by decide +kernel
theorem dX0_makeLink_40 : decode cX0_makeLink 40 = .ok (.putfield 82, 3) := by decide +kernel
theorem dX0_makeLink_43 : decode cX0_makeLink 43 = .ok (.iconst 0, 1) := by decide +kernel
theorem dX0_makeLink_44 : decode cX0_makeLink 44 = .ok (.ireturn, 1) := by decide +kernel
theorem dX0_dropLink_0 : decode cX0_dropLink 0 = .ok (.iload_n 1, 1) := by decide +kernel
theorem dX0_dropLink_1 : decode cX0_dropLink 1 = .ok (.ifCond .lt 39, 3) := by decide +kernel
theorem dX0_dropLink_4 : decode cX0_dropLink 4 = .ok (.iload_n 1, 1) := by decide +kernel
theorem dX0_dropLink_5 : decode cX0_dropLink 5 = .ok (.aload_n 0, 1) := by decide +kernel
theorem dX0_dropLink_6 : decode cX0_dropLink 6 = .ok (.getfield 82, 3) := by decide +kernel
theorem dX0_dropLink_9 : decode cX0_dropLink 9 = .ok (.if_icmp .ge 31, 3) := by decide +kernel
theorem dX0_dropLink_12 : decode cX0_dropLink 12 = .ok (.aload_n 0, 1) := by decide +kernel
theorem dX0_dropLink_13 : decode cX0_dropLink 13 = .ok (.dup, 1) := by decide +kernel
theorem dX0_dropLink_14 : decode cX0_dropLink 14 = .ok (.getfield 82, 3) := by decide +kernel
theorem dX0_dropLink_17 : decode cX0_dropLink 17 = .ok (.iconst 1, 1) := by decide +kernel
theorem dX0_dropLink_18 : decode cX0_dropLink 18 = .ok (.isub, 1) := by decide +kernel
theorem dX0_dropLink_19 : decode cX0_dropLink 19 = .ok (.putfield 82, 3) := by decide +kernel
theorem dX0_dropLink_22 : decode cX0_dropLink 22 = .ok (.aload_n 0, 1) := by decide +kernel
theorem dX0_dropLink_23 : decode cX0_dropLink 23 = .ok (.getfield 19, 3) := by decide +kernel
theorem dX0_dropLink_26 : decode cX0_dropLink 26 = .ok (.iload_n 1, 1) := by decide +kernel
theorem dX0_dropLink_27 : decode cX0_dropLink 27 = .ok (.aaload, 1) := by decide +kernel
theorem dX0_dropLink_28 : decode cX0_dropLink 28 = .ok (.aload_n 0, 1) := by decide +kernel
theorem dX0_dropLink_29 : decode cX0_dropLink 29 = .ok (.getfield 19, 3) := by decide +kernel
theorem dX0_dropLink_32 : decode cX0_dropLink 32 = .ok (.aload_n 0, 1) := by decide +kernel
theorem dX0_dropLink_33 : decode cX0_dropLink 33 = .ok (.getfield 82, 3) := by decide +kernel
theorem dX0_dropLink_36 : decode cX0_dropLink 36 = .ok (.aaload, 1) := by decide +kernel
theorem dX0_dropLink_37 : decode cX0_dropLink 37 = .ok (.invokevirtual 85, 3) := by decide +kernel
theorem dX0_dropLink_40 : decode cX0_dropLink 40 = .ok (.return_, 1) := by decide +kernel
theorem dX0_rankHeater_0 : decode cX0_rankHeater 0 = .ok (.iconst 0, 1) := by decide +kernel
theorem dX0_rankHeater_1 : decode cX0_rankHeater 1 = .ok (.istore_n 2, 1) := by decide +kernel
theorem dX0_rankHeater_2 : decode cX0_rankHeater 2 = .ok (.iconst 0, 1) := by decide +kernel
theorem dX0_rankHeater_3 : decode cX0_rankHeater 3 = .ok (.istore_n 3, 1) := by decide +kernel
theorem dX0_rankHeater_4 : decode cX0_rankHeater 4 = .ok (.iload_n 3, 1) := by decide +kernel
theorem dX0_rankHeater_5 : decode cX0_rankHeater 5 = .ok (.iload_n 1, 1) := by decide +kernel
theorem dX0_rankHeater_6 : decode cX0_rankHeater 6 = .ok (.if_icmp .ge 33, 3) := by decide +kernel
theorem dX0_rankHeater_9 : decode cX0_rankHeater 9 = .ok (.aload_n 0, 1) := by decide +kernel
theorem dX0_rankHeater_10 : decode cX0_rankHeater 10 = .ok (.getfield 31, 3) := by decide +kernel
theorem dX0_rankHeater_13 : decode cX0_rankHeater 13 = .ok (.iload_n 3, 1) := by decide +kernel
theorem dX0_rankHeater_14 : decode cX0_rankHeater 14 = .ok (.aaload, 1) := by decide +kernel
theorem dX0_rankHeater_15 : decode cX0_rankHeater 15 = .ok (.getfield 126, 3) := by decide +kernel
theorem dX0_rankHeater_18 : decode cX0_rankHeater 18 = .ok (.aload_n 0, 1) := by decide +kernel
theorem dX0_rankHeater_19 : decode cX0_rankHeater 19 = .ok (.getfield 31, 3) := by decide +kernel
theorem dX0_rankHeater_22 : decode cX0_rankHeater 22 = .ok (.iload_n 1, 1) := by decide +kernel
theorem dX0_rankHeater_23 : decode cX0_rankHeater 23 = .ok (.aaload, 1) := by decide +kernel
theorem dX0_rankHeater_24 : decode cX0_rankHeater 24 = .ok (.getfield 126, 3) := by decide +kernel
theorem dX0_rankHeater_27 : decode cX0_rankHeater 27 = .ok (.if_icmp .lt 6, 3) := by decide +kernel
theorem dX0_rankHeater_30 : decode cX0_rankHeater 30 = .ok (.iinc 2 1, 3) := by decide +kernel
theorem dX0_rankHeater_33 : decode cX0_rankHeater 33 = .ok (.iinc 3 1, 3) := by decide +kernel
theorem dX0_rankHeater_36 : decode cX0_rankHeater 36 = .ok (.goto (-32), 3) := by decide +kernel
theorem dX0_rankHeater_39 : decode cX0_rankHeater 39 = .ok (.aload_n 0, 1) := by decide +kernel
theorem dX0_rankHeater_40 : decode cX0_rankHeater 40 = .ok (.getfield 35, 3) := by decide +kernel
theorem dX0_rankHeater_43 : decode cX0_rankHeater 43 = .ok (.iload_n 2, 1) := by decide +kernel
theorem dX0_rankHeater_44 : decode cX0_rankHeater 44 = .ok (.aload_n 0, 1) := by decide +kernel
theorem dX0_rankHeater_45 : decode cX0_rankHeater 45 = .ok (.getfield 35, 3) := by decide +kernel
theorem dX0_rankHeater_48 : decode cX0_rankHeater 48 = .ok (.iload_n 2, 1) := by decide +kernel
theorem dX0_rankHeater_49 : decode cX0_rankHeater 49 = .ok (.iconst 1, 1) := by decide +kernel
theorem dX0_rankHeater_50 : decode cX0_rankHeater 50 = .ok (.iadd, 1) := by decide +kernel
theorem dX0_rankHeater_51 : decode cX0_rankHeater 51 = .ok (.iload_n 1, 1) := by decide +kernel
theorem dX0_rankHeater_52 : decode cX0_rankHeater 52 = .ok (.iload_n 2, 1) := by decide +kernel
theorem dX0_rankHeater_53 : decode cX0_rankHeater 53 = .ok (.isub, 1) := by decide +kernel
theorem dX0_rankHeater_54 : decode cX0_rankHeater 54 = .ok (.invokestatic 129, 3) := by decide +kernel
theorem dX0_rankHeater_57 : decode cX0_rankHeater 57 = .ok (.aload_n 0, 1) := by decide +kernel
theorem dX0_rankHeater_58 : decode cX0_rankHeater 58 = .ok (.getfield 35, 3) := by decide +kernel
theorem dX0_rankHeater_61 : decode cX0_rankHeater 61 = .ok (.iload_n 2, 1) := by decide +kernel
theorem dX0_rankHeater_62 : decode cX0_rankHeater 62 = .ok (.iload_n 1, 1) := by decide +kernel
theorem dX0_rankHeater_63 : decode cX0_rankHeater 63 = .ok (.iastore, 1) := by decide +kernel
theorem dX0_rankHeater_64 : decode cX0_rankHeater 64 = .ok (.return_, 1) := by decide +kernel
theorem dX0_phaseNow_0 : decode cX0_phaseNow 0 = .ok (.aload_n 0, 1) := by decide +kernel
theorem dX0_phaseNow_1 : decode cX0_phaseNow 1 = .ok (.getfield 42, 3) := by decide +kernel
theorem dX0_phaseNow_4 : decode cX0_phaseNow 4 = .ok (.getfield 135, 3) := by decide +kernel
theorem dX0_phaseNow_7 : decode cX0_phaseNow 7 = .ok (.ifCond .le 18, 3) := by decide +kernel
theorem dX0_phaseNow_10 : decode cX0_phaseNow 10 = .ok (.aload_n 0, 1) := by decide +kernel
theorem dX0_phaseNow_11 : decode cX0_phaseNow 11 = .ok (.getfield 112, 3) := by decide +kernel
theorem dX0_phaseNow_14 : decode cX0_phaseNow 14 = .ok (.aload_n 0, 1) := by decide +kernel
theorem dX0_phaseNow_15 : decode cX0_phaseNow 15 = .ok (.getfield 42, 3) := by decide +kernel
theorem dX0_phaseNow_18 : decode cX0_phaseNow 18 = .ok (.getfield 135, 3) := by decide +kernel
theorem dX0_phaseNow_21 : decode cX0_phaseNow 21 = .ok (.irem, 1) := by decide +kernel
theorem dX0_phaseNow_22 : decode cX0_phaseNow 22 = .ok (.goto 4, 3) := by decide +kernel
theorem dX0_phaseNow_25 : decode cX0_phaseNow 25 = .ok (.iconst 0, 1) := by decide +kernel
theorem dX0_phaseNow_26 : decode cX0_phaseNow 26 = .ok (.ireturn, 1) := by decide +kernel
theorem dX0_hasSun_0 : decode cX0_hasSun 0 = .ok (.aload_n 0, 1) := by decide +kernel
theorem dX0_hasSun_1 : decode cX0_hasSun 1 = .ok (.invokevirtual 138, 3) := by decide +kernel
theorem dX0_hasSun_4 : decode cX0_hasSun 4 = .ok (.istore_n 1, 1) := by decide +kernel
theorem dX0_hasSun_5 : decode cX0_hasSun 5 = .ok (.iload_n 1, 1) := by decide +kernel
theorem dX0_hasSun_6 : decode cX0_hasSun 6 = .ok (.aload_n 0, 1) := by decide +kernel
theorem dX0_hasSun_7 : decode cX0_hasSun 7 = .ok (.getfield 42, 3) := by decide +kernel
theorem dX0_hasSun_10 : decode cX0_hasSun 10 = .ok (.getfield 142, 3) := by decide +kernel
theorem dX0_hasSun_13 : decode cX0_hasSun 13 = .ok (.if_icmp .lt 14, 3) := by decide +kernel
theorem dX0_hasSun_16 : decode cX0_hasSun 16 = .ok (.iload_n 1, 1) := by decide +kernel
theorem dX0_hasSun_17 : decode cX0_hasSun 17 = .ok (.aload_n 0, 1) := by decide +kernel
theorem dX0_hasSun_18 : decode cX0_hasSun 18 = .ok (.getfield 42, 3) := by decide +kernel
theorem dX0_hasSun_21 : decode cX0_hasSun 21 = .ok (.getfield 145, 3) := by decide +kernel
theorem dX0_hasSun_24 : decode cX0_hasSun 24 = .ok (.if_icmp .lt 7, 3) := by decide +kernel
theorem dX0_hasSun_27 : decode cX0_hasSun 27 = .ok (.iconst 1, 1) := by decide +kernel
theorem dX0_hasSun_28 : decode cX0_hasSun 28 = .ok (.goto 4, 3) := by decide +kernel
theorem dX0_hasSun_31 : decode cX0_hasSun 31 = .ok (.iconst 0, 1) := by decide +kernel
theorem dX0_hasSun_32 : decode cX0_hasSun 32 = .ok (.ireturn, 1) := by decide +kernel
theorem dX0_temperatureAt_0 : decode cX0_temperatureAt 0 = .ok (.aload_n 0, 1) := by decide +kernel
theorem dX0_temperatureAt_1 : decode cX0_temperatureAt 1 = .ok (.iload_n 1, 1) := by decide +kernel
theorem dX0_temperatureAt_2 : decode cX0_temperatureAt 2 = .ok (.invokevirtual 152, 3) := by decide +kernel
theorem dX0_temperatureAt_5 : decode cX0_temperatureAt 5 = .ok (.ifCond .eq 15, 3) := by decide +kernel
theorem dX0_temperatureAt_8 : decode cX0_temperatureAt 8 = .ok (.aload_n 0, 1) := by decide +kernel
theorem dX0_temperatureAt_9 : decode cX0_temperatureAt 9 = .ok (.getfield 11, 3) := by decide +kernel
theorem dX0_temperatureAt_12 : decode cX0_temperatureAt 12 = .ok (.iload_n 1, 1) := by decide +kernel
theorem dX0_temperatureAt_13 : decode cX0_temperatureAt 13 = .ok (.aaload, 1) := by decide +kernel
theorem dX0_temperatureAt_14 : decode cX0_temperatureAt 14 = .ok (.getfield 156, 3) := by decide +kernel
theorem dX0_temperatureAt_17 : decode cX0_temperatureAt 17 = .ok (.goto 4, 3) := by decide +kernel
theorem dX0_temperatureAt_20 : decode cX0_temperatureAt 20 = .ok (.iconst 0, 1) := by decide +kernel
theorem dX0_temperatureAt_21 : decode cX0_temperatureAt 21 = .ok (.ireturn, 1) := by decide +kernel
theorem dX0_targetOf_0 : decode cX0_targetOf 0 = .ok (.aload_n 0, 1) := by decide +kernel
theorem dX0_targetOf_1 : decode cX0_targetOf 1 = .ok (.aload_n 1, 1) := by decide +kernel
theorem dX0_targetOf_2 : decode cX0_targetOf 2 = .ok (.getfield 159, 3) := by decide +kernel
theorem dX0_targetOf_5 : decode cX0_targetOf 5 = .ok (.invokevirtual 162, 3) := by decide +kernel
theorem dX0_targetOf_8 : decode cX0_targetOf 8 = .ok (.aload_n 1, 1) := by decide +kernel
theorem dX0_targetOf_9 : decode cX0_targetOf 9 = .ok (.getfield 166, 3) := by decide +kernel
theorem dX0_targetOf_12 : decode cX0_targetOf 12 = .ok (.isub, 1) := by decide +kernel
theorem dX0_targetOf_13 : decode cX0_targetOf 13 = .ok (.i2l, 1) := by decide +kernel
theorem dX0_targetOf_14 : decode cX0_targetOf 14 = .ok (.lstore_n 2, 1) := by decide +kernel
theorem dX0_targetOf_15 : decode cX0_targetOf 15 = .ok (.lload_n 2, 1) := by decide +kernel
theorem dX0_targetOf_16 : decode cX0_targetOf 16 = .ok (.ldc2_w 169, 3) := by decide +kernel
theorem dX0_targetOf_19 : decode cX0_targetOf 19 = .ok (.lmul, 1) := by decide +kernel
theorem dX0_targetOf_20 : decode cX0_targetOf 20 = .ok (.aload_n 1, 1) := by decide +kernel
theorem dX0_targetOf_21 : decode cX0_targetOf 21 = .ok (.getfield 171, 3) := by decide +kernel
theorem dX0_targetOf_24 : decode cX0_targetOf 24 = .ok (.aload_n 1, 1) := by decide +kernel
theorem dX0_targetOf_25 : decode cX0_targetOf 25 = .ok (.getfield 166, 3) := by decide +kernel
theorem dX0_targetOf_28 : decode cX0_targetOf 28 = .ok (.isub, 1) := by decide +kernel
theorem dX0_targetOf_29 : decode cX0_targetOf 29 = .ok (.i2l, 1) := by decide +kernel
theorem dX0_targetOf_30 : decode cX0_targetOf 30 = .ok (.invokestatic 148, 3) := by decide +kernel
theorem dX0_targetOf_33 : decode cX0_targetOf 33 = .ok (.lconst 0, 1) := by decide +kernel
theorem dX0_targetOf_34 : decode cX0_targetOf 34 = .ok (.ldc2_w 169, 3) := by decide +kernel
theorem dX0_targetOf_37 : decode cX0_targetOf 37 = .ok (.invokestatic 174, 3) := by decide +kernel
theorem dX0_targetOf_40 : decode cX0_targetOf 40 = .ok (.l2i, 1) := by decide +kernel
theorem dX0_targetOf_41 : decode cX0_targetOf 41 = .ok (.ireturn, 1) := by decide +kernel
theorem dX0_powerInUse_0 : decode cX0_powerInUse 0 = .ok (.iconst 0, 1) := by decide +kernel
theorem dX0_powerInUse_1 : decode cX0_powerInUse 1 = .ok (.istore_n 1, 1) := by decide +kernel
theorem dX0_powerInUse_2 : decode cX0_powerInUse 2 = .ok (.iconst 0, 1) := by decide +kernel
theorem dX0_powerInUse_3 : decode cX0_powerInUse 3 = .ok (.istore_n 2, 1) := by decide +kernel
theorem dX0_powerInUse_4 : decode cX0_powerInUse 4 = .ok (.iload_n 2, 1) := by decide +kernel
theorem dX0_powerInUse_5 : decode cX0_powerInUse 5 = .ok (.aload_n 0, 1) := by decide +kernel
theorem dX0_powerInUse_6 : decode cX0_powerInUse 6 = .ok (.getfield 94, 3) := by decide +kernel
theorem dX0_powerInUse_9 : decode cX0_powerInUse 9 = .ok (.if_icmp .ge 34, 3) := by decide +kernel
theorem dX0_powerInUse_12 : decode cX0_powerInUse 12 = .ok (.aload_n 0, 1) := by decide +kernel
theorem dX0_powerInUse_13 : decode cX0_powerInUse 13 = .ok (.getfield 31, 3) := by decide +kernel
theorem dX0_powerInUse_16 : decode cX0_powerInUse 16 = .ok (.iload_n 2, 1) := by decide +kernel
theorem dX0_powerInUse_17 : decode cX0_powerInUse 17 = .ok (.aaload, 1) := by decide +kernel
theorem dX0_powerInUse_18 : decode cX0_powerInUse 18 = .ok (.getfield 178, 3) := by decide +kernel
theorem dX0_powerInUse_21 : decode cX0_powerInUse 21 = .ok (.iconst 1, 1) := by decide +kernel
theorem dX0_powerInUse_22 : decode cX0_powerInUse 22 = .ok (.if_icmp .ne 15, 3) := by decide +kernel
theorem dX0_powerInUse_25 : decode cX0_powerInUse 25 = .ok (.iload_n 1, 1) := by decide +kernel
theorem dX0_powerInUse_26 : decode cX0_powerInUse 26 = .ok (.aload_n 0, 1) := by decide +kernel
theorem dX0_powerInUse_27 : decode cX0_powerInUse 27 = .ok (.getfield 31, 3) := by decide +kernel
theorem dX0_powerInUse_30 : decode cX0_powerInUse 30 = .ok (.iload_n 2, 1) := by decide +kernel
theorem dX0_powerInUse_31 : decode cX0_powerInUse 31 = .ok (.aaload, 1) := by decide +kernel
theorem dX0_powerInUse_32 : decode cX0_powerInUse 32 = .ok (.getfield 181, 3) := by decide +kernel
theorem dX0_powerInUse_35 : decode cX0_powerInUse 35 = .ok (.iadd, 1) := by decide +kernel
theorem dX0_powerInUse_36 : decode cX0_powerInUse 36 = .ok (.istore_n 1, 1) := by decide +kernel
theorem dX0_powerInUse_37 : decode cX0_powerInUse 37 = .ok (.iinc 2 1, 3) := by decide +kernel
theorem dX0_powerInUse_40 : decode cX0_powerInUse 40 = .ok (.goto (-36), 3) := by decide +kernel
theorem dX0_powerInUse_43 : decode cX0_powerInUse 43 = .ok (.iload_n 1, 1) := by decide +kernel
theorem dX0_powerInUse_44 : decode cX0_powerInUse 44 = .ok (.ireturn, 1) := by decide +kernel
theorem dX0_step_0 : decode cX0_step 0 = .ok (.iconst 0, 1) := by decide +kernel
theorem dX0_step_1 : decode cX0_step 1 = .ok (.istore_n 1, 1) := by decide +kernel
theorem dX0_step_2 : decode cX0_step 2 = .ok (.iload_n 1, 1) := by decide +kernel
theorem dX0_step_3 : decode cX0_step 3 = .ok (.aload_n 0, 1) := by decide +kernel
theorem dX0_step_4 : decode cX0_step 4 = .ok (.getfield 63, 3) := by decide +kernel
theorem dX0_step_7 : decode cX0_step 7 = .ok (.getfield 184, 3) := by decide +kernel
theorem dX0_step_10 : decode cX0_step 10 = .ok (.if_icmp .ge 30, 3) := by decide +kernel
theorem dX0_step_13 : decode cX0_step 13 = .ok (.aload_n 0, 1) := by decide +kernel
theorem dX0_step_14 : decode cX0_step 14 = .ok (.getfield 63, 3) := by decide +kernel
theorem dX0_step_17 : decode cX0_step 17 = .ok (.iload_n 1, 1) := by decide +kernel
theorem dX0_step_18 : decode cX0_step 18 = .ok (.aload_n 0, 1) := by decide +kernel
theorem dX0_step_19 : decode cX0_step 19 = .ok (.invokevirtual 187, 3) := by decide +kernel
theorem dX0_step_22 : decode cX0_step 22 = .ok (.ifCond .eq 12, 3) := by decide +kernel
theorem dX0_step_25 : decode cX0_step 25 = .ok (.aload_n 0, 1) := by decide +kernel
theorem dX0_step_26 : decode cX0_step 26 = .ok (.getfield 63, 3) := by decide +kernel
theorem dX0_step_29 : decode cX0_step 29 = .ok (.iload_n 1, 1) := by decide +kernel
theorem dX0_step_30 : decode cX0_step 30 = .ok (.aload_n 0, 1) := by decide +kernel
theorem dX0_step_31 : decode cX0_step 31 = .ok (.invokevirtual 191, 3) := by decide +kernel
theorem dX0_step_34 : decode cX0_step 34 = .ok (.iinc 1 1, 3) := by decide +kernel
theorem dX0_step_37 : decode cX0_step 37 = .ok (.goto (-35), 3) := by decide +kernel
theorem dX0_step_40 : decode cX0_step 40 = .ok (.aload_n 0, 1) := by decide +kernel
theorem dX0_step_41 : decode cX0_step 41 = .ok (.invokevirtual 195, 3) := by decide +kernel
theorem dX0_step_44 : decode cX0_step 44 = .ok (.aload_n 0, 1) := by decide +kernel
theorem dX0_step_45 : decode cX0_step 45 = .ok (.invokevirtual 198, 3) := by decide +kernel
theorem dX0_step_48 : decode cX0_step 48 = .ok (.aload_n 0, 1) := by decide +kernel
theorem dX0_step_49 : decode cX0_step 49 = .ok (.invokevirtual 201, 3) := by decide +kernel
theorem dX0_step_52 : decode cX0_step 52 = .ok (.aload_n 0, 1) := by decide +kernel
theorem dX0_step_53 : decode cX0_step 53 = .ok (.invokevirtual 204, 3) := by decide +kernel
theorem dX0_step_56 : decode cX0_step 56 = .ok (.aload_n 0, 1) := by decide +kernel
theorem dX0_step_57 : decode cX0_step 57 = .ok (.invokevirtual 207, 3) := by decide +kernel
theorem dX0_step_60 : decode cX0_step 60 = .ok (.aload_n 0, 1) := by decide +kernel
theorem dX0_step_61 : decode cX0_step 61 = .ok (.dup, 1) := by decide +kernel
theorem dX0_step_62 : decode cX0_step 62 = .ok (.getfield 112, 3) := by decide +kernel
theorem dX0_step_65 : decode cX0_step 65 = .ok (.aload_n 0, 1) := by decide +kernel
theorem dX0_step_66 : decode cX0_step 66 = .ok (.getfield 67, 3) := by decide +kernel
theorem dX0_step_69 : decode cX0_step 69 = .ok (.iadd, 1) := by decide +kernel
theorem dX0_step_70 : decode cX0_step 70 = .ok (.putfield 112, 3) := by decide +kernel
theorem dX0_step_73 : decode cX0_step 73 = .ok (.aload_n 0, 1) := by decide +kernel
theorem dX0_step_74 : decode cX0_step 74 = .ok (.invokevirtual 210, 3) := by decide +kernel
theorem dX0_step_77 : decode cX0_step 77 = .ok (.ireturn, 1) := by decide +kernel
theorem dX0_moveLouvres_0 : decode cX0_moveLouvres 0 = .ok (.iconst 0, 1) := by decide +kernel
theorem dX0_moveLouvres_1 : decode cX0_moveLouvres 1 = .ok (.istore_n 1, 1) := by decide +kernel
theorem dX0_moveLouvres_2 : decode cX0_moveLouvres 2 = .ok (.iload_n 1, 1) := by decide +kernel
theorem dX0_moveLouvres_3 : decode cX0_moveLouvres 3 = .ok (.aload_n 0, 1) := by decide +kernel
theorem dX0_moveLouvres_4 : decode cX0_moveLouvres 4 = .ok (.getfield 88, 3) := by decide +kernel
theorem dX0_moveLouvres_7 : decode cX0_moveLouvres 7 = .ok (.if_icmp .ge 40, 3) := by decide +kernel
theorem dX0_moveLouvres_10 : decode cX0_moveLouvres 10 = .ok (.aload_n 0, 1) := by decide +kernel
theorem dX0_moveLouvres_11 : decode cX0_moveLouvres 11 = .ok (.getfield 25, 3) := by decide +kernel
theorem dX0_moveLouvres_14 : decode cX0_moveLouvres 14 = .ok (.iload_n 1, 1) := by decide +kernel
theorem dX0_moveLouvres_15 : decode cX0_moveLouvres 15 = .ok (.aaload, 1) := by decide +kernel
theorem dX0_moveLouvres_16 : decode cX0_moveLouvres 16 = .ok (.getfield 214, 3) := by decide +kernel
theorem dX0_moveLouvres_19 : decode cX0_moveLouvres 19 = .ok (.ifCond .ne 22, 3) := by decide +kernel
theorem dX0_moveLouvres_22 : decode cX0_moveLouvres 22 = .ok (.aload_n 0, 1) := by decide +kernel
theorem dX0_moveLouvres_23 : decode cX0_moveLouvres 23 = .ok (.getfield 25, 3) := by decide +kernel
theorem dX0_moveLouvres_26 : decode cX0_moveLouvres 26 = .ok (.iload_n 1, 1) := by decide +kernel
theorem dX0_moveLouvres_27 : decode cX0_moveLouvres 27 = .ok (.aaload, 1) := by decide +kernel
theorem dX0_moveLouvres_28 : decode cX0_moveLouvres 28 = .ok (.aload_n 0, 1) := by decide +kernel
theorem dX0_moveLouvres_29 : decode cX0_moveLouvres 29 = .ok (.aload_n 0, 1) := by decide +kernel
theorem dX0_moveLouvres_30 : decode cX0_moveLouvres 30 = .ok (.getfield 25, 3) := by decide +kernel
theorem dX0_moveLouvres_33 : decode cX0_moveLouvres 33 = .ok (.iload_n 1, 1) := by decide +kernel
theorem dX0_moveLouvres_34 : decode cX0_moveLouvres 34 = .ok (.aaload, 1) := by decide +kernel
theorem dX0_moveLouvres_35 : decode cX0_moveLouvres 35 = .ok (.invokevirtual 218, 3) := by decide +kernel
theorem dX0_moveLouvres_38 : decode cX0_moveLouvres 38 = .ok (.invokevirtual 222, 3) := by decide +kernel
theorem dX0_moveLouvres_41 : decode cX0_moveLouvres 41 = .ok (.iinc 1 1, 3) := by decide +kernel
theorem dX0_moveLouvres_44 : decode cX0_moveLouvres 44 = .ok (.goto (-42), 3) := by decide +kernel
theorem dX0_moveLouvres_47 : decode cX0_moveLouvres 47 = .ok (.return_, 1) := by decide +kernel
theorem dX0_decideWishes_0 : decode cX0_decideWishes 0 = .ok (.iconst 0, 1) := by decide +kernel
theorem dX0_decideWishes_1 : decode cX0_decideWishes 1 = .ok (.istore_n 1, 1) := by decide +kernel
theorem dX0_decideWishes_2 : decode cX0_decideWishes 2 = .ok (.iload_n 1, 1) := by decide +kernel
theorem dX0_decideWishes_3 : decode cX0_decideWishes 3 = .ok (.aload_n 0, 1) := by decide +kernel
theorem dX0_decideWishes_4 : decode cX0_decideWishes 4 = .ok (.getfield 94, 3) := by decide +kernel
theorem dX0_decideWishes_7 : decode cX0_decideWishes 7 = .ok (.if_icmp .ge 31, 3) := by decide +kernel
theorem dX0_decideWishes_10 : decode cX0_decideWishes 10 = .ok (.aload_n 0, 1) := by decide +kernel
theorem dX0_decideWishes_11 : decode cX0_decideWishes 11 = .ok (.getfield 31, 3) := by decide +kernel
theorem dX0_decideWishes_14 : decode cX0_decideWishes 14 = .ok (.iload_n 1, 1) := by decide +kernel
theorem dX0_decideWishes_15 : decode cX0_decideWishes 15 = .ok (.aaload, 1) := by decide +kernel
theorem dX0_decideWishes_16 : decode cX0_decideWishes 16 = .ok (.aload_n 0, 1) := by decide +kernel
theorem dX0_decideWishes_17 : decode cX0_decideWishes 17 = .ok (.aload_n 0, 1) := by decide +kernel
theorem dX0_decideWishes_18 : decode cX0_decideWishes 18 = .ok (.getfield 31, 3) := by decide +kernel
theorem dX0_decideWishes_21 : decode cX0_decideWishes 21 = .ok (.iload_n 1, 1) := by decide +kernel
theorem dX0_decideWishes_22 : decode cX0_decideWishes 22 = .ok (.aaload, 1) := by decide +kernel
theorem dX0_decideWishes_23 : decode cX0_decideWishes 23 = .ok (.getfield 226, 3) := by decide +kernel
theorem dX0_decideWishes_26 : decode cX0_decideWishes 26 = .ok (.invokevirtual 162, 3) := by decide +kernel
theorem dX0_decideWishes_29 : decode cX0_decideWishes 29 = .ok (.invokevirtual 227, 3) := by decide +kernel
theorem dX0_decideWishes_32 : decode cX0_decideWishes 32 = .ok (.iinc 1 1, 3) := by decide +kernel
theorem dX0_decideWishes_35 : decode cX0_decideWishes 35 = .ok (.goto (-33), 3) := by decide +kernel
theorem dX0_decideWishes_38 : decode cX0_decideWishes 38 = .ok (.return_, 1) := by decide +kernel
theorem dX0_sharePower_0 : decode cX0_sharePower 0 = .ok (.aload_n 0, 1) := by decide +kernel
theorem dX0_sharePower_1 : decode cX0_sharePower 1 = .ok (.invokevirtual 230, 3) := by decide +kernel
theorem dX0_sharePower_4 : decode cX0_sharePower 4 = .ok (.ifCond .eq 13, 3) := by decide +kernel
theorem dX0_sharePower_7 : decode cX0_sharePower 7 = .ok (.aload_n 0, 1) := by decide +kernel
theorem dX0_sharePower_8 : decode cX0_sharePower 8 = .ok (.getfield 49, 3) := by decide +kernel
theorem dX0_sharePower_11 : decode cX0_sharePower 11 = .ok (.getfield 233, 3) := by decide +kernel
theorem dX0_sharePower_14 : decode cX0_sharePower 14 = .ok (.goto 4, 3) := by decide +kernel
theorem dX0_sharePower_17 : decode cX0_sharePower 17 = .ok (.iconst 0, 1) := by decide +kernel
theorem dX0_sharePower_18 : decode cX0_sharePower 18 = .ok (.aload_n 0, 1) := by decide +kernel
theorem dX0_sharePower_19 : decode cX0_sharePower 19 = .ok (.getfield 49, 3) := by decide +kernel
theorem dX0_sharePower_22 : decode cX0_sharePower 22 = .ok (.getfield 236, 3) := by decide +kernel
theorem dX0_sharePower_25 : decode cX0_sharePower 25 = .ok (.isub, 1) := by decide +kernel
theorem dX0_sharePower_26 : decode cX0_sharePower 26 = .ok (.i2l, 1) := by decide +kernel
theorem dX0_sharePower_27 : decode cX0_sharePower 27 = .ok (.lstore_n 1, 1) := by decide +kernel
theorem dX0_sharePower_28 : decode cX0_sharePower 28 = .ok (.lconst 0, 1) := by decide +kernel
theorem dX0_sharePower_29 : decode cX0_sharePower 29 = .ok (.aload_n 0, 1) := by decide +kernel
theorem dX0_sharePower_30 : decode cX0_sharePower 30 = .ok (.getfield 49, 3) := by decide +kernel
theorem dX0_sharePower_33 : decode cX0_sharePower 33 = .ok (.getfield 239, 3) := by decide +kernel
theorem dX0_sharePower_36 : decode cX0_sharePower 36 = .ok (.i2l, 1) := by decide +kernel
theorem dX0_sharePower_37 : decode cX0_sharePower 37 = .ok (.aload_n 0, 1) := by decide +kernel
theorem dX0_sharePower_38 : decode cX0_sharePower 38 = .ok (.getfield 67, 3) := by decide +kernel
theorem dX0_sharePower_41 : decode cX0_sharePower 41 = .ok (.i2l, 1) := by decide +kernel
theorem dX0_sharePower_42 : decode cX0_sharePower 42 = .ok (.invokestatic 148, 3) := by decide +kernel
theorem dX0_sharePower_45 : decode cX0_sharePower 45 = .ok (.lload_n 1, 1) := by decide +kernel
theorem dX0_sharePower_46 : decode cX0_sharePower 46 = .ok (.ladd, 1) := by decide +kernel
theorem dX0_sharePower_47 : decode cX0_sharePower 47 = .ok (.invokestatic 242, 3) := by decide +kernel
theorem dX0_sharePower_50 : decode cX0_sharePower 50 = .ok (.lstore_n 3, 1) := by decide +kernel
theorem dX0_sharePower_51 : decode cX0_sharePower 51 = .ok (.lconst 0, 1) := by decide +kernel
theorem dX0_sharePower_52 : decode cX0_sharePower 52 = .ok (.lstore 5, 2) := by decide +kernel
theorem dX0_sharePower_54 : decode cX0_sharePower 54 = .ok (.iconst 0, 1) := by decide +kernel
theorem dX0_sharePower_55 : decode cX0_sharePower 55 = .ok (.istore 7, 2) := by decide +kernel
theorem dX0_sharePower_57 : decode cX0_sharePower 57 = .ok (.iload 7, 2) := by decide +kernel
theorem dX0_sharePower_59 : decode cX0_sharePower 59 = .ok (.aload_n 0, 1) := by decide +kernel
theorem dX0_sharePower_60 : decode cX0_sharePower 60 = .ok (.getfield 94, 3) := by decide +kernel
theorem dX0_sharePower_63 : decode cX0_sharePower 63 = .ok (.if_icmp .ge 48, 3) := by decide +kernel
theorem dX0_sharePower_66 : decode cX0_sharePower 66 = .ok (.aload_n 0, 1) := by decide +kernel
theorem dX0_sharePower_67 : decode cX0_sharePower 67 = .ok (.getfield 35, 3) := by decide +kernel
theorem dX0_sharePower_70 : decode cX0_sharePower 70 = .ok (.iload 7, 2) := by decide +kernel
theorem dX0_sharePower_72 : decode cX0_sharePower 72 = .ok (.iaload, 1) := by decide +kernel
theorem dX0_sharePower_73 : decode cX0_sharePower 73 = .ok (.istore 8, 2) := by decide +kernel
theorem dX0_sharePower_75 : decode cX0_sharePower 75 = .ok (.aload_n 0, 1) := by decide +kernel
theorem dX0_sharePower_76 : decode cX0_sharePower 76 = .ok (.iload 8, 2) := by decide +kernel
theorem dX0_sharePower_78 : decode cX0_sharePower 78 = .ok (.invokevirtual 247, 3) := by decide +kernel
theorem dX0_sharePower_81 : decode cX0_sharePower 81 = .ok (.ifCond .eq 24, 3) := by decide +kernel
theorem dX0_sharePower_84 : decode cX0_sharePower 84 = .ok (.lload 5, 2) := by decide +kernel
theorem dX0_sharePower_86 : decode cX0_sharePower 86 = .ok (.aload_n 0, 1) := by decide +kernel
theorem dX0_sharePower_87 : decode cX0_sharePower 87 = .ok (.aload_n 0, 1) := by decide +kernel
theorem dX0_sharePower_88 : decode cX0_sharePower 88 = .ok (.getfield 31, 3) := by decide +kernel
theorem dX0_sharePower_91 : decode cX0_sharePower 91 = .ok (.iload 8, 2) := by decide +kernel
theorem dX0_sharePower_93 : decode cX0_sharePower 93 = .ok (.aaload, 1) := by decide +kernel
theorem dX0_sharePower_94 : decode cX0_sharePower 94 = .ok (.lload_n 3, 1) := by decide +kernel
theorem dX0_sharePower_95 : decode cX0_sharePower 95 = .ok (.lload 5, 2) := by decide +kernel
theorem dX0_sharePower_97 : decode cX0_sharePower 97 = .ok (.lsub, 1) := by decide +kernel
theorem dX0_sharePower_98 : decode cX0_sharePower 98 = .ok (.invokevirtual 250, 3) := by decide +kernel
theorem dX0_sharePower_101 : decode cX0_sharePower 101 = .ok (.i2l, 1) := by decide +kernel
theorem dX0_sharePower_102 : decode cX0_sharePower 102 = .ok (.ladd, 1) := by decide +kernel
theorem dX0_sharePower_103 : decode cX0_sharePower 103 = .ok (.lstore 5, 2) := by decide +kernel
theorem dX0_sharePower_105 : decode cX0_sharePower 105 = .ok (.iinc 7 1, 3) := by decide +kernel
theorem dX0_sharePower_108 : decode cX0_sharePower 108 = .ok (.goto (-51), 3) := by decide +kernel
theorem dX0_sharePower_111 : decode cX0_sharePower 111 = .ok (.aload_n 0, 1) := by decide +kernel
theorem dX0_sharePower_112 : decode cX0_sharePower 112 = .ok (.getfield 56, 3) := by decide +kernel
theorem dX0_sharePower_115 : decode cX0_sharePower 115 = .ok (.dup, 1) := by decide +kernel
theorem dX0_sharePower_116 : decode cX0_sharePower 116 = .ok (.getfield 254, 3) := by decide +kernel
theorem dX0_sharePower_119 : decode cX0_sharePower 119 = .ok (.aload_n 0, 1) := by decide +kernel
theorem dX0_sharePower_120 : decode cX0_sharePower 120 = .ok (.getfield 67, 3) := by decide +kernel
theorem dX0_sharePower_123 : decode cX0_sharePower 123 = .ok (.i2l, 1) := by decide +kernel
theorem dX0_sharePower_124 : decode cX0_sharePower 124 = .ok (.lload 5, 2) := by decide +kernel
theorem dX0_sharePower_126 : decode cX0_sharePower 126 = .ok (.lmul, 1) := by decide +kernel
theorem dX0_sharePower_127 : decode cX0_sharePower 127 = .ok (.ladd, 1) := by decide +kernel
theorem dX0_sharePower_128 : decode cX0_sharePower 128 = .ok (.putfield 254, 3) := by decide +kernel
theorem dX0_sharePower_131 : decode cX0_sharePower 131 = .ok (.aload_n 0, 1) := by decide +kernel
theorem dX0_sharePower_132 : decode cX0_sharePower 132 = .ok (.getfield 49, 3) := by decide +kernel
theorem dX0_sharePower_135 : decode cX0_sharePower 135 = .ok (.getfield 239, 3) := by decide +kernel
theorem dX0_sharePower_138 : decode cX0_sharePower 138 = .ok (.i2l, 1) := by decide +kernel
theorem dX0_sharePower_139 : decode cX0_sharePower 139 = .ok (.aload_n 0, 1) := by decide +kernel
theorem dX0_sharePower_140 : decode cX0_sharePower 140 = .ok (.getfield 67, 3) := by decide +kernel
theorem dX0_sharePower_143 : decode cX0_sharePower 143 = .ok (.i2l, 1) := by decide +kernel
theorem dX0_sharePower_144 : decode cX0_sharePower 144 = .ok (.lload_n 1, 1) := by decide +kernel
theorem dX0_sharePower_145 : decode cX0_sharePower 145 = .ok (.lload 5, 2) := by decide +kernel
theorem dX0_sharePower_147 : decode cX0_sharePower 147 = .ok (.lsub, 1) := by decide +kernel
theorem dX0_sharePower_148 : decode cX0_sharePower 148 = .ok (.lmul, 1) := by decide +kernel
theorem dX0_sharePower_149 : decode cX0_sharePower 149 = .ok (.ladd, 1) := by decide +kernel
theorem dX0_sharePower_150 : decode cX0_sharePower 150 = .ok (.lstore 7, 2) := by decide +kernel
theorem dX0_sharePower_152 : decode cX0_sharePower 152 = .ok (.aload_n 0, 1) := by decide +kernel
theorem dX0_sharePower_153 : decode cX0_sharePower 153 = .ok (.getfield 49, 3) := by decide +kernel
theorem dX0_sharePower_156 : decode cX0_sharePower 156 = .ok (.lload 7, 2) := by decide +kernel
theorem dX0_sharePower_158 : decode cX0_sharePower 158 = .ok (.lconst 0, 1) := by decide +kernel
theorem dX0_sharePower_159 : decode cX0_sharePower 159 = .ok (.aload_n 0, 1) := by decide +kernel
theorem dX0_sharePower_160 : decode cX0_sharePower 160 = .ok (.getfield 49, 3) := by decide +kernel
theorem dX0_sharePower_163 : decode cX0_sharePower 163 = .ok (.getfield 258, 3) := by decide +kernel
theorem dX0_sharePower_166 : decode cX0_sharePower 166 = .ok (.i2l, 1) := by decide +kernel
theorem dX0_sharePower_167 : decode cX0_sharePower 167 = .ok (.invokestatic 174, 3) := by decide +kernel
theorem dX0_sharePower_170 : decode cX0_sharePower 170 = .ok (.l2i, 1) := by decide +kernel
theorem dX0_sharePower_171 : decode cX0_sharePower 171 = .ok (.putfield 239, 3) := by decide +kernel
theorem dX0_sharePower_174 : decode cX0_sharePower 174 = .ok (.return_, 1) := by decide +kernel
theorem dX0_switchHeater_0 : decode cX0_switchHeater 0 = .ok (.aload_n 1, 1) := by decide +kernel
theorem dX0_switchHeater_1 : decode cX0_switchHeater 1 = .ok (.getfield 261, 3) := by decide +kernel
theorem dX0_switchHeater_4 : decode cX0_switchHeater 4 = .ok (.ifCond .ne 10, 3) := by decide +kernel
theorem dX0_switchHeater_7 : decode cX0_switchHeater 7 = .ok (.aload_n 1, 1) := by decide +kernel
theorem dX0_switchHeater_8 : decode cX0_switchHeater 8 = .ok (.iconst 0, 1) := by decide +kernel
theorem dX0_switchHeater_9 : decode cX0_switchHeater 9 = .ok (.putfield 178, 3) := by decide +kernel
theorem dX0_switchHeater_12 : decode cX0_switchHeater 12 = .ok (.iconst 0, 1) := by decide +kernel
theorem dX0_switchHeater_13 : decode cX0_switchHeater 13 = .ok (.ireturn, 1) := by decide +kernel
theorem dX0_switchHeater_14 : decode cX0_switchHeater 14 = .ok (.aload_n 1, 1) := by decide +kernel
theorem dX0_switchHeater_15 : decode cX0_switchHeater 15 = .ok (.getfield 181, 3) := by decide +kernel
theorem dX0_switchHeater_18 : decode cX0_switchHeater 18 = .ok (.i2l, 1) := by decide +kernel
theorem dX0_switchHeater_19 : decode cX0_switchHeater 19 = .ok (.lload_n 2, 1) := by decide +kernel
theorem dX0_switchHeater_20 : decode cX0_switchHeater 20 = .ok (.lcmp, 1) := by decide +kernel
theorem dX0_switchHeater_21 : decode cX0_switchHeater 21 = .ok (.ifCond .le 23, 3) := by decide +kernel
theorem dX0_switchHeater_24 : decode cX0_switchHeater 24 = .ok (.aload_n 1, 1) := by decide +kernel
theorem dX0_switchHeater_25 : decode cX0_switchHeater 25 = .ok (.iconst 2, 1) := by decide +kernel
theorem dX0_switchHeater_26 : decode cX0_switchHeater 26 = .ok (.putfield 178, 3) := by decide +kernel
theorem dX0_switchHeater_29 : decode cX0_switchHeater 29 = .ok (.aload_n 0, 1) := by decide +kernel
theorem dX0_switchHeater_30 : decode cX0_switchHeater 30 = .ok (.getfield 56, 3) := by decide +kernel
theorem dX0_switchHeater_33 : decode cX0_switchHeater 33 = .ok (.dup, 1) := by decide +kernel
theorem dX0_switchHeater_34 : decode cX0_switchHeater 34 = .ok (.getfield 264, 3) := by decide +kernel
theorem dX0_switchHeater_37 : decode cX0_switchHeater 37 = .ok (.iconst 1, 1) := by decide +kernel
theorem dX0_switchHeater_38 : decode cX0_switchHeater 38 = .ok (.iadd, 1) := by decide +kernel
theorem dX0_switchHeater_39 : decode cX0_switchHeater 39 = .ok (.putfield 264, 3) := by decide +kernel
theorem dX0_switchHeater_42 : decode cX0_switchHeater 42 = .ok (.iconst 0, 1) := by decide +kernel
theorem dX0_switchHeater_43 : decode cX0_switchHeater 43 = .ok (.ireturn, 1) := by decide +kernel
theorem dX0_switchHeater_44 : decode cX0_switchHeater 44 = .ok (.aload_n 1, 1) := by decide +kernel
theorem dX0_switchHeater_45 : decode cX0_switchHeater 45 = .ok (.iconst 1, 1) := by decide +kernel
theorem dX0_switchHeater_46 : decode cX0_switchHeater 46 = .ok (.putfield 178, 3) := by decide +kernel
theorem dX0_switchHeater_49 : decode cX0_switchHeater 49 = .ok (.aload_n 1, 1) := by decide +kernel
theorem dX0_switchHeater_50 : decode cX0_switchHeater 50 = .ok (.getfield 181, 3) := by decide +kernel
theorem dX0_switchHeater_53 : decode cX0_switchHeater 53 = .ok (.ireturn, 1) := by decide +kernel
theorem dX0_balanceHeat_0 : decode cX0_balanceHeat 0 = .ok (.aload_n 0, 1) := by decide +kernel
theorem dX0_balanceHeat_1 : decode cX0_balanceHeat 1 = .ok (.invokevirtual 230, 3) := by decide +kernel
theorem dX0_balanceHeat_4 : decode cX0_balanceHeat 4 = .ok (.istore_n 1, 1) := by decide +kernel
theorem dX0_balanceHeat_5 : decode cX0_balanceHeat 5 = .ok (.iconst 0, 1) := by decide +kernel
theorem dX0_balanceHeat_6 : decode cX0_balanceHeat 6 = .ok (.istore_n 2, 1) := by decide +kernel
theorem dX0_balanceHeat_7 : decode cX0_balanceHeat 7 = .ok (.iload_n 2, 1) := by decide +kernel
theorem dX0_balanceHeat_8 : decode cX0_balanceHeat 8 = .ok (.aload_n 0, 1) := by decide +kernel
theorem dX0_balanceHeat_9 : decode cX0_balanceHeat 9 = .ok (.getfield 75, 3) := by decide +kernel
theorem dX0_balanceHeat_12 : decode cX0_balanceHeat 12 = .ok (.if_icmp .ge 48, 3) := by decide +kernel
theorem dX0_balanceHeat_15 : decode cX0_balanceHeat 15 = .ok (.aload_n 0, 1) := by decide +kernel
theorem dX0_balanceHeat_16 : decode cX0_balanceHeat 16 = .ok (.getfield 11, 3) := by decide +kernel
theorem dX0_balanceHeat_19 : decode cX0_balanceHeat 19 = .ok (.iload_n 2, 1) := by decide +kernel
theorem dX0_balanceHeat_20 : decode cX0_balanceHeat 20 = .ok (.aaload, 1) := by decide +kernel
theorem dX0_balanceHeat_21 : decode cX0_balanceHeat 21 = .ok (.astore_n 3, 1) := by decide +kernel
theorem dX0_balanceHeat_22 : decode cX0_balanceHeat 22 = .ok (.aload_n 3, 1) := by decide +kernel
theorem dX0_balanceHeat_23 : decode cX0_balanceHeat 23 = .ok (.aload_n 3, 1) := by decide +kernel
theorem dX0_balanceHeat_24 : decode cX0_balanceHeat 24 = .ok (.getfield 267, 3) := by decide +kernel
theorem dX0_balanceHeat_27 : decode cX0_balanceHeat 27 = .ok (.i2l, 1) := by decide +kernel
theorem dX0_balanceHeat_28 : decode cX0_balanceHeat 28 = .ok (.putfield 270, 3) := by decide +kernel
theorem dX0_balanceHeat_31 : decode cX0_balanceHeat 31 = .ok (.aload_n 3, 1) := by decide +kernel
theorem dX0_balanceHeat_32 : decode cX0_balanceHeat 32 = .ok (.aload_n 0, 1) := by decide +kernel
theorem dX0_balanceHeat_33 : decode cX0_balanceHeat 33 = .ok (.getfield 42, 3) := by decide +kernel
theorem dX0_balanceHeat_36 : decode cX0_balanceHeat 36 = .ok (.aload_n 3, 1) := by decide +kernel
theorem dX0_balanceHeat_37 : decode cX0_balanceHeat 37 = .ok (.iload_n 1, 1) := by decide +kernel
theorem dX0_balanceHeat_38 : decode cX0_balanceHeat 38 = .ok (.invokevirtual 273, 3) := by decide +kernel
theorem dX0_balanceHeat_41 : decode cX0_balanceHeat 41 = .ok (.putfield 277, 3) := by decide +kernel
theorem dX0_balanceHeat_44 : decode cX0_balanceHeat 44 = .ok (.aload_n 3, 1) := by decide +kernel
theorem dX0_balanceHeat_45 : decode cX0_balanceHeat 45 = .ok (.lconst 0, 1) := by decide +kernel
theorem dX0_balanceHeat_46 : decode cX0_balanceHeat 46 = .ok (.putfield 280, 3) := by decide +kernel
theorem dX0_balanceHeat_49 : decode cX0_balanceHeat 49 = .ok (.aload_n 3, 1) := by decide +kernel
theorem dX0_balanceHeat_50 : decode cX0_balanceHeat 50 = .ok (.lconst 0, 1) := by decide +kernel
theorem dX0_balanceHeat_51 : decode cX0_balanceHeat 51 = .ok (.putfield 283, 3) := by decide +kernel
theorem dX0_balanceHeat_54 : decode cX0_balanceHeat 54 = .ok (.iinc 2 1, 3) := by decide +kernel
theorem dX0_balanceHeat_57 : decode cX0_balanceHeat 57 = .ok (.goto (-50), 3) := by decide +kernel
theorem dX0_balanceHeat_60 : decode cX0_balanceHeat 60 = .ok (.iconst 0, 1) := by decide +kernel
theorem dX0_balanceHeat_61 : decode cX0_balanceHeat 61 = .ok (.istore_n 2, 1) := by decide +kernel
theorem dX0_balanceHeat_62 : decode cX0_balanceHeat 62 = .ok (.iload_n 2, 1) := by decide +kernel
theorem dX0_balanceHeat_63 : decode cX0_balanceHeat 63 = .ok (.aload_n 0, 1) := by decide +kernel
theorem dX0_balanceHeat_64 : decode cX0_balanceHeat 64 = .ok (.getfield 88, 3) := by decide +kernel
theorem dX0_balanceHeat_67 : decode cX0_balanceHeat 67 = .ok (.if_icmp .ge 58, 3) := by decide +kernel
theorem dX0_balanceHeat_70 : decode cX0_balanceHeat 70 = .ok (.aload_n 0, 1) := by decide +kernel
theorem dX0_balanceHeat_71 : decode cX0_balanceHeat 71 = .ok (.getfield 25, 3) := by decide +kernel
theorem dX0_balanceHeat_74 : decode cX0_balanceHeat 74 = .ok (.iload_n 2, 1) := by decide +kernel
theorem dX0_balanceHeat_75 : decode cX0_balanceHeat 75 = .ok (.aaload, 1) := by decide +kernel
theorem dX0_balanceHeat_76 : decode cX0_balanceHeat 76 = .ok (.astore_n 3, 1) := by decide +kernel
theorem dX0_balanceHeat_77 : decode cX0_balanceHeat 77 = .ok (.aload_n 0, 1) := by decide +kernel
theorem dX0_balanceHeat_78 : decode cX0_balanceHeat 78 = .ok (.aload_n 3, 1) := by decide +kernel
theorem dX0_balanceHeat_79 : decode cX0_balanceHeat 79 = .ok (.getfield 159, 3) := by decide +kernel
theorem dX0_balanceHeat_82 : decode cX0_balanceHeat 82 = .ok (.invokevirtual 152, 3) := by decide +kernel
theorem dX0_balanceHeat_85 : decode cX0_balanceHeat 85 = .ok (.ifCond .eq 34, 3) := by decide +kernel
theorem dX0_balanceHeat_88 : decode cX0_balanceHeat 88 = .ok (.aload_n 0, 1) := by decide +kernel
theorem dX0_balanceHeat_89 : decode cX0_balanceHeat 89 = .ok (.getfield 11, 3) := by decide +kernel
theorem dX0_balanceHeat_92 : decode cX0_balanceHeat 92 = .ok (.aload_n 3, 1) := by decide +kernel
theorem dX0_balanceHeat_93 : decode cX0_balanceHeat 93 = .ok (.getfield 159, 3) := by decide +kernel
theorem dX0_balanceHeat_96 : decode cX0_balanceHeat 96 = .ok (.aaload, 1) := by decide +kernel
theorem dX0_balanceHeat_97 : decode cX0_balanceHeat 97 = .ok (.dup, 1) := by decide +kernel
theorem dX0_balanceHeat_98 : decode cX0_balanceHeat 98 = .ok (.getfield 270, 3) := by decide +kernel
theorem dX0_balanceHeat_101 : decode cX0_balanceHeat 101 = .ok (.aload_n 3, 1) := by decide +kernel
theorem dX0_balanceHeat_102 : decode cX0_balanceHeat 102 = .ok (.getfield 284, 3) := by decide +kernel
theorem dX0_balanceHeat_105 : decode cX0_balanceHeat 105 = .ok (.aload_n 3, 1) := by decide +kernel
theorem dX0_balanceHeat_106 : decode cX0_balanceHeat 106 = .ok (.getfield 286, 3) := by decide +kernel
theorem dX0_balanceHeat_109 : decode cX0_balanceHeat 109 = .ok (.imul, 1) := by decide +kernel
theorem dX0_balanceHeat_110 : decode cX0_balanceHeat 110 = .ok (.sipush 1000, 3) := by decide +kernel
theorem dX0_balanceHeat_113 : decode cX0_balanceHeat 113 = .ok (.idiv, 1) := by decide +kernel
theorem dX0_balanceHeat_114 : decode cX0_balanceHeat 114 = .ok (.i2l, 1) := by decide +kernel
theorem dX0_balanceHeat_115 : decode cX0_balanceHeat 115 = .ok (.ladd, 1) := by decide +kernel
theorem dX0_balanceHeat_116 : decode cX0_balanceHeat 116 = .ok (.putfield 270, 3) := by decide +kernel
theorem dX0_balanceHeat_119 : decode cX0_balanceHeat 119 = .ok (.iinc 2 1, 3) := by decide +kernel
theorem dX0_balanceHeat_122 : decode cX0_balanceHeat 122 = .ok (.goto (-60), 3) := by decide +kernel
theorem dX0_balanceHeat_125 : decode cX0_balanceHeat 125 = .ok (.iconst 0, 1) := by decide +kernel
theorem dX0_balanceHeat_126 : decode cX0_balanceHeat 126 = .ok (.istore_n 2, 1) := by decide +kernel
theorem dX0_balanceHeat_127 : decode cX0_balanceHeat 127 = .ok (.iload_n 2, 1) := by decide +kernel
theorem dX0_balanceHeat_128 : decode cX0_balanceHeat 128 = .ok (.aload_n 0, 1) := by decide +kernel
theorem dX0_balanceHeat_129 : decode cX0_balanceHeat 129 = .ok (.getfield 94, 3) := by decide +kernel
theorem dX0_balanceHeat_132 : decode cX0_balanceHeat 132 = .ok (.if_icmp .ge 57, 3) := by decide +kernel
theorem dX0_balanceHeat_135 : decode cX0_balanceHeat 135 = .ok (.aload_n 0, 1) := by decide +kernel
theorem dX0_balanceHeat_136 : decode cX0_balanceHeat 136 = .ok (.getfield 31, 3) := by decide +kernel
theorem dX0_balanceHeat_139 : decode cX0_balanceHeat 139 = .ok (.iload_n 2, 1) := by decide +kernel
theorem dX0_balanceHeat_140 : decode cX0_balanceHeat 140 = .ok (.aaload, 1) := by decide +kernel
theorem dX0_balanceHeat_141 : decode cX0_balanceHeat 141 = .ok (.astore_n 3, 1) := by decide +kernel
theorem dX0_balanceHeat_142 : decode cX0_balanceHeat 142 = .ok (.aload_n 3, 1) := by decide +kernel
theorem dX0_balanceHeat_143 : decode cX0_balanceHeat 143 = .ok (.getfield 178, 3) := by decide +kernel
theorem dX0_balanceHeat_146 : decode cX0_balanceHeat 146 = .ok (.iconst 1, 1) := by decide +kernel
theorem dX0_balanceHeat_147 : decode cX0_balanceHeat 147 = .ok (.if_icmp .ne 36, 3) := by decide +kernel
theorem dX0_balanceHeat_150 : decode cX0_balanceHeat 150 = .ok (.aload_n 0, 1) := by decide +kernel
theorem dX0_balanceHeat_151 : decode cX0_balanceHeat 151 = .ok (.aload_n 3, 1) := by decide +kernel
theorem dX0_balanceHeat_152 : decode cX0_balanceHeat 152 = .ok (.getfield 226, 3) := by decide +kernel
theorem dX0_balanceHeat_155 : decode cX0_balanceHeat 155 = .ok (.invokevirtual 152, 3) := by decide +kernel
theorem dX0_balanceHeat_158 : decode cX0_balanceHeat 158 = .ok (.ifCond .eq 25, 3) := by decide +kernel
theorem dX0_balanceHeat_161 : decode cX0_balanceHeat 161 = .ok (.aload_n 0, 1) := by decide +kernel
theorem dX0_balanceHeat_162 : decode cX0_balanceHeat 162 = .ok (.getfield 11, 3) := by decide +kernel
theorem dX0_balanceHeat_165 : decode cX0_balanceHeat 165 = .ok (.aload_n 3, 1) := by decide +kernel
theorem dX0_balanceHeat_166 : decode cX0_balanceHeat 166 = .ok (.getfield 226, 3) := by decide +kernel
theorem dX0_balanceHeat_169 : decode cX0_balanceHeat 169 = .ok (.aaload, 1) := by decide +kernel
theorem dX0_balanceHeat_170 : decode cX0_balanceHeat 170 = .ok (.dup, 1) := by decide +kernel
theorem dX0_balanceHeat_171 : decode cX0_balanceHeat 171 = .ok (.getfield 283, 3) := by decide +kernel
theorem dX0_balanceHeat_174 : decode cX0_balanceHeat 174 = .ok (.aload_n 3, 1) := by decide +kernel
theorem dX0_balanceHeat_175 : decode cX0_balanceHeat 175 = .ok (.getfield 181, 3) := by decide +kernel
theorem dX0_balanceHeat_178 : decode cX0_balanceHeat 178 = .ok (.i2l, 1) := by decide +kernel
theorem dX0_balanceHeat_179 : decode cX0_balanceHeat 179 = .ok (.ladd, 1) := by decide +kernel
theorem dX0_balanceHeat_180 : decode cX0_balanceHeat 180 = .ok (.putfield 283, 3) := by decide +kernel
theorem dX0_balanceHeat_183 : decode cX0_balanceHeat 183 = .ok (.iinc 2 1, 3) := by decide +kernel
theorem dX0_balanceHeat_186 : decode cX0_balanceHeat 186 = .ok (.goto (-59), 3) := by decide +kernel
theorem dX0_balanceHeat_189 : decode cX0_balanceHeat 189 = .ok (.iconst 0, 1) := by decide +kernel
theorem dX0_balanceHeat_190 : decode cX0_balanceHeat 190 = .ok (.istore_n 2, 1) := by decide +kernel
theorem dX0_balanceHeat_191 : decode cX0_balanceHeat 191 = .ok (.iload_n 2, 1) := by decide +kernel
theorem dX0_balanceHeat_192 : decode cX0_balanceHeat 192 = .ok (.aload_n 0, 1) := by decide +kernel
theorem dX0_balanceHeat_193 : decode cX0_balanceHeat 193 = .ok (.getfield 82, 3) := by decide +kernel
theorem dX0_balanceHeat_196 : decode cX0_balanceHeat 196 = .ok (.if_icmp .ge 19, 3) := by decide +kernel
theorem dX0_balanceHeat_199 : decode cX0_balanceHeat 199 = .ok (.aload_n 0, 1) := by decide +kernel
theorem dX0_balanceHeat_200 : decode cX0_balanceHeat 200 = .ok (.aload_n 0, 1) := by decide +kernel
theorem dX0_balanceHeat_201 : decode cX0_balanceHeat 201 = .ok (.getfield 19, 3) := by decide +kernel
theorem dX0_balanceHeat_204 : decode cX0_balanceHeat 204 = .ok (.iload_n 2, 1) := by decide +kernel
theorem dX0_balanceHeat_205 : decode cX0_balanceHeat 205 = .ok (.aaload, 1) := by decide +kernel
theorem dX0_balanceHeat_206 : decode cX0_balanceHeat 206 = .ok (.invokevirtual 289, 3) := by decide +kernel
theorem dX0_balanceHeat_209 : decode cX0_balanceHeat 209 = .ok (.iinc 2 1, 3) := by decide +kernel
theorem dX0_balanceHeat_212 : decode cX0_balanceHeat 212 = .ok (.goto (-21), 3) := by decide +kernel
theorem dX0_balanceHeat_215 : decode cX0_balanceHeat 215 = .ok (.iconst 0, 1) := by decide +kernel
theorem dX0_balanceHeat_216 : decode cX0_balanceHeat 216 = .ok (.istore_n 2, 1) := by decide +kernel
theorem dX0_balanceHeat_217 : decode cX0_balanceHeat 217 = .ok (.iload_n 2, 1) := by decide +kernel
theorem dX0_balanceHeat_218 : decode cX0_balanceHeat 218 = .ok (.aload_n 0, 1) := by decide +kernel
theorem dX0_balanceHeat_219 : decode cX0_balanceHeat 219 = .ok (.getfield 75, 3) := by decide +kernel
theorem dX0_balanceHeat_222 : decode cX0_balanceHeat 222 = .ok (.if_icmp .ge 18, 3) := by decide +kernel
theorem dX0_balanceHeat_225 : decode cX0_balanceHeat 225 = .ok (.aload_n 0, 1) := by decide +kernel
theorem dX0_balanceHeat_226 : decode cX0_balanceHeat 226 = .ok (.getfield 11, 3) := by decide +kernel
theorem dX0_balanceHeat_229 : decode cX0_balanceHeat 229 = .ok (.iload_n 2, 1) := by decide +kernel
theorem dX0_balanceHeat_230 : decode cX0_balanceHeat 230 = .ok (.aaload, 1) := by decide +kernel
theorem dX0_balanceHeat_231 : decode cX0_balanceHeat 231 = .ok (.invokevirtual 292, 3) := by decide +kernel
theorem dX0_balanceHeat_234 : decode cX0_balanceHeat 234 = .ok (.iinc 2 1, 3) := by decide +kernel
theorem dX0_balanceHeat_237 : decode cX0_balanceHeat 237 = .ok (.goto (-20), 3) := by decide +kernel
theorem dX0_balanceHeat_240 : decode cX0_balanceHeat 240 = .ok (.return_, 1) := by decide +kernel
theorem dX0_conductThrough_0 : decode cX0_conductThrough 0 = .ok (.aload_n 0, 1) := by decide +kernel
theorem dX0_conductThrough_1 : decode cX0_conductThrough 1 = .ok (.aload_n 1, 1) := by decide +kernel
theorem dX0_conductThrough_2 : decode cX0_conductThrough 2 = .ok (.getfield 115, 3) := by decide +kernel
theorem dX0_conductThrough_5 : decode cX0_conductThrough 5 = .ok (.invokevirtual 152, 3) := by decide +kernel
theorem dX0_conductThrough_8 : decode cX0_conductThrough 8 = .ok (.ifCond .eq 78, 3) := by decide +kernel
theorem dX0_conductThrough_11 : decode cX0_conductThrough 11 = .ok (.aload_n 0, 1) := by decide +kernel
theorem dX0_conductThrough_12 : decode cX0_conductThrough 12 = .ok (.aload_n 1, 1) := by decide +kernel
theorem dX0_conductThrough_13 : decode cX0_conductThrough 13 = .ok (.getfield 118, 3) := by decide +kernel
theorem dX0_conductThrough_16 : decode cX0_conductThrough 16 = .ok (.invokevirtual 152, 3) := by decide +kernel
theorem dX0_conductThrough_19 : decode cX0_conductThrough 19 = .ok (.ifCond .eq 67, 3) := by decide +kernel
theorem dX0_conductThrough_22 : decode cX0_conductThrough 22 = .ok (.aload_n 0, 1) := by decide +kernel
theorem dX0_conductThrough_23 : decode cX0_conductThrough 23 = .ok (.getfield 11, 3) := by decide +kernel
theorem dX0_conductThrough_26 : decode cX0_conductThrough 26 = .ok (.aload_n 1, 1) := by decide +kernel
theorem dX0_conductThrough_27 : decode cX0_conductThrough 27 = .ok (.getfield 115, 3) := by decide +kernel
theorem dX0_conductThrough_30 : decode cX0_conductThrough 30 = .ok (.aaload, 1) := by decide +kernel
theorem dX0_conductThrough_31 : decode cX0_conductThrough 31 = .ok (.astore_n 2, 1) := by decide +kernel
theorem dX0_conductThrough_32 : decode cX0_conductThrough 32 = .ok (.aload_n 0, 1) := by decide +kernel
theorem dX0_conductThrough_33 : decode cX0_conductThrough 33 = .ok (.getfield 11, 3) := by decide +kernel
theorem dX0_conductThrough_36 : decode cX0_conductThrough 36 = .ok (.aload_n 1, 1) := by decide +kernel
theorem dX0_conductThrough_37 : decode cX0_conductThrough 37 = .ok (.getfield 118, 3) := by decide +kernel
theorem dX0_conductThrough_40 : decode cX0_conductThrough 40 = .ok (.aaload, 1) := by decide +kernel
theorem dX0_conductThrough_41 : decode cX0_conductThrough 41 = .ok (.astore_n 3, 1) := by decide +kernel
theorem dX0_conductThrough_42 : decode cX0_conductThrough 42 = .ok (.aload_n 1, 1) := by decide +kernel
theorem dX0_conductThrough_43 : decode cX0_conductThrough 43 = .ok (.getfield 295, 3) := by decide +kernel
theorem dX0_conductThrough_46 : decode cX0_conductThrough 46 = .ok (.i2l, 1) := by decide +kernel
theorem dX0_conductThrough_47 : decode cX0_conductThrough 47 = .ok (.aload_n 3, 1) := by decide +kernel
theorem dX0_conductThrough_48 : decode cX0_conductThrough 48 = .ok (.getfield 156, 3) := by decide +kernel
theorem dX0_conductThrough_51 : decode cX0_conductThrough 51 = .ok (.aload_n 2, 1) := by decide +kernel
theorem dX0_conductThrough_52 : decode cX0_conductThrough 52 = .ok (.getfield 156, 3) := by decide +kernel
theorem dX0_conductThrough_55 : decode cX0_conductThrough 55 = .ok (.isub, 1) := by decide +kernel
theorem dX0_conductThrough_56 : decode cX0_conductThrough 56 = .ok (.i2l, 1) := by decide +kernel
theorem dX0_conductThrough_57 : decode cX0_conductThrough 57 = .ok (.lmul, 1) := by decide +kernel
theorem dX0_conductThrough_58 : decode cX0_conductThrough 58 = .ok (.ldc2_w 169, 3) := by decide +kernel
theorem dX0_conductThrough_61 : decode cX0_conductThrough 61 = .ok (.ldiv, 1) := by decide +kernel
theorem dX0_conductThrough_62 : decode cX0_conductThrough 62 = .ok (.lstore 4, 2) := by decide +kernel
theorem dX0_conductThrough_64 : decode cX0_conductThrough 64 = .ok (.aload_n 2, 1) := by decide +kernel
theorem dX0_conductThrough_65 : decode cX0_conductThrough 65 = .ok (.dup, 1) := by decide +kernel
theorem dX0_conductThrough_66 : decode cX0_conductThrough 66 = .ok (.getfield 280, 3) := by decide +kernel
theorem dX0_conductThrough_69 : decode cX0_conductThrough 69 = .ok (.lload 4, 2) := by decide +kernel
theorem dX0_conductThrough_71 : decode cX0_conductThrough 71 = .ok (.ladd, 1) := by decide +kernel
theorem dX0_conductThrough_72 : decode cX0_conductThrough 72 = .ok (.putfield 280, 3) := by decide +kernel
theorem dX0_conductThrough_75 : decode cX0_conductThrough 75 = .ok (.aload_n 3, 1) := by decide +kernel
theorem dX0_conductThrough_76 : decode cX0_conductThrough 76 = .ok (.dup, 1) := by decide +kernel
theorem dX0_conductThrough_77 : decode cX0_conductThrough 77 = .ok (.getfield 280, 3) := by decide +kernel
theorem dX0_conductThrough_80 : decode cX0_conductThrough 80 = .ok (.lload 4, 2) := by decide +kernel
theorem dX0_conductThrough_82 : decode cX0_conductThrough 82 = .ok (.lsub, 1) := by decide +kernel
theorem dX0_conductThrough_83 : decode cX0_conductThrough 83 = .ok (.putfield 280, 3) := by decide +kernel
theorem dX0_conductThrough_86 : decode cX0_conductThrough 86 = .ok (.return_, 1) := by decide +kernel
theorem dX0_warmNodes_0 : decode cX0_warmNodes 0 = .ok (.iconst 0, 1) := by decide +kernel
theorem dX0_warmNodes_1 : decode cX0_warmNodes 1 = .ok (.istore_n 1, 1) := by decide +kernel
theorem dX0_warmNodes_2 : decode cX0_warmNodes 2 = .ok (.iload_n 1, 1) := by decide +kernel
theorem dX0_warmNodes_3 : decode cX0_warmNodes 3 = .ok (.aload_n 0, 1) := by decide +kernel
theorem dX0_warmNodes_4 : decode cX0_warmNodes 4 = .ok (.getfield 75, 3) := by decide +kernel
theorem dX0_warmNodes_7 : decode cX0_warmNodes 7 = .ok (.if_icmp .ge 68, 3) := by decide +kernel
theorem dX0_warmNodes_10 : decode cX0_warmNodes 10 = .ok (.aload_n 0, 1) := by decide +kernel
theorem dX0_warmNodes_11 : decode cX0_warmNodes 11 = .ok (.getfield 11, 3) := by decide +kernel
theorem dX0_warmNodes_14 : decode cX0_warmNodes 14 = .ok (.iload_n 1, 1) := by decide +kernel
theorem dX0_warmNodes_15 : decode cX0_warmNodes 15 = .ok (.aaload, 1) := by decide +kernel
theorem dX0_warmNodes_16 : decode cX0_warmNodes 16 = .ok (.astore_n 2, 1) := by decide +kernel
theorem dX0_warmNodes_17 : decode cX0_warmNodes 17 = .ok (.aload_n 0, 1) := by decide +kernel
theorem dX0_warmNodes_18 : decode cX0_warmNodes 18 = .ok (.getfield 56, 3) := by decide +kernel
theorem dX0_warmNodes_21 : decode cX0_warmNodes 21 = .ok (.dup, 1) := by decide +kernel
theorem dX0_warmNodes_22 : decode cX0_warmNodes 22 = .ok (.getfield 298, 3) := by decide +kernel
theorem dX0_warmNodes_25 : decode cX0_warmNodes 25 = .ok (.aload_n 0, 1) := by decide +kernel
theorem dX0_warmNodes_26 : decode cX0_warmNodes 26 = .ok (.getfield 67, 3) := by decide +kernel
theorem dX0_warmNodes_29 : decode cX0_warmNodes 29 = .ok (.i2l, 1) := by decide +kernel
theorem dX0_warmNodes_30 : decode cX0_warmNodes 30 = .ok (.aload_n 2, 1) := by decide +kernel
theorem dX0_warmNodes_31 : decode cX0_warmNodes 31 = .ok (.getfield 301, 3) := by decide +kernel
theorem dX0_warmNodes_34 : decode cX0_warmNodes 34 = .ok (.lmul, 1) := by decide +kernel
theorem dX0_warmNodes_35 : decode cX0_warmNodes 35 = .ok (.ladd, 1) := by decide +kernel
theorem dX0_warmNodes_36 : decode cX0_warmNodes 36 = .ok (.putfield 298, 3) := by decide +kernel
theorem dX0_warmNodes_39 : decode cX0_warmNodes 39 = .ok (.aload_n 0, 1) := by decide +kernel
theorem dX0_warmNodes_40 : decode cX0_warmNodes 40 = .ok (.getfield 56, 3) := by decide +kernel
theorem dX0_warmNodes_43 : decode cX0_warmNodes 43 = .ok (.dup, 1) := by decide +kernel
theorem dX0_warmNodes_44 : decode cX0_warmNodes 44 = .ok (.getfield 302, 3) := by decide +kernel
theorem dX0_warmNodes_47 : decode cX0_warmNodes 47 = .ok (.aload_n 0, 1) := by decide +kernel
theorem dX0_warmNodes_48 : decode cX0_warmNodes 48 = .ok (.getfield 67, 3) := by decide +kernel
theorem dX0_warmNodes_51 : decode cX0_warmNodes 51 = .ok (.i2l, 1) := by decide +kernel
theorem dX0_warmNodes_52 : decode cX0_warmNodes 52 = .ok (.aload_n 2, 1) := by decide +kernel
theorem dX0_warmNodes_53 : decode cX0_warmNodes 53 = .ok (.getfield 277, 3) := by decide +kernel
theorem dX0_warmNodes_56 : decode cX0_warmNodes 56 = .ok (.lmul, 1) := by decide +kernel
theorem dX0_warmNodes_57 : decode cX0_warmNodes 57 = .ok (.ladd, 1) := by decide +kernel
theorem dX0_warmNodes_58 : decode cX0_warmNodes 58 = .ok (.putfield 302, 3) := by decide +kernel
theorem dX0_warmNodes_61 : decode cX0_warmNodes 61 = .ok (.aload_n 2, 1) := by decide +kernel
theorem dX0_warmNodes_62 : decode cX0_warmNodes 62 = .ok (.aload_n 0, 1) := by decide +kernel
theorem dX0_warmNodes_63 : decode cX0_warmNodes 63 = .ok (.getfield 67, 3) := by decide +kernel
theorem dX0_warmNodes_66 : decode cX0_warmNodes 66 = .ok (.invokevirtual 303, 3) := by decide +kernel
theorem dX0_warmNodes_69 : decode cX0_warmNodes 69 = .ok (.iinc 1 1, 3) := by decide +kernel
theorem dX0_warmNodes_72 : decode cX0_warmNodes 72 = .ok (.goto (-70), 3) := by decide +kernel
theorem dX0_warmNodes_75 : decode cX0_warmNodes 75 = .ok (.return_, 1) := by decide +kernel
theorem dX0_recordTemperatures_0 : decode cX0_recordTemperatures 0 = .ok (.iconst 0, 1) := by decide +kernel
theorem dX0_recordTemperatures_1 : decode cX0_recordTemperatures 1 = .ok (.istore_n 1, 1) := by decide +kernel
theorem dX0_recordTemperatures_2 : decode cX0_recordTemperatures 2 = .ok (.iconst 0, 1) := by decide +kernel
theorem dX0_recordTemperatures_3 : decode cX0_recordTemperatures 3 = .ok (.istore_n 2, 1) := by decide +kernel
theorem dX0_recordTemperatures_4 : decode cX0_recordTemperatures 4 = .ok (.iload_n 2, 1) := by decide +kernel
theorem dX0_recordTemperatures_5 : decode cX0_recordTemperatures 5 = .ok (.aload_n 0, 1) := by decide +kernel
theorem dX0_recordTemperatures_6 : decode cX0_recordTemperatures 6 = .ok (.getfield 75, 3) := by decide +kernel
theorem dX0_recordTemperatures_9 : decode cX0_recordTemperatures 9 = .ok (.if_icmp .ge 88, 3) := by decide +kernel
theorem dX0_recordTemperatures_12 : decode cX0_recordTemperatures 12 = .ok (.aload_n 0, 1) := by decide +kernel
theorem dX0_recordTemperatures_13 : decode cX0_recordTemperatures 13 = .ok (.getfield 11, 3) := by decide +kernel
theorem dX0_recordTemperatures_16 : decode cX0_recordTemperatures 16 = .ok (.iload_n 2, 1) := by decide +kernel
theorem dX0_recordTemperatures_17 : decode cX0_recordTemperatures 17 = .ok (.aaload, 1) := by decide +kernel
theorem dX0_recordTemperatures_18 : decode cX0_recordTemperatures 18 = .ok (.astore_n 3, 1) := by decide +kernel
theorem dX0_recordTemperatures_19 : decode cX0_recordTemperatures 19 = .ok (.aload_n 3, 1) := by decide +kernel
theorem dX0_recordTemperatures_20 : decode cX0_recordTemperatures 20 = .ok (.aload_n 3, 1) := by decide +kernel
theorem dX0_recordTemperatures_21 : decode cX0_recordTemperatures 21 = .ok (.getfield 306, 3) := by decide +kernel
theorem dX0_recordTemperatures_24 : decode cX0_recordTemperatures 24 = .ok (.aload_n 3, 1) := by decide +kernel
theorem dX0_recordTemperatures_25 : decode cX0_recordTemperatures 25 = .ok (.getfield 156, 3) := by decide +kernel
theorem dX0_recordTemperatures_28 : decode cX0_recordTemperatures 28 = .ok (.invokestatic 309, 3) := by decide +kernel
theorem dX0_recordTemperatures_31 : decode cX0_recordTemperatures 31 = .ok (.putfield 306, 3) := by decide +kernel
theorem dX0_recordTemperatures_34 : decode cX0_recordTemperatures 34 = .ok (.aload_n 3, 1) := by decide +kernel
theorem dX0_recordTemperatures_35 : decode cX0_recordTemperatures 35 = .ok (.aload_n 3, 1) := by decide +kernel
theorem dX0_recordTemperatures_36 : decode cX0_recordTemperatures 36 = .ok (.getfield 313, 3) := by decide +kernel
theorem dX0_recordTemperatures_39 : decode cX0_recordTemperatures 39 = .ok (.aload_n 3, 1) := by decide +kernel
theorem dX0_recordTemperatures_40 : decode cX0_recordTemperatures 40 = .ok (.getfield 156, 3) := by decide +kernel
theorem dX0_recordTemperatures_43 : decode cX0_recordTemperatures 43 = .ok (.invokestatic 316, 3) := by decide +kernel
theorem dX0_recordTemperatures_46 : decode cX0_recordTemperatures 46 = .ok (.putfield 313, 3) := by decide +kernel
theorem dX0_recordTemperatures_49 : decode cX0_recordTemperatures 49 = .ok (.aload_n 3, 1) := by decide +kernel
theorem dX0_recordTemperatures_50 : decode cX0_recordTemperatures 50 = .ok (.invokevirtual 318, 3) := by decide +kernel
theorem dX0_recordTemperatures_53 : decode cX0_recordTemperatures 53 = .ok (.ifCond .eq 38, 3) := by decide +kernel
theorem dX0_recordTemperatures_56 : decode cX0_recordTemperatures 56 = .ok (.iconst 1, 1) := by decide +kernel
theorem dX0_recordTemperatures_57 : decode cX0_recordTemperatures 57 = .ok (.istore_n 1, 1) := by decide +kernel
theorem dX0_recordTemperatures_58 : decode cX0_recordTemperatures 58 = .ok (.aload_n 3, 1) := by decide +kernel
theorem dX0_recordTemperatures_59 : decode cX0_recordTemperatures 59 = .ok (.getfield 321, 3) := by decide +kernel
theorem dX0_recordTemperatures_62 : decode cX0_recordTemperatures 62 = .ok (.ifCond .ne 19, 3) := by decide +kernel
theorem dX0_recordTemperatures_65 : decode cX0_recordTemperatures 65 = .ok (.aload_n 3, 1) := by decide +kernel
theorem dX0_recordTemperatures_66 : decode cX0_recordTemperatures 66 = .ok (.aload_n 0, 1) := by decide +kernel
theorem dX0_recordTemperatures_67 : decode cX0_recordTemperatures 67 = .ok (.getfield 112, 3) := by decide +kernel
theorem dX0_recordTemperatures_70 : decode cX0_recordTemperatures 70 = .ok (.putfield 324, 3) := by decide +kernel
theorem dX0_recordTemperatures_73 : decode cX0_recordTemperatures 73 = .ok (.aload_n 0, 1) := by decide +kernel
theorem dX0_recordTemperatures_74 : decode cX0_recordTemperatures 74 = .ok (.getfield 56, 3) := by decide +kernel
theorem dX0_recordTemperatures_77 : decode cX0_recordTemperatures 77 = .ok (.iload_n 2, 1) := by decide +kernel
theorem dX0_recordTemperatures_78 : decode cX0_recordTemperatures 78 = .ok (.invokevirtual 327, 3) := by decide +kernel
theorem dX0_recordTemperatures_81 : decode cX0_recordTemperatures 81 = .ok (.aload_n 3, 1) := by decide +kernel
theorem dX0_recordTemperatures_82 : decode cX0_recordTemperatures 82 = .ok (.dup, 1) := by decide +kernel
theorem dX0_recordTemperatures_83 : decode cX0_recordTemperatures 83 = .ok (.getfield 321, 3) := by decide +kernel
theorem dX0_recordTemperatures_86 : decode cX0_recordTemperatures 86 = .ok (.iconst 1, 1) := by decide +kernel
theorem dX0_recordTemperatures_87 : decode cX0_recordTemperatures 87 = .ok (.iadd, 1) := by decide +kernel
theorem dX0_recordTemperatures_88 : decode cX0_recordTemperatures 88 = .ok (.putfield 321, 3) := by decide +kernel
theorem dX0_recordTemperatures_91 : decode cX0_recordTemperatures 91 = .ok (.iinc 2 1, 3) := by decide +kernel
theorem dX0_recordTemperatures_94 : decode cX0_recordTemperatures 94 = .ok (.goto (-90), 3) := by decide +kernel
theorem dX0_recordTemperatures_97 : decode cX0_recordTemperatures 97 = .ok (.iload_n 1, 1) := by decide +kernel
theorem dX0_recordTemperatures_98 : decode cX0_recordTemperatures 98 = .ok (.ireturn, 1) := by decide +kernel
theorem dX1_init_0 : decode cX1_init 0 = .ok (.aload_n 0, 1) := by decide +kernel
theorem dX1_init_1 : decode cX1_init 1 = .ok (.invokespecial 3, 3) := by decide +kernel
theorem dX1_init_4 : decode cX1_init 4 = .ok (.return_, 1) := by decide +kernel
theorem dX1_begin_0 : decode cX1_begin 0 = .ok (.aload_n 0, 1) := by decide +kernel
theorem dX1_begin_1 : decode cX1_begin 1 = .ok (.iload_n 1, 1) := by decide +kernel
theorem dX1_begin_2 : decode cX1_begin 2 = .ok (.putfield 9, 3) := by decide +kernel
theorem dX1_begin_5 : decode cX1_begin 5 = .ok (.aload_n 0, 1) := by decide +kernel
theorem dX1_begin_6 : decode cX1_begin 6 = .ok (.iload_n 2, 1) := by decide +kernel
theorem dX1_begin_7 : decode cX1_begin 7 = .ok (.putfield 15, 3) := by decide +kernel
theorem dX1_begin_10 : decode cX1_begin 10 = .ok (.aload_n 0, 1) := by decide +kernel
theorem dX1_begin_11 : decode cX1_begin 11 = .ok (.iload_n 3, 1) := by decide +kernel
theorem dX1_begin_12 : decode cX1_begin 12 = .ok (.putfield 18, 3) := by decide +kernel
theorem dX1_begin_15 : decode cX1_begin 15 = .ok (.aload_n 0, 1) := by decide +kernel
theorem dX1_begin_16 : decode cX1_begin 16 = .ok (.iload 4, 2) := by decide +kernel
theorem dX1_begin_18 : decode cX1_begin 18 = .ok (.putfield 21, 3) := by decide +kernel
theorem dX1_begin_21 : decode cX1_begin 21 = .ok (.aload_n 0, 1) := by decide +kernel
theorem dX1_begin_22 : decode cX1_begin 22 = .ok (.iload 5, 2) := by decide +kernel
theorem dX1_begin_24 : decode cX1_begin 24 = .ok (.putfield 24, 3) := by decide +kernel
theorem dX1_begin_27 : decode cX1_begin 27 = .ok (.aload_n 0, 1) := by decide +kernel
theorem dX1_begin_28 : decode cX1_begin 28 = .ok (.iconst 0, 1) := by decide +kernel
theorem dX1_begin_29 : decode cX1_begin 29 = .ok (.putfield 27, 3) := by decide +kernel
theorem dX1_begin_32 : decode cX1_begin 32 = .ok (.aload_n 0, 1) := by decide +kernel
theorem dX1_begin_33 : decode cX1_begin 33 = .ok (.iconst 0, 1) := by decide +kernel
theorem dX1_begin_34 : decode cX1_begin 34 = .ok (.putfield 30, 3) := by decide +kernel
theorem dX1_begin_37 : decode cX1_begin 37 = .ok (.aload_n 0, 1) := by decide +kernel
theorem dX1_begin_38 : decode cX1_begin 38 = .ok (.iconst 0, 1) := by decide +kernel
theorem dX1_begin_39 : decode cX1_begin 39 = .ok (.putfield 34, 3) := by decide +kernel
theorem dX1_begin_42 : decode cX1_begin 42 = .ok (.return_, 1) := by decide +kernel
theorem dX1_copyFrom_0 : decode cX1_copyFrom 0 = .ok (.aload_n 0, 1) := by decide +kernel
theorem dX1_copyFrom_1 : decode cX1_copyFrom 1 = .ok (.aload_n 1, 1) := by decide +kernel
theorem dX1_copyFrom_2 : decode cX1_copyFrom 2 = .ok (.getfield 9, 3) := by decide +kernel
theorem dX1_copyFrom_5 : decode cX1_copyFrom 5 = .ok (.aload_n 1, 1) := by decide +kernel
theorem dX1_copyFrom_6 : decode cX1_copyFrom 6 = .ok (.getfield 15, 3) := by decide +kernel
theorem dX1_copyFrom_9 : decode cX1_copyFrom 9 = .ok (.aload_n 1, 1) := by decide +kernel
theorem dX1_copyFrom_10 : decode cX1_copyFrom 10 = .ok (.getfield 18, 3) := by decide +kernel
theorem dX1_copyFrom_13 : decode cX1_copyFrom 13 = .ok (.aload_n 1, 1) := by decide +kernel
theorem dX1_copyFrom_14 : decode cX1_copyFrom 14 = .ok (.getfield 21, 3) := by decide +kernel
theorem dX1_copyFrom_17 : decode cX1_copyFrom 17 = .ok (.aload_n 1, 1) := by decide +kernel
theorem dX1_copyFrom_18 : decode cX1_copyFrom 18 = .ok (.getfield 24, 3) := by decide +kernel
theorem dX1_copyFrom_21 : decode cX1_copyFrom 21 = .ok (.invokevirtual 37, 3) := by decide +kernel
theorem dX1_copyFrom_24 : decode cX1_copyFrom 24 = .ok (.aload_n 0, 1) := by decide +kernel
theorem dX1_copyFrom_25 : decode cX1_copyFrom 25 = .ok (.aload_n 1, 1) := by decide +kernel
theorem dX1_copyFrom_26 : decode cX1_copyFrom 26 = .ok (.getfield 27, 3) := by decide +kernel
theorem dX1_copyFrom_29 : decode cX1_copyFrom 29 = .ok (.putfield 27, 3) := by decide +kernel
theorem dX1_copyFrom_32 : decode cX1_copyFrom 32 = .ok (.aload_n 0, 1) := by decide +kernel
theorem dX1_copyFrom_33 : decode cX1_copyFrom 33 = .ok (.aload_n 1, 1) := by decide +kernel
theorem dX1_copyFrom_34 : decode cX1_copyFrom 34 = .ok (.getfield 30, 3) := by decide +kernel
theorem dX1_copyFrom_37 : decode cX1_copyFrom 37 = .ok (.putfield 30, 3) := by decide +kernel
theorem dX1_copyFrom_40 : decode cX1_copyFrom 40 = .ok (.aload_n 0, 1) := by decide +kernel
theorem dX1_copyFrom_41 : decode cX1_copyFrom 41 = .ok (.aload_n 1, 1) := by decide +kernel
theorem dX1_copyFrom_42 : decode cX1_copyFrom 42 = .ok (.getfield 34, 3) := by decide +kernel
theorem dX1_copyFrom_45 : decode cX1_copyFrom 45 = .ok (.putfield 34, 3) := by decide +kernel
theorem dX1_copyFrom_48 : decode cX1_copyFrom 48 = .ok (.return_, 1) := by decide +kernel
theorem dX1_decideWish_0 : decode cX1_decideWish 0 = .ok (.aload_n 0, 1) := by decide +kernel
theorem dX1_decideWish_1 : decode cX1_decideWish 1 = .ok (.getfield 27, 3) := by decide +kernel
theorem dX1_decideWish_4 : decode cX1_decideWish 4 = .ok (.iconst 1, 1) := by decide +kernel
theorem dX1_decideWish_5 : decode cX1_decideWish 5 = .ok (.if_icmp .ne 11, 3) := by decide +kernel
theorem dX1_decideWish_8 : decode cX1_decideWish 8 = .ok (.aload_n 0, 1) := by decide +kernel
theorem dX1_decideWish_9 : decode cX1_decideWish 9 = .ok (.iconst 1, 1) := by decide +kernel
theorem dX1_decideWish_10 : decode cX1_decideWish 10 = .ok (.putfield 30, 3) := by decide +kernel
theorem dX1_decideWish_13 : decode cX1_decideWish 13 = .ok (.goto 48, 3) := by decide +kernel
theorem dX1_decideWish_16 : decode cX1_decideWish 16 = .ok (.aload_n 0, 1) := by decide +kernel
theorem dX1_decideWish_17 : decode cX1_decideWish 17 = .ok (.getfield 27, 3) := by decide +kernel
theorem dX1_decideWish_20 : decode cX1_decideWish 20 = .ok (.iconst 2, 1) := by decide +kernel
theorem dX1_decideWish_21 : decode cX1_decideWish 21 = .ok (.if_icmp .ne 11, 3) := by decide +kernel
theorem dX1_decideWish_24 : decode cX1_decideWish 24 = .ok (.aload_n 0, 1) := by decide +kernel
theorem dX1_decideWish_25 : decode cX1_decideWish 25 = .ok (.iconst 0, 1) := by decide +kernel
theorem dX1_decideWish_26 : decode cX1_decideWish 26 = .ok (.putfield 30, 3) := by decide +kernel
theorem dX1_decideWish_29 : decode cX1_decideWish 29 = .ok (.goto 32, 3) := by decide +kernel
theorem dX1_decideWish_32 : decode cX1_decideWish 32 = .ok (.iload_n 1, 1) := by decide +kernel
theorem dX1_decideWish_33 : decode cX1_decideWish 33 = .ok (.aload_n 0, 1) := by decide +kernel
theorem dX1_decideWish_34 : decode cX1_decideWish 34 = .ok (.getfield 18, 3) := by decide +kernel
theorem dX1_decideWish_37 : decode cX1_decideWish 37 = .ok (.if_icmp .ge 11, 3) := by decide +kernel
theorem dX1_decideWish_40 : decode cX1_decideWish 40 = .ok (.aload_n 0, 1) := by decide +kernel
theorem dX1_decideWish_41 : decode cX1_decideWish 41 = .ok (.iconst 1, 1) := by decide +kernel
theorem dX1_decideWish_42 : decode cX1_decideWish 42 = .ok (.putfield 30, 3) := by decide +kernel
theorem dX1_decideWish_45 : decode cX1_decideWish 45 = .ok (.goto 16, 3) := by decide +kernel
theorem dX1_decideWish_48 : decode cX1_decideWish 48 = .ok (.iload_n 1, 1) := by decide +kernel
theorem dX1_decideWish_49 : decode cX1_decideWish 49 = .ok (.aload_n 0, 1) := by decide +kernel
theorem dX1_decideWish_50 : decode cX1_decideWish 50 = .ok (.getfield 21, 3) := by decide +kernel
theorem dX1_decideWish_53 : decode cX1_decideWish 53 = .ok (.if_icmp .le 8, 3) := by decide +kernel
theorem dX1_decideWish_56 : decode cX1_decideWish 56 = .ok (.aload_n 0, 1) := by decide +kernel
theorem dX1_decideWish_57 : decode cX1_decideWish 57 = .ok (.iconst 0, 1) := by decide +kernel
theorem dX1_decideWish_58 : decode cX1_decideWish 58 = .ok (.putfield 30, 3) := by decide +kernel
theorem dX1_decideWish_61 : decode cX1_decideWish 61 = .ok (.return_, 1) := by decide +kernel
theorem dX2_init_0 : decode cX2_init 0 = .ok (.aload_n 0, 1) := by decide +kernel
theorem dX2_init_1 : decode cX2_init 1 = .ok (.invokespecial 1, 3) := by decide +kernel
theorem dX2_init_4 : decode cX2_init 4 = .ok (.return_, 1) := by decide +kernel
theorem dX2_begin_0 : decode cX2_begin 0 = .ok (.aload_n 0, 1) := by decide +kernel
theorem dX2_begin_1 : decode cX2_begin 1 = .ok (.iload_n 1, 1) := by decide +kernel
theorem dX2_begin_2 : decode cX2_begin 2 = .ok (.putfield 7, 3) := by decide +kernel
theorem dX2_begin_5 : decode cX2_begin 5 = .ok (.aload_n 0, 1) := by decide +kernel
theorem dX2_begin_6 : decode cX2_begin 6 = .ok (.iload_n 2, 1) := by decide +kernel
theorem dX2_begin_7 : decode cX2_begin 7 = .ok (.putfield 13, 3) := by decide +kernel
theorem dX2_begin_10 : decode cX2_begin 10 = .ok (.aload_n 0, 1) := by decide +kernel
theorem dX2_begin_11 : decode cX2_begin 11 = .ok (.iload_n 3, 1) := by decide +kernel
theorem dX2_begin_12 : decode cX2_begin 12 = .ok (.putfield 16, 3) := by decide +kernel
theorem dX2_begin_15 : decode cX2_begin 15 = .ok (.return_, 1) := by decide +kernel
theorem dX2_copyFrom_0 : decode cX2_copyFrom 0 = .ok (.aload_n 0, 1) := by decide +kernel
theorem dX2_copyFrom_1 : decode cX2_copyFrom 1 = .ok (.aload_n 1, 1) := by decide +kernel
theorem dX2_copyFrom_2 : decode cX2_copyFrom 2 = .ok (.getfield 7, 3) := by decide +kernel
theorem dX2_copyFrom_5 : decode cX2_copyFrom 5 = .ok (.aload_n 1, 1) := by decide +kernel
theorem dX2_copyFrom_6 : decode cX2_copyFrom 6 = .ok (.getfield 13, 3) := by decide +kernel
theorem dX2_copyFrom_9 : decode cX2_copyFrom 9 = .ok (.aload_n 1, 1) := by decide +kernel
theorem dX2_copyFrom_10 : decode cX2_copyFrom 10 = .ok (.getfield 16, 3) := by decide +kernel
theorem dX2_copyFrom_13 : decode cX2_copyFrom 13 = .ok (.invokevirtual 19, 3) := by decide +kernel
theorem dX2_copyFrom_16 : decode cX2_copyFrom 16 = .ok (.return_, 1) := by decide +kernel
theorem dX3_init_0 : decode cX3_init 0 = .ok (.aload_n 0, 1) := by decide +kernel
theorem dX3_init_1 : decode cX3_init 1 = .ok (.invokespecial 1, 3) := by decide +kernel
theorem dX3_init_4 : decode cX3_init 4 = .ok (.return_, 1) := by decide +kernel
theorem dX3_begin_0 : decode cX3_begin 0 = .ok (.aload_n 0, 1) := by decide +kernel
theorem dX3_begin_1 : decode cX3_begin 1 = .ok (.iload_n 1, 1) := by decide +kernel
theorem dX3_begin_2 : decode cX3_begin 2 = .ok (.putfield 7, 3) := by decide +kernel
theorem dX3_begin_5 : decode cX3_begin 5 = .ok (.aload_n 0, 1) := by decide +kernel
theorem dX3_begin_6 : decode cX3_begin 6 = .ok (.iload_n 2, 1) := by decide +kernel
theorem dX3_begin_7 : decode cX3_begin 7 = .ok (.putfield 13, 3) := by decide +kernel
theorem dX3_begin_10 : decode cX3_begin 10 = .ok (.aload_n 0, 1) := by decide +kernel
theorem dX3_begin_11 : decode cX3_begin 11 = .ok (.iload_n 3, 1) := by decide +kernel
theorem dX3_begin_12 : decode cX3_begin 12 = .ok (.putfield 16, 3) := by decide +kernel
theorem dX3_begin_15 : decode cX3_begin 15 = .ok (.aload_n 0, 1) := by decide +kernel
theorem dX3_begin_16 : decode cX3_begin 16 = .ok (.iload 4, 2) := by decide +kernel
theorem dX3_begin_18 : decode cX3_begin 18 = .ok (.putfield 19, 3) := by decide +kernel
theorem dX3_begin_21 : decode cX3_begin 21 = .ok (.aload_n 0, 1) := by decide +kernel
theorem dX3_begin_22 : decode cX3_begin 22 = .ok (.iload 5, 2) := by decide +kernel
theorem dX3_begin_24 : decode cX3_begin 24 = .ok (.putfield 22, 3) := by decide +kernel
theorem dX3_begin_27 : decode cX3_begin 27 = .ok (.aload_n 0, 1) := by decide +kernel
theorem dX3_begin_28 : decode cX3_begin 28 = .ok (.iconst 0, 1) := by decide +kernel
theorem dX3_begin_29 : decode cX3_begin 29 = .ok (.putfield 25, 3) := by decide +kernel
theorem dX3_begin_32 : decode cX3_begin 32 = .ok (.aload_n 0, 1) := by decide +kernel
theorem dX3_begin_33 : decode cX3_begin 33 = .ok (.iconst 0, 1) := by decide +kernel
theorem dX3_begin_34 : decode cX3_begin 34 = .ok (.putfield 28, 3) := by decide +kernel
theorem dX3_begin_37 : decode cX3_begin 37 = .ok (.return_, 1) := by decide +kernel
theorem dX3_copyFrom_0 : decode cX3_copyFrom 0 = .ok (.aload_n 0, 1) := by decide +kernel
theorem dX3_copyFrom_1 : decode cX3_copyFrom 1 = .ok (.aload_n 1, 1) := by decide +kernel
theorem dX3_copyFrom_2 : decode cX3_copyFrom 2 = .ok (.getfield 7, 3) := by decide +kernel
theorem dX3_copyFrom_5 : decode cX3_copyFrom 5 = .ok (.aload_n 1, 1) := by decide +kernel
theorem dX3_copyFrom_6 : decode cX3_copyFrom 6 = .ok (.getfield 13, 3) := by decide +kernel
theorem dX3_copyFrom_9 : decode cX3_copyFrom 9 = .ok (.aload_n 1, 1) := by decide +kernel
theorem dX3_copyFrom_10 : decode cX3_copyFrom 10 = .ok (.getfield 16, 3) := by decide +kernel
theorem dX3_copyFrom_13 : decode cX3_copyFrom 13 = .ok (.aload_n 1, 1) := by decide +kernel
theorem dX3_copyFrom_14 : decode cX3_copyFrom 14 = .ok (.getfield 19, 3) := by decide +kernel
theorem dX3_copyFrom_17 : decode cX3_copyFrom 17 = .ok (.aload_n 1, 1) := by decide +kernel
theorem dX3_copyFrom_18 : decode cX3_copyFrom 18 = .ok (.getfield 22, 3) := by decide +kernel
theorem dX3_copyFrom_21 : decode cX3_copyFrom 21 = .ok (.invokevirtual 32, 3) := by decide +kernel
theorem dX3_copyFrom_24 : decode cX3_copyFrom 24 = .ok (.aload_n 0, 1) := by decide +kernel
theorem dX3_copyFrom_25 : decode cX3_copyFrom 25 = .ok (.aload_n 1, 1) := by decide +kernel
theorem dX3_copyFrom_26 : decode cX3_copyFrom 26 = .ok (.getfield 25, 3) := by decide +kernel
theorem dX3_copyFrom_29 : decode cX3_copyFrom 29 = .ok (.putfield 25, 3) := by decide +kernel
theorem dX3_copyFrom_32 : decode cX3_copyFrom 32 = .ok (.aload_n 0, 1) := by decide +kernel
theorem dX3_copyFrom_33 : decode cX3_copyFrom 33 = .ok (.aload_n 1, 1) := by decide +kernel
theorem dX3_copyFrom_34 : decode cX3_copyFrom 34 = .ok (.getfield 28, 3) := by decide +kernel
theorem dX3_copyFrom_37 : decode cX3_copyFrom 37 = .ok (.putfield 28, 3) := by decide +kernel
theorem dX3_copyFrom_40 : decode cX3_copyFrom 40 = .ok (.return_, 1) := by decide +kernel
theorem dX3_moveTowards_0 : decode cX3_moveTowards 0 = .ok (.aload_n 0, 1) := by decide +kernel
theorem dX3_moveTowards_1 : decode cX3_moveTowards 1 = .ok (.dup, 1) := by decide +kernel
theorem dX3_moveTowards_2 : decode cX3_moveTowards 2 = .ok (.getfield 25, 3) := by decide +kernel
theorem dX3_moveTowards_5 : decode cX3_moveTowards 5 = .ok (.iload_n 1, 1) := by decide +kernel
theorem dX3_moveTowards_6 : decode cX3_moveTowards 6 = .ok (.aload_n 0, 1) := by decide +kernel
theorem dX3_moveTowards_7 : decode cX3_moveTowards 7 = .ok (.getfield 25, 3) := by decide +kernel
theorem dX3_moveTowards_10 : decode cX3_moveTowards 10 = .ok (.isub, 1) := by decide +kernel
theorem dX3_moveTowards_11 : decode cX3_moveTowards 11 = .ok (.i2l, 1) := by decide +kernel
theorem dX3_moveTowards_12 : decode cX3_moveTowards 12 = .ok (.aload_n 0, 1) := by decide +kernel
theorem dX3_moveTowards_13 : decode cX3_moveTowards 13 = .ok (.getfield 22, 3) := by decide +kernel
theorem dX3_moveTowards_16 : decode cX3_moveTowards 16 = .ok (.ineg, 1) := by decide +kernel
theorem dX3_moveTowards_17 : decode cX3_moveTowards 17 = .ok (.i2l, 1) := by decide +kernel
theorem dX3_moveTowards_18 : decode cX3_moveTowards 18 = .ok (.aload_n 0, 1) := by decide +kernel
theorem dX3_moveTowards_19 : decode cX3_moveTowards 19 = .ok (.getfield 22, 3) := by decide +kernel
theorem dX3_moveTowards_22 : decode cX3_moveTowards 22 = .ok (.i2l, 1) := by decide +kernel
theorem dX3_moveTowards_23 : decode cX3_moveTowards 23 = .ok (.invokestatic 36, 3) := by decide +kernel
theorem dX3_moveTowards_26 : decode cX3_moveTowards 26 = .ok (.l2i, 1) := by decide +kernel
theorem dX3_moveTowards_27 : decode cX3_moveTowards 27 = .ok (.iadd, 1) := by decide +kernel
theorem dX3_moveTowards_28 : decode cX3_moveTowards 28 = .ok (.putfield 25, 3) := by decide +kernel
theorem dX3_moveTowards_31 : decode cX3_moveTowards 31 = .ok (.return_, 1) := by decide +kernel
theorem dX4_init_0 : decode cX4_init 0 = .ok (.aload_n 0, 1) := by decide +kernel
theorem dX4_init_1 : decode cX4_init 1 = .ok (.invokespecial 3, 3) := by decide +kernel
theorem dX4_init_4 : decode cX4_init 4 = .ok (.return_, 1) := by decide +kernel
theorem dX4_begin_0 : decode cX4_begin 0 = .ok (.aload_n 0, 1) := by decide +kernel
theorem dX4_begin_1 : decode cX4_begin 1 = .ok (.iload_n 1, 1) := by decide +kernel
theorem dX4_begin_2 : decode cX4_begin 2 = .ok (.putfield 9, 3) := by decide +kernel
theorem dX4_begin_5 : decode cX4_begin 5 = .ok (.aload_n 0, 1) := by decide +kernel
theorem dX4_begin_6 : decode cX4_begin 6 = .ok (.iload_n 2, 1) := by decide +kernel
theorem dX4_begin_7 : decode cX4_begin 7 = .ok (.putfield 15, 3) := by decide +kernel
theorem dX4_begin_10 : decode cX4_begin 10 = .ok (.aload_n 0, 1) := by decide +kernel
theorem dX4_begin_11 : decode cX4_begin 11 = .ok (.iload_n 3, 1) := by decide +kernel
theorem dX4_begin_12 : decode cX4_begin 12 = .ok (.putfield 18, 3) := by decide +kernel
theorem dX4_begin_15 : decode cX4_begin 15 = .ok (.aload_n 0, 1) := by decide +kernel
theorem dX4_begin_16 : decode cX4_begin 16 = .ok (.iload 4, 2) := by decide +kernel
theorem dX4_begin_18 : decode cX4_begin 18 = .ok (.putfield 21, 3) := by decide +kernel
theorem dX4_begin_21 : decode cX4_begin 21 = .ok (.aload_n 0, 1) := by decide +kernel
theorem dX4_begin_22 : decode cX4_begin 22 = .ok (.iload 5, 2) := by decide +kernel
theorem dX4_begin_24 : decode cX4_begin 24 = .ok (.putfield 24, 3) := by decide +kernel
theorem dX4_begin_27 : decode cX4_begin 27 = .ok (.aload_n 0, 1) := by decide +kernel
theorem dX4_begin_28 : decode cX4_begin 28 = .ok (.ldc 27, 2) := by decide +kernel
theorem dX4_begin_30 : decode cX4_begin 30 = .ok (.putfield 28, 3) := by decide +kernel
theorem dX4_begin_33 : decode cX4_begin 33 = .ok (.aload_n 0, 1) := by decide +kernel
theorem dX4_begin_34 : decode cX4_begin 34 = .ok (.ldc 31, 2) := by decide +kernel
theorem dX4_begin_36 : decode cX4_begin 36 = .ok (.putfield 32, 3) := by decide +kernel
theorem dX4_begin_39 : decode cX4_begin 39 = .ok (.aload_n 0, 1) := by decide +kernel
theorem dX4_begin_40 : decode cX4_begin 40 = .ok (.invokevirtual 35, 3) := by decide +kernel
theorem dX4_begin_43 : decode cX4_begin 43 = .ok (.return_, 1) := by decide +kernel
theorem dX4_beginRecords_0 : decode cX4_beginRecords 0 = .ok (.aload_n 0, 1) := by decide +kernel
theorem dX4_beginRecords_1 : decode cX4_beginRecords 1 = .ok (.aload_n 0, 1) := by decide +kernel
theorem dX4_beginRecords_2 : decode cX4_beginRecords 2 = .ok (.getfield 15, 3) := by decide +kernel
theorem dX4_beginRecords_5 : decode cX4_beginRecords 5 = .ok (.putfield 38, 3) := by decide +kernel
theorem dX4_beginRecords_8 : decode cX4_beginRecords 8 = .ok (.aload_n 0, 1) := by decide +kernel
theorem dX4_beginRecords_9 : decode cX4_beginRecords 9 = .ok (.aload_n 0, 1) := by decide +kernel
theorem dX4_beginRecords_10 : decode cX4_beginRecords 10 = .ok (.getfield 15, 3) := by decide +kernel
theorem dX4_beginRecords_13 : decode cX4_beginRecords 13 = .ok (.putfield 41, 3) := by decide +kernel
theorem dX4_beginRecords_16 : decode cX4_beginRecords 16 = .ok (.aload_n 0, 1) := by decide +kernel
theorem dX4_beginRecords_17 : decode cX4_beginRecords 17 = .ok (.iconst 0, 1) := by decide +kernel
theorem dX4_beginRecords_18 : decode cX4_beginRecords 18 = .ok (.putfield 44, 3) := by decide +kernel
theorem dX4_beginRecords_21 : decode cX4_beginRecords 21 = .ok (.aload_n 0, 1) := by decide +kernel
theorem dX4_beginRecords_22 : decode cX4_beginRecords 22 = .ok (.iconst (-1), 1) := by decide +kernel
theorem dX4_beginRecords_23 : decode cX4_beginRecords 23 = .ok (.putfield 47, 3) := by decide +kernel
theorem dX4_beginRecords_26 : decode cX4_beginRecords 26 = .ok (.return_, 1) := by decide +kernel
theorem dX4_copyFrom_0 : decode cX4_copyFrom 0 = .ok (.aload_n 0, 1) := by decide +kernel
theorem dX4_copyFrom_1 : decode cX4_copyFrom 1 = .ok (.aload_n 1, 1) := by decide +kernel
theorem dX4_copyFrom_2 : decode cX4_copyFrom 2 = .ok (.getfield 9, 3) := by decide +kernel
theorem dX4_copyFrom_5 : decode cX4_copyFrom 5 = .ok (.putfield 9, 3) := by decide +kernel
theorem dX4_copyFrom_8 : decode cX4_copyFrom 8 = .ok (.aload_n 0, 1) := by decide +kernel
theorem dX4_copyFrom_9 : decode cX4_copyFrom 9 = .ok (.aload_n 1, 1) := by decide +kernel
theorem dX4_copyFrom_10 : decode cX4_copyFrom 10 = .ok (.getfield 15, 3) := by decide +kernel
theorem dX4_copyFrom_13 : decode cX4_copyFrom 13 = .ok (.putfield 15, 3) := by decide +kernel
theorem dX4_copyFrom_16 : decode cX4_copyFrom 16 = .ok (.aload_n 0, 1) := by decide +kernel
theorem dX4_copyFrom_17 : decode cX4_copyFrom 17 = .ok (.aload_n 1, 1) := by decide +kernel
theorem dX4_copyFrom_18 : decode cX4_copyFrom 18 = .ok (.getfield 18, 3) := by decide +kernel
theorem dX4_copyFrom_21 : decode cX4_copyFrom 21 = .ok (.putfield 18, 3) := by decide +kernel
theorem dX4_copyFrom_24 : decode cX4_copyFrom 24 = .ok (.aload_n 0, 1) := by decide +kernel
theorem dX4_copyFrom_25 : decode cX4_copyFrom 25 = .ok (.aload_n 1, 1) := by decide +kernel
theorem dX4_copyFrom_26 : decode cX4_copyFrom 26 = .ok (.getfield 21, 3) := by decide +kernel
theorem dX4_copyFrom_29 : decode cX4_copyFrom 29 = .ok (.putfield 21, 3) := by decide +kernel
theorem dX4_copyFrom_32 : decode cX4_copyFrom 32 = .ok (.aload_n 0, 1) := by decide +kernel
theorem dX4_copyFrom_33 : decode cX4_copyFrom 33 = .ok (.aload_n 1, 1) := by decide +kernel
theorem dX4_copyFrom_34 : decode cX4_copyFrom 34 = .ok (.getfield 24, 3) := by decide +kernel
theorem dX4_copyFrom_37 : decode cX4_copyFrom 37 = .ok (.putfield 24, 3) := by decide +kernel
theorem dX4_copyFrom_40 : decode cX4_copyFrom 40 = .ok (.aload_n 0, 1) := by decide +kernel
theorem dX4_copyFrom_41 : decode cX4_copyFrom 41 = .ok (.aload_n 1, 1) := by decide +kernel
theorem dX4_copyFrom_42 : decode cX4_copyFrom 42 = .ok (.getfield 28, 3) := by decide +kernel
theorem dX4_copyFrom_45 : decode cX4_copyFrom 45 = .ok (.putfield 28, 3) := by decide +kernel
theorem dX4_copyFrom_48 : decode cX4_copyFrom 48 = .ok (.aload_n 0, 1) := by decide +kernel
theorem dX4_copyFrom_49 : decode cX4_copyFrom 49 = .ok (.aload_n 1, 1) := by decide +kernel
theorem dX4_copyFrom_50 : decode cX4_copyFrom 50 = .ok (.getfield 32, 3) := by decide +kernel
theorem dX4_copyFrom_53 : decode cX4_copyFrom 53 = .ok (.putfield 32, 3) := by decide +kernel
theorem dX4_copyFrom_56 : decode cX4_copyFrom 56 = .ok (.aload_n 0, 1) := by decide +kernel
theorem dX4_copyFrom_57 : decode cX4_copyFrom 57 = .ok (.aload_n 1, 1) := by decide +kernel
theorem dX4_copyFrom_58 : decode cX4_copyFrom 58 = .ok (.getfield 38, 3) := by decide +kernel
theorem dX4_copyFrom_61 : decode cX4_copyFrom 61 = .ok (.putfield 38, 3) := by decide +kernel
theorem dX4_copyFrom_64 : decode cX4_copyFrom 64 = .ok (.aload_n 0, 1) := by decide +kernel
theorem dX4_copyFrom_65 : decode cX4_copyFrom 65 = .ok (.aload_n 1, 1) := by decide +kernel
theorem dX4_copyFrom_66 : decode cX4_copyFrom 66 = .ok (.getfield 41, 3) := by decide +kernel
theorem dX4_copyFrom_69 : decode cX4_copyFrom 69 = .ok (.putfield 41, 3) := by decide +kernel
theorem dX4_copyFrom_72 : decode cX4_copyFrom 72 = .ok (.aload_n 0, 1) := by decide +kernel
theorem dX4_copyFrom_73 : decode cX4_copyFrom 73 = .ok (.aload_n 1, 1) := by decide +kernel
theorem dX4_copyFrom_74 : decode cX4_copyFrom 74 = .ok (.getfield 44, 3) := by decide +kernel
theorem dX4_copyFrom_77 : decode cX4_copyFrom 77 = .ok (.putfield 44, 3) := by decide +kernel
theorem dX4_copyFrom_80 : decode cX4_copyFrom 80 = .ok (.aload_n 0, 1) := by decide +kernel
theorem dX4_copyFrom_81 : decode cX4_copyFrom 81 = .ok (.aload_n 1, 1) := by decide +kernel
theorem dX4_copyFrom_82 : decode cX4_copyFrom 82 = .ok (.getfield 47, 3) := by decide +kernel
theorem dX4_copyFrom_85 : decode cX4_copyFrom 85 = .ok (.putfield 47, 3) := by decide +kernel
theorem dX4_copyFrom_88 : decode cX4_copyFrom 88 = .ok (.return_, 1) := by decide +kernel
theorem dX4_emit_0 : decode cX4_emit 0 = .ok (.aload_n 0, 1) := by decide +kernel
theorem dX4_emit_1 : decode cX4_emit 1 = .ok (.getfield 15, 3) := by decide +kernel
theorem dX4_emit_4 : decode cX4_emit 4 = .ok (.ldc 50, 2) := by decide +kernel
theorem dX4_emit_6 : decode cX4_emit 6 = .ok (.iadd, 1) := by decide +kernel
theorem dX4_emit_7 : decode cX4_emit 7 = .ok (.sipush 1000, 3) := by decide +kernel
theorem dX4_emit_10 : decode cX4_emit 10 = .ok (.idiv, 1) := by decide +kernel
theorem dX4_emit_11 : decode cX4_emit 11 = .ok (.i2l, 1) := by decide +kernel
theorem dX4_emit_12 : decode cX4_emit 12 = .ok (.lstore_n 1, 1) := by decide +kernel
theorem dX4_emit_13 : decode cX4_emit 13 = .ok (.aload_n 0, 1) := by decide +kernel
theorem dX4_emit_14 : decode cX4_emit 14 = .ok (.aload_n 0, 1) := by decide +kernel
theorem dX4_emit_15 : decode cX4_emit 15 = .ok (.getfield 51, 3) := by decide +kernel
theorem dX4_emit_18 : decode cX4_emit 18 = .ok (.lload_n 1, 1) := by decide +kernel
theorem dX4_emit_19 : decode cX4_emit 19 = .ok (.lmul, 1) := by decide +kernel
theorem dX4_emit_20 : decode cX4_emit 20 = .ok (.lload_n 1, 1) := by decide +kernel
theorem dX4_emit_21 : decode cX4_emit 21 = .ok (.lmul, 1) := by decide +kernel
theorem dX4_emit_22 : decode cX4_emit 22 = .ok (.lload_n 1, 1) := by decide +kernel
theorem dX4_emit_23 : decode cX4_emit 23 = .ok (.lmul, 1) := by decide +kernel
theorem dX4_emit_24 : decode cX4_emit 24 = .ok (.lload_n 1, 1) := by decide +kernel
theorem dX4_emit_25 : decode cX4_emit 25 = .ok (.lmul, 1) := by decide +kernel
theorem dX4_emit_26 : decode cX4_emit 26 = .ok (.ldc2_w 55, 3) := by decide +kernel
theorem dX4_emit_29 : decode cX4_emit 29 = .ok (.lmul, 1) := by decide +kernel
theorem dX4_emit_30 : decode cX4_emit 30 = .ok (.ldc2_w 57, 3) := by decide +kernel
theorem dX4_emit_33 : decode cX4_emit 33 = .ok (.ldiv, 1) := by decide +kernel
theorem dX4_emit_34 : decode cX4_emit 34 = .ok (.putfield 59, 3) := by decide +kernel
theorem dX4_emit_37 : decode cX4_emit 37 = .ok (.return_, 1) := by decide +kernel
theorem dX4_gain_0 : decode cX4_gain 0 = .ok (.aload_n 0, 1) := by decide +kernel
theorem dX4_gain_1 : decode cX4_gain 1 = .ok (.getfield 24, 3) := by decide +kernel
theorem dX4_gain_4 : decode cX4_gain 4 = .ok (.i2l, 1) := by decide +kernel
theorem dX4_gain_5 : decode cX4_gain 5 = .ok (.aload_n 0, 1) := by decide +kernel
theorem dX4_gain_6 : decode cX4_gain 6 = .ok (.getfield 62, 3) := by decide +kernel
theorem dX4_gain_9 : decode cX4_gain 9 = .ok (.ladd, 1) := by decide +kernel
theorem dX4_gain_10 : decode cX4_gain 10 = .ok (.aload_n 0, 1) := by decide +kernel
theorem dX4_gain_11 : decode cX4_gain 11 = .ok (.getfield 65, 3) := by decide +kernel
theorem dX4_gain_14 : decode cX4_gain 14 = .ok (.ladd, 1) := by decide +kernel
theorem dX4_gain_15 : decode cX4_gain 15 = .ok (.aload_n 0, 1) := by decide +kernel
theorem dX4_gain_16 : decode cX4_gain 16 = .ok (.getfield 68, 3) := by decide +kernel
theorem dX4_gain_19 : decode cX4_gain 19 = .ok (.ladd, 1) := by decide +kernel
theorem dX4_gain_20 : decode cX4_gain 20 = .ok (.aload_n 0, 1) := by decide +kernel
theorem dX4_gain_21 : decode cX4_gain 21 = .ok (.getfield 59, 3) := by decide +kernel
theorem dX4_gain_24 : decode cX4_gain 24 = .ok (.lsub, 1) := by decide +kernel
theorem dX4_gain_25 : decode cX4_gain 25 = .ok (.lreturn, 1) := by decide +kernel
theorem dX4_warm_0 : decode cX4_warm 0 = .ok (.aload_n 0, 1) := by decide +kernel
theorem dX4_warm_1 : decode cX4_warm 1 = .ok (.getfield 15, 3) := by decide +kernel
theorem dX4_warm_4 : decode cX4_warm 4 = .ok (.i2l, 1) := by decide +kernel
theorem dX4_warm_5 : decode cX4_warm 5 = .ok (.aload_n 0, 1) := by decide +kernel
theorem dX4_warm_6 : decode cX4_warm 6 = .ok (.invokevirtual 71, 3) := by decide +kernel
theorem dX4_warm_9 : decode cX4_warm 9 = .ok (.iload_n 1, 1) := by decide +kernel
theorem dX4_warm_10 : decode cX4_warm 10 = .ok (.i2l, 1) := by decide +kernel
theorem dX4_warm_11 : decode cX4_warm 11 = .ok (.lmul, 1) := by decide +kernel
theorem dX4_warm_12 : decode cX4_warm 12 = .ok (.aload_n 0, 1) := by decide +kernel
theorem dX4_warm_13 : decode cX4_warm 13 = .ok (.getfield 9, 3) := by decide +kernel
theorem dX4_warm_16 : decode cX4_warm 16 = .ok (.i2l, 1) := by decide +kernel
theorem dX4_warm_17 : decode cX4_warm 17 = .ok (.invokestatic 75, 3) := by decide +kernel
theorem dX4_warm_20 : decode cX4_warm 20 = .ok (.ladd, 1) := by decide +kernel
theorem dX4_warm_21 : decode cX4_warm 21 = .ok (.lstore_n 2, 1) := by decide +kernel
theorem dX4_warm_22 : decode cX4_warm 22 = .ok (.aload_n 0, 1) := by decide +kernel
theorem dX4_warm_23 : decode cX4_warm 23 = .ok (.lload_n 2, 1) := by decide +kernel
theorem dX4_warm_24 : decode cX4_warm 24 = .ok (.ldc2_w 79, 3) := by decide +kernel
theorem dX4_warm_27 : decode cX4_warm 27 = .ok (.ldc2_w 81, 3) := by decide +kernel
theorem dX4_warm_30 : decode cX4_warm 30 = .ok (.invokestatic 83, 3) := by decide +kernel
theorem dX4_warm_33 : decode cX4_warm 33 = .ok (.l2i, 1) := by decide +kernel
theorem dX4_warm_34 : decode cX4_warm 34 = .ok (.putfield 15, 3) := by decide +kernel
theorem dX4_warm_37 : decode cX4_warm 37 = .ok (.return_, 1) := by decide +kernel
theorem dX4_isOutside_0 : decode cX4_isOutside 0 = .ok (.aload_n 0, 1) := by decide +kernel
theorem dX4_isOutside_1 : decode cX4_isOutside 1 = .ok (.getfield 15, 3) := by decide +kernel
theorem dX4_isOutside_4 : decode cX4_isOutside 4 = .ok (.aload_n 0, 1) := by decide +kernel
theorem dX4_isOutside_5 : decode cX4_isOutside 5 = .ok (.getfield 28, 3) := by decide +kernel
theorem dX4_isOutside_8 : decode cX4_isOutside 8 = .ok (.if_icmp .lt 14, 3) := by decide +kernel
theorem dX4_isOutside_11 : decode cX4_isOutside 11 = .ok (.aload_n 0, 1) := by decide +kernel
theorem dX4_isOutside_12 : decode cX4_isOutside 12 = .ok (.getfield 15, 3) := by decide +kernel
theorem dX4_isOutside_15 : decode cX4_isOutside 15 = .ok (.aload_n 0, 1) := by decide +kernel
theorem dX4_isOutside_16 : decode cX4_isOutside 16 = .ok (.getfield 32, 3) := by decide +kernel
theorem dX4_isOutside_19 : decode cX4_isOutside 19 = .ok (.if_icmp .le 7, 3) := by decide +kernel
theorem dX4_isOutside_22 : decode cX4_isOutside 22 = .ok (.iconst 1, 1) := by decide +kernel
theorem dX4_isOutside_23 : decode cX4_isOutside 23 = .ok (.goto 4, 3) := by decide +kernel
theorem dX4_isOutside_26 : decode cX4_isOutside 26 = .ok (.iconst 0, 1) := by decide +kernel
theorem dX4_isOutside_27 : decode cX4_isOutside 27 = .ok (.ireturn, 1) := by decide +kernel
theorem dX5_init_0 : decode cX5_init 0 = .ok (.aload_n 0, 1) := by decide +kernel
theorem dX5_init_1 : decode cX5_init 1 = .ok (.invokespecial 1, 3) := by decide +kernel
theorem dX5_init_4 : decode cX5_init 4 = .ok (.aload_n 0, 1) := by decide +kernel
theorem dX5_init_5 : decode cX5_init 5 = .ok (.sipush 6000, 3) := by decide +kernel
theorem dX5_init_8 : decode cX5_init 8 = .ok (.putfield 7, 3) := by decide +kernel
theorem dX5_init_11 : decode cX5_init 11 = .ok (.aload_n 0, 1) := by decide +kernel
theorem dX5_init_12 : decode cX5_init 12 = .ok (.sipush 1361, 3) := by decide +kernel
theorem dX5_init_15 : decode cX5_init 15 = .ok (.putfield 13, 3) := by decide +kernel
theorem dX5_init_18 : decode cX5_init 18 = .ok (.return_, 1) := by decide +kernel
theorem dX5_begin_0 : decode cX5_begin 0 = .ok (.aload_n 0, 1) := by decide +kernel
theorem dX5_begin_1 : decode cX5_begin 1 = .ok (.iload_n 1, 1) := by decide +kernel
theorem dX5_begin_2 : decode cX5_begin 2 = .ok (.putfield 7, 3) := by decide +kernel
theorem dX5_begin_5 : decode cX5_begin 5 = .ok (.aload_n 0, 1) := by decide +kernel
theorem dX5_begin_6 : decode cX5_begin 6 = .ok (.iload_n 2, 1) := by decide +kernel
theorem dX5_begin_7 : decode cX5_begin 7 = .ok (.putfield 16, 3) := by decide +kernel
theorem dX5_begin_10 : decode cX5_begin 10 = .ok (.aload_n 0, 1) := by decide +kernel
theorem dX5_begin_11 : decode cX5_begin 11 = .ok (.iload_n 3, 1) := by decide +kernel
theorem dX5_begin_12 : decode cX5_begin 12 = .ok (.putfield 19, 3) := by decide +kernel
theorem dX5_begin_15 : decode cX5_begin 15 = .ok (.aload_n 0, 1) := by decide +kernel
theorem dX5_begin_16 : decode cX5_begin 16 = .ok (.iload 4, 2) := by decide +kernel
theorem dX5_begin_18 : decode cX5_begin 18 = .ok (.putfield 13, 3) := by decide +kernel
theorem dX5_begin_21 : decode cX5_begin 21 = .ok (.aload_n 0, 1) := by decide +kernel
theorem dX5_begin_22 : decode cX5_begin 22 = .ok (.iload 5, 2) := by decide +kernel
theorem dX5_begin_24 : decode cX5_begin 24 = .ok (.putfield 22, 3) := by decide +kernel
theorem dX5_begin_27 : decode cX5_begin 27 = .ok (.aload_n 0, 1) := by decide +kernel
theorem dX5_begin_28 : decode cX5_begin 28 = .ok (.iload 6, 2) := by decide +kernel
theorem dX5_begin_30 : decode cX5_begin 30 = .ok (.putfield 25, 3) := by decide +kernel
theorem dX5_begin_33 : decode cX5_begin 33 = .ok (.return_, 1) := by decide +kernel
theorem dX5_copyFrom_0 : decode cX5_copyFrom 0 = .ok (.aload_n 0, 1) := by decide +kernel
theorem dX5_copyFrom_1 : decode cX5_copyFrom 1 = .ok (.aload_n 1, 1) := by decide +kernel
theorem dX5_copyFrom_2 : decode cX5_copyFrom 2 = .ok (.getfield 7, 3) := by decide +kernel
theorem dX5_copyFrom_5 : decode cX5_copyFrom 5 = .ok (.aload_n 1, 1) := by decide +kernel
theorem dX5_copyFrom_6 : decode cX5_copyFrom 6 = .ok (.getfield 16, 3) := by decide +kernel
theorem dX5_copyFrom_9 : decode cX5_copyFrom 9 = .ok (.aload_n 1, 1) := by decide +kernel
theorem dX5_copyFrom_10 : decode cX5_copyFrom 10 = .ok (.getfield 19, 3) := by decide +kernel
theorem dX5_copyFrom_13 : decode cX5_copyFrom 13 = .ok (.aload_n 1, 1) := by decide +kernel
theorem dX5_copyFrom_14 : decode cX5_copyFrom 14 = .ok (.getfield 13, 3) := by decide +kernel
theorem dX5_copyFrom_17 : decode cX5_copyFrom 17 = .ok (.aload_n 1, 1) := by decide +kernel
theorem dX5_copyFrom_18 : decode cX5_copyFrom 18 = .ok (.getfield 22, 3) := by decide +kernel
theorem dX5_copyFrom_21 : decode cX5_copyFrom 21 = .ok (.aload_n 1, 1) := by decide +kernel
theorem dX5_copyFrom_22 : decode cX5_copyFrom 22 = .ok (.getfield 25, 3) := by decide +kernel
theorem dX5_copyFrom_25 : decode cX5_copyFrom 25 = .ok (.invokevirtual 28, 3) := by decide +kernel
theorem dX5_copyFrom_28 : decode cX5_copyFrom 28 = .ok (.return_, 1) := by decide +kernel
theorem dX5_heatInto_0 : decode cX5_heatInto 0 = .ok (.aload_n 1, 1) := by decide +kernel
theorem dX5_heatInto_1 : decode cX5_heatInto 1 = .ok (.getfield 32, 3) := by decide +kernel
theorem dX5_heatInto_4 : decode cX5_heatInto 4 = .ok (.i2l, 1) := by decide +kernel
theorem dX5_heatInto_5 : decode cX5_heatInto 5 = .ok (.aload_n 0, 1) := by decide +kernel
theorem dX5_heatInto_6 : decode cX5_heatInto 6 = .ok (.getfield 25, 3) := by decide +kernel
theorem dX5_heatInto_9 : decode cX5_heatInto 9 = .ok (.i2l, 1) := by decide +kernel
theorem dX5_heatInto_10 : decode cX5_heatInto 10 = .ok (.lmul, 1) := by decide +kernel
theorem dX5_heatInto_11 : decode cX5_heatInto 11 = .ok (.ldc2_w 37, 3) := by decide +kernel
theorem dX5_heatInto_14 : decode cX5_heatInto 14 = .ok (.ldiv, 1) := by decide +kernel
theorem dX5_heatInto_15 : decode cX5_heatInto 15 = .ok (.lstore_n 3, 1) := by decide +kernel
theorem dX5_heatInto_16 : decode cX5_heatInto 16 = .ok (.iload_n 2, 1) := by decide +kernel
theorem dX5_heatInto_17 : decode cX5_heatInto 17 = .ok (.ifCond .eq 38, 3) := by decide +kernel
theorem dX5_heatInto_20 : decode cX5_heatInto 20 = .ok (.aload_n 1, 1) := by decide +kernel
theorem dX5_heatInto_21 : decode cX5_heatInto 21 = .ok (.getfield 39, 3) := by decide +kernel
theorem dX5_heatInto_24 : decode cX5_heatInto 24 = .ok (.i2l, 1) := by decide +kernel
theorem dX5_heatInto_25 : decode cX5_heatInto 25 = .ok (.aload_n 0, 1) := by decide +kernel
theorem dX5_heatInto_26 : decode cX5_heatInto 26 = .ok (.getfield 13, 3) := by decide +kernel
theorem dX5_heatInto_29 : decode cX5_heatInto 29 = .ok (.i2l, 1) := by decide +kernel
theorem dX5_heatInto_30 : decode cX5_heatInto 30 = .ok (.lmul, 1) := by decide +kernel
theorem dX5_heatInto_31 : decode cX5_heatInto 31 = .ok (.lstore 5, 2) := by decide +kernel
theorem dX5_heatInto_33 : decode cX5_heatInto 33 = .ok (.lload_n 3, 1) := by decide +kernel
theorem dX5_heatInto_34 : decode cX5_heatInto 34 = .ok (.lload 5, 2) := by decide +kernel
theorem dX5_heatInto_36 : decode cX5_heatInto 36 = .ok (.ldc2_w 37, 3) := by decide +kernel
theorem dX5_heatInto_39 : decode cX5_heatInto 39 = .ok (.ldiv, 1) := by decide +kernel
theorem dX5_heatInto_40 : decode cX5_heatInto 40 = .ok (.lload 5, 2) := by decide +kernel
theorem dX5_heatInto_42 : decode cX5_heatInto 42 = .ok (.aload_n 0, 1) := by decide +kernel
theorem dX5_heatInto_43 : decode cX5_heatInto 43 = .ok (.getfield 22, 3) := by decide +kernel
theorem dX5_heatInto_46 : decode cX5_heatInto 46 = .ok (.i2l, 1) := by decide +kernel
theorem dX5_heatInto_47 : decode cX5_heatInto 47 = .ok (.lmul, 1) := by decide +kernel
theorem dX5_heatInto_48 : decode cX5_heatInto 48 = .ok (.ldc2_w 42, 3) := by decide +kernel
theorem dX5_heatInto_51 : decode cX5_heatInto 51 = .ok (.ldiv, 1) := by decide +kernel
theorem dX5_heatInto_52 : decode cX5_heatInto 52 = .ok (.ladd, 1) := by decide +kernel
theorem dX5_heatInto_53 : decode cX5_heatInto 53 = .ok (.ladd, 1) := by decide +kernel
theorem dX5_heatInto_54 : decode cX5_heatInto 54 = .ok (.lstore_n 3, 1) := by decide +kernel
theorem dX5_heatInto_55 : decode cX5_heatInto 55 = .ok (.lload_n 3, 1) := by decide +kernel
theorem dX5_heatInto_56 : decode cX5_heatInto 56 = .ok (.lreturn, 1) := by decide +kernel
theorem dX6_init_0 : decode cX6_init 0 = .ok (.aload_n 0, 1) := by decide +kernel
theorem dX6_init_1 : decode cX6_init 1 = .ok (.invokespecial 3, 3) := by decide +kernel
theorem dX6_init_4 : decode cX6_init 4 = .ok (.aload_n 0, 1) := by decide +kernel
theorem dX6_init_5 : decode cX6_init 5 = .ok (.bipush 12, 2) := by decide +kernel
theorem dX6_init_7 : decode cX6_init 7 = .ok (.newarray .int, 2) := by decide +kernel
theorem dX6_init_9 : decode cX6_init 9 = .ok (.putfield 9, 3) := by decide +kernel
theorem dX6_init_12 : decode cX6_init 12 = .ok (.return_, 1) := by decide +kernel
theorem dX6_clear_0 : decode cX6_clear 0 = .ok (.aload_n 0, 1) := by decide +kernel
theorem dX6_clear_1 : decode cX6_clear 1 = .ok (.iconst 0, 1) := by decide +kernel
theorem dX6_clear_2 : decode cX6_clear 2 = .ok (.putfield 15, 3) := by decide +kernel
theorem dX6_clear_5 : decode cX6_clear 5 = .ok (.aload_n 0, 1) := by decide +kernel
theorem dX6_clear_6 : decode cX6_clear 6 = .ok (.iconst 0, 1) := by decide +kernel
theorem dX6_clear_7 : decode cX6_clear 7 = .ok (.putfield 19, 3) := by decide +kernel
theorem dX6_clear_10 : decode cX6_clear 10 = .ok (.aload_n 0, 1) := by decide +kernel
theorem dX6_clear_11 : decode cX6_clear 11 = .ok (.lconst 0, 1) := by decide +kernel
theorem dX6_clear_12 : decode cX6_clear 12 = .ok (.putfield 22, 3) := by decide +kernel
theorem dX6_clear_15 : decode cX6_clear 15 = .ok (.aload_n 0, 1) := by decide +kernel
theorem dX6_clear_16 : decode cX6_clear 16 = .ok (.lconst 0, 1) := by decide +kernel
theorem dX6_clear_17 : decode cX6_clear 17 = .ok (.putfield 26, 3) := by decide +kernel
theorem dX6_clear_20 : decode cX6_clear 20 = .ok (.aload_n 0, 1) := by decide +kernel
theorem dX6_clear_21 : decode cX6_clear 21 = .ok (.lconst 0, 1) := by decide +kernel
theorem dX6_clear_22 : decode cX6_clear 22 = .ok (.putfield 29, 3) := by decide +kernel
theorem dX6_clear_25 : decode cX6_clear 25 = .ok (.return_, 1) := by decide +kernel
theorem dX6_copyFrom_0 : decode cX6_copyFrom 0 = .ok (.aload_n 1, 1) := by decide +kernel
theorem dX6_copyFrom_1 : decode cX6_copyFrom 1 = .ok (.getfield 9, 3) := by decide +kernel
theorem dX6_copyFrom_4 : decode cX6_copyFrom 4 = .ok (.iconst 0, 1) := by decide +kernel
theorem dX6_copyFrom_5 : decode cX6_copyFrom 5 = .ok (.aload_n 0, 1) := by decide +kernel
theorem dX6_copyFrom_6 : decode cX6_copyFrom 6 = .ok (.getfield 9, 3) := by decide +kernel
theorem dX6_copyFrom_9 : decode cX6_copyFrom 9 = .ok (.iconst 0, 1) := by decide +kernel
theorem dX6_copyFrom_10 : decode cX6_copyFrom 10 = .ok (.bipush 12, 2) := by decide +kernel
theorem dX6_copyFrom_12 : decode cX6_copyFrom 12 = .ok (.invokestatic 32, 3) := by decide +kernel
theorem dX6_copyFrom_15 : decode cX6_copyFrom 15 = .ok (.aload_n 0, 1) := by decide +kernel
theorem dX6_copyFrom_16 : decode cX6_copyFrom 16 = .ok (.aload_n 1, 1) := by decide +kernel
theorem dX6_copyFrom_17 : decode cX6_copyFrom 17 = .ok (.getfield 15, 3) := by decide +kernel
theorem dX6_copyFrom_20 : decode cX6_copyFrom 20 = .ok (.putfield 15, 3) := by decide +kernel
theorem dX6_copyFrom_23 : decode cX6_copyFrom 23 = .ok (.aload_n 0, 1) := by decide +kernel
theorem dX6_copyFrom_24 : decode cX6_copyFrom 24 = .ok (.aload_n 1, 1) := by decide +kernel
theorem dX6_copyFrom_25 : decode cX6_copyFrom 25 = .ok (.getfield 19, 3) := by decide +kernel
theorem dX6_copyFrom_28 : decode cX6_copyFrom 28 = .ok (.putfield 19, 3) := by decide +kernel
theorem dX6_copyFrom_31 : decode cX6_copyFrom 31 = .ok (.aload_n 0, 1) := by decide +kernel
theorem dX6_copyFrom_32 : decode cX6_copyFrom 32 = .ok (.aload_n 1, 1) := by decide +kernel
theorem dX6_copyFrom_33 : decode cX6_copyFrom 33 = .ok (.getfield 22, 3) := by decide +kernel
theorem dX6_copyFrom_36 : decode cX6_copyFrom 36 = .ok (.putfield 22, 3) := by decide +kernel
theorem dX6_copyFrom_39 : decode cX6_copyFrom 39 = .ok (.aload_n 0, 1) := by decide +kernel
theorem dX6_copyFrom_40 : decode cX6_copyFrom 40 = .ok (.aload_n 1, 1) := by decide +kernel
theorem dX6_copyFrom_41 : decode cX6_copyFrom 41 = .ok (.getfield 26, 3) := by decide +kernel
theorem dX6_copyFrom_44 : decode cX6_copyFrom 44 = .ok (.putfield 26, 3) := by decide +kernel
theorem dX6_copyFrom_47 : decode cX6_copyFrom 47 = .ok (.aload_n 0, 1) := by decide +kernel
theorem dX6_copyFrom_48 : decode cX6_copyFrom 48 = .ok (.aload_n 1, 1) := by decide +kernel
theorem dX6_copyFrom_49 : decode cX6_copyFrom 49 = .ok (.getfield 29, 3) := by decide +kernel
theorem dX6_copyFrom_52 : decode cX6_copyFrom 52 = .ok (.putfield 29, 3) := by decide +kernel
theorem dX6_copyFrom_55 : decode cX6_copyFrom 55 = .ok (.return_, 1) := by decide +kernel
theorem dX6_addViolator_0 : decode cX6_addViolator 0 = .ok (.aload_n 0, 1) := by decide +kernel
theorem dX6_addViolator_1 : decode cX6_addViolator 1 = .ok (.getfield 15, 3) := by decide +kernel
theorem dX6_addViolator_4 : decode cX6_addViolator 4 = .ok (.bipush 12, 2) := by decide +kernel
theorem dX6_addViolator_6 : decode cX6_addViolator 6 = .ok (.if_icmp .ge 23, 3) := by decide +kernel
theorem dX6_addViolator_9 : decode cX6_addViolator 9 = .ok (.aload_n 0, 1) := by decide +kernel
theorem dX6_addViolator_10 : decode cX6_addViolator 10 = .ok (.getfield 9, 3) := by decide +kernel
theorem dX6_addViolator_13 : decode cX6_addViolator 13 = .ok (.aload_n 0, 1) := by decide +kernel
theorem dX6_addViolator_14 : decode cX6_addViolator 14 = .ok (.getfield 15, 3) := by decide +kernel
theorem dX6_addViolator_17 : decode cX6_addViolator 17 = .ok (.iload_n 1, 1) := by decide +kernel
theorem dX6_addViolator_18 : decode cX6_addViolator 18 = .ok (.iastore, 1) := by decide +kernel
theorem dX6_addViolator_19 : decode cX6_addViolator 19 = .ok (.aload_n 0, 1) := by decide +kernel
theorem dX6_addViolator_20 : decode cX6_addViolator 20 = .ok (.dup, 1) := by decide +kernel
theorem dX6_addViolator_21 : decode cX6_addViolator 21 = .ok (.getfield 15, 3) := by decide +kernel
theorem dX6_addViolator_24 : decode cX6_addViolator 24 = .ok (.iconst 1, 1) := by decide +kernel
theorem dX6_addViolator_25 : decode cX6_addViolator 25 = .ok (.iadd, 1) := by decide +kernel
theorem dX6_addViolator_26 : decode cX6_addViolator 26 = .ok (.putfield 15, 3) := by decide +kernel
theorem dX6_addViolator_29 : decode cX6_addViolator 29 = .ok (.return_, 1) := by decide +kernel
theorem dX7_init_0 : decode cX7_init 0 = .ok (.aload_n 0, 1) := by decide +kernel
theorem dX7_init_1 : decode cX7_init 1 = .ok (.invokespecial 3, 3) := by decide +kernel
theorem dX7_init_4 : decode cX7_init 4 = .ok (.aload_n 0, 1) := by decide +kernel
theorem dX7_init_5 : decode cX7_init 5 = .ok (.sipush 500, 3) := by decide +kernel
theorem dX7_init_8 : decode cX7_init 8 = .ok (.newarray .byte, 2) := by decide +kernel
theorem dX7_init_10 : decode cX7_init 10 = .ok (.putfield 9, 3) := by decide +kernel
theorem dX7_init_13 : decode cX7_init 13 = .ok (.aload_n 0, 1) := by decide +kernel
theorem dX7_init_14 : decode cX7_init 14 = .ok (.iconst (-1), 1) := by decide +kernel
theorem dX7_init_15 : decode cX7_init 15 = .ok (.putfield 15, 3) := by decide +kernel
theorem dX7_init_18 : decode cX7_init 18 = .ok (.aload_n 0, 1) := by decide +kernel
theorem dX7_init_19 : decode cX7_init 19 = .ok (.new 19, 3) := by decide +kernel
theorem dX7_init_22 : decode cX7_init 22 = .ok (.dup, 1) := by decide +kernel
theorem dX7_init_23 : decode cX7_init 23 = .ok (.invokespecial 21, 3) := by decide +kernel
theorem dX7_init_26 : decode cX7_init 26 = .ok (.putfield 22, 3) := by decide +kernel
theorem dX7_init_29 : decode cX7_init 29 = .ok (.aload_n 0, 1) := by decide +kernel
theorem dX7_init_30 : decode cX7_init 30 = .ok (.sipush 501, 3) := by decide +kernel
theorem dX7_init_33 : decode cX7_init 33 = .ok (.newarray .int, 2) := by decide +kernel
theorem dX7_init_35 : decode cX7_init 35 = .ok (.putfield 26, 3) := by decide +kernel
theorem dX7_init_38 : decode cX7_init 38 = .ok (.aload_n 0, 1) := by decide +kernel
theorem dX7_init_39 : decode cX7_init 39 = .ok (.sipush 501, 3) := by decide +kernel
theorem dX7_init_42 : decode cX7_init 42 = .ok (.newarray .int, 2) := by decide +kernel
theorem dX7_init_44 : decode cX7_init 44 = .ok (.putfield 30, 3) := by decide +kernel
theorem dX7_init_47 : decode cX7_init 47 = .ok (.aload_n 0, 1) := by decide +kernel
theorem dX7_init_48 : decode cX7_init 48 = .ok (.sipush 501, 3) := by decide +kernel
theorem dX7_init_51 : decode cX7_init 51 = .ok (.newarray .int, 2) := by decide +kernel
theorem dX7_init_53 : decode cX7_init 53 = .ok (.putfield 33, 3) := by decide +kernel
theorem dX7_init_56 : decode cX7_init 56 = .ok (.return_, 1) := by decide +kernel
theorem dX7_readRules_0 : decode cX7_readRules 0 = .ok (.aload_n 0, 1) := by decide +kernel
theorem dX7_readRules_1 : decode cX7_readRules 1 = .ok (.iload_n 1, 1) := by decide +kernel
theorem dX7_readRules_2 : decode cX7_readRules 2 = .ok (.putfield 36, 3) := by decide +kernel
theorem dX7_readRules_5 : decode cX7_readRules 5 = .ok (.aload_n 0, 1) := by decide +kernel
theorem dX7_readRules_6 : decode cX7_readRules 6 = .ok (.iload_n 2, 1) := by decide +kernel
theorem dX7_readRules_7 : decode cX7_readRules 7 = .ok (.putfield 39, 3) := by decide +kernel
theorem dX7_readRules_10 : decode cX7_readRules 10 = .ok (.aload_n 0, 1) := by decide +kernel
theorem dX7_readRules_11 : decode cX7_readRules 11 = .ok (.iload_n 3, 1) := by decide +kernel
theorem dX7_readRules_12 : decode cX7_readRules 12 = .ok (.putfield 42, 3) := by decide +kernel
theorem dX7_readRules_15 : decode cX7_readRules 15 = .ok (.aload_n 0, 1) := by decide +kernel
theorem dX7_readRules_16 : decode cX7_readRules 16 = .ok (.iconst 0, 1) := by decide +kernel
theorem dX7_readRules_17 : decode cX7_readRules 17 = .ok (.putfield 45, 3) := by decide +kernel
theorem dX7_readRules_20 : decode cX7_readRules 20 = .ok (.aload_n 0, 1) := by decide +kernel
theorem dX7_readRules_21 : decode cX7_readRules 21 = .ok (.iconst (-1), 1) := by decide +kernel
theorem dX7_readRules_22 : decode cX7_readRules 22 = .ok (.putfield 15, 3) := by decide +kernel
theorem dX7_readRules_25 : decode cX7_readRules 25 = .ok (.aload_n 0, 1) := by decide +kernel
theorem dX7_readRules_26 : decode cX7_readRules 26 = .ok (.getfield 22, 3) := by decide +kernel
theorem dX7_readRules_29 : decode cX7_readRules 29 = .ok (.iconst 0, 1) := by decide +kernel
theorem dX7_readRules_30 : decode cX7_readRules 30 = .ok (.putfield 48, 3) := by decide +kernel
theorem dX7_readRules_33 : decode cX7_readRules 33 = .ok (.aload_n 0, 1) := by decide +kernel
theorem dX7_readRules_34 : decode cX7_readRules 34 = .ok (.getfield 22, 3) := by decide +kernel
theorem dX7_readRules_37 : decode cX7_readRules 37 = .ok (.iconst 0, 1) := by decide +kernel
theorem dX7_readRules_38 : decode cX7_readRules 38 = .ok (.putfield 51, 3) := by decide +kernel
theorem dX7_readRules_41 : decode cX7_readRules 41 = .ok (.aload_n 0, 1) := by decide +kernel
theorem dX7_readRules_42 : decode cX7_readRules 42 = .ok (.invokevirtual 54, 3) := by decide +kernel
theorem dX7_readRules_45 : decode cX7_readRules 45 = .ok (.aload_n 0, 1) := by decide +kernel
theorem dX7_readRules_46 : decode cX7_readRules 46 = .ok (.iconst 0, 1) := by decide +kernel
theorem dX7_readRules_47 : decode cX7_readRules 47 = .ok (.putfield 57, 3) := by decide +kernel
theorem dX7_readRules_50 : decode cX7_readRules 50 = .ok (.iconst 0, 1) := by decide +kernel
theorem dX7_readRules_51 : decode cX7_readRules 51 = .ok (.istore 4, 2) := by decide +kernel
theorem dX7_readRules_53 : decode cX7_readRules 53 = .ok (.iload 4, 2) := by decide +kernel
theorem dX7_readRules_55 : decode cX7_readRules 55 = .ok (.bipush 12, 2) := by decide +kernel
theorem dX7_readRules_57 : decode cX7_readRules 57 = .ok (.if_icmp .ge 56, 3) := by decide +kernel
theorem dX7_readRules_60 : decode cX7_readRules 60 = .ok (.aload_n 0, 1) := by decide +kernel
theorem dX7_readRules_61 : decode cX7_readRules 61 = .ok (.invokevirtual 60, 3) := by decide +kernel
theorem dX7_readRules_64 : decode cX7_readRules 64 = .ok (.ifCond .eq 49, 3) := by decide +kernel
theorem dX7_readRules_67 : decode cX7_readRules 67 = .ok (.aload_n 0, 1) := by decide +kernel
theorem dX7_readRules_68 : decode cX7_readRules 68 = .ok (.iload 4, 2) := by decide +kernel
theorem dX7_readRules_70 : decode cX7_readRules 70 = .ok (.invokevirtual 64, 3) := by decide +kernel
theorem dX7_readRules_73 : decode cX7_readRules 73 = .ok (.ifCond .eq 21, 3) := by decide +kernel
theorem dX7_readRules_76 : decode cX7_readRules 76 = .ok (.aload_n 0, 1) := by decide +kernel
theorem dX7_readRules_77 : decode cX7_readRules 77 = .ok (.iload 4, 2) := by decide +kernel
theorem dX7_readRules_79 : decode cX7_readRules 79 = .ok (.invokevirtual 68, 3) := by decide +kernel
theorem dX7_readRules_82 : decode cX7_readRules 82 = .ok (.ifCond .eq 12, 3) := by decide +kernel
theorem dX7_readRules_85 : decode cX7_readRules 85 = .ok (.aload_n 0, 1) := by decide +kernel
theorem dX7_readRules_86 : decode cX7_readRules 86 = .ok (.bipush 59, 2) := by decide +kernel
theorem dX7_readRules_88 : decode cX7_readRules 88 = .ok (.invokevirtual 71, 3) := by decide +kernel
theorem dX7_readRules_91 : decode cX7_readRules 91 = .ok (.ifCond .ne 5, 3) := by decide +kernel
theorem dX7_readRules_94 : decode cX7_readRules 94 = .ok (.iconst 0, 1) := by decide +kernel
theorem dX7_readRules_95 : decode cX7_readRules 95 = .ok (.ireturn, 1) := by decide +kernel
theorem dX7_readRules_96 : decode cX7_readRules 96 = .ok (.aload_n 0, 1) := by decide +kernel
theorem dX7_readRules_97 : decode cX7_readRules 97 = .ok (.getfield 22, 3) := by decide +kernel
theorem dX7_readRules_100 : decode cX7_readRules 100 = .ok (.iload 4, 2) := by decide +kernel
theorem dX7_readRules_102 : decode cX7_readRules 102 = .ok (.iconst 1, 1) := by decide +kernel
theorem dX7_readRules_103 : decode cX7_readRules 103 = .ok (.iadd, 1) := by decide +kernel
theorem dX7_readRules_104 : decode cX7_readRules 104 = .ok (.putfield 51, 3) := by decide +kernel
theorem dX7_readRules_107 : decode cX7_readRules 107 = .ok (.iinc 4 1, 3) := by decide +kernel
theorem dX7_readRules_110 : decode cX7_readRules 110 = .ok (.goto (-57), 3) := by decide +kernel
theorem dX7_readRules_113 : decode cX7_readRules 113 = .ok (.aload_n 0, 1) := by decide +kernel
theorem dX7_readRules_114 : decode cX7_readRules 114 = .ok (.invokevirtual 60, 3) := by decide +kernel
theorem dX7_readRules_117 : decode cX7_readRules 117 = .ok (.ifCond .ne 5, 3) := by decide +kernel
theorem dX7_readRules_120 : decode cX7_readRules 120 = .ok (.iconst 1, 1) := by decide +kernel
theorem dX7_readRules_121 : decode cX7_readRules 121 = .ok (.ireturn, 1) := by decide +kernel
theorem dX7_readRules_122 : decode cX7_readRules 122 = .ok (.aload_n 0, 1) := by decide +kernel
theorem dX7_readRules_123 : decode cX7_readRules 123 = .ok (.invokevirtual 60, 3) := by decide +kernel
theorem dX7_readRules_126 : decode cX7_readRules 126 = .ok (.sipush 201, 3) := by decide +kernel
theorem dX7_readRules_129 : decode cX7_readRules 129 = .ok (.if_icmp .eq 33, 3) := by decide +kernel
theorem dX7_readRules_132 : decode cX7_readRules 132 = .ok (.aload_n 0, 1) := by decide +kernel
theorem dX7_readRules_133 : decode cX7_readRules 133 = .ok (.invokevirtual 60, 3) := by decide +kernel
theorem dX7_readRules_136 : decode cX7_readRules 136 = .ok (.sipush 212, 3) := by decide +kernel
theorem dX7_readRules_139 : decode cX7_readRules 139 = .ok (.if_icmp .eq 23, 3) := by decide +kernel
theorem dX7_readRules_142 : decode cX7_readRules 142 = .ok (.aload_n 0, 1) := by decide +kernel
theorem dX7_readRules_143 : decode cX7_readRules 143 = .ok (.invokevirtual 60, 3) := by decide +kernel
theorem dX7_readRules_146 : decode cX7_readRules 146 = .ok (.sipush 213, 3) := by decide +kernel
theorem dX7_readRules_149 : decode cX7_readRules 149 = .ok (.if_icmp .eq 13, 3) := by decide +kernel
theorem dX7_readRules_152 : decode cX7_readRules 152 = .ok (.aload_n 0, 1) := by decide +kernel
theorem dX7_readRules_153 : decode cX7_readRules 153 = .ok (.invokevirtual 60, 3) := by decide +kernel
theorem dX7_readRules_156 : decode cX7_readRules 156 = .ok (.sipush 214, 3) := by decide +kernel
theorem dX7_readRules_159 : decode cX7_readRules 159 = .ok (.if_icmp .ne 7, 3) := by decide +kernel
theorem dX7_readRules_162 : decode cX7_readRules 162 = .ok (.iconst 1, 1) := by decide +kernel
theorem dX7_readRules_163 : decode cX7_readRules 163 = .ok (.goto 4, 3) := by decide +kernel
theorem dX7_readRules_166 : decode cX7_readRules 166 = .ok (.iconst 0, 1) := by decide +kernel
theorem dX7_readRules_167 : decode cX7_readRules 167 = .ok (.istore 4, 2) := by decide +kernel
theorem dX7_readRules_169 : decode cX7_readRules 169 = .ok (.aload_n 0, 1) := by decide +kernel
theorem dX7_readRules_170 : decode cX7_readRules 170 = .ok (.iload 4, 2) := by decide +kernel
theorem dX7_readRules_172 : decode cX7_readRules 172 = .ok (.ifCond .eq 7, 3) := by decide +kernel
theorem dX7_readRules_175 : decode cX7_readRules 175 = .ok (.iconst 3, 1) := by decide +kernel
theorem dX7_readRules_176 : decode cX7_readRules 176 = .ok (.goto 4, 3) := by decide +kernel
theorem dX7_readRules_179 : decode cX7_readRules 179 = .ok (.iconst 1, 1) := by decide +kernel
theorem dX7_readRules_180 : decode cX7_readRules 180 = .ok (.invokevirtual 74, 3) := by decide +kernel
theorem dX7_readRules_183 : decode cX7_readRules 183 = .ok (.ireturn, 1) := by decide +kernel
theorem dX7_splitText_0 : decode cX7_splitText 0 = .ok (.iconst 0, 1) := by decide +kernel
theorem dX7_splitText_1 : decode cX7_splitText 1 = .ok (.istore_n 1, 1) := by decide +kernel
theorem dX7_splitText_2 : decode cX7_splitText 2 = .ok (.iconst 1, 1) := by decide +kernel
theorem dX7_splitText_3 : decode cX7_splitText 3 = .ok (.istore_n 2, 1) := by decide +kernel
theorem dX7_splitText_4 : decode cX7_splitText 4 = .ok (.aload_n 0, 1) := by decide +kernel
theorem dX7_splitText_5 : decode cX7_splitText 5 = .ok (.iconst 0, 1) := by decide +kernel
theorem dX7_splitText_6 : decode cX7_splitText 6 = .ok (.putfield 77, 3) := by decide +kernel
theorem dX7_splitText_9 : decode cX7_splitText 9 = .ok (.iload_n 2, 1) := by decide +kernel
theorem dX7_splitText_10 : decode cX7_splitText 10 = .ok (.ifCond .eq 111, 3) := by decide +kernel
theorem dX7_splitText_13 : decode cX7_splitText 13 = .ok (.aload_n 0, 1) := by decide +kernel
theorem dX7_splitText_14 : decode cX7_splitText 14 = .ok (.getfield 77, 3) := by decide +kernel
theorem dX7_splitText_17 : decode cX7_splitText 17 = .ok (.sipush 500, 3) := by decide +kernel
theorem dX7_splitText_20 : decode cX7_splitText 20 = .ok (.if_icmp .gt 101, 3) := by decide +kernel
theorem dX7_splitText_23 : decode cX7_splitText 23 = .ok (.aload_n 0, 1) := by decide +kernel
theorem dX7_splitText_24 : decode cX7_splitText 24 = .ok (.iload_n 1, 1) := by decide +kernel
theorem dX7_splitText_25 : decode cX7_splitText 25 = .ok (.invokevirtual 80, 3) := by decide +kernel
theorem dX7_splitText_28 : decode cX7_splitText 28 = .ok (.istore_n 1, 1) := by decide +kernel
theorem dX7_splitText_29 : decode cX7_splitText 29 = .ok (.aload_n 0, 1) := by decide +kernel
theorem dX7_splitText_30 : decode cX7_splitText 30 = .ok (.iload_n 1, 1) := by decide +kernel
theorem dX7_splitText_31 : decode cX7_splitText 31 = .ok (.invokevirtual 84, 3) := by decide +kernel
theorem dX7_splitText_34 : decode cX7_splitText 34 = .ok (.istore_n 3, 1) := by decide +kernel
theorem dX7_splitText_35 : decode cX7_splitText 35 = .ok (.aload_n 0, 1) := by decide +kernel
theorem dX7_splitText_36 : decode cX7_splitText 36 = .ok (.getfield 26, 3) := by decide +kernel
theorem dX7_splitText_39 : decode cX7_splitText 39 = .ok (.aload_n 0, 1) := by decide +kernel
theorem dX7_splitText_40 : decode cX7_splitText 40 = .ok (.getfield 77, 3) := by decide +kernel
theorem dX7_splitText_43 : decode cX7_splitText 43 = .ok (.aload_n 0, 1) := by decide +kernel
theorem dX7_splitText_44 : decode cX7_splitText 44 = .ok (.iload_n 1, 1) := by decide +kernel
theorem dX7_splitText_45 : decode cX7_splitText 45 = .ok (.iload_n 3, 1) := by decide +kernel
theorem dX7_splitText_46 : decode cX7_splitText 46 = .ok (.invokevirtual 87, 3) := by decide +kernel
theorem dX7_splitText_49 : decode cX7_splitText 49 = .ok (.iastore, 1) := by decide +kernel
theorem dX7_splitText_50 : decode cX7_splitText 50 = .ok (.aload_n 0, 1) := by decide +kernel
theorem dX7_splitText_51 : decode cX7_splitText 51 = .ok (.getfield 30, 3) := by decide +kernel
theorem dX7_splitText_54 : decode cX7_splitText 54 = .ok (.aload_n 0, 1) := by decide +kernel
theorem dX7_splitText_55 : decode cX7_splitText 55 = .ok (.getfield 77, 3) := by decide +kernel
theorem dX7_splitText_58 : decode cX7_splitText 58 = .ok (.iload_n 1, 1) := by decide +kernel
theorem dX7_splitText_59 : decode cX7_splitText 59 = .ok (.iastore, 1) := by decide +kernel
theorem dX7_splitText_60 : decode cX7_splitText 60 = .ok (.aload_n 0, 1) := by decide +kernel
theorem dX7_splitText_61 : decode cX7_splitText 61 = .ok (.getfield 33, 3) := by decide +kernel
theorem dX7_splitText_64 : decode cX7_splitText 64 = .ok (.aload_n 0, 1) := by decide +kernel
theorem dX7_splitText_65 : decode cX7_splitText 65 = .ok (.getfield 77, 3) := by decide +kernel
theorem dX7_splitText_68 : decode cX7_splitText 68 = .ok (.aload_n 0, 1) := by decide +kernel
theorem dX7_splitText_69 : decode cX7_splitText 69 = .ok (.iload_n 1, 1) := by decide +kernel
theorem dX7_splitText_70 : decode cX7_splitText 70 = .ok (.iload_n 3, 1) := by decide +kernel
theorem dX7_splitText_71 : decode cX7_splitText 71 = .ok (.invokevirtual 91, 3) := by decide +kernel
theorem dX7_splitText_74 : decode cX7_splitText 74 = .ok (.iastore, 1) := by decide +kernel
theorem dX7_splitText_75 : decode cX7_splitText 75 = .ok (.aload_n 0, 1) := by decide +kernel
theorem dX7_splitText_76 : decode cX7_splitText 76 = .ok (.getfield 26, 3) := by decide +kernel
theorem dX7_splitText_79 : decode cX7_splitText 79 = .ok (.aload_n 0, 1) := by decide +kernel
theorem dX7_splitText_80 : decode cX7_splitText 80 = .ok (.getfield 77, 3) := by decide +kernel
theorem dX7_splitText_83 : decode cX7_splitText 83 = .ok (.iaload, 1) := by decide +kernel
theorem dX7_splitText_84 : decode cX7_splitText 84 = .ok (.ifCond .eq 20, 3) := by decide +kernel
theorem dX7_splitText_87 : decode cX7_splitText 87 = .ok (.aload_n 0, 1) := by decide +kernel
theorem dX7_splitText_88 : decode cX7_splitText 88 = .ok (.getfield 26, 3) := by decide +kernel
theorem dX7_splitText_91 : decode cX7_splitText 91 = .ok (.aload_n 0, 1) := by decide +kernel
theorem dX7_splitText_92 : decode cX7_splitText 92 = .ok (.getfield 77, 3) := by decide +kernel
theorem dX7_splitText_95 : decode cX7_splitText 95 = .ok (.iaload, 1) := by decide +kernel
theorem dX7_splitText_96 : decode cX7_splitText 96 = .ok (.iconst 1, 1) := by decide +kernel
theorem dX7_splitText_97 : decode cX7_splitText 97 = .ok (.if_icmp .eq 7, 3) := by decide +kernel
theorem dX7_splitText_100 : decode cX7_splitText 100 = .ok (.iconst 1, 1) := by decide +kernel
theorem dX7_splitText_101 : decode cX7_splitText 101 = .ok (.goto 4, 3) := by decide +kernel
theorem dX7_splitText_104 : decode cX7_splitText 104 = .ok (.iconst 0, 1) := by decide +kernel
theorem dX7_splitText_105 : decode cX7_splitText 105 = .ok (.istore_n 2, 1) := by decide +kernel
theorem dX7_splitText_106 : decode cX7_splitText 106 = .ok (.iload_n 3, 1) := by decide +kernel
theorem dX7_splitText_107 : decode cX7_splitText 107 = .ok (.istore_n 1, 1) := by decide +kernel
theorem dX7_splitText_108 : decode cX7_splitText 108 = .ok (.aload_n 0, 1) := by decide +kernel
theorem dX7_splitText_109 : decode cX7_splitText 109 = .ok (.dup, 1) := by decide +kernel
theorem dX7_splitText_110 : decode cX7_splitText 110 = .ok (.getfield 77, 3) := by decide +kernel
theorem dX7_splitText_113 : decode cX7_splitText 113 = .ok (.iconst 1, 1) := by decide +kernel
theorem dX7_splitText_114 : decode cX7_splitText 114 = .ok (.iadd, 1) := by decide +kernel
theorem dX7_splitText_115 : decode cX7_splitText 115 = .ok (.putfield 77, 3) := by decide +kernel
theorem dX7_splitText_118 : decode cX7_splitText 118 = .ok (.goto (-109), 3) := by decide +kernel
theorem dX7_splitText_121 : decode cX7_splitText 121 = .ok (.return_, 1) := by decide +kernel
theorem dX7_skipBlanks_0 : decode cX7_skipBlanks 0 = .ok (.iload_n 1, 1) := by decide +kernel
theorem dX7_skipBlanks_1 : decode cX7_skipBlanks 1 = .ok (.istore_n 2, 1) := by decide +kernel
theorem dX7_skipBlanks_2 : decode cX7_skipBlanks 2 = .ok (.iload_n 2, 1) := by decide +kernel
theorem dX7_skipBlanks_3 : decode cX7_skipBlanks 3 = .ok (.aload_n 0, 1) := by decide +kernel
theorem dX7_skipBlanks_4 : decode cX7_skipBlanks 4 = .ok (.getfield 94, 3) := by decide +kernel
theorem dX7_skipBlanks_7 : decode cX7_skipBlanks 7 = .ok (.if_icmp .ge 31, 3) := by decide +kernel
theorem dX7_skipBlanks_10 : decode cX7_skipBlanks 10 = .ok (.aload_n 0, 1) := by decide +kernel
theorem dX7_skipBlanks_11 : decode cX7_skipBlanks 11 = .ok (.getfield 9, 3) := by decide +kernel
theorem dX7_skipBlanks_14 : decode cX7_skipBlanks 14 = .ok (.iload_n 2, 1) := by decide +kernel
theorem dX7_skipBlanks_15 : decode cX7_skipBlanks 15 = .ok (.baload, 1) := by decide +kernel
theorem dX7_skipBlanks_16 : decode cX7_skipBlanks 16 = .ok (.bipush 32, 2) := by decide +kernel
theorem dX7_skipBlanks_18 : decode cX7_skipBlanks 18 = .ok (.if_icmp .eq 14, 3) := by decide +kernel
theorem dX7_skipBlanks_21 : decode cX7_skipBlanks 21 = .ok (.aload_n 0, 1) := by decide +kernel
theorem dX7_skipBlanks_22 : decode cX7_skipBlanks 22 = .ok (.getfield 9, 3) := by decide +kernel
theorem dX7_skipBlanks_25 : decode cX7_skipBlanks 25 = .ok (.iload_n 2, 1) := by decide +kernel
theorem dX7_skipBlanks_26 : decode cX7_skipBlanks 26 = .ok (.baload, 1) := by decide +kernel
theorem dX7_skipBlanks_27 : decode cX7_skipBlanks 27 = .ok (.bipush 10, 2) := by decide +kernel
theorem dX7_skipBlanks_29 : decode cX7_skipBlanks 29 = .ok (.if_icmp .ne 9, 3) := by decide +kernel
theorem dX7_skipBlanks_32 : decode cX7_skipBlanks 32 = .ok (.iinc 2 1, 3) := by decide +kernel
theorem dX7_skipBlanks_35 : decode cX7_skipBlanks 35 = .ok (.goto (-33), 3) := by decide +kernel
theorem dX7_skipBlanks_38 : decode cX7_skipBlanks 38 = .ok (.iload_n 2, 1) := by decide +kernel
theorem dX7_skipBlanks_39 : decode cX7_skipBlanks 39 = .ok (.ireturn, 1) := by decide +kernel
theorem dX7_endOfToken_0 : decode cX7_endOfToken 0 = .ok (.iload_n 1, 1) := by decide +kernel
theorem dX7_endOfToken_1 : decode cX7_endOfToken 1 = .ok (.aload_n 0, 1) := by decide +kernel
theorem dX7_endOfToken_2 : decode cX7_endOfToken 2 = .ok (.getfield 94, 3) := by decide +kernel
theorem dX7_endOfToken_5 : decode cX7_endOfToken 5 = .ok (.if_icmp .lt 5, 3) := by decide +kernel
theorem dX7_endOfToken_8 : decode cX7_endOfToken 8 = .ok (.iload_n 1, 1) := by decide +kernel
theorem dX7_endOfToken_9 : decode cX7_endOfToken 9 = .ok (.ireturn, 1) := by decide +kernel
theorem dX7_endOfToken_10 : decode cX7_endOfToken 10 = .ok (.iload_n 1, 1) := by decide +kernel
theorem dX7_endOfToken_11 : decode cX7_endOfToken 11 = .ok (.iconst 1, 1) := by decide +kernel
theorem dX7_endOfToken_12 : decode cX7_endOfToken 12 = .ok (.iadd, 1) := by decide +kernel
theorem dX7_endOfToken_13 : decode cX7_endOfToken 13 = .ok (.istore_n 2, 1) := by decide +kernel
theorem dX7_endOfToken_14 : decode cX7_endOfToken 14 = .ok (.iload_n 2, 1) := by decide +kernel
theorem dX7_endOfToken_15 : decode cX7_endOfToken 15 = .ok (.aload_n 0, 1) := by decide +kernel
theorem dX7_endOfToken_16 : decode cX7_endOfToken 16 = .ok (.getfield 94, 3) := by decide +kernel
theorem dX7_endOfToken_19 : decode cX7_endOfToken 19 = .ok (.if_icmp .ge 57, 3) := by decide +kernel
theorem dX7_endOfToken_22 : decode cX7_endOfToken 22 = .ok (.aload_n 0, 1) := by decide +kernel
theorem dX7_endOfToken_23 : decode cX7_endOfToken 23 = .ok (.getfield 9, 3) := by decide +kernel
theorem dX7_endOfToken_26 : decode cX7_endOfToken 26 = .ok (.iload_n 1, 1) := by decide +kernel
theorem dX7_endOfToken_27 : decode cX7_endOfToken 27 = .ok (.baload, 1) := by decide +kernel
theorem dX7_endOfToken_28 : decode cX7_endOfToken 28 = .ok (.invokestatic 97, 3) := by decide +kernel
theorem dX7_endOfToken_31 : decode cX7_endOfToken 31 = .ok (.ifCond .eq 15, 3) := by decide +kernel
theorem dX7_endOfToken_34 : decode cX7_endOfToken 34 = .ok (.aload_n 0, 1) := by decide +kernel
theorem dX7_endOfToken_35 : decode cX7_endOfToken 35 = .ok (.getfield 9, 3) := by decide +kernel
theorem dX7_endOfToken_38 : decode cX7_endOfToken 38 = .ok (.iload_n 2, 1) := by decide +kernel
theorem dX7_endOfToken_39 : decode cX7_endOfToken 39 = .ok (.baload, 1) := by decide +kernel
theorem dX7_endOfToken_40 : decode cX7_endOfToken 40 = .ok (.invokestatic 97, 3) := by decide +kernel
theorem dX7_endOfToken_43 : decode cX7_endOfToken 43 = .ok (.ifCond .ne 27, 3) := by decide +kernel
theorem dX7_endOfToken_46 : decode cX7_endOfToken 46 = .ok (.aload_n 0, 1) := by decide +kernel
theorem dX7_endOfToken_47 : decode cX7_endOfToken 47 = .ok (.getfield 9, 3) := by decide +kernel
theorem dX7_endOfToken_50 : decode cX7_endOfToken 50 = .ok (.iload_n 1, 1) := by decide +kernel
theorem dX7_endOfToken_51 : decode cX7_endOfToken 51 = .ok (.baload, 1) := by decide +kernel
theorem dX7_endOfToken_52 : decode cX7_endOfToken 52 = .ok (.invokestatic 101, 3) := by decide +kernel
theorem dX7_endOfToken_55 : decode cX7_endOfToken 55 = .ok (.ifCond .eq 21, 3) := by decide +kernel
theorem dX7_endOfToken_58 : decode cX7_endOfToken 58 = .ok (.aload_n 0, 1) := by decide +kernel
theorem dX7_endOfToken_59 : decode cX7_endOfToken 59 = .ok (.getfield 9, 3) := by decide +kernel
theorem dX7_endOfToken_62 : decode cX7_endOfToken 62 = .ok (.iload_n 2, 1) := by decide +kernel
theorem dX7_endOfToken_63 : decode cX7_endOfToken 63 = .ok (.baload, 1) := by decide +kernel
theorem dX7_endOfToken_64 : decode cX7_endOfToken 64 = .ok (.invokestatic 101, 3) := by decide +kernel
theorem dX7_endOfToken_67 : decode cX7_endOfToken 67 = .ok (.ifCond .eq 9, 3) := by decide +kernel
theorem dX7_endOfToken_70 : decode cX7_endOfToken 70 = .ok (.iinc 2 1, 3) := by decide +kernel
theorem dX7_endOfToken_73 : decode cX7_endOfToken 73 = .ok (.goto (-59), 3) := by decide +kernel
theorem dX7_endOfToken_76 : decode cX7_endOfToken 76 = .ok (.iload_n 2, 1) := by decide +kernel
theorem dX7_endOfToken_77 : decode cX7_endOfToken 77 = .ok (.ireturn, 1) := by decide +kernel
theorem dX7_isLetter_0 : decode cX7_isLetter 0 = .ok (.iload_n 0, 1) := by decide +kernel
theorem dX7_isLetter_1 : decode cX7_isLetter 1 = .ok (.bipush 97, 2) := by decide +kernel
theorem dX7_isLetter_3 : decode cX7_isLetter 3 = .ok (.if_icmp .lt 13, 3) := by decide +kernel
theorem dX7_isLetter_6 : decode cX7_isLetter 6 = .ok (.iload_n 0, 1) := by decide +kernel
theorem dX7_isLetter_7 : decode cX7_isLetter 7 = .ok (.bipush 122, 2) := by decide +kernel
theorem dX7_isLetter_9 : decode cX7_isLetter 9 = .ok (.if_icmp .gt 7, 3) := by decide +kernel
theorem dX7_isLetter_12 : decode cX7_isLetter 12 = .ok (.iconst 1, 1) := by decide +kernel
theorem dX7_isLetter_13 : decode cX7_isLetter 13 = .ok (.goto 4, 3) := by decide +kernel
theorem dX7_isLetter_16 : decode cX7_isLetter 16 = .ok (.iconst 0, 1) := by decide +kernel
theorem dX7_isLetter_17 : decode cX7_isLetter 17 = .ok (.ireturn, 1) := by decide +kernel
theorem dX7_isDigit_0 : decode cX7_isDigit 0 = .ok (.iload_n 0, 1) := by decide +kernel
theorem dX7_isDigit_1 : decode cX7_isDigit 1 = .ok (.bipush 48, 2) := by decide +kernel
theorem dX7_isDigit_3 : decode cX7_isDigit 3 = .ok (.if_icmp .lt 13, 3) := by decide +kernel
theorem dX7_isDigit_6 : decode cX7_isDigit 6 = .ok (.iload_n 0, 1) := by decide +kernel
theorem dX7_isDigit_7 : decode cX7_isDigit 7 = .ok (.bipush 57, 2) := by decide +kernel
theorem dX7_isDigit_9 : decode cX7_isDigit 9 = .ok (.if_icmp .gt 7, 3) := by decide +kernel
theorem dX7_isDigit_12 : decode cX7_isDigit 12 = .ok (.iconst 1, 1) := by decide +kernel
theorem dX7_isDigit_13 : decode cX7_isDigit 13 = .ok (.goto 4, 3) := by decide +kernel
theorem dX7_isDigit_16 : decode cX7_isDigit 16 = .ok (.iconst 0, 1) := by decide +kernel
theorem dX7_isDigit_17 : decode cX7_isDigit 17 = .ok (.ireturn, 1) := by decide +kernel
theorem dX7_kindOf_0 : decode cX7_kindOf 0 = .ok (.iload_n 1, 1) := by decide +kernel
theorem dX7_kindOf_1 : decode cX7_kindOf 1 = .ok (.iload_n 2, 1) := by decide +kernel
theorem dX7_kindOf_2 : decode cX7_kindOf 2 = .ok (.if_icmp .lt 5, 3) := by decide +kernel
theorem dX7_kindOf_5 : decode cX7_kindOf 5 = .ok (.iconst 0, 1) := by decide +kernel
theorem dX7_kindOf_6 : decode cX7_kindOf 6 = .ok (.ireturn, 1) := by decide +kernel
theorem dX7_kindOf_7 : decode cX7_kindOf 7 = .ok (.aload_n 0, 1) := by decide +kernel
theorem dX7_kindOf_8 : decode cX7_kindOf 8 = .ok (.getfield 9, 3) := by decide +kernel
theorem dX7_kindOf_11 : decode cX7_kindOf 11 = .ok (.iload_n 1, 1) := by decide +kernel
theorem dX7_kindOf_12 : decode cX7_kindOf 12 = .ok (.baload, 1) := by decide +kernel
theorem dX7_kindOf_13 : decode cX7_kindOf 13 = .ok (.istore_n 3, 1) := by decide +kernel
theorem dX7_kindOf_14 : decode cX7_kindOf 14 = .ok (.iload_n 3, 1) := by decide +kernel
theorem dX7_kindOf_15 : decode cX7_kindOf 15 = .ok (.invokestatic 101, 3) := by decide +kernel
theorem dX7_kindOf_18 : decode cX7_kindOf 18 = .ok (.ifCond .eq 7, 3) := by decide +kernel
theorem dX7_kindOf_21 : decode cX7_kindOf 21 = .ok (.sipush 200, 3) := by decide +kernel
theorem dX7_kindOf_24 : decode cX7_kindOf 24 = .ok (.ireturn, 1) := by decide +kernel
theorem dX7_kindOf_25 : decode cX7_kindOf 25 = .ok (.iload_n 3, 1) := by decide +kernel
theorem dX7_kindOf_26 : decode cX7_kindOf 26 = .ok (.invokestatic 97, 3) := by decide +kernel
theorem dX7_kindOf_29 : decode cX7_kindOf 29 = .ok (.ifCond .eq 10, 3) := by decide +kernel
theorem dX7_kindOf_32 : decode cX7_kindOf 32 = .ok (.aload_n 0, 1) := by decide +kernel
theorem dX7_kindOf_33 : decode cX7_kindOf 33 = .ok (.iload_n 1, 1) := by decide +kernel
theorem dX7_kindOf_34 : decode cX7_kindOf 34 = .ok (.iload_n 2, 1) := by decide +kernel
theorem dX7_kindOf_35 : decode cX7_kindOf 35 = .ok (.invokevirtual 104, 3) := by decide +kernel
theorem dX7_kindOf_38 : decode cX7_kindOf 38 = .ok (.ireturn, 1) := by decide +kernel
theorem dX7_kindOf_39 : decode cX7_kindOf 39 = .ok (.ldc 107, 2) := by decide +kernel
theorem dX7_kindOf_41 : decode cX7_kindOf 41 = .ok (.iload_n 3, 1) := by decide +kernel
theorem dX7_kindOf_42 : decode cX7_kindOf 42 = .ok (.sipush 255, 3) := by decide +kernel
theorem dX7_kindOf_45 : decode cX7_kindOf 45 = .ok (.iand, 1) := by decide +kernel
theorem dX7_kindOf_46 : decode cX7_kindOf 46 = .ok (.i2c, 1) := by decide +kernel
theorem dX7_kindOf_47 : decode cX7_kindOf 47 = .ok (.invokevirtual 109, 3) := by decide +kernel
theorem dX7_kindOf_50 : decode cX7_kindOf 50 = .ok (.ifCond .lt 7, 3) := by decide +kernel
theorem dX7_kindOf_53 : decode cX7_kindOf 53 = .ok (.iload_n 3, 1) := by decide +kernel
theorem dX7_kindOf_54 : decode cX7_kindOf 54 = .ok (.goto 4, 3) := by decide +kernel
theorem dX7_kindOf_57 : decode cX7_kindOf 57 = .ok (.iconst 1, 1) := by decide +kernel
theorem dX7_kindOf_58 : decode cX7_kindOf 58 = .ok (.ireturn, 1) := by decide +kernel
theorem dX7_kindOfWord_0 : decode cX7_kindOfWord 0 = .ok (.sipush 201, 3) := by decide +kernel
theorem dX7_kindOfWord_3 : decode cX7_kindOfWord 3 = .ok (.istore_n 3, 1) := by decide +kernel
theorem dX7_kindOfWord_4 : decode cX7_kindOfWord 4 = .ok (.iconst 0, 1) := by decide +kernel
theorem dX7_kindOfWord_5 : decode cX7_kindOfWord 5 = .ok (.istore 4, 2) := by decide +kernel
theorem dX7_kindOfWord_7 : decode cX7_kindOfWord 7 = .ok (.iconst 0, 1) := by decide +kernel
theorem dX7_kindOfWord_8 : decode cX7_kindOfWord 8 = .ok (.istore 5, 2) := by decide +kernel
theorem dX7_kindOfWord_10 : decode cX7_kindOfWord 10 = .ok (.iload 5, 2) := by decide +kernel
theorem dX7_kindOfWord_12 : decode cX7_kindOfWord 12 = .ok (.ldc 114, 2) := by decide +kernel
theorem dX7_kindOfWord_14 : decode cX7_kindOfWord 14 = .ok (.invokevirtual 116, 3) := by decide +kernel
theorem dX7_kindOfWord_17 : decode cX7_kindOfWord 17 = .ok (.if_icmp .ge 45, 3) := by decide +kernel
theorem dX7_kindOfWord_20 : decode cX7_kindOfWord 20 = .ok (.ldc 114, 2) := by decide +kernel
theorem dX7_kindOfWord_22 : decode cX7_kindOfWord 22 = .ok (.iload 5, 2) := by decide +kernel
theorem dX7_kindOfWord_24 : decode cX7_kindOfWord 24 = .ok (.invokevirtual 118, 3) := by decide +kernel
theorem dX7_kindOfWord_27 : decode cX7_kindOfWord 27 = .ok (.bipush 32, 2) := by decide +kernel
theorem dX7_kindOfWord_29 : decode cX7_kindOfWord 29 = .ok (.if_icmp .ne 27, 3) := by decide +kernel
theorem dX7_kindOfWord_32 : decode cX7_kindOfWord 32 = .ok (.aload_n 0, 1) := by decide +kernel
theorem dX7_kindOfWord_33 : decode cX7_kindOfWord 33 = .ok (.iload 4, 2) := by decide +kernel
theorem dX7_kindOfWord_35 : decode cX7_kindOfWord 35 = .ok (.iload 5, 2) := by decide +kernel
theorem dX7_kindOfWord_37 : decode cX7_kindOfWord 37 = .ok (.iload_n 1, 1) := by decide +kernel
theorem dX7_kindOfWord_38 : decode cX7_kindOfWord 38 = .ok (.iload_n 2, 1) := by decide +kernel
theorem dX7_kindOfWord_39 : decode cX7_kindOfWord 39 = .ok (.invokevirtual 122, 3) := by decide +kernel
theorem dX7_kindOfWord_42 : decode cX7_kindOfWord 42 = .ok (.ifCond .eq 5, 3) := by decide +kernel
theorem dX7_kindOfWord_45 : decode cX7_kindOfWord 45 = .ok (.iload_n 3, 1) := by decide +kernel
theorem dX7_kindOfWord_46 : decode cX7_kindOfWord 46 = .ok (.ireturn, 1) := by decide +kernel
theorem dX7_kindOfWord_47 : decode cX7_kindOfWord 47 = .ok (.iinc 3 1, 3) := by decide +kernel
theorem dX7_kindOfWord_50 : decode cX7_kindOfWord 50 = .ok (.iload 5, 2) := by decide +kernel
theorem dX7_kindOfWord_52 : decode cX7_kindOfWord 52 = .ok (.iconst 1, 1) := by decide +kernel
theorem dX7_kindOfWord_53 : decode cX7_kindOfWord 53 = .ok (.iadd, 1) := by decide +kernel
theorem dX7_kindOfWord_54 : decode cX7_kindOfWord 54 = .ok (.istore 4, 2) := by decide +kernel
theorem dX7_kindOfWord_56 : decode cX7_kindOfWord 56 = .ok (.iinc 5 1, 3) := by decide +kernel
theorem dX7_kindOfWord_59 : decode cX7_kindOfWord 59 = .ok (.goto (-49), 3) := by decide +kernel
theorem dX7_kindOfWord_62 : decode cX7_kindOfWord 62 = .ok (.iconst 1, 1) := by decide +kernel
theorem dX7_kindOfWord_63 : decode cX7_kindOfWord 63 = .ok (.ireturn, 1) := by decide +kernel
theorem dX7_isWord_0 : decode cX7_isWord 0 = .ok (.iload_n 2, 1) := by decide +kernel
theorem dX7_isWord_1 : decode cX7_isWord 1 = .ok (.iload_n 1, 1) := by decide +kernel
theorem dX7_isWord_2 : decode cX7_isWord 2 = .ok (.isub, 1) := by decide +kernel
theorem dX7_isWord_3 : decode cX7_isWord 3 = .ok (.iload 4, 2) := by decide +kernel
theorem dX7_isWord_5 : decode cX7_isWord 5 = .ok (.iload_n 3, 1) := by decide +kernel
theorem dX7_isWord_6 : decode cX7_isWord 6 = .ok (.isub, 1) := by decide +kernel
theorem dX7_isWord_7 : decode cX7_isWord 7 = .ok (.if_icmp .eq 5, 3) := by decide +kernel
theorem dX7_isWord_10 : decode cX7_isWord 10 = .ok (.iconst 0, 1) := by decide +kernel
theorem dX7_isWord_11 : decode cX7_isWord 11 = .ok (.ireturn, 1) := by decide +kernel
theorem dX7_isWord_12 : decode cX7_isWord 12 = .ok (.iconst 0, 1) := by decide +kernel
theorem dX7_isWord_13 : decode cX7_isWord 13 = .ok (.istore 5, 2) := by decide +kernel
theorem dX7_isWord_15 : decode cX7_isWord 15 = .ok (.iload 5, 2) := by decide +kernel
theorem dX7_isWord_17 : decode cX7_isWord 17 = .ok (.iload_n 2, 1) := by decide +kernel
theorem dX7_isWord_18 : decode cX7_isWord 18 = .ok (.iload_n 1, 1) := by decide +kernel
theorem dX7_isWord_19 : decode cX7_isWord 19 = .ok (.isub, 1) := by decide +kernel
theorem dX7_isWord_20 : decode cX7_isWord 20 = .ok (.if_icmp .ge 32, 3) := by decide +kernel
theorem dX7_isWord_23 : decode cX7_isWord 23 = .ok (.ldc 114, 2) := by decide +kernel
theorem dX7_isWord_25 : decode cX7_isWord 25 = .ok (.iload_n 1, 1) := by decide +kernel
theorem dX7_isWord_26 : decode cX7_isWord 26 = .ok (.iload 5, 2) := by decide +kernel
theorem dX7_isWord_28 : decode cX7_isWord 28 = .ok (.iadd, 1) := by decide +kernel
theorem dX7_isWord_29 : decode cX7_isWord 29 = .ok (.invokevirtual 118, 3) := by decide +kernel
theorem dX7_isWord_32 : decode cX7_isWord 32 = .ok (.aload_n 0, 1) := by decide +kernel
theorem dX7_isWord_33 : decode cX7_isWord 33 = .ok (.getfield 9, 3) := by decide +kernel
theorem dX7_isWord_36 : decode cX7_isWord 36 = .ok (.iload_n 3, 1) := by decide +kernel
theorem dX7_isWord_37 : decode cX7_isWord 37 = .ok (.iload 5, 2) := by decide +kernel
theorem dX7_isWord_39 : decode cX7_isWord 39 = .ok (.iadd, 1) := by decide +kernel
theorem dX7_isWord_40 : decode cX7_isWord 40 = .ok (.baload, 1) := by decide +kernel
theorem dX7_isWord_41 : decode cX7_isWord 41 = .ok (.if_icmp .eq 5, 3) := by decide +kernel
theorem dX7_isWord_44 : decode cX7_isWord 44 = .ok (.iconst 0, 1) := by decide +kernel
theorem dX7_isWord_45 : decode cX7_isWord 45 = .ok (.ireturn, 1) := by decide +kernel
theorem dX7_isWord_46 : decode cX7_isWord 46 = .ok (.iinc 5 1, 3) := by decide +kernel
theorem dX7_isWord_49 : decode cX7_isWord 49 = .ok (.goto (-34), 3) := by decide +kernel
theorem dX7_isWord_52 : decode cX7_isWord 52 = .ok (.iconst 1, 1) := by decide +kernel
theorem dX7_isWord_53 : decode cX7_isWord 53 = .ok (.ireturn, 1) := by decide +kernel
theorem dX7_numberIn_0 : decode cX7_numberIn 0 = .ok (.iconst 0, 1) := by decide +kernel
theorem dX7_numberIn_1 : decode cX7_numberIn 1 = .ok (.istore_n 3, 1) := by decide +kernel
theorem dX7_numberIn_2 : decode cX7_numberIn 2 = .ok (.iload_n 1, 1) := by decide +kernel
theorem dX7_numberIn_3 : decode cX7_numberIn 3 = .ok (.istore 4, 2) := by decide +kernel
theorem dX7_numberIn_5 : decode cX7_numberIn 5 = .ok (.iload 4, 2) := by decide +kernel
theorem dX7_numberIn_7 : decode cX7_numberIn 7 = .ok (.iload_n 2, 1) := by decide +kernel
theorem dX7_numberIn_8 : decode cX7_numberIn 8 = .ok (.if_icmp .ge 43, 3) := by decide +kernel
theorem dX7_numberIn_11 : decode cX7_numberIn 11 = .ok (.aload_n 0, 1) := by decide +kernel
theorem dX7_numberIn_12 : decode cX7_numberIn 12 = .ok (.getfield 9, 3) := by decide +kernel
theorem dX7_numberIn_15 : decode cX7_numberIn 15 = .ok (.iload 4, 2) := by decide +kernel
theorem dX7_numberIn_17 : decode cX7_numberIn 17 = .ok (.baload, 1) := by decide +kernel
theorem dX7_numberIn_18 : decode cX7_numberIn 18 = .ok (.invokestatic 101, 3) := by decide +kernel
theorem dX7_numberIn_21 : decode cX7_numberIn 21 = .ok (.ifCond .eq 30, 3) := by decide +kernel
theorem dX7_numberIn_24 : decode cX7_numberIn 24 = .ok (.iload_n 3, 1) := by decide +kernel
theorem dX7_numberIn_25 : decode cX7_numberIn 25 = .ok (.bipush 10, 2) := by decide +kernel
theorem dX7_numberIn_27 : decode cX7_numberIn 27 = .ok (.imul, 1) := by decide +kernel
theorem dX7_numberIn_28 : decode cX7_numberIn 28 = .ok (.aload_n 0, 1) := by decide +kernel
theorem dX7_numberIn_29 : decode cX7_numberIn 29 = .ok (.getfield 9, 3) := by decide +kernel
theorem dX7_numberIn_32 : decode cX7_numberIn 32 = .ok (.iload 4, 2) := by decide +kernel
theorem dX7_numberIn_34 : decode cX7_numberIn 34 = .ok (.baload, 1) := by decide +kernel
theorem dX7_numberIn_35 : decode cX7_numberIn 35 = .ok (.iadd, 1) := by decide +kernel
theorem dX7_numberIn_36 : decode cX7_numberIn 36 = .ok (.bipush 48, 2) := by decide +kernel
theorem dX7_numberIn_38 : decode cX7_numberIn 38 = .ok (.isub, 1) := by decide +kernel
theorem dX7_numberIn_39 : decode cX7_numberIn 39 = .ok (.ldc 126, 2) := by decide +kernel
theorem dX7_numberIn_41 : decode cX7_numberIn 41 = .ok (.invokestatic 127, 3) := by decide +kernel
theorem dX7_numberIn_44 : decode cX7_numberIn 44 = .ok (.istore_n 3, 1) := by decide +kernel
theorem dX7_numberIn_45 : decode cX7_numberIn 45 = .ok (.iinc 4 1, 3) := by decide +kernel
theorem dX7_numberIn_48 : decode cX7_numberIn 48 = .ok (.goto (-43), 3) := by decide +kernel
theorem dX7_numberIn_51 : decode cX7_numberIn 51 = .ok (.iload_n 3, 1) := by decide +kernel
theorem dX7_numberIn_52 : decode cX7_numberIn 52 = .ok (.ireturn, 1) := by decide +kernel
theorem dX7_kind_0 : decode cX7_kind 0 = .ok (.aload_n 0, 1) := by decide +kernel
theorem dX7_kind_1 : decode cX7_kind 1 = .ok (.getfield 57, 3) := by decide +kernel
theorem dX7_kind_4 : decode cX7_kind 4 = .ok (.aload_n 0, 1) := by decide +kernel
theorem dX7_kind_5 : decode cX7_kind 5 = .ok (.getfield 77, 3) := by decide +kernel
theorem dX7_kind_8 : decode cX7_kind 8 = .ok (.if_icmp .ge 15, 3) := by decide +kernel
theorem dX7_kind_11 : decode cX7_kind 11 = .ok (.aload_n 0, 1) := by decide +kernel
theorem dX7_kind_12 : decode cX7_kind 12 = .ok (.getfield 26, 3) := by decide +kernel
theorem dX7_kind_15 : decode cX7_kind 15 = .ok (.aload_n 0, 1) := by decide +kernel
theorem dX7_kind_16 : decode cX7_kind 16 = .ok (.getfield 57, 3) := by decide +kernel
theorem dX7_kind_19 : decode cX7_kind 19 = .ok (.iaload, 1) := by decide +kernel
theorem dX7_kind_20 : decode cX7_kind 20 = .ok (.goto 4, 3) := by decide +kernel
theorem dX7_kind_23 : decode cX7_kind 23 = .ok (.iconst 0, 1) := by decide +kernel
theorem dX7_kind_24 : decode cX7_kind 24 = .ok (.ireturn, 1) := by decide +kernel
theorem dX7_fail_0 : decode cX7_fail 0 = .ok (.aload_n 0, 1) := by decide +kernel
theorem dX7_fail_1 : decode cX7_fail 1 = .ok (.iload_n 1, 1) := by decide +kernel
theorem dX7_fail_2 : decode cX7_fail 2 = .ok (.putfield 45, 3) := by decide +kernel
theorem dX7_fail_5 : decode cX7_fail 5 = .ok (.aload_n 0, 1) := by decide +kernel
theorem dX7_fail_6 : decode cX7_fail 6 = .ok (.aload_n 0, 1) := by decide +kernel
theorem dX7_fail_7 : decode cX7_fail 7 = .ok (.getfield 57, 3) := by decide +kernel
theorem dX7_fail_10 : decode cX7_fail 10 = .ok (.aload_n 0, 1) := by decide +kernel
theorem dX7_fail_11 : decode cX7_fail 11 = .ok (.getfield 77, 3) := by decide +kernel
theorem dX7_fail_14 : decode cX7_fail 14 = .ok (.if_icmp .ge 15, 3) := by decide +kernel
theorem dX7_fail_17 : decode cX7_fail 17 = .ok (.aload_n 0, 1) := by decide +kernel
theorem dX7_fail_18 : decode cX7_fail 18 = .ok (.getfield 30, 3) := by decide +kernel
theorem dX7_fail_21 : decode cX7_fail 21 = .ok (.aload_n 0, 1) := by decide +kernel
theorem dX7_fail_22 : decode cX7_fail 22 = .ok (.getfield 57, 3) := by decide +kernel
theorem dX7_fail_25 : decode cX7_fail 25 = .ok (.iaload, 1) := by decide +kernel
theorem dX7_fail_26 : decode cX7_fail 26 = .ok (.goto 7, 3) := by decide +kernel
theorem dX7_fail_29 : decode cX7_fail 29 = .ok (.aload_n 0, 1) := by decide +kernel
theorem dX7_fail_30 : decode cX7_fail 30 = .ok (.getfield 94, 3) := by decide +kernel
theorem dX7_fail_33 : decode cX7_fail 33 = .ok (.putfield 15, 3) := by decide +kernel
theorem dX7_fail_36 : decode cX7_fail 36 = .ok (.iconst 0, 1) := by decide +kernel
theorem dX7_fail_37 : decode cX7_fail 37 = .ok (.ireturn, 1) := by decide +kernel
theorem dX7_take_0 : decode cX7_take 0 = .ok (.aload_n 0, 1) := by decide +kernel
theorem dX7_take_1 : decode cX7_take 1 = .ok (.invokevirtual 60, 3) := by decide +kernel
theorem dX7_take_4 : decode cX7_take 4 = .ok (.iload_n 1, 1) := by decide +kernel
theorem dX7_take_5 : decode cX7_take 5 = .ok (.if_icmp .eq 9, 3) := by decide +kernel
theorem dX7_take_8 : decode cX7_take 8 = .ok (.aload_n 0, 1) := by decide +kernel
theorem dX7_take_9 : decode cX7_take 9 = .ok (.iconst 1, 1) := by decide +kernel
theorem dX7_take_10 : decode cX7_take 10 = .ok (.invokevirtual 74, 3) := by decide +kernel
theorem dX7_take_13 : decode cX7_take 13 = .ok (.ireturn, 1) := by decide +kernel
theorem dX7_take_14 : decode cX7_take 14 = .ok (.aload_n 0, 1) := by decide +kernel
theorem dX7_take_15 : decode cX7_take 15 = .ok (.dup, 1) := by decide +kernel
theorem dX7_take_16 : decode cX7_take 16 = .ok (.getfield 57, 3) := by decide +kernel
theorem dX7_take_19 : decode cX7_take 19 = .ok (.iconst 1, 1) := by decide +kernel
theorem dX7_take_20 : decode cX7_take 20 = .ok (.iadd, 1) := by decide +kernel
theorem dX7_take_21 : decode cX7_take 21 = .ok (.putfield 57, 3) := by decide +kernel
theorem dX7_take_24 : decode cX7_take 24 = .ok (.iconst 1, 1) := by decide +kernel
theorem dX7_take_25 : decode cX7_take 25 = .ok (.ireturn, 1) := by decide +kernel
theorem dX7_readTest_0 : decode cX7_readTest 0 = .ok (.aload_n 0, 1) := by decide +kernel
theorem dX7_readTest_1 : decode cX7_readTest 1 = .ok (.getfield 22, 3) := by decide +kernel
theorem dX7_readTest_4 : decode cX7_readTest 4 = .ok (.getfield 132, 3) := by decide +kernel
theorem dX7_readTest_7 : decode cX7_readTest 7 = .ok (.iload_n 1, 1) := by decide +kernel
theorem dX7_readTest_8 : decode cX7_readTest 8 = .ok (.aload_n 0, 1) := by decide +kernel
theorem dX7_readTest_9 : decode cX7_readTest 9 = .ok (.getfield 22, 3) := by decide +kernel
theorem dX7_readTest_12 : decode cX7_readTest 12 = .ok (.getfield 48, 3) := by decide +kernel
theorem dX7_readTest_15 : decode cX7_readTest 15 = .ok (.iastore, 1) := by decide +kernel
theorem dX7_readTest_16 : decode cX7_readTest 16 = .ok (.aload_n 0, 1) := by decide +kernel
theorem dX7_readTest_17 : decode cX7_readTest 17 = .ok (.invokevirtual 60, 3) := by decide +kernel
theorem dX7_readTest_20 : decode cX7_readTest 20 = .ok (.sipush 201, 3) := by decide +kernel
theorem dX7_readTest_23 : decode cX7_readTest 23 = .ok (.if_icmp .ne 7, 3) := by decide +kernel
theorem dX7_readTest_26 : decode cX7_readTest 26 = .ok (.iconst 1, 1) := by decide +kernel
theorem dX7_readTest_27 : decode cX7_readTest 27 = .ok (.goto 4, 3) := by decide +kernel
theorem dX7_readTest_30 : decode cX7_readTest 30 = .ok (.iconst 0, 1) := by decide +kernel
theorem dX7_readTest_31 : decode cX7_readTest 31 = .ok (.istore_n 2, 1) := by decide +kernel
theorem dX7_readTest_32 : decode cX7_readTest 32 = .ok (.iconst 1, 1) := by decide +kernel
theorem dX7_readTest_33 : decode cX7_readTest 33 = .ok (.istore_n 3, 1) := by decide +kernel
theorem dX7_readTest_34 : decode cX7_readTest 34 = .ok (.iload_n 2, 1) := by decide +kernel
theorem dX7_readTest_35 : decode cX7_readTest 35 = .ok (.istore 4, 2) := by decide +kernel
theorem dX7_readTest_37 : decode cX7_readTest 37 = .ok (.iconst 0, 1) := by decide +kernel
theorem dX7_readTest_38 : decode cX7_readTest 38 = .ok (.istore 5, 2) := by decide +kernel
theorem dX7_readTest_40 : decode cX7_readTest 40 = .ok (.iload_n 3, 1) := by decide +kernel
theorem dX7_readTest_41 : decode cX7_readTest 41 = .ok (.ifCond .eq 171, 3) := by decide +kernel
theorem dX7_readTest_44 : decode cX7_readTest 44 = .ok (.iload 4, 2) := by decide +kernel
theorem dX7_readTest_46 : decode cX7_readTest 46 = .ok (.ifCond .eq 166, 3) := by decide +kernel
theorem dX7_readTest_49 : decode cX7_readTest 49 = .ok (.iload 5, 2) := by decide +kernel
theorem dX7_readTest_51 : decode cX7_readTest 51 = .ok (.sipush 500, 3) := by decide +kernel
theorem dX7_readTest_54 : decode cX7_readTest 54 = .ok (.if_icmp .ge 158, 3) := by decide +kernel
theorem dX7_readTest_57 : decode cX7_readTest 57 = .ok (.aload_n 0, 1) := by decide +kernel
theorem dX7_readTest_58 : decode cX7_readTest 58 = .ok (.dup, 1) := by decide +kernel
theorem dX7_readTest_59 : decode cX7_readTest 59 = .ok (.getfield 57, 3) := by decide +kernel
theorem dX7_readTest_62 : decode cX7_readTest 62 = .ok (.iconst 1, 1) := by decide +kernel
theorem dX7_readTest_63 : decode cX7_readTest 63 = .ok (.iadd, 1) := by decide +kernel
theorem dX7_readTest_64 : decode cX7_readTest 64 = .ok (.putfield 57, 3) := by decide +kernel
theorem dX7_readTest_67 : decode cX7_readTest 67 = .ok (.aload_n 0, 1) := by decide +kernel
theorem dX7_readTest_68 : decode cX7_readTest 68 = .ok (.invokevirtual 60, 3) := by decide +kernel
theorem dX7_readTest_71 : decode cX7_readTest 71 = .ok (.sipush 204, 3) := by decide +kernel
theorem dX7_readTest_74 : decode cX7_readTest 74 = .ok (.if_icmp .ne 7, 3) := by decide +kernel
theorem dX7_readTest_77 : decode cX7_readTest 77 = .ok (.iconst 1, 1) := by decide +kernel
theorem dX7_readTest_78 : decode cX7_readTest 78 = .ok (.goto 4, 3) := by decide +kernel
theorem dX7_readTest_81 : decode cX7_readTest 81 = .ok (.iconst 0, 1) := by decide +kernel
theorem dX7_readTest_82 : decode cX7_readTest 82 = .ok (.istore 6, 2) := by decide +kernel
theorem dX7_readTest_84 : decode cX7_readTest 84 = .ok (.iload 6, 2) := by decide +kernel
theorem dX7_readTest_86 : decode cX7_readTest 86 = .ok (.ifCond .eq 13, 3) := by decide +kernel
theorem dX7_readTest_89 : decode cX7_readTest 89 = .ok (.aload_n 0, 1) := by decide +kernel
theorem dX7_readTest_90 : decode cX7_readTest 90 = .ok (.dup, 1) := by decide +kernel
theorem dX7_readTest_91 : decode cX7_readTest 91 = .ok (.getfield 57, 3) := by decide +kernel
theorem dX7_readTest_94 : decode cX7_readTest 94 = .ok (.iconst 1, 1) := by decide +kernel
theorem dX7_readTest_95 : decode cX7_readTest 95 = .ok (.iadd, 1) := by decide +kernel
theorem dX7_readTest_96 : decode cX7_readTest 96 = .ok (.putfield 57, 3) := by decide +kernel
theorem dX7_readTest_99 : decode cX7_readTest 99 = .ok (.aload_n 0, 1) := by decide +kernel
theorem dX7_readTest_100 : decode cX7_readTest 100 = .ok (.iconst 0, 1) := by decide +kernel
theorem dX7_readTest_101 : decode cX7_readTest 101 = .ok (.invokevirtual 135, 3) := by decide +kernel
theorem dX7_readTest_104 : decode cX7_readTest 104 = .ok (.istore_n 3, 1) := by decide +kernel
theorem dX7_readTest_105 : decode cX7_readTest 105 = .ok (.aload_n 0, 1) := by decide +kernel
theorem dX7_readTest_106 : decode cX7_readTest 106 = .ok (.invokevirtual 60, 3) := by decide +kernel
theorem dX7_readTest_109 : decode cX7_readTest 109 = .ok (.istore 7, 2) := by decide +kernel
theorem dX7_readTest_111 : decode cX7_readTest 111 = .ok (.iload_n 3, 1) := by decide +kernel
theorem dX7_readTest_112 : decode cX7_readTest 112 = .ok (.ifCond .eq 22, 3) := by decide +kernel
theorem dX7_readTest_115 : decode cX7_readTest 115 = .ok (.aload_n 0, 1) := by decide +kernel
theorem dX7_readTest_116 : decode cX7_readTest 116 = .ok (.invokevirtual 138, 3) := by decide +kernel
theorem dX7_readTest_119 : decode cX7_readTest 119 = .ok (.ifCond .eq 15, 3) := by decide +kernel
theorem dX7_readTest_122 : decode cX7_readTest 122 = .ok (.aload_n 0, 1) := by decide +kernel
theorem dX7_readTest_123 : decode cX7_readTest 123 = .ok (.iconst 0, 1) := by decide +kernel
theorem dX7_readTest_124 : decode cX7_readTest 124 = .ok (.invokevirtual 135, 3) := by decide +kernel
theorem dX7_readTest_127 : decode cX7_readTest 127 = .ok (.ifCond .eq 7, 3) := by decide +kernel
theorem dX7_readTest_130 : decode cX7_readTest 130 = .ok (.iconst 1, 1) := by decide +kernel
theorem dX7_readTest_131 : decode cX7_readTest 131 = .ok (.goto 4, 3) := by decide +kernel
theorem dX7_readTest_134 : decode cX7_readTest 134 = .ok (.iconst 0, 1) := by decide +kernel
theorem dX7_readTest_135 : decode cX7_readTest 135 = .ok (.istore_n 3, 1) := by decide +kernel
theorem dX7_readTest_136 : decode cX7_readTest 136 = .ok (.aload_n 0, 1) := by decide +kernel
theorem dX7_readTest_137 : decode cX7_readTest 137 = .ok (.getfield 22, 3) := by decide +kernel
theorem dX7_readTest_140 : decode cX7_readTest 140 = .ok (.iload 7, 2) := by decide +kernel
theorem dX7_readTest_142 : decode cX7_readTest 142 = .ok (.iconst 0, 1) := by decide +kernel
theorem dX7_readTest_143 : decode cX7_readTest 143 = .ok (.invokevirtual 142, 3) := by decide +kernel
theorem dX7_readTest_146 : decode cX7_readTest 146 = .ok (.iload 6, 2) := by decide +kernel
theorem dX7_readTest_148 : decode cX7_readTest 148 = .ok (.ifCond .eq 14, 3) := by decide +kernel
theorem dX7_readTest_151 : decode cX7_readTest 151 = .ok (.aload_n 0, 1) := by decide +kernel
theorem dX7_readTest_152 : decode cX7_readTest 152 = .ok (.getfield 22, 3) := by decide +kernel
theorem dX7_readTest_155 : decode cX7_readTest 155 = .ok (.sipush 204, 3) := by decide +kernel
theorem dX7_readTest_158 : decode cX7_readTest 158 = .ok (.iconst 0, 1) := by decide +kernel
theorem dX7_readTest_159 : decode cX7_readTest 159 = .ok (.invokevirtual 142, 3) := by decide +kernel
theorem dX7_readTest_162 : decode cX7_readTest 162 = .ok (.aload_n 0, 1) := by decide +kernel
theorem dX7_readTest_163 : decode cX7_readTest 163 = .ok (.invokevirtual 60, 3) := by decide +kernel
theorem dX7_readTest_166 : decode cX7_readTest 166 = .ok (.sipush 203, 3) := by decide +kernel
theorem dX7_readTest_169 : decode cX7_readTest 169 = .ok (.if_icmp .eq 13, 3) := by decide +kernel
theorem dX7_readTest_172 : decode cX7_readTest 172 = .ok (.aload_n 0, 1) := by decide +kernel
theorem dX7_readTest_173 : decode cX7_readTest 173 = .ok (.invokevirtual 60, 3) := by decide +kernel
theorem dX7_readTest_176 : decode cX7_readTest 176 = .ok (.sipush 202, 3) := by decide +kernel
theorem dX7_readTest_179 : decode cX7_readTest 179 = .ok (.if_icmp .ne 7, 3) := by decide +kernel
theorem dX7_readTest_182 : decode cX7_readTest 182 = .ok (.iconst 1, 1) := by decide +kernel
theorem dX7_readTest_183 : decode cX7_readTest 183 = .ok (.goto 4, 3) := by decide +kernel
theorem dX7_readTest_186 : decode cX7_readTest 186 = .ok (.iconst 0, 1) := by decide +kernel
theorem dX7_readTest_187 : decode cX7_readTest 187 = .ok (.istore 4, 2) := by decide +kernel
theorem dX7_readTest_189 : decode cX7_readTest 189 = .ok (.iload 4, 2) := by decide +kernel
theorem dX7_readTest_191 : decode cX7_readTest 191 = .ok (.ifCond .eq 15, 3) := by decide +kernel
theorem dX7_readTest_194 : decode cX7_readTest 194 = .ok (.aload_n 0, 1) := by decide +kernel
theorem dX7_readTest_195 : decode cX7_readTest 195 = .ok (.getfield 22, 3) := by decide +kernel
theorem dX7_readTest_198 : decode cX7_readTest 198 = .ok (.aload_n 0, 1) := by decide +kernel
theorem dX7_readTest_199 : decode cX7_readTest 199 = .ok (.invokevirtual 60, 3) := by decide +kernel
theorem dX7_readTest_202 : decode cX7_readTest 202 = .ok (.iconst 0, 1) := by decide +kernel
theorem dX7_readTest_203 : decode cX7_readTest 203 = .ok (.invokevirtual 142, 3) := by decide +kernel
theorem dX7_readTest_206 : decode cX7_readTest 206 = .ok (.iinc 5 1, 3) := by decide +kernel
theorem dX7_readTest_209 : decode cX7_readTest 209 = .ok (.goto (-169), 3) := by decide +kernel
theorem dX7_readTest_212 : decode cX7_readTest 212 = .ok (.aload_n 0, 1) := by decide +kernel
theorem dX7_readTest_213 : decode cX7_readTest 213 = .ok (.getfield 22, 3) := by decide +kernel
theorem dX7_readTest_216 : decode cX7_readTest 216 = .ok (.getfield 146, 3) := by decide +kernel
theorem dX7_readTest_219 : decode cX7_readTest 219 = .ok (.iload_n 1, 1) := by decide +kernel
theorem dX7_readTest_220 : decode cX7_readTest 220 = .ok (.aload_n 0, 1) := by decide +kernel
theorem dX7_readTest_221 : decode cX7_readTest 221 = .ok (.getfield 22, 3) := by decide +kernel
theorem dX7_readTest_224 : decode cX7_readTest 224 = .ok (.getfield 48, 3) := by decide +kernel
theorem dX7_readTest_227 : decode cX7_readTest 227 = .ok (.iastore, 1) := by decide +kernel
theorem dX7_readTest_228 : decode cX7_readTest 228 = .ok (.iload_n 3, 1) := by decide +kernel
theorem dX7_readTest_229 : decode cX7_readTest 229 = .ok (.ifCond .eq 20, 3) := by decide +kernel
theorem dX7_readTest_232 : decode cX7_readTest 232 = .ok (.iload_n 2, 1) := by decide +kernel
theorem dX7_readTest_233 : decode cX7_readTest 233 = .ok (.ifCond .eq 12, 3) := by decide +kernel
theorem dX7_readTest_236 : decode cX7_readTest 236 = .ok (.aload_n 0, 1) := by decide +kernel
theorem dX7_readTest_237 : decode cX7_readTest 237 = .ok (.bipush 58, 2) := by decide +kernel
theorem dX7_readTest_239 : decode cX7_readTest 239 = .ok (.invokevirtual 71, 3) := by decide +kernel
theorem dX7_readTest_242 : decode cX7_readTest 242 = .ok (.ifCond .eq 7, 3) := by decide +kernel
theorem dX7_readTest_245 : decode cX7_readTest 245 = .ok (.iconst 1, 1) := by decide +kernel
theorem dX7_readTest_246 : decode cX7_readTest 246 = .ok (.goto 4, 3) := by decide +kernel
theorem dX7_readTest_249 : decode cX7_readTest 249 = .ok (.iconst 0, 1) := by decide +kernel
theorem dX7_readTest_250 : decode cX7_readTest 250 = .ok (.ireturn, 1) := by decide +kernel
theorem dX7_takeComparison_0 : decode cX7_takeComparison 0 = .ok (.aload_n 0, 1) := by decide +kernel
theorem dX7_takeComparison_1 : decode cX7_takeComparison 1 = .ok (.invokevirtual 60, 3) := by decide +kernel
theorem dX7_takeComparison_4 : decode cX7_takeComparison 4 = .ok (.bipush 60, 2) := by decide +kernel
theorem dX7_takeComparison_6 : decode cX7_takeComparison 6 = .ok (.if_icmp .eq 27, 3) := by decide +kernel
theorem dX7_takeComparison_9 : decode cX7_takeComparison 9 = .ok (.aload_n 0, 1) := by decide +kernel
theorem dX7_takeComparison_10 : decode cX7_takeComparison 10 = .ok (.invokevirtual 60, 3) := by decide +kernel
theorem dX7_takeComparison_13 : decode cX7_takeComparison 13 = .ok (.bipush 62, 2) := by decide +kernel
theorem dX7_takeComparison_15 : decode cX7_takeComparison 15 = .ok (.if_icmp .eq 18, 3) := by decide +kernel
theorem dX7_takeComparison_18 : decode cX7_takeComparison 18 = .ok (.aload_n 0, 1) := by decide +kernel
theorem dX7_takeComparison_19 : decode cX7_takeComparison 19 = .ok (.invokevirtual 60, 3) := by decide +kernel
theorem dX7_takeComparison_22 : decode cX7_takeComparison 22 = .ok (.bipush 61, 2) := by decide +kernel
theorem dX7_takeComparison_24 : decode cX7_takeComparison 24 = .ok (.if_icmp .eq 9, 3) := by decide +kernel
theorem dX7_takeComparison_27 : decode cX7_takeComparison 27 = .ok (.aload_n 0, 1) := by decide +kernel
theorem dX7_takeComparison_28 : decode cX7_takeComparison 28 = .ok (.iconst 1, 1) := by decide +kernel
theorem dX7_takeComparison_29 : decode cX7_takeComparison 29 = .ok (.invokevirtual 74, 3) := by decide +kernel
theorem dX7_takeComparison_32 : decode cX7_takeComparison 32 = .ok (.ireturn, 1) := by decide +kernel
theorem dX7_takeComparison_33 : decode cX7_takeComparison 33 = .ok (.aload_n 0, 1) := by decide +kernel
theorem dX7_takeComparison_34 : decode cX7_takeComparison 34 = .ok (.dup, 1) := by decide +kernel
theorem dX7_takeComparison_35 : decode cX7_takeComparison 35 = .ok (.getfield 57, 3) := by decide +kernel
theorem dX7_takeComparison_38 : decode cX7_takeComparison 38 = .ok (.iconst 1, 1) := by decide +kernel
theorem dX7_takeComparison_39 : decode cX7_takeComparison 39 = .ok (.iadd, 1) := by decide +kernel
theorem dX7_takeComparison_40 : decode cX7_takeComparison 40 = .ok (.putfield 57, 3) := by decide +kernel
theorem dX7_takeComparison_43 : decode cX7_takeComparison 43 = .ok (.iconst 1, 1) := by decide +kernel
theorem dX7_takeComparison_44 : decode cX7_takeComparison 44 = .ok (.ireturn, 1) := by decide +kernel
theorem dX7_readSum_0 : decode cX7_readSum 0 = .ok (.aload_n 0, 1) := by decide +kernel
theorem dX7_readSum_1 : decode cX7_readSum 1 = .ok (.iload_n 1, 1) := by decide +kernel
theorem dX7_readSum_2 : decode cX7_readSum 2 = .ok (.invokevirtual 149, 3) := by decide +kernel
theorem dX7_readSum_5 : decode cX7_readSum 5 = .ok (.istore_n 2, 1) := by decide +kernel
theorem dX7_readSum_6 : decode cX7_readSum 6 = .ok (.iconst 0, 1) := by decide +kernel
theorem dX7_readSum_7 : decode cX7_readSum 7 = .ok (.istore_n 3, 1) := by decide +kernel
theorem dX7_readSum_8 : decode cX7_readSum 8 = .ok (.iload_n 2, 1) := by decide +kernel
theorem dX7_readSum_9 : decode cX7_readSum 9 = .ok (.ifCond .eq 66, 3) := by decide +kernel
theorem dX7_readSum_12 : decode cX7_readSum 12 = .ok (.iload_n 3, 1) := by decide +kernel
theorem dX7_readSum_13 : decode cX7_readSum 13 = .ok (.sipush 500, 3) := by decide +kernel
theorem dX7_readSum_16 : decode cX7_readSum 16 = .ok (.if_icmp .ge 59, 3) := by decide +kernel
theorem dX7_readSum_19 : decode cX7_readSum 19 = .ok (.aload_n 0, 1) := by decide +kernel
theorem dX7_readSum_20 : decode cX7_readSum 20 = .ok (.invokevirtual 60, 3) := by decide +kernel
theorem dX7_readSum_23 : decode cX7_readSum 23 = .ok (.bipush 43, 2) := by decide +kernel
theorem dX7_readSum_25 : decode cX7_readSum 25 = .ok (.if_icmp .eq 12, 3) := by decide +kernel
theorem dX7_readSum_28 : decode cX7_readSum 28 = .ok (.aload_n 0, 1) := by decide +kernel
theorem dX7_readSum_29 : decode cX7_readSum 29 = .ok (.invokevirtual 60, 3) := by decide +kernel
theorem dX7_readSum_32 : decode cX7_readSum 32 = .ok (.bipush 45, 2) := by decide +kernel
theorem dX7_readSum_34 : decode cX7_readSum 34 = .ok (.if_icmp .ne 41, 3) := by decide +kernel
theorem dX7_readSum_37 : decode cX7_readSum 37 = .ok (.aload_n 0, 1) := by decide +kernel
theorem dX7_readSum_38 : decode cX7_readSum 38 = .ok (.invokevirtual 60, 3) := by decide +kernel
theorem dX7_readSum_41 : decode cX7_readSum 41 = .ok (.istore 4, 2) := by decide +kernel
theorem dX7_readSum_43 : decode cX7_readSum 43 = .ok (.aload_n 0, 1) := by decide +kernel
theorem dX7_readSum_44 : decode cX7_readSum 44 = .ok (.dup, 1) := by decide +kernel
theorem dX7_readSum_45 : decode cX7_readSum 45 = .ok (.getfield 57, 3) := by decide +kernel
theorem dX7_readSum_48 : decode cX7_readSum 48 = .ok (.iconst 1, 1) := by decide +kernel
theorem dX7_readSum_49 : decode cX7_readSum 49 = .ok (.iadd, 1) := by decide +kernel
theorem dX7_readSum_50 : decode cX7_readSum 50 = .ok (.putfield 57, 3) := by decide +kernel
theorem dX7_readSum_53 : decode cX7_readSum 53 = .ok (.aload_n 0, 1) := by decide +kernel
theorem dX7_readSum_54 : decode cX7_readSum 54 = .ok (.iload_n 1, 1) := by decide +kernel
theorem dX7_readSum_55 : decode cX7_readSum 55 = .ok (.invokevirtual 149, 3) := by decide +kernel
theorem dX7_readSum_58 : decode cX7_readSum 58 = .ok (.istore_n 2, 1) := by decide +kernel
theorem dX7_readSum_59 : decode cX7_readSum 59 = .ok (.aload_n 0, 1) := by decide +kernel
theorem dX7_readSum_60 : decode cX7_readSum 60 = .ok (.getfield 22, 3) := by decide +kernel
theorem dX7_readSum_63 : decode cX7_readSum 63 = .ok (.iload 4, 2) := by decide +kernel
theorem dX7_readSum_65 : decode cX7_readSum 65 = .ok (.iconst 0, 1) := by decide +kernel
theorem dX7_readSum_66 : decode cX7_readSum 66 = .ok (.invokevirtual 142, 3) := by decide +kernel
theorem dX7_readSum_69 : decode cX7_readSum 69 = .ok (.iinc 3 1, 3) := by decide +kernel
theorem dX7_readSum_72 : decode cX7_readSum 72 = .ok (.goto (-64), 3) := by decide +kernel
theorem dX7_readSum_75 : decode cX7_readSum 75 = .ok (.iload_n 2, 1) := by decide +kernel
theorem dX7_readSum_76 : decode cX7_readSum 76 = .ok (.ireturn, 1) := by decide +kernel
theorem dX7_readProduct_0 : decode cX7_readProduct 0 = .ok (.aload_n 0, 1) := by decide +kernel
theorem dX7_readProduct_1 : decode cX7_readProduct 1 = .ok (.iload_n 1, 1) := by decide +kernel
theorem dX7_readProduct_2 : decode cX7_readProduct 2 = .ok (.invokevirtual 152, 3) := by decide +kernel
theorem dX7_readProduct_5 : decode cX7_readProduct 5 = .ok (.istore_n 2, 1) := by decide +kernel
theorem dX7_readProduct_6 : decode cX7_readProduct 6 = .ok (.iconst 0, 1) := by decide +kernel
theorem dX7_readProduct_7 : decode cX7_readProduct 7 = .ok (.istore_n 3, 1) := by decide +kernel
theorem dX7_readProduct_8 : decode cX7_readProduct 8 = .ok (.iload_n 2, 1) := by decide +kernel
theorem dX7_readProduct_9 : decode cX7_readProduct 9 = .ok (.ifCond .eq 66, 3) := by decide +kernel
theorem dX7_readProduct_12 : decode cX7_readProduct 12 = .ok (.iload_n 3, 1) := by decide +kernel
theorem dX7_readProduct_13 : decode cX7_readProduct 13 = .ok (.sipush 500, 3) := by decide +kernel
theorem dX7_readProduct_16 : decode cX7_readProduct 16 = .ok (.if_icmp .ge 59, 3) := by decide +kernel
theorem dX7_readProduct_19 : decode cX7_readProduct 19 = .ok (.aload_n 0, 1) := by decide +kernel
theorem dX7_readProduct_20 : decode cX7_readProduct 20 = .ok (.invokevirtual 60, 3) := by decide +kernel
theorem dX7_readProduct_23 : decode cX7_readProduct 23 = .ok (.bipush 42, 2) := by decide +kernel
theorem dX7_readProduct_25 : decode cX7_readProduct 25 = .ok (.if_icmp .eq 12, 3) := by decide +kernel
theorem dX7_readProduct_28 : decode cX7_readProduct 28 = .ok (.aload_n 0, 1) := by decide +kernel
theorem dX7_readProduct_29 : decode cX7_readProduct 29 = .ok (.invokevirtual 60, 3) := by decide +kernel
theorem dX7_readProduct_32 : decode cX7_readProduct 32 = .ok (.bipush 47, 2) := by decide +kernel
theorem dX7_readProduct_34 : decode cX7_readProduct 34 = .ok (.if_icmp .ne 41, 3) := by decide +kernel
theorem dX7_readProduct_37 : decode cX7_readProduct 37 = .ok (.aload_n 0, 1) := by decide +kernel
theorem dX7_readProduct_38 : decode cX7_readProduct 38 = .ok (.invokevirtual 60, 3) := by decide +kernel
theorem dX7_readProduct_41 : decode cX7_readProduct 41 = .ok (.istore 4, 2) := by decide +kernel
theorem dX7_readProduct_43 : decode cX7_readProduct 43 = .ok (.aload_n 0, 1) := by decide +kernel
theorem dX7_readProduct_44 : decode cX7_readProduct 44 = .ok (.dup, 1) := by decide +kernel
theorem dX7_readProduct_45 : decode cX7_readProduct 45 = .ok (.getfield 57, 3) := by decide +kernel
theorem dX7_readProduct_48 : decode cX7_readProduct 48 = .ok (.iconst 1, 1) := by decide +kernel
theorem dX7_readProduct_49 : decode cX7_readProduct 49 = .ok (.iadd, 1) := by decide +kernel
theorem dX7_readProduct_50 : decode cX7_readProduct 50 = .ok (.putfield 57, 3) := by decide +kernel
theorem dX7_readProduct_53 : decode cX7_readProduct 53 = .ok (.aload_n 0, 1) := by decide +kernel
theorem dX7_readProduct_54 : decode cX7_readProduct 54 = .ok (.iload_n 1, 1) := by decide +kernel
theorem dX7_readProduct_55 : decode cX7_readProduct 55 = .ok (.invokevirtual 152, 3) := by decide +kernel
theorem dX7_readProduct_58 : decode cX7_readProduct 58 = .ok (.istore_n 2, 1) := by decide +kernel
theorem dX7_readProduct_59 : decode cX7_readProduct 59 = .ok (.aload_n 0, 1) := by decide +kernel
theorem dX7_readProduct_60 : decode cX7_readProduct 60 = .ok (.getfield 22, 3) := by decide +kernel
theorem dX7_readProduct_63 : decode cX7_readProduct 63 = .ok (.iload 4, 2) := by decide +kernel
theorem dX7_readProduct_65 : decode cX7_readProduct 65 = .ok (.iconst 0, 1) := by decide +kernel
theorem dX7_readProduct_66 : decode cX7_readProduct 66 = .ok (.invokevirtual 142, 3) := by decide +kernel
theorem dX7_readProduct_69 : decode cX7_readProduct 69 = .ok (.iinc 3 1, 3) := by decide +kernel
theorem dX7_readProduct_72 : decode cX7_readProduct 72 = .ok (.goto (-64), 3) := by decide +kernel
theorem dX7_readProduct_75 : decode cX7_readProduct 75 = .ok (.iload_n 2, 1) := by decide +kernel
theorem dX7_readProduct_76 : decode cX7_readProduct 76 = .ok (.ireturn, 1) := by decide +kernel
theorem dX7_readFactor_0 : decode cX7_readFactor 0 = .ok (.aload_n 0, 1) := by decide +kernel
theorem dX7_readFactor_1 : decode cX7_readFactor 1 = .ok (.invokevirtual 60, 3) := by decide +kernel
theorem dX7_readFactor_4 : decode cX7_readFactor 4 = .ok (.istore_n 2, 1) := by decide +kernel
theorem dX7_readFactor_5 : decode cX7_readFactor 5 = .ok (.iload_n 2, 1) := by decide +kernel
theorem dX7_readFactor_6 : decode cX7_readFactor 6 = .ok (.bipush 45, 2) := by decide +kernel
theorem dX7_readFactor_8 : decode cX7_readFactor 8 = .ok (.if_icmp .eq 9, 3) := by decide +kernel
theorem dX7_readFactor_11 : decode cX7_readFactor 11 = .ok (.iload_n 2, 1) := by decide +kernel
theorem dX7_readFactor_12 : decode cX7_readFactor 12 = .ok (.bipush 40, 2) := by decide +kernel
theorem dX7_readFactor_14 : decode cX7_readFactor 14 = .ok (.if_icmp .ne 77, 3) := by decide +kernel
theorem dX7_readFactor_17 : decode cX7_readFactor 17 = .ok (.iload_n 1, 1) := by decide +kernel
theorem dX7_readFactor_18 : decode cX7_readFactor 18 = .ok (.bipush 20, 2) := by decide +kernel
theorem dX7_readFactor_20 : decode cX7_readFactor 20 = .ok (.if_icmp .lt 9, 3) := by decide +kernel
theorem dX7_readFactor_23 : decode cX7_readFactor 23 = .ok (.aload_n 0, 1) := by decide +kernel
theorem dX7_readFactor_24 : decode cX7_readFactor 24 = .ok (.iconst 4, 1) := by decide +kernel
theorem dX7_readFactor_25 : decode cX7_readFactor 25 = .ok (.invokevirtual 74, 3) := by decide +kernel
theorem dX7_readFactor_28 : decode cX7_readFactor 28 = .ok (.ireturn, 1) := by decide +kernel
theorem dX7_readFactor_29 : decode cX7_readFactor 29 = .ok (.aload_n 0, 1) := by decide +kernel
theorem dX7_readFactor_30 : decode cX7_readFactor 30 = .ok (.dup, 1) := by decide +kernel
theorem dX7_readFactor_31 : decode cX7_readFactor 31 = .ok (.getfield 57, 3) := by decide +kernel
theorem dX7_readFactor_34 : decode cX7_readFactor 34 = .ok (.iconst 1, 1) := by decide +kernel
theorem dX7_readFactor_35 : decode cX7_readFactor 35 = .ok (.iadd, 1) := by decide +kernel
theorem dX7_readFactor_36 : decode cX7_readFactor 36 = .ok (.putfield 57, 3) := by decide +kernel
theorem dX7_readFactor_39 : decode cX7_readFactor 39 = .ok (.iload_n 2, 1) := by decide +kernel
theorem dX7_readFactor_40 : decode cX7_readFactor 40 = .ok (.bipush 40, 2) := by decide +kernel
theorem dX7_readFactor_42 : decode cX7_readFactor 42 = .ok (.if_icmp .ne 28, 3) := by decide +kernel
theorem dX7_readFactor_45 : decode cX7_readFactor 45 = .ok (.aload_n 0, 1) := by decide +kernel
theorem dX7_readFactor_46 : decode cX7_readFactor 46 = .ok (.iload_n 1, 1) := by decide +kernel
theorem dX7_readFactor_47 : decode cX7_readFactor 47 = .ok (.iconst 1, 1) := by decide +kernel
theorem dX7_readFactor_48 : decode cX7_readFactor 48 = .ok (.iadd, 1) := by decide +kernel
theorem dX7_readFactor_49 : decode cX7_readFactor 49 = .ok (.invokevirtual 135, 3) := by decide +kernel
theorem dX7_readFactor_52 : decode cX7_readFactor 52 = .ok (.ifCond .eq 16, 3) := by decide +kernel
theorem dX7_readFactor_55 : decode cX7_readFactor 55 = .ok (.aload_n 0, 1) := by decide +kernel
theorem dX7_readFactor_56 : decode cX7_readFactor 56 = .ok (.bipush 41, 2) := by decide +kernel
theorem dX7_readFactor_58 : decode cX7_readFactor 58 = .ok (.invokevirtual 71, 3) := by decide +kernel
theorem dX7_readFactor_61 : decode cX7_readFactor 61 = .ok (.ifCond .eq 7, 3) := by decide +kernel
theorem dX7_readFactor_64 : decode cX7_readFactor 64 = .ok (.iconst 1, 1) := by decide +kernel
theorem dX7_readFactor_65 : decode cX7_readFactor 65 = .ok (.goto 4, 3) := by decide +kernel
theorem dX7_readFactor_68 : decode cX7_readFactor 68 = .ok (.iconst 0, 1) := by decide +kernel
theorem dX7_readFactor_69 : decode cX7_readFactor 69 = .ok (.ireturn, 1) := by decide +kernel
theorem dX7_readFactor_70 : decode cX7_readFactor 70 = .ok (.aload_n 0, 1) := by decide +kernel
theorem dX7_readFactor_71 : decode cX7_readFactor 71 = .ok (.iload_n 1, 1) := by decide +kernel
theorem dX7_readFactor_72 : decode cX7_readFactor 72 = .ok (.iconst 1, 1) := by decide +kernel
theorem dX7_readFactor_73 : decode cX7_readFactor 73 = .ok (.iadd, 1) := by decide +kernel
theorem dX7_readFactor_74 : decode cX7_readFactor 74 = .ok (.invokevirtual 152, 3) := by decide +kernel
theorem dX7_readFactor_77 : decode cX7_readFactor 77 = .ok (.istore_n 3, 1) := by decide +kernel
theorem dX7_readFactor_78 : decode cX7_readFactor 78 = .ok (.aload_n 0, 1) := by decide +kernel
theorem dX7_readFactor_79 : decode cX7_readFactor 79 = .ok (.getfield 22, 3) := by decide +kernel
theorem dX7_readFactor_82 : decode cX7_readFactor 82 = .ok (.sipush 220, 3) := by decide +kernel
theorem dX7_readFactor_85 : decode cX7_readFactor 85 = .ok (.iconst 0, 1) := by decide +kernel
theorem dX7_readFactor_86 : decode cX7_readFactor 86 = .ok (.invokevirtual 142, 3) := by decide +kernel
theorem dX7_readFactor_89 : decode cX7_readFactor 89 = .ok (.iload_n 3, 1) := by decide +kernel
theorem dX7_readFactor_90 : decode cX7_readFactor 90 = .ok (.ireturn, 1) := by decide +kernel
theorem dX7_readFactor_91 : decode cX7_readFactor 91 = .ok (.iconst 1, 1) := by decide +kernel
theorem dX7_readFactor_92 : decode cX7_readFactor 92 = .ok (.istore_n 3, 1) := by decide +kernel
theorem dX7_readFactor_93 : decode cX7_readFactor 93 = .ok (.aload_n 0, 1) := by decide +kernel
theorem dX7_readFactor_94 : decode cX7_readFactor 94 = .ok (.iconst 0, 1) := by decide +kernel
theorem dX7_readFactor_95 : decode cX7_readFactor 95 = .ok (.putfield 155, 3) := by decide +kernel
theorem dX7_readFactor_98 : decode cX7_readFactor 98 = .ok (.iload_n 2, 1) := by decide +kernel
theorem dX7_readFactor_99 : decode cX7_readFactor 99 = .ok (.tableswitch 150 200 211 #[61, 150, 150, 150, 150, 71, 93, 115, 137, 137, 137, 137], 61) := by decide +kernel
theorem dX7_readFactor_160 : decode cX7_readFactor 160 = .ok (.aload_n 0, 1) := by decide +kernel
theorem dX7_readFactor_161 : decode cX7_readFactor 161 = .ok (.ldc 126, 2) := by decide +kernel
theorem dX7_readFactor_163 : decode cX7_readFactor 163 = .ok (.invokevirtual 158, 3) := by decide +kernel
theorem dX7_readFactor_166 : decode cX7_readFactor 166 = .ok (.istore_n 3, 1) := by decide +kernel
theorem dX7_readFactor_167 : decode cX7_readFactor 167 = .ok (.goto 88, 3) := by decide +kernel
theorem dX7_readFactor_170 : decode cX7_readFactor 170 = .ok (.aload_n 0, 1) := by decide +kernel
theorem dX7_readFactor_171 : decode cX7_readFactor 171 = .ok (.dup, 1) := by decide +kernel
theorem dX7_readFactor_172 : decode cX7_readFactor 172 = .ok (.getfield 57, 3) := by decide +kernel
theorem dX7_readFactor_175 : decode cX7_readFactor 175 = .ok (.iconst 1, 1) := by decide +kernel
theorem dX7_readFactor_176 : decode cX7_readFactor 176 = .ok (.iadd, 1) := by decide +kernel
theorem dX7_readFactor_177 : decode cX7_readFactor 177 = .ok (.putfield 57, 3) := by decide +kernel
theorem dX7_readFactor_180 : decode cX7_readFactor 180 = .ok (.aload_n 0, 1) := by decide +kernel
theorem dX7_readFactor_181 : decode cX7_readFactor 181 = .ok (.aload_n 0, 1) := by decide +kernel
theorem dX7_readFactor_182 : decode cX7_readFactor 182 = .ok (.getfield 36, 3) := by decide +kernel
theorem dX7_readFactor_185 : decode cX7_readFactor 185 = .ok (.invokevirtual 158, 3) := by decide +kernel
theorem dX7_readFactor_188 : decode cX7_readFactor 188 = .ok (.istore_n 3, 1) := by decide +kernel
theorem dX7_readFactor_189 : decode cX7_readFactor 189 = .ok (.goto 66, 3) := by decide +kernel
theorem dX7_readFactor_192 : decode cX7_readFactor 192 = .ok (.aload_n 0, 1) := by decide +kernel
theorem dX7_readFactor_193 : decode cX7_readFactor 193 = .ok (.dup, 1) := by decide +kernel
theorem dX7_readFactor_194 : decode cX7_readFactor 194 = .ok (.getfield 57, 3) := by decide +kernel
theorem dX7_readFactor_197 : decode cX7_readFactor 197 = .ok (.iconst 1, 1) := by decide +kernel
theorem dX7_readFactor_198 : decode cX7_readFactor 198 = .ok (.iadd, 1) := by decide +kernel
theorem dX7_readFactor_199 : decode cX7_readFactor 199 = .ok (.putfield 57, 3) := by decide +kernel
theorem dX7_readFactor_202 : decode cX7_readFactor 202 = .ok (.aload_n 0, 1) := by decide +kernel
theorem dX7_readFactor_203 : decode cX7_readFactor 203 = .ok (.aload_n 0, 1) := by decide +kernel
theorem dX7_readFactor_204 : decode cX7_readFactor 204 = .ok (.getfield 39, 3) := by decide +kernel
theorem dX7_readFactor_207 : decode cX7_readFactor 207 = .ok (.invokevirtual 158, 3) := by decide +kernel
theorem dX7_readFactor_210 : decode cX7_readFactor 210 = .ok (.istore_n 3, 1) := by decide +kernel
theorem dX7_readFactor_211 : decode cX7_readFactor 211 = .ok (.goto 44, 3) := by decide +kernel
theorem dX7_readFactor_214 : decode cX7_readFactor 214 = .ok (.aload_n 0, 1) := by decide +kernel
theorem dX7_readFactor_215 : decode cX7_readFactor 215 = .ok (.dup, 1) := by decide +kernel
theorem dX7_readFactor_216 : decode cX7_readFactor 216 = .ok (.getfield 57, 3) := by decide +kernel
theorem dX7_readFactor_219 : decode cX7_readFactor 219 = .ok (.iconst 1, 1) := by decide +kernel
theorem dX7_readFactor_220 : decode cX7_readFactor 220 = .ok (.iadd, 1) := by decide +kernel
theorem dX7_readFactor_221 : decode cX7_readFactor 221 = .ok (.putfield 57, 3) := by decide +kernel
theorem dX7_readFactor_224 : decode cX7_readFactor 224 = .ok (.aload_n 0, 1) := by decide +kernel
theorem dX7_readFactor_225 : decode cX7_readFactor 225 = .ok (.aload_n 0, 1) := by decide +kernel
theorem dX7_readFactor_226 : decode cX7_readFactor 226 = .ok (.getfield 42, 3) := by decide +kernel
theorem dX7_readFactor_229 : decode cX7_readFactor 229 = .ok (.invokevirtual 158, 3) := by decide +kernel
theorem dX7_readFactor_232 : decode cX7_readFactor 232 = .ok (.istore_n 3, 1) := by decide +kernel
theorem dX7_readFactor_233 : decode cX7_readFactor 233 = .ok (.goto 22, 3) := by decide +kernel
theorem dX7_readFactor_236 : decode cX7_readFactor 236 = .ok (.aload_n 0, 1) := by decide +kernel
theorem dX7_readFactor_237 : decode cX7_readFactor 237 = .ok (.dup, 1) := by decide +kernel
theorem dX7_readFactor_238 : decode cX7_readFactor 238 = .ok (.getfield 57, 3) := by decide +kernel
theorem dX7_readFactor_241 : decode cX7_readFactor 241 = .ok (.iconst 1, 1) := by decide +kernel
theorem dX7_readFactor_242 : decode cX7_readFactor 242 = .ok (.iadd, 1) := by decide +kernel
theorem dX7_readFactor_243 : decode cX7_readFactor 243 = .ok (.putfield 57, 3) := by decide +kernel
theorem dX7_readFactor_246 : decode cX7_readFactor 246 = .ok (.goto 9, 3) := by decide +kernel
theorem dX7_readFactor_249 : decode cX7_readFactor 249 = .ok (.aload_n 0, 1) := by decide +kernel
theorem dX7_readFactor_250 : decode cX7_readFactor 250 = .ok (.iconst 1, 1) := by decide +kernel
theorem dX7_readFactor_251 : decode cX7_readFactor 251 = .ok (.invokevirtual 74, 3) := by decide +kernel
theorem dX7_readFactor_254 : decode cX7_readFactor 254 = .ok (.ireturn, 1) := by decide +kernel
theorem dX7_readFactor_255 : decode cX7_readFactor 255 = .ok (.aload_n 0, 1) := by decide +kernel
theorem dX7_readFactor_256 : decode cX7_readFactor 256 = .ok (.getfield 22, 3) := by decide +kernel
theorem dX7_readFactor_259 : decode cX7_readFactor 259 = .ok (.iload_n 2, 1) := by decide +kernel
theorem dX7_readFactor_260 : decode cX7_readFactor 260 = .ok (.aload_n 0, 1) := by decide +kernel
theorem dX7_readFactor_261 : decode cX7_readFactor 261 = .ok (.getfield 155, 3) := by decide +kernel
theorem dX7_readFactor_264 : decode cX7_readFactor 264 = .ok (.invokevirtual 142, 3) := by decide +kernel
theorem dX7_readFactor_267 : decode cX7_readFactor 267 = .ok (.iload_n 3, 1) := by decide +kernel
theorem dX7_readFactor_268 : decode cX7_readFactor 268 = .ok (.ireturn, 1) := by decide +kernel
theorem dX7_takeNumber_0 : decode cX7_takeNumber 0 = .ok (.aload_n 0, 1) := by decide +kernel
theorem dX7_takeNumber_1 : decode cX7_takeNumber 1 = .ok (.invokevirtual 60, 3) := by decide +kernel
theorem dX7_takeNumber_4 : decode cX7_takeNumber 4 = .ok (.sipush 200, 3) := by decide +kernel
theorem dX7_takeNumber_7 : decode cX7_takeNumber 7 = .ok (.if_icmp .eq 9, 3) := by decide +kernel
theorem dX7_takeNumber_10 : decode cX7_takeNumber 10 = .ok (.aload_n 0, 1) := by decide +kernel
theorem dX7_takeNumber_11 : decode cX7_takeNumber 11 = .ok (.iconst 1, 1) := by decide +kernel
theorem dX7_takeNumber_12 : decode cX7_takeNumber 12 = .ok (.invokevirtual 74, 3) := by decide +kernel
theorem dX7_takeNumber_15 : decode cX7_takeNumber 15 = .ok (.ireturn, 1) := by decide +kernel
theorem dX7_takeNumber_16 : decode cX7_takeNumber 16 = .ok (.aload_n 0, 1) := by decide +kernel
theorem dX7_takeNumber_17 : decode cX7_takeNumber 17 = .ok (.aload_n 0, 1) := by decide +kernel
theorem dX7_takeNumber_18 : decode cX7_takeNumber 18 = .ok (.getfield 33, 3) := by decide +kernel
theorem dX7_takeNumber_21 : decode cX7_takeNumber 21 = .ok (.aload_n 0, 1) := by decide +kernel
theorem dX7_takeNumber_22 : decode cX7_takeNumber 22 = .ok (.getfield 57, 3) := by decide +kernel
theorem dX7_takeNumber_25 : decode cX7_takeNumber 25 = .ok (.iaload, 1) := by decide +kernel
theorem dX7_takeNumber_26 : decode cX7_takeNumber 26 = .ok (.putfield 155, 3) := by decide +kernel
theorem dX7_takeNumber_29 : decode cX7_takeNumber 29 = .ok (.aload_n 0, 1) := by decide +kernel
theorem dX7_takeNumber_30 : decode cX7_takeNumber 30 = .ok (.getfield 155, 3) := by decide +kernel
theorem dX7_takeNumber_33 : decode cX7_takeNumber 33 = .ok (.iload_n 1, 1) := by decide +kernel
theorem dX7_takeNumber_34 : decode cX7_takeNumber 34 = .ok (.if_icmp .lt 9, 3) := by decide +kernel
theorem dX7_takeNumber_37 : decode cX7_takeNumber 37 = .ok (.aload_n 0, 1) := by decide +kernel
theorem dX7_takeNumber_38 : decode cX7_takeNumber 38 = .ok (.iconst 2, 1) := by decide +kernel
theorem dX7_takeNumber_39 : decode cX7_takeNumber 39 = .ok (.invokevirtual 74, 3) := by decide +kernel
theorem dX7_takeNumber_42 : decode cX7_takeNumber 42 = .ok (.ireturn, 1) := by decide +kernel
theorem dX7_takeNumber_43 : decode cX7_takeNumber 43 = .ok (.aload_n 0, 1) := by decide +kernel
theorem dX7_takeNumber_44 : decode cX7_takeNumber 44 = .ok (.dup, 1) := by decide +kernel
theorem dX7_takeNumber_45 : decode cX7_takeNumber 45 = .ok (.getfield 57, 3) := by decide +kernel
theorem dX7_takeNumber_48 : decode cX7_takeNumber 48 = .ok (.iconst 1, 1) := by decide +kernel
theorem dX7_takeNumber_49 : decode cX7_takeNumber 49 = .ok (.iadd, 1) := by decide +kernel
theorem dX7_takeNumber_50 : decode cX7_takeNumber 50 = .ok (.putfield 57, 3) := by decide +kernel
theorem dX7_takeNumber_53 : decode cX7_takeNumber 53 = .ok (.iconst 1, 1) := by decide +kernel
theorem dX7_takeNumber_54 : decode cX7_takeNumber 54 = .ok (.ireturn, 1) := by decide +kernel
theorem dX7_readAction_0 : decode cX7_readAction 0 = .ok (.aload_n 0, 1) := by decide +kernel
theorem dX7_readAction_1 : decode cX7_readAction 1 = .ok (.invokevirtual 60, 3) := by decide +kernel
theorem dX7_readAction_4 : decode cX7_readAction 4 = .ok (.istore_n 2, 1) := by decide +kernel
theorem dX7_readAction_5 : decode cX7_readAction 5 = .ok (.iload_n 2, 1) := by decide +kernel
theorem dX7_readAction_6 : decode cX7_readAction 6 = .ok (.sipush 212, 3) := by decide +kernel
theorem dX7_readAction_9 : decode cX7_readAction 9 = .ok (.if_icmp .eq 23, 3) := by decide +kernel
theorem dX7_readAction_12 : decode cX7_readAction 12 = .ok (.iload_n 2, 1) := by decide +kernel
theorem dX7_readAction_13 : decode cX7_readAction 13 = .ok (.sipush 213, 3) := by decide +kernel
theorem dX7_readAction_16 : decode cX7_readAction 16 = .ok (.if_icmp .eq 16, 3) := by decide +kernel
theorem dX7_readAction_19 : decode cX7_readAction 19 = .ok (.iload_n 2, 1) := by decide +kernel
theorem dX7_readAction_20 : decode cX7_readAction 20 = .ok (.sipush 214, 3) := by decide +kernel
theorem dX7_readAction_23 : decode cX7_readAction 23 = .ok (.if_icmp .eq 9, 3) := by decide +kernel
theorem dX7_readAction_26 : decode cX7_readAction 26 = .ok (.aload_n 0, 1) := by decide +kernel
theorem dX7_readAction_27 : decode cX7_readAction 27 = .ok (.iconst 1, 1) := by decide +kernel
theorem dX7_readAction_28 : decode cX7_readAction 28 = .ok (.invokevirtual 74, 3) := by decide +kernel
theorem dX7_readAction_31 : decode cX7_readAction 31 = .ok (.ireturn, 1) := by decide +kernel
theorem dX7_readAction_32 : decode cX7_readAction 32 = .ok (.aload_n 0, 1) := by decide +kernel
theorem dX7_readAction_33 : decode cX7_readAction 33 = .ok (.dup, 1) := by decide +kernel
theorem dX7_readAction_34 : decode cX7_readAction 34 = .ok (.getfield 57, 3) := by decide +kernel
theorem dX7_readAction_37 : decode cX7_readAction 37 = .ok (.iconst 1, 1) := by decide +kernel
theorem dX7_readAction_38 : decode cX7_readAction 38 = .ok (.iadd, 1) := by decide +kernel
theorem dX7_readAction_39 : decode cX7_readAction 39 = .ok (.putfield 57, 3) := by decide +kernel
theorem dX7_readAction_42 : decode cX7_readAction 42 = .ok (.aload_n 0, 1) := by decide +kernel
theorem dX7_readAction_43 : decode cX7_readAction 43 = .ok (.iload_n 2, 1) := by decide +kernel
theorem dX7_readAction_44 : decode cX7_readAction 44 = .ok (.sipush 212, 3) := by decide +kernel
theorem dX7_readAction_47 : decode cX7_readAction 47 = .ok (.if_icmp .ne 10, 3) := by decide +kernel
theorem dX7_readAction_50 : decode cX7_readAction 50 = .ok (.aload_n 0, 1) := by decide +kernel
theorem dX7_readAction_51 : decode cX7_readAction 51 = .ok (.getfield 42, 3) := by decide +kernel
theorem dX7_readAction_54 : decode cX7_readAction 54 = .ok (.goto 21, 3) := by decide +kernel
theorem dX7_readAction_57 : decode cX7_readAction 57 = .ok (.iload_n 2, 1) := by decide +kernel
theorem dX7_readAction_58 : decode cX7_readAction 58 = .ok (.sipush 213, 3) := by decide +kernel
theorem dX7_readAction_61 : decode cX7_readAction 61 = .ok (.if_icmp .ne 10, 3) := by decide +kernel
theorem dX7_readAction_64 : decode cX7_readAction 64 = .ok (.aload_n 0, 1) := by decide +kernel
theorem dX7_readAction_65 : decode cX7_readAction 65 = .ok (.getfield 39, 3) := by decide +kernel
theorem dX7_readAction_68 : decode cX7_readAction 68 = .ok (.goto 7, 3) := by decide +kernel
theorem dX7_readAction_71 : decode cX7_readAction 71 = .ok (.aload_n 0, 1) := by decide +kernel
theorem dX7_readAction_72 : decode cX7_readAction 72 = .ok (.getfield 36, 3) := by decide +kernel
theorem dX7_readAction_75 : decode cX7_readAction 75 = .ok (.invokevirtual 158, 3) := by decide +kernel
theorem dX7_readAction_78 : decode cX7_readAction 78 = .ok (.ifCond .ne 5, 3) := by decide +kernel
theorem dX7_readAction_81 : decode cX7_readAction 81 = .ok (.iconst 0, 1) := by decide +kernel
theorem dX7_readAction_82 : decode cX7_readAction 82 = .ok (.ireturn, 1) := by decide +kernel
theorem dX7_readAction_83 : decode cX7_readAction 83 = .ok (.aload_n 0, 1) := by decide +kernel
theorem dX7_readAction_84 : decode cX7_readAction 84 = .ok (.getfield 22, 3) := by decide +kernel
theorem dX7_readAction_87 : decode cX7_readAction 87 = .ok (.getfield 161, 3) := by decide +kernel
theorem dX7_readAction_90 : decode cX7_readAction 90 = .ok (.iload_n 1, 1) := by decide +kernel
theorem dX7_readAction_91 : decode cX7_readAction 91 = .ok (.aload_n 0, 1) := by decide +kernel
theorem dX7_readAction_92 : decode cX7_readAction 92 = .ok (.getfield 155, 3) := by decide +kernel
theorem dX7_readAction_95 : decode cX7_readAction 95 = .ok (.iastore, 1) := by decide +kernel
theorem dX7_readAction_96 : decode cX7_readAction 96 = .ok (.iload_n 2, 1) := by decide +kernel
theorem dX7_readAction_97 : decode cX7_readAction 97 = .ok (.sipush 214, 3) := by decide +kernel
theorem dX7_readAction_100 : decode cX7_readAction 100 = .ok (.if_icmp .ne 41, 3) := by decide +kernel
theorem dX7_readAction_103 : decode cX7_readAction 103 = .ok (.aload_n 0, 1) := by decide +kernel
theorem dX7_readAction_104 : decode cX7_readAction 104 = .ok (.getfield 22, 3) := by decide +kernel
theorem dX7_readAction_107 : decode cX7_readAction 107 = .ok (.getfield 164, 3) := by decide +kernel
theorem dX7_readAction_110 : decode cX7_readAction 110 = .ok (.iload_n 1, 1) := by decide +kernel
theorem dX7_readAction_111 : decode cX7_readAction 111 = .ok (.sipush 214, 3) := by decide +kernel
theorem dX7_readAction_114 : decode cX7_readAction 114 = .ok (.iastore, 1) := by decide +kernel
theorem dX7_readAction_115 : decode cX7_readAction 115 = .ok (.aload_n 0, 1) := by decide +kernel
theorem dX7_readAction_116 : decode cX7_readAction 116 = .ok (.bipush 61, 2) := by decide +kernel
theorem dX7_readAction_118 : decode cX7_readAction 118 = .ok (.invokevirtual 71, 3) := by decide +kernel
theorem dX7_readAction_121 : decode cX7_readAction 121 = .ok (.ifCond .eq 15, 3) := by decide +kernel
theorem dX7_readAction_124 : decode cX7_readAction 124 = .ok (.aload_n 0, 1) := by decide +kernel
theorem dX7_readAction_125 : decode cX7_readAction 125 = .ok (.iconst 0, 1) := by decide +kernel
theorem dX7_readAction_126 : decode cX7_readAction 126 = .ok (.invokevirtual 135, 3) := by decide +kernel
theorem dX7_readAction_129 : decode cX7_readAction 129 = .ok (.ifCond .eq 7, 3) := by decide +kernel
theorem dX7_readAction_132 : decode cX7_readAction 132 = .ok (.iconst 1, 1) := by decide +kernel
theorem dX7_readAction_133 : decode cX7_readAction 133 = .ok (.goto 4, 3) := by decide +kernel
theorem dX7_readAction_136 : decode cX7_readAction 136 = .ok (.iconst 0, 1) := by decide +kernel
theorem dX7_readAction_137 : decode cX7_readAction 137 = .ok (.istore_n 3, 1) := by decide +kernel
theorem dX7_readAction_138 : decode cX7_readAction 138 = .ok (.goto 47, 3) := by decide +kernel
theorem dX7_readAction_141 : decode cX7_readAction 141 = .ok (.aload_n 0, 1) := by decide +kernel
theorem dX7_readAction_142 : decode cX7_readAction 142 = .ok (.getfield 22, 3) := by decide +kernel
theorem dX7_readAction_145 : decode cX7_readAction 145 = .ok (.getfield 164, 3) := by decide +kernel
theorem dX7_readAction_148 : decode cX7_readAction 148 = .ok (.iload_n 1, 1) := by decide +kernel
theorem dX7_readAction_149 : decode cX7_readAction 149 = .ok (.aload_n 0, 1) := by decide +kernel
theorem dX7_readAction_150 : decode cX7_readAction 150 = .ok (.invokevirtual 60, 3) := by decide +kernel
theorem dX7_readAction_153 : decode cX7_readAction 153 = .ok (.iastore, 1) := by decide +kernel
theorem dX7_readAction_154 : decode cX7_readAction 154 = .ok (.iload_n 2, 1) := by decide +kernel
theorem dX7_readAction_155 : decode cX7_readAction 155 = .ok (.sipush 212, 3) := by decide +kernel
theorem dX7_readAction_158 : decode cX7_readAction 158 = .ok (.if_icmp .ne 16, 3) := by decide +kernel
theorem dX7_readAction_161 : decode cX7_readAction 161 = .ok (.aload_n 0, 1) := by decide +kernel
theorem dX7_readAction_162 : decode cX7_readAction 162 = .ok (.sipush 215, 3) := by decide +kernel
theorem dX7_readAction_165 : decode cX7_readAction 165 = .ok (.sipush 217, 3) := by decide +kernel
theorem dX7_readAction_168 : decode cX7_readAction 168 = .ok (.invokevirtual 167, 3) := by decide +kernel
theorem dX7_readAction_171 : decode cX7_readAction 171 = .ok (.goto 13, 3) := by decide +kernel
theorem dX7_readAction_174 : decode cX7_readAction 174 = .ok (.aload_n 0, 1) := by decide +kernel
theorem dX7_readAction_175 : decode cX7_readAction 175 = .ok (.sipush 218, 3) := by decide +kernel
theorem dX7_readAction_178 : decode cX7_readAction 178 = .ok (.sipush 219, 3) := by decide +kernel
theorem dX7_readAction_181 : decode cX7_readAction 181 = .ok (.invokevirtual 167, 3) := by decide +kernel
theorem dX7_readAction_184 : decode cX7_readAction 184 = .ok (.istore_n 3, 1) := by decide +kernel
theorem dX7_readAction_185 : decode cX7_readAction 185 = .ok (.aload_n 0, 1) := by decide +kernel
theorem dX7_readAction_186 : decode cX7_readAction 186 = .ok (.getfield 22, 3) := by decide +kernel
theorem dX7_readAction_189 : decode cX7_readAction 189 = .ok (.getfield 171, 3) := by decide +kernel
theorem dX7_readAction_192 : decode cX7_readAction 192 = .ok (.iload_n 1, 1) := by decide +kernel
theorem dX7_readAction_193 : decode cX7_readAction 193 = .ok (.aload_n 0, 1) := by decide +kernel
theorem dX7_readAction_194 : decode cX7_readAction 194 = .ok (.getfield 22, 3) := by decide +kernel
theorem dX7_readAction_197 : decode cX7_readAction 197 = .ok (.getfield 48, 3) := by decide +kernel
theorem dX7_readAction_200 : decode cX7_readAction 200 = .ok (.iastore, 1) := by decide +kernel
theorem dX7_readAction_201 : decode cX7_readAction 201 = .ok (.iload_n 3, 1) := by decide +kernel
theorem dX7_readAction_202 : decode cX7_readAction 202 = .ok (.ireturn, 1) := by decide +kernel
theorem dX7_takeWord_0 : decode cX7_takeWord 0 = .ok (.aload_n 0, 1) := by decide +kernel
theorem dX7_takeWord_1 : decode cX7_takeWord 1 = .ok (.invokevirtual 60, 3) := by decide +kernel
theorem dX7_takeWord_4 : decode cX7_takeWord 4 = .ok (.iload_n 1, 1) := by decide +kernel
theorem dX7_takeWord_5 : decode cX7_takeWord 5 = .ok (.iload_n 2, 1) := by decide +kernel
theorem dX7_takeWord_6 : decode cX7_takeWord 6 = .ok (.invokestatic 174, 3) := by decide +kernel
theorem dX7_takeWord_9 : decode cX7_takeWord 9 = .ok (.ifCond .ne 9, 3) := by decide +kernel
theorem dX7_takeWord_12 : decode cX7_takeWord 12 = .ok (.aload_n 0, 1) := by decide +kernel
theorem dX7_takeWord_13 : decode cX7_takeWord 13 = .ok (.iconst 1, 1) := by decide +kernel
theorem dX7_takeWord_14 : decode cX7_takeWord 14 = .ok (.invokevirtual 74, 3) := by decide +kernel
theorem dX7_takeWord_17 : decode cX7_takeWord 17 = .ok (.ireturn, 1) := by decide +kernel
theorem dX7_takeWord_18 : decode cX7_takeWord 18 = .ok (.aload_n 0, 1) := by decide +kernel
theorem dX7_takeWord_19 : decode cX7_takeWord 19 = .ok (.dup, 1) := by decide +kernel
theorem dX7_takeWord_20 : decode cX7_takeWord 20 = .ok (.getfield 57, 3) := by decide +kernel
theorem dX7_takeWord_23 : decode cX7_takeWord 23 = .ok (.iconst 1, 1) := by decide +kernel
theorem dX7_takeWord_24 : decode cX7_takeWord 24 = .ok (.iadd, 1) := by decide +kernel
theorem dX7_takeWord_25 : decode cX7_takeWord 25 = .ok (.putfield 57, 3) := by decide +kernel
theorem dX7_takeWord_28 : decode cX7_takeWord 28 = .ok (.iconst 1, 1) := by decide +kernel
theorem dX7_takeWord_29 : decode cX7_takeWord 29 = .ok (.ireturn, 1) := by decide +kernel
theorem dX8_init_0 : decode cX8_init 0 = .ok (.aload_n 0, 1) := by decide +kernel
theorem dX8_init_1 : decode cX8_init 1 = .ok (.invokespecial 3, 3) := by decide +kernel
theorem dX8_init_4 : decode cX8_init 4 = .ok (.aload_n 0, 1) := by decide +kernel
theorem dX8_init_5 : decode cX8_init 5 = .ok (.sipush 500, 3) := by decide +kernel
theorem dX8_init_8 : decode cX8_init 8 = .ok (.newarray .int, 2) := by decide +kernel
theorem dX8_init_10 : decode cX8_init 10 = .ok (.putfield 9, 3) := by decide +kernel
theorem dX8_init_13 : decode cX8_init 13 = .ok (.aload_n 0, 1) := by decide +kernel
theorem dX8_init_14 : decode cX8_init 14 = .ok (.sipush 500, 3) := by decide +kernel
theorem dX8_init_17 : decode cX8_init 17 = .ok (.newarray .int, 2) := by decide +kernel
theorem dX8_init_19 : decode cX8_init 19 = .ok (.putfield 15, 3) := by decide +kernel
theorem dX8_init_22 : decode cX8_init 22 = .ok (.aload_n 0, 1) := by decide +kernel
theorem dX8_init_23 : decode cX8_init 23 = .ok (.bipush 12, 2) := by decide +kernel
theorem dX8_init_25 : decode cX8_init 25 = .ok (.newarray .int, 2) := by decide +kernel
theorem dX8_init_27 : decode cX8_init 27 = .ok (.putfield 18, 3) := by decide +kernel
theorem dX8_init_30 : decode cX8_init 30 = .ok (.aload_n 0, 1) := by decide +kernel
theorem dX8_init_31 : decode cX8_init 31 = .ok (.bipush 12, 2) := by decide +kernel
theorem dX8_init_33 : decode cX8_init 33 = .ok (.newarray .int, 2) := by decide +kernel
theorem dX8_init_35 : decode cX8_init 35 = .ok (.putfield 21, 3) := by decide +kernel
theorem dX8_init_38 : decode cX8_init 38 = .ok (.aload_n 0, 1) := by decide +kernel
theorem dX8_init_39 : decode cX8_init 39 = .ok (.bipush 12, 2) := by decide +kernel
theorem dX8_init_41 : decode cX8_init 41 = .ok (.newarray .int, 2) := by decide +kernel
theorem dX8_init_43 : decode cX8_init 43 = .ok (.putfield 24, 3) := by decide +kernel
theorem dX8_init_46 : decode cX8_init 46 = .ok (.aload_n 0, 1) := by decide +kernel
theorem dX8_init_47 : decode cX8_init 47 = .ok (.bipush 12, 2) := by decide +kernel
theorem dX8_init_49 : decode cX8_init 49 = .ok (.newarray .int, 2) := by decide +kernel
theorem dX8_init_51 : decode cX8_init 51 = .ok (.putfield 27, 3) := by decide +kernel
theorem dX8_init_54 : decode cX8_init 54 = .ok (.aload_n 0, 1) := by decide +kernel
theorem dX8_init_55 : decode cX8_init 55 = .ok (.bipush 12, 2) := by decide +kernel
theorem dX8_init_57 : decode cX8_init 57 = .ok (.newarray .int, 2) := by decide +kernel
theorem dX8_init_59 : decode cX8_init 59 = .ok (.putfield 30, 3) := by decide +kernel
theorem dX8_init_62 : decode cX8_init 62 = .ok (.aload_n 0, 1) := by decide +kernel
theorem dX8_init_63 : decode cX8_init 63 = .ok (.bipush 64, 2) := by decide +kernel
theorem dX8_init_65 : decode cX8_init 65 = .ok (.newarray .long, 2) := by decide +kernel
theorem dX8_init_67 : decode cX8_init 67 = .ok (.putfield 33, 3) := by decide +kernel
theorem dX8_init_70 : decode cX8_init 70 = .ok (.return_, 1) := by decide +kernel
theorem dX8_copyFrom_0 : decode cX8_copyFrom 0 = .ok (.aload_n 0, 1) := by decide +kernel
theorem dX8_copyFrom_1 : decode cX8_copyFrom 1 = .ok (.aload_n 1, 1) := by decide +kernel
theorem dX8_copyFrom_2 : decode cX8_copyFrom 2 = .ok (.getfield 37, 3) := by decide +kernel
theorem dX8_copyFrom_5 : decode cX8_copyFrom 5 = .ok (.putfield 37, 3) := by decide +kernel
theorem dX8_copyFrom_8 : decode cX8_copyFrom 8 = .ok (.aload_n 1, 1) := by decide +kernel
theorem dX8_copyFrom_9 : decode cX8_copyFrom 9 = .ok (.getfield 9, 3) := by decide +kernel
theorem dX8_copyFrom_12 : decode cX8_copyFrom 12 = .ok (.iconst 0, 1) := by decide +kernel
theorem dX8_copyFrom_13 : decode cX8_copyFrom 13 = .ok (.aload_n 0, 1) := by decide +kernel
theorem dX8_copyFrom_14 : decode cX8_copyFrom 14 = .ok (.getfield 9, 3) := by decide +kernel
theorem dX8_copyFrom_17 : decode cX8_copyFrom 17 = .ok (.iconst 0, 1) := by decide +kernel
theorem dX8_copyFrom_18 : decode cX8_copyFrom 18 = .ok (.aload_n 0, 1) := by decide +kernel
theorem dX8_copyFrom_19 : decode cX8_copyFrom 19 = .ok (.getfield 37, 3) := by decide +kernel
theorem dX8_copyFrom_22 : decode cX8_copyFrom 22 = .ok (.invokestatic 41, 3) := by decide +kernel
theorem dX8_copyFrom_25 : decode cX8_copyFrom 25 = .ok (.aload_n 1, 1) := by decide +kernel
theorem dX8_copyFrom_26 : decode cX8_copyFrom 26 = .ok (.getfield 15, 3) := by decide +kernel
theorem dX8_copyFrom_29 : decode cX8_copyFrom 29 = .ok (.iconst 0, 1) := by decide +kernel
theorem dX8_copyFrom_30 : decode cX8_copyFrom 30 = .ok (.aload_n 0, 1) := by decide +kernel
theorem dX8_copyFrom_31 : decode cX8_copyFrom 31 = .ok (.getfield 15, 3) := by decide +kernel
theorem dX8_copyFrom_34 : decode cX8_copyFrom 34 = .ok (.iconst 0, 1) := by decide +kernel
theorem dX8_copyFrom_35 : decode cX8_copyFrom 35 = .ok (.aload_n 0, 1) := by decide +kernel
theorem dX8_copyFrom_36 : decode cX8_copyFrom 36 = .ok (.getfield 37, 3) := by decide +kernel
theorem dX8_copyFrom_39 : decode cX8_copyFrom 39 = .ok (.invokestatic 41, 3) := by decide +kernel
theorem dX8_copyFrom_42 : decode cX8_copyFrom 42 = .ok (.aload_n 0, 1) := by decide +kernel
theorem dX8_copyFrom_43 : decode cX8_copyFrom 43 = .ok (.aload_n 1, 1) := by decide +kernel
theorem dX8_copyFrom_44 : decode cX8_copyFrom 44 = .ok (.getfield 47, 3) := by decide +kernel
theorem dX8_copyFrom_47 : decode cX8_copyFrom 47 = .ok (.putfield 47, 3) := by decide +kernel
theorem dX8_copyFrom_50 : decode cX8_copyFrom 50 = .ok (.aload_n 1, 1) := by decide +kernel
theorem dX8_copyFrom_51 : decode cX8_copyFrom 51 = .ok (.getfield 18, 3) := by decide +kernel
theorem dX8_copyFrom_54 : decode cX8_copyFrom 54 = .ok (.iconst 0, 1) := by decide +kernel
theorem dX8_copyFrom_55 : decode cX8_copyFrom 55 = .ok (.aload_n 0, 1) := by decide +kernel
theorem dX8_copyFrom_56 : decode cX8_copyFrom 56 = .ok (.getfield 18, 3) := by decide +kernel
theorem dX8_copyFrom_59 : decode cX8_copyFrom 59 = .ok (.iconst 0, 1) := by decide +kernel
theorem dX8_copyFrom_60 : decode cX8_copyFrom 60 = .ok (.aload_n 0, 1) := by decide +kernel
theorem dX8_copyFrom_61 : decode cX8_copyFrom 61 = .ok (.getfield 47, 3) := by decide +kernel
theorem dX8_copyFrom_64 : decode cX8_copyFrom 64 = .ok (.invokestatic 41, 3) := by decide +kernel
theorem dX8_copyFrom_67 : decode cX8_copyFrom 67 = .ok (.aload_n 1, 1) := by decide +kernel
theorem dX8_copyFrom_68 : decode cX8_copyFrom 68 = .ok (.getfield 21, 3) := by decide +kernel
theorem dX8_copyFrom_71 : decode cX8_copyFrom 71 = .ok (.iconst 0, 1) := by decide +kernel
theorem dX8_copyFrom_72 : decode cX8_copyFrom 72 = .ok (.aload_n 0, 1) := by decide +kernel
theorem dX8_copyFrom_73 : decode cX8_copyFrom 73 = .ok (.getfield 21, 3) := by decide +kernel
theorem dX8_copyFrom_76 : decode cX8_copyFrom 76 = .ok (.iconst 0, 1) := by decide +kernel
theorem dX8_copyFrom_77 : decode cX8_copyFrom 77 = .ok (.aload_n 0, 1) := by decide +kernel
theorem dX8_copyFrom_78 : decode cX8_copyFrom 78 = .ok (.getfield 47, 3) := by decide +kernel
theorem dX8_copyFrom_81 : decode cX8_copyFrom 81 = .ok (.invokestatic 41, 3) := by decide +kernel
theorem dX8_copyFrom_84 : decode cX8_copyFrom 84 = .ok (.aload_n 1, 1) := by decide +kernel
theorem dX8_copyFrom_85 : decode cX8_copyFrom 85 = .ok (.getfield 24, 3) := by decide +kernel
theorem dX8_copyFrom_88 : decode cX8_copyFrom 88 = .ok (.iconst 0, 1) := by decide +kernel
theorem dX8_copyFrom_89 : decode cX8_copyFrom 89 = .ok (.aload_n 0, 1) := by decide +kernel
theorem dX8_copyFrom_90 : decode cX8_copyFrom 90 = .ok (.getfield 24, 3) := by decide +kernel
theorem dX8_copyFrom_93 : decode cX8_copyFrom 93 = .ok (.iconst 0, 1) := by decide +kernel
theorem dX8_copyFrom_94 : decode cX8_copyFrom 94 = .ok (.aload_n 0, 1) := by decide +kernel
theorem dX8_copyFrom_95 : decode cX8_copyFrom 95 = .ok (.getfield 47, 3) := by decide +kernel
theorem dX8_copyFrom_98 : decode cX8_copyFrom 98 = .ok (.invokestatic 41, 3) := by decide +kernel
theorem dX8_copyFrom_101 : decode cX8_copyFrom 101 = .ok (.aload_n 1, 1) := by decide +kernel
theorem dX8_copyFrom_102 : decode cX8_copyFrom 102 = .ok (.getfield 27, 3) := by decide +kernel
theorem dX8_copyFrom_105 : decode cX8_copyFrom 105 = .ok (.iconst 0, 1) := by decide +kernel
theorem dX8_copyFrom_106 : decode cX8_copyFrom 106 = .ok (.aload_n 0, 1) := by decide +kernel
theorem dX8_copyFrom_107 : decode cX8_copyFrom 107 = .ok (.getfield 27, 3) := by decide +kernel
theorem dX8_copyFrom_110 : decode cX8_copyFrom 110 = .ok (.iconst 0, 1) := by decide +kernel
theorem dX8_copyFrom_111 : decode cX8_copyFrom 111 = .ok (.aload_n 0, 1) := by decide +kernel
theorem dX8_copyFrom_112 : decode cX8_copyFrom 112 = .ok (.getfield 47, 3) := by decide +kernel
theorem dX8_copyFrom_115 : decode cX8_copyFrom 115 = .ok (.invokestatic 41, 3) := by decide +kernel
theorem dX8_copyFrom_118 : decode cX8_copyFrom 118 = .ok (.aload_n 1, 1) := by decide +kernel
theorem dX8_copyFrom_119 : decode cX8_copyFrom 119 = .ok (.getfield 30, 3) := by decide +kernel
theorem dX8_copyFrom_122 : decode cX8_copyFrom 122 = .ok (.iconst 0, 1) := by decide +kernel
theorem dX8_copyFrom_123 : decode cX8_copyFrom 123 = .ok (.aload_n 0, 1) := by decide +kernel
theorem dX8_copyFrom_124 : decode cX8_copyFrom 124 = .ok (.getfield 30, 3) := by decide +kernel
theorem dX8_copyFrom_127 : decode cX8_copyFrom 127 = .ok (.iconst 0, 1) := by decide +kernel
theorem dX8_copyFrom_128 : decode cX8_copyFrom 128 = .ok (.aload_n 0, 1) := by decide +kernel
theorem dX8_copyFrom_129 : decode cX8_copyFrom 129 = .ok (.getfield 47, 3) := by decide +kernel
theorem dX8_copyFrom_132 : decode cX8_copyFrom 132 = .ok (.invokestatic 41, 3) := by decide +kernel
theorem dX8_copyFrom_135 : decode cX8_copyFrom 135 = .ok (.return_, 1) := by decide +kernel
theorem dX8_emitCode_0 : decode cX8_emitCode 0 = .ok (.aload_n 0, 1) := by decide +kernel
theorem dX8_emitCode_1 : decode cX8_emitCode 1 = .ok (.getfield 37, 3) := by decide +kernel
theorem dX8_emitCode_4 : decode cX8_emitCode 4 = .ok (.sipush 500, 3) := by decide +kernel
theorem dX8_emitCode_7 : decode cX8_emitCode 7 = .ok (.if_icmp .ge 33, 3) := by decide +kernel
theorem dX8_emitCode_10 : decode cX8_emitCode 10 = .ok (.aload_n 0, 1) := by decide +kernel
theorem dX8_emitCode_11 : decode cX8_emitCode 11 = .ok (.getfield 9, 3) := by decide +kernel
theorem dX8_emitCode_14 : decode cX8_emitCode 14 = .ok (.aload_n 0, 1) := by decide +kernel
theorem dX8_emitCode_15 : decode cX8_emitCode 15 = .ok (.getfield 37, 3) := by decide +kernel
theorem dX8_emitCode_18 : decode cX8_emitCode 18 = .ok (.iload_n 1, 1) := by decide +kernel
theorem dX8_emitCode_19 : decode cX8_emitCode 19 = .ok (.iastore, 1) := by decide +kernel
theorem dX8_emitCode_20 : decode cX8_emitCode 20 = .ok (.aload_n 0, 1) := by decide +kernel
theorem dX8_emitCode_21 : decode cX8_emitCode 21 = .ok (.getfield 15, 3) := by decide +kernel
theorem dX8_emitCode_24 : decode cX8_emitCode 24 = .ok (.aload_n 0, 1) := by decide +kernel
theorem dX8_emitCode_25 : decode cX8_emitCode 25 = .ok (.getfield 37, 3) := by decide +kernel
theorem dX8_emitCode_28 : decode cX8_emitCode 28 = .ok (.iload_n 2, 1) := by decide +kernel
theorem dX8_emitCode_29 : decode cX8_emitCode 29 = .ok (.iastore, 1) := by decide +kernel
theorem dX8_emitCode_30 : decode cX8_emitCode 30 = .ok (.aload_n 0, 1) := by decide +kernel
theorem dX8_emitCode_31 : decode cX8_emitCode 31 = .ok (.dup, 1) := by decide +kernel
theorem dX8_emitCode_32 : decode cX8_emitCode 32 = .ok (.getfield 37, 3) := by decide +kernel
theorem dX8_emitCode_35 : decode cX8_emitCode 35 = .ok (.iconst 1, 1) := by decide +kernel
theorem dX8_emitCode_36 : decode cX8_emitCode 36 = .ok (.iadd, 1) := by decide +kernel
theorem dX8_emitCode_37 : decode cX8_emitCode 37 = .ok (.putfield 37, 3) := by decide +kernel
theorem dX8_emitCode_40 : decode cX8_emitCode 40 = .ok (.return_, 1) := by decide +kernel
theorem dX8_isDue_0 : decode cX8_isDue 0 = .ok (.aload_n 0, 1) := by decide +kernel
theorem dX8_isDue_1 : decode cX8_isDue 1 = .ok (.aload_n 0, 1) := by decide +kernel
theorem dX8_isDue_2 : decode cX8_isDue 2 = .ok (.getfield 18, 3) := by decide +kernel
theorem dX8_isDue_5 : decode cX8_isDue 5 = .ok (.iload_n 1, 1) := by decide +kernel
theorem dX8_isDue_6 : decode cX8_isDue 6 = .ok (.iaload, 1) := by decide +kernel
theorem dX8_isDue_7 : decode cX8_isDue 7 = .ok (.aload_n 0, 1) := by decide +kernel
theorem dX8_isDue_8 : decode cX8_isDue 8 = .ok (.getfield 21, 3) := by decide +kernel
theorem dX8_isDue_11 : decode cX8_isDue 11 = .ok (.iload_n 1, 1) := by decide +kernel
theorem dX8_isDue_12 : decode cX8_isDue 12 = .ok (.iaload, 1) := by decide +kernel
theorem dX8_isDue_13 : decode cX8_isDue 13 = .ok (.aload_n 2, 1) := by decide +kernel
theorem dX8_isDue_14 : decode cX8_isDue 14 = .ok (.invokevirtual 50, 3) := by decide +kernel
theorem dX8_isDue_17 : decode cX8_isDue 17 = .ok (.lconst 0, 1) := by decide +kernel
theorem dX8_isDue_18 : decode cX8_isDue 18 = .ok (.lcmp, 1) := by decide +kernel
theorem dX8_isDue_19 : decode cX8_isDue 19 = .ok (.ifCond .eq 7, 3) := by decide +kernel
theorem dX8_isDue_22 : decode cX8_isDue 22 = .ok (.iconst 1, 1) := by decide +kernel
theorem dX8_isDue_23 : decode cX8_isDue 23 = .ok (.goto 4, 3) := by decide +kernel
theorem dX8_isDue_26 : decode cX8_isDue 26 = .ok (.iconst 0, 1) := by decide +kernel
theorem dX8_isDue_27 : decode cX8_isDue 27 = .ok (.ireturn, 1) := by decide +kernel
theorem dX8_act_0 : decode cX8_act 0 = .ok (.aload_n 0, 1) := by decide +kernel
theorem dX8_act_1 : decode cX8_act 1 = .ok (.getfield 30, 3) := by decide +kernel
theorem dX8_act_4 : decode cX8_act 4 = .ok (.iload_n 1, 1) := by decide +kernel
theorem dX8_act_5 : decode cX8_act 5 = .ok (.iaload, 1) := by decide +kernel
theorem dX8_act_6 : decode cX8_act 6 = .ok (.istore_n 3, 1) := by decide +kernel
theorem dX8_act_7 : decode cX8_act 7 = .ok (.aload_n 0, 1) := by decide +kernel
theorem dX8_act_8 : decode cX8_act 8 = .ok (.getfield 27, 3) := by decide +kernel
theorem dX8_act_11 : decode cX8_act 11 = .ok (.iload_n 1, 1) := by decide +kernel
theorem dX8_act_12 : decode cX8_act 12 = .ok (.iaload, 1) := by decide +kernel
theorem dX8_act_13 : decode cX8_act 13 = .ok (.istore 4, 2) := by decide +kernel
theorem dX8_act_15 : decode cX8_act 15 = .ok (.iload 4, 2) := by decide +kernel
theorem dX8_act_17 : decode cX8_act 17 = .ok (.sipush 214, 3) := by decide +kernel
theorem dX8_act_20 : decode cX8_act 20 = .ok (.if_icmp .ne 52, 3) := by decide +kernel
theorem dX8_act_23 : decode cX8_act 23 = .ok (.aload_n 2, 1) := by decide +kernel
theorem dX8_act_24 : decode cX8_act 24 = .ok (.iload_n 3, 1) := by decide +kernel
theorem dX8_act_25 : decode cX8_act 25 = .ok (.invokevirtual 54, 3) := by decide +kernel
theorem dX8_act_28 : decode cX8_act 28 = .ok (.ifCond .eq 135, 3) := by decide +kernel
theorem dX8_act_31 : decode cX8_act 31 = .ok (.aload_n 0, 1) := by decide +kernel
theorem dX8_act_32 : decode cX8_act 32 = .ok (.aload_n 0, 1) := by decide +kernel
theorem dX8_act_33 : decode cX8_act 33 = .ok (.getfield 21, 3) := by decide +kernel
theorem dX8_act_36 : decode cX8_act 36 = .ok (.iload_n 1, 1) := by decide +kernel
theorem dX8_act_37 : decode cX8_act 37 = .ok (.iaload, 1) := by decide +kernel
theorem dX8_act_38 : decode cX8_act 38 = .ok (.aload_n 0, 1) := by decide +kernel
theorem dX8_act_39 : decode cX8_act 39 = .ok (.getfield 24, 3) := by decide +kernel
theorem dX8_act_42 : decode cX8_act 42 = .ok (.iload_n 1, 1) := by decide +kernel
theorem dX8_act_43 : decode cX8_act 43 = .ok (.iaload, 1) := by decide +kernel
theorem dX8_act_44 : decode cX8_act 44 = .ok (.aload_n 2, 1) := by decide +kernel
theorem dX8_act_45 : decode cX8_act 45 = .ok (.invokevirtual 50, 3) := by decide +kernel
theorem dX8_act_48 : decode cX8_act 48 = .ok (.lstore 5, 2) := by decide +kernel
theorem dX8_act_50 : decode cX8_act 50 = .ok (.aload_n 2, 1) := by decide +kernel
theorem dX8_act_51 : decode cX8_act 51 = .ok (.getfield 60, 3) := by decide +kernel
theorem dX8_act_54 : decode cX8_act 54 = .ok (.iload_n 3, 1) := by decide +kernel
theorem dX8_act_55 : decode cX8_act 55 = .ok (.aaload, 1) := by decide +kernel
theorem dX8_act_56 : decode cX8_act 56 = .ok (.lload 5, 2) := by decide +kernel
theorem dX8_act_58 : decode cX8_act 58 = .ok (.lconst 0, 1) := by decide +kernel
theorem dX8_act_59 : decode cX8_act 59 = .ok (.ldc2_w 64, 3) := by decide +kernel
theorem dX8_act_62 : decode cX8_act 62 = .ok (.invokestatic 66, 3) := by decide +kernel
theorem dX8_act_65 : decode cX8_act 65 = .ok (.l2i, 1) := by decide +kernel
theorem dX8_act_66 : decode cX8_act 66 = .ok (.putfield 70, 3) := by decide +kernel
theorem dX8_act_69 : decode cX8_act 69 = .ok (.goto 94, 3) := by decide +kernel
theorem dX8_act_72 : decode cX8_act 72 = .ok (.iload 4, 2) := by decide +kernel
theorem dX8_act_74 : decode cX8_act 74 = .ok (.sipush 218, 3) := by decide +kernel
theorem dX8_act_77 : decode cX8_act 77 = .ok (.if_icmp .eq 11, 3) := by decide +kernel
theorem dX8_act_80 : decode cX8_act 80 = .ok (.iload 4, 2) := by decide +kernel
theorem dX8_act_82 : decode cX8_act 82 = .ok (.sipush 219, 3) := by decide +kernel
theorem dX8_act_85 : decode cX8_act 85 = .ok (.if_icmp .ne 36, 3) := by decide +kernel
theorem dX8_act_88 : decode cX8_act 88 = .ok (.aload_n 2, 1) := by decide +kernel
theorem dX8_act_89 : decode cX8_act 89 = .ok (.iload_n 3, 1) := by decide +kernel
theorem dX8_act_90 : decode cX8_act 90 = .ok (.invokevirtual 75, 3) := by decide +kernel
theorem dX8_act_93 : decode cX8_act 93 = .ok (.ifCond .eq 70, 3) := by decide +kernel
theorem dX8_act_96 : decode cX8_act 96 = .ok (.aload_n 2, 1) := by decide +kernel
theorem dX8_act_97 : decode cX8_act 97 = .ok (.getfield 78, 3) := by decide +kernel
theorem dX8_act_100 : decode cX8_act 100 = .ok (.iload_n 3, 1) := by decide +kernel
theorem dX8_act_101 : decode cX8_act 101 = .ok (.aaload, 1) := by decide +kernel
theorem dX8_act_102 : decode cX8_act 102 = .ok (.iload 4, 2) := by decide +kernel
theorem dX8_act_104 : decode cX8_act 104 = .ok (.sipush 218, 3) := by decide +kernel
theorem dX8_act_107 : decode cX8_act 107 = .ok (.if_icmp .ne 7, 3) := by decide +kernel
theorem dX8_act_110 : decode cX8_act 110 = .ok (.iconst 1, 1) := by decide +kernel
theorem dX8_act_111 : decode cX8_act 111 = .ok (.goto 4, 3) := by decide +kernel
theorem dX8_act_114 : decode cX8_act 114 = .ok (.iconst 0, 1) := by decide +kernel
theorem dX8_act_115 : decode cX8_act 115 = .ok (.putfield 82, 3) := by decide +kernel
theorem dX8_act_118 : decode cX8_act 118 = .ok (.goto 45, 3) := by decide +kernel
theorem dX8_act_121 : decode cX8_act 121 = .ok (.aload_n 2, 1) := by decide +kernel
theorem dX8_act_122 : decode cX8_act 122 = .ok (.iload_n 3, 1) := by decide +kernel
theorem dX8_act_123 : decode cX8_act 123 = .ok (.invokevirtual 88, 3) := by decide +kernel
theorem dX8_act_126 : decode cX8_act 126 = .ok (.ifCond .eq 37, 3) := by decide +kernel
theorem dX8_act_129 : decode cX8_act 129 = .ok (.aload_n 2, 1) := by decide +kernel
theorem dX8_act_130 : decode cX8_act 130 = .ok (.getfield 91, 3) := by decide +kernel
theorem dX8_act_133 : decode cX8_act 133 = .ok (.iload_n 3, 1) := by decide +kernel
theorem dX8_act_134 : decode cX8_act 134 = .ok (.aaload, 1) := by decide +kernel
theorem dX8_act_135 : decode cX8_act 135 = .ok (.iload 4, 2) := by decide +kernel
theorem dX8_act_137 : decode cX8_act 137 = .ok (.sipush 215, 3) := by decide +kernel
theorem dX8_act_140 : decode cX8_act 140 = .ok (.if_icmp .ne 7, 3) := by decide +kernel
theorem dX8_act_143 : decode cX8_act 143 = .ok (.iconst 1, 1) := by decide +kernel
theorem dX8_act_144 : decode cX8_act 144 = .ok (.goto 16, 3) := by decide +kernel
theorem dX8_act_147 : decode cX8_act 147 = .ok (.iload 4, 2) := by decide +kernel
theorem dX8_act_149 : decode cX8_act 149 = .ok (.sipush 216, 3) := by decide +kernel
theorem dX8_act_152 : decode cX8_act 152 = .ok (.if_icmp .ne 7, 3) := by decide +kernel
theorem dX8_act_155 : decode cX8_act 155 = .ok (.iconst 2, 1) := by decide +kernel
theorem dX8_act_156 : decode cX8_act 156 = .ok (.goto 4, 3) := by decide +kernel
theorem dX8_act_159 : decode cX8_act 159 = .ok (.iconst 0, 1) := by decide +kernel
theorem dX8_act_160 : decode cX8_act 160 = .ok (.putfield 95, 3) := by decide +kernel
theorem dX8_act_163 : decode cX8_act 163 = .ok (.return_, 1) := by decide +kernel
theorem dX8_evaluate_0 : decode cX8_evaluate 0 = .ok (.iload_n 1, 1) := by decide +kernel
theorem dX8_evaluate_1 : decode cX8_evaluate 1 = .ok (.iload_n 2, 1) := by decide +kernel
theorem dX8_evaluate_2 : decode cX8_evaluate 2 = .ok (.if_icmp .ne 5, 3) := by decide +kernel
theorem dX8_evaluate_5 : decode cX8_evaluate 5 = .ok (.lconst 1, 1) := by decide +kernel
theorem dX8_evaluate_6 : decode cX8_evaluate 6 = .ok (.lreturn, 1) := by decide +kernel
theorem dX8_evaluate_7 : decode cX8_evaluate 7 = .ok (.iconst 0, 1) := by decide +kernel
theorem dX8_evaluate_8 : decode cX8_evaluate 8 = .ok (.istore 4, 2) := by decide +kernel
theorem dX8_evaluate_10 : decode cX8_evaluate 10 = .ok (.iconst 0, 1) := by decide +kernel
theorem dX8_evaluate_11 : decode cX8_evaluate 11 = .ok (.istore 5, 2) := by decide +kernel
theorem dX8_evaluate_13 : decode cX8_evaluate 13 = .ok (.iload_n 1, 1) := by decide +kernel
theorem dX8_evaluate_14 : decode cX8_evaluate 14 = .ok (.istore 6, 2) := by decide +kernel
theorem dX8_evaluate_16 : decode cX8_evaluate 16 = .ok (.iload 6, 2) := by decide +kernel
theorem dX8_evaluate_18 : decode cX8_evaluate 18 = .ok (.iload_n 2, 1) := by decide +kernel
theorem dX8_evaluate_19 : decode cX8_evaluate 19 = .ok (.if_icmp .ge 264, 3) := by decide +kernel
theorem dX8_evaluate_22 : decode cX8_evaluate 22 = .ok (.aload_n 0, 1) := by decide +kernel
theorem dX8_evaluate_23 : decode cX8_evaluate 23 = .ok (.getfield 9, 3) := by decide +kernel
theorem dX8_evaluate_26 : decode cX8_evaluate 26 = .ok (.iload 6, 2) := by decide +kernel
theorem dX8_evaluate_28 : decode cX8_evaluate 28 = .ok (.iaload, 1) := by decide +kernel
theorem dX8_evaluate_29 : decode cX8_evaluate 29 = .ok (.istore 7, 2) := by decide +kernel
theorem dX8_evaluate_31 : decode cX8_evaluate 31 = .ok (.iload 5, 2) := by decide +kernel
theorem dX8_evaluate_33 : decode cX8_evaluate 33 = .ok (.ifCond .eq 21, 3) := by decide +kernel
theorem dX8_evaluate_36 : decode cX8_evaluate 36 = .ok (.iload 7, 2) := by decide +kernel
theorem dX8_evaluate_38 : decode cX8_evaluate 38 = .ok (.sipush 202, 3) := by decide +kernel
theorem dX8_evaluate_41 : decode cX8_evaluate 41 = .ok (.if_icmp .eq 7, 3) := by decide +kernel
theorem dX8_evaluate_44 : decode cX8_evaluate 44 = .ok (.iconst 1, 1) := by decide +kernel
theorem dX8_evaluate_45 : decode cX8_evaluate 45 = .ok (.goto 4, 3) := by decide +kernel
theorem dX8_evaluate_48 : decode cX8_evaluate 48 = .ok (.iconst 0, 1) := by decide +kernel
theorem dX8_evaluate_49 : decode cX8_evaluate 49 = .ok (.istore 5, 2) := by decide +kernel
theorem dX8_evaluate_51 : decode cX8_evaluate 51 = .ok (.goto 226, 3) := by decide +kernel
theorem dX8_evaluate_54 : decode cX8_evaluate 54 = .ok (.iload 7, 2) := by decide +kernel
theorem dX8_evaluate_56 : decode cX8_evaluate 56 = .ok (.sipush 203, 3) := by decide +kernel
theorem dX8_evaluate_59 : decode cX8_evaluate 59 = .ok (.if_icmp .eq 11, 3) := by decide +kernel
theorem dX8_evaluate_62 : decode cX8_evaluate 62 = .ok (.iload 7, 2) := by decide +kernel
theorem dX8_evaluate_64 : decode cX8_evaluate 64 = .ok (.sipush 202, 3) := by decide +kernel
theorem dX8_evaluate_67 : decode cX8_evaluate 67 = .ok (.if_icmp .ne 70, 3) := by decide +kernel
theorem dX8_evaluate_70 : decode cX8_evaluate 70 = .ok (.iload 4, 2) := by decide +kernel
theorem dX8_evaluate_72 : decode cX8_evaluate 72 = .ok (.ifCond .le 21, 3) := by decide +kernel
theorem dX8_evaluate_75 : decode cX8_evaluate 75 = .ok (.aload_n 0, 1) := by decide +kernel
theorem dX8_evaluate_76 : decode cX8_evaluate 76 = .ok (.getfield 33, 3) := by decide +kernel
theorem dX8_evaluate_79 : decode cX8_evaluate 79 = .ok (.iload 4, 2) := by decide +kernel
theorem dX8_evaluate_81 : decode cX8_evaluate 81 = .ok (.iconst 1, 1) := by decide +kernel
theorem dX8_evaluate_82 : decode cX8_evaluate 82 = .ok (.isub, 1) := by decide +kernel
theorem dX8_evaluate_83 : decode cX8_evaluate 83 = .ok (.laload, 1) := by decide +kernel
theorem dX8_evaluate_84 : decode cX8_evaluate 84 = .ok (.lconst 0, 1) := by decide +kernel
theorem dX8_evaluate_85 : decode cX8_evaluate 85 = .ok (.lcmp, 1) := by decide +kernel
theorem dX8_evaluate_86 : decode cX8_evaluate 86 = .ok (.ifCond .eq 7, 3) := by decide +kernel
theorem dX8_evaluate_89 : decode cX8_evaluate 89 = .ok (.iconst 1, 1) := by decide +kernel
theorem dX8_evaluate_90 : decode cX8_evaluate 90 = .ok (.goto 4, 3) := by decide +kernel
theorem dX8_evaluate_93 : decode cX8_evaluate 93 = .ok (.iconst 0, 1) := by decide +kernel
theorem dX8_evaluate_94 : decode cX8_evaluate 94 = .ok (.istore 8, 2) := by decide +kernel
theorem dX8_evaluate_96 : decode cX8_evaluate 96 = .ok (.iload 8, 2) := by decide +kernel
theorem dX8_evaluate_98 : decode cX8_evaluate 98 = .ok (.ifCond .eq 13, 3) := by decide +kernel
theorem dX8_evaluate_101 : decode cX8_evaluate 101 = .ok (.iload 7, 2) := by decide +kernel
theorem dX8_evaluate_103 : decode cX8_evaluate 103 = .ok (.sipush 202, 3) := by decide +kernel
theorem dX8_evaluate_106 : decode cX8_evaluate 106 = .ok (.if_icmp .ne 5, 3) := by decide +kernel
theorem dX8_evaluate_109 : decode cX8_evaluate 109 = .ok (.lconst 1, 1) := by decide +kernel
theorem dX8_evaluate_110 : decode cX8_evaluate 110 = .ok (.lreturn, 1) := by decide +kernel
theorem dX8_evaluate_111 : decode cX8_evaluate 111 = .ok (.iload 8, 2) := by decide +kernel
theorem dX8_evaluate_113 : decode cX8_evaluate 113 = .ok (.ifCond .ne 15, 3) := by decide +kernel
theorem dX8_evaluate_116 : decode cX8_evaluate 116 = .ok (.iload 7, 2) := by decide +kernel
theorem dX8_evaluate_118 : decode cX8_evaluate 118 = .ok (.sipush 203, 3) := by decide +kernel
theorem dX8_evaluate_121 : decode cX8_evaluate 121 = .ok (.if_icmp .ne 7, 3) := by decide +kernel
theorem dX8_evaluate_124 : decode cX8_evaluate 124 = .ok (.iconst 1, 1) := by decide +kernel
theorem dX8_evaluate_125 : decode cX8_evaluate 125 = .ok (.goto 4, 3) := by decide +kernel
theorem dX8_evaluate_128 : decode cX8_evaluate 128 = .ok (.iconst 0, 1) := by decide +kernel
theorem dX8_evaluate_129 : decode cX8_evaluate 129 = .ok (.istore 5, 2) := by decide +kernel
theorem dX8_evaluate_131 : decode cX8_evaluate 131 = .ok (.iconst 0, 1) := by decide +kernel
theorem dX8_evaluate_132 : decode cX8_evaluate 132 = .ok (.istore 4, 2) := by decide +kernel
theorem dX8_evaluate_134 : decode cX8_evaluate 134 = .ok (.goto 143, 3) := by decide +kernel
theorem dX8_evaluate_137 : decode cX8_evaluate 137 = .ok (.iload 7, 2) := by decide +kernel
theorem dX8_evaluate_139 : decode cX8_evaluate 139 = .ok (.sipush 204, 3) := by decide +kernel
theorem dX8_evaluate_142 : decode cX8_evaluate 142 = .ok (.if_icmp .eq 11, 3) := by decide +kernel
theorem dX8_evaluate_145 : decode cX8_evaluate 145 = .ok (.iload 7, 2) := by decide +kernel
theorem dX8_evaluate_147 : decode cX8_evaluate 147 = .ok (.sipush 220, 3) := by decide +kernel
theorem dX8_evaluate_150 : decode cX8_evaluate 150 = .ok (.if_icmp .ne 44, 3) := by decide +kernel
theorem dX8_evaluate_153 : decode cX8_evaluate 153 = .ok (.iload 4, 2) := by decide +kernel
theorem dX8_evaluate_155 : decode cX8_evaluate 155 = .ok (.ifCond .le 122, 3) := by decide +kernel
theorem dX8_evaluate_158 : decode cX8_evaluate 158 = .ok (.aload_n 0, 1) := by decide +kernel
theorem dX8_evaluate_159 : decode cX8_evaluate 159 = .ok (.getfield 33, 3) := by decide +kernel
theorem dX8_evaluate_162 : decode cX8_evaluate 162 = .ok (.iload 4, 2) := by decide +kernel
theorem dX8_evaluate_164 : decode cX8_evaluate 164 = .ok (.iconst 1, 1) := by decide +kernel
theorem dX8_evaluate_165 : decode cX8_evaluate 165 = .ok (.isub, 1) := by decide +kernel
theorem dX8_evaluate_166 : decode cX8_evaluate 166 = .ok (.iload 7, 2) := by decide +kernel
theorem dX8_evaluate_168 : decode cX8_evaluate 168 = .ok (.sipush 204, 3) := by decide +kernel
theorem dX8_evaluate_171 : decode cX8_evaluate 171 = .ok (.if_icmp .ne 7, 3) := by decide +kernel
theorem dX8_evaluate_174 : decode cX8_evaluate 174 = .ok (.iconst 1, 1) := by decide +kernel
theorem dX8_evaluate_175 : decode cX8_evaluate 175 = .ok (.goto 4, 3) := by decide +kernel
theorem dX8_evaluate_178 : decode cX8_evaluate 178 = .ok (.iconst 0, 1) := by decide +kernel
theorem dX8_evaluate_179 : decode cX8_evaluate 179 = .ok (.i2l, 1) := by decide +kernel
theorem dX8_evaluate_180 : decode cX8_evaluate 180 = .ok (.aload_n 0, 1) := by decide +kernel
theorem dX8_evaluate_181 : decode cX8_evaluate 181 = .ok (.getfield 33, 3) := by decide +kernel
theorem dX8_evaluate_184 : decode cX8_evaluate 184 = .ok (.iload 4, 2) := by decide +kernel
theorem dX8_evaluate_186 : decode cX8_evaluate 186 = .ok (.iconst 1, 1) := by decide +kernel
theorem dX8_evaluate_187 : decode cX8_evaluate 187 = .ok (.isub, 1) := by decide +kernel
theorem dX8_evaluate_188 : decode cX8_evaluate 188 = .ok (.laload, 1) := by decide +kernel
theorem dX8_evaluate_189 : decode cX8_evaluate 189 = .ok (.lsub, 1) := by decide +kernel
theorem dX8_evaluate_190 : decode cX8_evaluate 190 = .ok (.lastore, 1) := by decide +kernel
theorem dX8_evaluate_191 : decode cX8_evaluate 191 = .ok (.goto 86, 3) := by decide +kernel
theorem dX8_evaluate_194 : decode cX8_evaluate 194 = .ok (.iload 7, 2) := by decide +kernel
theorem dX8_evaluate_196 : decode cX8_evaluate 196 = .ok (.sipush 200, 3) := by decide +kernel
theorem dX8_evaluate_199 : decode cX8_evaluate 199 = .ok (.if_icmp .lt 39, 3) := by decide +kernel
theorem dX8_evaluate_202 : decode cX8_evaluate 202 = .ok (.iload 4, 2) := by decide +kernel
theorem dX8_evaluate_204 : decode cX8_evaluate 204 = .ok (.aload_n 0, 1) := by decide +kernel
theorem dX8_evaluate_205 : decode cX8_evaluate 205 = .ok (.getfield 33, 3) := by decide +kernel
theorem dX8_evaluate_208 : decode cX8_evaluate 208 = .ok (.arraylength, 1) := by decide +kernel
theorem dX8_evaluate_209 : decode cX8_evaluate 209 = .ok (.if_icmp .ge 68, 3) := by decide +kernel
theorem dX8_evaluate_212 : decode cX8_evaluate 212 = .ok (.aload_n 0, 1) := by decide +kernel
theorem dX8_evaluate_213 : decode cX8_evaluate 213 = .ok (.getfield 33, 3) := by decide +kernel
theorem dX8_evaluate_216 : decode cX8_evaluate 216 = .ok (.iload 4, 2) := by decide +kernel
theorem dX8_evaluate_218 : decode cX8_evaluate 218 = .ok (.iload 7, 2) := by decide +kernel
theorem dX8_evaluate_220 : decode cX8_evaluate 220 = .ok (.aload_n 0, 1) := by decide +kernel
theorem dX8_evaluate_221 : decode cX8_evaluate 221 = .ok (.getfield 15, 3) := by decide +kernel
theorem dX8_evaluate_224 : decode cX8_evaluate 224 = .ok (.iload 6, 2) := by decide +kernel
theorem dX8_evaluate_226 : decode cX8_evaluate 226 = .ok (.iaload, 1) := by decide +kernel
theorem dX8_evaluate_227 : decode cX8_evaluate 227 = .ok (.aload_n 3, 1) := by decide +kernel
theorem dX8_evaluate_228 : decode cX8_evaluate 228 = .ok (.invokestatic 100, 3) := by decide +kernel
theorem dX8_evaluate_231 : decode cX8_evaluate 231 = .ok (.lastore, 1) := by decide +kernel
theorem dX8_evaluate_232 : decode cX8_evaluate 232 = .ok (.iinc 4 1, 3) := by decide +kernel
theorem dX8_evaluate_235 : decode cX8_evaluate 235 = .ok (.goto 42, 3) := by decide +kernel
theorem dX8_evaluate_238 : decode cX8_evaluate 238 = .ok (.iload 4, 2) := by decide +kernel
theorem dX8_evaluate_240 : decode cX8_evaluate 240 = .ok (.iconst 1, 1) := by decide +kernel
theorem dX8_evaluate_241 : decode cX8_evaluate 241 = .ok (.if_icmp .le 36, 3) := by decide +kernel
theorem dX8_evaluate_244 : decode cX8_evaluate 244 = .ok (.iinc 4 (-1), 3) := by decide +kernel
theorem dX8_evaluate_247 : decode cX8_evaluate 247 = .ok (.aload_n 0, 1) := by decide +kernel
theorem dX8_evaluate_248 : decode cX8_evaluate 248 = .ok (.getfield 33, 3) := by decide +kernel
theorem dX8_evaluate_251 : decode cX8_evaluate 251 = .ok (.iload 4, 2) := by decide +kernel
theorem dX8_evaluate_253 : decode cX8_evaluate 253 = .ok (.iconst 1, 1) := by decide +kernel
theorem dX8_evaluate_254 : decode cX8_evaluate 254 = .ok (.isub, 1) := by decide +kernel
theorem dX8_evaluate_255 : decode cX8_evaluate 255 = .ok (.iload 7, 2) := by decide +kernel
theorem dX8_evaluate_257 : decode cX8_evaluate 257 = .ok (.aload_n 0, 1) := by decide +kernel
theorem dX8_evaluate_258 : decode cX8_evaluate 258 = .ok (.getfield 33, 3) := by decide +kernel
theorem dX8_evaluate_261 : decode cX8_evaluate 261 = .ok (.iload 4, 2) := by decide +kernel
theorem dX8_evaluate_263 : decode cX8_evaluate 263 = .ok (.iconst 1, 1) := by decide +kernel
theorem dX8_evaluate_264 : decode cX8_evaluate 264 = .ok (.isub, 1) := by decide +kernel
theorem dX8_evaluate_265 : decode cX8_evaluate 265 = .ok (.laload, 1) := by decide +kernel
theorem dX8_evaluate_266 : decode cX8_evaluate 266 = .ok (.aload_n 0, 1) := by decide +kernel
theorem dX8_evaluate_267 : decode cX8_evaluate 267 = .ok (.getfield 33, 3) := by decide +kernel
theorem dX8_evaluate_270 : decode cX8_evaluate 270 = .ok (.iload 4, 2) := by decide +kernel
theorem dX8_evaluate_272 : decode cX8_evaluate 272 = .ok (.laload, 1) := by decide +kernel
theorem dX8_evaluate_273 : decode cX8_evaluate 273 = .ok (.invokestatic 103, 3) := by decide +kernel
theorem dX8_evaluate_276 : decode cX8_evaluate 276 = .ok (.lastore, 1) := by decide +kernel
theorem dX8_evaluate_277 : decode cX8_evaluate 277 = .ok (.iinc 6 1, 3) := by decide +kernel
theorem dX8_evaluate_280 : decode cX8_evaluate 280 = .ok (.goto (-264), 3) := by decide +kernel
theorem dX8_evaluate_283 : decode cX8_evaluate 283 = .ok (.iload 4, 2) := by decide +kernel
theorem dX8_evaluate_285 : decode cX8_evaluate 285 = .ok (.ifCond .le 15, 3) := by decide +kernel
theorem dX8_evaluate_288 : decode cX8_evaluate 288 = .ok (.aload_n 0, 1) := by decide +kernel
theorem dX8_evaluate_289 : decode cX8_evaluate 289 = .ok (.getfield 33, 3) := by decide +kernel
theorem dX8_evaluate_292 : decode cX8_evaluate 292 = .ok (.iload 4, 2) := by decide +kernel
theorem dX8_evaluate_294 : decode cX8_evaluate 294 = .ok (.iconst 1, 1) := by decide +kernel
theorem dX8_evaluate_295 : decode cX8_evaluate 295 = .ok (.isub, 1) := by decide +kernel
theorem dX8_evaluate_296 : decode cX8_evaluate 296 = .ok (.laload, 1) := by decide +kernel
theorem dX8_evaluate_297 : decode cX8_evaluate 297 = .ok (.goto 4, 3) := by decide +kernel
theorem dX8_evaluate_300 : decode cX8_evaluate 300 = .ok (.lconst 0, 1) := by decide +kernel
theorem dX8_evaluate_301 : decode cX8_evaluate 301 = .ok (.lreturn, 1) := by decide +kernel
theorem dX8_valueOf_0 : decode cX8_valueOf 0 = .ok (.iload_n 0, 1) := by decide +kernel
theorem dX8_valueOf_1 : decode cX8_valueOf 1 = .ok (.tableswitch 153 200 211 #[63, 153, 153, 153, 153, 66, 73, 96, 119, 132, 138, 147], 63) := by decide +kernel
theorem dX8_valueOf_64 : decode cX8_valueOf 64 = .ok (.iload_n 1, 1) := by decide +kernel
theorem dX8_valueOf_65 : decode cX8_valueOf 65 = .ok (.i2l, 1) := by decide +kernel
theorem dX8_valueOf_66 : decode cX8_valueOf 66 = .ok (.lreturn, 1) := by decide +kernel
theorem dX8_valueOf_67 : decode cX8_valueOf 67 = .ok (.aload_n 2, 1) := by decide +kernel
theorem dX8_valueOf_68 : decode cX8_valueOf 68 = .ok (.iload_n 1, 1) := by decide +kernel
theorem dX8_valueOf_69 : decode cX8_valueOf 69 = .ok (.invokevirtual 107, 3) := by decide +kernel
theorem dX8_valueOf_72 : decode cX8_valueOf 72 = .ok (.i2l, 1) := by decide +kernel
theorem dX8_valueOf_73 : decode cX8_valueOf 73 = .ok (.lreturn, 1) := by decide +kernel
theorem dX8_valueOf_74 : decode cX8_valueOf 74 = .ok (.aload_n 2, 1) := by decide +kernel
theorem dX8_valueOf_75 : decode cX8_valueOf 75 = .ok (.iload_n 1, 1) := by decide +kernel
theorem dX8_valueOf_76 : decode cX8_valueOf 76 = .ok (.invokevirtual 75, 3) := by decide +kernel
theorem dX8_valueOf_79 : decode cX8_valueOf 79 = .ok (.ifCond .eq 16, 3) := by decide +kernel
theorem dX8_valueOf_82 : decode cX8_valueOf 82 = .ok (.aload_n 2, 1) := by decide +kernel
theorem dX8_valueOf_83 : decode cX8_valueOf 83 = .ok (.getfield 78, 3) := by decide +kernel
theorem dX8_valueOf_86 : decode cX8_valueOf 86 = .ok (.iload_n 1, 1) := by decide +kernel
theorem dX8_valueOf_87 : decode cX8_valueOf 87 = .ok (.aaload, 1) := by decide +kernel
theorem dX8_valueOf_88 : decode cX8_valueOf 88 = .ok (.getfield 111, 3) := by decide +kernel
theorem dX8_valueOf_91 : decode cX8_valueOf 91 = .ok (.i2l, 1) := by decide +kernel
theorem dX8_valueOf_92 : decode cX8_valueOf 92 = .ok (.goto 4, 3) := by decide +kernel
theorem dX8_valueOf_95 : decode cX8_valueOf 95 = .ok (.lconst 0, 1) := by decide +kernel
theorem dX8_valueOf_96 : decode cX8_valueOf 96 = .ok (.lreturn, 1) := by decide +kernel
theorem dX8_valueOf_97 : decode cX8_valueOf 97 = .ok (.aload_n 2, 1) := by decide +kernel
theorem dX8_valueOf_98 : decode cX8_valueOf 98 = .ok (.iload_n 1, 1) := by decide +kernel
theorem dX8_valueOf_99 : decode cX8_valueOf 99 = .ok (.invokevirtual 88, 3) := by decide +kernel
theorem dX8_valueOf_102 : decode cX8_valueOf 102 = .ok (.ifCond .eq 16, 3) := by decide +kernel
theorem dX8_valueOf_105 : decode cX8_valueOf 105 = .ok (.aload_n 2, 1) := by decide +kernel
theorem dX8_valueOf_106 : decode cX8_valueOf 106 = .ok (.getfield 91, 3) := by decide +kernel
theorem dX8_valueOf_109 : decode cX8_valueOf 109 = .ok (.iload_n 1, 1) := by decide +kernel
theorem dX8_valueOf_110 : decode cX8_valueOf 110 = .ok (.aaload, 1) := by decide +kernel
theorem dX8_valueOf_111 : decode cX8_valueOf 111 = .ok (.getfield 114, 3) := by decide +kernel
theorem dX8_valueOf_114 : decode cX8_valueOf 114 = .ok (.i2l, 1) := by decide +kernel
theorem dX8_valueOf_115 : decode cX8_valueOf 115 = .ok (.goto 4, 3) := by decide +kernel
theorem dX8_valueOf_118 : decode cX8_valueOf 118 = .ok (.lconst 0, 1) := by decide +kernel
theorem dX8_valueOf_119 : decode cX8_valueOf 119 = .ok (.lreturn, 1) := by decide +kernel
theorem dX8_valueOf_120 : decode cX8_valueOf 120 = .ok (.aload_n 2, 1) := by decide +kernel
theorem dX8_valueOf_121 : decode cX8_valueOf 121 = .ok (.invokevirtual 117, 3) := by decide +kernel
theorem dX8_valueOf_124 : decode cX8_valueOf 124 = .ok (.ifCond .eq 7, 3) := by decide +kernel
theorem dX8_valueOf_127 : decode cX8_valueOf 127 = .ok (.lconst 1, 1) := by decide +kernel
theorem dX8_valueOf_128 : decode cX8_valueOf 128 = .ok (.goto 4, 3) := by decide +kernel
theorem dX8_valueOf_131 : decode cX8_valueOf 131 = .ok (.lconst 0, 1) := by decide +kernel
theorem dX8_valueOf_132 : decode cX8_valueOf 132 = .ok (.lreturn, 1) := by decide +kernel
theorem dX8_valueOf_133 : decode cX8_valueOf 133 = .ok (.aload_n 2, 1) := by decide +kernel
theorem dX8_valueOf_134 : decode cX8_valueOf 134 = .ok (.invokevirtual 121, 3) := by decide +kernel
theorem dX8_valueOf_137 : decode cX8_valueOf 137 = .ok (.i2l, 1) := by decide +kernel
theorem dX8_valueOf_138 : decode cX8_valueOf 138 = .ok (.lreturn, 1) := by decide +kernel
theorem dX8_valueOf_139 : decode cX8_valueOf 139 = .ok (.aload_n 2, 1) := by decide +kernel
theorem dX8_valueOf_140 : decode cX8_valueOf 140 = .ok (.getfield 125, 3) := by decide +kernel
theorem dX8_valueOf_143 : decode cX8_valueOf 143 = .ok (.getfield 129, 3) := by decide +kernel
theorem dX8_valueOf_146 : decode cX8_valueOf 146 = .ok (.i2l, 1) := by decide +kernel
theorem dX8_valueOf_147 : decode cX8_valueOf 147 = .ok (.lreturn, 1) := by decide +kernel
theorem dX8_valueOf_148 : decode cX8_valueOf 148 = .ok (.aload_n 2, 1) := by decide +kernel
theorem dX8_valueOf_149 : decode cX8_valueOf 149 = .ok (.invokevirtual 134, 3) := by decide +kernel
theorem dX8_valueOf_152 : decode cX8_valueOf 152 = .ok (.i2l, 1) := by decide +kernel
theorem dX8_valueOf_153 : decode cX8_valueOf 153 = .ok (.lreturn, 1) := by decide +kernel
theorem dX8_valueOf_154 : decode cX8_valueOf 154 = .ok (.lconst 0, 1) := by decide +kernel
theorem dX8_valueOf_155 : decode cX8_valueOf 155 = .ok (.lreturn, 1) := by decide +kernel
theorem dX8_operate_0 : decode cX8_operate 0 = .ok (.iload_n 0, 1) := by decide +kernel
theorem dX8_operate_1 : decode cX8_operate 1 = .ok (.tableswitch 173 42 62 #[161, 135, 173, 148, 173, 167, 173, 173, 173, 173, 173, 173, 173, 173, 173, 173, 173, 173, 99, 123, 111], 99) := by decide +kernel
theorem dX8_operate_100 : decode cX8_operate 100 = .ok (.lload_n 1, 1) := by decide +kernel
theorem dX8_operate_101 : decode cX8_operate 101 = .ok (.lload_n 3, 1) := by decide +kernel
theorem dX8_operate_102 : decode cX8_operate 102 = .ok (.lcmp, 1) := by decide +kernel
theorem dX8_operate_103 : decode cX8_operate 103 = .ok (.ifCond .ge 7, 3) := by decide +kernel
theorem dX8_operate_106 : decode cX8_operate 106 = .ok (.lconst 1, 1) := by decide +kernel
theorem dX8_operate_107 : decode cX8_operate 107 = .ok (.goto 4, 3) := by decide +kernel
theorem dX8_operate_110 : decode cX8_operate 110 = .ok (.lconst 0, 1) := by decide +kernel
theorem dX8_operate_111 : decode cX8_operate 111 = .ok (.lreturn, 1) := by decide +kernel
theorem dX8_operate_112 : decode cX8_operate 112 = .ok (.lload_n 1, 1) := by decide +kernel
theorem dX8_operate_113 : decode cX8_operate 113 = .ok (.lload_n 3, 1) := by decide +kernel
theorem dX8_operate_114 : decode cX8_operate 114 = .ok (.lcmp, 1) := by decide +kernel
theorem dX8_operate_115 : decode cX8_operate 115 = .ok (.ifCond .le 7, 3) := by decide +kernel
theorem dX8_operate_118 : decode cX8_operate 118 = .ok (.lconst 1, 1) := by decide +kernel
theorem dX8_operate_119 : decode cX8_operate 119 = .ok (.goto 4, 3) := by decide +kernel
theorem dX8_operate_122 : decode cX8_operate 122 = .ok (.lconst 0, 1) := by decide +kernel
theorem dX8_operate_123 : decode cX8_operate 123 = .ok (.lreturn, 1) := by decide +kernel
theorem dX8_operate_124 : decode cX8_operate 124 = .ok (.lload_n 1, 1) := by decide +kernel
theorem dX8_operate_125 : decode cX8_operate 125 = .ok (.lload_n 3, 1) := by decide +kernel
theorem dX8_operate_126 : decode cX8_operate 126 = .ok (.lcmp, 1) := by decide +kernel
theorem dX8_operate_127 : decode cX8_operate 127 = .ok (.ifCond .ne 7, 3) := by decide +kernel
theorem dX8_operate_130 : decode cX8_operate 130 = .ok (.lconst 1, 1) := by decide +kernel
theorem dX8_operate_131 : decode cX8_operate 131 = .ok (.goto 4, 3) := by decide +kernel
theorem dX8_operate_134 : decode cX8_operate 134 = .ok (.lconst 0, 1) := by decide +kernel
theorem dX8_operate_135 : decode cX8_operate 135 = .ok (.lreturn, 1) := by decide +kernel
theorem dX8_operate_136 : decode cX8_operate 136 = .ok (.lload_n 1, 1) := by decide +kernel
theorem dX8_operate_137 : decode cX8_operate 137 = .ok (.lload_n 3, 1) := by decide +kernel
theorem dX8_operate_138 : decode cX8_operate 138 = .ok (.ladd, 1) := by decide +kernel
theorem dX8_operate_139 : decode cX8_operate 139 = .ok (.ldc2_w 137, 3) := by decide +kernel
theorem dX8_operate_142 : decode cX8_operate 142 = .ok (.ldc2_w 139, 3) := by decide +kernel
theorem dX8_operate_145 : decode cX8_operate 145 = .ok (.invokestatic 66, 3) := by decide +kernel
theorem dX8_operate_148 : decode cX8_operate 148 = .ok (.lreturn, 1) := by decide +kernel
theorem dX8_operate_149 : decode cX8_operate 149 = .ok (.lload_n 1, 1) := by decide +kernel
theorem dX8_operate_150 : decode cX8_operate 150 = .ok (.lload_n 3, 1) := by decide +kernel
theorem dX8_operate_151 : decode cX8_operate 151 = .ok (.lsub, 1) := by decide +kernel
theorem dX8_operate_152 : decode cX8_operate 152 = .ok (.ldc2_w 137, 3) := by decide +kernel
theorem dX8_operate_155 : decode cX8_operate 155 = .ok (.ldc2_w 139, 3) := by decide +kernel
theorem dX8_operate_158 : decode cX8_operate 158 = .ok (.invokestatic 66, 3) := by decide +kernel
theorem dX8_operate_161 : decode cX8_operate 161 = .ok (.lreturn, 1) := by decide +kernel
theorem dX8_operate_162 : decode cX8_operate 162 = .ok (.lload_n 1, 1) := by decide +kernel
theorem dX8_operate_163 : decode cX8_operate 163 = .ok (.lload_n 3, 1) := by decide +kernel
theorem dX8_operate_164 : decode cX8_operate 164 = .ok (.invokestatic 141, 3) := by decide +kernel
theorem dX8_operate_167 : decode cX8_operate 167 = .ok (.lreturn, 1) := by decide +kernel
theorem dX8_operate_168 : decode cX8_operate 168 = .ok (.lload_n 1, 1) := by decide +kernel
theorem dX8_operate_169 : decode cX8_operate 169 = .ok (.lload_n 3, 1) := by decide +kernel
theorem dX8_operate_170 : decode cX8_operate 170 = .ok (.invokestatic 145, 3) := by decide +kernel
theorem dX8_operate_173 : decode cX8_operate 173 = .ok (.lreturn, 1) := by decide +kernel
theorem dX8_operate_174 : decode cX8_operate 174 = .ok (.lconst 0, 1) := by decide +kernel
theorem dX8_operate_175 : decode cX8_operate 175 = .ok (.lreturn, 1) := by decide +kernel
theorem dX8_product_0 : decode cX8_product 0 = .ok (.lload_n 0, 1) := by decide +kernel
theorem dX8_product_1 : decode cX8_product 1 = .ok (.lconst 0, 1) := by decide +kernel
theorem dX8_product_2 : decode cX8_product 2 = .ok (.lcmp, 1) := by decide +kernel
theorem dX8_product_3 : decode cX8_product 3 = .ok (.ifCond .eq 19, 3) := by decide +kernel
theorem dX8_product_6 : decode cX8_product 6 = .ok (.lload_n 2, 1) := by decide +kernel
theorem dX8_product_7 : decode cX8_product 7 = .ok (.invokestatic 148, 3) := by decide +kernel
theorem dX8_product_10 : decode cX8_product 10 = .ok (.ldc2_w 139, 3) := by decide +kernel
theorem dX8_product_13 : decode cX8_product 13 = .ok (.lload_n 0, 1) := by decide +kernel
theorem dX8_product_14 : decode cX8_product 14 = .ok (.invokestatic 148, 3) := by decide +kernel
theorem dX8_product_17 : decode cX8_product 17 = .ok (.ldiv, 1) := by decide +kernel
theorem dX8_product_18 : decode cX8_product 18 = .ok (.lcmp, 1) := by decide +kernel
theorem dX8_product_19 : decode cX8_product 19 = .ok (.ifCond .gt 7, 3) := by decide +kernel
theorem dX8_product_22 : decode cX8_product 22 = .ok (.lload_n 0, 1) := by decide +kernel
theorem dX8_product_23 : decode cX8_product 23 = .ok (.lload_n 2, 1) := by decide +kernel
theorem dX8_product_24 : decode cX8_product 24 = .ok (.lmul, 1) := by decide +kernel
theorem dX8_product_25 : decode cX8_product 25 = .ok (.lreturn, 1) := by decide +kernel
theorem dX8_product_26 : decode cX8_product 26 = .ok (.lload_n 0, 1) := by decide +kernel
theorem dX8_product_27 : decode cX8_product 27 = .ok (.lconst 0, 1) := by decide +kernel
theorem dX8_product_28 : decode cX8_product 28 = .ok (.lcmp, 1) := by decide +kernel
theorem dX8_product_29 : decode cX8_product 29 = .ok (.ifCond .ge 7, 3) := by decide +kernel
theorem dX8_product_32 : decode cX8_product 32 = .ok (.iconst 1, 1) := by decide +kernel
theorem dX8_product_33 : decode cX8_product 33 = .ok (.goto 4, 3) := by decide +kernel
theorem dX8_product_36 : decode cX8_product 36 = .ok (.iconst 0, 1) := by decide +kernel
theorem dX8_product_37 : decode cX8_product 37 = .ok (.lload_n 2, 1) := by decide +kernel
theorem dX8_product_38 : decode cX8_product 38 = .ok (.lconst 0, 1) := by decide +kernel
theorem dX8_product_39 : decode cX8_product 39 = .ok (.lcmp, 1) := by decide +kernel
theorem dX8_product_40 : decode cX8_product 40 = .ok (.ifCond .ge 7, 3) := by decide +kernel
theorem dX8_product_43 : decode cX8_product 43 = .ok (.iconst 1, 1) := by decide +kernel
theorem dX8_product_44 : decode cX8_product 44 = .ok (.goto 4, 3) := by decide +kernel
theorem dX8_product_47 : decode cX8_product 47 = .ok (.iconst 0, 1) := by decide +kernel
theorem dX8_product_48 : decode cX8_product 48 = .ok (.if_icmp .ne 9, 3) := by decide +kernel
theorem dX8_product_51 : decode cX8_product 51 = .ok (.ldc2_w 139, 3) := by decide +kernel
theorem dX8_product_54 : decode cX8_product 54 = .ok (.goto 6, 3) := by decide +kernel
theorem dX8_product_57 : decode cX8_product 57 = .ok (.ldc2_w 137, 3) := by decide +kernel
theorem dX8_product_60 : decode cX8_product 60 = .ok (.lreturn, 1) := by decide +kernel
theorem dX9_init_0 : decode cX9_init 0 = .ok (.aload_n 0, 1) := by decide +kernel
theorem dX9_init_1 : decode cX9_init 1 = .ok (.invokespecial 1, 3) := by decide +kernel
theorem dX9_init_4 : decode cX9_init 4 = .ok (.return_, 1) := by decide +kernel
theorem dX9_begin_0 : decode cX9_begin 0 = .ok (.aload_n 0, 1) := by decide +kernel
theorem dX9_begin_1 : decode cX9_begin 1 = .ok (.iload_n 1, 1) := by decide +kernel
theorem dX9_begin_2 : decode cX9_begin 2 = .ok (.putfield 7, 3) := by decide +kernel
theorem dX9_begin_5 : decode cX9_begin 5 = .ok (.aload_n 0, 1) := by decide +kernel
theorem dX9_begin_6 : decode cX9_begin 6 = .ok (.iload_n 2, 1) := by decide +kernel
theorem dX9_begin_7 : decode cX9_begin 7 = .ok (.putfield 13, 3) := by decide +kernel
theorem dX9_begin_10 : decode cX9_begin 10 = .ok (.aload_n 0, 1) := by decide +kernel
theorem dX9_begin_11 : decode cX9_begin 11 = .ok (.iload_n 3, 1) := by decide +kernel
theorem dX9_begin_12 : decode cX9_begin 12 = .ok (.putfield 16, 3) := by decide +kernel
theorem dX9_begin_15 : decode cX9_begin 15 = .ok (.aload_n 0, 1) := by decide +kernel
theorem dX9_begin_16 : decode cX9_begin 16 = .ok (.iload 4, 2) := by decide +kernel
theorem dX9_begin_18 : decode cX9_begin 18 = .ok (.putfield 19, 3) := by decide +kernel
theorem dX9_begin_21 : decode cX9_begin 21 = .ok (.return_, 1) := by decide +kernel
theorem dX9_copyFrom_0 : decode cX9_copyFrom 0 = .ok (.aload_n 0, 1) := by decide +kernel
theorem dX9_copyFrom_1 : decode cX9_copyFrom 1 = .ok (.aload_n 1, 1) := by decide +kernel
theorem dX9_copyFrom_2 : decode cX9_copyFrom 2 = .ok (.getfield 7, 3) := by decide +kernel
theorem dX9_copyFrom_5 : decode cX9_copyFrom 5 = .ok (.aload_n 1, 1) := by decide +kernel
theorem dX9_copyFrom_6 : decode cX9_copyFrom 6 = .ok (.getfield 13, 3) := by decide +kernel
theorem dX9_copyFrom_9 : decode cX9_copyFrom 9 = .ok (.aload_n 1, 1) := by decide +kernel
theorem dX9_copyFrom_10 : decode cX9_copyFrom 10 = .ok (.getfield 16, 3) := by decide +kernel
theorem dX9_copyFrom_13 : decode cX9_copyFrom 13 = .ok (.aload_n 1, 1) := by decide +kernel
theorem dX9_copyFrom_14 : decode cX9_copyFrom 14 = .ok (.getfield 19, 3) := by decide +kernel
theorem dX9_copyFrom_17 : decode cX9_copyFrom 17 = .ok (.invokevirtual 22, 3) := by decide +kernel
theorem dX9_copyFrom_20 : decode cX9_copyFrom 20 = .ok (.return_, 1) := by decide +kernel
theorem dX10_init_0 : decode cX10_init 0 = .ok (.aload_n 0, 1) := by decide +kernel
theorem dX10_init_1 : decode cX10_init 1 = .ok (.invokespecial 1, 3) := by decide +kernel
theorem dX10_init_4 : decode cX10_init 4 = .ok (.aload_n 0, 1) := by decide +kernel
theorem dX10_init_5 : decode cX10_init 5 = .ok (.new 7, 3) := by decide +kernel
theorem dX10_init_8 : decode cX10_init 8 = .ok (.dup, 1) := by decide +kernel
theorem dX10_init_9 : decode cX10_init 9 = .ok (.invokespecial 9, 3) := by decide +kernel
theorem dX10_init_12 : decode cX10_init 12 = .ok (.putfield 10, 3) := by decide +kernel
theorem dX10_init_15 : decode cX10_init 15 = .ok (.aload_n 0, 1) := by decide +kernel
theorem dX10_init_16 : decode cX10_init 16 = .ok (.new 7, 3) := by decide +kernel
theorem dX10_init_19 : decode cX10_init 19 = .ok (.dup, 1) := by decide +kernel
theorem dX10_init_20 : decode cX10_init 20 = .ok (.invokespecial 9, 3) := by decide +kernel
theorem dX10_init_23 : decode cX10_init 23 = .ok (.putfield 16, 3) := by decide +kernel
theorem dX10_init_26 : decode cX10_init 26 = .ok (.aload_n 0, 1) := by decide +kernel
theorem dX10_init_27 : decode cX10_init 27 = .ok (.iconst 2, 1) := by decide +kernel
theorem dX10_init_28 : decode cX10_init 28 = .ok (.anewarray 7, 3) := by decide +kernel
theorem dX10_init_31 : decode cX10_init 31 = .ok (.putfield 19, 3) := by decide +kernel
theorem dX10_init_34 : decode cX10_init 34 = .ok (.iconst 0, 1) := by decide +kernel
theorem dX10_init_35 : decode cX10_init 35 = .ok (.istore_n 1, 1) := by decide +kernel
theorem dX10_init_36 : decode cX10_init 36 = .ok (.iload_n 1, 1) := by decide +kernel
theorem dX10_init_37 : decode cX10_init 37 = .ok (.iconst 2, 1) := by decide +kernel
theorem dX10_init_38 : decode cX10_init 38 = .ok (.if_icmp .ge 22, 3) := by decide +kernel
theorem dX10_init_41 : decode cX10_init 41 = .ok (.aload_n 0, 1) := by decide +kernel
theorem dX10_init_42 : decode cX10_init 42 = .ok (.getfield 19, 3) := by decide +kernel
theorem dX10_init_45 : decode cX10_init 45 = .ok (.iload_n 1, 1) := by decide +kernel
theorem dX10_init_46 : decode cX10_init 46 = .ok (.new 7, 3) := by decide +kernel
theorem dX10_init_49 : decode cX10_init 49 = .ok (.dup, 1) := by decide +kernel
theorem dX10_init_50 : decode cX10_init 50 = .ok (.invokespecial 9, 3) := by decide +kernel
theorem dX10_init_53 : decode cX10_init 53 = .ok (.aastore, 1) := by decide +kernel
theorem dX10_init_54 : decode cX10_init 54 = .ok (.iinc 1 1, 3) := by decide +kernel
theorem dX10_init_57 : decode cX10_init 57 = .ok (.goto (-21), 3) := by decide +kernel
theorem dX10_init_60 : decode cX10_init 60 = .ok (.aload_n 0, 1) := by decide +kernel
theorem dX10_init_61 : decode cX10_init 61 = .ok (.iconst 2, 1) := by decide +kernel
theorem dX10_init_62 : decode cX10_init 62 = .ok (.newarray .boolean, 2) := by decide +kernel
theorem dX10_init_64 : decode cX10_init 64 = .ok (.putfield 23, 3) := by decide +kernel
theorem dX10_init_67 : decode cX10_init 67 = .ok (.aload_n 0, 1) := by decide +kernel
theorem dX10_init_68 : decode cX10_init 68 = .ok (.new 27, 3) := by decide +kernel
theorem dX10_init_71 : decode cX10_init 71 = .ok (.dup, 1) := by decide +kernel
theorem dX10_init_72 : decode cX10_init 72 = .ok (.invokespecial 29, 3) := by decide +kernel
theorem dX10_init_75 : decode cX10_init 75 = .ok (.putfield 30, 3) := by decide +kernel
theorem dX10_init_78 : decode cX10_init 78 = .ok (.return_, 1) := by decide +kernel
theorem dX10_addNode_0 : decode cX10_addNode 0 = .ok (.iload_n 1, 1) := by decide +kernel
theorem dX10_addNode_1 : decode cX10_addNode 1 = .ok (.iconst 1, 1) := by decide +kernel
theorem dX10_addNode_2 : decode cX10_addNode 2 = .ok (.ldc 34, 2) := by decide +kernel
theorem dX10_addNode_4 : decode cX10_addNode 4 = .ok (.invokestatic 35, 3) := by decide +kernel
theorem dX10_addNode_7 : decode cX10_addNode 7 = .ok (.ifCond .eq 48, 3) := by decide +kernel
theorem dX10_addNode_10 : decode cX10_addNode 10 = .ok (.iload_n 2, 1) := by decide +kernel
theorem dX10_addNode_11 : decode cX10_addNode 11 = .ok (.ldc 39, 2) := by decide +kernel
theorem dX10_addNode_13 : decode cX10_addNode 13 = .ok (.ldc 40, 2) := by decide +kernel
theorem dX10_addNode_15 : decode cX10_addNode 15 = .ok (.invokestatic 35, 3) := by decide +kernel
theorem dX10_addNode_18 : decode cX10_addNode 18 = .ok (.ifCond .eq 37, 3) := by decide +kernel
theorem dX10_addNode_21 : decode cX10_addNode 21 = .ok (.iload_n 3, 1) := by decide +kernel
theorem dX10_addNode_22 : decode cX10_addNode 22 = .ok (.iconst 0, 1) := by decide +kernel
theorem dX10_addNode_23 : decode cX10_addNode 23 = .ok (.sipush 10000, 3) := by decide +kernel
theorem dX10_addNode_26 : decode cX10_addNode 26 = .ok (.invokestatic 35, 3) := by decide +kernel
theorem dX10_addNode_29 : decode cX10_addNode 29 = .ok (.ifCond .eq 26, 3) := by decide +kernel
theorem dX10_addNode_32 : decode cX10_addNode 32 = .ok (.iload 4, 2) := by decide +kernel
theorem dX10_addNode_34 : decode cX10_addNode 34 = .ok (.iconst 0, 1) := by decide +kernel
theorem dX10_addNode_35 : decode cX10_addNode 35 = .ok (.sipush 10000, 3) := by decide +kernel
theorem dX10_addNode_38 : decode cX10_addNode 38 = .ok (.invokestatic 35, 3) := by decide +kernel
theorem dX10_addNode_41 : decode cX10_addNode 41 = .ok (.ifCond .eq 14, 3) := by decide +kernel
theorem dX10_addNode_44 : decode cX10_addNode 44 = .ok (.iload 5, 2) := by decide +kernel
theorem dX10_addNode_46 : decode cX10_addNode 46 = .ok (.iconst 0, 1) := by decide +kernel
theorem dX10_addNode_47 : decode cX10_addNode 47 = .ok (.ldc 41, 2) := by decide +kernel
theorem dX10_addNode_49 : decode cX10_addNode 49 = .ok (.invokestatic 35, 3) := by decide +kernel
theorem dX10_addNode_52 : decode cX10_addNode 52 = .ok (.ifCond .ne 6, 3) := by decide +kernel
theorem dX10_addNode_55 : decode cX10_addNode 55 = .ok (.ldc 42, 2) := by decide +kernel
theorem dX10_addNode_57 : decode cX10_addNode 57 = .ok (.ireturn, 1) := by decide +kernel
theorem dX10_addNode_58 : decode cX10_addNode 58 = .ok (.aload_n 0, 1) := by decide +kernel
theorem dX10_addNode_59 : decode cX10_addNode 59 = .ok (.getfield 10, 3) := by decide +kernel
theorem dX10_addNode_62 : decode cX10_addNode 62 = .ok (.getfield 43, 3) := by decide +kernel
theorem dX10_addNode_65 : decode cX10_addNode 65 = .ok (.istore 6, 2) := by decide +kernel
theorem dX10_addNode_67 : decode cX10_addNode 67 = .ok (.iload 6, 2) := by decide +kernel
theorem dX10_addNode_69 : decode cX10_addNode 69 = .ok (.bipush 12, 2) := by decide +kernel
theorem dX10_addNode_71 : decode cX10_addNode 71 = .ok (.if_icmp .lt 6, 3) := by decide +kernel
theorem dX10_addNode_74 : decode cX10_addNode 74 = .ok (.ldc 47, 2) := by decide +kernel
theorem dX10_addNode_76 : decode cX10_addNode 76 = .ok (.ireturn, 1) := by decide +kernel
theorem dX10_addNode_77 : decode cX10_addNode 77 = .ok (.aload_n 0, 1) := by decide +kernel
theorem dX10_addNode_78 : decode cX10_addNode 78 = .ok (.getfield 10, 3) := by decide +kernel
theorem dX10_addNode_81 : decode cX10_addNode 81 = .ok (.getfield 48, 3) := by decide +kernel
theorem dX10_addNode_84 : decode cX10_addNode 84 = .ok (.iload 6, 2) := by decide +kernel
theorem dX10_addNode_86 : decode cX10_addNode 86 = .ok (.aaload, 1) := by decide +kernel
theorem dX10_addNode_87 : decode cX10_addNode 87 = .ok (.iload_n 1, 1) := by decide +kernel
theorem dX10_addNode_88 : decode cX10_addNode 88 = .ok (.iload_n 2, 1) := by decide +kernel
theorem dX10_addNode_89 : decode cX10_addNode 89 = .ok (.iload_n 3, 1) := by decide +kernel
theorem dX10_addNode_90 : decode cX10_addNode 90 = .ok (.iload 4, 2) := by decide +kernel
theorem dX10_addNode_92 : decode cX10_addNode 92 = .ok (.iload 5, 2) := by decide +kernel
theorem dX10_addNode_94 : decode cX10_addNode 94 = .ok (.invokevirtual 52, 3) := by decide +kernel
theorem dX10_addNode_97 : decode cX10_addNode 97 = .ok (.aload_n 0, 1) := by decide +kernel
theorem dX10_addNode_98 : decode cX10_addNode 98 = .ok (.getfield 10, 3) := by decide +kernel
theorem dX10_addNode_101 : decode cX10_addNode 101 = .ok (.iload 6, 2) := by decide +kernel
theorem dX10_addNode_103 : decode cX10_addNode 103 = .ok (.iconst 1, 1) := by decide +kernel
theorem dX10_addNode_104 : decode cX10_addNode 104 = .ok (.iadd, 1) := by decide +kernel
theorem dX10_addNode_105 : decode cX10_addNode 105 = .ok (.putfield 43, 3) := by decide +kernel
theorem dX10_addNode_108 : decode cX10_addNode 108 = .ok (.iload 6, 2) := by decide +kernel
theorem dX10_addNode_110 : decode cX10_addNode 110 = .ok (.ireturn, 1) := by decide +kernel
theorem dX10_nodeCount_0 : decode cX10_nodeCount 0 = .ok (.aload_n 0, 1) := by decide +kernel
theorem dX10_nodeCount_1 : decode cX10_nodeCount 1 = .ok (.getfield 10, 3) := by decide +kernel
theorem dX10_nodeCount_4 : decode cX10_nodeCount 4 = .ok (.getfield 43, 3) := by decide +kernel
theorem dX10_nodeCount_7 : decode cX10_nodeCount 7 = .ok (.ireturn, 1) := by decide +kernel
theorem dX10_setLimits_0 : decode cX10_setLimits 0 = .ok (.aload_n 0, 1) := by decide +kernel
theorem dX10_setLimits_1 : decode cX10_setLimits 1 = .ok (.getfield 10, 3) := by decide +kernel
theorem dX10_setLimits_4 : decode cX10_setLimits 4 = .ok (.iload_n 1, 1) := by decide +kernel
theorem dX10_setLimits_5 : decode cX10_setLimits 5 = .ok (.invokevirtual 58, 3) := by decide +kernel
theorem dX10_setLimits_8 : decode cX10_setLimits 8 = .ok (.ifCond .ne 6, 3) := by decide +kernel
theorem dX10_setLimits_11 : decode cX10_setLimits 11 = .ok (.ldc 62, 2) := by decide +kernel
theorem dX10_setLimits_13 : decode cX10_setLimits 13 = .ok (.ireturn, 1) := by decide +kernel
theorem dX10_setLimits_14 : decode cX10_setLimits 14 = .ok (.iload_n 3, 1) := by decide +kernel
theorem dX10_setLimits_15 : decode cX10_setLimits 15 = .ok (.ldc 39, 2) := by decide +kernel
theorem dX10_setLimits_17 : decode cX10_setLimits 17 = .ok (.ldc 40, 2) := by decide +kernel
theorem dX10_setLimits_19 : decode cX10_setLimits 19 = .ok (.invokestatic 35, 3) := by decide +kernel
theorem dX10_setLimits_22 : decode cX10_setLimits 22 = .ok (.ifCond .eq 13, 3) := by decide +kernel
theorem dX10_setLimits_25 : decode cX10_setLimits 25 = .ok (.iload_n 2, 1) := by decide +kernel
theorem dX10_setLimits_26 : decode cX10_setLimits 26 = .ok (.ldc 39, 2) := by decide +kernel
theorem dX10_setLimits_28 : decode cX10_setLimits 28 = .ok (.iload_n 3, 1) := by decide +kernel
theorem dX10_setLimits_29 : decode cX10_setLimits 29 = .ok (.invokestatic 35, 3) := by decide +kernel
theorem dX10_setLimits_32 : decode cX10_setLimits 32 = .ok (.ifCond .ne 6, 3) := by decide +kernel
theorem dX10_setLimits_35 : decode cX10_setLimits 35 = .ok (.ldc 42, 2) := by decide +kernel
theorem dX10_setLimits_37 : decode cX10_setLimits 37 = .ok (.ireturn, 1) := by decide +kernel
theorem dX10_setLimits_38 : decode cX10_setLimits 38 = .ok (.aload_n 0, 1) := by decide +kernel
theorem dX10_setLimits_39 : decode cX10_setLimits 39 = .ok (.getfield 10, 3) := by decide +kernel
theorem dX10_setLimits_42 : decode cX10_setLimits 42 = .ok (.getfield 48, 3) := by decide +kernel
theorem dX10_setLimits_45 : decode cX10_setLimits 45 = .ok (.iload_n 1, 1) := by decide +kernel
theorem dX10_setLimits_46 : decode cX10_setLimits 46 = .ok (.aaload, 1) := by decide +kernel
theorem dX10_setLimits_47 : decode cX10_setLimits 47 = .ok (.iload_n 2, 1) := by decide +kernel
theorem dX10_setLimits_48 : decode cX10_setLimits 48 = .ok (.putfield 63, 3) := by decide +kernel
theorem dX10_setLimits_51 : decode cX10_setLimits 51 = .ok (.aload_n 0, 1) := by decide +kernel
theorem dX10_setLimits_52 : decode cX10_setLimits 52 = .ok (.getfield 10, 3) := by decide +kernel
theorem dX10_setLimits_55 : decode cX10_setLimits 55 = .ok (.getfield 48, 3) := by decide +kernel
theorem dX10_setLimits_58 : decode cX10_setLimits 58 = .ok (.iload_n 1, 1) := by decide +kernel
theorem dX10_setLimits_59 : decode cX10_setLimits 59 = .ok (.aaload, 1) := by decide +kernel
theorem dX10_setLimits_60 : decode cX10_setLimits 60 = .ok (.iload_n 3, 1) := by decide +kernel
theorem dX10_setLimits_61 : decode cX10_setLimits 61 = .ok (.putfield 66, 3) := by decide +kernel
theorem dX10_setLimits_64 : decode cX10_setLimits 64 = .ok (.iconst 0, 1) := by decide +kernel
theorem dX10_setLimits_65 : decode cX10_setLimits 65 = .ok (.ireturn, 1) := by decide +kernel
theorem dX10_link_0 : decode cX10_link 0 = .ok (.aload_n 0, 1) := by decide +kernel
theorem dX10_link_1 : decode cX10_link 1 = .ok (.getfield 10, 3) := by decide +kernel
theorem dX10_link_4 : decode cX10_link 4 = .ok (.iload_n 1, 1) := by decide +kernel
theorem dX10_link_5 : decode cX10_link 5 = .ok (.invokevirtual 58, 3) := by decide +kernel
theorem dX10_link_8 : decode cX10_link 8 = .ok (.ifCond .eq 14, 3) := by decide +kernel
theorem dX10_link_11 : decode cX10_link 11 = .ok (.aload_n 0, 1) := by decide +kernel
theorem dX10_link_12 : decode cX10_link 12 = .ok (.getfield 10, 3) := by decide +kernel
theorem dX10_link_15 : decode cX10_link 15 = .ok (.iload_n 2, 1) := by decide +kernel
theorem dX10_link_16 : decode cX10_link 16 = .ok (.invokevirtual 58, 3) := by decide +kernel
theorem dX10_link_19 : decode cX10_link 19 = .ok (.ifCond .ne 6, 3) := by decide +kernel
theorem dX10_link_22 : decode cX10_link 22 = .ok (.ldc 62, 2) := by decide +kernel
theorem dX10_link_24 : decode cX10_link 24 = .ok (.ireturn, 1) := by decide +kernel
theorem dX10_link_25 : decode cX10_link 25 = .ok (.iload_n 1, 1) := by decide +kernel
theorem dX10_link_26 : decode cX10_link 26 = .ok (.iload_n 2, 1) := by decide +kernel
theorem dX10_link_27 : decode cX10_link 27 = .ok (.if_icmp .eq 13, 3) := by decide +kernel
theorem dX10_link_30 : decode cX10_link 30 = .ok (.iload_n 3, 1) := by decide +kernel
theorem dX10_link_31 : decode cX10_link 31 = .ok (.iconst 0, 1) := by decide +kernel
theorem dX10_link_32 : decode cX10_link 32 = .ok (.ldc 34, 2) := by decide +kernel
theorem dX10_link_34 : decode cX10_link 34 = .ok (.invokestatic 35, 3) := by decide +kernel
theorem dX10_link_37 : decode cX10_link 37 = .ok (.ifCond .ne 6, 3) := by decide +kernel
theorem dX10_link_40 : decode cX10_link 40 = .ok (.ldc 42, 2) := by decide +kernel
theorem dX10_link_42 : decode cX10_link 42 = .ok (.ireturn, 1) := by decide +kernel
theorem dX10_link_43 : decode cX10_link 43 = .ok (.aload_n 0, 1) := by decide +kernel
theorem dX10_link_44 : decode cX10_link 44 = .ok (.getfield 10, 3) := by decide +kernel
theorem dX10_link_47 : decode cX10_link 47 = .ok (.iload_n 1, 1) := by decide +kernel
theorem dX10_link_48 : decode cX10_link 48 = .ok (.iload_n 2, 1) := by decide +kernel
theorem dX10_link_49 : decode cX10_link 49 = .ok (.invokevirtual 75, 3) := by decide +kernel
theorem dX10_link_52 : decode cX10_link 52 = .ok (.istore 4, 2) := by decide +kernel
theorem dX10_link_54 : decode cX10_link 54 = .ok (.iload 4, 2) := by decide +kernel
theorem dX10_link_56 : decode cX10_link 56 = .ok (.iconst (-1), 1) := by decide +kernel
theorem dX10_link_57 : decode cX10_link 57 = .ok (.if_icmp .ne 14, 3) := by decide +kernel
theorem dX10_link_60 : decode cX10_link 60 = .ok (.aload_n 0, 1) := by decide +kernel
theorem dX10_link_61 : decode cX10_link 61 = .ok (.getfield 10, 3) := by decide +kernel
theorem dX10_link_64 : decode cX10_link 64 = .ok (.iload_n 1, 1) := by decide +kernel
theorem dX10_link_65 : decode cX10_link 65 = .ok (.iload_n 2, 1) := by decide +kernel
theorem dX10_link_66 : decode cX10_link 66 = .ok (.iload_n 3, 1) := by decide +kernel
theorem dX10_link_67 : decode cX10_link 67 = .ok (.invokevirtual 79, 3) := by decide +kernel
theorem dX10_link_70 : decode cX10_link 70 = .ok (.ireturn, 1) := by decide +kernel
theorem dX10_link_71 : decode cX10_link 71 = .ok (.aload_n 0, 1) := by decide +kernel
theorem dX10_link_72 : decode cX10_link 72 = .ok (.getfield 10, 3) := by decide +kernel
theorem dX10_link_75 : decode cX10_link 75 = .ok (.getfield 83, 3) := by decide +kernel
theorem dX10_link_78 : decode cX10_link 78 = .ok (.iload 4, 2) := by decide +kernel
theorem dX10_link_80 : decode cX10_link 80 = .ok (.aaload, 1) := by decide +kernel
theorem dX10_link_81 : decode cX10_link 81 = .ok (.getfield 87, 3) := by decide +kernel
theorem dX10_link_84 : decode cX10_link 84 = .ok (.istore 5, 2) := by decide +kernel
theorem dX10_link_86 : decode cX10_link 86 = .ok (.iload_n 3, 1) := by decide +kernel
theorem dX10_link_87 : decode cX10_link 87 = .ok (.ifCond .ne 15, 3) := by decide +kernel
theorem dX10_link_90 : decode cX10_link 90 = .ok (.aload_n 0, 1) := by decide +kernel
theorem dX10_link_91 : decode cX10_link 91 = .ok (.getfield 10, 3) := by decide +kernel
theorem dX10_link_94 : decode cX10_link 94 = .ok (.iload 4, 2) := by decide +kernel
theorem dX10_link_96 : decode cX10_link 96 = .ok (.invokevirtual 92, 3) := by decide +kernel
theorem dX10_link_99 : decode cX10_link 99 = .ok (.goto 17, 3) := by decide +kernel
theorem dX10_link_102 : decode cX10_link 102 = .ok (.aload_n 0, 1) := by decide +kernel
theorem dX10_link_103 : decode cX10_link 103 = .ok (.getfield 10, 3) := by decide +kernel
theorem dX10_link_106 : decode cX10_link 106 = .ok (.getfield 83, 3) := by decide +kernel
theorem dX10_link_109 : decode cX10_link 109 = .ok (.iload 4, 2) := by decide +kernel
theorem dX10_link_111 : decode cX10_link 111 = .ok (.aaload, 1) := by decide +kernel
theorem dX10_link_112 : decode cX10_link 112 = .ok (.iload_n 3, 1) := by decide +kernel
theorem dX10_link_113 : decode cX10_link 113 = .ok (.putfield 87, 3) := by decide +kernel
theorem dX10_link_116 : decode cX10_link 116 = .ok (.iload 5, 2) := by decide +kernel
theorem dX10_link_118 : decode cX10_link 118 = .ok (.ireturn, 1) := by decide +kernel
theorem dX10_conductance_0 : decode cX10_conductance 0 = .ok (.aload_n 0, 1) := by decide +kernel
theorem dX10_conductance_1 : decode cX10_conductance 1 = .ok (.getfield 10, 3) := by decide +kernel
theorem dX10_conductance_4 : decode cX10_conductance 4 = .ok (.iload_n 1, 1) := by decide +kernel
theorem dX10_conductance_5 : decode cX10_conductance 5 = .ok (.invokevirtual 58, 3) := by decide +kernel
theorem dX10_conductance_8 : decode cX10_conductance 8 = .ok (.ifCond .eq 14, 3) := by decide +kernel
theorem dX10_conductance_11 : decode cX10_conductance 11 = .ok (.aload_n 0, 1) := by decide +kernel
theorem dX10_conductance_12 : decode cX10_conductance 12 = .ok (.getfield 10, 3) := by decide +kernel
theorem dX10_conductance_15 : decode cX10_conductance 15 = .ok (.iload_n 2, 1) := by decide +kernel
theorem dX10_conductance_16 : decode cX10_conductance 16 = .ok (.invokevirtual 58, 3) := by decide +kernel
theorem dX10_conductance_19 : decode cX10_conductance 19 = .ok (.ifCond .ne 6, 3) := by decide +kernel
theorem dX10_conductance_22 : decode cX10_conductance 22 = .ok (.ldc 62, 2) := by decide +kernel
theorem dX10_conductance_24 : decode cX10_conductance 24 = .ok (.ireturn, 1) := by decide +kernel
theorem dX10_conductance_25 : decode cX10_conductance 25 = .ok (.aload_n 0, 1) := by decide +kernel
theorem dX10_conductance_26 : decode cX10_conductance 26 = .ok (.getfield 10, 3) := by decide +kernel
theorem dX10_conductance_29 : decode cX10_conductance 29 = .ok (.iload_n 1, 1) := by decide +kernel
theorem dX10_conductance_30 : decode cX10_conductance 30 = .ok (.iload_n 2, 1) := by decide +kernel
theorem dX10_conductance_31 : decode cX10_conductance 31 = .ok (.invokevirtual 75, 3) := by decide +kernel
theorem dX10_conductance_34 : decode cX10_conductance 34 = .ok (.istore_n 3, 1) := by decide +kernel
theorem dX10_conductance_35 : decode cX10_conductance 35 = .ok (.iload_n 3, 1) := by decide +kernel
theorem dX10_conductance_36 : decode cX10_conductance 36 = .ok (.iconst (-1), 1) := by decide +kernel
theorem dX10_conductance_37 : decode cX10_conductance 37 = .ok (.if_icmp .ne 7, 3) := by decide +kernel
theorem dX10_conductance_40 : decode cX10_conductance 40 = .ok (.iconst 0, 1) := by decide +kernel
theorem dX10_conductance_41 : decode cX10_conductance 41 = .ok (.goto 15, 3) := by decide +kernel
theorem dX10_conductance_44 : decode cX10_conductance 44 = .ok (.aload_n 0, 1) := by decide +kernel
theorem dX10_conductance_45 : decode cX10_conductance 45 = .ok (.getfield 10, 3) := by decide +kernel
theorem dX10_conductance_48 : decode cX10_conductance 48 = .ok (.getfield 83, 3) := by decide +kernel
theorem dX10_conductance_51 : decode cX10_conductance 51 = .ok (.iload_n 3, 1) := by decide +kernel
theorem dX10_conductance_52 : decode cX10_conductance 52 = .ok (.aaload, 1) := by decide +kernel
theorem dX10_conductance_53 : decode cX10_conductance 53 = .ok (.getfield 87, 3) := by decide +kernel
theorem dX10_conductance_56 : decode cX10_conductance 56 = .ok (.ireturn, 1) := by decide +kernel
theorem dX10_linkCount_0 : decode cX10_linkCount 0 = .ok (.aload_n 0, 1) := by decide +kernel
theorem dX10_linkCount_1 : decode cX10_linkCount 1 = .ok (.getfield 10, 3) := by decide +kernel
theorem dX10_linkCount_4 : decode cX10_linkCount 4 = .ok (.getfield 96, 3) := by decide +kernel
theorem dX10_linkCount_7 : decode cX10_linkCount 7 = .ok (.ireturn, 1) := by decide +kernel
theorem dX10_addLouvre_0 : decode cX10_addLouvre 0 = .ok (.aload_n 0, 1) := by decide +kernel
theorem dX10_addLouvre_1 : decode cX10_addLouvre 1 = .ok (.getfield 10, 3) := by decide +kernel
theorem dX10_addLouvre_4 : decode cX10_addLouvre 4 = .ok (.iload_n 1, 1) := by decide +kernel
theorem dX10_addLouvre_5 : decode cX10_addLouvre 5 = .ok (.invokevirtual 58, 3) := by decide +kernel
theorem dX10_addLouvre_8 : decode cX10_addLouvre 8 = .ok (.ifCond .ne 6, 3) := by decide +kernel
theorem dX10_addLouvre_11 : decode cX10_addLouvre 11 = .ok (.ldc 62, 2) := by decide +kernel
theorem dX10_addLouvre_13 : decode cX10_addLouvre 13 = .ok (.ireturn, 1) := by decide +kernel
theorem dX10_addLouvre_14 : decode cX10_addLouvre 14 = .ok (.iload_n 2, 1) := by decide +kernel
theorem dX10_addLouvre_15 : decode cX10_addLouvre 15 = .ok (.iconst 0, 1) := by decide +kernel
theorem dX10_addLouvre_16 : decode cX10_addLouvre 16 = .ok (.sipush 10000, 3) := by decide +kernel
theorem dX10_addLouvre_19 : decode cX10_addLouvre 19 = .ok (.invokestatic 35, 3) := by decide +kernel
theorem dX10_addLouvre_22 : decode cX10_addLouvre 22 = .ok (.ifCond .eq 39, 3) := by decide +kernel
theorem dX10_addLouvre_25 : decode cX10_addLouvre 25 = .ok (.iload_n 3, 1) := by decide +kernel
theorem dX10_addLouvre_26 : decode cX10_addLouvre 26 = .ok (.ldc 39, 2) := by decide +kernel
theorem dX10_addLouvre_28 : decode cX10_addLouvre 28 = .ok (.ldc 99, 2) := by decide +kernel
theorem dX10_addLouvre_30 : decode cX10_addLouvre 30 = .ok (.invokestatic 35, 3) := by decide +kernel
theorem dX10_addLouvre_33 : decode cX10_addLouvre 33 = .ok (.ifCond .eq 28, 3) := by decide +kernel
theorem dX10_addLouvre_36 : decode cX10_addLouvre 36 = .ok (.iload 4, 2) := by decide +kernel
theorem dX10_addLouvre_38 : decode cX10_addLouvre 38 = .ok (.iload_n 3, 1) := by decide +kernel
theorem dX10_addLouvre_39 : decode cX10_addLouvre 39 = .ok (.iconst 1, 1) := by decide +kernel
theorem dX10_addLouvre_40 : decode cX10_addLouvre 40 = .ok (.iadd, 1) := by decide +kernel
theorem dX10_addLouvre_41 : decode cX10_addLouvre 41 = .ok (.ldc 40, 2) := by decide +kernel
theorem dX10_addLouvre_43 : decode cX10_addLouvre 43 = .ok (.invokestatic 35, 3) := by decide +kernel
theorem dX10_addLouvre_46 : decode cX10_addLouvre 46 = .ok (.ifCond .eq 15, 3) := by decide +kernel
theorem dX10_addLouvre_49 : decode cX10_addLouvre 49 = .ok (.iload 5, 2) := by decide +kernel
theorem dX10_addLouvre_51 : decode cX10_addLouvre 51 = .ok (.iconst 1, 1) := by decide +kernel
theorem dX10_addLouvre_52 : decode cX10_addLouvre 52 = .ok (.sipush 1000, 3) := by decide +kernel
theorem dX10_addLouvre_55 : decode cX10_addLouvre 55 = .ok (.invokestatic 35, 3) := by decide +kernel
theorem dX10_addLouvre_58 : decode cX10_addLouvre 58 = .ok (.ifCond .ne 6, 3) := by decide +kernel
theorem dX10_addLouvre_61 : decode cX10_addLouvre 61 = .ok (.ldc 42, 2) := by decide +kernel
theorem dX10_addLouvre_63 : decode cX10_addLouvre 63 = .ok (.ireturn, 1) := by decide +kernel
theorem dX10_addLouvre_64 : decode cX10_addLouvre 64 = .ok (.aload_n 0, 1) := by decide +kernel
theorem dX10_addLouvre_65 : decode cX10_addLouvre 65 = .ok (.getfield 10, 3) := by decide +kernel
theorem dX10_addLouvre_68 : decode cX10_addLouvre 68 = .ok (.getfield 100, 3) := by decide +kernel
theorem dX10_addLouvre_71 : decode cX10_addLouvre 71 = .ok (.istore 6, 2) := by decide +kernel
theorem dX10_addLouvre_73 : decode cX10_addLouvre 73 = .ok (.iload 6, 2) := by decide +kernel
theorem dX10_addLouvre_75 : decode cX10_addLouvre 75 = .ok (.bipush 6, 2) := by decide +kernel
theorem dX10_addLouvre_77 : decode cX10_addLouvre 77 = .ok (.if_icmp .lt 6, 3) := by decide +kernel
theorem dX10_addLouvre_80 : decode cX10_addLouvre 80 = .ok (.ldc 47, 2) := by decide +kernel
theorem dX10_addLouvre_82 : decode cX10_addLouvre 82 = .ok (.ireturn, 1) := by decide +kernel
theorem dX10_addLouvre_83 : decode cX10_addLouvre 83 = .ok (.aload_n 0, 1) := by decide +kernel
theorem dX10_addLouvre_84 : decode cX10_addLouvre 84 = .ok (.getfield 10, 3) := by decide +kernel
theorem dX10_addLouvre_87 : decode cX10_addLouvre 87 = .ok (.getfield 103, 3) := by decide +kernel
theorem dX10_addLouvre_90 : decode cX10_addLouvre 90 = .ok (.iload 6, 2) := by decide +kernel
theorem dX10_addLouvre_92 : decode cX10_addLouvre 92 = .ok (.aaload, 1) := by decide +kernel
theorem dX10_addLouvre_93 : decode cX10_addLouvre 93 = .ok (.iload_n 1, 1) := by decide +kernel
theorem dX10_addLouvre_94 : decode cX10_addLouvre 94 = .ok (.iload_n 2, 1) := by decide +kernel
theorem dX10_addLouvre_95 : decode cX10_addLouvre 95 = .ok (.iload_n 3, 1) := by decide +kernel
theorem dX10_addLouvre_96 : decode cX10_addLouvre 96 = .ok (.iload 4, 2) := by decide +kernel
theorem dX10_addLouvre_98 : decode cX10_addLouvre 98 = .ok (.iload 5, 2) := by decide +kernel
theorem dX10_addLouvre_100 : decode cX10_addLouvre 100 = .ok (.invokevirtual 107, 3) := by decide +kernel
theorem dX10_addLouvre_103 : decode cX10_addLouvre 103 = .ok (.aload_n 0, 1) := by decide +kernel
theorem dX10_addLouvre_104 : decode cX10_addLouvre 104 = .ok (.getfield 10, 3) := by decide +kernel
theorem dX10_addLouvre_107 : decode cX10_addLouvre 107 = .ok (.iload 6, 2) := by decide +kernel
theorem dX10_addLouvre_109 : decode cX10_addLouvre 109 = .ok (.iconst 1, 1) := by decide +kernel
theorem dX10_addLouvre_110 : decode cX10_addLouvre 110 = .ok (.iadd, 1) := by decide +kernel
theorem dX10_addLouvre_111 : decode cX10_addLouvre 111 = .ok (.putfield 100, 3) := by decide +kernel
theorem dX10_addLouvre_114 : decode cX10_addLouvre 114 = .ok (.iload 6, 2) := by decide +kernel
theorem dX10_addLouvre_116 : decode cX10_addLouvre 116 = .ok (.ireturn, 1) := by decide +kernel
theorem dX10_addHeater_0 : decode cX10_addHeater 0 = .ok (.aload_n 0, 1) := by decide +kernel
theorem dX10_addHeater_1 : decode cX10_addHeater 1 = .ok (.getfield 10, 3) := by decide +kernel
theorem dX10_addHeater_4 : decode cX10_addHeater 4 = .ok (.iload_n 1, 1) := by decide +kernel
theorem dX10_addHeater_5 : decode cX10_addHeater 5 = .ok (.invokevirtual 58, 3) := by decide +kernel
theorem dX10_addHeater_8 : decode cX10_addHeater 8 = .ok (.ifCond .ne 6, 3) := by decide +kernel
theorem dX10_addHeater_11 : decode cX10_addHeater 11 = .ok (.ldc 62, 2) := by decide +kernel
theorem dX10_addHeater_13 : decode cX10_addHeater 13 = .ok (.ireturn, 1) := by decide +kernel
theorem dX10_addHeater_14 : decode cX10_addHeater 14 = .ok (.iload_n 2, 1) := by decide +kernel
theorem dX10_addHeater_15 : decode cX10_addHeater 15 = .ok (.iconst 0, 1) := by decide +kernel
theorem dX10_addHeater_16 : decode cX10_addHeater 16 = .ok (.ldc 34, 2) := by decide +kernel
theorem dX10_addHeater_18 : decode cX10_addHeater 18 = .ok (.invokestatic 35, 3) := by decide +kernel
theorem dX10_addHeater_21 : decode cX10_addHeater 21 = .ok (.ifCond .eq 37, 3) := by decide +kernel
theorem dX10_addHeater_24 : decode cX10_addHeater 24 = .ok (.iload 4, 2) := by decide +kernel
theorem dX10_addHeater_26 : decode cX10_addHeater 26 = .ok (.ldc 39, 2) := by decide +kernel
theorem dX10_addHeater_28 : decode cX10_addHeater 28 = .ok (.ldc 40, 2) := by decide +kernel
theorem dX10_addHeater_30 : decode cX10_addHeater 30 = .ok (.invokestatic 35, 3) := by decide +kernel
theorem dX10_addHeater_33 : decode cX10_addHeater 33 = .ok (.ifCond .eq 25, 3) := by decide +kernel
theorem dX10_addHeater_36 : decode cX10_addHeater 36 = .ok (.iload_n 3, 1) := by decide +kernel
theorem dX10_addHeater_37 : decode cX10_addHeater 37 = .ok (.ldc 39, 2) := by decide +kernel
theorem dX10_addHeater_39 : decode cX10_addHeater 39 = .ok (.iload 4, 2) := by decide +kernel
theorem dX10_addHeater_41 : decode cX10_addHeater 41 = .ok (.invokestatic 35, 3) := by decide +kernel
theorem dX10_addHeater_44 : decode cX10_addHeater 44 = .ok (.ifCond .eq 14, 3) := by decide +kernel
theorem dX10_addHeater_47 : decode cX10_addHeater 47 = .ok (.iload 5, 2) := by decide +kernel
theorem dX10_addHeater_49 : decode cX10_addHeater 49 = .ok (.iconst 0, 1) := by decide +kernel
theorem dX10_addHeater_50 : decode cX10_addHeater 50 = .ok (.bipush 9, 2) := by decide +kernel
theorem dX10_addHeater_52 : decode cX10_addHeater 52 = .ok (.invokestatic 35, 3) := by decide +kernel
theorem dX10_addHeater_55 : decode cX10_addHeater 55 = .ok (.ifCond .ne 6, 3) := by decide +kernel
theorem dX10_addHeater_58 : decode cX10_addHeater 58 = .ok (.ldc 42, 2) := by decide +kernel
theorem dX10_addHeater_60 : decode cX10_addHeater 60 = .ok (.ireturn, 1) := by decide +kernel
theorem dX10_addHeater_61 : decode cX10_addHeater 61 = .ok (.aload_n 0, 1) := by decide +kernel
theorem dX10_addHeater_62 : decode cX10_addHeater 62 = .ok (.getfield 10, 3) := by decide +kernel
theorem dX10_addHeater_65 : decode cX10_addHeater 65 = .ok (.getfield 110, 3) := by decide +kernel
theorem dX10_addHeater_68 : decode cX10_addHeater 68 = .ok (.istore 6, 2) := by decide +kernel
theorem dX10_addHeater_70 : decode cX10_addHeater 70 = .ok (.iload 6, 2) := by decide +kernel
theorem dX10_addHeater_72 : decode cX10_addHeater 72 = .ok (.bipush 8, 2) := by decide +kernel
theorem dX10_addHeater_74 : decode cX10_addHeater 74 = .ok (.if_icmp .lt 6, 3) := by decide +kernel
theorem dX10_addHeater_77 : decode cX10_addHeater 77 = .ok (.ldc 47, 2) := by decide +kernel
theorem dX10_addHeater_79 : decode cX10_addHeater 79 = .ok (.ireturn, 1) := by decide +kernel
theorem dX10_addHeater_80 : decode cX10_addHeater 80 = .ok (.aload_n 0, 1) := by decide +kernel
theorem dX10_addHeater_81 : decode cX10_addHeater 81 = .ok (.getfield 10, 3) := by decide +kernel
theorem dX10_addHeater_84 : decode cX10_addHeater 84 = .ok (.getfield 113, 3) := by decide +kernel
theorem dX10_addHeater_87 : decode cX10_addHeater 87 = .ok (.iload 6, 2) := by decide +kernel
theorem dX10_addHeater_89 : decode cX10_addHeater 89 = .ok (.aaload, 1) := by decide +kernel
theorem dX10_addHeater_90 : decode cX10_addHeater 90 = .ok (.iload_n 1, 1) := by decide +kernel
theorem dX10_addHeater_91 : decode cX10_addHeater 91 = .ok (.iload_n 2, 1) := by decide +kernel
theorem dX10_addHeater_92 : decode cX10_addHeater 92 = .ok (.iload_n 3, 1) := by decide +kernel
theorem dX10_addHeater_93 : decode cX10_addHeater 93 = .ok (.iload 4, 2) := by decide +kernel
theorem dX10_addHeater_95 : decode cX10_addHeater 95 = .ok (.iload 5, 2) := by decide +kernel
theorem dX10_addHeater_97 : decode cX10_addHeater 97 = .ok (.invokevirtual 117, 3) := by decide +kernel
theorem dX10_addHeater_100 : decode cX10_addHeater 100 = .ok (.aload_n 0, 1) := by decide +kernel
theorem dX10_addHeater_101 : decode cX10_addHeater 101 = .ok (.getfield 10, 3) := by decide +kernel
theorem dX10_addHeater_104 : decode cX10_addHeater 104 = .ok (.iload 6, 2) := by decide +kernel
theorem dX10_addHeater_106 : decode cX10_addHeater 106 = .ok (.iconst 1, 1) := by decide +kernel
theorem dX10_addHeater_107 : decode cX10_addHeater 107 = .ok (.iadd, 1) := by decide +kernel
theorem dX10_addHeater_108 : decode cX10_addHeater 108 = .ok (.putfield 110, 3) := by decide +kernel
theorem dX10_addHeater_111 : decode cX10_addHeater 111 = .ok (.aload_n 0, 1) := by decide +kernel
theorem dX10_addHeater_112 : decode cX10_addHeater 112 = .ok (.getfield 10, 3) := by decide +kernel
theorem dX10_addHeater_115 : decode cX10_addHeater 115 = .ok (.iload 6, 2) := by decide +kernel
theorem dX10_addHeater_117 : decode cX10_addHeater 117 = .ok (.invokevirtual 120, 3) := by decide +kernel
theorem dX10_addHeater_120 : decode cX10_addHeater 120 = .ok (.iload 6, 2) := by decide +kernel
theorem dX10_addHeater_122 : decode cX10_addHeater 122 = .ok (.ireturn, 1) := by decide +kernel
theorem dX10_louvreCount_0 : decode cX10_louvreCount 0 = .ok (.aload_n 0, 1) := by decide +kernel
theorem dX10_louvreCount_1 : decode cX10_louvreCount 1 = .ok (.getfield 10, 3) := by decide +kernel
theorem dX10_louvreCount_4 : decode cX10_louvreCount 4 = .ok (.getfield 100, 3) := by decide +kernel
theorem dX10_louvreCount_7 : decode cX10_louvreCount 7 = .ok (.ireturn, 1) := by decide +kernel
theorem dX10_opening_0 : decode cX10_opening 0 = .ok (.aload_n 0, 1) := by decide +kernel
theorem dX10_opening_1 : decode cX10_opening 1 = .ok (.getfield 10, 3) := by decide +kernel
theorem dX10_opening_4 : decode cX10_opening 4 = .ok (.iload_n 1, 1) := by decide +kernel
theorem dX10_opening_5 : decode cX10_opening 5 = .ok (.invokevirtual 123, 3) := by decide +kernel
theorem dX10_opening_8 : decode cX10_opening 8 = .ok (.ifCond .eq 18, 3) := by decide +kernel
theorem dX10_opening_11 : decode cX10_opening 11 = .ok (.aload_n 0, 1) := by decide +kernel
theorem dX10_opening_12 : decode cX10_opening 12 = .ok (.getfield 10, 3) := by decide +kernel
theorem dX10_opening_15 : decode cX10_opening 15 = .ok (.getfield 103, 3) := by decide +kernel
theorem dX10_opening_18 : decode cX10_opening 18 = .ok (.iload_n 1, 1) := by decide +kernel
theorem dX10_opening_19 : decode cX10_opening 19 = .ok (.aaload, 1) := by decide +kernel
theorem dX10_opening_20 : decode cX10_opening 20 = .ok (.getfield 126, 3) := by decide +kernel
theorem dX10_opening_23 : decode cX10_opening 23 = .ok (.goto 5, 3) := by decide +kernel
theorem dX10_opening_26 : decode cX10_opening 26 = .ok (.ldc 62, 2) := by decide +kernel
theorem dX10_opening_28 : decode cX10_opening 28 = .ok (.ireturn, 1) := by decide +kernel
theorem dX10_target_0 : decode cX10_target 0 = .ok (.aload_n 0, 1) := by decide +kernel
theorem dX10_target_1 : decode cX10_target 1 = .ok (.getfield 10, 3) := by decide +kernel
theorem dX10_target_4 : decode cX10_target 4 = .ok (.iload_n 1, 1) := by decide +kernel
theorem dX10_target_5 : decode cX10_target 5 = .ok (.invokevirtual 123, 3) := by decide +kernel
theorem dX10_target_8 : decode cX10_target 8 = .ok (.ifCond .eq 22, 3) := by decide +kernel
theorem dX10_target_11 : decode cX10_target 11 = .ok (.aload_n 0, 1) := by decide +kernel
theorem dX10_target_12 : decode cX10_target 12 = .ok (.getfield 10, 3) := by decide +kernel
theorem dX10_target_15 : decode cX10_target 15 = .ok (.aload_n 0, 1) := by decide +kernel
theorem dX10_target_16 : decode cX10_target 16 = .ok (.getfield 10, 3) := by decide +kernel
theorem dX10_target_19 : decode cX10_target 19 = .ok (.getfield 103, 3) := by decide +kernel
theorem dX10_target_22 : decode cX10_target 22 = .ok (.iload_n 1, 1) := by decide +kernel
theorem dX10_target_23 : decode cX10_target 23 = .ok (.aaload, 1) := by decide +kernel
theorem dX10_target_24 : decode cX10_target 24 = .ok (.invokevirtual 129, 3) := by decide +kernel
theorem dX10_target_27 : decode cX10_target 27 = .ok (.goto 5, 3) := by decide +kernel
theorem dX10_target_30 : decode cX10_target 30 = .ok (.ldc 62, 2) := by decide +kernel
theorem dX10_target_32 : decode cX10_target 32 = .ok (.ireturn, 1) := by decide +kernel
theorem dX10_isHeld_0 : decode cX10_isHeld 0 = .ok (.aload_n 0, 1) := by decide +kernel
theorem dX10_isHeld_1 : decode cX10_isHeld 1 = .ok (.getfield 10, 3) := by decide +kernel
theorem dX10_isHeld_4 : decode cX10_isHeld 4 = .ok (.iload_n 1, 1) := by decide +kernel
theorem dX10_isHeld_5 : decode cX10_isHeld 5 = .ok (.invokevirtual 123, 3) := by decide +kernel
theorem dX10_isHeld_8 : decode cX10_isHeld 8 = .ok (.ifCond .ne 6, 3) := by decide +kernel
theorem dX10_isHeld_11 : decode cX10_isHeld 11 = .ok (.ldc 62, 2) := by decide +kernel
theorem dX10_isHeld_13 : decode cX10_isHeld 13 = .ok (.ireturn, 1) := by decide +kernel
theorem dX10_isHeld_14 : decode cX10_isHeld 14 = .ok (.aload_n 0, 1) := by decide +kernel
theorem dX10_isHeld_15 : decode cX10_isHeld 15 = .ok (.getfield 10, 3) := by decide +kernel
theorem dX10_isHeld_18 : decode cX10_isHeld 18 = .ok (.getfield 103, 3) := by decide +kernel
theorem dX10_isHeld_21 : decode cX10_isHeld 21 = .ok (.iload_n 1, 1) := by decide +kernel
theorem dX10_isHeld_22 : decode cX10_isHeld 22 = .ok (.aaload, 1) := by decide +kernel
theorem dX10_isHeld_23 : decode cX10_isHeld 23 = .ok (.getfield 133, 3) := by decide +kernel
theorem dX10_isHeld_26 : decode cX10_isHeld 26 = .ok (.ifCond .eq 7, 3) := by decide +kernel
theorem dX10_isHeld_29 : decode cX10_isHeld 29 = .ok (.iconst 1, 1) := by decide +kernel
theorem dX10_isHeld_30 : decode cX10_isHeld 30 = .ok (.goto 4, 3) := by decide +kernel
theorem dX10_isHeld_33 : decode cX10_isHeld 33 = .ok (.iconst 0, 1) := by decide +kernel
theorem dX10_isHeld_34 : decode cX10_isHeld 34 = .ok (.ireturn, 1) := by decide +kernel
theorem dX10_heaterCount_0 : decode cX10_heaterCount 0 = .ok (.aload_n 0, 1) := by decide +kernel
theorem dX10_heaterCount_1 : decode cX10_heaterCount 1 = .ok (.getfield 10, 3) := by decide +kernel
theorem dX10_heaterCount_4 : decode cX10_heaterCount 4 = .ok (.getfield 110, 3) := by decide +kernel
theorem dX10_heaterCount_7 : decode cX10_heaterCount 7 = .ok (.ireturn, 1) := by decide +kernel
theorem dX10_heaterState_0 : decode cX10_heaterState 0 = .ok (.aload_n 0, 1) := by decide +kernel
theorem dX10_heaterState_1 : decode cX10_heaterState 1 = .ok (.getfield 10, 3) := by decide +kernel
theorem dX10_heaterState_4 : decode cX10_heaterState 4 = .ok (.iload_n 1, 1) := by decide +kernel
theorem dX10_heaterState_5 : decode cX10_heaterState 5 = .ok (.invokevirtual 137, 3) := by decide +kernel
theorem dX10_heaterState_8 : decode cX10_heaterState 8 = .ok (.ifCond .eq 18, 3) := by decide +kernel
theorem dX10_heaterState_11 : decode cX10_heaterState 11 = .ok (.aload_n 0, 1) := by decide +kernel
theorem dX10_heaterState_12 : decode cX10_heaterState 12 = .ok (.getfield 10, 3) := by decide +kernel
theorem dX10_heaterState_15 : decode cX10_heaterState 15 = .ok (.getfield 113, 3) := by decide +kernel
theorem dX10_heaterState_18 : decode cX10_heaterState 18 = .ok (.iload_n 1, 1) := by decide +kernel
theorem dX10_heaterState_19 : decode cX10_heaterState 19 = .ok (.aaload, 1) := by decide +kernel
theorem dX10_heaterState_20 : decode cX10_heaterState 20 = .ok (.getfield 140, 3) := by decide +kernel
theorem dX10_heaterState_23 : decode cX10_heaterState 23 = .ok (.goto 5, 3) := by decide +kernel
theorem dX10_heaterState_26 : decode cX10_heaterState 26 = .ok (.ldc 62, 2) := by decide +kernel
theorem dX10_heaterState_28 : decode cX10_heaterState 28 = .ok (.ireturn, 1) := by decide +kernel
theorem dX10_heaterMode_0 : decode cX10_heaterMode 0 = .ok (.aload_n 0, 1) := by decide +kernel
theorem dX10_heaterMode_1 : decode cX10_heaterMode 1 = .ok (.getfield 10, 3) := by decide +kernel
theorem dX10_heaterMode_4 : decode cX10_heaterMode 4 = .ok (.iload_n 1, 1) := by decide +kernel
theorem dX10_heaterMode_5 : decode cX10_heaterMode 5 = .ok (.invokevirtual 137, 3) := by decide +kernel
theorem dX10_heaterMode_8 : decode cX10_heaterMode 8 = .ok (.ifCond .eq 18, 3) := by decide +kernel
theorem dX10_heaterMode_11 : decode cX10_heaterMode 11 = .ok (.aload_n 0, 1) := by decide +kernel
theorem dX10_heaterMode_12 : decode cX10_heaterMode 12 = .ok (.getfield 10, 3) := by decide +kernel
theorem dX10_heaterMode_15 : decode cX10_heaterMode 15 = .ok (.getfield 113, 3) := by decide +kernel
theorem dX10_heaterMode_18 : decode cX10_heaterMode 18 = .ok (.iload_n 1, 1) := by decide +kernel
theorem dX10_heaterMode_19 : decode cX10_heaterMode 19 = .ok (.aaload, 1) := by decide +kernel
theorem dX10_heaterMode_20 : decode cX10_heaterMode 20 = .ok (.getfield 143, 3) := by decide +kernel
theorem dX10_heaterMode_23 : decode cX10_heaterMode 23 = .ok (.goto 5, 3) := by decide +kernel
theorem dX10_heaterMode_26 : decode cX10_heaterMode 26 = .ok (.ldc 62, 2) := by decide +kernel
theorem dX10_heaterMode_28 : decode cX10_heaterMode 28 = .ok (.ireturn, 1) := by decide +kernel
theorem dX10_setMode_0 : decode cX10_setMode 0 = .ok (.aload_n 0, 1) := by decide +kernel
theorem dX10_setMode_1 : decode cX10_setMode 1 = .ok (.getfield 10, 3) := by decide +kernel
theorem dX10_setMode_4 : decode cX10_setMode 4 = .ok (.iload_n 1, 1) := by decide +kernel
theorem dX10_setMode_5 : decode cX10_setMode 5 = .ok (.invokevirtual 137, 3) := by decide +kernel
theorem dX10_setMode_8 : decode cX10_setMode 8 = .ok (.ifCond .ne 6, 3) := by decide +kernel
theorem dX10_setMode_11 : decode cX10_setMode 11 = .ok (.ldc 62, 2) := by decide +kernel
theorem dX10_setMode_13 : decode cX10_setMode 13 = .ok (.ireturn, 1) := by decide +kernel
theorem dX10_setMode_14 : decode cX10_setMode 14 = .ok (.iload_n 2, 1) := by decide +kernel
theorem dX10_setMode_15 : decode cX10_setMode 15 = .ok (.iconst 0, 1) := by decide +kernel
theorem dX10_setMode_16 : decode cX10_setMode 16 = .ok (.iconst 2, 1) := by decide +kernel
theorem dX10_setMode_17 : decode cX10_setMode 17 = .ok (.invokestatic 35, 3) := by decide +kernel
theorem dX10_setMode_20 : decode cX10_setMode 20 = .ok (.ifCond .ne 6, 3) := by decide +kernel
theorem dX10_setMode_23 : decode cX10_setMode 23 = .ok (.ldc 42, 2) := by decide +kernel
theorem dX10_setMode_25 : decode cX10_setMode 25 = .ok (.ireturn, 1) := by decide +kernel
theorem dX10_setMode_26 : decode cX10_setMode 26 = .ok (.aload_n 0, 1) := by decide +kernel
theorem dX10_setMode_27 : decode cX10_setMode 27 = .ok (.getfield 10, 3) := by decide +kernel
theorem dX10_setMode_30 : decode cX10_setMode 30 = .ok (.getfield 113, 3) := by decide +kernel
theorem dX10_setMode_33 : decode cX10_setMode 33 = .ok (.iload_n 1, 1) := by decide +kernel
theorem dX10_setMode_34 : decode cX10_setMode 34 = .ok (.aaload, 1) := by decide +kernel
theorem dX10_setMode_35 : decode cX10_setMode 35 = .ok (.getfield 143, 3) := by decide +kernel
theorem dX10_setMode_38 : decode cX10_setMode 38 = .ok (.istore_n 3, 1) := by decide +kernel
theorem dX10_setMode_39 : decode cX10_setMode 39 = .ok (.aload_n 0, 1) := by decide +kernel
theorem dX10_setMode_40 : decode cX10_setMode 40 = .ok (.getfield 10, 3) := by decide +kernel
theorem dX10_setMode_43 : decode cX10_setMode 43 = .ok (.getfield 113, 3) := by decide +kernel
theorem dX10_setMode_46 : decode cX10_setMode 46 = .ok (.iload_n 1, 1) := by decide +kernel
theorem dX10_setMode_47 : decode cX10_setMode 47 = .ok (.aaload, 1) := by decide +kernel
theorem dX10_setMode_48 : decode cX10_setMode 48 = .ok (.iload_n 2, 1) := by decide +kernel
theorem dX10_setMode_49 : decode cX10_setMode 49 = .ok (.putfield 143, 3) := by decide +kernel
theorem dX10_setMode_52 : decode cX10_setMode 52 = .ok (.iload_n 3, 1) := by decide +kernel
theorem dX10_setMode_53 : decode cX10_setMode 53 = .ok (.ireturn, 1) := by decide +kernel
theorem dX10_setOrbit_0 : decode cX10_setOrbit 0 = .ok (.iload_n 1, 1) := by decide +kernel
theorem dX10_setOrbit_1 : decode cX10_setOrbit 1 = .ok (.iconst 1, 1) := by decide +kernel
theorem dX10_setOrbit_2 : decode cX10_setOrbit 2 = .ok (.ldc 34, 2) := by decide +kernel
theorem dX10_setOrbit_4 : decode cX10_setOrbit 4 = .ok (.invokestatic 35, 3) := by decide +kernel
theorem dX10_setOrbit_7 : decode cX10_setOrbit 7 = .ok (.ifCond .eq 56, 3) := by decide +kernel
theorem dX10_setOrbit_10 : decode cX10_setOrbit 10 = .ok (.iload_n 2, 1) := by decide +kernel
theorem dX10_setOrbit_11 : decode cX10_setOrbit 11 = .ok (.iconst 0, 1) := by decide +kernel
theorem dX10_setOrbit_12 : decode cX10_setOrbit 12 = .ok (.iload_n 1, 1) := by decide +kernel
theorem dX10_setOrbit_13 : decode cX10_setOrbit 13 = .ok (.invokestatic 35, 3) := by decide +kernel
theorem dX10_setOrbit_16 : decode cX10_setOrbit 16 = .ok (.ifCond .eq 47, 3) := by decide +kernel
theorem dX10_setOrbit_19 : decode cX10_setOrbit 19 = .ok (.iload_n 3, 1) := by decide +kernel
theorem dX10_setOrbit_20 : decode cX10_setOrbit 20 = .ok (.iload_n 2, 1) := by decide +kernel
theorem dX10_setOrbit_21 : decode cX10_setOrbit 21 = .ok (.iload_n 1, 1) := by decide +kernel
theorem dX10_setOrbit_22 : decode cX10_setOrbit 22 = .ok (.invokestatic 35, 3) := by decide +kernel
theorem dX10_setOrbit_25 : decode cX10_setOrbit 25 = .ok (.ifCond .eq 38, 3) := by decide +kernel
theorem dX10_setOrbit_28 : decode cX10_setOrbit 28 = .ok (.iload 4, 2) := by decide +kernel
theorem dX10_setOrbit_30 : decode cX10_setOrbit 30 = .ok (.iconst 0, 1) := by decide +kernel
theorem dX10_setOrbit_31 : decode cX10_setOrbit 31 = .ok (.sipush 10000, 3) := by decide +kernel
theorem dX10_setOrbit_34 : decode cX10_setOrbit 34 = .ok (.invokestatic 35, 3) := by decide +kernel
theorem dX10_setOrbit_37 : decode cX10_setOrbit 37 = .ok (.ifCond .eq 26, 3) := by decide +kernel
theorem dX10_setOrbit_40 : decode cX10_setOrbit 40 = .ok (.iload 5, 2) := by decide +kernel
theorem dX10_setOrbit_42 : decode cX10_setOrbit 42 = .ok (.iconst 0, 1) := by decide +kernel
theorem dX10_setOrbit_43 : decode cX10_setOrbit 43 = .ok (.bipush 100, 2) := by decide +kernel
theorem dX10_setOrbit_45 : decode cX10_setOrbit 45 = .ok (.invokestatic 35, 3) := by decide +kernel
theorem dX10_setOrbit_48 : decode cX10_setOrbit 48 = .ok (.ifCond .eq 15, 3) := by decide +kernel
theorem dX10_setOrbit_51 : decode cX10_setOrbit 51 = .ok (.iload 6, 2) := by decide +kernel
theorem dX10_setOrbit_53 : decode cX10_setOrbit 53 = .ok (.iconst 0, 1) := by decide +kernel
theorem dX10_setOrbit_54 : decode cX10_setOrbit 54 = .ok (.sipush 10000, 3) := by decide +kernel
theorem dX10_setOrbit_57 : decode cX10_setOrbit 57 = .ok (.invokestatic 35, 3) := by decide +kernel
theorem dX10_setOrbit_60 : decode cX10_setOrbit 60 = .ok (.ifCond .ne 6, 3) := by decide +kernel
theorem dX10_setOrbit_63 : decode cX10_setOrbit 63 = .ok (.ldc 42, 2) := by decide +kernel
theorem dX10_setOrbit_65 : decode cX10_setOrbit 65 = .ok (.ireturn, 1) := by decide +kernel
theorem dX10_setOrbit_66 : decode cX10_setOrbit 66 = .ok (.aload_n 0, 1) := by decide +kernel
theorem dX10_setOrbit_67 : decode cX10_setOrbit 67 = .ok (.getfield 10, 3) := by decide +kernel
theorem dX10_setOrbit_70 : decode cX10_setOrbit 70 = .ok (.getfield 146, 3) := by decide +kernel
theorem dX10_setOrbit_73 : decode cX10_setOrbit 73 = .ok (.iload_n 1, 1) := by decide +kernel
theorem dX10_setOrbit_74 : decode cX10_setOrbit 74 = .ok (.iload_n 2, 1) := by decide +kernel
theorem dX10_setOrbit_75 : decode cX10_setOrbit 75 = .ok (.iload_n 3, 1) := by decide +kernel
theorem dX10_setOrbit_76 : decode cX10_setOrbit 76 = .ok (.iload 4, 2) := by decide +kernel
theorem dX10_setOrbit_78 : decode cX10_setOrbit 78 = .ok (.iload 5, 2) := by decide +kernel
theorem dX10_setOrbit_80 : decode cX10_setOrbit 80 = .ok (.iload 6, 2) := by decide +kernel
theorem dX10_setOrbit_82 : decode cX10_setOrbit 82 = .ok (.invokevirtual 150, 3) := by decide +kernel
theorem dX10_setOrbit_85 : decode cX10_setOrbit 85 = .ok (.iconst 0, 1) := by decide +kernel
theorem dX10_setOrbit_86 : decode cX10_setOrbit 86 = .ok (.ireturn, 1) := by decide +kernel
theorem dX10_setPower_0 : decode cX10_setPower 0 = .ok (.iload_n 1, 1) := by decide +kernel
theorem dX10_setPower_1 : decode cX10_setPower 1 = .ok (.iconst 0, 1) := by decide +kernel
theorem dX10_setPower_2 : decode cX10_setPower 2 = .ok (.ldc 41, 2) := by decide +kernel
theorem dX10_setPower_4 : decode cX10_setPower 4 = .ok (.invokestatic 35, 3) := by decide +kernel
theorem dX10_setPower_7 : decode cX10_setPower 7 = .ok (.ifCond .eq 33, 3) := by decide +kernel
theorem dX10_setPower_10 : decode cX10_setPower 10 = .ok (.iload_n 2, 1) := by decide +kernel
theorem dX10_setPower_11 : decode cX10_setPower 11 = .ok (.iconst 0, 1) := by decide +kernel
theorem dX10_setPower_12 : decode cX10_setPower 12 = .ok (.ldc 41, 2) := by decide +kernel
theorem dX10_setPower_14 : decode cX10_setPower 14 = .ok (.invokestatic 35, 3) := by decide +kernel
theorem dX10_setPower_17 : decode cX10_setPower 17 = .ok (.ifCond .eq 23, 3) := by decide +kernel
theorem dX10_setPower_20 : decode cX10_setPower 20 = .ok (.iload_n 3, 1) := by decide +kernel
theorem dX10_setPower_21 : decode cX10_setPower 21 = .ok (.iconst 0, 1) := by decide +kernel
theorem dX10_setPower_22 : decode cX10_setPower 22 = .ok (.ldc 155, 2) := by decide +kernel
theorem dX10_setPower_24 : decode cX10_setPower 24 = .ok (.invokestatic 35, 3) := by decide +kernel
theorem dX10_setPower_27 : decode cX10_setPower 27 = .ok (.ifCond .eq 13, 3) := by decide +kernel
theorem dX10_setPower_30 : decode cX10_setPower 30 = .ok (.iload 4, 2) := by decide +kernel
theorem dX10_setPower_32 : decode cX10_setPower 32 = .ok (.iconst 0, 1) := by decide +kernel
theorem dX10_setPower_33 : decode cX10_setPower 33 = .ok (.iload_n 3, 1) := by decide +kernel
theorem dX10_setPower_34 : decode cX10_setPower 34 = .ok (.invokestatic 35, 3) := by decide +kernel
theorem dX10_setPower_37 : decode cX10_setPower 37 = .ok (.ifCond .ne 6, 3) := by decide +kernel
theorem dX10_setPower_40 : decode cX10_setPower 40 = .ok (.ldc 42, 2) := by decide +kernel
theorem dX10_setPower_42 : decode cX10_setPower 42 = .ok (.ireturn, 1) := by decide +kernel
theorem dX10_setPower_43 : decode cX10_setPower 43 = .ok (.aload_n 0, 1) := by decide +kernel
theorem dX10_setPower_44 : decode cX10_setPower 44 = .ok (.getfield 10, 3) := by decide +kernel
theorem dX10_setPower_47 : decode cX10_setPower 47 = .ok (.getfield 156, 3) := by decide +kernel
theorem dX10_setPower_50 : decode cX10_setPower 50 = .ok (.iload_n 1, 1) := by decide +kernel
theorem dX10_setPower_51 : decode cX10_setPower 51 = .ok (.iload_n 2, 1) := by decide +kernel
theorem dX10_setPower_52 : decode cX10_setPower 52 = .ok (.iload_n 3, 1) := by decide +kernel
theorem dX10_setPower_53 : decode cX10_setPower 53 = .ok (.iload 4, 2) := by decide +kernel
theorem dX10_setPower_55 : decode cX10_setPower 55 = .ok (.invokevirtual 160, 3) := by decide +kernel
theorem dX10_setPower_58 : decode cX10_setPower 58 = .ok (.iconst 0, 1) := by decide +kernel
theorem dX10_setPower_59 : decode cX10_setPower 59 = .ok (.ireturn, 1) := by decide +kernel
theorem dX10_setStepLength_0 : decode cX10_setStepLength 0 = .ok (.iload_n 1, 1) := by decide +kernel
theorem dX10_setStepLength_1 : decode cX10_setStepLength 1 = .ok (.iconst 1, 1) := by decide +kernel
theorem dX10_setStepLength_2 : decode cX10_setStepLength 2 = .ok (.bipush 60, 2) := by decide +kernel
theorem dX10_setStepLength_4 : decode cX10_setStepLength 4 = .ok (.invokestatic 35, 3) := by decide +kernel
theorem dX10_setStepLength_7 : decode cX10_setStepLength 7 = .ok (.ifCond .ne 6, 3) := by decide +kernel
theorem dX10_setStepLength_10 : decode cX10_setStepLength 10 = .ok (.ldc 42, 2) := by decide +kernel
theorem dX10_setStepLength_12 : decode cX10_setStepLength 12 = .ok (.ireturn, 1) := by decide +kernel
theorem dX10_setStepLength_13 : decode cX10_setStepLength 13 = .ok (.aload_n 0, 1) := by decide +kernel
theorem dX10_setStepLength_14 : decode cX10_setStepLength 14 = .ok (.getfield 10, 3) := by decide +kernel
theorem dX10_setStepLength_17 : decode cX10_setStepLength 17 = .ok (.getfield 165, 3) := by decide +kernel
theorem dX10_setStepLength_20 : decode cX10_setStepLength 20 = .ok (.istore_n 2, 1) := by decide +kernel
theorem dX10_setStepLength_21 : decode cX10_setStepLength 21 = .ok (.aload_n 0, 1) := by decide +kernel
theorem dX10_setStepLength_22 : decode cX10_setStepLength 22 = .ok (.getfield 10, 3) := by decide +kernel
theorem dX10_setStepLength_25 : decode cX10_setStepLength 25 = .ok (.iload_n 1, 1) := by decide +kernel
theorem dX10_setStepLength_26 : decode cX10_setStepLength 26 = .ok (.putfield 165, 3) := by decide +kernel
theorem dX10_setStepLength_29 : decode cX10_setStepLength 29 = .ok (.iload_n 2, 1) := by decide +kernel
theorem dX10_setStepLength_30 : decode cX10_setStepLength 30 = .ok (.ireturn, 1) := by decide +kernel
theorem dX10_run_0 : decode cX10_run 0 = .ok (.iload_n 1, 1) := by decide +kernel
theorem dX10_run_1 : decode cX10_run 1 = .ok (.iconst 1, 1) := by decide +kernel
theorem dX10_run_2 : decode cX10_run 2 = .ok (.sipush 1000, 3) := by decide +kernel
theorem dX10_run_5 : decode cX10_run 5 = .ok (.invokestatic 35, 3) := by decide +kernel
theorem dX10_run_8 : decode cX10_run 8 = .ok (.ifCond .eq 25, 3) := by decide +kernel
theorem dX10_run_11 : decode cX10_run 11 = .ok (.aload_n 0, 1) := by decide +kernel
theorem dX10_run_12 : decode cX10_run 12 = .ok (.getfield 10, 3) := by decide +kernel
theorem dX10_run_15 : decode cX10_run 15 = .ok (.getfield 168, 3) := by decide +kernel
theorem dX10_run_18 : decode cX10_run 18 = .ok (.iload_n 1, 1) := by decide +kernel
theorem dX10_run_19 : decode cX10_run 19 = .ok (.aload_n 0, 1) := by decide +kernel
theorem dX10_run_20 : decode cX10_run 20 = .ok (.getfield 10, 3) := by decide +kernel
theorem dX10_run_23 : decode cX10_run 23 = .ok (.getfield 165, 3) := by decide +kernel
theorem dX10_run_26 : decode cX10_run 26 = .ok (.imul, 1) := by decide +kernel
theorem dX10_run_27 : decode cX10_run 27 = .ok (.iadd, 1) := by decide +kernel
theorem dX10_run_28 : decode cX10_run 28 = .ok (.ldc 171, 2) := by decide +kernel
theorem dX10_run_30 : decode cX10_run 30 = .ok (.if_icmp .le 6, 3) := by decide +kernel
theorem dX10_run_33 : decode cX10_run 33 = .ok (.ldc 42, 2) := by decide +kernel
theorem dX10_run_35 : decode cX10_run 35 = .ok (.ireturn, 1) := by decide +kernel
theorem dX10_run_36 : decode cX10_run 36 = .ok (.iconst 0, 1) := by decide +kernel
theorem dX10_run_37 : decode cX10_run 37 = .ok (.istore_n 2, 1) := by decide +kernel
theorem dX10_run_38 : decode cX10_run 38 = .ok (.iconst 0, 1) := by decide +kernel
theorem dX10_run_39 : decode cX10_run 39 = .ok (.istore_n 3, 1) := by decide +kernel
theorem dX10_run_40 : decode cX10_run 40 = .ok (.iload_n 3, 1) := by decide +kernel
theorem dX10_run_41 : decode cX10_run 41 = .ok (.iload_n 1, 1) := by decide +kernel
theorem dX10_run_42 : decode cX10_run 42 = .ok (.if_icmp .ge 22, 3) := by decide +kernel
theorem dX10_run_45 : decode cX10_run 45 = .ok (.aload_n 0, 1) := by decide +kernel
theorem dX10_run_46 : decode cX10_run 46 = .ok (.getfield 10, 3) := by decide +kernel
theorem dX10_run_49 : decode cX10_run 49 = .ok (.invokevirtual 172, 3) := by decide +kernel
theorem dX10_run_52 : decode cX10_run 52 = .ok (.ifCond .eq 6, 3) := by decide +kernel
theorem dX10_run_55 : decode cX10_run 55 = .ok (.iinc 2 1, 3) := by decide +kernel
theorem dX10_run_58 : decode cX10_run 58 = .ok (.iinc 3 1, 3) := by decide +kernel
theorem dX10_run_61 : decode cX10_run 61 = .ok (.goto (-21), 3) := by decide +kernel
theorem dX10_run_64 : decode cX10_run 64 = .ok (.iload_n 2, 1) := by decide +kernel
theorem dX10_run_65 : decode cX10_run 65 = .ok (.ireturn, 1) := by decide +kernel
theorem dX10_time_0 : decode cX10_time 0 = .ok (.aload_n 0, 1) := by decide +kernel
theorem dX10_time_1 : decode cX10_time 1 = .ok (.getfield 10, 3) := by decide +kernel
theorem dX10_time_4 : decode cX10_time 4 = .ok (.getfield 168, 3) := by decide +kernel
theorem dX10_time_7 : decode cX10_time 7 = .ok (.ireturn, 1) := by decide +kernel
theorem dX10_charge_0 : decode cX10_charge 0 = .ok (.aload_n 0, 1) := by decide +kernel
theorem dX10_charge_1 : decode cX10_charge 1 = .ok (.getfield 10, 3) := by decide +kernel
theorem dX10_charge_4 : decode cX10_charge 4 = .ok (.getfield 156, 3) := by decide +kernel
theorem dX10_charge_7 : decode cX10_charge 7 = .ok (.getfield 183, 3) := by decide +kernel
theorem dX10_charge_10 : decode cX10_charge 10 = .ok (.ireturn, 1) := by decide +kernel
theorem dX10_usedPower_0 : decode cX10_usedPower 0 = .ok (.aload_n 0, 1) := by decide +kernel
theorem dX10_usedPower_1 : decode cX10_usedPower 1 = .ok (.getfield 10, 3) := by decide +kernel
theorem dX10_usedPower_4 : decode cX10_usedPower 4 = .ok (.invokevirtual 186, 3) := by decide +kernel
theorem dX10_usedPower_7 : decode cX10_usedPower 7 = .ok (.ireturn, 1) := by decide +kernel
theorem dX10_temperature_0 : decode cX10_temperature 0 = .ok (.aload_n 0, 1) := by decide +kernel
theorem dX10_temperature_1 : decode cX10_temperature 1 = .ok (.getfield 10, 3) := by decide +kernel
theorem dX10_temperature_4 : decode cX10_temperature 4 = .ok (.iload_n 1, 1) := by decide +kernel
theorem dX10_temperature_5 : decode cX10_temperature 5 = .ok (.invokevirtual 58, 3) := by decide +kernel
theorem dX10_temperature_8 : decode cX10_temperature 8 = .ok (.ifCond .eq 18, 3) := by decide +kernel
theorem dX10_temperature_11 : decode cX10_temperature 11 = .ok (.aload_n 0, 1) := by decide +kernel
theorem dX10_temperature_12 : decode cX10_temperature 12 = .ok (.getfield 10, 3) := by decide +kernel
theorem dX10_temperature_15 : decode cX10_temperature 15 = .ok (.getfield 48, 3) := by decide +kernel
theorem dX10_temperature_18 : decode cX10_temperature 18 = .ok (.iload_n 1, 1) := by decide +kernel
theorem dX10_temperature_19 : decode cX10_temperature 19 = .ok (.aaload, 1) := by decide +kernel
theorem dX10_temperature_20 : decode cX10_temperature 20 = .ok (.getfield 69, 3) := by decide +kernel
theorem dX10_temperature_23 : decode cX10_temperature 23 = .ok (.goto 5, 3) := by decide +kernel
theorem dX10_temperature_26 : decode cX10_temperature 26 = .ok (.ldc 62, 2) := by decide +kernel
theorem dX10_temperature_28 : decode cX10_temperature 28 = .ok (.ireturn, 1) := by decide +kernel
theorem dX10_load_0 : decode cX10_load 0 = .ok (.aload_n 0, 1) := by decide +kernel
theorem dX10_load_1 : decode cX10_load 1 = .ok (.getfield 10, 3) := by decide +kernel
theorem dX10_load_4 : decode cX10_load 4 = .ok (.iload_n 1, 1) := by decide +kernel
theorem dX10_load_5 : decode cX10_load 5 = .ok (.invokevirtual 58, 3) := by decide +kernel
theorem dX10_load_8 : decode cX10_load 8 = .ok (.ifCond .eq 18, 3) := by decide +kernel
theorem dX10_load_11 : decode cX10_load 11 = .ok (.aload_n 0, 1) := by decide +kernel
theorem dX10_load_12 : decode cX10_load 12 = .ok (.getfield 10, 3) := by decide +kernel
theorem dX10_load_15 : decode cX10_load 15 = .ok (.getfield 48, 3) := by decide +kernel
theorem dX10_load_18 : decode cX10_load 18 = .ok (.iload_n 1, 1) := by decide +kernel
theorem dX10_load_19 : decode cX10_load 19 = .ok (.aaload, 1) := by decide +kernel
theorem dX10_load_20 : decode cX10_load 20 = .ok (.getfield 72, 3) := by decide +kernel
theorem dX10_load_23 : decode cX10_load 23 = .ok (.goto 5, 3) := by decide +kernel
theorem dX10_load_26 : decode cX10_load 26 = .ok (.ldc 62, 2) := by decide +kernel
theorem dX10_load_28 : decode cX10_load 28 = .ok (.ireturn, 1) := by decide +kernel
theorem dX10_absorbedHeat_0 : decode cX10_absorbedHeat 0 = .ok (.aload_n 0, 1) := by decide +kernel
theorem dX10_absorbedHeat_1 : decode cX10_absorbedHeat 1 = .ok (.getfield 10, 3) := by decide +kernel
theorem dX10_absorbedHeat_4 : decode cX10_absorbedHeat 4 = .ok (.iload_n 1, 1) := by decide +kernel
theorem dX10_absorbedHeat_5 : decode cX10_absorbedHeat 5 = .ok (.invokevirtual 58, 3) := by decide +kernel
theorem dX10_absorbedHeat_8 : decode cX10_absorbedHeat 8 = .ok (.ifCond .ne 7, 3) := by decide +kernel
theorem dX10_absorbedHeat_11 : decode cX10_absorbedHeat 11 = .ok (.ldc2_w 189, 3) := by decide +kernel
theorem dX10_absorbedHeat_14 : decode cX10_absorbedHeat 14 = .ok (.lreturn, 1) := by decide +kernel
theorem dX10_absorbedHeat_15 : decode cX10_absorbedHeat 15 = .ok (.aload_n 0, 1) := by decide +kernel
theorem dX10_absorbedHeat_16 : decode cX10_absorbedHeat 16 = .ok (.getfield 10, 3) := by decide +kernel
theorem dX10_absorbedHeat_19 : decode cX10_absorbedHeat 19 = .ok (.invokevirtual 191, 3) := by decide +kernel
theorem dX10_absorbedHeat_22 : decode cX10_absorbedHeat 22 = .ok (.aload_n 0, 1) := by decide +kernel
theorem dX10_absorbedHeat_23 : decode cX10_absorbedHeat 23 = .ok (.getfield 10, 3) := by decide +kernel
theorem dX10_absorbedHeat_26 : decode cX10_absorbedHeat 26 = .ok (.getfield 48, 3) := by decide +kernel
theorem dX10_absorbedHeat_29 : decode cX10_absorbedHeat 29 = .ok (.iload_n 1, 1) := by decide +kernel
theorem dX10_absorbedHeat_30 : decode cX10_absorbedHeat 30 = .ok (.aaload, 1) := by decide +kernel
theorem dX10_absorbedHeat_31 : decode cX10_absorbedHeat 31 = .ok (.getfield 194, 3) := by decide +kernel
theorem dX10_absorbedHeat_34 : decode cX10_absorbedHeat 34 = .ok (.lreturn, 1) := by decide +kernel
theorem dX10_emittedHeat_0 : decode cX10_emittedHeat 0 = .ok (.aload_n 0, 1) := by decide +kernel
theorem dX10_emittedHeat_1 : decode cX10_emittedHeat 1 = .ok (.getfield 10, 3) := by decide +kernel
theorem dX10_emittedHeat_4 : decode cX10_emittedHeat 4 = .ok (.iload_n 1, 1) := by decide +kernel
theorem dX10_emittedHeat_5 : decode cX10_emittedHeat 5 = .ok (.invokevirtual 58, 3) := by decide +kernel
theorem dX10_emittedHeat_8 : decode cX10_emittedHeat 8 = .ok (.ifCond .ne 7, 3) := by decide +kernel
theorem dX10_emittedHeat_11 : decode cX10_emittedHeat 11 = .ok (.ldc2_w 189, 3) := by decide +kernel
theorem dX10_emittedHeat_14 : decode cX10_emittedHeat 14 = .ok (.lreturn, 1) := by decide +kernel
theorem dX10_emittedHeat_15 : decode cX10_emittedHeat 15 = .ok (.aload_n 0, 1) := by decide +kernel
theorem dX10_emittedHeat_16 : decode cX10_emittedHeat 16 = .ok (.getfield 10, 3) := by decide +kernel
theorem dX10_emittedHeat_19 : decode cX10_emittedHeat 19 = .ok (.invokevirtual 191, 3) := by decide +kernel
theorem dX10_emittedHeat_22 : decode cX10_emittedHeat 22 = .ok (.aload_n 0, 1) := by decide +kernel
theorem dX10_emittedHeat_23 : decode cX10_emittedHeat 23 = .ok (.getfield 10, 3) := by decide +kernel
theorem dX10_emittedHeat_26 : decode cX10_emittedHeat 26 = .ok (.getfield 48, 3) := by decide +kernel
theorem dX10_emittedHeat_29 : decode cX10_emittedHeat 29 = .ok (.iload_n 1, 1) := by decide +kernel
theorem dX10_emittedHeat_30 : decode cX10_emittedHeat 30 = .ok (.aaload, 1) := by decide +kernel
theorem dX10_emittedHeat_31 : decode cX10_emittedHeat 31 = .ok (.getfield 198, 3) := by decide +kernel
theorem dX10_emittedHeat_34 : decode cX10_emittedHeat 34 = .ok (.lreturn, 1) := by decide +kernel
theorem dX10_conductedHeat_0 : decode cX10_conductedHeat 0 = .ok (.aload_n 0, 1) := by decide +kernel
theorem dX10_conductedHeat_1 : decode cX10_conductedHeat 1 = .ok (.getfield 10, 3) := by decide +kernel
theorem dX10_conductedHeat_4 : decode cX10_conductedHeat 4 = .ok (.iload_n 1, 1) := by decide +kernel
theorem dX10_conductedHeat_5 : decode cX10_conductedHeat 5 = .ok (.invokevirtual 58, 3) := by decide +kernel
theorem dX10_conductedHeat_8 : decode cX10_conductedHeat 8 = .ok (.ifCond .ne 7, 3) := by decide +kernel
theorem dX10_conductedHeat_11 : decode cX10_conductedHeat 11 = .ok (.ldc2_w 189, 3) := by decide +kernel
theorem dX10_conductedHeat_14 : decode cX10_conductedHeat 14 = .ok (.lreturn, 1) := by decide +kernel
theorem dX10_conductedHeat_15 : decode cX10_conductedHeat 15 = .ok (.aload_n 0, 1) := by decide +kernel
theorem dX10_conductedHeat_16 : decode cX10_conductedHeat 16 = .ok (.getfield 10, 3) := by decide +kernel
theorem dX10_conductedHeat_19 : decode cX10_conductedHeat 19 = .ok (.invokevirtual 191, 3) := by decide +kernel
theorem dX10_conductedHeat_22 : decode cX10_conductedHeat 22 = .ok (.aload_n 0, 1) := by decide +kernel
theorem dX10_conductedHeat_23 : decode cX10_conductedHeat 23 = .ok (.getfield 10, 3) := by decide +kernel
theorem dX10_conductedHeat_26 : decode cX10_conductedHeat 26 = .ok (.getfield 48, 3) := by decide +kernel
theorem dX10_conductedHeat_29 : decode cX10_conductedHeat 29 = .ok (.iload_n 1, 1) := by decide +kernel
theorem dX10_conductedHeat_30 : decode cX10_conductedHeat 30 = .ok (.aaload, 1) := by decide +kernel
theorem dX10_conductedHeat_31 : decode cX10_conductedHeat 31 = .ok (.getfield 201, 3) := by decide +kernel
theorem dX10_conductedHeat_34 : decode cX10_conductedHeat 34 = .ok (.lreturn, 1) := by decide +kernel
theorem dX10_netHeat_0 : decode cX10_netHeat 0 = .ok (.aload_n 0, 1) := by decide +kernel
theorem dX10_netHeat_1 : decode cX10_netHeat 1 = .ok (.getfield 10, 3) := by decide +kernel
theorem dX10_netHeat_4 : decode cX10_netHeat 4 = .ok (.iload_n 1, 1) := by decide +kernel
theorem dX10_netHeat_5 : decode cX10_netHeat 5 = .ok (.invokevirtual 58, 3) := by decide +kernel
theorem dX10_netHeat_8 : decode cX10_netHeat 8 = .ok (.ifCond .ne 7, 3) := by decide +kernel
theorem dX10_netHeat_11 : decode cX10_netHeat 11 = .ok (.ldc2_w 189, 3) := by decide +kernel
theorem dX10_netHeat_14 : decode cX10_netHeat 14 = .ok (.lreturn, 1) := by decide +kernel
theorem dX10_netHeat_15 : decode cX10_netHeat 15 = .ok (.aload_n 0, 1) := by decide +kernel
theorem dX10_netHeat_16 : decode cX10_netHeat 16 = .ok (.getfield 10, 3) := by decide +kernel
theorem dX10_netHeat_19 : decode cX10_netHeat 19 = .ok (.invokevirtual 191, 3) := by decide +kernel
theorem dX10_netHeat_22 : decode cX10_netHeat 22 = .ok (.aload_n 0, 1) := by decide +kernel
theorem dX10_netHeat_23 : decode cX10_netHeat 23 = .ok (.getfield 10, 3) := by decide +kernel
theorem dX10_netHeat_26 : decode cX10_netHeat 26 = .ok (.getfield 48, 3) := by decide +kernel
theorem dX10_netHeat_29 : decode cX10_netHeat 29 = .ok (.iload_n 1, 1) := by decide +kernel
theorem dX10_netHeat_30 : decode cX10_netHeat 30 = .ok (.aaload, 1) := by decide +kernel
theorem dX10_netHeat_31 : decode cX10_netHeat 31 = .ok (.invokevirtual 204, 3) := by decide +kernel
theorem dX10_netHeat_34 : decode cX10_netHeat 34 = .ok (.lreturn, 1) := by decide +kernel
theorem dX10_margin_0 : decode cX10_margin 0 = .ok (.aload_n 0, 1) := by decide +kernel
theorem dX10_margin_1 : decode cX10_margin 1 = .ok (.getfield 10, 3) := by decide +kernel
theorem dX10_margin_4 : decode cX10_margin 4 = .ok (.iload_n 1, 1) := by decide +kernel
theorem dX10_margin_5 : decode cX10_margin 5 = .ok (.invokevirtual 58, 3) := by decide +kernel
theorem dX10_margin_8 : decode cX10_margin 8 = .ok (.ifCond .ne 6, 3) := by decide +kernel
theorem dX10_margin_11 : decode cX10_margin 11 = .ok (.ldc 62, 2) := by decide +kernel
theorem dX10_margin_13 : decode cX10_margin 13 = .ok (.ireturn, 1) := by decide +kernel
theorem dX10_margin_14 : decode cX10_margin 14 = .ok (.aload_n 0, 1) := by decide +kernel
theorem dX10_margin_15 : decode cX10_margin 15 = .ok (.getfield 10, 3) := by decide +kernel
theorem dX10_margin_18 : decode cX10_margin 18 = .ok (.getfield 48, 3) := by decide +kernel
theorem dX10_margin_21 : decode cX10_margin 21 = .ok (.iload_n 1, 1) := by decide +kernel
theorem dX10_margin_22 : decode cX10_margin 22 = .ok (.aaload, 1) := by decide +kernel
theorem dX10_margin_23 : decode cX10_margin 23 = .ok (.astore_n 2, 1) := by decide +kernel
theorem dX10_margin_24 : decode cX10_margin 24 = .ok (.aload_n 2, 1) := by decide +kernel
theorem dX10_margin_25 : decode cX10_margin 25 = .ok (.getfield 69, 3) := by decide +kernel
theorem dX10_margin_28 : decode cX10_margin 28 = .ok (.aload_n 2, 1) := by decide +kernel
theorem dX10_margin_29 : decode cX10_margin 29 = .ok (.getfield 63, 3) := by decide +kernel
theorem dX10_margin_32 : decode cX10_margin 32 = .ok (.isub, 1) := by decide +kernel
theorem dX10_margin_33 : decode cX10_margin 33 = .ok (.aload_n 2, 1) := by decide +kernel
theorem dX10_margin_34 : decode cX10_margin 34 = .ok (.getfield 66, 3) := by decide +kernel
theorem dX10_margin_37 : decode cX10_margin 37 = .ok (.aload_n 2, 1) := by decide +kernel
theorem dX10_margin_38 : decode cX10_margin 38 = .ok (.getfield 69, 3) := by decide +kernel
theorem dX10_margin_41 : decode cX10_margin 41 = .ok (.isub, 1) := by decide +kernel
theorem dX10_margin_42 : decode cX10_margin 42 = .ok (.invokestatic 208, 3) := by decide +kernel
theorem dX10_margin_45 : decode cX10_margin 45 = .ok (.ireturn, 1) := by decide +kernel
theorem dX10_resetRecords_0 : decode cX10_resetRecords 0 = .ok (.aload_n 0, 1) := by decide +kernel
theorem dX10_resetRecords_1 : decode cX10_resetRecords 1 = .ok (.getfield 10, 3) := by decide +kernel
theorem dX10_resetRecords_4 : decode cX10_resetRecords 4 = .ok (.getfield 213, 3) := by decide +kernel
theorem dX10_resetRecords_7 : decode cX10_resetRecords 7 = .ok (.getfield 217, 3) := by decide +kernel
theorem dX10_resetRecords_10 : decode cX10_resetRecords 10 = .ok (.istore_n 1, 1) := by decide +kernel
theorem dX10_resetRecords_11 : decode cX10_resetRecords 11 = .ok (.aload_n 0, 1) := by decide +kernel
theorem dX10_resetRecords_12 : decode cX10_resetRecords 12 = .ok (.getfield 10, 3) := by decide +kernel
theorem dX10_resetRecords_15 : decode cX10_resetRecords 15 = .ok (.getfield 213, 3) := by decide +kernel
theorem dX10_resetRecords_18 : decode cX10_resetRecords 18 = .ok (.invokevirtual 222, 3) := by decide +kernel
theorem dX10_resetRecords_21 : decode cX10_resetRecords 21 = .ok (.iconst 0, 1) := by decide +kernel
theorem dX10_resetRecords_22 : decode cX10_resetRecords 22 = .ok (.istore_n 2, 1) := by decide +kernel
theorem dX10_resetRecords_23 : decode cX10_resetRecords 23 = .ok (.iload_n 2, 1) := by decide +kernel
theorem dX10_resetRecords_24 : decode cX10_resetRecords 24 = .ok (.aload_n 0, 1) := by decide +kernel
theorem dX10_resetRecords_25 : decode cX10_resetRecords 25 = .ok (.getfield 10, 3) := by decide +kernel
theorem dX10_resetRecords_28 : decode cX10_resetRecords 28 = .ok (.getfield 43, 3) := by decide +kernel
theorem dX10_resetRecords_31 : decode cX10_resetRecords 31 = .ok (.if_icmp .ge 21, 3) := by decide +kernel
theorem dX10_resetRecords_34 : decode cX10_resetRecords 34 = .ok (.aload_n 0, 1) := by decide +kernel
theorem dX10_resetRecords_35 : decode cX10_resetRecords 35 = .ok (.getfield 10, 3) := by decide +kernel
theorem dX10_resetRecords_38 : decode cX10_resetRecords 38 = .ok (.getfield 48, 3) := by decide +kernel
theorem dX10_resetRecords_41 : decode cX10_resetRecords 41 = .ok (.iload_n 2, 1) := by decide +kernel
theorem dX10_resetRecords_42 : decode cX10_resetRecords 42 = .ok (.aaload, 1) := by decide +kernel
theorem dX10_resetRecords_43 : decode cX10_resetRecords 43 = .ok (.invokevirtual 225, 3) := by decide +kernel
theorem dX10_resetRecords_46 : decode cX10_resetRecords 46 = .ok (.iinc 2 1, 3) := by decide +kernel
theorem dX10_resetRecords_49 : decode cX10_resetRecords 49 = .ok (.goto (-26), 3) := by decide +kernel
theorem dX10_resetRecords_52 : decode cX10_resetRecords 52 = .ok (.iload_n 1, 1) := by decide +kernel
theorem dX10_resetRecords_53 : decode cX10_resetRecords 53 = .ok (.ireturn, 1) := by decide +kernel
theorem dX10_lowest_0 : decode cX10_lowest 0 = .ok (.aload_n 0, 1) := by decide +kernel
theorem dX10_lowest_1 : decode cX10_lowest 1 = .ok (.getfield 10, 3) := by decide +kernel
theorem dX10_lowest_4 : decode cX10_lowest 4 = .ok (.iload_n 1, 1) := by decide +kernel
theorem dX10_lowest_5 : decode cX10_lowest 5 = .ok (.invokevirtual 58, 3) := by decide +kernel
theorem dX10_lowest_8 : decode cX10_lowest 8 = .ok (.ifCond .eq 18, 3) := by decide +kernel
theorem dX10_lowest_11 : decode cX10_lowest 11 = .ok (.aload_n 0, 1) := by decide +kernel
theorem dX10_lowest_12 : decode cX10_lowest 12 = .ok (.getfield 10, 3) := by decide +kernel
theorem dX10_lowest_15 : decode cX10_lowest 15 = .ok (.getfield 48, 3) := by decide +kernel
theorem dX10_lowest_18 : decode cX10_lowest 18 = .ok (.iload_n 1, 1) := by decide +kernel
theorem dX10_lowest_19 : decode cX10_lowest 19 = .ok (.aaload, 1) := by decide +kernel
theorem dX10_lowest_20 : decode cX10_lowest 20 = .ok (.getfield 228, 3) := by decide +kernel
theorem dX10_lowest_23 : decode cX10_lowest 23 = .ok (.goto 5, 3) := by decide +kernel
theorem dX10_lowest_26 : decode cX10_lowest 26 = .ok (.ldc 62, 2) := by decide +kernel
theorem dX10_lowest_28 : decode cX10_lowest 28 = .ok (.ireturn, 1) := by decide +kernel
theorem dX10_highest_0 : decode cX10_highest 0 = .ok (.aload_n 0, 1) := by decide +kernel
theorem dX10_highest_1 : decode cX10_highest 1 = .ok (.getfield 10, 3) := by decide +kernel
theorem dX10_highest_4 : decode cX10_highest 4 = .ok (.iload_n 1, 1) := by decide +kernel
theorem dX10_highest_5 : decode cX10_highest 5 = .ok (.invokevirtual 58, 3) := by decide +kernel
theorem dX10_highest_8 : decode cX10_highest 8 = .ok (.ifCond .eq 18, 3) := by decide +kernel
theorem dX10_highest_11 : decode cX10_highest 11 = .ok (.aload_n 0, 1) := by decide +kernel
theorem dX10_highest_12 : decode cX10_highest 12 = .ok (.getfield 10, 3) := by decide +kernel
theorem dX10_highest_15 : decode cX10_highest 15 = .ok (.getfield 48, 3) := by decide +kernel
theorem dX10_highest_18 : decode cX10_highest 18 = .ok (.iload_n 1, 1) := by decide +kernel
theorem dX10_highest_19 : decode cX10_highest 19 = .ok (.aaload, 1) := by decide +kernel
theorem dX10_highest_20 : decode cX10_highest 20 = .ok (.getfield 231, 3) := by decide +kernel
theorem dX10_highest_23 : decode cX10_highest 23 = .ok (.goto 5, 3) := by decide +kernel
theorem dX10_highest_26 : decode cX10_highest 26 = .ok (.ldc 62, 2) := by decide +kernel
theorem dX10_highest_28 : decode cX10_highest 28 = .ok (.ireturn, 1) := by decide +kernel
theorem dX10_violations_0 : decode cX10_violations 0 = .ok (.aload_n 0, 1) := by decide +kernel
theorem dX10_violations_1 : decode cX10_violations 1 = .ok (.getfield 10, 3) := by decide +kernel
theorem dX10_violations_4 : decode cX10_violations 4 = .ok (.iload_n 1, 1) := by decide +kernel
theorem dX10_violations_5 : decode cX10_violations 5 = .ok (.invokevirtual 58, 3) := by decide +kernel
theorem dX10_violations_8 : decode cX10_violations 8 = .ok (.ifCond .eq 18, 3) := by decide +kernel
theorem dX10_violations_11 : decode cX10_violations 11 = .ok (.aload_n 0, 1) := by decide +kernel
theorem dX10_violations_12 : decode cX10_violations 12 = .ok (.getfield 10, 3) := by decide +kernel
theorem dX10_violations_15 : decode cX10_violations 15 = .ok (.getfield 48, 3) := by decide +kernel
theorem dX10_violations_18 : decode cX10_violations 18 = .ok (.iload_n 1, 1) := by decide +kernel
theorem dX10_violations_19 : decode cX10_violations 19 = .ok (.aaload, 1) := by decide +kernel
theorem dX10_violations_20 : decode cX10_violations 20 = .ok (.getfield 234, 3) := by decide +kernel
theorem dX10_violations_23 : decode cX10_violations 23 = .ok (.goto 5, 3) := by decide +kernel
theorem dX10_violations_26 : decode cX10_violations 26 = .ok (.ldc 62, 2) := by decide +kernel
theorem dX10_violations_28 : decode cX10_violations 28 = .ok (.ireturn, 1) := by decide +kernel
theorem dX10_firstViolation_0 : decode cX10_firstViolation 0 = .ok (.aload_n 0, 1) := by decide +kernel
theorem dX10_firstViolation_1 : decode cX10_firstViolation 1 = .ok (.getfield 10, 3) := by decide +kernel
theorem dX10_firstViolation_4 : decode cX10_firstViolation 4 = .ok (.iload_n 1, 1) := by decide +kernel
theorem dX10_firstViolation_5 : decode cX10_firstViolation 5 = .ok (.invokevirtual 58, 3) := by decide +kernel
theorem dX10_firstViolation_8 : decode cX10_firstViolation 8 = .ok (.ifCond .eq 18, 3) := by decide +kernel
theorem dX10_firstViolation_11 : decode cX10_firstViolation 11 = .ok (.aload_n 0, 1) := by decide +kernel
theorem dX10_firstViolation_12 : decode cX10_firstViolation 12 = .ok (.getfield 10, 3) := by decide +kernel
theorem dX10_firstViolation_15 : decode cX10_firstViolation 15 = .ok (.getfield 48, 3) := by decide +kernel
theorem dX10_firstViolation_18 : decode cX10_firstViolation 18 = .ok (.iload_n 1, 1) := by decide +kernel
theorem dX10_firstViolation_19 : decode cX10_firstViolation 19 = .ok (.aaload, 1) := by decide +kernel
theorem dX10_firstViolation_20 : decode cX10_firstViolation 20 = .ok (.getfield 237, 3) := by decide +kernel
theorem dX10_firstViolation_23 : decode cX10_firstViolation 23 = .ok (.goto 5, 3) := by decide +kernel
theorem dX10_firstViolation_26 : decode cX10_firstViolation 26 = .ok (.ldc 62, 2) := by decide +kernel
theorem dX10_firstViolation_28 : decode cX10_firstViolation 28 = .ok (.ireturn, 1) := by decide +kernel
theorem dX10_violatorCount_0 : decode cX10_violatorCount 0 = .ok (.aload_n 0, 1) := by decide +kernel
theorem dX10_violatorCount_1 : decode cX10_violatorCount 1 = .ok (.getfield 10, 3) := by decide +kernel
theorem dX10_violatorCount_4 : decode cX10_violatorCount 4 = .ok (.getfield 213, 3) := by decide +kernel
theorem dX10_violatorCount_7 : decode cX10_violatorCount 7 = .ok (.getfield 217, 3) := by decide +kernel
theorem dX10_violatorCount_10 : decode cX10_violatorCount 10 = .ok (.ireturn, 1) := by decide +kernel
theorem dX10_shedCount_0 : decode cX10_shedCount 0 = .ok (.aload_n 0, 1) := by decide +kernel
theorem dX10_shedCount_1 : decode cX10_shedCount 1 = .ok (.getfield 10, 3) := by decide +kernel
theorem dX10_shedCount_4 : decode cX10_shedCount 4 = .ok (.getfield 213, 3) := by decide +kernel
theorem dX10_shedCount_7 : decode cX10_shedCount 7 = .ok (.getfield 244, 3) := by decide +kernel
theorem dX10_shedCount_10 : decode cX10_shedCount 10 = .ok (.ireturn, 1) := by decide +kernel
theorem dX10_energy_0 : decode cX10_energy 0 = .ok (.iload_n 1, 1) := by decide +kernel
theorem dX10_energy_1 : decode cX10_energy 1 = .ok (.tableswitch 60 0 2 #[27, 38, 49], 27) := by decide +kernel
theorem dX10_energy_28 : decode cX10_energy 28 = .ok (.aload_n 0, 1) := by decide +kernel
theorem dX10_energy_29 : decode cX10_energy 29 = .ok (.getfield 10, 3) := by decide +kernel
theorem dX10_energy_32 : decode cX10_energy 32 = .ok (.getfield 213, 3) := by decide +kernel
theorem dX10_energy_35 : decode cX10_energy 35 = .ok (.getfield 247, 3) := by decide +kernel
theorem dX10_energy_38 : decode cX10_energy 38 = .ok (.lreturn, 1) := by decide +kernel
theorem dX10_energy_39 : decode cX10_energy 39 = .ok (.aload_n 0, 1) := by decide +kernel
theorem dX10_energy_40 : decode cX10_energy 40 = .ok (.getfield 10, 3) := by decide +kernel
theorem dX10_energy_43 : decode cX10_energy 43 = .ok (.getfield 213, 3) := by decide +kernel
theorem dX10_energy_46 : decode cX10_energy 46 = .ok (.getfield 248, 3) := by decide +kernel
theorem dX10_energy_49 : decode cX10_energy 49 = .ok (.lreturn, 1) := by decide +kernel
theorem dX10_energy_50 : decode cX10_energy 50 = .ok (.aload_n 0, 1) := by decide +kernel
theorem dX10_energy_51 : decode cX10_energy 51 = .ok (.getfield 10, 3) := by decide +kernel
theorem dX10_energy_54 : decode cX10_energy 54 = .ok (.getfield 213, 3) := by decide +kernel
theorem dX10_energy_57 : decode cX10_energy 57 = .ok (.getfield 249, 3) := by decide +kernel
theorem dX10_energy_60 : decode cX10_energy 60 = .ok (.lreturn, 1) := by decide +kernel
theorem dX10_energy_61 : decode cX10_energy 61 = .ok (.ldc2_w 252, 3) := by decide +kernel
theorem dX10_energy_64 : decode cX10_energy 64 = .ok (.lreturn, 1) := by decide +kernel
theorem dX10_appendText_0 : decode cX10_appendText 0 = .ok (.aload_n 0, 1) := by decide +kernel
theorem dX10_appendText_1 : decode cX10_appendText 1 = .ok (.getfield 30, 3) := by decide +kernel
theorem dX10_appendText_4 : decode cX10_appendText 4 = .ok (.getfield 282, 3) := by decide +kernel
theorem dX10_appendText_7 : decode cX10_appendText 7 = .ok (.iconst 4, 1) := by decide +kernel
theorem dX10_appendText_8 : decode cX10_appendText 8 = .ok (.iadd, 1) := by decide +kernel
theorem dX10_appendText_9 : decode cX10_appendText 9 = .ok (.sipush 500, 3) := by decide +kernel
theorem dX10_appendText_12 : decode cX10_appendText 12 = .ok (.if_icmp .le 6, 3) := by decide +kernel
theorem dX10_appendText_15 : decode cX10_appendText 15 = .ok (.ldc 47, 2) := by decide +kernel
theorem dX10_appendText_17 : decode cX10_appendText 17 = .ok (.ireturn, 1) := by decide +kernel
theorem dX10_appendText_18 : decode cX10_appendText 18 = .ok (.bipush 24, 2) := by decide +kernel
theorem dX10_appendText_20 : decode cX10_appendText 20 = .ok (.istore_n 2, 1) := by decide +kernel
theorem dX10_appendText_21 : decode cX10_appendText 21 = .ok (.iload_n 2, 1) := by decide +kernel
theorem dX10_appendText_22 : decode cX10_appendText 22 = .ok (.ifCond .lt 41, 3) := by decide +kernel
theorem dX10_appendText_25 : decode cX10_appendText 25 = .ok (.aload_n 0, 1) := by decide +kernel
theorem dX10_appendText_26 : decode cX10_appendText 26 = .ok (.getfield 30, 3) := by decide +kernel
theorem dX10_appendText_29 : decode cX10_appendText 29 = .ok (.getfield 285, 3) := by decide +kernel
theorem dX10_appendText_32 : decode cX10_appendText 32 = .ok (.aload_n 0, 1) := by decide +kernel
theorem dX10_appendText_33 : decode cX10_appendText 33 = .ok (.getfield 30, 3) := by decide +kernel
theorem dX10_appendText_36 : decode cX10_appendText 36 = .ok (.getfield 282, 3) := by decide +kernel
theorem dX10_appendText_39 : decode cX10_appendText 39 = .ok (.iload_n 1, 1) := by decide +kernel
theorem dX10_appendText_40 : decode cX10_appendText 40 = .ok (.iload_n 2, 1) := by decide +kernel
theorem dX10_appendText_41 : decode cX10_appendText 41 = .ok (.ishr, 1) := by decide +kernel
theorem dX10_appendText_42 : decode cX10_appendText 42 = .ok (.i2b, 1) := by decide +kernel
theorem dX10_appendText_43 : decode cX10_appendText 43 = .ok (.bastore, 1) := by decide +kernel
theorem dX10_appendText_44 : decode cX10_appendText 44 = .ok (.aload_n 0, 1) := by decide +kernel
theorem dX10_appendText_45 : decode cX10_appendText 45 = .ok (.getfield 30, 3) := by decide +kernel
theorem dX10_appendText_48 : decode cX10_appendText 48 = .ok (.dup, 1) := by decide +kernel
theorem dX10_appendText_49 : decode cX10_appendText 49 = .ok (.getfield 282, 3) := by decide +kernel
theorem dX10_appendText_52 : decode cX10_appendText 52 = .ok (.iconst 1, 1) := by decide +kernel
theorem dX10_appendText_53 : decode cX10_appendText 53 = .ok (.iadd, 1) := by decide +kernel
theorem dX10_appendText_54 : decode cX10_appendText 54 = .ok (.putfield 282, 3) := by decide +kernel
theorem dX10_appendText_57 : decode cX10_appendText 57 = .ok (.iinc 2 (-8), 3) := by decide +kernel
theorem dX10_appendText_60 : decode cX10_appendText 60 = .ok (.goto (-39), 3) := by decide +kernel
theorem dX10_appendText_63 : decode cX10_appendText 63 = .ok (.aload_n 0, 1) := by decide +kernel
theorem dX10_appendText_64 : decode cX10_appendText 64 = .ok (.getfield 30, 3) := by decide +kernel
theorem dX10_appendText_67 : decode cX10_appendText 67 = .ok (.getfield 282, 3) := by decide +kernel
theorem dX10_appendText_70 : decode cX10_appendText 70 = .ok (.ireturn, 1) := by decide +kernel
theorem dX10_truncateText_0 : decode cX10_truncateText 0 = .ok (.iload_n 1, 1) := by decide +kernel
theorem dX10_truncateText_1 : decode cX10_truncateText 1 = .ok (.iconst 0, 1) := by decide +kernel
theorem dX10_truncateText_2 : decode cX10_truncateText 2 = .ok (.aload_n 0, 1) := by decide +kernel
theorem dX10_truncateText_3 : decode cX10_truncateText 3 = .ok (.getfield 30, 3) := by decide +kernel
theorem dX10_truncateText_6 : decode cX10_truncateText 6 = .ok (.getfield 282, 3) := by decide +kernel
theorem dX10_truncateText_9 : decode cX10_truncateText 9 = .ok (.invokestatic 35, 3) := by decide +kernel
theorem dX10_truncateText_12 : decode cX10_truncateText 12 = .ok (.ifCond .ne 6, 3) := by decide +kernel
theorem dX10_truncateText_15 : decode cX10_truncateText 15 = .ok (.ldc 42, 2) := by decide +kernel
theorem dX10_truncateText_17 : decode cX10_truncateText 17 = .ok (.ireturn, 1) := by decide +kernel
theorem dX10_truncateText_18 : decode cX10_truncateText 18 = .ok (.aload_n 0, 1) := by decide +kernel
theorem dX10_truncateText_19 : decode cX10_truncateText 19 = .ok (.getfield 30, 3) := by decide +kernel
theorem dX10_truncateText_22 : decode cX10_truncateText 22 = .ok (.iload_n 1, 1) := by decide +kernel
theorem dX10_truncateText_23 : decode cX10_truncateText 23 = .ok (.putfield 282, 3) := by decide +kernel
theorem dX10_truncateText_26 : decode cX10_truncateText 26 = .ok (.iload_n 1, 1) := by decide +kernel
theorem dX10_truncateText_27 : decode cX10_truncateText 27 = .ok (.ireturn, 1) := by decide +kernel
theorem dX10_loadRules_0 : decode cX10_loadRules 0 = .ok (.aload_n 0, 1) := by decide +kernel
theorem dX10_loadRules_1 : decode cX10_loadRules 1 = .ok (.getfield 30, 3) := by decide +kernel
theorem dX10_loadRules_4 : decode cX10_loadRules 4 = .ok (.aload_n 0, 1) := by decide +kernel
theorem dX10_loadRules_5 : decode cX10_loadRules 5 = .ok (.getfield 10, 3) := by decide +kernel
theorem dX10_loadRules_8 : decode cX10_loadRules 8 = .ok (.getfield 43, 3) := by decide +kernel
theorem dX10_loadRules_11 : decode cX10_loadRules 11 = .ok (.aload_n 0, 1) := by decide +kernel
theorem dX10_loadRules_12 : decode cX10_loadRules 12 = .ok (.getfield 10, 3) := by decide +kernel
theorem dX10_loadRules_15 : decode cX10_loadRules 15 = .ok (.getfield 100, 3) := by decide +kernel
theorem dX10_loadRules_18 : decode cX10_loadRules 18 = .ok (.aload_n 0, 1) := by decide +kernel
theorem dX10_loadRules_19 : decode cX10_loadRules 19 = .ok (.getfield 10, 3) := by decide +kernel
theorem dX10_loadRules_22 : decode cX10_loadRules 22 = .ok (.getfield 110, 3) := by decide +kernel
theorem dX10_loadRules_25 : decode cX10_loadRules 25 = .ok (.invokevirtual 289, 3) := by decide +kernel
theorem dX10_loadRules_28 : decode cX10_loadRules 28 = .ok (.istore_n 1, 1) := by decide +kernel
theorem dX10_loadRules_29 : decode cX10_loadRules 29 = .ok (.aload_n 0, 1) := by decide +kernel
theorem dX10_loadRules_30 : decode cX10_loadRules 30 = .ok (.getfield 30, 3) := by decide +kernel
theorem dX10_loadRules_33 : decode cX10_loadRules 33 = .ok (.iconst 0, 1) := by decide +kernel
theorem dX10_loadRules_34 : decode cX10_loadRules 34 = .ok (.putfield 282, 3) := by decide +kernel
theorem dX10_loadRules_37 : decode cX10_loadRules 37 = .ok (.iload_n 1, 1) := by decide +kernel
theorem dX10_loadRules_38 : decode cX10_loadRules 38 = .ok (.ifCond .ne 7, 3) := by decide +kernel
theorem dX10_loadRules_41 : decode cX10_loadRules 41 = .ok (.ldc_w 292, 3) := by decide +kernel
theorem dX10_loadRules_44 : decode cX10_loadRules 44 = .ok (.ireturn, 1) := by decide +kernel
theorem dX10_loadRules_45 : decode cX10_loadRules 45 = .ok (.aload_n 0, 1) := by decide +kernel
theorem dX10_loadRules_46 : decode cX10_loadRules 46 = .ok (.getfield 10, 3) := by decide +kernel
theorem dX10_loadRules_49 : decode cX10_loadRules 49 = .ok (.getfield 293, 3) := by decide +kernel
theorem dX10_loadRules_52 : decode cX10_loadRules 52 = .ok (.aload_n 0, 1) := by decide +kernel
theorem dX10_loadRules_53 : decode cX10_loadRules 53 = .ok (.getfield 30, 3) := by decide +kernel
theorem dX10_loadRules_56 : decode cX10_loadRules 56 = .ok (.getfield 297, 3) := by decide +kernel
theorem dX10_loadRules_59 : decode cX10_loadRules 59 = .ok (.invokevirtual 298, 3) := by decide +kernel
theorem dX10_loadRules_62 : decode cX10_loadRules 62 = .ok (.aload_n 0, 1) := by decide +kernel
theorem dX10_loadRules_63 : decode cX10_loadRules 63 = .ok (.getfield 10, 3) := by decide +kernel
theorem dX10_loadRules_66 : decode cX10_loadRules 66 = .ok (.getfield 293, 3) := by decide +kernel
theorem dX10_loadRules_69 : decode cX10_loadRules 69 = .ok (.getfield 303, 3) := by decide +kernel
theorem dX10_loadRules_72 : decode cX10_loadRules 72 = .ok (.ireturn, 1) := by decide +kernel
theorem dX10_save_0 : decode cX10_save 0 = .ok (.iload_n 1, 1) := by decide +kernel
theorem dX10_save_1 : decode cX10_save 1 = .ok (.iconst 0, 1) := by decide +kernel
theorem dX10_save_2 : decode cX10_save 2 = .ok (.iconst 1, 1) := by decide +kernel
theorem dX10_save_3 : decode cX10_save 3 = .ok (.invokestatic 35, 3) := by decide +kernel
theorem dX10_save_6 : decode cX10_save 6 = .ok (.ifCond .ne 5, 3) := by decide +kernel
theorem dX10_save_9 : decode cX10_save 9 = .ok (.iconst 0, 1) := by decide +kernel
theorem dX10_save_10 : decode cX10_save 10 = .ok (.ireturn, 1) := by decide +kernel
theorem dX10_save_11 : decode cX10_save 11 = .ok (.aload_n 0, 1) := by decide +kernel
theorem dX10_save_12 : decode cX10_save 12 = .ok (.getfield 19, 3) := by decide +kernel
theorem dX10_save_15 : decode cX10_save 15 = .ok (.iload_n 1, 1) := by decide +kernel
theorem dX10_save_16 : decode cX10_save 16 = .ok (.aaload, 1) := by decide +kernel
theorem dX10_save_17 : decode cX10_save 17 = .ok (.aload_n 0, 1) := by decide +kernel
theorem dX10_save_18 : decode cX10_save 18 = .ok (.getfield 10, 3) := by decide +kernel
theorem dX10_save_21 : decode cX10_save 21 = .ok (.invokevirtual 254, 3) := by decide +kernel
theorem dX10_save_24 : decode cX10_save 24 = .ok (.aload_n 0, 1) := by decide +kernel
theorem dX10_save_25 : decode cX10_save 25 = .ok (.getfield 23, 3) := by decide +kernel
theorem dX10_save_28 : decode cX10_save 28 = .ok (.iload_n 1, 1) := by decide +kernel
theorem dX10_save_29 : decode cX10_save 29 = .ok (.iconst 1, 1) := by decide +kernel
theorem dX10_save_30 : decode cX10_save 30 = .ok (.bastore, 1) := by decide +kernel
theorem dX10_save_31 : decode cX10_save 31 = .ok (.iconst 1, 1) := by decide +kernel
theorem dX10_save_32 : decode cX10_save 32 = .ok (.ireturn, 1) := by decide +kernel
theorem dX10_restore_0 : decode cX10_restore 0 = .ok (.iload_n 1, 1) := by decide +kernel
theorem dX10_restore_1 : decode cX10_restore 1 = .ok (.iconst 0, 1) := by decide +kernel
theorem dX10_restore_2 : decode cX10_restore 2 = .ok (.iconst 1, 1) := by decide +kernel
theorem dX10_restore_3 : decode cX10_restore 3 = .ok (.invokestatic 35, 3) := by decide +kernel
theorem dX10_restore_6 : decode cX10_restore 6 = .ok (.ifCond .eq 12, 3) := by decide +kernel
theorem dX10_restore_9 : decode cX10_restore 9 = .ok (.aload_n 0, 1) := by decide +kernel
theorem dX10_restore_10 : decode cX10_restore 10 = .ok (.getfield 23, 3) := by decide +kernel
theorem dX10_restore_13 : decode cX10_restore 13 = .ok (.iload_n 1, 1) := by decide +kernel
theorem dX10_restore_14 : decode cX10_restore 14 = .ok (.baload, 1) := by decide +kernel
theorem dX10_restore_15 : decode cX10_restore 15 = .ok (.ifCond .ne 5, 3) := by decide +kernel
theorem dX10_restore_18 : decode cX10_restore 18 = .ok (.iconst 0, 1) := by decide +kernel
theorem dX10_restore_19 : decode cX10_restore 19 = .ok (.ireturn, 1) := by decide +kernel
theorem dX10_restore_20 : decode cX10_restore 20 = .ok (.aload_n 0, 1) := by decide +kernel
theorem dX10_restore_21 : decode cX10_restore 21 = .ok (.getfield 10, 3) := by decide +kernel
theorem dX10_restore_24 : decode cX10_restore 24 = .ok (.aload_n 0, 1) := by decide +kernel
theorem dX10_restore_25 : decode cX10_restore 25 = .ok (.getfield 19, 3) := by decide +kernel
theorem dX10_restore_28 : decode cX10_restore 28 = .ok (.iload_n 1, 1) := by decide +kernel
theorem dX10_restore_29 : decode cX10_restore 29 = .ok (.aaload, 1) := by decide +kernel
theorem dX10_restore_30 : decode cX10_restore 30 = .ok (.invokevirtual 254, 3) := by decide +kernel
theorem dX10_restore_33 : decode cX10_restore 33 = .ok (.iconst 1, 1) := by decide +kernel
theorem dX10_restore_34 : decode cX10_restore 34 = .ok (.ireturn, 1) := by decide +kernel
theorem dX10_within_0 : decode cX10_within 0 = .ok (.iload_n 0, 1) := by decide +kernel
theorem dX10_within_1 : decode cX10_within 1 = .ok (.iload_n 1, 1) := by decide +kernel
theorem dX10_within_2 : decode cX10_within 2 = .ok (.if_icmp .lt 12, 3) := by decide +kernel
theorem dX10_within_5 : decode cX10_within 5 = .ok (.iload_n 0, 1) := by decide +kernel
theorem dX10_within_6 : decode cX10_within 6 = .ok (.iload_n 2, 1) := by decide +kernel
theorem dX10_within_7 : decode cX10_within 7 = .ok (.if_icmp .gt 7, 3) := by decide +kernel
theorem dX10_within_10 : decode cX10_within 10 = .ok (.iconst 1, 1) := by decide +kernel
theorem dX10_within_11 : decode cX10_within 11 = .ok (.goto 4, 3) := by decide +kernel
theorem dX10_within_14 : decode cX10_within 14 = .ok (.iconst 0, 1) := by decide +kernel
theorem dX10_within_15 : decode cX10_within 15 = .ok (.ireturn, 1) := by decide +kernel
theorem dX10_limited_0 : decode cX10_limited 0 = .ok (.lload_n 0, 1) := by decide +kernel
theorem dX10_limited_1 : decode cX10_limited 1 = .ok (.lload_n 2, 1) := by decide +kernel
theorem dX10_limited_2 : decode cX10_limited 2 = .ok (.lcmp, 1) := by decide +kernel
theorem dX10_limited_3 : decode cX10_limited 3 = .ok (.ifCond .ge 7, 3) := by decide +kernel
theorem dX10_limited_6 : decode cX10_limited 6 = .ok (.lload_n 2, 1) := by decide +kernel
theorem dX10_limited_7 : decode cX10_limited 7 = .ok (.goto 16, 3) := by decide +kernel
theorem dX10_limited_10 : decode cX10_limited 10 = .ok (.lload_n 0, 1) := by decide +kernel
theorem dX10_limited_11 : decode cX10_limited 11 = .ok (.lload 4, 2) := by decide +kernel
theorem dX10_limited_13 : decode cX10_limited 13 = .ok (.lcmp, 1) := by decide +kernel
theorem dX10_limited_14 : decode cX10_limited 14 = .ok (.ifCond .le 8, 3) := by decide +kernel
theorem dX10_limited_17 : decode cX10_limited 17 = .ok (.lload 4, 2) := by decide +kernel
theorem dX10_limited_19 : decode cX10_limited 19 = .ok (.goto 4, 3) := by decide +kernel
theorem dX10_limited_22 : decode cX10_limited 22 = .ok (.lload_n 0, 1) := by decide +kernel
theorem dX10_limited_23 : decode cX10_limited 23 = .ok (.lreturn, 1) := by decide +kernel
theorem dX10_quotient_0 : decode cX10_quotient 0 = .ok (.lload_n 2, 1) := by decide +kernel
theorem dX10_quotient_1 : decode cX10_quotient 1 = .ok (.lconst 0, 1) := by decide +kernel
theorem dX10_quotient_2 : decode cX10_quotient 2 = .ok (.lcmp, 1) := by decide +kernel
theorem dX10_quotient_3 : decode cX10_quotient 3 = .ok (.ifCond .ne 7, 3) := by decide +kernel
theorem dX10_quotient_6 : decode cX10_quotient 6 = .ok (.lconst 0, 1) := by decide +kernel
theorem dX10_quotient_7 : decode cX10_quotient 7 = .ok (.goto 6, 3) := by decide +kernel
theorem dX10_quotient_10 : decode cX10_quotient 10 = .ok (.lload_n 0, 1) := by decide +kernel
theorem dX10_quotient_11 : decode cX10_quotient 11 = .ok (.lload_n 2, 1) := by decide +kernel
theorem dX10_quotient_12 : decode cX10_quotient 12 = .ok (.ldiv, 1) := by decide +kernel
theorem dX10_quotient_13 : decode cX10_quotient 13 = .ok (.lreturn, 1) := by decide +kernel
end
section
theorem dJ5_init_d00df_0 : decode cJ5_init_d00df 0 = .ok (.aload_n 0, 1) := by decide +kernel
theorem dJ5_init_d00df_1 : decode cJ5_init_d00df 1 = .ok (.invokespecial 3, 3) := by decide +kernel
theorem dJ5_init_d00df_4 : decode cJ5_init_d00df 4 = .ok (.getstatic 18, 3) := by decide +kernel
theorem dJ5_init_d00df_7 : decode cJ5_init_d00df 7 = .ok (.ifCond .eq 18, 3) := by decide +kernel
theorem dJ5_init_d00df_10 : decode cJ5_init_d00df 10 = .ok (.aload_n 0, 1) := by decide +kernel
theorem dJ5_init_d00df_11 : decode cJ5_init_d00df 11 = .ok (.iload_n 1, 1) := by decide +kernel
theorem dJ5_init_d00df_12 : decode cJ5_init_d00df 12 = .ok (.newarray .byte, 2) := by decide +kernel
theorem dJ5_init_d00df_14 : decode cJ5_init_d00df 14 = .ok (.putfield 15, 3) := by decide +kernel
theorem dJ5_init_d00df_17 : decode cJ5_init_d00df 17 = .ok (.aload_n 0, 1) := by decide +kernel
theorem dJ5_init_d00df_18 : decode cJ5_init_d00df 18 = .ok (.iconst 0, 1) := by decide +kernel
theorem dJ5_init_d00df_19 : decode cJ5_init_d00df 19 = .ok (.putfield 22, 3) := by decide +kernel
theorem dJ5_init_d00df_22 : decode cJ5_init_d00df 22 = .ok (.goto 16, 3) := by decide +kernel
theorem dJ5_init_d00df_25 : decode cJ5_init_d00df 25 = .ok (.aload_n 0, 1) := by decide +kernel
theorem dJ5_init_d00df_26 : decode cJ5_init_d00df 26 = .ok (.iload_n 1, 1) := by decide +kernel
theorem dJ5_init_d00df_27 : decode cJ5_init_d00df 27 = .ok (.invokestatic 26, 3) := by decide +kernel
theorem dJ5_init_d00df_30 : decode cJ5_init_d00df 30 = .ok (.putfield 15, 3) := by decide +kernel
theorem dJ5_init_d00df_33 : decode cJ5_init_d00df 33 = .ok (.aload_n 0, 1) := by decide +kernel
theorem dJ5_init_d00df_34 : decode cJ5_init_d00df 34 = .ok (.iconst 1, 1) := by decide +kernel
theorem dJ5_init_d00df_35 : decode cJ5_init_d00df 35 = .ok (.putfield 22, 3) := by decide +kernel
theorem dJ5_init_d00df_38 : decode cJ5_init_d00df 38 = .ok (.return_, 1) := by decide +kernel
theorem dJ5_length_8abf5_0 : decode cJ5_length_8abf5 0 = .ok (.aload_n 0, 1) := by decide +kernel
theorem dJ5_length_8abf5_1 : decode cJ5_length_8abf5 1 = .ok (.getfield 79, 3) := by decide +kernel
theorem dJ5_length_8abf5_4 : decode cJ5_length_8abf5 4 = .ok (.ireturn, 1) := by decide +kernel
theorem dJ5_ensureCapacityInternal_d00df_0 : decode cJ5_ensureCapacityInternal_d00df 0 = .ok (.aload_n 0, 1) := by decide +kernel
theorem dJ5_ensureCapacityInternal_d00df_1 : decode cJ5_ensureCapacityInternal_d00df 1 = .ok (.getfield 15, 3) := by decide +kernel
theorem dJ5_ensureCapacityInternal_d00df_4 : decode cJ5_ensureCapacityInternal_d00df 4 = .ok (.arraylength, 1) := by decide +kernel
theorem dJ5_ensureCapacityInternal_d00df_5 : decode cJ5_ensureCapacityInternal_d00df 5 = .ok (.aload_n 0, 1) := by decide +kernel
theorem dJ5_ensureCapacityInternal_d00df_6 : decode cJ5_ensureCapacityInternal_d00df 6 = .ok (.getfield 22, 3) := by decide +kernel
theorem dJ5_ensureCapacityInternal_d00df_9 : decode cJ5_ensureCapacityInternal_d00df 9 = .ok (.ishr, 1) := by decide +kernel
theorem dJ5_ensureCapacityInternal_d00df_10 : decode cJ5_ensureCapacityInternal_d00df 10 = .ok (.istore_n 2, 1) := by decide +kernel
theorem dJ5_ensureCapacityInternal_d00df_11 : decode cJ5_ensureCapacityInternal_d00df 11 = .ok (.iload_n 1, 1) := by decide +kernel
theorem dJ5_ensureCapacityInternal_d00df_12 : decode cJ5_ensureCapacityInternal_d00df 12 = .ok (.iload_n 2, 1) := by decide +kernel
theorem dJ5_ensureCapacityInternal_d00df_13 : decode cJ5_ensureCapacityInternal_d00df 13 = .ok (.isub, 1) := by decide +kernel
theorem dJ5_ensureCapacityInternal_d00df_14 : decode cJ5_ensureCapacityInternal_d00df 14 = .ok (.ifCond .le 24, 3) := by decide +kernel
theorem dJ5_ensureCapacityInternal_d00df_17 : decode cJ5_ensureCapacityInternal_d00df 17 = .ok (.aload_n 0, 1) := by decide +kernel
theorem dJ5_ensureCapacityInternal_d00df_18 : decode cJ5_ensureCapacityInternal_d00df 18 = .ok (.aload_n 0, 1) := by decide +kernel
theorem dJ5_ensureCapacityInternal_d00df_19 : decode cJ5_ensureCapacityInternal_d00df 19 = .ok (.getfield 15, 3) := by decide +kernel
theorem dJ5_ensureCapacityInternal_d00df_22 : decode cJ5_ensureCapacityInternal_d00df 22 = .ok (.aload_n 0, 1) := by decide +kernel
theorem dJ5_ensureCapacityInternal_d00df_23 : decode cJ5_ensureCapacityInternal_d00df 23 = .ok (.iload_n 1, 1) := by decide +kernel
theorem dJ5_ensureCapacityInternal_d00df_24 : decode cJ5_ensureCapacityInternal_d00df 24 = .ok (.invokevirtual 104, 3) := by decide +kernel
theorem dJ5_ensureCapacityInternal_d00df_27 : decode cJ5_ensureCapacityInternal_d00df 27 = .ok (.aload_n 0, 1) := by decide +kernel
theorem dJ5_ensureCapacityInternal_d00df_28 : decode cJ5_ensureCapacityInternal_d00df 28 = .ok (.getfield 22, 3) := by decide +kernel
theorem dJ5_ensureCapacityInternal_d00df_31 : decode cJ5_ensureCapacityInternal_d00df 31 = .ok (.ishl, 1) := by decide +kernel
theorem dJ5_ensureCapacityInternal_d00df_32 : decode cJ5_ensureCapacityInternal_d00df 32 = .ok (.invokestatic 108, 3) := by decide +kernel
theorem dJ5_ensureCapacityInternal_d00df_35 : decode cJ5_ensureCapacityInternal_d00df 35 = .ok (.putfield 15, 3) := by decide +kernel
theorem dJ5_ensureCapacityInternal_d00df_38 : decode cJ5_ensureCapacityInternal_d00df 38 = .ok (.return_, 1) := by decide +kernel
theorem dJ5_newCapacity_0f7a4_0 : decode cJ5_newCapacity_0f7a4 0 = .ok (.aload_n 0, 1) := by decide +kernel
theorem dJ5_newCapacity_0f7a4_1 : decode cJ5_newCapacity_0f7a4 1 = .ok (.getfield 15, 3) := by decide +kernel
theorem dJ5_newCapacity_0f7a4_4 : decode cJ5_newCapacity_0f7a4 4 = .ok (.arraylength, 1) := by decide +kernel
theorem dJ5_newCapacity_0f7a4_5 : decode cJ5_newCapacity_0f7a4 5 = .ok (.istore_n 2, 1) := by decide +kernel
theorem dJ5_newCapacity_0f7a4_6 : decode cJ5_newCapacity_0f7a4 6 = .ok (.iload_n 1, 1) := by decide +kernel
theorem dJ5_newCapacity_0f7a4_7 : decode cJ5_newCapacity_0f7a4 7 = .ok (.aload_n 0, 1) := by decide +kernel
theorem dJ5_newCapacity_0f7a4_8 : decode cJ5_newCapacity_0f7a4 8 = .ok (.getfield 22, 3) := by decide +kernel
theorem dJ5_newCapacity_0f7a4_11 : decode cJ5_newCapacity_0f7a4 11 = .ok (.ishl, 1) := by decide +kernel
theorem dJ5_newCapacity_0f7a4_12 : decode cJ5_newCapacity_0f7a4 12 = .ok (.istore_n 3, 1) := by decide +kernel
theorem dJ5_newCapacity_0f7a4_13 : decode cJ5_newCapacity_0f7a4 13 = .ok (.iload_n 3, 1) := by decide +kernel
theorem dJ5_newCapacity_0f7a4_14 : decode cJ5_newCapacity_0f7a4 14 = .ok (.iload_n 2, 1) := by decide +kernel
theorem dJ5_newCapacity_0f7a4_15 : decode cJ5_newCapacity_0f7a4 15 = .ok (.isub, 1) := by decide +kernel
theorem dJ5_newCapacity_0f7a4_16 : decode cJ5_newCapacity_0f7a4 16 = .ok (.istore 4, 2) := by decide +kernel
theorem dJ5_newCapacity_0f7a4_18 : decode cJ5_newCapacity_0f7a4 18 = .ok (.iload_n 2, 1) := by decide +kernel
theorem dJ5_newCapacity_0f7a4_19 : decode cJ5_newCapacity_0f7a4 19 = .ok (.iload 4, 2) := by decide +kernel
theorem dJ5_newCapacity_0f7a4_21 : decode cJ5_newCapacity_0f7a4 21 = .ok (.iload_n 2, 1) := by decide +kernel
theorem dJ5_newCapacity_0f7a4_22 : decode cJ5_newCapacity_0f7a4 22 = .ok (.iconst 2, 1) := by decide +kernel
theorem dJ5_newCapacity_0f7a4_23 : decode cJ5_newCapacity_0f7a4 23 = .ok (.aload_n 0, 1) := by decide +kernel
theorem dJ5_newCapacity_0f7a4_24 : decode cJ5_newCapacity_0f7a4 24 = .ok (.getfield 22, 3) := by decide +kernel
theorem dJ5_newCapacity_0f7a4_27 : decode cJ5_newCapacity_0f7a4 27 = .ok (.ishl, 1) := by decide +kernel
theorem dJ5_newCapacity_0f7a4_28 : decode cJ5_newCapacity_0f7a4 28 = .ok (.iadd, 1) := by decide +kernel
theorem dJ5_newCapacity_0f7a4_29 : decode cJ5_newCapacity_0f7a4 29 = .ok (.invokestatic 114, 3) := by decide +kernel
theorem dJ5_newCapacity_0f7a4_32 : decode cJ5_newCapacity_0f7a4 32 = .ok (.istore 5, 2) := by decide +kernel
theorem dJ5_newCapacity_0f7a4_34 : decode cJ5_newCapacity_0f7a4 34 = .ok (.iload 5, 2) := by decide +kernel
theorem dJ5_newCapacity_0f7a4_36 : decode cJ5_newCapacity_0f7a4 36 = .ok (.ldc 39, 2) := by decide +kernel
theorem dJ5_newCapacity_0f7a4_38 : decode cJ5_newCapacity_0f7a4 38 = .ok (.if_icmp .ne 13, 3) := by decide +kernel
theorem dJ5_newCapacity_0f7a4_41 : decode cJ5_newCapacity_0f7a4 41 = .ok (.new 120, 3) := by decide +kernel
theorem dJ5_newCapacity_0f7a4_44 : decode cJ5_newCapacity_0f7a4 44 = .ok (.dup, 1) := by decide +kernel
theorem dJ5_newCapacity_0f7a4_45 : decode cJ5_newCapacity_0f7a4 45 = .ok (.ldc 122, 2) := by decide +kernel
theorem dJ5_newCapacity_0f7a4_47 : decode cJ5_newCapacity_0f7a4 47 = .ok (.invokespecial 124, 3) := by decide +kernel
theorem dJ5_newCapacity_0f7a4_50 : decode cJ5_newCapacity_0f7a4 50 = .ok (.athrow, 1) := by decide +kernel
theorem dJ5_newCapacity_0f7a4_51 : decode cJ5_newCapacity_0f7a4 51 = .ok (.iload 5, 2) := by decide +kernel
theorem dJ5_newCapacity_0f7a4_53 : decode cJ5_newCapacity_0f7a4 53 = .ok (.aload_n 0, 1) := by decide +kernel
theorem dJ5_newCapacity_0f7a4_54 : decode cJ5_newCapacity_0f7a4 54 = .ok (.getfield 22, 3) := by decide +kernel
theorem dJ5_newCapacity_0f7a4_57 : decode cJ5_newCapacity_0f7a4 57 = .ok (.ishr, 1) := by decide +kernel
theorem dJ5_newCapacity_0f7a4_58 : decode cJ5_newCapacity_0f7a4 58 = .ok (.ireturn, 1) := by decide +kernel
theorem dJ5_inflate_da8c8_0 : decode cJ5_inflate_da8c8 0 = .ok (.aload_n 0, 1) := by decide +kernel
theorem dJ5_inflate_da8c8_1 : decode cJ5_inflate_da8c8 1 = .ok (.invokevirtual 83, 3) := by decide +kernel
theorem dJ5_inflate_da8c8_4 : decode cJ5_inflate_da8c8 4 = .ok (.ifCond .ne 4, 3) := by decide +kernel
theorem dJ5_inflate_da8c8_7 : decode cJ5_inflate_da8c8 7 = .ok (.return_, 1) := by decide +kernel
theorem dJ5_inflate_da8c8_8 : decode cJ5_inflate_da8c8 8 = .ok (.aload_n 0, 1) := by decide +kernel
theorem dJ5_inflate_da8c8_9 : decode cJ5_inflate_da8c8 9 = .ok (.getfield 15, 3) := by decide +kernel
theorem dJ5_inflate_da8c8_12 : decode cJ5_inflate_da8c8 12 = .ok (.arraylength, 1) := by decide +kernel
theorem dJ5_inflate_da8c8_13 : decode cJ5_inflate_da8c8 13 = .ok (.invokestatic 26, 3) := by decide +kernel
theorem dJ5_inflate_da8c8_16 : decode cJ5_inflate_da8c8 16 = .ok (.astore_n 1, 1) := by decide +kernel
theorem dJ5_inflate_da8c8_17 : decode cJ5_inflate_da8c8 17 = .ok (.aload_n 0, 1) := by decide +kernel
theorem dJ5_inflate_da8c8_18 : decode cJ5_inflate_da8c8 18 = .ok (.getfield 15, 3) := by decide +kernel
theorem dJ5_inflate_da8c8_21 : decode cJ5_inflate_da8c8 21 = .ok (.iconst 0, 1) := by decide +kernel
theorem dJ5_inflate_da8c8_22 : decode cJ5_inflate_da8c8 22 = .ok (.aload_n 1, 1) := by decide +kernel
theorem dJ5_inflate_da8c8_23 : decode cJ5_inflate_da8c8 23 = .ok (.iconst 0, 1) := by decide +kernel
theorem dJ5_inflate_da8c8_24 : decode cJ5_inflate_da8c8 24 = .ok (.aload_n 0, 1) := by decide +kernel
theorem dJ5_inflate_da8c8_25 : decode cJ5_inflate_da8c8 25 = .ok (.getfield 79, 3) := by decide +kernel
theorem dJ5_inflate_da8c8_28 : decode cJ5_inflate_da8c8 28 = .ok (.invokestatic 125, 3) := by decide +kernel
theorem dJ5_inflate_da8c8_31 : decode cJ5_inflate_da8c8 31 = .ok (.aload_n 0, 1) := by decide +kernel
theorem dJ5_inflate_da8c8_32 : decode cJ5_inflate_da8c8 32 = .ok (.aload_n 1, 1) := by decide +kernel
theorem dJ5_inflate_da8c8_33 : decode cJ5_inflate_da8c8 33 = .ok (.putfield 15, 3) := by decide +kernel
theorem dJ5_inflate_da8c8_36 : decode cJ5_inflate_da8c8 36 = .ok (.aload_n 0, 1) := by decide +kernel
theorem dJ5_inflate_da8c8_37 : decode cJ5_inflate_da8c8 37 = .ok (.iconst 1, 1) := by decide +kernel
theorem dJ5_inflate_da8c8_38 : decode cJ5_inflate_da8c8 38 = .ok (.putfield 22, 3) := by decide +kernel
theorem dJ5_inflate_da8c8_41 : decode cJ5_inflate_da8c8 41 = .ok (.return_, 1) := by decide +kernel
theorem dJ5_append_cf1ce_0 : decode cJ5_append_cf1ce 0 = .ok (.aload_n 1, 1) := by decide +kernel
theorem dJ5_append_cf1ce_1 : decode cJ5_append_cf1ce 1 = .ok (.ifnonnull 8, 3) := by decide +kernel
theorem dJ5_append_cf1ce_4 : decode cJ5_append_cf1ce 4 = .ok (.aload_n 0, 1) := by decide +kernel
theorem dJ5_append_cf1ce_5 : decode cJ5_append_cf1ce 5 = .ok (.invokevirtual 204, 3) := by decide +kernel
theorem dJ5_append_cf1ce_8 : decode cJ5_append_cf1ce 8 = .ok (.areturn, 1) := by decide +kernel
theorem dJ5_append_cf1ce_9 : decode cJ5_append_cf1ce 9 = .ok (.aload_n 1, 1) := by decide +kernel
theorem dJ5_append_cf1ce_10 : decode cJ5_append_cf1ce 10 = .ok (.invokevirtual 32, 3) := by decide +kernel
theorem dJ5_append_cf1ce_13 : decode cJ5_append_cf1ce 13 = .ok (.istore_n 2, 1) := by decide +kernel
theorem dJ5_append_cf1ce_14 : decode cJ5_append_cf1ce 14 = .ok (.aload_n 0, 1) := by decide +kernel
theorem dJ5_append_cf1ce_15 : decode cJ5_append_cf1ce 15 = .ok (.aload_n 0, 1) := by decide +kernel
theorem dJ5_append_cf1ce_16 : decode cJ5_append_cf1ce 16 = .ok (.getfield 79, 3) := by decide +kernel
theorem dJ5_append_cf1ce_19 : decode cJ5_append_cf1ce 19 = .ok (.iload_n 2, 1) := by decide +kernel
theorem dJ5_append_cf1ce_20 : decode cJ5_append_cf1ce 20 = .ok (.iadd, 1) := by decide +kernel
theorem dJ5_append_cf1ce_21 : decode cJ5_append_cf1ce 21 = .ok (.invokevirtual 100, 3) := by decide +kernel
theorem dJ5_append_cf1ce_24 : decode cJ5_append_cf1ce 24 = .ok (.aload_n 0, 1) := by decide +kernel
theorem dJ5_append_cf1ce_25 : decode cJ5_append_cf1ce 25 = .ok (.aload_n 0, 1) := by decide +kernel
theorem dJ5_append_cf1ce_26 : decode cJ5_append_cf1ce 26 = .ok (.getfield 79, 3) := by decide +kernel
theorem dJ5_append_cf1ce_29 : decode cJ5_append_cf1ce 29 = .ok (.aload_n 1, 1) := by decide +kernel
theorem dJ5_append_cf1ce_30 : decode cJ5_append_cf1ce 30 = .ok (.invokevirtual 208, 3) := by decide +kernel
theorem dJ5_append_cf1ce_33 : decode cJ5_append_cf1ce 33 = .ok (.aload_n 0, 1) := by decide +kernel
theorem dJ5_append_cf1ce_34 : decode cJ5_append_cf1ce 34 = .ok (.dup, 1) := by decide +kernel
theorem dJ5_append_cf1ce_35 : decode cJ5_append_cf1ce 35 = .ok (.getfield 79, 3) := by decide +kernel
theorem dJ5_append_cf1ce_38 : decode cJ5_append_cf1ce 38 = .ok (.iload_n 2, 1) := by decide +kernel
theorem dJ5_append_cf1ce_39 : decode cJ5_append_cf1ce 39 = .ok (.iadd, 1) := by decide +kernel
theorem dJ5_append_cf1ce_40 : decode cJ5_append_cf1ce 40 = .ok (.putfield 79, 3) := by decide +kernel
theorem dJ5_append_cf1ce_43 : decode cJ5_append_cf1ce 43 = .ok (.aload_n 0, 1) := by decide +kernel
theorem dJ5_append_cf1ce_44 : decode cJ5_append_cf1ce 44 = .ok (.areturn, 1) := by decide +kernel
theorem dJ5_appendNull_278bc_0 : decode cJ5_appendNull_278bc 0 = .ok (.aload_n 0, 1) := by decide +kernel
theorem dJ5_appendNull_278bc_1 : decode cJ5_appendNull_278bc 1 = .ok (.aload_n 0, 1) := by decide +kernel
theorem dJ5_appendNull_278bc_2 : decode cJ5_appendNull_278bc 2 = .ok (.getfield 79, 3) := by decide +kernel
theorem dJ5_appendNull_278bc_5 : decode cJ5_appendNull_278bc 5 = .ok (.iconst 4, 1) := by decide +kernel
theorem dJ5_appendNull_278bc_6 : decode cJ5_appendNull_278bc 6 = .ok (.iadd, 1) := by decide +kernel
theorem dJ5_appendNull_278bc_7 : decode cJ5_appendNull_278bc 7 = .ok (.invokevirtual 100, 3) := by decide +kernel
theorem dJ5_appendNull_278bc_10 : decode cJ5_appendNull_278bc 10 = .ok (.aload_n 0, 1) := by decide +kernel
theorem dJ5_appendNull_278bc_11 : decode cJ5_appendNull_278bc 11 = .ok (.getfield 79, 3) := by decide +kernel
theorem dJ5_appendNull_278bc_14 : decode cJ5_appendNull_278bc 14 = .ok (.istore_n 1, 1) := by decide +kernel
theorem dJ5_appendNull_278bc_15 : decode cJ5_appendNull_278bc 15 = .ok (.aload_n 0, 1) := by decide +kernel
theorem dJ5_appendNull_278bc_16 : decode cJ5_appendNull_278bc 16 = .ok (.getfield 15, 3) := by decide +kernel
theorem dJ5_appendNull_278bc_19 : decode cJ5_appendNull_278bc 19 = .ok (.astore_n 2, 1) := by decide +kernel
theorem dJ5_appendNull_278bc_20 : decode cJ5_appendNull_278bc 20 = .ok (.aload_n 0, 1) := by decide +kernel
theorem dJ5_appendNull_278bc_21 : decode cJ5_appendNull_278bc 21 = .ok (.invokevirtual 83, 3) := by decide +kernel
theorem dJ5_appendNull_278bc_24 : decode cJ5_appendNull_278bc 24 = .ok (.ifCond .eq 38, 3) := by decide +kernel
theorem dJ5_appendNull_278bc_27 : decode cJ5_appendNull_278bc 27 = .ok (.aload_n 2, 1) := by decide +kernel
theorem dJ5_appendNull_278bc_28 : decode cJ5_appendNull_278bc 28 = .ok (.iload_n 1, 1) := by decide +kernel
theorem dJ5_appendNull_278bc_29 : decode cJ5_appendNull_278bc 29 = .ok (.iinc 1 1, 3) := by decide +kernel
theorem dJ5_appendNull_278bc_32 : decode cJ5_appendNull_278bc 32 = .ok (.bipush 110, 2) := by decide +kernel
theorem dJ5_appendNull_278bc_34 : decode cJ5_appendNull_278bc 34 = .ok (.bastore, 1) := by decide +kernel
theorem dJ5_appendNull_278bc_35 : decode cJ5_appendNull_278bc 35 = .ok (.aload_n 2, 1) := by decide +kernel
theorem dJ5_appendNull_278bc_36 : decode cJ5_appendNull_278bc 36 = .ok (.iload_n 1, 1) := by decide +kernel
theorem dJ5_appendNull_278bc_37 : decode cJ5_appendNull_278bc 37 = .ok (.iinc 1 1, 3) := by decide +kernel
theorem dJ5_appendNull_278bc_40 : decode cJ5_appendNull_278bc 40 = .ok (.bipush 117, 2) := by decide +kernel
theorem dJ5_appendNull_278bc_42 : decode cJ5_appendNull_278bc 42 = .ok (.bastore, 1) := by decide +kernel
theorem dJ5_appendNull_278bc_43 : decode cJ5_appendNull_278bc 43 = .ok (.aload_n 2, 1) := by decide +kernel
theorem dJ5_appendNull_278bc_44 : decode cJ5_appendNull_278bc 44 = .ok (.iload_n 1, 1) := by decide +kernel
theorem dJ5_appendNull_278bc_45 : decode cJ5_appendNull_278bc 45 = .ok (.iinc 1 1, 3) := by decide +kernel
theorem dJ5_appendNull_278bc_48 : decode cJ5_appendNull_278bc 48 = .ok (.bipush 108, 2) := by decide +kernel
theorem dJ5_appendNull_278bc_50 : decode cJ5_appendNull_278bc 50 = .ok (.bastore, 1) := by decide +kernel
theorem dJ5_appendNull_278bc_51 : decode cJ5_appendNull_278bc 51 = .ok (.aload_n 2, 1) := by decide +kernel
theorem dJ5_appendNull_278bc_52 : decode cJ5_appendNull_278bc 52 = .ok (.iload_n 1, 1) := by decide +kernel
theorem dJ5_appendNull_278bc_53 : decode cJ5_appendNull_278bc 53 = .ok (.iinc 1 1, 3) := by decide +kernel
theorem dJ5_appendNull_278bc_56 : decode cJ5_appendNull_278bc 56 = .ok (.bipush 108, 2) := by decide +kernel
theorem dJ5_appendNull_278bc_58 : decode cJ5_appendNull_278bc 58 = .ok (.bastore, 1) := by decide +kernel
theorem dJ5_appendNull_278bc_59 : decode cJ5_appendNull_278bc 59 = .ok (.goto 17, 3) := by decide +kernel
theorem dJ5_appendNull_278bc_62 : decode cJ5_appendNull_278bc 62 = .ok (.aload_n 2, 1) := by decide +kernel
theorem dJ5_appendNull_278bc_63 : decode cJ5_appendNull_278bc 63 = .ok (.iload_n 1, 1) := by decide +kernel
theorem dJ5_appendNull_278bc_64 : decode cJ5_appendNull_278bc 64 = .ok (.bipush 110, 2) := by decide +kernel
theorem dJ5_appendNull_278bc_66 : decode cJ5_appendNull_278bc 66 = .ok (.bipush 117, 2) := by decide +kernel
theorem dJ5_appendNull_278bc_68 : decode cJ5_appendNull_278bc 68 = .ok (.bipush 108, 2) := by decide +kernel
theorem dJ5_appendNull_278bc_70 : decode cJ5_appendNull_278bc 70 = .ok (.bipush 108, 2) := by decide +kernel
theorem dJ5_appendNull_278bc_72 : decode cJ5_appendNull_278bc 72 = .ok (.invokestatic 226, 3) := by decide +kernel
theorem dJ5_appendNull_278bc_75 : decode cJ5_appendNull_278bc 75 = .ok (.istore_n 1, 1) := by decide +kernel
theorem dJ5_appendNull_278bc_76 : decode cJ5_appendNull_278bc 76 = .ok (.aload_n 0, 1) := by decide +kernel
theorem dJ5_appendNull_278bc_77 : decode cJ5_appendNull_278bc 77 = .ok (.iload_n 1, 1) := by decide +kernel
theorem dJ5_appendNull_278bc_78 : decode cJ5_appendNull_278bc 78 = .ok (.putfield 79, 3) := by decide +kernel
theorem dJ5_appendNull_278bc_81 : decode cJ5_appendNull_278bc 81 = .ok (.aload_n 0, 1) := by decide +kernel
theorem dJ5_appendNull_278bc_82 : decode cJ5_appendNull_278bc 82 = .ok (.areturn, 1) := by decide +kernel
theorem dJ5_append_c97b9_0 : decode cJ5_append_c97b9 0 = .ok (.aload_n 0, 1) := by decide +kernel
theorem dJ5_append_c97b9_1 : decode cJ5_append_c97b9 1 = .ok (.getfield 79, 3) := by decide +kernel
theorem dJ5_append_c97b9_4 : decode cJ5_append_c97b9 4 = .ok (.istore_n 2, 1) := by decide +kernel
theorem dJ5_append_c97b9_5 : decode cJ5_append_c97b9 5 = .ok (.iload_n 2, 1) := by decide +kernel
theorem dJ5_append_c97b9_6 : decode cJ5_append_c97b9 6 = .ok (.iload_n 1, 1) := by decide +kernel
theorem dJ5_append_c97b9_7 : decode cJ5_append_c97b9 7 = .ok (.invokestatic 245, 3) := by decide +kernel
theorem dJ5_append_c97b9_10 : decode cJ5_append_c97b9 10 = .ok (.iadd, 1) := by decide +kernel
theorem dJ5_append_c97b9_11 : decode cJ5_append_c97b9 11 = .ok (.istore_n 3, 1) := by decide +kernel
theorem dJ5_append_c97b9_12 : decode cJ5_append_c97b9 12 = .ok (.aload_n 0, 1) := by decide +kernel
theorem dJ5_append_c97b9_13 : decode cJ5_append_c97b9 13 = .ok (.iload_n 3, 1) := by decide +kernel
theorem dJ5_append_c97b9_14 : decode cJ5_append_c97b9 14 = .ok (.invokevirtual 100, 3) := by decide +kernel
theorem dJ5_append_c97b9_17 : decode cJ5_append_c97b9 17 = .ok (.aload_n 0, 1) := by decide +kernel
theorem dJ5_append_c97b9_18 : decode cJ5_append_c97b9 18 = .ok (.invokevirtual 83, 3) := by decide +kernel
theorem dJ5_append_c97b9_21 : decode cJ5_append_c97b9 21 = .ok (.ifCond .eq 16, 3) := by decide +kernel
theorem dJ5_append_c97b9_24 : decode cJ5_append_c97b9 24 = .ok (.iload_n 1, 1) := by decide +kernel
theorem dJ5_append_c97b9_25 : decode cJ5_append_c97b9 25 = .ok (.iload_n 3, 1) := by decide +kernel
theorem dJ5_append_c97b9_26 : decode cJ5_append_c97b9 26 = .ok (.aload_n 0, 1) := by decide +kernel
theorem dJ5_append_c97b9_27 : decode cJ5_append_c97b9 27 = .ok (.getfield 15, 3) := by decide +kernel
theorem dJ5_append_c97b9_30 : decode cJ5_append_c97b9 30 = .ok (.invokestatic 248, 3) := by decide +kernel
theorem dJ5_append_c97b9_33 : decode cJ5_append_c97b9 33 = .ok (.pop, 1) := by decide +kernel
theorem dJ5_append_c97b9_34 : decode cJ5_append_c97b9 34 = .ok (.goto 14, 3) := by decide +kernel
theorem dJ5_append_c97b9_37 : decode cJ5_append_c97b9 37 = .ok (.iload_n 1, 1) := by decide +kernel
theorem dJ5_append_c97b9_38 : decode cJ5_append_c97b9 38 = .ok (.iload_n 2, 1) := by decide +kernel
theorem dJ5_append_c97b9_39 : decode cJ5_append_c97b9 39 = .ok (.iload_n 3, 1) := by decide +kernel
theorem dJ5_append_c97b9_40 : decode cJ5_append_c97b9 40 = .ok (.aload_n 0, 1) := by decide +kernel
theorem dJ5_append_c97b9_41 : decode cJ5_append_c97b9 41 = .ok (.getfield 15, 3) := by decide +kernel
theorem dJ5_append_c97b9_44 : decode cJ5_append_c97b9 44 = .ok (.invokestatic 251, 3) := by decide +kernel
theorem dJ5_append_c97b9_47 : decode cJ5_append_c97b9 47 = .ok (.pop, 1) := by decide +kernel
theorem dJ5_append_c97b9_48 : decode cJ5_append_c97b9 48 = .ok (.aload_n 0, 1) := by decide +kernel
theorem dJ5_append_c97b9_49 : decode cJ5_append_c97b9 49 = .ok (.iload_n 3, 1) := by decide +kernel
theorem dJ5_append_c97b9_50 : decode cJ5_append_c97b9 50 = .ok (.putfield 79, 3) := by decide +kernel
theorem dJ5_append_c97b9_53 : decode cJ5_append_c97b9 53 = .ok (.aload_n 0, 1) := by decide +kernel
theorem dJ5_append_c97b9_54 : decode cJ5_append_c97b9 54 = .ok (.areturn, 1) := by decide +kernel
theorem dJ5_getValue_6d5f1_0 : decode cJ5_getValue_6d5f1 0 = .ok (.aload_n 0, 1) := by decide +kernel
theorem dJ5_getValue_6d5f1_1 : decode cJ5_getValue_6d5f1 1 = .ok (.getfield 15, 3) := by decide +kernel
theorem dJ5_getValue_6d5f1_4 : decode cJ5_getValue_6d5f1 4 = .ok (.areturn, 1) := by decide +kernel
theorem dJ5_isLatin1_aae02_0 : decode cJ5_isLatin1_aae02 0 = .ok (.getstatic 18, 3) := by decide +kernel
theorem dJ5_isLatin1_aae02_3 : decode cJ5_isLatin1_aae02 3 = .ok (.ifCond .eq 14, 3) := by decide +kernel
theorem dJ5_isLatin1_aae02_6 : decode cJ5_isLatin1_aae02 6 = .ok (.aload_n 0, 1) := by decide +kernel
theorem dJ5_isLatin1_aae02_7 : decode cJ5_isLatin1_aae02 7 = .ok (.getfield 22, 3) := by decide +kernel
theorem dJ5_isLatin1_aae02_10 : decode cJ5_isLatin1_aae02 10 = .ok (.ifCond .ne 7, 3) := by decide +kernel
theorem dJ5_isLatin1_aae02_13 : decode cJ5_isLatin1_aae02 13 = .ok (.iconst 1, 1) := by decide +kernel
theorem dJ5_isLatin1_aae02_14 : decode cJ5_isLatin1_aae02 14 = .ok (.goto 4, 3) := by decide +kernel
theorem dJ5_isLatin1_aae02_17 : decode cJ5_isLatin1_aae02 17 = .ok (.iconst 0, 1) := by decide +kernel
theorem dJ5_isLatin1_aae02_18 : decode cJ5_isLatin1_aae02 18 = .ok (.ireturn, 1) := by decide +kernel
theorem dJ5_inflateIfNeededFor_a7421_0 : decode cJ5_inflateIfNeededFor_a7421 0 = .ok (.getstatic 18, 3) := by decide +kernel
theorem dJ5_inflateIfNeededFor_a7421_3 : decode cJ5_inflateIfNeededFor_a7421 3 = .ok (.ifCond .eq 18, 3) := by decide +kernel
theorem dJ5_inflateIfNeededFor_a7421_6 : decode cJ5_inflateIfNeededFor_a7421 6 = .ok (.aload_n 0, 1) := by decide +kernel
theorem dJ5_inflateIfNeededFor_a7421_7 : decode cJ5_inflateIfNeededFor_a7421 7 = .ok (.getfield 22, 3) := by decide +kernel
theorem dJ5_inflateIfNeededFor_a7421_10 : decode cJ5_inflateIfNeededFor_a7421 10 = .ok (.aload_n 1, 1) := by decide +kernel
theorem dJ5_inflateIfNeededFor_a7421_11 : decode cJ5_inflateIfNeededFor_a7421 11 = .ok (.invokevirtual 40, 3) := by decide +kernel
theorem dJ5_inflateIfNeededFor_a7421_14 : decode cJ5_inflateIfNeededFor_a7421 14 = .ok (.if_icmp .eq 7, 3) := by decide +kernel
theorem dJ5_inflateIfNeededFor_a7421_17 : decode cJ5_inflateIfNeededFor_a7421 17 = .ok (.aload_n 0, 1) := by decide +kernel
theorem dJ5_inflateIfNeededFor_a7421_18 : decode cJ5_inflateIfNeededFor_a7421 18 = .ok (.invokevirtual 195, 3) := by decide +kernel
theorem dJ5_inflateIfNeededFor_a7421_21 : decode cJ5_inflateIfNeededFor_a7421 21 = .ok (.return_, 1) := by decide +kernel
theorem dJ5_putStringAt_47b60_0 : decode cJ5_putStringAt_47b60 0 = .ok (.aload_n 0, 1) := by decide +kernel
theorem dJ5_putStringAt_47b60_1 : decode cJ5_putStringAt_47b60 1 = .ok (.aload_n 2, 1) := by decide +kernel
theorem dJ5_putStringAt_47b60_2 : decode cJ5_putStringAt_47b60 2 = .ok (.invokevirtual 397, 3) := by decide +kernel
theorem dJ5_putStringAt_47b60_5 : decode cJ5_putStringAt_47b60 5 = .ok (.aload_n 2, 1) := by decide +kernel
theorem dJ5_putStringAt_47b60_6 : decode cJ5_putStringAt_47b60 6 = .ok (.aload_n 0, 1) := by decide +kernel
theorem dJ5_putStringAt_47b60_7 : decode cJ5_putStringAt_47b60 7 = .ok (.getfield 15, 3) := by decide +kernel
theorem dJ5_putStringAt_47b60_10 : decode cJ5_putStringAt_47b60 10 = .ok (.iload_n 1, 1) := by decide +kernel
theorem dJ5_putStringAt_47b60_11 : decode cJ5_putStringAt_47b60 11 = .ok (.aload_n 0, 1) := by decide +kernel
theorem dJ5_putStringAt_47b60_12 : decode cJ5_putStringAt_47b60 12 = .ok (.getfield 22, 3) := by decide +kernel
theorem dJ5_putStringAt_47b60_15 : decode cJ5_putStringAt_47b60 15 = .ok (.invokevirtual 399, 3) := by decide +kernel
theorem dJ5_putStringAt_47b60_18 : decode cJ5_putStringAt_47b60 18 = .ok (.return_, 1) := by decide +kernel
theorem dJ11_isValidCodePoint_9a6ad_0 : decode cJ11_isValidCodePoint_9a6ad 0 = .ok (.iload_n 0, 1) := by decide +kernel
theorem dJ11_isValidCodePoint_9a6ad_1 : decode cJ11_isValidCodePoint_9a6ad 1 = .ok (.bipush 16, 2) := by decide +kernel
theorem dJ11_isValidCodePoint_9a6ad_3 : decode cJ11_isValidCodePoint_9a6ad 3 = .ok (.iushr, 1) := by decide +kernel
theorem dJ11_isValidCodePoint_9a6ad_4 : decode cJ11_isValidCodePoint_9a6ad 4 = .ok (.istore_n 1, 1) := by decide +kernel
theorem dJ11_isValidCodePoint_9a6ad_5 : decode cJ11_isValidCodePoint_9a6ad 5 = .ok (.iload_n 1, 1) := by decide +kernel
theorem dJ11_isValidCodePoint_9a6ad_6 : decode cJ11_isValidCodePoint_9a6ad 6 = .ok (.bipush 17, 2) := by decide +kernel
theorem dJ11_isValidCodePoint_9a6ad_8 : decode cJ11_isValidCodePoint_9a6ad 8 = .ok (.if_icmp .ge 7, 3) := by decide +kernel
theorem dJ11_isValidCodePoint_9a6ad_11 : decode cJ11_isValidCodePoint_9a6ad 11 = .ok (.iconst 1, 1) := by decide +kernel
theorem dJ11_isValidCodePoint_9a6ad_12 : decode cJ11_isValidCodePoint_9a6ad 12 = .ok (.goto 4, 3) := by decide +kernel
theorem dJ11_isValidCodePoint_9a6ad_15 : decode cJ11_isValidCodePoint_9a6ad 15 = .ok (.iconst 0, 1) := by decide +kernel
theorem dJ11_isValidCodePoint_9a6ad_16 : decode cJ11_isValidCodePoint_9a6ad 16 = .ok (.ireturn, 1) := by decide +kernel
theorem dJ11_highSurrogate_5068e_0 : decode cJ11_highSurrogate_5068e 0 = .ok (.iload_n 0, 1) := by decide +kernel
theorem dJ11_highSurrogate_5068e_1 : decode cJ11_highSurrogate_5068e 1 = .ok (.bipush 10, 2) := by decide +kernel
theorem dJ11_highSurrogate_5068e_3 : decode cJ11_highSurrogate_5068e 3 = .ok (.iushr, 1) := by decide +kernel
theorem dJ11_highSurrogate_5068e_4 : decode cJ11_highSurrogate_5068e 4 = .ok (.ldc 110, 2) := by decide +kernel
theorem dJ11_highSurrogate_5068e_6 : decode cJ11_highSurrogate_5068e 6 = .ok (.iadd, 1) := by decide +kernel
theorem dJ11_highSurrogate_5068e_7 : decode cJ11_highSurrogate_5068e 7 = .ok (.i2c, 1) := by decide +kernel
theorem dJ11_highSurrogate_5068e_8 : decode cJ11_highSurrogate_5068e 8 = .ok (.ireturn, 1) := by decide +kernel
theorem dJ11_lowSurrogate_5068e_0 : decode cJ11_lowSurrogate_5068e 0 = .ok (.iload_n 0, 1) := by decide +kernel
theorem dJ11_lowSurrogate_5068e_1 : decode cJ11_lowSurrogate_5068e 1 = .ok (.sipush 1023, 3) := by decide +kernel
theorem dJ11_lowSurrogate_5068e_4 : decode cJ11_lowSurrogate_5068e 4 = .ok (.iand, 1) := by decide +kernel
theorem dJ11_lowSurrogate_5068e_5 : decode cJ11_lowSurrogate_5068e 5 = .ok (.ldc 76, 2) := by decide +kernel
theorem dJ11_lowSurrogate_5068e_7 : decode cJ11_lowSurrogate_5068e 7 = .ok (.iadd, 1) := by decide +kernel
theorem dJ11_lowSurrogate_5068e_8 : decode cJ11_lowSurrogate_5068e 8 = .ok (.i2c, 1) := by decide +kernel
theorem dJ11_lowSurrogate_5068e_9 : decode cJ11_lowSurrogate_5068e 9 = .ok (.ireturn, 1) := by decide +kernel
theorem dJ6_getChars_ba4f3_0 : decode cJ6_getChars_ba4f3 0 = .ok (.iload_n 1, 1) := by decide +kernel
theorem dJ6_getChars_ba4f3_1 : decode cJ6_getChars_ba4f3 1 = .ok (.istore 5, 2) := by decide +kernel
theorem dJ6_getChars_ba4f3_3 : decode cJ6_getChars_ba4f3 3 = .ok (.iload_n 0, 1) := by decide +kernel
theorem dJ6_getChars_ba4f3_4 : decode cJ6_getChars_ba4f3 4 = .ok (.ifCond .ge 7, 3) := by decide +kernel
theorem dJ6_getChars_ba4f3_7 : decode cJ6_getChars_ba4f3 7 = .ok (.iconst 1, 1) := by decide +kernel
theorem dJ6_getChars_ba4f3_8 : decode cJ6_getChars_ba4f3 8 = .ok (.goto 4, 3) := by decide +kernel
theorem dJ6_getChars_ba4f3_11 : decode cJ6_getChars_ba4f3 11 = .ok (.iconst 0, 1) := by decide +kernel
theorem dJ6_getChars_ba4f3_12 : decode cJ6_getChars_ba4f3 12 = .ok (.istore 6, 2) := by decide +kernel
theorem dJ6_getChars_ba4f3_14 : decode cJ6_getChars_ba4f3 14 = .ok (.iload 6, 2) := by decide +kernel
theorem dJ6_getChars_ba4f3_16 : decode cJ6_getChars_ba4f3 16 = .ok (.ifCond .ne 6, 3) := by decide +kernel
theorem dJ6_getChars_ba4f3_19 : decode cJ6_getChars_ba4f3 19 = .ok (.iload_n 0, 1) := by decide +kernel
theorem dJ6_getChars_ba4f3_20 : decode cJ6_getChars_ba4f3 20 = .ok (.ineg, 1) := by decide +kernel
theorem dJ6_getChars_ba4f3_21 : decode cJ6_getChars_ba4f3 21 = .ok (.istore_n 0, 1) := by decide +kernel
theorem dJ6_getChars_ba4f3_22 : decode cJ6_getChars_ba4f3 22 = .ok (.iload_n 0, 1) := by decide +kernel
theorem dJ6_getChars_ba4f3_23 : decode cJ6_getChars_ba4f3 23 = .ok (.bipush (-100), 2) := by decide +kernel
theorem dJ6_getChars_ba4f3_25 : decode cJ6_getChars_ba4f3 25 = .ok (.if_icmp .gt 47, 3) := by decide +kernel
theorem dJ6_getChars_ba4f3_28 : decode cJ6_getChars_ba4f3 28 = .ok (.iload_n 0, 1) := by decide +kernel
theorem dJ6_getChars_ba4f3_29 : decode cJ6_getChars_ba4f3 29 = .ok (.bipush 100, 2) := by decide +kernel
theorem dJ6_getChars_ba4f3_31 : decode cJ6_getChars_ba4f3 31 = .ok (.idiv, 1) := by decide +kernel
theorem dJ6_getChars_ba4f3_32 : decode cJ6_getChars_ba4f3 32 = .ok (.istore_n 3, 1) := by decide +kernel
theorem dJ6_getChars_ba4f3_33 : decode cJ6_getChars_ba4f3 33 = .ok (.iload_n 3, 1) := by decide +kernel
theorem dJ6_getChars_ba4f3_34 : decode cJ6_getChars_ba4f3 34 = .ok (.bipush 100, 2) := by decide +kernel
theorem dJ6_getChars_ba4f3_36 : decode cJ6_getChars_ba4f3 36 = .ok (.imul, 1) := by decide +kernel
theorem dJ6_getChars_ba4f3_37 : decode cJ6_getChars_ba4f3 37 = .ok (.iload_n 0, 1) := by decide +kernel
theorem dJ6_getChars_ba4f3_38 : decode cJ6_getChars_ba4f3 38 = .ok (.isub, 1) := by decide +kernel
theorem dJ6_getChars_ba4f3_39 : decode cJ6_getChars_ba4f3 39 = .ok (.istore 4, 2) := by decide +kernel
theorem dJ6_getChars_ba4f3_41 : decode cJ6_getChars_ba4f3 41 = .ok (.iload_n 3, 1) := by decide +kernel
theorem dJ6_getChars_ba4f3_42 : decode cJ6_getChars_ba4f3 42 = .ok (.istore_n 0, 1) := by decide +kernel
theorem dJ6_getChars_ba4f3_43 : decode cJ6_getChars_ba4f3 43 = .ok (.aload_n 2, 1) := by decide +kernel
theorem dJ6_getChars_ba4f3_44 : decode cJ6_getChars_ba4f3 44 = .ok (.iinc 5 (-1), 3) := by decide +kernel
theorem dJ6_getChars_ba4f3_47 : decode cJ6_getChars_ba4f3 47 = .ok (.iload 5, 2) := by decide +kernel
theorem dJ6_getChars_ba4f3_49 : decode cJ6_getChars_ba4f3 49 = .ok (.getstatic 83, 3) := by decide +kernel
theorem dJ6_getChars_ba4f3_52 : decode cJ6_getChars_ba4f3 52 = .ok (.iload 4, 2) := by decide +kernel
theorem dJ6_getChars_ba4f3_54 : decode cJ6_getChars_ba4f3 54 = .ok (.baload, 1) := by decide +kernel
theorem dJ6_getChars_ba4f3_55 : decode cJ6_getChars_ba4f3 55 = .ok (.bastore, 1) := by decide +kernel
theorem dJ6_getChars_ba4f3_56 : decode cJ6_getChars_ba4f3 56 = .ok (.aload_n 2, 1) := by decide +kernel
theorem dJ6_getChars_ba4f3_57 : decode cJ6_getChars_ba4f3 57 = .ok (.iinc 5 (-1), 3) := by decide +kernel
theorem dJ6_getChars_ba4f3_60 : decode cJ6_getChars_ba4f3 60 = .ok (.iload 5, 2) := by decide +kernel
theorem dJ6_getChars_ba4f3_62 : decode cJ6_getChars_ba4f3 62 = .ok (.getstatic 87, 3) := by decide +kernel
theorem dJ6_getChars_ba4f3_65 : decode cJ6_getChars_ba4f3 65 = .ok (.iload 4, 2) := by decide +kernel
theorem dJ6_getChars_ba4f3_67 : decode cJ6_getChars_ba4f3 67 = .ok (.baload, 1) := by decide +kernel
theorem dJ6_getChars_ba4f3_68 : decode cJ6_getChars_ba4f3 68 = .ok (.bastore, 1) := by decide +kernel
theorem dJ6_getChars_ba4f3_69 : decode cJ6_getChars_ba4f3 69 = .ok (.goto (-47), 3) := by decide +kernel
theorem dJ6_getChars_ba4f3_72 : decode cJ6_getChars_ba4f3 72 = .ok (.aload_n 2, 1) := by decide +kernel
theorem dJ6_getChars_ba4f3_73 : decode cJ6_getChars_ba4f3 73 = .ok (.iinc 5 (-1), 3) := by decide +kernel
theorem dJ6_getChars_ba4f3_76 : decode cJ6_getChars_ba4f3 76 = .ok (.iload 5, 2) := by decide +kernel
theorem dJ6_getChars_ba4f3_78 : decode cJ6_getChars_ba4f3 78 = .ok (.getstatic 83, 3) := by decide +kernel
theorem dJ6_getChars_ba4f3_81 : decode cJ6_getChars_ba4f3 81 = .ok (.iload_n 0, 1) := by decide +kernel
theorem dJ6_getChars_ba4f3_82 : decode cJ6_getChars_ba4f3 82 = .ok (.ineg, 1) := by decide +kernel
theorem dJ6_getChars_ba4f3_83 : decode cJ6_getChars_ba4f3 83 = .ok (.baload, 1) := by decide +kernel
theorem dJ6_getChars_ba4f3_84 : decode cJ6_getChars_ba4f3 84 = .ok (.bastore, 1) := by decide +kernel
theorem dJ6_getChars_ba4f3_85 : decode cJ6_getChars_ba4f3 85 = .ok (.iload_n 0, 1) := by decide +kernel
theorem dJ6_getChars_ba4f3_86 : decode cJ6_getChars_ba4f3 86 = .ok (.bipush (-9), 2) := by decide +kernel
theorem dJ6_getChars_ba4f3_88 : decode cJ6_getChars_ba4f3 88 = .ok (.if_icmp .ge 16, 3) := by decide +kernel
theorem dJ6_getChars_ba4f3_91 : decode cJ6_getChars_ba4f3 91 = .ok (.aload_n 2, 1) := by decide +kernel
theorem dJ6_getChars_ba4f3_92 : decode cJ6_getChars_ba4f3 92 = .ok (.iinc 5 (-1), 3) := by decide +kernel
theorem dJ6_getChars_ba4f3_95 : decode cJ6_getChars_ba4f3 95 = .ok (.iload 5, 2) := by decide +kernel
theorem dJ6_getChars_ba4f3_97 : decode cJ6_getChars_ba4f3 97 = .ok (.getstatic 87, 3) := by decide +kernel
theorem dJ6_getChars_ba4f3_100 : decode cJ6_getChars_ba4f3 100 = .ok (.iload_n 0, 1) := by decide +kernel
theorem dJ6_getChars_ba4f3_101 : decode cJ6_getChars_ba4f3 101 = .ok (.ineg, 1) := by decide +kernel
theorem dJ6_getChars_ba4f3_102 : decode cJ6_getChars_ba4f3 102 = .ok (.baload, 1) := by decide +kernel
theorem dJ6_getChars_ba4f3_103 : decode cJ6_getChars_ba4f3 103 = .ok (.bastore, 1) := by decide +kernel
theorem dJ6_getChars_ba4f3_104 : decode cJ6_getChars_ba4f3 104 = .ok (.iload 6, 2) := by decide +kernel
theorem dJ6_getChars_ba4f3_106 : decode cJ6_getChars_ba4f3 106 = .ok (.ifCond .eq 12, 3) := by decide +kernel
theorem dJ6_getChars_ba4f3_109 : decode cJ6_getChars_ba4f3 109 = .ok (.aload_n 2, 1) := by decide +kernel
theorem dJ6_getChars_ba4f3_110 : decode cJ6_getChars_ba4f3 110 = .ok (.iinc 5 (-1), 3) := by decide +kernel
theorem dJ6_getChars_ba4f3_113 : decode cJ6_getChars_ba4f3 113 = .ok (.iload 5, 2) := by decide +kernel
theorem dJ6_getChars_ba4f3_115 : decode cJ6_getChars_ba4f3 115 = .ok (.bipush 45, 2) := by decide +kernel
theorem dJ6_getChars_ba4f3_117 : decode cJ6_getChars_ba4f3 117 = .ok (.bastore, 1) := by decide +kernel
theorem dJ6_getChars_ba4f3_118 : decode cJ6_getChars_ba4f3 118 = .ok (.iload 5, 2) := by decide +kernel
theorem dJ6_getChars_ba4f3_120 : decode cJ6_getChars_ba4f3 120 = .ok (.ireturn, 1) := by decide +kernel
theorem dJ6_stringSize_0f7a4_0 : decode cJ6_stringSize_0f7a4 0 = .ok (.iconst 1, 1) := by decide +kernel
theorem dJ6_stringSize_0f7a4_1 : decode cJ6_stringSize_0f7a4 1 = .ok (.istore_n 1, 1) := by decide +kernel
theorem dJ6_stringSize_0f7a4_2 : decode cJ6_stringSize_0f7a4 2 = .ok (.iload_n 0, 1) := by decide +kernel
theorem dJ6_stringSize_0f7a4_3 : decode cJ6_stringSize_0f7a4 3 = .ok (.ifCond .lt 8, 3) := by decide +kernel
theorem dJ6_stringSize_0f7a4_6 : decode cJ6_stringSize_0f7a4 6 = .ok (.iconst 0, 1) := by decide +kernel
theorem dJ6_stringSize_0f7a4_7 : decode cJ6_stringSize_0f7a4 7 = .ok (.istore_n 1, 1) := by decide +kernel
theorem dJ6_stringSize_0f7a4_8 : decode cJ6_stringSize_0f7a4 8 = .ok (.iload_n 0, 1) := by decide +kernel
theorem dJ6_stringSize_0f7a4_9 : decode cJ6_stringSize_0f7a4 9 = .ok (.ineg, 1) := by decide +kernel
theorem dJ6_stringSize_0f7a4_10 : decode cJ6_stringSize_0f7a4 10 = .ok (.istore_n 0, 1) := by decide +kernel
theorem dJ6_stringSize_0f7a4_11 : decode cJ6_stringSize_0f7a4 11 = .ok (.bipush (-10), 2) := by decide +kernel
theorem dJ6_stringSize_0f7a4_13 : decode cJ6_stringSize_0f7a4 13 = .ok (.istore_n 2, 1) := by decide +kernel
theorem dJ6_stringSize_0f7a4_14 : decode cJ6_stringSize_0f7a4 14 = .ok (.iconst 1, 1) := by decide +kernel
theorem dJ6_stringSize_0f7a4_15 : decode cJ6_stringSize_0f7a4 15 = .ok (.istore_n 3, 1) := by decide +kernel
theorem dJ6_stringSize_0f7a4_16 : decode cJ6_stringSize_0f7a4 16 = .ok (.iload_n 3, 1) := by decide +kernel
theorem dJ6_stringSize_0f7a4_17 : decode cJ6_stringSize_0f7a4 17 = .ok (.bipush 10, 2) := by decide +kernel
theorem dJ6_stringSize_0f7a4_19 : decode cJ6_stringSize_0f7a4 19 = .ok (.if_icmp .ge 23, 3) := by decide +kernel
theorem dJ6_stringSize_0f7a4_22 : decode cJ6_stringSize_0f7a4 22 = .ok (.iload_n 0, 1) := by decide +kernel
theorem dJ6_stringSize_0f7a4_23 : decode cJ6_stringSize_0f7a4 23 = .ok (.iload_n 2, 1) := by decide +kernel
theorem dJ6_stringSize_0f7a4_24 : decode cJ6_stringSize_0f7a4 24 = .ok (.if_icmp .le 7, 3) := by decide +kernel
theorem dJ6_stringSize_0f7a4_27 : decode cJ6_stringSize_0f7a4 27 = .ok (.iload_n 3, 1) := by decide +kernel
theorem dJ6_stringSize_0f7a4_28 : decode cJ6_stringSize_0f7a4 28 = .ok (.iload_n 1, 1) := by decide +kernel
theorem dJ6_stringSize_0f7a4_29 : decode cJ6_stringSize_0f7a4 29 = .ok (.iadd, 1) := by decide +kernel
theorem dJ6_stringSize_0f7a4_30 : decode cJ6_stringSize_0f7a4 30 = .ok (.ireturn, 1) := by decide +kernel
theorem dJ6_stringSize_0f7a4_31 : decode cJ6_stringSize_0f7a4 31 = .ok (.bipush 10, 2) := by decide +kernel
theorem dJ6_stringSize_0f7a4_33 : decode cJ6_stringSize_0f7a4 33 = .ok (.iload_n 2, 1) := by decide +kernel
theorem dJ6_stringSize_0f7a4_34 : decode cJ6_stringSize_0f7a4 34 = .ok (.imul, 1) := by decide +kernel
theorem dJ6_stringSize_0f7a4_35 : decode cJ6_stringSize_0f7a4 35 = .ok (.istore_n 2, 1) := by decide +kernel
theorem dJ6_stringSize_0f7a4_36 : decode cJ6_stringSize_0f7a4 36 = .ok (.iinc 3 1, 3) := by decide +kernel
theorem dJ6_stringSize_0f7a4_39 : decode cJ6_stringSize_0f7a4 39 = .ok (.goto (-23), 3) := by decide +kernel
theorem dJ6_stringSize_0f7a4_42 : decode cJ6_stringSize_0f7a4 42 = .ok (.bipush 10, 2) := by decide +kernel
theorem dJ6_stringSize_0f7a4_44 : decode cJ6_stringSize_0f7a4 44 = .ok (.iload_n 1, 1) := by decide +kernel
theorem dJ6_stringSize_0f7a4_45 : decode cJ6_stringSize_0f7a4 45 = .ok (.iadd, 1) := by decide +kernel
theorem dJ6_stringSize_0f7a4_46 : decode cJ6_stringSize_0f7a4 46 = .ok (.ireturn, 1) := by decide +kernel
theorem dJ9_abs_067f4_0 : decode cJ9_abs_067f4 0 = .ok (.lload_n 0, 1) := by decide +kernel
theorem dJ9_abs_067f4_1 : decode cJ9_abs_067f4 1 = .ok (.lconst 0, 1) := by decide +kernel
theorem dJ9_abs_067f4_2 : decode cJ9_abs_067f4 2 = .ok (.lcmp, 1) := by decide +kernel
theorem dJ9_abs_067f4_3 : decode cJ9_abs_067f4 3 = .ok (.ifCond .ge 8, 3) := by decide +kernel
theorem dJ9_abs_067f4_6 : decode cJ9_abs_067f4 6 = .ok (.lload_n 0, 1) := by decide +kernel
theorem dJ9_abs_067f4_7 : decode cJ9_abs_067f4 7 = .ok (.lneg, 1) := by decide +kernel
theorem dJ9_abs_067f4_8 : decode cJ9_abs_067f4 8 = .ok (.goto 4, 3) := by decide +kernel
theorem dJ9_abs_067f4_11 : decode cJ9_abs_067f4 11 = .ok (.lload_n 0, 1) := by decide +kernel
theorem dJ9_abs_067f4_12 : decode cJ9_abs_067f4 12 = .ok (.lreturn, 1) := by decide +kernel
theorem dJ9_max_7cf53_0 : decode cJ9_max_7cf53 0 = .ok (.iload_n 0, 1) := by decide +kernel
theorem dJ9_max_7cf53_1 : decode cJ9_max_7cf53 1 = .ok (.iload_n 1, 1) := by decide +kernel
theorem dJ9_max_7cf53_2 : decode cJ9_max_7cf53 2 = .ok (.if_icmp .lt 7, 3) := by decide +kernel
theorem dJ9_max_7cf53_5 : decode cJ9_max_7cf53 5 = .ok (.iload_n 0, 1) := by decide +kernel
theorem dJ9_max_7cf53_6 : decode cJ9_max_7cf53 6 = .ok (.goto 4, 3) := by decide +kernel
theorem dJ9_max_7cf53_9 : decode cJ9_max_7cf53 9 = .ok (.iload_n 1, 1) := by decide +kernel
theorem dJ9_max_7cf53_10 : decode cJ9_max_7cf53 10 = .ok (.ireturn, 1) := by decide +kernel
theorem dJ9_max_f86c9_0 : decode cJ9_max_f86c9 0 = .ok (.lload_n 0, 1) := by decide +kernel
theorem dJ9_max_f86c9_1 : decode cJ9_max_f86c9 1 = .ok (.lload_n 2, 1) := by decide +kernel
theorem dJ9_max_f86c9_2 : decode cJ9_max_f86c9 2 = .ok (.lcmp, 1) := by decide +kernel
theorem dJ9_max_f86c9_3 : decode cJ9_max_f86c9 3 = .ok (.ifCond .lt 7, 3) := by decide +kernel
theorem dJ9_max_f86c9_6 : decode cJ9_max_f86c9 6 = .ok (.lload_n 0, 1) := by decide +kernel
theorem dJ9_max_f86c9_7 : decode cJ9_max_f86c9 7 = .ok (.goto 4, 3) := by decide +kernel
theorem dJ9_max_f86c9_10 : decode cJ9_max_f86c9 10 = .ok (.lload_n 2, 1) := by decide +kernel
theorem dJ9_max_f86c9_11 : decode cJ9_max_f86c9 11 = .ok (.lreturn, 1) := by decide +kernel
theorem dJ9_min_7cf53_0 : decode cJ9_min_7cf53 0 = .ok (.iload_n 0, 1) := by decide +kernel
theorem dJ9_min_7cf53_1 : decode cJ9_min_7cf53 1 = .ok (.iload_n 1, 1) := by decide +kernel
theorem dJ9_min_7cf53_2 : decode cJ9_min_7cf53 2 = .ok (.if_icmp .gt 7, 3) := by decide +kernel
theorem dJ9_min_7cf53_5 : decode cJ9_min_7cf53 5 = .ok (.iload_n 0, 1) := by decide +kernel
theorem dJ9_min_7cf53_6 : decode cJ9_min_7cf53 6 = .ok (.goto 4, 3) := by decide +kernel
theorem dJ9_min_7cf53_9 : decode cJ9_min_7cf53 9 = .ok (.iload_n 1, 1) := by decide +kernel
theorem dJ9_min_7cf53_10 : decode cJ9_min_7cf53 10 = .ok (.ireturn, 1) := by decide +kernel
theorem dJ0_init_81219_0 : decode cJ0_init_81219 0 = .ok (.aload_n 0, 1) := by decide +kernel
theorem dJ0_init_81219_1 : decode cJ0_init_81219 1 = .ok (.aload_n 1, 1) := by decide +kernel
theorem dJ0_init_81219_2 : decode cJ0_init_81219 2 = .ok (.aconst_null, 1) := by decide +kernel
theorem dJ0_init_81219_3 : decode cJ0_init_81219 3 = .ok (.invokespecial 489, 3) := by decide +kernel
theorem dJ0_init_81219_6 : decode cJ0_init_81219 6 = .ok (.return_, 1) := by decide +kernel
theorem dJ0_length_8abf5_0 : decode cJ0_length_8abf5 0 = .ok (.aload_n 0, 1) := by decide +kernel
theorem dJ0_length_8abf5_1 : decode cJ0_length_8abf5 1 = .ok (.getfield 9, 3) := by decide +kernel
theorem dJ0_length_8abf5_4 : decode cJ0_length_8abf5 4 = .ok (.arraylength, 1) := by decide +kernel
theorem dJ0_length_8abf5_5 : decode cJ0_length_8abf5 5 = .ok (.aload_n 0, 1) := by decide +kernel
theorem dJ0_length_8abf5_6 : decode cJ0_length_8abf5 6 = .ok (.invokevirtual 335, 3) := by decide +kernel
theorem dJ0_length_8abf5_9 : decode cJ0_length_8abf5 9 = .ok (.ishr, 1) := by decide +kernel
theorem dJ0_length_8abf5_10 : decode cJ0_length_8abf5 10 = .ok (.ireturn, 1) := by decide +kernel
theorem dJ0_charAt_5068e_0 : decode cJ0_charAt_5068e 0 = .ok (.aload_n 0, 1) := by decide +kernel
theorem dJ0_charAt_5068e_1 : decode cJ0_charAt_5068e 1 = .ok (.invokevirtual 492, 3) := by decide +kernel
theorem dJ0_charAt_5068e_4 : decode cJ0_charAt_5068e 4 = .ok (.ifCond .eq 12, 3) := by decide +kernel
theorem dJ0_charAt_5068e_7 : decode cJ0_charAt_5068e 7 = .ok (.aload_n 0, 1) := by decide +kernel
theorem dJ0_charAt_5068e_8 : decode cJ0_charAt_5068e 8 = .ok (.getfield 9, 3) := by decide +kernel
theorem dJ0_charAt_5068e_11 : decode cJ0_charAt_5068e 11 = .ok (.iload_n 1, 1) := by decide +kernel
theorem dJ0_charAt_5068e_12 : decode cJ0_charAt_5068e 12 = .ok (.invokestatic 495, 3) := by decide +kernel
theorem dJ0_charAt_5068e_15 : decode cJ0_charAt_5068e 15 = .ok (.ireturn, 1) := by decide +kernel
theorem dJ0_charAt_5068e_16 : decode cJ0_charAt_5068e 16 = .ok (.aload_n 0, 1) := by decide +kernel
theorem dJ0_charAt_5068e_17 : decode cJ0_charAt_5068e 17 = .ok (.getfield 9, 3) := by decide +kernel
theorem dJ0_charAt_5068e_20 : decode cJ0_charAt_5068e 20 = .ok (.iload_n 1, 1) := by decide +kernel
theorem dJ0_charAt_5068e_21 : decode cJ0_charAt_5068e 21 = .ok (.invokestatic 498, 3) := by decide +kernel
theorem dJ0_charAt_5068e_24 : decode cJ0_charAt_5068e 24 = .ok (.ireturn, 1) := by decide +kernel
theorem dJ0_indexOf_0f7a4_0 : decode cJ0_indexOf_0f7a4 0 = .ok (.aload_n 0, 1) := by decide +kernel
theorem dJ0_indexOf_0f7a4_1 : decode cJ0_indexOf_0f7a4 1 = .ok (.iload_n 1, 1) := by decide +kernel
theorem dJ0_indexOf_0f7a4_2 : decode cJ0_indexOf_0f7a4 2 = .ok (.iconst 0, 1) := by decide +kernel
theorem dJ0_indexOf_0f7a4_3 : decode cJ0_indexOf_0f7a4 3 = .ok (.invokevirtual 633, 3) := by decide +kernel
theorem dJ0_indexOf_0f7a4_6 : decode cJ0_indexOf_0f7a4 6 = .ok (.ireturn, 1) := by decide +kernel
theorem dJ0_indexOf_7cf53_0 : decode cJ0_indexOf_7cf53 0 = .ok (.aload_n 0, 1) := by decide +kernel
theorem dJ0_indexOf_7cf53_1 : decode cJ0_indexOf_7cf53 1 = .ok (.invokevirtual 492, 3) := by decide +kernel
theorem dJ0_indexOf_7cf53_4 : decode cJ0_indexOf_7cf53 4 = .ok (.ifCond .eq 19, 3) := by decide +kernel
theorem dJ0_indexOf_7cf53_7 : decode cJ0_indexOf_7cf53 7 = .ok (.aload_n 0, 1) := by decide +kernel
theorem dJ0_indexOf_7cf53_8 : decode cJ0_indexOf_7cf53 8 = .ok (.getfield 9, 3) := by decide +kernel
theorem dJ0_indexOf_7cf53_11 : decode cJ0_indexOf_7cf53 11 = .ok (.iload_n 1, 1) := by decide +kernel
theorem dJ0_indexOf_7cf53_12 : decode cJ0_indexOf_7cf53 12 = .ok (.iload_n 2, 1) := by decide +kernel
theorem dJ0_indexOf_7cf53_13 : decode cJ0_indexOf_7cf53 13 = .ok (.aload_n 0, 1) := by decide +kernel
theorem dJ0_indexOf_7cf53_14 : decode cJ0_indexOf_7cf53 14 = .ok (.invokevirtual 505, 3) := by decide +kernel
theorem dJ0_indexOf_7cf53_17 : decode cJ0_indexOf_7cf53 17 = .ok (.invokestatic 637, 3) := by decide +kernel
theorem dJ0_indexOf_7cf53_20 : decode cJ0_indexOf_7cf53 20 = .ok (.goto 16, 3) := by decide +kernel
theorem dJ0_indexOf_7cf53_23 : decode cJ0_indexOf_7cf53 23 = .ok (.aload_n 0, 1) := by decide +kernel
theorem dJ0_indexOf_7cf53_24 : decode cJ0_indexOf_7cf53 24 = .ok (.getfield 9, 3) := by decide +kernel
theorem dJ0_indexOf_7cf53_27 : decode cJ0_indexOf_7cf53 27 = .ok (.iload_n 1, 1) := by decide +kernel
theorem dJ0_indexOf_7cf53_28 : decode cJ0_indexOf_7cf53 28 = .ok (.iload_n 2, 1) := by decide +kernel
theorem dJ0_indexOf_7cf53_29 : decode cJ0_indexOf_7cf53 29 = .ok (.aload_n 0, 1) := by decide +kernel
theorem dJ0_indexOf_7cf53_30 : decode cJ0_indexOf_7cf53 30 = .ok (.invokevirtual 505, 3) := by decide +kernel
theorem dJ0_indexOf_7cf53_33 : decode cJ0_indexOf_7cf53 33 = .ok (.invokestatic 640, 3) := by decide +kernel
theorem dJ0_indexOf_7cf53_36 : decode cJ0_indexOf_7cf53 36 = .ok (.ireturn, 1) := by decide +kernel
theorem dJ0_getBytes_840e7_0 : decode cJ0_getBytes_840e7 0 = .ok (.aload_n 0, 1) := by decide +kernel
theorem dJ0_getBytes_840e7_1 : decode cJ0_getBytes_840e7 1 = .ok (.invokevirtual 335, 3) := by decide +kernel
theorem dJ0_getBytes_840e7_4 : decode cJ0_getBytes_840e7 4 = .ok (.iload_n 3, 1) := by decide +kernel
theorem dJ0_getBytes_840e7_5 : decode cJ0_getBytes_840e7 5 = .ok (.if_icmp .ne 23, 3) := by decide +kernel
theorem dJ0_getBytes_840e7_8 : decode cJ0_getBytes_840e7 8 = .ok (.aload_n 0, 1) := by decide +kernel
theorem dJ0_getBytes_840e7_9 : decode cJ0_getBytes_840e7 9 = .ok (.getfield 9, 3) := by decide +kernel
theorem dJ0_getBytes_840e7_12 : decode cJ0_getBytes_840e7 12 = .ok (.iconst 0, 1) := by decide +kernel
theorem dJ0_getBytes_840e7_13 : decode cJ0_getBytes_840e7 13 = .ok (.aload_n 1, 1) := by decide +kernel
theorem dJ0_getBytes_840e7_14 : decode cJ0_getBytes_840e7 14 = .ok (.iload_n 2, 1) := by decide +kernel
theorem dJ0_getBytes_840e7_15 : decode cJ0_getBytes_840e7 15 = .ok (.iload_n 3, 1) := by decide +kernel
theorem dJ0_getBytes_840e7_16 : decode cJ0_getBytes_840e7 16 = .ok (.ishl, 1) := by decide +kernel
theorem dJ0_getBytes_840e7_17 : decode cJ0_getBytes_840e7 17 = .ok (.aload_n 0, 1) := by decide +kernel
theorem dJ0_getBytes_840e7_18 : decode cJ0_getBytes_840e7 18 = .ok (.getfield 9, 3) := by decide +kernel
theorem dJ0_getBytes_840e7_21 : decode cJ0_getBytes_840e7 21 = .ok (.arraylength, 1) := by decide +kernel
theorem dJ0_getBytes_840e7_22 : decode cJ0_getBytes_840e7 22 = .ok (.invokestatic 212, 3) := by decide +kernel
theorem dJ0_getBytes_840e7_25 : decode cJ0_getBytes_840e7 25 = .ok (.goto 18, 3) := by decide +kernel
theorem dJ0_getBytes_840e7_28 : decode cJ0_getBytes_840e7 28 = .ok (.aload_n 0, 1) := by decide +kernel
theorem dJ0_getBytes_840e7_29 : decode cJ0_getBytes_840e7 29 = .ok (.getfield 9, 3) := by decide +kernel
theorem dJ0_getBytes_840e7_32 : decode cJ0_getBytes_840e7 32 = .ok (.iconst 0, 1) := by decide +kernel
theorem dJ0_getBytes_840e7_33 : decode cJ0_getBytes_840e7 33 = .ok (.aload_n 1, 1) := by decide +kernel
theorem dJ0_getBytes_840e7_34 : decode cJ0_getBytes_840e7 34 = .ok (.iload_n 2, 1) := by decide +kernel
theorem dJ0_getBytes_840e7_35 : decode cJ0_getBytes_840e7 35 = .ok (.aload_n 0, 1) := by decide +kernel
theorem dJ0_getBytes_840e7_36 : decode cJ0_getBytes_840e7 36 = .ok (.getfield 9, 3) := by decide +kernel
theorem dJ0_getBytes_840e7_39 : decode cJ0_getBytes_840e7 39 = .ok (.arraylength, 1) := by decide +kernel
theorem dJ0_getBytes_840e7_40 : decode cJ0_getBytes_840e7 40 = .ok (.invokestatic 106, 3) := by decide +kernel
theorem dJ0_getBytes_840e7_43 : decode cJ0_getBytes_840e7 43 = .ok (.return_, 1) := by decide +kernel
theorem dJ0_init_db425_0 : decode cJ0_init_db425 0 = .ok (.aload_n 0, 1) := by decide +kernel
theorem dJ0_init_db425_1 : decode cJ0_init_db425 1 = .ok (.invokespecial 1, 3) := by decide +kernel
theorem dJ0_init_db425_4 : decode cJ0_init_db425 4 = .ok (.aload_n 1, 1) := by decide +kernel
theorem dJ0_init_db425_5 : decode cJ0_init_db425 5 = .ok (.invokevirtual 552, 3) := by decide +kernel
theorem dJ0_init_db425_8 : decode cJ0_init_db425 8 = .ok (.astore_n 3, 1) := by decide +kernel
theorem dJ0_init_db425_9 : decode cJ0_init_db425 9 = .ok (.aload_n 1, 1) := by decide +kernel
theorem dJ0_init_db425_10 : decode cJ0_init_db425 10 = .ok (.invokevirtual 549, 3) := by decide +kernel
theorem dJ0_init_db425_13 : decode cJ0_init_db425 13 = .ok (.istore 4, 2) := by decide +kernel
theorem dJ0_init_db425_15 : decode cJ0_init_db425 15 = .ok (.aload_n 1, 1) := by decide +kernel
theorem dJ0_init_db425_16 : decode cJ0_init_db425 16 = .ok (.invokevirtual 1047, 3) := by decide +kernel
theorem dJ0_init_db425_19 : decode cJ0_init_db425 19 = .ok (.ifCond .eq 22, 3) := by decide +kernel
theorem dJ0_init_db425_22 : decode cJ0_init_db425 22 = .ok (.aload_n 0, 1) := by decide +kernel
theorem dJ0_init_db425_23 : decode cJ0_init_db425 23 = .ok (.iconst 0, 1) := by decide +kernel
theorem dJ0_init_db425_24 : decode cJ0_init_db425 24 = .ok (.putfield 15, 3) := by decide +kernel
theorem dJ0_init_db425_27 : decode cJ0_init_db425 27 = .ok (.aload_n 0, 1) := by decide +kernel
theorem dJ0_init_db425_28 : decode cJ0_init_db425 28 = .ok (.aload_n 3, 1) := by decide +kernel
theorem dJ0_init_db425_29 : decode cJ0_init_db425 29 = .ok (.iconst 0, 1) := by decide +kernel
theorem dJ0_init_db425_30 : decode cJ0_init_db425 30 = .ok (.iload 4, 2) := by decide +kernel
theorem dJ0_init_db425_32 : decode cJ0_init_db425 32 = .ok (.invokestatic 54, 3) := by decide +kernel
theorem dJ0_init_db425_35 : decode cJ0_init_db425 35 = .ok (.putfield 9, 3) := by decide +kernel
theorem dJ0_init_db425_38 : decode cJ0_init_db425 38 = .ok (.goto 59, 3) := by decide +kernel
theorem dJ0_init_db425_41 : decode cJ0_init_db425 41 = .ok (.getstatic 38, 3) := by decide +kernel
theorem dJ0_init_db425_44 : decode cJ0_init_db425 44 = .ok (.ifCond .eq 35, 3) := by decide +kernel
theorem dJ0_init_db425_47 : decode cJ0_init_db425 47 = .ok (.aload_n 1, 1) := by decide +kernel
theorem dJ0_init_db425_48 : decode cJ0_init_db425 48 = .ok (.getfield 1048, 3) := by decide +kernel
theorem dJ0_init_db425_51 : decode cJ0_init_db425 51 = .ok (.ifCond .eq 28, 3) := by decide +kernel
theorem dJ0_init_db425_54 : decode cJ0_init_db425 54 = .ok (.aload_n 0, 1) := by decide +kernel
theorem dJ0_init_db425_55 : decode cJ0_init_db425 55 = .ok (.aload_n 3, 1) := by decide +kernel
theorem dJ0_init_db425_56 : decode cJ0_init_db425 56 = .ok (.iconst 0, 1) := by decide +kernel
theorem dJ0_init_db425_57 : decode cJ0_init_db425 57 = .ok (.iload 4, 2) := by decide +kernel
theorem dJ0_init_db425_59 : decode cJ0_init_db425 59 = .ok (.invokestatic 1051, 3) := by decide +kernel
theorem dJ0_init_db425_62 : decode cJ0_init_db425 62 = .ok (.putfield 9, 3) := by decide +kernel
theorem dJ0_init_db425_65 : decode cJ0_init_db425 65 = .ok (.aload_n 0, 1) := by decide +kernel
theorem dJ0_init_db425_66 : decode cJ0_init_db425 66 = .ok (.aload_n 0, 1) := by decide +kernel
theorem dJ0_init_db425_67 : decode cJ0_init_db425 67 = .ok (.getfield 9, 3) := by decide +kernel
theorem dJ0_init_db425_70 : decode cJ0_init_db425 70 = .ok (.iload 4, 2) := by decide +kernel
theorem dJ0_init_db425_72 : decode cJ0_init_db425 72 = .ok (.invokestatic 47, 3) := by decide +kernel
theorem dJ0_init_db425_75 : decode cJ0_init_db425 75 = .ok (.putfield 15, 3) := by decide +kernel
theorem dJ0_init_db425_78 : decode cJ0_init_db425 78 = .ok (.return_, 1) := by decide +kernel
theorem dJ0_init_db425_79 : decode cJ0_init_db425 79 = .ok (.aload_n 0, 1) := by decide +kernel
theorem dJ0_init_db425_80 : decode cJ0_init_db425 80 = .ok (.iconst 1, 1) := by decide +kernel
theorem dJ0_init_db425_81 : decode cJ0_init_db425 81 = .ok (.putfield 15, 3) := by decide +kernel
theorem dJ0_init_db425_84 : decode cJ0_init_db425 84 = .ok (.aload_n 0, 1) := by decide +kernel
theorem dJ0_init_db425_85 : decode cJ0_init_db425 85 = .ok (.aload_n 3, 1) := by decide +kernel
theorem dJ0_init_db425_86 : decode cJ0_init_db425 86 = .ok (.iconst 0, 1) := by decide +kernel
theorem dJ0_init_db425_87 : decode cJ0_init_db425 87 = .ok (.iload 4, 2) := by decide +kernel
theorem dJ0_init_db425_89 : decode cJ0_init_db425 89 = .ok (.iconst 1, 1) := by decide +kernel
theorem dJ0_init_db425_90 : decode cJ0_init_db425 90 = .ok (.ishl, 1) := by decide +kernel
theorem dJ0_init_db425_91 : decode cJ0_init_db425 91 = .ok (.invokestatic 54, 3) := by decide +kernel
theorem dJ0_init_db425_94 : decode cJ0_init_db425 94 = .ok (.putfield 9, 3) := by decide +kernel
theorem dJ0_init_db425_97 : decode cJ0_init_db425 97 = .ok (.return_, 1) := by decide +kernel
theorem dJ0_coder_7d493_0 : decode cJ0_coder_7d493 0 = .ok (.getstatic 38, 3) := by decide +kernel
theorem dJ0_coder_7d493_3 : decode cJ0_coder_7d493 3 = .ok (.ifCond .eq 10, 3) := by decide +kernel
theorem dJ0_coder_7d493_6 : decode cJ0_coder_7d493 6 = .ok (.aload_n 0, 1) := by decide +kernel
theorem dJ0_coder_7d493_7 : decode cJ0_coder_7d493 7 = .ok (.getfield 15, 3) := by decide +kernel
theorem dJ0_coder_7d493_10 : decode cJ0_coder_7d493 10 = .ok (.goto 4, 3) := by decide +kernel
theorem dJ0_coder_7d493_13 : decode cJ0_coder_7d493 13 = .ok (.iconst 1, 1) := by decide +kernel
theorem dJ0_coder_7d493_14 : decode cJ0_coder_7d493 14 = .ok (.ireturn, 1) := by decide +kernel
theorem dJ0_isLatin1_aae02_0 : decode cJ0_isLatin1_aae02 0 = .ok (.getstatic 38, 3) := by decide +kernel
theorem dJ0_isLatin1_aae02_3 : decode cJ0_isLatin1_aae02 3 = .ok (.ifCond .eq 14, 3) := by decide +kernel
theorem dJ0_isLatin1_aae02_6 : decode cJ0_isLatin1_aae02 6 = .ok (.aload_n 0, 1) := by decide +kernel
theorem dJ0_isLatin1_aae02_7 : decode cJ0_isLatin1_aae02 7 = .ok (.getfield 15, 3) := by decide +kernel
theorem dJ0_isLatin1_aae02_10 : decode cJ0_isLatin1_aae02 10 = .ok (.ifCond .ne 7, 3) := by decide +kernel
theorem dJ0_isLatin1_aae02_13 : decode cJ0_isLatin1_aae02 13 = .ok (.iconst 1, 1) := by decide +kernel
theorem dJ0_isLatin1_aae02_14 : decode cJ0_isLatin1_aae02 14 = .ok (.goto 4, 3) := by decide +kernel
theorem dJ0_isLatin1_aae02_17 : decode cJ0_isLatin1_aae02 17 = .ok (.iconst 0, 1) := by decide +kernel
theorem dJ0_isLatin1_aae02_18 : decode cJ0_isLatin1_aae02 18 = .ok (.ireturn, 1) := by decide +kernel
theorem dJ0_checkIndex_df160_0 : decode cJ0_checkIndex_df160 0 = .ok (.iload_n 0, 1) := by decide +kernel
theorem dJ0_checkIndex_df160_1 : decode cJ0_checkIndex_df160 1 = .ok (.iload_n 1, 1) := by decide +kernel
theorem dJ0_checkIndex_df160_2 : decode cJ0_checkIndex_df160 2 = .ok (.getstatic 1053, 3) := by decide +kernel
theorem dJ0_checkIndex_df160_5 : decode cJ0_checkIndex_df160 5 = .ok (.invokestatic 1059, 3) := by decide +kernel
theorem dJ0_checkIndex_df160_8 : decode cJ0_checkIndex_df160 8 = .ok (.pop, 1) := by decide +kernel
theorem dJ0_checkIndex_df160_9 : decode cJ0_checkIndex_df160 9 = .ok (.return_, 1) := by decide +kernel
theorem dJ0_checkBoundsOffCount_cabcc_0 : decode cJ0_checkBoundsOffCount_cabcc 0 = .ok (.iload_n 0, 1) := by decide +kernel
theorem dJ0_checkBoundsOffCount_cabcc_1 : decode cJ0_checkBoundsOffCount_cabcc 1 = .ok (.iload_n 1, 1) := by decide +kernel
theorem dJ0_checkBoundsOffCount_cabcc_2 : decode cJ0_checkBoundsOffCount_cabcc 2 = .ok (.iload_n 2, 1) := by decide +kernel
theorem dJ0_checkBoundsOffCount_cabcc_3 : decode cJ0_checkBoundsOffCount_cabcc 3 = .ok (.getstatic 1053, 3) := by decide +kernel
theorem dJ0_checkBoundsOffCount_cabcc_6 : decode cJ0_checkBoundsOffCount_cabcc 6 = .ok (.invokestatic 1065, 3) := by decide +kernel
theorem dJ0_checkBoundsOffCount_cabcc_9 : decode cJ0_checkBoundsOffCount_cabcc 9 = .ok (.ireturn, 1) := by decide +kernel
theorem dJ0_checkBoundsBeginEnd_23922_0 : decode cJ0_checkBoundsBeginEnd_23922 0 = .ok (.iload_n 0, 1) := by decide +kernel
theorem dJ0_checkBoundsBeginEnd_23922_1 : decode cJ0_checkBoundsBeginEnd_23922 1 = .ok (.iload_n 1, 1) := by decide +kernel
theorem dJ0_checkBoundsBeginEnd_23922_2 : decode cJ0_checkBoundsBeginEnd_23922 2 = .ok (.iload_n 2, 1) := by decide +kernel
theorem dJ0_checkBoundsBeginEnd_23922_3 : decode cJ0_checkBoundsBeginEnd_23922 3 = .ok (.getstatic 1053, 3) := by decide +kernel
theorem dJ0_checkBoundsBeginEnd_23922_6 : decode cJ0_checkBoundsBeginEnd_23922 6 = .ok (.invokestatic 1062, 3) := by decide +kernel
theorem dJ0_checkBoundsBeginEnd_23922_9 : decode cJ0_checkBoundsBeginEnd_23922 9 = .ok (.pop, 1) := by decide +kernel
theorem dJ0_checkBoundsBeginEnd_23922_10 : decode cJ0_checkBoundsBeginEnd_23922 10 = .ok (.return_, 1) := by decide +kernel
theorem dJ4_init_da8c8_0 : decode cJ4_init_da8c8 0 = .ok (.aload_n 0, 1) := by decide +kernel
theorem dJ4_init_da8c8_1 : decode cJ4_init_da8c8 1 = .ok (.bipush 16, 2) := by decide +kernel
theorem dJ4_init_da8c8_3 : decode cJ4_init_da8c8 3 = .ok (.invokespecial 1, 3) := by decide +kernel
theorem dJ4_init_da8c8_6 : decode cJ4_init_da8c8 6 = .ok (.return_, 1) := by decide +kernel
theorem dJ4_append_15ec4_0 : decode cJ4_append_15ec4 0 = .ok (.aload_n 0, 1) := by decide +kernel
theorem dJ4_append_15ec4_1 : decode cJ4_append_15ec4 1 = .ok (.aload_n 1, 1) := by decide +kernel
theorem dJ4_append_15ec4_2 : decode cJ4_append_15ec4 2 = .ok (.invokespecial 29, 3) := by decide +kernel
theorem dJ4_append_15ec4_5 : decode cJ4_append_15ec4 5 = .ok (.pop, 1) := by decide +kernel
theorem dJ4_append_15ec4_6 : decode cJ4_append_15ec4 6 = .ok (.aload_n 0, 1) := by decide +kernel
theorem dJ4_append_15ec4_7 : decode cJ4_append_15ec4 7 = .ok (.areturn, 1) := by decide +kernel
theorem dJ4_append_bf812_0 : decode cJ4_append_bf812 0 = .ok (.aload_n 0, 1) := by decide +kernel
theorem dJ4_append_bf812_1 : decode cJ4_append_bf812 1 = .ok (.iload_n 1, 1) := by decide +kernel
theorem dJ4_append_bf812_2 : decode cJ4_append_bf812 2 = .ok (.invokespecial 53, 3) := by decide +kernel
theorem dJ4_append_bf812_5 : decode cJ4_append_bf812 5 = .ok (.pop, 1) := by decide +kernel
theorem dJ4_append_bf812_6 : decode cJ4_append_bf812 6 = .ok (.aload_n 0, 1) := by decide +kernel
theorem dJ4_append_bf812_7 : decode cJ4_append_bf812 7 = .ok (.areturn, 1) := by decide +kernel
theorem dJ4_toString_0e30d_0 : decode cJ4_toString_0e30d 0 = .ok (.new 18, 3) := by decide +kernel
theorem dJ4_toString_0e30d_3 : decode cJ4_toString_0e30d 3 = .ok (.dup, 1) := by decide +kernel
theorem dJ4_toString_0e30d_4 : decode cJ4_toString_0e30d 4 = .ok (.aload_n 0, 1) := by decide +kernel
theorem dJ4_toString_0e30d_5 : decode cJ4_toString_0e30d 5 = .ok (.invokespecial 137, 3) := by decide +kernel
theorem dJ4_toString_0e30d_8 : decode cJ4_toString_0e30d 8 = .ok (.areturn, 1) := by decide +kernel
theorem dJ4_length_8abf5_0 : decode cJ4_length_8abf5 0 = .ok (.aload_n 0, 1) := by decide +kernel
theorem dJ4_length_8abf5_1 : decode cJ4_length_8abf5 1 = .ok (.invokespecial 343, 3) := by decide +kernel
theorem dJ4_length_8abf5_4 : decode cJ4_length_8abf5 4 = .ok (.ireturn, 1) := by decide +kernel
theorem dJ1_charAt_3b067_0 : decode cJ1_charAt_3b067 0 = .ok (.iload_n 1, 1) := by decide +kernel
theorem dJ1_charAt_3b067_1 : decode cJ1_charAt_3b067 1 = .ok (.aload_n 0, 1) := by decide +kernel
theorem dJ1_charAt_3b067_2 : decode cJ1_charAt_3b067 2 = .ok (.arraylength, 1) := by decide +kernel
theorem dJ1_charAt_3b067_3 : decode cJ1_charAt_3b067 3 = .ok (.invokestatic 9, 3) := by decide +kernel
theorem dJ1_charAt_3b067_6 : decode cJ1_charAt_3b067 6 = .ok (.aload_n 0, 1) := by decide +kernel
theorem dJ1_charAt_3b067_7 : decode cJ1_charAt_3b067 7 = .ok (.iload_n 1, 1) := by decide +kernel
theorem dJ1_charAt_3b067_8 : decode cJ1_charAt_3b067 8 = .ok (.baload, 1) := by decide +kernel
theorem dJ1_charAt_3b067_9 : decode cJ1_charAt_3b067 9 = .ok (.sipush 255, 3) := by decide +kernel
theorem dJ1_charAt_3b067_12 : decode cJ1_charAt_3b067 12 = .ok (.iand, 1) := by decide +kernel
theorem dJ1_charAt_3b067_13 : decode cJ1_charAt_3b067 13 = .ok (.i2c, 1) := by decide +kernel
theorem dJ1_charAt_3b067_14 : decode cJ1_charAt_3b067 14 = .ok (.ireturn, 1) := by decide +kernel
theorem dJ1_canEncode_9a6ad_0 : decode cJ1_canEncode_9a6ad 0 = .ok (.iload_n 0, 1) := by decide +kernel
theorem dJ1_canEncode_9a6ad_1 : decode cJ1_canEncode_9a6ad 1 = .ok (.ifCond .lt 14, 3) := by decide +kernel
theorem dJ1_canEncode_9a6ad_4 : decode cJ1_canEncode_9a6ad 4 = .ok (.iload_n 0, 1) := by decide +kernel
theorem dJ1_canEncode_9a6ad_5 : decode cJ1_canEncode_9a6ad 5 = .ok (.sipush 255, 3) := by decide +kernel
theorem dJ1_canEncode_9a6ad_8 : decode cJ1_canEncode_9a6ad 8 = .ok (.if_icmp .gt 7, 3) := by decide +kernel
theorem dJ1_canEncode_9a6ad_11 : decode cJ1_canEncode_9a6ad 11 = .ok (.iconst 1, 1) := by decide +kernel
theorem dJ1_canEncode_9a6ad_12 : decode cJ1_canEncode_9a6ad 12 = .ok (.goto 4, 3) := by decide +kernel
theorem dJ1_canEncode_9a6ad_15 : decode cJ1_canEncode_9a6ad 15 = .ok (.iconst 0, 1) := by decide +kernel
theorem dJ1_canEncode_9a6ad_16 : decode cJ1_canEncode_9a6ad 16 = .ok (.ireturn, 1) := by decide +kernel
theorem dJ1_indexOf_4cfef_0 : decode cJ1_indexOf_4cfef 0 = .ok (.iload_n 1, 1) := by decide +kernel
theorem dJ1_indexOf_4cfef_1 : decode cJ1_indexOf_4cfef 1 = .ok (.invokestatic 88, 3) := by decide +kernel
theorem dJ1_indexOf_4cfef_4 : decode cJ1_indexOf_4cfef 4 = .ok (.ifCond .ne 5, 3) := by decide +kernel
theorem dJ1_indexOf_4cfef_7 : decode cJ1_indexOf_4cfef 7 = .ok (.iconst (-1), 1) := by decide +kernel
theorem dJ1_indexOf_4cfef_8 : decode cJ1_indexOf_4cfef 8 = .ok (.ireturn, 1) := by decide +kernel
theorem dJ1_indexOf_4cfef_9 : decode cJ1_indexOf_4cfef 9 = .ok (.iload_n 2, 1) := by decide +kernel
theorem dJ1_indexOf_4cfef_10 : decode cJ1_indexOf_4cfef 10 = .ok (.iconst 0, 1) := by decide +kernel
theorem dJ1_indexOf_4cfef_11 : decode cJ1_indexOf_4cfef 11 = .ok (.invokestatic 92, 3) := by decide +kernel
theorem dJ1_indexOf_4cfef_14 : decode cJ1_indexOf_4cfef 14 = .ok (.istore_n 2, 1) := by decide +kernel
theorem dJ1_indexOf_4cfef_15 : decode cJ1_indexOf_4cfef 15 = .ok (.iload_n 3, 1) := by decide +kernel
theorem dJ1_indexOf_4cfef_16 : decode cJ1_indexOf_4cfef 16 = .ok (.aload_n 0, 1) := by decide +kernel
theorem dJ1_indexOf_4cfef_17 : decode cJ1_indexOf_4cfef 17 = .ok (.arraylength, 1) := by decide +kernel
theorem dJ1_indexOf_4cfef_18 : decode cJ1_indexOf_4cfef 18 = .ok (.invokestatic 38, 3) := by decide +kernel
theorem dJ1_indexOf_4cfef_21 : decode cJ1_indexOf_4cfef 21 = .ok (.istore_n 3, 1) := by decide +kernel
theorem dJ1_indexOf_4cfef_22 : decode cJ1_indexOf_4cfef 22 = .ok (.iload_n 2, 1) := by decide +kernel
theorem dJ1_indexOf_4cfef_23 : decode cJ1_indexOf_4cfef 23 = .ok (.iload_n 3, 1) := by decide +kernel
theorem dJ1_indexOf_4cfef_24 : decode cJ1_indexOf_4cfef 24 = .ok (.if_icmp .lt 5, 3) := by decide +kernel
theorem dJ1_indexOf_4cfef_27 : decode cJ1_indexOf_4cfef 27 = .ok (.iconst (-1), 1) := by decide +kernel
theorem dJ1_indexOf_4cfef_28 : decode cJ1_indexOf_4cfef 28 = .ok (.ireturn, 1) := by decide +kernel
theorem dJ1_indexOf_4cfef_29 : decode cJ1_indexOf_4cfef 29 = .ok (.aload_n 0, 1) := by decide +kernel
theorem dJ1_indexOf_4cfef_30 : decode cJ1_indexOf_4cfef 30 = .ok (.iload_n 1, 1) := by decide +kernel
theorem dJ1_indexOf_4cfef_31 : decode cJ1_indexOf_4cfef 31 = .ok (.iload_n 2, 1) := by decide +kernel
theorem dJ1_indexOf_4cfef_32 : decode cJ1_indexOf_4cfef 32 = .ok (.iload_n 3, 1) := by decide +kernel
theorem dJ1_indexOf_4cfef_33 : decode cJ1_indexOf_4cfef 33 = .ok (.invokestatic 95, 3) := by decide +kernel
theorem dJ1_indexOf_4cfef_36 : decode cJ1_indexOf_4cfef 36 = .ok (.ireturn, 1) := by decide +kernel
theorem dJ1_indexOfChar_4cfef_0 : decode cJ1_indexOfChar_4cfef 0 = .ok (.iload_n 1, 1) := by decide +kernel
theorem dJ1_indexOfChar_4cfef_1 : decode cJ1_indexOfChar_4cfef 1 = .ok (.i2b, 1) := by decide +kernel
theorem dJ1_indexOfChar_4cfef_2 : decode cJ1_indexOfChar_4cfef 2 = .ok (.istore 4, 2) := by decide +kernel
theorem dJ1_indexOfChar_4cfef_4 : decode cJ1_indexOfChar_4cfef 4 = .ok (.iload_n 2, 1) := by decide +kernel
theorem dJ1_indexOfChar_4cfef_5 : decode cJ1_indexOfChar_4cfef 5 = .ok (.istore 5, 2) := by decide +kernel
theorem dJ1_indexOfChar_4cfef_7 : decode cJ1_indexOfChar_4cfef 7 = .ok (.iload 5, 2) := by decide +kernel
theorem dJ1_indexOfChar_4cfef_9 : decode cJ1_indexOfChar_4cfef 9 = .ok (.iload_n 3, 1) := by decide +kernel
theorem dJ1_indexOfChar_4cfef_10 : decode cJ1_indexOfChar_4cfef 10 = .ok (.if_icmp .ge 21, 3) := by decide +kernel
theorem dJ1_indexOfChar_4cfef_13 : decode cJ1_indexOfChar_4cfef 13 = .ok (.aload_n 0, 1) := by decide +kernel
theorem dJ1_indexOfChar_4cfef_14 : decode cJ1_indexOfChar_4cfef 14 = .ok (.iload 5, 2) := by decide +kernel
theorem dJ1_indexOfChar_4cfef_16 : decode cJ1_indexOfChar_4cfef 16 = .ok (.baload, 1) := by decide +kernel
theorem dJ1_indexOfChar_4cfef_17 : decode cJ1_indexOfChar_4cfef 17 = .ok (.iload 4, 2) := by decide +kernel
theorem dJ1_indexOfChar_4cfef_19 : decode cJ1_indexOfChar_4cfef 19 = .ok (.if_icmp .ne 6, 3) := by decide +kernel
theorem dJ1_indexOfChar_4cfef_22 : decode cJ1_indexOfChar_4cfef 22 = .ok (.iload 5, 2) := by decide +kernel
theorem dJ1_indexOfChar_4cfef_24 : decode cJ1_indexOfChar_4cfef 24 = .ok (.ireturn, 1) := by decide +kernel
theorem dJ1_indexOfChar_4cfef_25 : decode cJ1_indexOfChar_4cfef 25 = .ok (.iinc 5 1, 3) := by decide +kernel
theorem dJ1_indexOfChar_4cfef_28 : decode cJ1_indexOfChar_4cfef 28 = .ok (.goto (-21), 3) := by decide +kernel
theorem dJ1_indexOfChar_4cfef_31 : decode cJ1_indexOfChar_4cfef 31 = .ok (.iconst (-1), 1) := by decide +kernel
theorem dJ1_indexOfChar_4cfef_32 : decode cJ1_indexOfChar_4cfef 32 = .ok (.ireturn, 1) := by decide +kernel
theorem dJ1_inflate_0e8fd_0 : decode cJ1_inflate_0e8fd 0 = .ok (.aload_n 0, 1) := by decide +kernel
theorem dJ1_inflate_0e8fd_1 : decode cJ1_inflate_0e8fd 1 = .ok (.iload_n 1, 1) := by decide +kernel
theorem dJ1_inflate_0e8fd_2 : decode cJ1_inflate_0e8fd 2 = .ok (.aload_n 2, 1) := by decide +kernel
theorem dJ1_inflate_0e8fd_3 : decode cJ1_inflate_0e8fd 3 = .ok (.iload_n 3, 1) := by decide +kernel
theorem dJ1_inflate_0e8fd_4 : decode cJ1_inflate_0e8fd 4 = .ok (.iload 4, 2) := by decide +kernel
theorem dJ1_inflate_0e8fd_6 : decode cJ1_inflate_0e8fd 6 = .ok (.invokestatic 240, 3) := by decide +kernel
theorem dJ1_inflate_0e8fd_9 : decode cJ1_inflate_0e8fd 9 = .ok (.return_, 1) := by decide +kernel
theorem dJ2_newBytesFor_77867_0 : decode cJ2_newBytesFor_77867 0 = .ok (.iload_n 0, 1) := by decide +kernel
theorem dJ2_newBytesFor_77867_1 : decode cJ2_newBytesFor_77867 1 = .ok (.invokestatic 11, 3) := by decide +kernel
theorem dJ2_newBytesFor_77867_4 : decode cJ2_newBytesFor_77867 4 = .ok (.newarray .byte, 2) := by decide +kernel
theorem dJ2_newBytesFor_77867_6 : decode cJ2_newBytesFor_77867 6 = .ok (.areturn, 1) := by decide +kernel
theorem dJ2_newBytesLength_0f7a4_0 : decode cJ2_newBytesLength_0f7a4 0 = .ok (.iload_n 0, 1) := by decide +kernel
theorem dJ2_newBytesLength_0f7a4_1 : decode cJ2_newBytesLength_0f7a4 1 = .ok (.ifCond .ge 11, 3) := by decide +kernel
theorem dJ2_newBytesLength_0f7a4_4 : decode cJ2_newBytesLength_0f7a4 4 = .ok (.new 17, 3) := by decide +kernel
theorem dJ2_newBytesLength_0f7a4_7 : decode cJ2_newBytesLength_0f7a4 7 = .ok (.dup, 1) := by decide +kernel
theorem dJ2_newBytesLength_0f7a4_8 : decode cJ2_newBytesLength_0f7a4 8 = .ok (.invokespecial 19, 3) := by decide +kernel
theorem dJ2_newBytesLength_0f7a4_11 : decode cJ2_newBytesLength_0f7a4 11 = .ok (.athrow, 1) := by decide +kernel
theorem dJ2_newBytesLength_0f7a4_12 : decode cJ2_newBytesLength_0f7a4 12 = .ok (.iload_n 0, 1) := by decide +kernel
theorem dJ2_newBytesLength_0f7a4_13 : decode cJ2_newBytesLength_0f7a4 13 = .ok (.ldc 20, 2) := by decide +kernel
theorem dJ2_newBytesLength_0f7a4_15 : decode cJ2_newBytesLength_0f7a4 15 = .ok (.if_icmp .lt 40, 3) := by decide +kernel
theorem dJ2_newBytesLength_0f7a4_18 : decode cJ2_newBytesLength_0f7a4 18 = .ok (.new 21, 3) := by decide +kernel
theorem dJ2_newBytesLength_0f7a4_21 : decode cJ2_newBytesLength_0f7a4 21 = .ok (.dup, 1) := by decide +kernel
theorem dJ2_newBytesLength_0f7a4_22 : decode cJ2_newBytesLength_0f7a4 22 = .ok (.new 23, 3) := by decide +kernel
theorem dJ2_newBytesLength_0f7a4_25 : decode cJ2_newBytesLength_0f7a4 25 = .ok (.dup, 1) := by decide +kernel
theorem dJ2_newBytesLength_0f7a4_26 : decode cJ2_newBytesLength_0f7a4 26 = .ok (.invokespecial 25, 3) := by decide +kernel
theorem dJ2_newBytesLength_0f7a4_29 : decode cJ2_newBytesLength_0f7a4 29 = .ok (.ldc 26, 2) := by decide +kernel
theorem dJ2_newBytesLength_0f7a4_31 : decode cJ2_newBytesLength_0f7a4 31 = .ok (.invokevirtual 28, 3) := by decide +kernel
theorem dJ2_newBytesLength_0f7a4_34 : decode cJ2_newBytesLength_0f7a4 34 = .ok (.iload_n 0, 1) := by decide +kernel
theorem dJ2_newBytesLength_0f7a4_35 : decode cJ2_newBytesLength_0f7a4 35 = .ok (.invokevirtual 32, 3) := by decide +kernel
theorem dJ2_newBytesLength_0f7a4_38 : decode cJ2_newBytesLength_0f7a4 38 = .ok (.ldc 35, 2) := by decide +kernel
theorem dJ2_newBytesLength_0f7a4_40 : decode cJ2_newBytesLength_0f7a4 40 = .ok (.invokevirtual 28, 3) := by decide +kernel
theorem dJ2_newBytesLength_0f7a4_43 : decode cJ2_newBytesLength_0f7a4 43 = .ok (.ldc 20, 2) := by decide +kernel
theorem dJ2_newBytesLength_0f7a4_45 : decode cJ2_newBytesLength_0f7a4 45 = .ok (.invokevirtual 32, 3) := by decide +kernel
theorem dJ2_newBytesLength_0f7a4_48 : decode cJ2_newBytesLength_0f7a4 48 = .ok (.invokevirtual 37, 3) := by decide +kernel
theorem dJ2_newBytesLength_0f7a4_51 : decode cJ2_newBytesLength_0f7a4 51 = .ok (.invokespecial 41, 3) := by decide +kernel
theorem dJ2_newBytesLength_0f7a4_54 : decode cJ2_newBytesLength_0f7a4 54 = .ok (.athrow, 1) := by decide +kernel
theorem dJ2_newBytesLength_0f7a4_55 : decode cJ2_newBytesLength_0f7a4 55 = .ok (.iload_n 0, 1) := by decide +kernel
theorem dJ2_newBytesLength_0f7a4_56 : decode cJ2_newBytesLength_0f7a4 56 = .ok (.iconst 1, 1) := by decide +kernel
theorem dJ2_newBytesLength_0f7a4_57 : decode cJ2_newBytesLength_0f7a4 57 = .ok (.ishl, 1) := by decide +kernel
theorem dJ2_newBytesLength_0f7a4_58 : decode cJ2_newBytesLength_0f7a4 58 = .ok (.ireturn, 1) := by decide +kernel
theorem dJ2_putChar_b72d1_0 : decode cJ2_putChar_b72d1 0 = .ok (.getstatic 44, 3) := by decide +kernel
theorem dJ2_putChar_b72d1_3 : decode cJ2_putChar_b72d1 3 = .ok (.ifCond .ne 25, 3) := by decide +kernel
theorem dJ2_putChar_b72d1_6 : decode cJ2_putChar_b72d1 6 = .ok (.iload_n 1, 1) := by decide +kernel
theorem dJ2_putChar_b72d1_7 : decode cJ2_putChar_b72d1 7 = .ok (.ifCond .lt 11, 3) := by decide +kernel
theorem dJ2_putChar_b72d1_10 : decode cJ2_putChar_b72d1 10 = .ok (.iload_n 1, 1) := by decide +kernel
theorem dJ2_putChar_b72d1_11 : decode cJ2_putChar_b72d1 11 = .ok (.aload_n 0, 1) := by decide +kernel
theorem dJ2_putChar_b72d1_12 : decode cJ2_putChar_b72d1 12 = .ok (.invokestatic 48, 3) := by decide +kernel
theorem dJ2_putChar_b72d1_15 : decode cJ2_putChar_b72d1 15 = .ok (.if_icmp .lt 13, 3) := by decide +kernel
theorem dJ2_putChar_b72d1_18 : decode cJ2_putChar_b72d1 18 = .ok (.new 52, 3) := by decide +kernel
theorem dJ2_putChar_b72d1_21 : decode cJ2_putChar_b72d1 21 = .ok (.dup, 1) := by decide +kernel
theorem dJ2_putChar_b72d1_22 : decode cJ2_putChar_b72d1 22 = .ok (.ldc 54, 2) := by decide +kernel
theorem dJ2_putChar_b72d1_24 : decode cJ2_putChar_b72d1 24 = .ok (.invokespecial 56, 3) := by decide +kernel
theorem dJ2_putChar_b72d1_27 : decode cJ2_putChar_b72d1 27 = .ok (.athrow, 1) := by decide +kernel
theorem dJ2_putChar_b72d1_28 : decode cJ2_putChar_b72d1 28 = .ok (.iload_n 1, 1) := by decide +kernel
theorem dJ2_putChar_b72d1_29 : decode cJ2_putChar_b72d1 29 = .ok (.iconst 1, 1) := by decide +kernel
theorem dJ2_putChar_b72d1_30 : decode cJ2_putChar_b72d1 30 = .ok (.ishl, 1) := by decide +kernel
theorem dJ2_putChar_b72d1_31 : decode cJ2_putChar_b72d1 31 = .ok (.istore_n 1, 1) := by decide +kernel
theorem dJ2_putChar_b72d1_32 : decode cJ2_putChar_b72d1 32 = .ok (.aload_n 0, 1) := by decide +kernel
theorem dJ2_putChar_b72d1_33 : decode cJ2_putChar_b72d1 33 = .ok (.iload_n 1, 1) := by decide +kernel
theorem dJ2_putChar_b72d1_34 : decode cJ2_putChar_b72d1 34 = .ok (.iinc 1 1, 3) := by decide +kernel
theorem dJ2_putChar_b72d1_37 : decode cJ2_putChar_b72d1 37 = .ok (.iload_n 2, 1) := by decide +kernel
theorem dJ2_putChar_b72d1_38 : decode cJ2_putChar_b72d1 38 = .ok (.getstatic 59, 3) := by decide +kernel
theorem dJ2_putChar_b72d1_41 : decode cJ2_putChar_b72d1 41 = .ok (.ishr, 1) := by decide +kernel
theorem dJ2_putChar_b72d1_42 : decode cJ2_putChar_b72d1 42 = .ok (.i2b, 1) := by decide +kernel
theorem dJ2_putChar_b72d1_43 : decode cJ2_putChar_b72d1 43 = .ok (.bastore, 1) := by decide +kernel
theorem dJ2_putChar_b72d1_44 : decode cJ2_putChar_b72d1 44 = .ok (.aload_n 0, 1) := by decide +kernel
theorem dJ2_putChar_b72d1_45 : decode cJ2_putChar_b72d1 45 = .ok (.iload_n 1, 1) := by decide +kernel
theorem dJ2_putChar_b72d1_46 : decode cJ2_putChar_b72d1 46 = .ok (.iload_n 2, 1) := by decide +kernel
theorem dJ2_putChar_b72d1_47 : decode cJ2_putChar_b72d1 47 = .ok (.getstatic 63, 3) := by decide +kernel
theorem dJ2_putChar_b72d1_50 : decode cJ2_putChar_b72d1 50 = .ok (.ishr, 1) := by decide +kernel
theorem dJ2_putChar_b72d1_51 : decode cJ2_putChar_b72d1 51 = .ok (.i2b, 1) := by decide +kernel
theorem dJ2_putChar_b72d1_52 : decode cJ2_putChar_b72d1 52 = .ok (.bastore, 1) := by decide +kernel
theorem dJ2_putChar_b72d1_53 : decode cJ2_putChar_b72d1 53 = .ok (.return_, 1) := by decide +kernel
theorem dJ2_getChar_3b067_0 : decode cJ2_getChar_3b067 0 = .ok (.getstatic 44, 3) := by decide +kernel
theorem dJ2_getChar_3b067_3 : decode cJ2_getChar_3b067 3 = .ok (.ifCond .ne 25, 3) := by decide +kernel
theorem dJ2_getChar_3b067_6 : decode cJ2_getChar_3b067 6 = .ok (.iload_n 1, 1) := by decide +kernel
theorem dJ2_getChar_3b067_7 : decode cJ2_getChar_3b067 7 = .ok (.ifCond .lt 11, 3) := by decide +kernel
theorem dJ2_getChar_3b067_10 : decode cJ2_getChar_3b067 10 = .ok (.iload_n 1, 1) := by decide +kernel
theorem dJ2_getChar_3b067_11 : decode cJ2_getChar_3b067 11 = .ok (.aload_n 0, 1) := by decide +kernel
theorem dJ2_getChar_3b067_12 : decode cJ2_getChar_3b067 12 = .ok (.invokestatic 48, 3) := by decide +kernel
theorem dJ2_getChar_3b067_15 : decode cJ2_getChar_3b067 15 = .ok (.if_icmp .lt 13, 3) := by decide +kernel
theorem dJ2_getChar_3b067_18 : decode cJ2_getChar_3b067 18 = .ok (.new 52, 3) := by decide +kernel
theorem dJ2_getChar_3b067_21 : decode cJ2_getChar_3b067 21 = .ok (.dup, 1) := by decide +kernel
theorem dJ2_getChar_3b067_22 : decode cJ2_getChar_3b067 22 = .ok (.ldc 54, 2) := by decide +kernel
theorem dJ2_getChar_3b067_24 : decode cJ2_getChar_3b067 24 = .ok (.invokespecial 56, 3) := by decide +kernel
theorem dJ2_getChar_3b067_27 : decode cJ2_getChar_3b067 27 = .ok (.athrow, 1) := by decide +kernel
theorem dJ2_getChar_3b067_28 : decode cJ2_getChar_3b067 28 = .ok (.iload_n 1, 1) := by decide +kernel
theorem dJ2_getChar_3b067_29 : decode cJ2_getChar_3b067 29 = .ok (.iconst 1, 1) := by decide +kernel
theorem dJ2_getChar_3b067_30 : decode cJ2_getChar_3b067 30 = .ok (.ishl, 1) := by decide +kernel
theorem dJ2_getChar_3b067_31 : decode cJ2_getChar_3b067 31 = .ok (.istore_n 1, 1) := by decide +kernel
theorem dJ2_getChar_3b067_32 : decode cJ2_getChar_3b067 32 = .ok (.aload_n 0, 1) := by decide +kernel
theorem dJ2_getChar_3b067_33 : decode cJ2_getChar_3b067 33 = .ok (.iload_n 1, 1) := by decide +kernel
theorem dJ2_getChar_3b067_34 : decode cJ2_getChar_3b067 34 = .ok (.iinc 1 1, 3) := by decide +kernel
theorem dJ2_getChar_3b067_37 : decode cJ2_getChar_3b067 37 = .ok (.baload, 1) := by decide +kernel
theorem dJ2_getChar_3b067_38 : decode cJ2_getChar_3b067 38 = .ok (.sipush 255, 3) := by decide +kernel
theorem dJ2_getChar_3b067_41 : decode cJ2_getChar_3b067 41 = .ok (.iand, 1) := by decide +kernel
theorem dJ2_getChar_3b067_42 : decode cJ2_getChar_3b067 42 = .ok (.getstatic 59, 3) := by decide +kernel
theorem dJ2_getChar_3b067_45 : decode cJ2_getChar_3b067 45 = .ok (.ishl, 1) := by decide +kernel
theorem dJ2_getChar_3b067_46 : decode cJ2_getChar_3b067 46 = .ok (.aload_n 0, 1) := by decide +kernel
theorem dJ2_getChar_3b067_47 : decode cJ2_getChar_3b067 47 = .ok (.iload_n 1, 1) := by decide +kernel
theorem dJ2_getChar_3b067_48 : decode cJ2_getChar_3b067 48 = .ok (.baload, 1) := by decide +kernel
theorem dJ2_getChar_3b067_49 : decode cJ2_getChar_3b067 49 = .ok (.sipush 255, 3) := by decide +kernel
theorem dJ2_getChar_3b067_52 : decode cJ2_getChar_3b067 52 = .ok (.iand, 1) := by decide +kernel
theorem dJ2_getChar_3b067_53 : decode cJ2_getChar_3b067 53 = .ok (.getstatic 63, 3) := by decide +kernel
theorem dJ2_getChar_3b067_56 : decode cJ2_getChar_3b067 56 = .ok (.ishl, 1) := by decide +kernel
theorem dJ2_getChar_3b067_57 : decode cJ2_getChar_3b067 57 = .ok (.ior, 1) := by decide +kernel
theorem dJ2_getChar_3b067_58 : decode cJ2_getChar_3b067 58 = .ok (.i2c, 1) := by decide +kernel
theorem dJ2_getChar_3b067_59 : decode cJ2_getChar_3b067 59 = .ok (.ireturn, 1) := by decide +kernel
theorem dJ2_length_9d52b_0 : decode cJ2_length_9d52b 0 = .ok (.aload_n 0, 1) := by decide +kernel
theorem dJ2_length_9d52b_1 : decode cJ2_length_9d52b 1 = .ok (.arraylength, 1) := by decide +kernel
theorem dJ2_length_9d52b_2 : decode cJ2_length_9d52b 2 = .ok (.iconst 1, 1) := by decide +kernel
theorem dJ2_length_9d52b_3 : decode cJ2_length_9d52b 3 = .ok (.ishr, 1) := by decide +kernel
theorem dJ2_length_9d52b_4 : decode cJ2_length_9d52b 4 = .ok (.ireturn, 1) := by decide +kernel
theorem dJ2_coderFromArrayLen_85cad_0 : decode cJ2_coderFromArrayLen_85cad 0 = .ok (.iload_n 1, 1) := by decide +kernel
theorem dJ2_coderFromArrayLen_85cad_1 : decode cJ2_coderFromArrayLen_85cad 1 = .ok (.aload_n 0, 1) := by decide +kernel
theorem dJ2_coderFromArrayLen_85cad_2 : decode cJ2_coderFromArrayLen_85cad 2 = .ok (.arraylength, 1) := by decide +kernel
theorem dJ2_coderFromArrayLen_85cad_3 : decode cJ2_coderFromArrayLen_85cad 3 = .ok (.isub, 1) := by decide +kernel
theorem dJ2_coderFromArrayLen_85cad_4 : decode cJ2_coderFromArrayLen_85cad 4 = .ok (.bipush 31, 2) := by decide +kernel
theorem dJ2_coderFromArrayLen_85cad_6 : decode cJ2_coderFromArrayLen_85cad 6 = .ok (.iushr, 1) := by decide +kernel
theorem dJ2_coderFromArrayLen_85cad_7 : decode cJ2_coderFromArrayLen_85cad 7 = .ok (.i2b, 1) := by decide +kernel
theorem dJ2_coderFromArrayLen_85cad_8 : decode cJ2_coderFromArrayLen_85cad 8 = .ok (.ireturn, 1) := by decide +kernel
theorem dJ2_compress_39247_0 : decode cJ2_compress_39247 0 = .ok (.iload_n 2, 1) := by decide +kernel
theorem dJ2_compress_39247_1 : decode cJ2_compress_39247 1 = .ok (.newarray .byte, 2) := by decide +kernel
theorem dJ2_compress_39247_3 : decode cJ2_compress_39247 3 = .ok (.astore_n 3, 1) := by decide +kernel
theorem dJ2_compress_39247_4 : decode cJ2_compress_39247 4 = .ok (.aload_n 0, 1) := by decide +kernel
theorem dJ2_compress_39247_5 : decode cJ2_compress_39247 5 = .ok (.iload_n 1, 1) := by decide +kernel
theorem dJ2_compress_39247_6 : decode cJ2_compress_39247 6 = .ok (.aload_n 3, 1) := by decide +kernel
theorem dJ2_compress_39247_7 : decode cJ2_compress_39247 7 = .ok (.iconst 0, 1) := by decide +kernel
theorem dJ2_compress_39247_8 : decode cJ2_compress_39247 8 = .ok (.iload_n 2, 1) := by decide +kernel
theorem dJ2_compress_39247_9 : decode cJ2_compress_39247 9 = .ok (.invokestatic 123, 3) := by decide +kernel
theorem dJ2_compress_39247_12 : decode cJ2_compress_39247 12 = .ok (.istore 4, 2) := by decide +kernel
theorem dJ2_compress_39247_14 : decode cJ2_compress_39247 14 = .ok (.iload 4, 2) := by decide +kernel
theorem dJ2_compress_39247_16 : decode cJ2_compress_39247 16 = .ok (.iload_n 2, 1) := by decide +kernel
theorem dJ2_compress_39247_17 : decode cJ2_compress_39247 17 = .ok (.if_icmp .eq 47, 3) := by decide +kernel
theorem dJ2_compress_39247_20 : decode cJ2_compress_39247 20 = .ok (.aload_n 0, 1) := by decide +kernel
theorem dJ2_compress_39247_21 : decode cJ2_compress_39247 21 = .ok (.iload_n 1, 1) := by decide +kernel
theorem dJ2_compress_39247_22 : decode cJ2_compress_39247 22 = .ok (.iconst 1, 1) := by decide +kernel
theorem dJ2_compress_39247_23 : decode cJ2_compress_39247 23 = .ok (.ishl, 1) := by decide +kernel
theorem dJ2_compress_39247_24 : decode cJ2_compress_39247 24 = .ok (.iload_n 1, 1) := by decide +kernel
theorem dJ2_compress_39247_25 : decode cJ2_compress_39247 25 = .ok (.iload_n 2, 1) := by decide +kernel
theorem dJ2_compress_39247_26 : decode cJ2_compress_39247 26 = .ok (.iadd, 1) := by decide +kernel
theorem dJ2_compress_39247_27 : decode cJ2_compress_39247 27 = .ok (.invokestatic 11, 3) := by decide +kernel
theorem dJ2_compress_39247_30 : decode cJ2_compress_39247 30 = .ok (.invokestatic 126, 3) := by decide +kernel
theorem dJ2_compress_39247_33 : decode cJ2_compress_39247 33 = .ok (.astore 5, 2) := by decide +kernel
theorem dJ2_compress_39247_35 : decode cJ2_compress_39247 35 = .ok (.aload 5, 2) := by decide +kernel
theorem dJ2_compress_39247_37 : decode cJ2_compress_39247 37 = .ok (.iload 4, 2) := by decide +kernel
theorem dJ2_compress_39247_39 : decode cJ2_compress_39247 39 = .ok (.invokestatic 71, 3) := by decide +kernel
theorem dJ2_compress_39247_42 : decode cJ2_compress_39247 42 = .ok (.sipush 255, 3) := by decide +kernel
theorem dJ2_compress_39247_45 : decode cJ2_compress_39247 45 = .ok (.if_icmp .gt 16, 3) := by decide +kernel
theorem dJ2_compress_39247_48 : decode cJ2_compress_39247 48 = .ok (.aload 5, 2) := by decide +kernel
theorem dJ2_compress_39247_50 : decode cJ2_compress_39247 50 = .ok (.iconst 0, 1) := by decide +kernel
theorem dJ2_compress_39247_51 : decode cJ2_compress_39247 51 = .ok (.aload_n 3, 1) := by decide +kernel
theorem dJ2_compress_39247_52 : decode cJ2_compress_39247 52 = .ok (.iconst 0, 1) := by decide +kernel
theorem dJ2_compress_39247_53 : decode cJ2_compress_39247 53 = .ok (.iload_n 2, 1) := by decide +kernel
theorem dJ2_compress_39247_54 : decode cJ2_compress_39247 54 = .ok (.invokestatic 123, 3) := by decide +kernel
theorem dJ2_compress_39247_57 : decode cJ2_compress_39247 57 = .ok (.iload_n 2, 1) := by decide +kernel
theorem dJ2_compress_39247_58 : decode cJ2_compress_39247 58 = .ok (.if_icmp .eq 6, 3) := by decide +kernel
theorem dJ2_compress_39247_61 : decode cJ2_compress_39247 61 = .ok (.aload 5, 2) := by decide +kernel
theorem dJ2_compress_39247_63 : decode cJ2_compress_39247 63 = .ok (.areturn, 1) := by decide +kernel
theorem dJ2_compress_39247_64 : decode cJ2_compress_39247 64 = .ok (.aload_n 3, 1) := by decide +kernel
theorem dJ2_compress_39247_65 : decode cJ2_compress_39247 65 = .ok (.areturn, 1) := by decide +kernel
theorem dJ2_compress_5af95_0 : decode cJ2_compress_5af95 0 = .ok (.iload_n 1, 1) := by decide +kernel
theorem dJ2_compress_5af95_1 : decode cJ2_compress_5af95 1 = .ok (.iload 4, 2) := by decide +kernel
theorem dJ2_compress_5af95_3 : decode cJ2_compress_5af95 3 = .ok (.aload_n 0, 1) := by decide +kernel
theorem dJ2_compress_5af95_4 : decode cJ2_compress_5af95 4 = .ok (.invokestatic 173, 3) := by decide +kernel
theorem dJ2_compress_5af95_7 : decode cJ2_compress_5af95 7 = .ok (.iconst 0, 1) := by decide +kernel
theorem dJ2_compress_5af95_8 : decode cJ2_compress_5af95 8 = .ok (.istore 5, 2) := by decide +kernel
theorem dJ2_compress_5af95_10 : decode cJ2_compress_5af95 10 = .ok (.iload 5, 2) := by decide +kernel
theorem dJ2_compress_5af95_12 : decode cJ2_compress_5af95 12 = .ok (.iload 4, 2) := by decide +kernel
theorem dJ2_compress_5af95_14 : decode cJ2_compress_5af95 14 = .ok (.if_icmp .ge 39, 3) := by decide +kernel
theorem dJ2_compress_5af95_17 : decode cJ2_compress_5af95 17 = .ok (.aload_n 0, 1) := by decide +kernel
theorem dJ2_compress_5af95_18 : decode cJ2_compress_5af95 18 = .ok (.iload_n 1, 1) := by decide +kernel
theorem dJ2_compress_5af95_19 : decode cJ2_compress_5af95 19 = .ok (.invokestatic 71, 3) := by decide +kernel
theorem dJ2_compress_5af95_22 : decode cJ2_compress_5af95 22 = .ok (.istore 6, 2) := by decide +kernel
theorem dJ2_compress_5af95_24 : decode cJ2_compress_5af95 24 = .ok (.iload 6, 2) := by decide +kernel
theorem dJ2_compress_5af95_26 : decode cJ2_compress_5af95 26 = .ok (.sipush 255, 3) := by decide +kernel
theorem dJ2_compress_5af95_29 : decode cJ2_compress_5af95 29 = .ok (.if_icmp .le 6, 3) := by decide +kernel
theorem dJ2_compress_5af95_32 : decode cJ2_compress_5af95 32 = .ok (.iload 5, 2) := by decide +kernel
theorem dJ2_compress_5af95_34 : decode cJ2_compress_5af95 34 = .ok (.ireturn, 1) := by decide +kernel
theorem dJ2_compress_5af95_35 : decode cJ2_compress_5af95 35 = .ok (.aload_n 2, 1) := by decide +kernel
theorem dJ2_compress_5af95_36 : decode cJ2_compress_5af95 36 = .ok (.iload_n 3, 1) := by decide +kernel
theorem dJ2_compress_5af95_37 : decode cJ2_compress_5af95 37 = .ok (.iload 6, 2) := by decide +kernel
theorem dJ2_compress_5af95_39 : decode cJ2_compress_5af95 39 = .ok (.i2b, 1) := by decide +kernel
theorem dJ2_compress_5af95_40 : decode cJ2_compress_5af95 40 = .ok (.bastore, 1) := by decide +kernel
theorem dJ2_compress_5af95_41 : decode cJ2_compress_5af95 41 = .ok (.iinc 1 1, 3) := by decide +kernel
theorem dJ2_compress_5af95_44 : decode cJ2_compress_5af95 44 = .ok (.iinc 3 1, 3) := by decide +kernel
theorem dJ2_compress_5af95_47 : decode cJ2_compress_5af95 47 = .ok (.iinc 5 1, 3) := by decide +kernel
theorem dJ2_compress_5af95_50 : decode cJ2_compress_5af95 50 = .ok (.goto (-40), 3) := by decide +kernel
theorem dJ2_compress_5af95_53 : decode cJ2_compress_5af95 53 = .ok (.iload 4, 2) := by decide +kernel
theorem dJ2_compress_5af95_55 : decode cJ2_compress_5af95 55 = .ok (.ireturn, 1) := by decide +kernel
theorem dJ2_indexOf_4cfef_0 : decode cJ2_indexOf_4cfef 0 = .ok (.iload_n 2, 1) := by decide +kernel
theorem dJ2_indexOf_4cfef_1 : decode cJ2_indexOf_4cfef 1 = .ok (.iconst 0, 1) := by decide +kernel
theorem dJ2_indexOf_4cfef_2 : decode cJ2_indexOf_4cfef 2 = .ok (.invokestatic 224, 3) := by decide +kernel
theorem dJ2_indexOf_4cfef_5 : decode cJ2_indexOf_4cfef 5 = .ok (.istore_n 2, 1) := by decide +kernel
theorem dJ2_indexOf_4cfef_6 : decode cJ2_indexOf_4cfef 6 = .ok (.iload_n 3, 1) := by decide +kernel
theorem dJ2_indexOf_4cfef_7 : decode cJ2_indexOf_4cfef 7 = .ok (.aload_n 0, 1) := by decide +kernel
theorem dJ2_indexOf_4cfef_8 : decode cJ2_indexOf_4cfef 8 = .ok (.arraylength, 1) := by decide +kernel
theorem dJ2_indexOf_4cfef_9 : decode cJ2_indexOf_4cfef 9 = .ok (.iconst 1, 1) := by decide +kernel
theorem dJ2_indexOf_4cfef_10 : decode cJ2_indexOf_4cfef 10 = .ok (.ishr, 1) := by decide +kernel
theorem dJ2_indexOf_4cfef_11 : decode cJ2_indexOf_4cfef 11 = .ok (.invokestatic 183, 3) := by decide +kernel
theorem dJ2_indexOf_4cfef_14 : decode cJ2_indexOf_4cfef 14 = .ok (.istore_n 3, 1) := by decide +kernel
theorem dJ2_indexOf_4cfef_15 : decode cJ2_indexOf_4cfef 15 = .ok (.iload_n 2, 1) := by decide +kernel
theorem dJ2_indexOf_4cfef_16 : decode cJ2_indexOf_4cfef 16 = .ok (.iload_n 3, 1) := by decide +kernel
theorem dJ2_indexOf_4cfef_17 : decode cJ2_indexOf_4cfef 17 = .ok (.if_icmp .lt 5, 3) := by decide +kernel
theorem dJ2_indexOf_4cfef_20 : decode cJ2_indexOf_4cfef 20 = .ok (.iconst (-1), 1) := by decide +kernel
theorem dJ2_indexOf_4cfef_21 : decode cJ2_indexOf_4cfef 21 = .ok (.ireturn, 1) := by decide +kernel
theorem dJ2_indexOf_4cfef_22 : decode cJ2_indexOf_4cfef 22 = .ok (.iload_n 1, 1) := by decide +kernel
theorem dJ2_indexOf_4cfef_23 : decode cJ2_indexOf_4cfef 23 = .ok (.ldc 227, 2) := by decide +kernel
theorem dJ2_indexOf_4cfef_25 : decode cJ2_indexOf_4cfef 25 = .ok (.if_icmp .ge 11, 3) := by decide +kernel
theorem dJ2_indexOf_4cfef_28 : decode cJ2_indexOf_4cfef 28 = .ok (.aload_n 0, 1) := by decide +kernel
theorem dJ2_indexOf_4cfef_29 : decode cJ2_indexOf_4cfef 29 = .ok (.iload_n 1, 1) := by decide +kernel
theorem dJ2_indexOf_4cfef_30 : decode cJ2_indexOf_4cfef 30 = .ok (.iload_n 2, 1) := by decide +kernel
theorem dJ2_indexOf_4cfef_31 : decode cJ2_indexOf_4cfef 31 = .ok (.iload_n 3, 1) := by decide +kernel
theorem dJ2_indexOf_4cfef_32 : decode cJ2_indexOf_4cfef 32 = .ok (.invokestatic 228, 3) := by decide +kernel
theorem dJ2_indexOf_4cfef_35 : decode cJ2_indexOf_4cfef 35 = .ok (.ireturn, 1) := by decide +kernel
theorem dJ2_indexOf_4cfef_36 : decode cJ2_indexOf_4cfef 36 = .ok (.aload_n 0, 1) := by decide +kernel
theorem dJ2_indexOf_4cfef_37 : decode cJ2_indexOf_4cfef 37 = .ok (.iload_n 1, 1) := by decide +kernel
theorem dJ2_indexOf_4cfef_38 : decode cJ2_indexOf_4cfef 38 = .ok (.iload_n 2, 1) := by decide +kernel
theorem dJ2_indexOf_4cfef_39 : decode cJ2_indexOf_4cfef 39 = .ok (.iload_n 3, 1) := by decide +kernel
theorem dJ2_indexOf_4cfef_40 : decode cJ2_indexOf_4cfef 40 = .ok (.invokestatic 232, 3) := by decide +kernel
theorem dJ2_indexOf_4cfef_43 : decode cJ2_indexOf_4cfef 43 = .ok (.ireturn, 1) := by decide +kernel
theorem dJ2_indexOfChar_4cfef_0 : decode cJ2_indexOfChar_4cfef 0 = .ok (.iload_n 2, 1) := by decide +kernel
theorem dJ2_indexOfChar_4cfef_1 : decode cJ2_indexOfChar_4cfef 1 = .ok (.iload_n 3, 1) := by decide +kernel
theorem dJ2_indexOfChar_4cfef_2 : decode cJ2_indexOfChar_4cfef 2 = .ok (.aload_n 0, 1) := by decide +kernel
theorem dJ2_indexOfChar_4cfef_3 : decode cJ2_indexOfChar_4cfef 3 = .ok (.invokestatic 96, 3) := by decide +kernel
theorem dJ2_indexOfChar_4cfef_6 : decode cJ2_indexOfChar_4cfef 6 = .ok (.aload_n 0, 1) := by decide +kernel
theorem dJ2_indexOfChar_4cfef_7 : decode cJ2_indexOfChar_4cfef 7 = .ok (.iload_n 1, 1) := by decide +kernel
theorem dJ2_indexOfChar_4cfef_8 : decode cJ2_indexOfChar_4cfef 8 = .ok (.iload_n 2, 1) := by decide +kernel
theorem dJ2_indexOfChar_4cfef_9 : decode cJ2_indexOfChar_4cfef 9 = .ok (.iload_n 3, 1) := by decide +kernel
theorem dJ2_indexOfChar_4cfef_10 : decode cJ2_indexOfChar_4cfef 10 = .ok (.invokestatic 244, 3) := by decide +kernel
theorem dJ2_indexOfChar_4cfef_13 : decode cJ2_indexOfChar_4cfef 13 = .ok (.ireturn, 1) := by decide +kernel
theorem dJ2_indexOfCharUnsafe_4cfef_0 : decode cJ2_indexOfCharUnsafe_4cfef 0 = .ok (.iload_n 2, 1) := by decide +kernel
theorem dJ2_indexOfCharUnsafe_4cfef_1 : decode cJ2_indexOfCharUnsafe_4cfef 1 = .ok (.istore 4, 2) := by decide +kernel
theorem dJ2_indexOfCharUnsafe_4cfef_3 : decode cJ2_indexOfCharUnsafe_4cfef 3 = .ok (.iload 4, 2) := by decide +kernel
theorem dJ2_indexOfCharUnsafe_4cfef_5 : decode cJ2_indexOfCharUnsafe_4cfef 5 = .ok (.iload_n 3, 1) := by decide +kernel
theorem dJ2_indexOfCharUnsafe_4cfef_6 : decode cJ2_indexOfCharUnsafe_4cfef 6 = .ok (.if_icmp .ge 22, 3) := by decide +kernel
theorem dJ2_indexOfCharUnsafe_4cfef_9 : decode cJ2_indexOfCharUnsafe_4cfef 9 = .ok (.aload_n 0, 1) := by decide +kernel
theorem dJ2_indexOfCharUnsafe_4cfef_10 : decode cJ2_indexOfCharUnsafe_4cfef 10 = .ok (.iload 4, 2) := by decide +kernel
theorem dJ2_indexOfCharUnsafe_4cfef_12 : decode cJ2_indexOfCharUnsafe_4cfef 12 = .ok (.invokestatic 71, 3) := by decide +kernel
theorem dJ2_indexOfCharUnsafe_4cfef_15 : decode cJ2_indexOfCharUnsafe_4cfef 15 = .ok (.iload_n 1, 1) := by decide +kernel
theorem dJ2_indexOfCharUnsafe_4cfef_16 : decode cJ2_indexOfCharUnsafe_4cfef 16 = .ok (.if_icmp .ne 6, 3) := by decide +kernel
theorem dJ2_indexOfCharUnsafe_4cfef_19 : decode cJ2_indexOfCharUnsafe_4cfef 19 = .ok (.iload 4, 2) := by decide +kernel
theorem dJ2_indexOfCharUnsafe_4cfef_21 : decode cJ2_indexOfCharUnsafe_4cfef 21 = .ok (.ireturn, 1) := by decide +kernel
theorem dJ2_indexOfCharUnsafe_4cfef_22 : decode cJ2_indexOfCharUnsafe_4cfef 22 = .ok (.iinc 4 1, 3) := by decide +kernel
theorem dJ2_indexOfCharUnsafe_4cfef_25 : decode cJ2_indexOfCharUnsafe_4cfef 25 = .ok (.goto (-22), 3) := by decide +kernel
theorem dJ2_indexOfCharUnsafe_4cfef_28 : decode cJ2_indexOfCharUnsafe_4cfef 28 = .ok (.iconst (-1), 1) := by decide +kernel
theorem dJ2_indexOfCharUnsafe_4cfef_29 : decode cJ2_indexOfCharUnsafe_4cfef 29 = .ok (.ireturn, 1) := by decide +kernel
theorem dJ2_indexOfSupplementary_4cfef_0 : decode cJ2_indexOfSupplementary_4cfef 0 = .ok (.iload_n 1, 1) := by decide +kernel
theorem dJ2_indexOfSupplementary_4cfef_1 : decode cJ2_indexOfSupplementary_4cfef 1 = .ok (.invokestatic 164, 3) := by decide +kernel
theorem dJ2_indexOfSupplementary_4cfef_4 : decode cJ2_indexOfSupplementary_4cfef 4 = .ok (.ifCond .eq 65, 3) := by decide +kernel
theorem dJ2_indexOfSupplementary_4cfef_7 : decode cJ2_indexOfSupplementary_4cfef 7 = .ok (.iload_n 1, 1) := by decide +kernel
theorem dJ2_indexOfSupplementary_4cfef_8 : decode cJ2_indexOfSupplementary_4cfef 8 = .ok (.invokestatic 157, 3) := by decide +kernel
theorem dJ2_indexOfSupplementary_4cfef_11 : decode cJ2_indexOfSupplementary_4cfef 11 = .ok (.istore 4, 2) := by decide +kernel
theorem dJ2_indexOfSupplementary_4cfef_13 : decode cJ2_indexOfSupplementary_4cfef 13 = .ok (.iload_n 1, 1) := by decide +kernel
theorem dJ2_indexOfSupplementary_4cfef_14 : decode cJ2_indexOfSupplementary_4cfef 14 = .ok (.invokestatic 161, 3) := by decide +kernel
theorem dJ2_indexOfSupplementary_4cfef_17 : decode cJ2_indexOfSupplementary_4cfef 17 = .ok (.istore 5, 2) := by decide +kernel
theorem dJ2_indexOfSupplementary_4cfef_19 : decode cJ2_indexOfSupplementary_4cfef 19 = .ok (.iload_n 2, 1) := by decide +kernel
theorem dJ2_indexOfSupplementary_4cfef_20 : decode cJ2_indexOfSupplementary_4cfef 20 = .ok (.iload_n 3, 1) := by decide +kernel
theorem dJ2_indexOfSupplementary_4cfef_21 : decode cJ2_indexOfSupplementary_4cfef 21 = .ok (.aload_n 0, 1) := by decide +kernel
theorem dJ2_indexOfSupplementary_4cfef_22 : decode cJ2_indexOfSupplementary_4cfef 22 = .ok (.invokestatic 96, 3) := by decide +kernel
theorem dJ2_indexOfSupplementary_4cfef_25 : decode cJ2_indexOfSupplementary_4cfef 25 = .ok (.iload_n 2, 1) := by decide +kernel
theorem dJ2_indexOfSupplementary_4cfef_26 : decode cJ2_indexOfSupplementary_4cfef 26 = .ok (.istore 6, 2) := by decide +kernel
theorem dJ2_indexOfSupplementary_4cfef_28 : decode cJ2_indexOfSupplementary_4cfef 28 = .ok (.iload 6, 2) := by decide +kernel
theorem dJ2_indexOfSupplementary_4cfef_30 : decode cJ2_indexOfSupplementary_4cfef 30 = .ok (.iload_n 3, 1) := by decide +kernel
theorem dJ2_indexOfSupplementary_4cfef_31 : decode cJ2_indexOfSupplementary_4cfef 31 = .ok (.iconst 1, 1) := by decide +kernel
theorem dJ2_indexOfSupplementary_4cfef_32 : decode cJ2_indexOfSupplementary_4cfef 32 = .ok (.isub, 1) := by decide +kernel
theorem dJ2_indexOfSupplementary_4cfef_33 : decode cJ2_indexOfSupplementary_4cfef 33 = .ok (.if_icmp .ge 36, 3) := by decide +kernel
theorem dJ2_indexOfSupplementary_4cfef_36 : decode cJ2_indexOfSupplementary_4cfef 36 = .ok (.aload_n 0, 1) := by decide +kernel
theorem dJ2_indexOfSupplementary_4cfef_37 : decode cJ2_indexOfSupplementary_4cfef 37 = .ok (.iload 6, 2) := by decide +kernel
theorem dJ2_indexOfSupplementary_4cfef_39 : decode cJ2_indexOfSupplementary_4cfef 39 = .ok (.invokestatic 71, 3) := by decide +kernel
theorem dJ2_indexOfSupplementary_4cfef_42 : decode cJ2_indexOfSupplementary_4cfef 42 = .ok (.iload 4, 2) := by decide +kernel
theorem dJ2_indexOfSupplementary_4cfef_44 : decode cJ2_indexOfSupplementary_4cfef 44 = .ok (.if_icmp .ne 19, 3) := by decide +kernel
theorem dJ2_indexOfSupplementary_4cfef_47 : decode cJ2_indexOfSupplementary_4cfef 47 = .ok (.aload_n 0, 1) := by decide +kernel
theorem dJ2_indexOfSupplementary_4cfef_48 : decode cJ2_indexOfSupplementary_4cfef 48 = .ok (.iload 6, 2) := by decide +kernel
theorem dJ2_indexOfSupplementary_4cfef_50 : decode cJ2_indexOfSupplementary_4cfef 50 = .ok (.iconst 1, 1) := by decide +kernel
theorem dJ2_indexOfSupplementary_4cfef_51 : decode cJ2_indexOfSupplementary_4cfef 51 = .ok (.iadd, 1) := by decide +kernel
theorem dJ2_indexOfSupplementary_4cfef_52 : decode cJ2_indexOfSupplementary_4cfef 52 = .ok (.invokestatic 71, 3) := by decide +kernel
theorem dJ2_indexOfSupplementary_4cfef_55 : decode cJ2_indexOfSupplementary_4cfef 55 = .ok (.iload 5, 2) := by decide +kernel
theorem dJ2_indexOfSupplementary_4cfef_57 : decode cJ2_indexOfSupplementary_4cfef 57 = .ok (.if_icmp .ne 6, 3) := by decide +kernel
theorem dJ2_indexOfSupplementary_4cfef_60 : decode cJ2_indexOfSupplementary_4cfef 60 = .ok (.iload 6, 2) := by decide +kernel
theorem dJ2_indexOfSupplementary_4cfef_62 : decode cJ2_indexOfSupplementary_4cfef 62 = .ok (.ireturn, 1) := by decide +kernel
theorem dJ2_indexOfSupplementary_4cfef_63 : decode cJ2_indexOfSupplementary_4cfef 63 = .ok (.iinc 6 1, 3) := by decide +kernel
theorem dJ2_indexOfSupplementary_4cfef_66 : decode cJ2_indexOfSupplementary_4cfef 66 = .ok (.goto (-38), 3) := by decide +kernel
theorem dJ2_indexOfSupplementary_4cfef_69 : decode cJ2_indexOfSupplementary_4cfef 69 = .ok (.iconst (-1), 1) := by decide +kernel
theorem dJ2_indexOfSupplementary_4cfef_70 : decode cJ2_indexOfSupplementary_4cfef 70 = .ok (.ireturn, 1) := by decide +kernel
theorem dJ2_getChars_46870_0 : decode cJ2_getChars_46870 0 = .ok (.iload_n 1, 1) := by decide +kernel
theorem dJ2_getChars_46870_1 : decode cJ2_getChars_46870 1 = .ok (.iload_n 2, 1) := by decide +kernel
theorem dJ2_getChars_46870_2 : decode cJ2_getChars_46870 2 = .ok (.aload_n 3, 1) := by decide +kernel
theorem dJ2_getChars_46870_3 : decode cJ2_getChars_46870 3 = .ok (.invokestatic 96, 3) := by decide +kernel
theorem dJ2_getChars_46870_6 : decode cJ2_getChars_46870 6 = .ok (.iload_n 0, 1) := by decide +kernel
theorem dJ2_getChars_46870_7 : decode cJ2_getChars_46870 7 = .ok (.iload_n 2, 1) := by decide +kernel
theorem dJ2_getChars_46870_8 : decode cJ2_getChars_46870 8 = .ok (.aload_n 3, 1) := by decide +kernel
theorem dJ2_getChars_46870_9 : decode cJ2_getChars_46870 9 = .ok (.invokestatic 393, 3) := by decide +kernel
theorem dJ2_getChars_46870_12 : decode cJ2_getChars_46870 12 = .ok (.istore 4, 2) := by decide +kernel
theorem dJ2_getChars_46870_14 : decode cJ2_getChars_46870 14 = .ok (.getstatic 44, 3) := by decide +kernel
theorem dJ2_getChars_46870_17 : decode cJ2_getChars_46870 17 = .ok (.ifCond .ne 17, 3) := by decide +kernel
theorem dJ2_getChars_46870_20 : decode cJ2_getChars_46870 20 = .ok (.iload_n 1, 1) := by decide +kernel
theorem dJ2_getChars_46870_21 : decode cJ2_getChars_46870 21 = .ok (.iload 4, 2) := by decide +kernel
theorem dJ2_getChars_46870_23 : decode cJ2_getChars_46870 23 = .ok (.if_icmp .eq 11, 3) := by decide +kernel
theorem dJ2_getChars_46870_26 : decode cJ2_getChars_46870 26 = .ok (.new 52, 3) := by decide +kernel
theorem dJ2_getChars_46870_29 : decode cJ2_getChars_46870 29 = .ok (.dup, 1) := by decide +kernel
theorem dJ2_getChars_46870_30 : decode cJ2_getChars_46870 30 = .ok (.invokespecial 66, 3) := by decide +kernel
theorem dJ2_getChars_46870_33 : decode cJ2_getChars_46870 33 = .ok (.athrow, 1) := by decide +kernel
theorem dJ2_getChars_46870_34 : decode cJ2_getChars_46870 34 = .ok (.iload 4, 2) := by decide +kernel
theorem dJ2_getChars_46870_36 : decode cJ2_getChars_46870 36 = .ok (.ireturn, 1) := by decide +kernel
theorem dJ2_putCharsAt_cd4e5_0 : decode cJ2_putCharsAt_cd4e5 0 = .ok (.iload_n 1, 1) := by decide +kernel
theorem dJ2_putCharsAt_cd4e5_1 : decode cJ2_putCharsAt_cd4e5 1 = .ok (.iconst 4, 1) := by decide +kernel
theorem dJ2_putCharsAt_cd4e5_2 : decode cJ2_putCharsAt_cd4e5 2 = .ok (.iadd, 1) := by decide +kernel
theorem dJ2_putCharsAt_cd4e5_3 : decode cJ2_putCharsAt_cd4e5 3 = .ok (.istore 6, 2) := by decide +kernel
theorem dJ2_putCharsAt_cd4e5_5 : decode cJ2_putCharsAt_cd4e5 5 = .ok (.iload_n 1, 1) := by decide +kernel
theorem dJ2_putCharsAt_cd4e5_6 : decode cJ2_putCharsAt_cd4e5 6 = .ok (.iload 6, 2) := by decide +kernel
theorem dJ2_putCharsAt_cd4e5_8 : decode cJ2_putCharsAt_cd4e5 8 = .ok (.aload_n 0, 1) := by decide +kernel
theorem dJ2_putCharsAt_cd4e5_9 : decode cJ2_putCharsAt_cd4e5 9 = .ok (.invokestatic 96, 3) := by decide +kernel
theorem dJ2_putCharsAt_cd4e5_12 : decode cJ2_putCharsAt_cd4e5 12 = .ok (.aload_n 0, 1) := by decide +kernel
theorem dJ2_putCharsAt_cd4e5_13 : decode cJ2_putCharsAt_cd4e5 13 = .ok (.iload_n 1, 1) := by decide +kernel
theorem dJ2_putCharsAt_cd4e5_14 : decode cJ2_putCharsAt_cd4e5 14 = .ok (.iinc 1 1, 3) := by decide +kernel
theorem dJ2_putCharsAt_cd4e5_17 : decode cJ2_putCharsAt_cd4e5 17 = .ok (.iload_n 2, 1) := by decide +kernel
theorem dJ2_putCharsAt_cd4e5_18 : decode cJ2_putCharsAt_cd4e5 18 = .ok (.invokestatic 111, 3) := by decide +kernel
theorem dJ2_putCharsAt_cd4e5_21 : decode cJ2_putCharsAt_cd4e5 21 = .ok (.aload_n 0, 1) := by decide +kernel
theorem dJ2_putCharsAt_cd4e5_22 : decode cJ2_putCharsAt_cd4e5 22 = .ok (.iload_n 1, 1) := by decide +kernel
theorem dJ2_putCharsAt_cd4e5_23 : decode cJ2_putCharsAt_cd4e5 23 = .ok (.iinc 1 1, 3) := by decide +kernel
theorem dJ2_putCharsAt_cd4e5_26 : decode cJ2_putCharsAt_cd4e5 26 = .ok (.iload_n 3, 1) := by decide +kernel
theorem dJ2_putCharsAt_cd4e5_27 : decode cJ2_putCharsAt_cd4e5 27 = .ok (.invokestatic 111, 3) := by decide +kernel
theorem dJ2_putCharsAt_cd4e5_30 : decode cJ2_putCharsAt_cd4e5 30 = .ok (.aload_n 0, 1) := by decide +kernel
theorem dJ2_putCharsAt_cd4e5_31 : decode cJ2_putCharsAt_cd4e5 31 = .ok (.iload_n 1, 1) := by decide +kernel
theorem dJ2_putCharsAt_cd4e5_32 : decode cJ2_putCharsAt_cd4e5 32 = .ok (.iinc 1 1, 3) := by decide +kernel
theorem dJ2_putCharsAt_cd4e5_35 : decode cJ2_putCharsAt_cd4e5 35 = .ok (.iload 4, 2) := by decide +kernel
theorem dJ2_putCharsAt_cd4e5_37 : decode cJ2_putCharsAt_cd4e5 37 = .ok (.invokestatic 111, 3) := by decide +kernel
theorem dJ2_putCharsAt_cd4e5_40 : decode cJ2_putCharsAt_cd4e5 40 = .ok (.aload_n 0, 1) := by decide +kernel
theorem dJ2_putCharsAt_cd4e5_41 : decode cJ2_putCharsAt_cd4e5 41 = .ok (.iload_n 1, 1) := by decide +kernel
theorem dJ2_putCharsAt_cd4e5_42 : decode cJ2_putCharsAt_cd4e5 42 = .ok (.iinc 1 1, 3) := by decide +kernel
theorem dJ2_putCharsAt_cd4e5_45 : decode cJ2_putCharsAt_cd4e5 45 = .ok (.iload 5, 2) := by decide +kernel
theorem dJ2_putCharsAt_cd4e5_47 : decode cJ2_putCharsAt_cd4e5 47 = .ok (.invokestatic 111, 3) := by decide +kernel
theorem dJ2_putCharsAt_cd4e5_50 : decode cJ2_putCharsAt_cd4e5 50 = .ok (.getstatic 44, 3) := by decide +kernel
theorem dJ2_putCharsAt_cd4e5_53 : decode cJ2_putCharsAt_cd4e5 53 = .ok (.ifCond .ne 17, 3) := by decide +kernel
theorem dJ2_putCharsAt_cd4e5_56 : decode cJ2_putCharsAt_cd4e5 56 = .ok (.iload_n 1, 1) := by decide +kernel
theorem dJ2_putCharsAt_cd4e5_57 : decode cJ2_putCharsAt_cd4e5 57 = .ok (.iload 6, 2) := by decide +kernel
theorem dJ2_putCharsAt_cd4e5_59 : decode cJ2_putCharsAt_cd4e5 59 = .ok (.if_icmp .eq 11, 3) := by decide +kernel
theorem dJ2_putCharsAt_cd4e5_62 : decode cJ2_putCharsAt_cd4e5 62 = .ok (.new 52, 3) := by decide +kernel
theorem dJ2_putCharsAt_cd4e5_65 : decode cJ2_putCharsAt_cd4e5 65 = .ok (.dup, 1) := by decide +kernel
theorem dJ2_putCharsAt_cd4e5_66 : decode cJ2_putCharsAt_cd4e5 66 = .ok (.invokespecial 66, 3) := by decide +kernel
theorem dJ2_putCharsAt_cd4e5_69 : decode cJ2_putCharsAt_cd4e5 69 = .ok (.athrow, 1) := by decide +kernel
theorem dJ2_putCharsAt_cd4e5_70 : decode cJ2_putCharsAt_cd4e5 70 = .ok (.iload 6, 2) := by decide +kernel
theorem dJ2_putCharsAt_cd4e5_72 : decode cJ2_putCharsAt_cd4e5 72 = .ok (.ireturn, 1) := by decide +kernel
theorem dJ2_charAt_3b067_0 : decode cJ2_charAt_3b067 0 = .ok (.iload_n 1, 1) := by decide +kernel
theorem dJ2_charAt_3b067_1 : decode cJ2_charAt_3b067 1 = .ok (.aload_n 0, 1) := by decide +kernel
theorem dJ2_charAt_3b067_2 : decode cJ2_charAt_3b067 2 = .ok (.invokestatic 67, 3) := by decide +kernel
theorem dJ2_charAt_3b067_5 : decode cJ2_charAt_3b067 5 = .ok (.aload_n 0, 1) := by decide +kernel
theorem dJ2_charAt_3b067_6 : decode cJ2_charAt_3b067 6 = .ok (.iload_n 1, 1) := by decide +kernel
theorem dJ2_charAt_3b067_7 : decode cJ2_charAt_3b067 7 = .ok (.invokestatic 71, 3) := by decide +kernel
theorem dJ2_charAt_3b067_10 : decode cJ2_charAt_3b067 10 = .ok (.ireturn, 1) := by decide +kernel
theorem dJ2_inflate_0e8fd_0 : decode cJ2_inflate_0e8fd 0 = .ok (.iload_n 3, 1) := by decide +kernel
theorem dJ2_inflate_0e8fd_1 : decode cJ2_inflate_0e8fd 1 = .ok (.iload 4, 2) := by decide +kernel
theorem dJ2_inflate_0e8fd_3 : decode cJ2_inflate_0e8fd 3 = .ok (.aload_n 2, 1) := by decide +kernel
theorem dJ2_inflate_0e8fd_4 : decode cJ2_inflate_0e8fd 4 = .ok (.invokestatic 173, 3) := by decide +kernel
theorem dJ2_inflate_0e8fd_7 : decode cJ2_inflate_0e8fd 7 = .ok (.iconst 0, 1) := by decide +kernel
theorem dJ2_inflate_0e8fd_8 : decode cJ2_inflate_0e8fd 8 = .ok (.istore 5, 2) := by decide +kernel
theorem dJ2_inflate_0e8fd_10 : decode cJ2_inflate_0e8fd 10 = .ok (.iload 5, 2) := by decide +kernel
theorem dJ2_inflate_0e8fd_12 : decode cJ2_inflate_0e8fd 12 = .ok (.iload 4, 2) := by decide +kernel
theorem dJ2_inflate_0e8fd_14 : decode cJ2_inflate_0e8fd 14 = .ok (.if_icmp .ge 27, 3) := by decide +kernel
theorem dJ2_inflate_0e8fd_17 : decode cJ2_inflate_0e8fd 17 = .ok (.aload_n 2, 1) := by decide +kernel
theorem dJ2_inflate_0e8fd_18 : decode cJ2_inflate_0e8fd 18 = .ok (.iload_n 3, 1) := by decide +kernel
theorem dJ2_inflate_0e8fd_19 : decode cJ2_inflate_0e8fd 19 = .ok (.iinc 3 1, 3) := by decide +kernel
theorem dJ2_inflate_0e8fd_22 : decode cJ2_inflate_0e8fd 22 = .ok (.aload_n 0, 1) := by decide +kernel
theorem dJ2_inflate_0e8fd_23 : decode cJ2_inflate_0e8fd 23 = .ok (.iload_n 1, 1) := by decide +kernel
theorem dJ2_inflate_0e8fd_24 : decode cJ2_inflate_0e8fd 24 = .ok (.iinc 1 1, 3) := by decide +kernel
theorem dJ2_inflate_0e8fd_27 : decode cJ2_inflate_0e8fd 27 = .ok (.baload, 1) := by decide +kernel
theorem dJ2_inflate_0e8fd_28 : decode cJ2_inflate_0e8fd 28 = .ok (.sipush 255, 3) := by decide +kernel
theorem dJ2_inflate_0e8fd_31 : decode cJ2_inflate_0e8fd 31 = .ok (.iand, 1) := by decide +kernel
theorem dJ2_inflate_0e8fd_32 : decode cJ2_inflate_0e8fd 32 = .ok (.invokestatic 111, 3) := by decide +kernel
theorem dJ2_inflate_0e8fd_35 : decode cJ2_inflate_0e8fd 35 = .ok (.iinc 5 1, 3) := by decide +kernel
theorem dJ2_inflate_0e8fd_38 : decode cJ2_inflate_0e8fd 38 = .ok (.goto (-28), 3) := by decide +kernel
theorem dJ2_inflate_0e8fd_41 : decode cJ2_inflate_0e8fd 41 = .ok (.return_, 1) := by decide +kernel
theorem dJ2_getChars_ba4f3_0 : decode cJ2_getChars_ba4f3 0 = .ok (.iload_n 1, 1) := by decide +kernel
theorem dJ2_getChars_ba4f3_1 : decode cJ2_getChars_ba4f3 1 = .ok (.istore 5, 2) := by decide +kernel
theorem dJ2_getChars_ba4f3_3 : decode cJ2_getChars_ba4f3 3 = .ok (.iload_n 0, 1) := by decide +kernel
theorem dJ2_getChars_ba4f3_4 : decode cJ2_getChars_ba4f3 4 = .ok (.ifCond .ge 7, 3) := by decide +kernel
theorem dJ2_getChars_ba4f3_7 : decode cJ2_getChars_ba4f3 7 = .ok (.iconst 1, 1) := by decide +kernel
theorem dJ2_getChars_ba4f3_8 : decode cJ2_getChars_ba4f3 8 = .ok (.goto 4, 3) := by decide +kernel
theorem dJ2_getChars_ba4f3_11 : decode cJ2_getChars_ba4f3 11 = .ok (.iconst 0, 1) := by decide +kernel
theorem dJ2_getChars_ba4f3_12 : decode cJ2_getChars_ba4f3 12 = .ok (.istore 6, 2) := by decide +kernel
theorem dJ2_getChars_ba4f3_14 : decode cJ2_getChars_ba4f3 14 = .ok (.iload 6, 2) := by decide +kernel
theorem dJ2_getChars_ba4f3_16 : decode cJ2_getChars_ba4f3 16 = .ok (.ifCond .ne 6, 3) := by decide +kernel
theorem dJ2_getChars_ba4f3_19 : decode cJ2_getChars_ba4f3 19 = .ok (.iload_n 0, 1) := by decide +kernel
theorem dJ2_getChars_ba4f3_20 : decode cJ2_getChars_ba4f3 20 = .ok (.ineg, 1) := by decide +kernel
theorem dJ2_getChars_ba4f3_21 : decode cJ2_getChars_ba4f3 21 = .ok (.istore_n 0, 1) := by decide +kernel
theorem dJ2_getChars_ba4f3_22 : decode cJ2_getChars_ba4f3 22 = .ok (.iload_n 0, 1) := by decide +kernel
theorem dJ2_getChars_ba4f3_23 : decode cJ2_getChars_ba4f3 23 = .ok (.bipush (-100), 2) := by decide +kernel
theorem dJ2_getChars_ba4f3_25 : decode cJ2_getChars_ba4f3 25 = .ok (.if_icmp .gt 51, 3) := by decide +kernel
theorem dJ2_getChars_ba4f3_28 : decode cJ2_getChars_ba4f3 28 = .ok (.iload_n 0, 1) := by decide +kernel
theorem dJ2_getChars_ba4f3_29 : decode cJ2_getChars_ba4f3 29 = .ok (.bipush 100, 2) := by decide +kernel
theorem dJ2_getChars_ba4f3_31 : decode cJ2_getChars_ba4f3 31 = .ok (.idiv, 1) := by decide +kernel
theorem dJ2_getChars_ba4f3_32 : decode cJ2_getChars_ba4f3 32 = .ok (.istore_n 3, 1) := by decide +kernel
theorem dJ2_getChars_ba4f3_33 : decode cJ2_getChars_ba4f3 33 = .ok (.iload_n 3, 1) := by decide +kernel
theorem dJ2_getChars_ba4f3_34 : decode cJ2_getChars_ba4f3 34 = .ok (.bipush 100, 2) := by decide +kernel
theorem dJ2_getChars_ba4f3_36 : decode cJ2_getChars_ba4f3 36 = .ok (.imul, 1) := by decide +kernel
theorem dJ2_getChars_ba4f3_37 : decode cJ2_getChars_ba4f3 37 = .ok (.iload_n 0, 1) := by decide +kernel
theorem dJ2_getChars_ba4f3_38 : decode cJ2_getChars_ba4f3 38 = .ok (.isub, 1) := by decide +kernel
theorem dJ2_getChars_ba4f3_39 : decode cJ2_getChars_ba4f3 39 = .ok (.istore 4, 2) := by decide +kernel
theorem dJ2_getChars_ba4f3_41 : decode cJ2_getChars_ba4f3 41 = .ok (.iload_n 3, 1) := by decide +kernel
theorem dJ2_getChars_ba4f3_42 : decode cJ2_getChars_ba4f3 42 = .ok (.istore_n 0, 1) := by decide +kernel
theorem dJ2_getChars_ba4f3_43 : decode cJ2_getChars_ba4f3 43 = .ok (.aload_n 2, 1) := by decide +kernel
theorem dJ2_getChars_ba4f3_44 : decode cJ2_getChars_ba4f3 44 = .ok (.iinc 5 (-1), 3) := by decide +kernel
theorem dJ2_getChars_ba4f3_47 : decode cJ2_getChars_ba4f3 47 = .ok (.iload 5, 2) := by decide +kernel
theorem dJ2_getChars_ba4f3_49 : decode cJ2_getChars_ba4f3 49 = .ok (.getstatic 403, 3) := by decide +kernel
theorem dJ2_getChars_ba4f3_52 : decode cJ2_getChars_ba4f3 52 = .ok (.iload 4, 2) := by decide +kernel
theorem dJ2_getChars_ba4f3_54 : decode cJ2_getChars_ba4f3 54 = .ok (.baload, 1) := by decide +kernel
theorem dJ2_getChars_ba4f3_55 : decode cJ2_getChars_ba4f3 55 = .ok (.invokestatic 111, 3) := by decide +kernel
theorem dJ2_getChars_ba4f3_58 : decode cJ2_getChars_ba4f3 58 = .ok (.aload_n 2, 1) := by decide +kernel
theorem dJ2_getChars_ba4f3_59 : decode cJ2_getChars_ba4f3 59 = .ok (.iinc 5 (-1), 3) := by decide +kernel
theorem dJ2_getChars_ba4f3_62 : decode cJ2_getChars_ba4f3 62 = .ok (.iload 5, 2) := by decide +kernel
theorem dJ2_getChars_ba4f3_64 : decode cJ2_getChars_ba4f3 64 = .ok (.getstatic 407, 3) := by decide +kernel
theorem dJ2_getChars_ba4f3_67 : decode cJ2_getChars_ba4f3 67 = .ok (.iload 4, 2) := by decide +kernel
theorem dJ2_getChars_ba4f3_69 : decode cJ2_getChars_ba4f3 69 = .ok (.baload, 1) := by decide +kernel
theorem dJ2_getChars_ba4f3_70 : decode cJ2_getChars_ba4f3 70 = .ok (.invokestatic 111, 3) := by decide +kernel
theorem dJ2_getChars_ba4f3_73 : decode cJ2_getChars_ba4f3 73 = .ok (.goto (-51), 3) := by decide +kernel
theorem dJ2_getChars_ba4f3_76 : decode cJ2_getChars_ba4f3 76 = .ok (.aload_n 2, 1) := by decide +kernel
theorem dJ2_getChars_ba4f3_77 : decode cJ2_getChars_ba4f3 77 = .ok (.iinc 5 (-1), 3) := by decide +kernel
theorem dJ2_getChars_ba4f3_80 : decode cJ2_getChars_ba4f3 80 = .ok (.iload 5, 2) := by decide +kernel
theorem dJ2_getChars_ba4f3_82 : decode cJ2_getChars_ba4f3 82 = .ok (.getstatic 403, 3) := by decide +kernel
theorem dJ2_getChars_ba4f3_85 : decode cJ2_getChars_ba4f3 85 = .ok (.iload_n 0, 1) := by decide +kernel
theorem dJ2_getChars_ba4f3_86 : decode cJ2_getChars_ba4f3 86 = .ok (.ineg, 1) := by decide +kernel
theorem dJ2_getChars_ba4f3_87 : decode cJ2_getChars_ba4f3 87 = .ok (.baload, 1) := by decide +kernel
theorem dJ2_getChars_ba4f3_88 : decode cJ2_getChars_ba4f3 88 = .ok (.invokestatic 111, 3) := by decide +kernel
theorem dJ2_getChars_ba4f3_91 : decode cJ2_getChars_ba4f3 91 = .ok (.iload_n 0, 1) := by decide +kernel
theorem dJ2_getChars_ba4f3_92 : decode cJ2_getChars_ba4f3 92 = .ok (.bipush (-9), 2) := by decide +kernel
theorem dJ2_getChars_ba4f3_94 : decode cJ2_getChars_ba4f3 94 = .ok (.if_icmp .ge 18, 3) := by decide +kernel
theorem dJ2_getChars_ba4f3_97 : decode cJ2_getChars_ba4f3 97 = .ok (.aload_n 2, 1) := by decide +kernel
theorem dJ2_getChars_ba4f3_98 : decode cJ2_getChars_ba4f3 98 = .ok (.iinc 5 (-1), 3) := by decide +kernel
theorem dJ2_getChars_ba4f3_101 : decode cJ2_getChars_ba4f3 101 = .ok (.iload 5, 2) := by decide +kernel
theorem dJ2_getChars_ba4f3_103 : decode cJ2_getChars_ba4f3 103 = .ok (.getstatic 407, 3) := by decide +kernel
theorem dJ2_getChars_ba4f3_106 : decode cJ2_getChars_ba4f3 106 = .ok (.iload_n 0, 1) := by decide +kernel
theorem dJ2_getChars_ba4f3_107 : decode cJ2_getChars_ba4f3 107 = .ok (.ineg, 1) := by decide +kernel
theorem dJ2_getChars_ba4f3_108 : decode cJ2_getChars_ba4f3 108 = .ok (.baload, 1) := by decide +kernel
theorem dJ2_getChars_ba4f3_109 : decode cJ2_getChars_ba4f3 109 = .ok (.invokestatic 111, 3) := by decide +kernel
theorem dJ2_getChars_ba4f3_112 : decode cJ2_getChars_ba4f3 112 = .ok (.iload 6, 2) := by decide +kernel
theorem dJ2_getChars_ba4f3_114 : decode cJ2_getChars_ba4f3 114 = .ok (.ifCond .eq 14, 3) := by decide +kernel
theorem dJ2_getChars_ba4f3_117 : decode cJ2_getChars_ba4f3 117 = .ok (.aload_n 2, 1) := by decide +kernel
theorem dJ2_getChars_ba4f3_118 : decode cJ2_getChars_ba4f3 118 = .ok (.iinc 5 (-1), 3) := by decide +kernel
theorem dJ2_getChars_ba4f3_121 : decode cJ2_getChars_ba4f3 121 = .ok (.iload 5, 2) := by decide +kernel
theorem dJ2_getChars_ba4f3_123 : decode cJ2_getChars_ba4f3 123 = .ok (.bipush 45, 2) := by decide +kernel
theorem dJ2_getChars_ba4f3_125 : decode cJ2_getChars_ba4f3 125 = .ok (.invokestatic 111, 3) := by decide +kernel
theorem dJ2_getChars_ba4f3_128 : decode cJ2_getChars_ba4f3 128 = .ok (.iload 5, 2) := by decide +kernel
theorem dJ2_getChars_ba4f3_130 : decode cJ2_getChars_ba4f3 130 = .ok (.ireturn, 1) := by decide +kernel
theorem dJ2_checkIndex_2214a_0 : decode cJ2_checkIndex_2214a 0 = .ok (.iload_n 0, 1) := by decide +kernel
theorem dJ2_checkIndex_2214a_1 : decode cJ2_checkIndex_2214a 1 = .ok (.aload_n 1, 1) := by decide +kernel
theorem dJ2_checkIndex_2214a_2 : decode cJ2_checkIndex_2214a 2 = .ok (.invokestatic 48, 3) := by decide +kernel
theorem dJ2_checkIndex_2214a_5 : decode cJ2_checkIndex_2214a 5 = .ok (.invokestatic 414, 3) := by decide +kernel
theorem dJ2_checkIndex_2214a_8 : decode cJ2_checkIndex_2214a 8 = .ok (.return_, 1) := by decide +kernel
theorem dJ2_checkBoundsBeginEnd_d044e_0 : decode cJ2_checkBoundsBeginEnd_d044e 0 = .ok (.iload_n 0, 1) := by decide +kernel
theorem dJ2_checkBoundsBeginEnd_d044e_1 : decode cJ2_checkBoundsBeginEnd_d044e 1 = .ok (.iload_n 1, 1) := by decide +kernel
theorem dJ2_checkBoundsBeginEnd_d044e_2 : decode cJ2_checkBoundsBeginEnd_d044e 2 = .ok (.aload_n 2, 1) := by decide +kernel
theorem dJ2_checkBoundsBeginEnd_d044e_3 : decode cJ2_checkBoundsBeginEnd_d044e 3 = .ok (.invokestatic 48, 3) := by decide +kernel
theorem dJ2_checkBoundsBeginEnd_d044e_6 : decode cJ2_checkBoundsBeginEnd_d044e 6 = .ok (.invokestatic 241, 3) := by decide +kernel
theorem dJ2_checkBoundsBeginEnd_d044e_9 : decode cJ2_checkBoundsBeginEnd_d044e 9 = .ok (.return_, 1) := by decide +kernel
theorem dJ2_checkBoundsOffCount_d044e_0 : decode cJ2_checkBoundsOffCount_d044e 0 = .ok (.iload_n 0, 1) := by decide +kernel
theorem dJ2_checkBoundsOffCount_d044e_1 : decode cJ2_checkBoundsOffCount_d044e 1 = .ok (.iload_n 1, 1) := by decide +kernel
theorem dJ2_checkBoundsOffCount_d044e_2 : decode cJ2_checkBoundsOffCount_d044e 2 = .ok (.aload_n 2, 1) := by decide +kernel
theorem dJ2_checkBoundsOffCount_d044e_3 : decode cJ2_checkBoundsOffCount_d044e 3 = .ok (.invokestatic 48, 3) := by decide +kernel
theorem dJ2_checkBoundsOffCount_d044e_6 : decode cJ2_checkBoundsOffCount_d044e 6 = .ok (.invokestatic 419, 3) := by decide +kernel
theorem dJ2_checkBoundsOffCount_d044e_9 : decode cJ2_checkBoundsOffCount_d044e 9 = .ok (.pop, 1) := by decide +kernel
theorem dJ2_checkBoundsOffCount_d044e_10 : decode cJ2_checkBoundsOffCount_d044e 10 = .ok (.return_, 1) := by decide +kernel
theorem dJ7_copyOf_9075b_0 : decode cJ7_copyOf_9075b 0 = .ok (.iload_n 1, 1) := by decide +kernel
theorem dJ7_copyOf_9075b_1 : decode cJ7_copyOf_9075b 1 = .ok (.aload_n 0, 1) := by decide +kernel
theorem dJ7_copyOf_9075b_2 : decode cJ7_copyOf_9075b 2 = .ok (.arraylength, 1) := by decide +kernel
theorem dJ7_copyOf_9075b_3 : decode cJ7_copyOf_9075b 3 = .ok (.if_icmp .ne 11, 3) := by decide +kernel
theorem dJ7_copyOf_9075b_6 : decode cJ7_copyOf_9075b 6 = .ok (.aload_n 0, 1) := by decide +kernel
theorem dJ7_copyOf_9075b_7 : decode cJ7_copyOf_9075b 7 = .ok (.invokevirtual 310, 3) := by decide +kernel
theorem dJ7_copyOf_9075b_10 : decode cJ7_copyOf_9075b 10 = .ok (.checkcast 311, 3) := by decide +kernel
theorem dJ7_copyOf_9075b_13 : decode cJ7_copyOf_9075b 13 = .ok (.areturn, 1) := by decide +kernel
theorem dJ7_copyOf_9075b_14 : decode cJ7_copyOf_9075b 14 = .ok (.iload_n 1, 1) := by decide +kernel
theorem dJ7_copyOf_9075b_15 : decode cJ7_copyOf_9075b 15 = .ok (.newarray .byte, 2) := by decide +kernel
theorem dJ7_copyOf_9075b_17 : decode cJ7_copyOf_9075b 17 = .ok (.astore_n 2, 1) := by decide +kernel
theorem dJ7_copyOf_9075b_18 : decode cJ7_copyOf_9075b 18 = .ok (.aload_n 0, 1) := by decide +kernel
theorem dJ7_copyOf_9075b_19 : decode cJ7_copyOf_9075b 19 = .ok (.iconst 0, 1) := by decide +kernel
theorem dJ7_copyOf_9075b_20 : decode cJ7_copyOf_9075b 20 = .ok (.aload_n 2, 1) := by decide +kernel
theorem dJ7_copyOf_9075b_21 : decode cJ7_copyOf_9075b 21 = .ok (.iconst 0, 1) := by decide +kernel
theorem dJ7_copyOf_9075b_22 : decode cJ7_copyOf_9075b 22 = .ok (.aload_n 0, 1) := by decide +kernel
theorem dJ7_copyOf_9075b_23 : decode cJ7_copyOf_9075b 23 = .ok (.arraylength, 1) := by decide +kernel
theorem dJ7_copyOf_9075b_24 : decode cJ7_copyOf_9075b 24 = .ok (.iload_n 1, 1) := by decide +kernel
theorem dJ7_copyOf_9075b_25 : decode cJ7_copyOf_9075b 25 = .ok (.invokestatic 304, 3) := by decide +kernel
theorem dJ7_copyOf_9075b_28 : decode cJ7_copyOf_9075b 28 = .ok (.invokestatic 150, 3) := by decide +kernel
theorem dJ7_copyOf_9075b_31 : decode cJ7_copyOf_9075b 31 = .ok (.aload_n 2, 1) := by decide +kernel
theorem dJ7_copyOf_9075b_32 : decode cJ7_copyOf_9075b 32 = .ok (.areturn, 1) := by decide +kernel
theorem dJ7_checkLength_df160_0 : decode cJ7_checkLength_df160 0 = .ok (.iload_n 1, 1) := by decide +kernel
theorem dJ7_checkLength_df160_1 : decode cJ7_checkLength_df160 1 = .ok (.iload_n 0, 1) := by decide +kernel
theorem dJ7_checkLength_df160_2 : decode cJ7_checkLength_df160 2 = .ok (.if_icmp .ge 35, 3) := by decide +kernel
theorem dJ7_checkLength_df160_5 : decode cJ7_checkLength_df160 5 = .ok (.new 43, 3) := by decide +kernel
theorem dJ7_checkLength_df160_8 : decode cJ7_checkLength_df160 8 = .ok (.dup, 1) := by decide +kernel
theorem dJ7_checkLength_df160_9 : decode cJ7_checkLength_df160 9 = .ok (.new 45, 3) := by decide +kernel
theorem dJ7_checkLength_df160_12 : decode cJ7_checkLength_df160 12 = .ok (.dup, 1) := by decide +kernel
theorem dJ7_checkLength_df160_13 : decode cJ7_checkLength_df160 13 = .ok (.invokespecial 47, 3) := by decide +kernel
theorem dJ7_checkLength_df160_16 : decode cJ7_checkLength_df160 16 = .ok (.iload_n 0, 1) := by decide +kernel
theorem dJ7_checkLength_df160_17 : decode cJ7_checkLength_df160 17 = .ok (.invokevirtual 54, 3) := by decide +kernel
theorem dJ7_checkLength_df160_20 : decode cJ7_checkLength_df160 20 = .ok (.ldc_w 337, 3) := by decide +kernel
theorem dJ7_checkLength_df160_23 : decode cJ7_checkLength_df160 23 = .ok (.invokevirtual 50, 3) := by decide +kernel
theorem dJ7_checkLength_df160_26 : decode cJ7_checkLength_df160 26 = .ok (.iload_n 1, 1) := by decide +kernel
theorem dJ7_checkLength_df160_27 : decode cJ7_checkLength_df160 27 = .ok (.invokevirtual 54, 3) := by decide +kernel
theorem dJ7_checkLength_df160_30 : decode cJ7_checkLength_df160 30 = .ok (.invokevirtual 61, 3) := by decide +kernel
theorem dJ7_checkLength_df160_33 : decode cJ7_checkLength_df160 33 = .ok (.invokespecial 65, 3) := by decide +kernel
theorem dJ7_checkLength_df160_36 : decode cJ7_checkLength_df160 36 = .ok (.athrow, 1) := by decide +kernel
theorem dJ7_checkLength_df160_37 : decode cJ7_checkLength_df160 37 = .ok (.return_, 1) := by decide +kernel
theorem dJ7_copyOfRange_39247_0 : decode cJ7_copyOfRange_39247 0 = .ok (.iload_n 1, 1) := by decide +kernel
theorem dJ7_copyOfRange_39247_1 : decode cJ7_copyOfRange_39247 1 = .ok (.ifCond .ne 9, 3) := by decide +kernel
theorem dJ7_copyOfRange_39247_4 : decode cJ7_copyOfRange_39247 4 = .ok (.iload_n 2, 1) := by decide +kernel
theorem dJ7_copyOfRange_39247_5 : decode cJ7_copyOfRange_39247 5 = .ok (.aload_n 0, 1) := by decide +kernel
theorem dJ7_copyOfRange_39247_6 : decode cJ7_copyOfRange_39247 6 = .ok (.arraylength, 1) := by decide +kernel
theorem dJ7_copyOfRange_39247_7 : decode cJ7_copyOfRange_39247 7 = .ok (.if_icmp .eq 10, 3) := by decide +kernel
theorem dJ7_copyOfRange_39247_10 : decode cJ7_copyOfRange_39247 10 = .ok (.aload_n 0, 1) := by decide +kernel
theorem dJ7_copyOfRange_39247_11 : decode cJ7_copyOfRange_39247 11 = .ok (.iload_n 1, 1) := by decide +kernel
theorem dJ7_copyOfRange_39247_12 : decode cJ7_copyOfRange_39247 12 = .ok (.iload_n 2, 1) := by decide +kernel
theorem dJ7_copyOfRange_39247_13 : decode cJ7_copyOfRange_39247 13 = .ok (.invokestatic 339, 3) := by decide +kernel
theorem dJ7_copyOfRange_39247_16 : decode cJ7_copyOfRange_39247 16 = .ok (.areturn, 1) := by decide +kernel
theorem dJ7_copyOfRange_39247_17 : decode cJ7_copyOfRange_39247 17 = .ok (.aload_n 0, 1) := by decide +kernel
theorem dJ7_copyOfRange_39247_18 : decode cJ7_copyOfRange_39247 18 = .ok (.invokevirtual 310, 3) := by decide +kernel
theorem dJ7_copyOfRange_39247_21 : decode cJ7_copyOfRange_39247 21 = .ok (.checkcast 311, 3) := by decide +kernel
theorem dJ7_copyOfRange_39247_24 : decode cJ7_copyOfRange_39247 24 = .ok (.areturn, 1) := by decide +kernel
theorem dJ7_copyOfRangeByte_39247_0 : decode cJ7_copyOfRangeByte_39247 0 = .ok (.iload_n 1, 1) := by decide +kernel
theorem dJ7_copyOfRangeByte_39247_1 : decode cJ7_copyOfRangeByte_39247 1 = .ok (.iload_n 2, 1) := by decide +kernel
theorem dJ7_copyOfRangeByte_39247_2 : decode cJ7_copyOfRangeByte_39247 2 = .ok (.invokestatic 343, 3) := by decide +kernel
theorem dJ7_copyOfRangeByte_39247_5 : decode cJ7_copyOfRangeByte_39247 5 = .ok (.iload_n 2, 1) := by decide +kernel
theorem dJ7_copyOfRangeByte_39247_6 : decode cJ7_copyOfRangeByte_39247 6 = .ok (.iload_n 1, 1) := by decide +kernel
theorem dJ7_copyOfRangeByte_39247_7 : decode cJ7_copyOfRangeByte_39247 7 = .ok (.isub, 1) := by decide +kernel
theorem dJ7_copyOfRangeByte_39247_8 : decode cJ7_copyOfRangeByte_39247 8 = .ok (.istore_n 3, 1) := by decide +kernel
theorem dJ7_copyOfRangeByte_39247_9 : decode cJ7_copyOfRangeByte_39247 9 = .ok (.iload_n 3, 1) := by decide +kernel
theorem dJ7_copyOfRangeByte_39247_10 : decode cJ7_copyOfRangeByte_39247 10 = .ok (.newarray .byte, 2) := by decide +kernel
theorem dJ7_copyOfRangeByte_39247_12 : decode cJ7_copyOfRangeByte_39247 12 = .ok (.astore 4, 2) := by decide +kernel
theorem dJ7_copyOfRangeByte_39247_14 : decode cJ7_copyOfRangeByte_39247 14 = .ok (.aload_n 0, 1) := by decide +kernel
theorem dJ7_copyOfRangeByte_39247_15 : decode cJ7_copyOfRangeByte_39247 15 = .ok (.iload_n 1, 1) := by decide +kernel
theorem dJ7_copyOfRangeByte_39247_16 : decode cJ7_copyOfRangeByte_39247 16 = .ok (.aload 4, 2) := by decide +kernel
theorem dJ7_copyOfRangeByte_39247_18 : decode cJ7_copyOfRangeByte_39247 18 = .ok (.iconst 0, 1) := by decide +kernel
theorem dJ7_copyOfRangeByte_39247_19 : decode cJ7_copyOfRangeByte_39247 19 = .ok (.aload_n 0, 1) := by decide +kernel
theorem dJ7_copyOfRangeByte_39247_20 : decode cJ7_copyOfRangeByte_39247 20 = .ok (.arraylength, 1) := by decide +kernel
theorem dJ7_copyOfRangeByte_39247_21 : decode cJ7_copyOfRangeByte_39247 21 = .ok (.iload_n 1, 1) := by decide +kernel
theorem dJ7_copyOfRangeByte_39247_22 : decode cJ7_copyOfRangeByte_39247 22 = .ok (.isub, 1) := by decide +kernel
theorem dJ7_copyOfRangeByte_39247_23 : decode cJ7_copyOfRangeByte_39247 23 = .ok (.iload_n 3, 1) := by decide +kernel
theorem dJ7_copyOfRangeByte_39247_24 : decode cJ7_copyOfRangeByte_39247 24 = .ok (.invokestatic 304, 3) := by decide +kernel
theorem dJ7_copyOfRangeByte_39247_27 : decode cJ7_copyOfRangeByte_39247 27 = .ok (.invokestatic 150, 3) := by decide +kernel
theorem dJ7_copyOfRangeByte_39247_30 : decode cJ7_copyOfRangeByte_39247 30 = .ok (.aload 4, 2) := by decide +kernel
theorem dJ7_copyOfRangeByte_39247_32 : decode cJ7_copyOfRangeByte_39247 32 = .ok (.areturn, 1) := by decide +kernel
theorem dJ8_newLength_cabcc_0 : decode cJ8_newLength_cabcc 0 = .ok (.iload_n 0, 1) := by decide +kernel
theorem dJ8_newLength_cabcc_1 : decode cJ8_newLength_cabcc 1 = .ok (.iload_n 1, 1) := by decide +kernel
theorem dJ8_newLength_cabcc_2 : decode cJ8_newLength_cabcc 2 = .ok (.iload_n 2, 1) := by decide +kernel
theorem dJ8_newLength_cabcc_3 : decode cJ8_newLength_cabcc 3 = .ok (.invokestatic 194, 3) := by decide +kernel
theorem dJ8_newLength_cabcc_6 : decode cJ8_newLength_cabcc 6 = .ok (.iadd, 1) := by decide +kernel
theorem dJ8_newLength_cabcc_7 : decode cJ8_newLength_cabcc 7 = .ok (.istore_n 3, 1) := by decide +kernel
theorem dJ8_newLength_cabcc_8 : decode cJ8_newLength_cabcc 8 = .ok (.iconst 0, 1) := by decide +kernel
theorem dJ8_newLength_cabcc_9 : decode cJ8_newLength_cabcc 9 = .ok (.iload_n 3, 1) := by decide +kernel
theorem dJ8_newLength_cabcc_10 : decode cJ8_newLength_cabcc 10 = .ok (.if_icmp .ge 11, 3) := by decide +kernel
theorem dJ8_newLength_cabcc_13 : decode cJ8_newLength_cabcc 13 = .ok (.iload_n 3, 1) := by decide +kernel
theorem dJ8_newLength_cabcc_14 : decode cJ8_newLength_cabcc 14 = .ok (.ldc 200, 2) := by decide +kernel
theorem dJ8_newLength_cabcc_16 : decode cJ8_newLength_cabcc 16 = .ok (.if_icmp .gt 5, 3) := by decide +kernel
theorem dJ8_newLength_cabcc_19 : decode cJ8_newLength_cabcc 19 = .ok (.iload_n 3, 1) := by decide +kernel
theorem dJ8_newLength_cabcc_20 : decode cJ8_newLength_cabcc 20 = .ok (.ireturn, 1) := by decide +kernel
theorem dJ8_newLength_cabcc_21 : decode cJ8_newLength_cabcc 21 = .ok (.iload_n 0, 1) := by decide +kernel
theorem dJ8_newLength_cabcc_22 : decode cJ8_newLength_cabcc 22 = .ok (.iload_n 1, 1) := by decide +kernel
theorem dJ8_newLength_cabcc_23 : decode cJ8_newLength_cabcc 23 = .ok (.invokestatic 201, 3) := by decide +kernel
theorem dJ8_newLength_cabcc_26 : decode cJ8_newLength_cabcc 26 = .ok (.ireturn, 1) := by decide +kernel
theorem dJ8_hugeLength_7cf53_0 : decode cJ8_hugeLength_7cf53 0 = .ok (.iload_n 0, 1) := by decide +kernel
theorem dJ8_hugeLength_7cf53_1 : decode cJ8_hugeLength_7cf53 1 = .ok (.iload_n 1, 1) := by decide +kernel
theorem dJ8_hugeLength_7cf53_2 : decode cJ8_hugeLength_7cf53 2 = .ok (.iadd, 1) := by decide +kernel
theorem dJ8_hugeLength_7cf53_3 : decode cJ8_hugeLength_7cf53 3 = .ok (.istore_n 2, 1) := by decide +kernel
theorem dJ8_hugeLength_7cf53_4 : decode cJ8_hugeLength_7cf53 4 = .ok (.iload_n 2, 1) := by decide +kernel
theorem dJ8_hugeLength_7cf53_5 : decode cJ8_hugeLength_7cf53 5 = .ok (.ifCond .ge 44, 3) := by decide +kernel
theorem dJ8_hugeLength_7cf53_8 : decode cJ8_hugeLength_7cf53 8 = .ok (.new 204, 3) := by decide +kernel
theorem dJ8_hugeLength_7cf53_11 : decode cJ8_hugeLength_7cf53 11 = .ok (.dup, 1) := by decide +kernel
theorem dJ8_hugeLength_7cf53_12 : decode cJ8_hugeLength_7cf53 12 = .ok (.new 89, 3) := by decide +kernel
theorem dJ8_hugeLength_7cf53_15 : decode cJ8_hugeLength_7cf53 15 = .ok (.dup, 1) := by decide +kernel
theorem dJ8_hugeLength_7cf53_16 : decode cJ8_hugeLength_7cf53 16 = .ok (.invokespecial 91, 3) := by decide +kernel
theorem dJ8_hugeLength_7cf53_19 : decode cJ8_hugeLength_7cf53 19 = .ok (.ldc 206, 2) := by decide +kernel
theorem dJ8_hugeLength_7cf53_21 : decode cJ8_hugeLength_7cf53 21 = .ok (.invokevirtual 94, 3) := by decide +kernel
theorem dJ8_hugeLength_7cf53_24 : decode cJ8_hugeLength_7cf53 24 = .ok (.iload_n 0, 1) := by decide +kernel
theorem dJ8_hugeLength_7cf53_25 : decode cJ8_hugeLength_7cf53 25 = .ok (.invokevirtual 98, 3) := by decide +kernel
theorem dJ8_hugeLength_7cf53_28 : decode cJ8_hugeLength_7cf53 28 = .ok (.ldc 208, 2) := by decide +kernel
theorem dJ8_hugeLength_7cf53_30 : decode cJ8_hugeLength_7cf53 30 = .ok (.invokevirtual 94, 3) := by decide +kernel
theorem dJ8_hugeLength_7cf53_33 : decode cJ8_hugeLength_7cf53 33 = .ok (.iload_n 1, 1) := by decide +kernel
theorem dJ8_hugeLength_7cf53_34 : decode cJ8_hugeLength_7cf53 34 = .ok (.invokevirtual 98, 3) := by decide +kernel
theorem dJ8_hugeLength_7cf53_37 : decode cJ8_hugeLength_7cf53 37 = .ok (.ldc 210, 2) := by decide +kernel
theorem dJ8_hugeLength_7cf53_39 : decode cJ8_hugeLength_7cf53 39 = .ok (.invokevirtual 94, 3) := by decide +kernel
theorem dJ8_hugeLength_7cf53_42 : decode cJ8_hugeLength_7cf53 42 = .ok (.invokevirtual 101, 3) := by decide +kernel
theorem dJ8_hugeLength_7cf53_45 : decode cJ8_hugeLength_7cf53 45 = .ok (.invokespecial 212, 3) := by decide +kernel
theorem dJ8_hugeLength_7cf53_48 : decode cJ8_hugeLength_7cf53 48 = .ok (.athrow, 1) := by decide +kernel
theorem dJ8_hugeLength_7cf53_49 : decode cJ8_hugeLength_7cf53 49 = .ok (.iload_n 2, 1) := by decide +kernel
theorem dJ8_hugeLength_7cf53_50 : decode cJ8_hugeLength_7cf53 50 = .ok (.ldc 200, 2) := by decide +kernel
theorem dJ8_hugeLength_7cf53_52 : decode cJ8_hugeLength_7cf53 52 = .ok (.if_icmp .gt 6, 3) := by decide +kernel
theorem dJ8_hugeLength_7cf53_55 : decode cJ8_hugeLength_7cf53 55 = .ok (.ldc 200, 2) := by decide +kernel
theorem dJ8_hugeLength_7cf53_57 : decode cJ8_hugeLength_7cf53 57 = .ok (.ireturn, 1) := by decide +kernel
theorem dJ8_hugeLength_7cf53_58 : decode cJ8_hugeLength_7cf53 58 = .ok (.iload_n 2, 1) := by decide +kernel
theorem dJ8_hugeLength_7cf53_59 : decode cJ8_hugeLength_7cf53 59 = .ok (.ireturn, 1) := by decide +kernel
theorem dJ3_checkIndex_8e157_0 : decode cJ3_checkIndex_8e157 0 = .ok (.iload_n 0, 1) := by decide +kernel
theorem dJ3_checkIndex_8e157_1 : decode cJ3_checkIndex_8e157 1 = .ok (.ifCond .lt 8, 3) := by decide +kernel
theorem dJ3_checkIndex_8e157_4 : decode cJ3_checkIndex_8e157 4 = .ok (.iload_n 0, 1) := by decide +kernel
theorem dJ3_checkIndex_8e157_5 : decode cJ3_checkIndex_8e157 5 = .ok (.iload_n 1, 1) := by decide +kernel
theorem dJ3_checkIndex_8e157_6 : decode cJ3_checkIndex_8e157 6 = .ok (.if_icmp .lt 10, 3) := by decide +kernel
theorem dJ3_checkIndex_8e157_9 : decode cJ3_checkIndex_8e157 9 = .ok (.aload_n 2, 1) := by decide +kernel
theorem dJ3_checkIndex_8e157_10 : decode cJ3_checkIndex_8e157 10 = .ok (.iload_n 0, 1) := by decide +kernel
theorem dJ3_checkIndex_8e157_11 : decode cJ3_checkIndex_8e157 11 = .ok (.iload_n 1, 1) := by decide +kernel
theorem dJ3_checkIndex_8e157_12 : decode cJ3_checkIndex_8e157 12 = .ok (.invokestatic 95, 3) := by decide +kernel
theorem dJ3_checkIndex_8e157_15 : decode cJ3_checkIndex_8e157 15 = .ok (.athrow, 1) := by decide +kernel
theorem dJ3_checkIndex_8e157_16 : decode cJ3_checkIndex_8e157 16 = .ok (.iload_n 0, 1) := by decide +kernel
theorem dJ3_checkIndex_8e157_17 : decode cJ3_checkIndex_8e157 17 = .ok (.ireturn, 1) := by decide +kernel
theorem dJ3_checkFromToIndex_8c36e_0 : decode cJ3_checkFromToIndex_8c36e 0 = .ok (.iload_n 0, 1) := by decide +kernel
theorem dJ3_checkFromToIndex_8c36e_1 : decode cJ3_checkFromToIndex_8c36e 1 = .ok (.ifCond .lt 13, 3) := by decide +kernel
theorem dJ3_checkFromToIndex_8c36e_4 : decode cJ3_checkFromToIndex_8c36e 4 = .ok (.iload_n 0, 1) := by decide +kernel
theorem dJ3_checkFromToIndex_8c36e_5 : decode cJ3_checkFromToIndex_8c36e 5 = .ok (.iload_n 1, 1) := by decide +kernel
theorem dJ3_checkFromToIndex_8c36e_6 : decode cJ3_checkFromToIndex_8c36e 6 = .ok (.if_icmp .gt 8, 3) := by decide +kernel
theorem dJ3_checkFromToIndex_8c36e_9 : decode cJ3_checkFromToIndex_8c36e 9 = .ok (.iload_n 1, 1) := by decide +kernel
theorem dJ3_checkFromToIndex_8c36e_10 : decode cJ3_checkFromToIndex_8c36e 10 = .ok (.iload_n 2, 1) := by decide +kernel
theorem dJ3_checkFromToIndex_8c36e_11 : decode cJ3_checkFromToIndex_8c36e 11 = .ok (.if_icmp .le 11, 3) := by decide +kernel
theorem dJ3_checkFromToIndex_8c36e_14 : decode cJ3_checkFromToIndex_8c36e 14 = .ok (.aload_n 3, 1) := by decide +kernel
theorem dJ3_checkFromToIndex_8c36e_15 : decode cJ3_checkFromToIndex_8c36e 15 = .ok (.iload_n 0, 1) := by decide +kernel
theorem dJ3_checkFromToIndex_8c36e_16 : decode cJ3_checkFromToIndex_8c36e 16 = .ok (.iload_n 1, 1) := by decide +kernel
theorem dJ3_checkFromToIndex_8c36e_17 : decode cJ3_checkFromToIndex_8c36e 17 = .ok (.iload_n 2, 1) := by decide +kernel
theorem dJ3_checkFromToIndex_8c36e_18 : decode cJ3_checkFromToIndex_8c36e 18 = .ok (.invokestatic 99, 3) := by decide +kernel
theorem dJ3_checkFromToIndex_8c36e_21 : decode cJ3_checkFromToIndex_8c36e 21 = .ok (.athrow, 1) := by decide +kernel
theorem dJ3_checkFromToIndex_8c36e_22 : decode cJ3_checkFromToIndex_8c36e 22 = .ok (.iload_n 0, 1) := by decide +kernel
theorem dJ3_checkFromToIndex_8c36e_23 : decode cJ3_checkFromToIndex_8c36e 23 = .ok (.ireturn, 1) := by decide +kernel
theorem dJ3_checkFromIndexSize_8c36e_0 : decode cJ3_checkFromIndexSize_8c36e 0 = .ok (.iload_n 2, 1) := by decide +kernel
theorem dJ3_checkFromIndexSize_8c36e_1 : decode cJ3_checkFromIndexSize_8c36e 1 = .ok (.iload_n 0, 1) := by decide +kernel
theorem dJ3_checkFromIndexSize_8c36e_2 : decode cJ3_checkFromIndexSize_8c36e 2 = .ok (.ior, 1) := by decide +kernel
theorem dJ3_checkFromIndexSize_8c36e_3 : decode cJ3_checkFromIndexSize_8c36e 3 = .ok (.iload_n 1, 1) := by decide +kernel
theorem dJ3_checkFromIndexSize_8c36e_4 : decode cJ3_checkFromIndexSize_8c36e 4 = .ok (.ior, 1) := by decide +kernel
theorem dJ3_checkFromIndexSize_8c36e_5 : decode cJ3_checkFromIndexSize_8c36e 5 = .ok (.ifCond .lt 10, 3) := by decide +kernel
theorem dJ3_checkFromIndexSize_8c36e_8 : decode cJ3_checkFromIndexSize_8c36e 8 = .ok (.iload_n 1, 1) := by decide +kernel
theorem dJ3_checkFromIndexSize_8c36e_9 : decode cJ3_checkFromIndexSize_8c36e 9 = .ok (.iload_n 2, 1) := by decide +kernel
theorem dJ3_checkFromIndexSize_8c36e_10 : decode cJ3_checkFromIndexSize_8c36e 10 = .ok (.iload_n 0, 1) := by decide +kernel
theorem dJ3_checkFromIndexSize_8c36e_11 : decode cJ3_checkFromIndexSize_8c36e 11 = .ok (.isub, 1) := by decide +kernel
theorem dJ3_checkFromIndexSize_8c36e_12 : decode cJ3_checkFromIndexSize_8c36e 12 = .ok (.if_icmp .le 11, 3) := by decide +kernel
theorem dJ3_checkFromIndexSize_8c36e_15 : decode cJ3_checkFromIndexSize_8c36e 15 = .ok (.aload_n 3, 1) := by decide +kernel
theorem dJ3_checkFromIndexSize_8c36e_16 : decode cJ3_checkFromIndexSize_8c36e 16 = .ok (.iload_n 0, 1) := by decide +kernel
theorem dJ3_checkFromIndexSize_8c36e_17 : decode cJ3_checkFromIndexSize_8c36e 17 = .ok (.iload_n 1, 1) := by decide +kernel
theorem dJ3_checkFromIndexSize_8c36e_18 : decode cJ3_checkFromIndexSize_8c36e 18 = .ok (.iload_n 2, 1) := by decide +kernel
theorem dJ3_checkFromIndexSize_8c36e_19 : decode cJ3_checkFromIndexSize_8c36e 19 = .ok (.invokestatic 103, 3) := by decide +kernel
theorem dJ3_checkFromIndexSize_8c36e_22 : decode cJ3_checkFromIndexSize_8c36e 22 = .ok (.athrow, 1) := by decide +kernel
theorem dJ3_checkFromIndexSize_8c36e_23 : decode cJ3_checkFromIndexSize_8c36e 23 = .ok (.iload_n 0, 1) := by decide +kernel
theorem dJ3_checkFromIndexSize_8c36e_24 : decode cJ3_checkFromIndexSize_8c36e 24 = .ok (.ireturn, 1) := by decide +kernel
theorem dL_init_0 : decode cL_init 0 = .ok (.aload_n 0, 1) := by decide +kernel
theorem dL_init_1 : decode cL_init 1 = .ok (.invokespecial 1, 3) := by decide +kernel
theorem dL_init_4 : decode cL_init 4 = .ok (.aload_n 0, 1) := by decide +kernel
theorem dL_init_5 : decode cL_init 5 = .ok (.new 7, 3) := by decide +kernel
theorem dL_init_8 : decode cL_init 8 = .ok (.dup, 1) := by decide +kernel
theorem dL_init_9 : decode cL_init 9 = .ok (.invokespecial 9, 3) := by decide +kernel
theorem dL_init_12 : decode cL_init 12 = .ok (.putfield 10, 3) := by decide +kernel
theorem dL_init_15 : decode cL_init 15 = .ok (.aload_n 0, 1) := by decide +kernel
theorem dL_init_16 : decode cL_init 16 = .ok (.bipush 8, 2) := by decide +kernel
theorem dL_init_18 : decode cL_init 18 = .ok (.newarray .int, 2) := by decide +kernel
theorem dL_init_20 : decode cL_init 20 = .ok (.putfield 16, 3) := by decide +kernel
theorem dL_init_23 : decode cL_init 23 = .ok (.aload_n 0, 1) := by decide +kernel
theorem dL_init_24 : decode cL_init 24 = .ok (.bipush 8, 2) := by decide +kernel
theorem dL_init_26 : decode cL_init 26 = .ok (.newarray .int, 2) := by decide +kernel
theorem dL_init_28 : decode cL_init 28 = .ok (.putfield 20, 3) := by decide +kernel
theorem dL_init_31 : decode cL_init 31 = .ok (.aload_n 0, 1) := by decide +kernel
theorem dL_init_32 : decode cL_init 32 = .ok (.bipush 6, 2) := by decide +kernel
theorem dL_init_34 : decode cL_init 34 = .ok (.newarray .int, 2) := by decide +kernel
theorem dL_init_36 : decode cL_init 36 = .ok (.putfield 23, 3) := by decide +kernel
theorem dL_init_39 : decode cL_init 39 = .ok (.return_, 1) := by decide +kernel
theorem dL_at_0 : decode cL_at 0 = .ok (.iload_n 1, 1) := by decide +kernel
theorem dL_at_1 : decode cL_at 1 = .ok (.aload_n 0, 1) := by decide +kernel
theorem dL_at_2 : decode cL_at 2 = .ok (.arraylength, 1) := by decide +kernel
theorem dL_at_3 : decode cL_at 3 = .ok (.if_icmp .ge 9, 3) := by decide +kernel
theorem dL_at_6 : decode cL_at 6 = .ok (.aload_n 0, 1) := by decide +kernel
theorem dL_at_7 : decode cL_at 7 = .ok (.iload_n 1, 1) := by decide +kernel
theorem dL_at_8 : decode cL_at 8 = .ok (.iaload, 1) := by decide +kernel
theorem dL_at_9 : decode cL_at 9 = .ok (.goto 4, 3) := by decide +kernel
theorem dL_at_12 : decode cL_at 12 = .ok (.iconst 0, 1) := by decide +kernel
theorem dL_at_13 : decode cL_at 13 = .ok (.istore_n 2, 1) := by decide +kernel
theorem dL_at_14 : decode cL_at 14 = .ok (.iload_n 2, 1) := by decide +kernel
theorem dL_at_15 : decode cL_at 15 = .ok (.ifCond .le 22, 3) := by decide +kernel
theorem dL_at_18 : decode cL_at 18 = .ok (.iload_n 2, 1) := by decide +kernel
theorem dL_at_19 : decode cL_at 19 = .ok (.sipush 512, 3) := by decide +kernel
theorem dL_at_22 : decode cL_at 22 = .ok (.if_icmp .ge 15, 3) := by decide +kernel
theorem dL_at_25 : decode cL_at 25 = .ok (.iload_n 2, 1) := by decide +kernel
theorem dL_at_26 : decode cL_at 26 = .ok (.ldc 26, 2) := by decide +kernel
theorem dL_at_28 : decode cL_at 28 = .ok (.imul, 1) := by decide +kernel
theorem dL_at_29 : decode cL_at 29 = .ok (.iload_n 1, 1) := by decide +kernel
theorem dL_at_30 : decode cL_at 30 = .ok (.ldc 27, 2) := by decide +kernel
theorem dL_at_32 : decode cL_at 32 = .ok (.imul, 1) := by decide +kernel
theorem dL_at_33 : decode cL_at 33 = .ok (.ixor, 1) := by decide +kernel
theorem dL_at_34 : decode cL_at 34 = .ok (.goto 4, 3) := by decide +kernel
theorem dL_at_37 : decode cL_at 37 = .ok (.iload_n 2, 1) := by decide +kernel
theorem dL_at_38 : decode cL_at 38 = .ok (.ireturn, 1) := by decide +kernel
theorem dL_draw_0 : decode cL_draw 0 = .ok (.aload_n 0, 1) := by decide +kernel
theorem dL_draw_1 : decode cL_draw 1 = .ok (.getfield 28, 3) := by decide +kernel
theorem dL_draw_4 : decode cL_draw 4 = .ok (.aload_n 0, 1) := by decide +kernel
theorem dL_draw_5 : decode cL_draw 5 = .ok (.getfield 31, 3) := by decide +kernel
theorem dL_draw_8 : decode cL_draw 8 = .ok (.iconst 1, 1) := by decide +kernel
theorem dL_draw_9 : decode cL_draw 9 = .ok (.aload_n 0, 1) := by decide +kernel
theorem dL_draw_10 : decode cL_draw 10 = .ok (.getfield 28, 3) := by decide +kernel
theorem dL_draw_13 : decode cL_draw 13 = .ok (.arraylength, 1) := by decide +kernel
theorem dL_draw_14 : decode cL_draw 14 = .ok (.invokestatic 35, 3) := by decide +kernel
theorem dL_draw_17 : decode cL_draw 17 = .ok (.irem, 1) := by decide +kernel
theorem dL_draw_18 : decode cL_draw 18 = .ok (.invokestatic 41, 3) := by decide +kernel
theorem dL_draw_21 : decode cL_draw 21 = .ok (.aload_n 0, 1) := by decide +kernel
theorem dL_draw_22 : decode cL_draw 22 = .ok (.getfield 31, 3) := by decide +kernel
theorem dL_draw_25 : decode cL_draw 25 = .ok (.ldc 45, 2) := by decide +kernel
theorem dL_draw_27 : decode cL_draw 27 = .ok (.imul, 1) := by decide +kernel
theorem dL_draw_28 : decode cL_draw 28 = .ok (.iadd, 1) := by decide +kernel
theorem dL_draw_29 : decode cL_draw 29 = .ok (.istore_n 2, 1) := by decide +kernel
theorem dL_draw_30 : decode cL_draw 30 = .ok (.aload_n 0, 1) := by decide +kernel
theorem dL_draw_31 : decode cL_draw 31 = .ok (.dup, 1) := by decide +kernel
theorem dL_draw_32 : decode cL_draw 32 = .ok (.getfield 31, 3) := by decide +kernel
theorem dL_draw_35 : decode cL_draw 35 = .ok (.iconst 1, 1) := by decide +kernel
theorem dL_draw_36 : decode cL_draw 36 = .ok (.iadd, 1) := by decide +kernel
theorem dL_draw_37 : decode cL_draw 37 = .ok (.putfield 31, 3) := by decide +kernel
theorem dL_draw_40 : decode cL_draw 40 = .ok (.iload_n 2, 1) := by decide +kernel
theorem dL_draw_41 : decode cL_draw 41 = .ok (.iload_n 2, 1) := by decide +kernel
theorem dL_draw_42 : decode cL_draw 42 = .ok (.bipush 15, 2) := by decide +kernel
theorem dL_draw_44 : decode cL_draw 44 = .ok (.iushr, 1) := by decide +kernel
theorem dL_draw_45 : decode cL_draw 45 = .ok (.ixor, 1) := by decide +kernel
theorem dL_draw_46 : decode cL_draw 46 = .ok (.istore_n 2, 1) := by decide +kernel
theorem dL_draw_47 : decode cL_draw 47 = .ok (.iload_n 2, 1) := by decide +kernel
theorem dL_draw_48 : decode cL_draw 48 = .ok (.ldc 46, 2) := by decide +kernel
theorem dL_draw_50 : decode cL_draw 50 = .ok (.imul, 1) := by decide +kernel
theorem dL_draw_51 : decode cL_draw 51 = .ok (.istore_n 2, 1) := by decide +kernel
theorem dL_draw_52 : decode cL_draw 52 = .ok (.iload_n 2, 1) := by decide +kernel
theorem dL_draw_53 : decode cL_draw 53 = .ok (.iload_n 2, 1) := by decide +kernel
theorem dL_draw_54 : decode cL_draw 54 = .ok (.bipush 13, 2) := by decide +kernel
theorem dL_draw_56 : decode cL_draw 56 = .ok (.iushr, 1) := by decide +kernel
theorem dL_draw_57 : decode cL_draw 57 = .ok (.ixor, 1) := by decide +kernel
theorem dL_draw_58 : decode cL_draw 58 = .ok (.istore_n 2, 1) := by decide +kernel
theorem dL_draw_59 : decode cL_draw 59 = .ok (.iload_n 2, 1) := by decide +kernel
theorem dL_draw_60 : decode cL_draw 60 = .ok (.ldc 47, 2) := by decide +kernel
theorem dL_draw_62 : decode cL_draw 62 = .ok (.iand, 1) := by decide +kernel
theorem dL_draw_63 : decode cL_draw 63 = .ok (.iload_n 1, 1) := by decide +kernel
theorem dL_draw_64 : decode cL_draw 64 = .ok (.irem, 1) := by decide +kernel
theorem dL_draw_65 : decode cL_draw 65 = .ok (.ireturn, 1) := by decide +kernel
theorem dL_put_0 : decode cL_put 0 = .ok (.aload_n 0, 1) := by decide +kernel
theorem dL_put_1 : decode cL_put 1 = .ok (.getfield 10, 3) := by decide +kernel
theorem dL_put_4 : decode cL_put 4 = .ok (.iconst 0, 1) := by decide +kernel
theorem dL_put_5 : decode cL_put 5 = .ok (.invokevirtual 48, 3) := by decide +kernel
theorem dL_put_8 : decode cL_put 8 = .ok (.pop, 1) := by decide +kernel
theorem dL_put_9 : decode cL_put 9 = .ok (.iconst 0, 1) := by decide +kernel
theorem dL_put_10 : decode cL_put 10 = .ok (.istore_n 2, 1) := by decide +kernel
theorem dL_put_11 : decode cL_put 11 = .ok (.iload_n 2, 1) := by decide +kernel
theorem dL_put_12 : decode cL_put 12 = .ok (.aload_n 1, 1) := by decide +kernel
theorem dL_put_13 : decode cL_put 13 = .ok (.invokevirtual 52, 3) := by decide +kernel
theorem dL_put_16 : decode cL_put 16 = .ok (.if_icmp .ge 68, 3) := by decide +kernel
theorem dL_put_19 : decode cL_put 19 = .ok (.iconst 0, 1) := by decide +kernel
theorem dL_put_20 : decode cL_put 20 = .ok (.istore_n 3, 1) := by decide +kernel
theorem dL_put_21 : decode cL_put 21 = .ok (.iconst 0, 1) := by decide +kernel
theorem dL_put_22 : decode cL_put 22 = .ok (.istore 4, 2) := by decide +kernel
theorem dL_put_24 : decode cL_put 24 = .ok (.iload 4, 2) := by decide +kernel
theorem dL_put_26 : decode cL_put 26 = .ok (.iconst 4, 1) := by decide +kernel
theorem dL_put_27 : decode cL_put 27 = .ok (.if_icmp .ge 42, 3) := by decide +kernel
theorem dL_put_30 : decode cL_put 30 = .ok (.iload_n 3, 1) := by decide +kernel
theorem dL_put_31 : decode cL_put 31 = .ok (.bipush 8, 2) := by decide +kernel
theorem dL_put_33 : decode cL_put 33 = .ok (.ishl, 1) := by decide +kernel
theorem dL_put_34 : decode cL_put 34 = .ok (.iload_n 2, 1) := by decide +kernel
theorem dL_put_35 : decode cL_put 35 = .ok (.iload 4, 2) := by decide +kernel
theorem dL_put_37 : decode cL_put 37 = .ok (.iadd, 1) := by decide +kernel
theorem dL_put_38 : decode cL_put 38 = .ok (.aload_n 1, 1) := by decide +kernel
theorem dL_put_39 : decode cL_put 39 = .ok (.invokevirtual 52, 3) := by decide +kernel
theorem dL_put_42 : decode cL_put 42 = .ok (.if_icmp .ge 18, 3) := by decide +kernel
theorem dL_put_45 : decode cL_put 45 = .ok (.aload_n 1, 1) := by decide +kernel
theorem dL_put_46 : decode cL_put 46 = .ok (.iload_n 2, 1) := by decide +kernel
theorem dL_put_47 : decode cL_put 47 = .ok (.iload 4, 2) := by decide +kernel
theorem dL_put_49 : decode cL_put 49 = .ok (.iadd, 1) := by decide +kernel
theorem dL_put_50 : decode cL_put 50 = .ok (.invokevirtual 58, 3) := by decide +kernel
theorem dL_put_53 : decode cL_put 53 = .ok (.sipush 255, 3) := by decide +kernel
theorem dL_put_56 : decode cL_put 56 = .ok (.iand, 1) := by decide +kernel
theorem dL_put_57 : decode cL_put 57 = .ok (.goto 4, 3) := by decide +kernel
theorem dL_put_60 : decode cL_put 60 = .ok (.iconst 0, 1) := by decide +kernel
theorem dL_put_61 : decode cL_put 61 = .ok (.ior, 1) := by decide +kernel
theorem dL_put_62 : decode cL_put 62 = .ok (.istore_n 3, 1) := by decide +kernel
theorem dL_put_63 : decode cL_put 63 = .ok (.iinc 4 1, 3) := by decide +kernel
theorem dL_put_66 : decode cL_put 66 = .ok (.goto (-42), 3) := by decide +kernel
theorem dL_put_69 : decode cL_put 69 = .ok (.aload_n 0, 1) := by decide +kernel
theorem dL_put_70 : decode cL_put 70 = .ok (.getfield 10, 3) := by decide +kernel
theorem dL_put_73 : decode cL_put 73 = .ok (.iload_n 3, 1) := by decide +kernel
theorem dL_put_74 : decode cL_put 74 = .ok (.invokevirtual 62, 3) := by decide +kernel
theorem dL_put_77 : decode cL_put 77 = .ok (.pop, 1) := by decide +kernel
theorem dL_put_78 : decode cL_put 78 = .ok (.iinc 2 4, 3) := by decide +kernel
theorem dL_put_81 : decode cL_put 81 = .ok (.goto (-70), 3) := by decide +kernel
theorem dL_put_84 : decode cL_put 84 = .ok (.aload_n 0, 1) := by decide +kernel
theorem dL_put_85 : decode cL_put 85 = .ok (.getfield 10, 3) := by decide +kernel
theorem dL_put_88 : decode cL_put 88 = .ok (.aload_n 1, 1) := by decide +kernel
theorem dL_put_89 : decode cL_put 89 = .ok (.invokevirtual 52, 3) := by decide +kernel
theorem dL_put_92 : decode cL_put 92 = .ok (.invokevirtual 48, 3) := by decide +kernel
theorem dL_put_95 : decode cL_put 95 = .ok (.pop, 1) := by decide +kernel
theorem dL_put_96 : decode cL_put 96 = .ok (.return_, 1) := by decide +kernel
theorem dL_builds_0 : decode cL_builds 0 = .ok (.iconst 1, 1) := by decide +kernel
theorem dL_builds_1 : decode cL_builds 1 = .ok (.aload_n 0, 1) := by decide +kernel
theorem dL_builds_2 : decode cL_builds 2 = .ok (.bipush 12, 2) := by decide +kernel
theorem dL_builds_4 : decode cL_builds 4 = .ok (.invokevirtual 65, 3) := by decide +kernel
theorem dL_builds_7 : decode cL_builds 7 = .ok (.iadd, 1) := by decide +kernel
theorem dL_builds_8 : decode cL_builds 8 = .ok (.istore_n 1, 1) := by decide +kernel
theorem dL_builds_9 : decode cL_builds 9 = .ok (.iconst 0, 1) := by decide +kernel
theorem dL_builds_10 : decode cL_builds 10 = .ok (.istore_n 2, 1) := by decide +kernel
theorem dL_builds_11 : decode cL_builds 11 = .ok (.iload_n 2, 1) := by decide +kernel
theorem dL_builds_12 : decode cL_builds 12 = .ok (.iload_n 1, 1) := by decide +kernel
theorem dL_builds_13 : decode cL_builds 13 = .ok (.if_icmp .ge 63, 3) := by decide +kernel
theorem dL_builds_16 : decode cL_builds 16 = .ok (.aload_n 0, 1) := by decide +kernel
theorem dL_builds_17 : decode cL_builds 17 = .ok (.getfield 10, 3) := by decide +kernel
theorem dL_builds_20 : decode cL_builds 20 = .ok (.bipush 50, 2) := by decide +kernel
theorem dL_builds_22 : decode cL_builds 22 = .ok (.aload_n 0, 1) := by decide +kernel
theorem dL_builds_23 : decode cL_builds 23 = .ok (.sipush 3000, 3) := by decide +kernel
theorem dL_builds_26 : decode cL_builds 26 = .ok (.invokevirtual 65, 3) := by decide +kernel
theorem dL_builds_29 : decode cL_builds 29 = .ok (.iadd, 1) := by decide +kernel
theorem dL_builds_30 : decode cL_builds 30 = .ok (.aload_n 0, 1) := by decide +kernel
theorem dL_builds_31 : decode cL_builds 31 = .ok (.ldc 68, 2) := by decide +kernel
theorem dL_builds_33 : decode cL_builds 33 = .ok (.invokevirtual 65, 3) := by decide +kernel
theorem dL_builds_36 : decode cL_builds 36 = .ok (.sipush 30000, 3) := by decide +kernel
theorem dL_builds_39 : decode cL_builds 39 = .ok (.isub, 1) := by decide +kernel
theorem dL_builds_40 : decode cL_builds 40 = .ok (.aload_n 0, 1) := by decide +kernel
theorem dL_builds_41 : decode cL_builds 41 = .ok (.sipush 400, 3) := by decide +kernel
theorem dL_builds_44 : decode cL_builds 44 = .ok (.invokevirtual 65, 3) := by decide +kernel
theorem dL_builds_47 : decode cL_builds 47 = .ok (.aload_n 0, 1) := by decide +kernel
theorem dL_builds_48 : decode cL_builds 48 = .ok (.sipush 400, 3) := by decide +kernel
theorem dL_builds_51 : decode cL_builds 51 = .ok (.invokevirtual 65, 3) := by decide +kernel
theorem dL_builds_54 : decode cL_builds 54 = .ok (.aload_n 0, 1) := by decide +kernel
theorem dL_builds_55 : decode cL_builds 55 = .ok (.sipush 9000, 3) := by decide +kernel
theorem dL_builds_58 : decode cL_builds 58 = .ok (.invokevirtual 65, 3) := by decide +kernel
theorem dL_builds_61 : decode cL_builds 61 = .ok (.invokevirtual 69, 3) := by decide +kernel
theorem dL_builds_64 : decode cL_builds 64 = .ok (.iload_n 2, 1) := by decide +kernel
theorem dL_builds_65 : decode cL_builds 65 = .ok (.if_icmp .eq 5, 3) := by decide +kernel
theorem dL_builds_68 : decode cL_builds 68 = .ok (.iconst 0, 1) := by decide +kernel
theorem dL_builds_69 : decode cL_builds 69 = .ok (.ireturn, 1) := by decide +kernel
theorem dL_builds_70 : decode cL_builds 70 = .ok (.iinc 2 1, 3) := by decide +kernel
theorem dL_builds_73 : decode cL_builds 73 = .ok (.goto (-62), 3) := by decide +kernel
theorem dL_builds_76 : decode cL_builds 76 = .ok (.aload_n 0, 1) := by decide +kernel
theorem dL_builds_77 : decode cL_builds 77 = .ok (.bipush 20, 2) := by decide +kernel
theorem dL_builds_79 : decode cL_builds 79 = .ok (.invokevirtual 65, 3) := by decide +kernel
theorem dL_builds_82 : decode cL_builds 82 = .ok (.istore_n 2, 1) := by decide +kernel
theorem dL_builds_83 : decode cL_builds 83 = .ok (.iload_n 2, 1) := by decide +kernel
theorem dL_builds_84 : decode cL_builds 84 = .ok (.ifCond .le 81, 3) := by decide +kernel
theorem dL_builds_87 : decode cL_builds 87 = .ok (.aload_n 0, 1) := by decide +kernel
theorem dL_builds_88 : decode cL_builds 88 = .ok (.iload_n 1, 1) := by decide +kernel
theorem dL_builds_89 : decode cL_builds 89 = .ok (.invokevirtual 65, 3) := by decide +kernel
theorem dL_builds_92 : decode cL_builds 92 = .ok (.istore_n 3, 1) := by decide +kernel
theorem dL_builds_93 : decode cL_builds 93 = .ok (.aload_n 0, 1) := by decide +kernel
theorem dL_builds_94 : decode cL_builds 94 = .ok (.iload_n 1, 1) := by decide +kernel
theorem dL_builds_95 : decode cL_builds 95 = .ok (.invokevirtual 65, 3) := by decide +kernel
theorem dL_builds_98 : decode cL_builds 98 = .ok (.istore 4, 2) := by decide +kernel
theorem dL_builds_100 : decode cL_builds 100 = .ok (.aload_n 0, 1) := by decide +kernel
theorem dL_builds_101 : decode cL_builds 101 = .ok (.sipush 3000, 3) := by decide +kernel
theorem dL_builds_104 : decode cL_builds 104 = .ok (.invokevirtual 65, 3) := by decide +kernel
theorem dL_builds_107 : decode cL_builds 107 = .ok (.istore 5, 2) := by decide +kernel
theorem dL_builds_109 : decode cL_builds 109 = .ok (.iload_n 3, 1) := by decide +kernel
theorem dL_builds_110 : decode cL_builds 110 = .ok (.iload 4, 2) := by decide +kernel
theorem dL_builds_112 : decode cL_builds 112 = .ok (.if_icmp .eq 47, 3) := by decide +kernel
theorem dL_builds_115 : decode cL_builds 115 = .ok (.aload_n 0, 1) := by decide +kernel
theorem dL_builds_116 : decode cL_builds 116 = .ok (.getfield 10, 3) := by decide +kernel
theorem dL_builds_119 : decode cL_builds 119 = .ok (.invokevirtual 73, 3) := by decide +kernel
theorem dL_builds_122 : decode cL_builds 122 = .ok (.bipush 24, 2) := by decide +kernel
theorem dL_builds_124 : decode cL_builds 124 = .ok (.if_icmp .ge 35, 3) := by decide +kernel
theorem dL_builds_127 : decode cL_builds 127 = .ok (.aload_n 0, 1) := by decide +kernel
theorem dL_builds_128 : decode cL_builds 128 = .ok (.getfield 10, 3) := by decide +kernel
theorem dL_builds_131 : decode cL_builds 131 = .ok (.iload_n 3, 1) := by decide +kernel
theorem dL_builds_132 : decode cL_builds 132 = .ok (.iload 4, 2) := by decide +kernel
theorem dL_builds_134 : decode cL_builds 134 = .ok (.iload 5, 2) := by decide +kernel
theorem dL_builds_136 : decode cL_builds 136 = .ok (.invokevirtual 76, 3) := by decide +kernel
theorem dL_builds_139 : decode cL_builds 139 = .ok (.ifCond .lt 18, 3) := by decide +kernel
theorem dL_builds_142 : decode cL_builds 142 = .ok (.aload_n 0, 1) := by decide +kernel
theorem dL_builds_143 : decode cL_builds 143 = .ok (.getfield 10, 3) := by decide +kernel
theorem dL_builds_146 : decode cL_builds 146 = .ok (.iload 4, 2) := by decide +kernel
theorem dL_builds_148 : decode cL_builds 148 = .ok (.iload_n 3, 1) := by decide +kernel
theorem dL_builds_149 : decode cL_builds 149 = .ok (.invokevirtual 80, 3) := by decide +kernel
theorem dL_builds_152 : decode cL_builds 152 = .ok (.iload 5, 2) := by decide +kernel
theorem dL_builds_154 : decode cL_builds 154 = .ok (.if_icmp .eq 5, 3) := by decide +kernel
theorem dL_builds_157 : decode cL_builds 157 = .ok (.iconst 0, 1) := by decide +kernel
theorem dL_builds_158 : decode cL_builds 158 = .ok (.ireturn, 1) := by decide +kernel
theorem dL_builds_159 : decode cL_builds 159 = .ok (.iinc 2 (-1), 3) := by decide +kernel
theorem dL_builds_162 : decode cL_builds 162 = .ok (.goto (-79), 3) := by decide +kernel
theorem dL_builds_165 : decode cL_builds 165 = .ok (.iconst 0, 1) := by decide +kernel
theorem dL_builds_166 : decode cL_builds 166 = .ok (.istore_n 2, 1) := by decide +kernel
theorem dL_builds_167 : decode cL_builds 167 = .ok (.iload_n 2, 1) := by decide +kernel
theorem dL_builds_168 : decode cL_builds 168 = .ok (.bipush 6, 2) := by decide +kernel
theorem dL_builds_170 : decode cL_builds 170 = .ok (.if_icmp .ge 81, 3) := by decide +kernel
theorem dL_builds_173 : decode cL_builds 173 = .ok (.aload_n 0, 1) := by decide +kernel
theorem dL_builds_174 : decode cL_builds 174 = .ok (.iconst 3, 1) := by decide +kernel
theorem dL_builds_175 : decode cL_builds 175 = .ok (.invokevirtual 65, 3) := by decide +kernel
theorem dL_builds_178 : decode cL_builds 178 = .ok (.ifCond .le 73, 3) := by decide +kernel
theorem dL_builds_181 : decode cL_builds 181 = .ok (.aload_n 0, 1) := by decide +kernel
theorem dL_builds_182 : decode cL_builds 182 = .ok (.getfield 23, 3) := by decide +kernel
theorem dL_builds_185 : decode cL_builds 185 = .ok (.iload_n 2, 1) := by decide +kernel
theorem dL_builds_186 : decode cL_builds 186 = .ok (.iconst 1, 1) := by decide +kernel
theorem dL_builds_187 : decode cL_builds 187 = .ok (.aload_n 0, 1) := by decide +kernel
theorem dL_builds_188 : decode cL_builds 188 = .ok (.sipush 400, 3) := by decide +kernel
theorem dL_builds_191 : decode cL_builds 191 = .ok (.invokevirtual 65, 3) := by decide +kernel
theorem dL_builds_194 : decode cL_builds 194 = .ok (.iadd, 1) := by decide +kernel
theorem dL_builds_195 : decode cL_builds 195 = .ok (.iastore, 1) := by decide +kernel
theorem dL_builds_196 : decode cL_builds 196 = .ok (.aload_n 0, 1) := by decide +kernel
theorem dL_builds_197 : decode cL_builds 197 = .ok (.getfield 10, 3) := by decide +kernel
theorem dL_builds_200 : decode cL_builds 200 = .ok (.aload_n 0, 1) := by decide +kernel
theorem dL_builds_201 : decode cL_builds 201 = .ok (.iload_n 1, 1) := by decide +kernel
theorem dL_builds_202 : decode cL_builds 202 = .ok (.invokevirtual 65, 3) := by decide +kernel
theorem dL_builds_205 : decode cL_builds 205 = .ok (.aload_n 0, 1) := by decide +kernel
theorem dL_builds_206 : decode cL_builds 206 = .ok (.sipush 3000, 3) := by decide +kernel
theorem dL_builds_209 : decode cL_builds 209 = .ok (.invokevirtual 65, 3) := by decide +kernel
theorem dL_builds_212 : decode cL_builds 212 = .ok (.aload_n 0, 1) := by decide +kernel
theorem dL_builds_213 : decode cL_builds 213 = .ok (.sipush 9000, 3) := by decide +kernel
theorem dL_builds_216 : decode cL_builds 216 = .ok (.invokevirtual 65, 3) := by decide +kernel
theorem dL_builds_219 : decode cL_builds 219 = .ok (.sipush 9000, 3) := by decide +kernel
theorem dL_builds_222 : decode cL_builds 222 = .ok (.aload_n 0, 1) := by decide +kernel
theorem dL_builds_223 : decode cL_builds 223 = .ok (.sipush 9000, 3) := by decide +kernel
theorem dL_builds_226 : decode cL_builds 226 = .ok (.invokevirtual 65, 3) := by decide +kernel
theorem dL_builds_229 : decode cL_builds 229 = .ok (.iadd, 1) := by decide +kernel
theorem dL_builds_230 : decode cL_builds 230 = .ok (.aload_n 0, 1) := by decide +kernel
theorem dL_builds_231 : decode cL_builds 231 = .ok (.getfield 23, 3) := by decide +kernel
theorem dL_builds_234 : decode cL_builds 234 = .ok (.iload_n 2, 1) := by decide +kernel
theorem dL_builds_235 : decode cL_builds 235 = .ok (.iaload, 1) := by decide +kernel
theorem dL_builds_236 : decode cL_builds 236 = .ok (.invokevirtual 83, 3) := by decide +kernel
theorem dL_builds_239 : decode cL_builds 239 = .ok (.iload_n 2, 1) := by decide +kernel
theorem dL_builds_240 : decode cL_builds 240 = .ok (.if_icmp .eq 5, 3) := by decide +kernel
theorem dL_builds_243 : decode cL_builds 243 = .ok (.iconst 0, 1) := by decide +kernel
theorem dL_builds_244 : decode cL_builds 244 = .ok (.ireturn, 1) := by decide +kernel
theorem dL_builds_245 : decode cL_builds 245 = .ok (.iinc 2 1, 3) := by decide +kernel
theorem dL_builds_248 : decode cL_builds 248 = .ok (.goto (-81), 3) := by decide +kernel
theorem dL_builds_251 : decode cL_builds 251 = .ok (.iconst 0, 1) := by decide +kernel
theorem dL_builds_252 : decode cL_builds 252 = .ok (.istore_n 2, 1) := by decide +kernel
theorem dL_builds_253 : decode cL_builds 253 = .ok (.iload_n 2, 1) := by decide +kernel
theorem dL_builds_254 : decode cL_builds 254 = .ok (.bipush 8, 2) := by decide +kernel
theorem dL_builds_256 : decode cL_builds 256 = .ok (.if_icmp .ge 90, 3) := by decide +kernel
theorem dL_builds_259 : decode cL_builds 259 = .ok (.aload_n 0, 1) := by decide +kernel
theorem dL_builds_260 : decode cL_builds 260 = .ok (.iconst 4, 1) := by decide +kernel
theorem dL_builds_261 : decode cL_builds 261 = .ok (.invokevirtual 65, 3) := by decide +kernel
theorem dL_builds_264 : decode cL_builds 264 = .ok (.ifCond .le 82, 3) := by decide +kernel
theorem dL_builds_267 : decode cL_builds 267 = .ok (.aload_n 0, 1) := by decide +kernel
theorem dL_builds_268 : decode cL_builds 268 = .ok (.getfield 16, 3) := by decide +kernel
theorem dL_builds_271 : decode cL_builds 271 = .ok (.iload_n 2, 1) := by decide +kernel
theorem dL_builds_272 : decode cL_builds 272 = .ok (.aload_n 0, 1) := by decide +kernel
theorem dL_builds_273 : decode cL_builds 273 = .ok (.bipush 10, 2) := by decide +kernel
theorem dL_builds_275 : decode cL_builds 275 = .ok (.invokevirtual 65, 3) := by decide +kernel
theorem dL_builds_278 : decode cL_builds 278 = .ok (.iastore, 1) := by decide +kernel
theorem dL_builds_279 : decode cL_builds 279 = .ok (.aload_n 0, 1) := by decide +kernel
theorem dL_builds_280 : decode cL_builds 280 = .ok (.getfield 20, 3) := by decide +kernel
theorem dL_builds_283 : decode cL_builds 283 = .ok (.iload_n 2, 1) := by decide +kernel
theorem dL_builds_284 : decode cL_builds 284 = .ok (.aload_n 0, 1) := by decide +kernel
theorem dL_builds_285 : decode cL_builds 285 = .ok (.sipush 6000, 3) := by decide +kernel
theorem dL_builds_288 : decode cL_builds 288 = .ok (.invokevirtual 65, 3) := by decide +kernel
theorem dL_builds_291 : decode cL_builds 291 = .ok (.iastore, 1) := by decide +kernel
theorem dL_builds_292 : decode cL_builds 292 = .ok (.aload_n 0, 1) := by decide +kernel
theorem dL_builds_293 : decode cL_builds 293 = .ok (.getfield 10, 3) := by decide +kernel
theorem dL_builds_296 : decode cL_builds 296 = .ok (.aload_n 0, 1) := by decide +kernel
theorem dL_builds_297 : decode cL_builds 297 = .ok (.iload_n 1, 1) := by decide +kernel
theorem dL_builds_298 : decode cL_builds 298 = .ok (.invokevirtual 65, 3) := by decide +kernel
theorem dL_builds_301 : decode cL_builds 301 = .ok (.aload_n 0, 1) := by decide +kernel
theorem dL_builds_302 : decode cL_builds 302 = .ok (.getfield 20, 3) := by decide +kernel
theorem dL_builds_305 : decode cL_builds 305 = .ok (.iload_n 2, 1) := by decide +kernel
theorem dL_builds_306 : decode cL_builds 306 = .ok (.iaload, 1) := by decide +kernel
theorem dL_builds_307 : decode cL_builds 307 = .ok (.aload_n 0, 1) := by decide +kernel
theorem dL_builds_308 : decode cL_builds 308 = .ok (.sipush 9000, 3) := by decide +kernel
theorem dL_builds_311 : decode cL_builds 311 = .ok (.invokevirtual 65, 3) := by decide +kernel
theorem dL_builds_314 : decode cL_builds 314 = .ok (.sipush 9000, 3) := by decide +kernel
theorem dL_builds_317 : decode cL_builds 317 = .ok (.isub, 1) := by decide +kernel
theorem dL_builds_318 : decode cL_builds 318 = .ok (.aload_n 0, 1) := by decide +kernel
theorem dL_builds_319 : decode cL_builds 319 = .ok (.sipush 9000, 3) := by decide +kernel
theorem dL_builds_322 : decode cL_builds 322 = .ok (.invokevirtual 65, 3) := by decide +kernel
theorem dL_builds_325 : decode cL_builds 325 = .ok (.aload_n 0, 1) := by decide +kernel
theorem dL_builds_326 : decode cL_builds 326 = .ok (.getfield 16, 3) := by decide +kernel
theorem dL_builds_329 : decode cL_builds 329 = .ok (.iload_n 2, 1) := by decide +kernel
theorem dL_builds_330 : decode cL_builds 330 = .ok (.iaload, 1) := by decide +kernel
theorem dL_builds_331 : decode cL_builds 331 = .ok (.invokevirtual 86, 3) := by decide +kernel
theorem dL_builds_334 : decode cL_builds 334 = .ok (.iload_n 2, 1) := by decide +kernel
theorem dL_builds_335 : decode cL_builds 335 = .ok (.if_icmp .eq 5, 3) := by decide +kernel
theorem dL_builds_338 : decode cL_builds 338 = .ok (.iconst 0, 1) := by decide +kernel
theorem dL_builds_339 : decode cL_builds 339 = .ok (.ireturn, 1) := by decide +kernel
theorem dL_builds_340 : decode cL_builds 340 = .ok (.iinc 2 1, 3) := by decide +kernel
theorem dL_builds_343 : decode cL_builds 343 = .ok (.goto (-90), 3) := by decide +kernel
theorem dL_builds_346 : decode cL_builds 346 = .ok (.bipush 20, 2) := by decide +kernel
theorem dL_builds_348 : decode cL_builds 348 = .ok (.aload_n 0, 1) := by decide +kernel
theorem dL_builds_349 : decode cL_builds 349 = .ok (.sipush 900, 3) := by decide +kernel
theorem dL_builds_352 : decode cL_builds 352 = .ok (.invokevirtual 65, 3) := by decide +kernel
theorem dL_builds_355 : decode cL_builds 355 = .ok (.iadd, 1) := by decide +kernel
theorem dL_builds_356 : decode cL_builds 356 = .ok (.istore_n 2, 1) := by decide +kernel
theorem dL_builds_357 : decode cL_builds 357 = .ok (.aload_n 0, 1) := by decide +kernel
theorem dL_builds_358 : decode cL_builds 358 = .ok (.iload_n 2, 1) := by decide +kernel
theorem dL_builds_359 : decode cL_builds 359 = .ok (.invokevirtual 65, 3) := by decide +kernel
theorem dL_builds_362 : decode cL_builds 362 = .ok (.istore_n 3, 1) := by decide +kernel
theorem dL_builds_363 : decode cL_builds 363 = .ok (.aload_n 0, 1) := by decide +kernel
theorem dL_builds_364 : decode cL_builds 364 = .ok (.getfield 10, 3) := by decide +kernel
theorem dL_builds_367 : decode cL_builds 367 = .ok (.iload_n 2, 1) := by decide +kernel
theorem dL_builds_368 : decode cL_builds 368 = .ok (.iload_n 3, 1) := by decide +kernel
theorem dL_builds_369 : decode cL_builds 369 = .ok (.iload_n 3, 1) := by decide +kernel
theorem dL_builds_370 : decode cL_builds 370 = .ok (.aload_n 0, 1) := by decide +kernel
theorem dL_builds_371 : decode cL_builds 371 = .ok (.iload_n 2, 1) := by decide +kernel
theorem dL_builds_372 : decode cL_builds 372 = .ok (.iload_n 3, 1) := by decide +kernel
theorem dL_builds_373 : decode cL_builds 373 = .ok (.isub, 1) := by decide +kernel
theorem dL_builds_374 : decode cL_builds 374 = .ok (.invokevirtual 65, 3) := by decide +kernel
theorem dL_builds_377 : decode cL_builds 377 = .ok (.iadd, 1) := by decide +kernel
theorem dL_builds_378 : decode cL_builds 378 = .ok (.aload_n 0, 1) := by decide +kernel
theorem dL_builds_379 : decode cL_builds 379 = .ok (.sipush 3000, 3) := by decide +kernel
theorem dL_builds_382 : decode cL_builds 382 = .ok (.invokevirtual 65, 3) := by decide +kernel
theorem dL_builds_385 : decode cL_builds 385 = .ok (.aload_n 0, 1) := by decide +kernel
theorem dL_builds_386 : decode cL_builds 386 = .ok (.bipush 60, 2) := by decide +kernel
theorem dL_builds_388 : decode cL_builds 388 = .ok (.invokevirtual 65, 3) := by decide +kernel
theorem dL_builds_391 : decode cL_builds 391 = .ok (.aload_n 0, 1) := by decide +kernel
theorem dL_builds_392 : decode cL_builds 392 = .ok (.sipush 400, 3) := by decide +kernel
theorem dL_builds_395 : decode cL_builds 395 = .ok (.invokevirtual 65, 3) := by decide +kernel
theorem dL_builds_398 : decode cL_builds 398 = .ok (.invokevirtual 89, 3) := by decide +kernel
theorem dL_builds_401 : decode cL_builds 401 = .ok (.ifCond .ne 58, 3) := by decide +kernel
theorem dL_builds_404 : decode cL_builds 404 = .ok (.aload_n 0, 1) := by decide +kernel
theorem dL_builds_405 : decode cL_builds 405 = .ok (.getfield 10, 3) := by decide +kernel
theorem dL_builds_408 : decode cL_builds 408 = .ok (.aload_n 0, 1) := by decide +kernel
theorem dL_builds_409 : decode cL_builds 409 = .ok (.sipush 30000, 3) := by decide +kernel
theorem dL_builds_412 : decode cL_builds 412 = .ok (.invokevirtual 65, 3) := by decide +kernel
theorem dL_builds_415 : decode cL_builds 415 = .ok (.aload_n 0, 1) := by decide +kernel
theorem dL_builds_416 : decode cL_builds 416 = .ok (.sipush 9000, 3) := by decide +kernel
theorem dL_builds_419 : decode cL_builds 419 = .ok (.invokevirtual 65, 3) := by decide +kernel
theorem dL_builds_422 : decode cL_builds 422 = .ok (.aload_n 0, 1) := by decide +kernel
theorem dL_builds_423 : decode cL_builds 423 = .ok (.ldc 93, 2) := by decide +kernel
theorem dL_builds_425 : decode cL_builds 425 = .ok (.invokevirtual 65, 3) := by decide +kernel
theorem dL_builds_428 : decode cL_builds 428 = .ok (.iconst 0, 1) := by decide +kernel
theorem dL_builds_429 : decode cL_builds 429 = .ok (.invokevirtual 94, 3) := by decide +kernel
theorem dL_builds_432 : decode cL_builds 432 = .ok (.ifCond .ne 27, 3) := by decide +kernel
theorem dL_builds_435 : decode cL_builds 435 = .ok (.aload_n 0, 1) := by decide +kernel
theorem dL_builds_436 : decode cL_builds 436 = .ok (.getfield 10, 3) := by decide +kernel
theorem dL_builds_439 : decode cL_builds 439 = .ok (.iconst 1, 1) := by decide +kernel
theorem dL_builds_440 : decode cL_builds 440 = .ok (.aload_n 0, 1) := by decide +kernel
theorem dL_builds_441 : decode cL_builds 441 = .ok (.bipush 30, 2) := by decide +kernel
theorem dL_builds_443 : decode cL_builds 443 = .ok (.invokevirtual 65, 3) := by decide +kernel
theorem dL_builds_446 : decode cL_builds 446 = .ok (.iadd, 1) := by decide +kernel
theorem dL_builds_447 : decode cL_builds 447 = .ok (.invokevirtual 98, 3) := by decide +kernel
theorem dL_builds_450 : decode cL_builds 450 = .ok (.bipush 10, 2) := by decide +kernel
theorem dL_builds_452 : decode cL_builds 452 = .ok (.if_icmp .ne 7, 3) := by decide +kernel
theorem dL_builds_455 : decode cL_builds 455 = .ok (.iconst 1, 1) := by decide +kernel
theorem dL_builds_456 : decode cL_builds 456 = .ok (.goto 4, 3) := by decide +kernel
theorem dL_builds_459 : decode cL_builds 459 = .ok (.iconst 0, 1) := by decide +kernel
theorem dL_builds_460 : decode cL_builds 460 = .ok (.ireturn, 1) := by decide +kernel
theorem dL_balances_0 : decode cL_balances 0 = .ok (.lconst 0, 1) := by decide +kernel
theorem dL_balances_1 : decode cL_balances 1 = .ok (.lstore_n 1, 1) := by decide +kernel
theorem dL_balances_2 : decode cL_balances 2 = .ok (.aload_n 0, 1) := by decide +kernel
theorem dL_balances_3 : decode cL_balances 3 = .ok (.getfield 10, 3) := by decide +kernel
theorem dL_balances_6 : decode cL_balances 6 = .ok (.invokevirtual 101, 3) := by decide +kernel
theorem dL_balances_9 : decode cL_balances 9 = .ok (.istore_n 3, 1) := by decide +kernel
theorem dL_balances_10 : decode cL_balances 10 = .ok (.iconst 0, 1) := by decide +kernel
theorem dL_balances_11 : decode cL_balances 11 = .ok (.istore 4, 2) := by decide +kernel
theorem dL_balances_13 : decode cL_balances 13 = .ok (.iload 4, 2) := by decide +kernel
theorem dL_balances_15 : decode cL_balances 15 = .ok (.iload_n 3, 1) := by decide +kernel
theorem dL_balances_16 : decode cL_balances 16 = .ok (.if_icmp .ge 108, 3) := by decide +kernel
theorem dL_balances_19 : decode cL_balances 19 = .ok (.aload_n 0, 1) := by decide +kernel
theorem dL_balances_20 : decode cL_balances 20 = .ok (.getfield 10, 3) := by decide +kernel
theorem dL_balances_23 : decode cL_balances 23 = .ok (.iload 4, 2) := by decide +kernel
theorem dL_balances_25 : decode cL_balances 25 = .ok (.invokevirtual 104, 3) := by decide +kernel
theorem dL_balances_28 : decode cL_balances 28 = .ok (.i2l, 1) := by decide +kernel
theorem dL_balances_29 : decode cL_balances 29 = .ok (.aload_n 0, 1) := by decide +kernel
theorem dL_balances_30 : decode cL_balances 30 = .ok (.getfield 10, 3) := by decide +kernel
theorem dL_balances_33 : decode cL_balances 33 = .ok (.iload 4, 2) := by decide +kernel
theorem dL_balances_35 : decode cL_balances 35 = .ok (.invokevirtual 107, 3) := by decide +kernel
theorem dL_balances_38 : decode cL_balances 38 = .ok (.ladd, 1) := by decide +kernel
theorem dL_balances_39 : decode cL_balances 39 = .ok (.aload_n 0, 1) := by decide +kernel
theorem dL_balances_40 : decode cL_balances 40 = .ok (.getfield 10, 3) := by decide +kernel
theorem dL_balances_43 : decode cL_balances 43 = .ok (.iload 4, 2) := by decide +kernel
theorem dL_balances_45 : decode cL_balances 45 = .ok (.invokevirtual 111, 3) := by decide +kernel
theorem dL_balances_48 : decode cL_balances 48 = .ok (.ladd, 1) := by decide +kernel
theorem dL_balances_49 : decode cL_balances 49 = .ok (.aload_n 0, 1) := by decide +kernel
theorem dL_balances_50 : decode cL_balances 50 = .ok (.getfield 10, 3) := by decide +kernel
theorem dL_balances_53 : decode cL_balances 53 = .ok (.iload 4, 2) := by decide +kernel
theorem dL_balances_55 : decode cL_balances 55 = .ok (.invokevirtual 114, 3) := by decide +kernel
theorem dL_balances_58 : decode cL_balances 58 = .ok (.lsub, 1) := by decide +kernel
theorem dL_balances_59 : decode cL_balances 59 = .ok (.lstore 5, 2) := by decide +kernel
theorem dL_balances_61 : decode cL_balances 61 = .ok (.aload_n 0, 1) := by decide +kernel
theorem dL_balances_62 : decode cL_balances 62 = .ok (.getfield 10, 3) := by decide +kernel
theorem dL_balances_65 : decode cL_balances 65 = .ok (.iload 4, 2) := by decide +kernel
theorem dL_balances_67 : decode cL_balances 67 = .ok (.invokevirtual 117, 3) := by decide +kernel
theorem dL_balances_70 : decode cL_balances 70 = .ok (.lstore 7, 2) := by decide +kernel
theorem dL_balances_72 : decode cL_balances 72 = .ok (.lload 7, 2) := by decide +kernel
theorem dL_balances_74 : decode cL_balances 74 = .ok (.lload 5, 2) := by decide +kernel
theorem dL_balances_76 : decode cL_balances 76 = .ok (.lcmp, 1) := by decide +kernel
theorem dL_balances_77 : decode cL_balances 77 = .ok (.ifCond .lt 31, 3) := by decide +kernel
theorem dL_balances_80 : decode cL_balances 80 = .ok (.aload_n 0, 1) := by decide +kernel
theorem dL_balances_81 : decode cL_balances 81 = .ok (.getfield 10, 3) := by decide +kernel
theorem dL_balances_84 : decode cL_balances 84 = .ok (.iload 4, 2) := by decide +kernel
theorem dL_balances_86 : decode cL_balances 86 = .ok (.invokevirtual 114, 3) := by decide +kernel
theorem dL_balances_89 : decode cL_balances 89 = .ok (.lconst 0, 1) := by decide +kernel
theorem dL_balances_90 : decode cL_balances 90 = .ok (.lcmp, 1) := by decide +kernel
theorem dL_balances_91 : decode cL_balances 91 = .ok (.ifCond .lt 17, 3) := by decide +kernel
theorem dL_balances_94 : decode cL_balances 94 = .ok (.aload_n 0, 1) := by decide +kernel
theorem dL_balances_95 : decode cL_balances 95 = .ok (.getfield 10, 3) := by decide +kernel
theorem dL_balances_98 : decode cL_balances 98 = .ok (.iload 4, 2) := by decide +kernel
theorem dL_balances_100 : decode cL_balances 100 = .ok (.invokevirtual 107, 3) := by decide +kernel
theorem dL_balances_103 : decode cL_balances 103 = .ok (.lconst 0, 1) := by decide +kernel
theorem dL_balances_104 : decode cL_balances 104 = .ok (.lcmp, 1) := by decide +kernel
theorem dL_balances_105 : decode cL_balances 105 = .ok (.ifCond .ge 5, 3) := by decide +kernel
theorem dL_balances_108 : decode cL_balances 108 = .ok (.iconst 0, 1) := by decide +kernel
theorem dL_balances_109 : decode cL_balances 109 = .ok (.ireturn, 1) := by decide +kernel
theorem dL_balances_110 : decode cL_balances 110 = .ok (.lload_n 1, 1) := by decide +kernel
theorem dL_balances_111 : decode cL_balances 111 = .ok (.lload 7, 2) := by decide +kernel
theorem dL_balances_113 : decode cL_balances 113 = .ok (.lload 5, 2) := by decide +kernel
theorem dL_balances_115 : decode cL_balances 115 = .ok (.lsub, 1) := by decide +kernel
theorem dL_balances_116 : decode cL_balances 116 = .ok (.ladd, 1) := by decide +kernel
theorem dL_balances_117 : decode cL_balances 117 = .ok (.lstore_n 1, 1) := by decide +kernel
theorem dL_balances_118 : decode cL_balances 118 = .ok (.iinc 4 1, 3) := by decide +kernel
theorem dL_balances_121 : decode cL_balances 121 = .ok (.goto (-108), 3) := by decide +kernel
theorem dL_balances_124 : decode cL_balances 124 = .ok (.lconst 0, 1) := by decide +kernel
theorem dL_balances_125 : decode cL_balances 125 = .ok (.lstore 4, 2) := by decide +kernel
theorem dL_balances_127 : decode cL_balances 127 = .ok (.iconst 0, 1) := by decide +kernel
theorem dL_balances_128 : decode cL_balances 128 = .ok (.istore 6, 2) := by decide +kernel
theorem dL_balances_130 : decode cL_balances 130 = .ok (.iload 6, 2) := by decide +kernel
theorem dL_balances_132 : decode cL_balances 132 = .ok (.iload_n 3, 1) := by decide +kernel
theorem dL_balances_133 : decode cL_balances 133 = .ok (.if_icmp .ge 23, 3) := by decide +kernel
theorem dL_balances_136 : decode cL_balances 136 = .ok (.lload 4, 2) := by decide +kernel
theorem dL_balances_138 : decode cL_balances 138 = .ok (.aload_n 0, 1) := by decide +kernel
theorem dL_balances_139 : decode cL_balances 139 = .ok (.getfield 10, 3) := by decide +kernel
theorem dL_balances_142 : decode cL_balances 142 = .ok (.iload 6, 2) := by decide +kernel
theorem dL_balances_144 : decode cL_balances 144 = .ok (.invokevirtual 111, 3) := by decide +kernel
theorem dL_balances_147 : decode cL_balances 147 = .ok (.ladd, 1) := by decide +kernel
theorem dL_balances_148 : decode cL_balances 148 = .ok (.lstore 4, 2) := by decide +kernel
theorem dL_balances_150 : decode cL_balances 150 = .ok (.iinc 6 1, 3) := by decide +kernel
theorem dL_balances_153 : decode cL_balances 153 = .ok (.goto (-23), 3) := by decide +kernel
theorem dL_balances_156 : decode cL_balances 156 = .ok (.lload 4, 2) := by decide +kernel
theorem dL_balances_158 : decode cL_balances 158 = .ok (.lconst 0, 1) := by decide +kernel
theorem dL_balances_159 : decode cL_balances 159 = .ok (.lcmp, 1) := by decide +kernel
theorem dL_balances_160 : decode cL_balances 160 = .ok (.ifCond .ne 20, 3) := by decide +kernel
theorem dL_balances_163 : decode cL_balances 163 = .ok (.lload_n 1, 1) := by decide +kernel
theorem dL_balances_164 : decode cL_balances 164 = .ok (.aload_n 0, 1) := by decide +kernel
theorem dL_balances_165 : decode cL_balances 165 = .ok (.getfield 10, 3) := by decide +kernel
theorem dL_balances_168 : decode cL_balances 168 = .ok (.invokevirtual 120, 3) := by decide +kernel
theorem dL_balances_171 : decode cL_balances 171 = .ok (.i2l, 1) := by decide +kernel
theorem dL_balances_172 : decode cL_balances 172 = .ok (.lcmp, 1) := by decide +kernel
theorem dL_balances_173 : decode cL_balances 173 = .ok (.ifCond .ne 7, 3) := by decide +kernel
theorem dL_balances_176 : decode cL_balances 176 = .ok (.iconst 1, 1) := by decide +kernel
theorem dL_balances_177 : decode cL_balances 177 = .ok (.goto 4, 3) := by decide +kernel
theorem dL_balances_180 : decode cL_balances 180 = .ok (.iconst 0, 1) := by decide +kernel
theorem dL_balances_181 : decode cL_balances 181 = .ok (.ireturn, 1) := by decide +kernel
theorem dL_moves_0 : decode cL_moves 0 = .ok (.aload_n 0, 1) := by decide +kernel
theorem dL_moves_1 : decode cL_moves 1 = .ok (.getfield 10, 3) := by decide +kernel
theorem dL_moves_4 : decode cL_moves 4 = .ok (.invokevirtual 101, 3) := by decide +kernel
theorem dL_moves_7 : decode cL_moves 7 = .ok (.istore_n 1, 1) := by decide +kernel
theorem dL_moves_8 : decode cL_moves 8 = .ok (.aload_n 0, 1) := by decide +kernel
theorem dL_moves_9 : decode cL_moves 9 = .ok (.getfield 10, 3) := by decide +kernel
theorem dL_moves_12 : decode cL_moves 12 = .ok (.invokevirtual 123, 3) := by decide +kernel
theorem dL_moves_15 : decode cL_moves 15 = .ok (.istore_n 2, 1) := by decide +kernel
theorem dL_moves_16 : decode cL_moves 16 = .ok (.aload_n 0, 1) := by decide +kernel
theorem dL_moves_17 : decode cL_moves 17 = .ok (.getfield 10, 3) := by decide +kernel
theorem dL_moves_20 : decode cL_moves 20 = .ok (.invokevirtual 126, 3) := by decide +kernel
theorem dL_moves_23 : decode cL_moves 23 = .ok (.istore_n 3, 1) := by decide +kernel
theorem dL_moves_24 : decode cL_moves 24 = .ok (.aload_n 0, 1) := by decide +kernel
theorem dL_moves_25 : decode cL_moves 25 = .ok (.getfield 10, 3) := by decide +kernel
theorem dL_moves_28 : decode cL_moves 28 = .ok (.invokevirtual 129, 3) := by decide +kernel
theorem dL_moves_31 : decode cL_moves 31 = .ok (.istore 4, 2) := by decide +kernel
theorem dL_moves_33 : decode cL_moves 33 = .ok (.aload_n 0, 1) := by decide +kernel
theorem dL_moves_34 : decode cL_moves 34 = .ok (.getfield 10, 3) := by decide +kernel
theorem dL_moves_37 : decode cL_moves 37 = .ok (.invokevirtual 132, 3) := by decide +kernel
theorem dL_moves_40 : decode cL_moves 40 = .ok (.istore 5, 2) := by decide +kernel
theorem dL_moves_42 : decode cL_moves 42 = .ok (.aload_n 0, 1) := by decide +kernel
theorem dL_moves_43 : decode cL_moves 43 = .ok (.getfield 10, 3) := by decide +kernel
theorem dL_moves_46 : decode cL_moves 46 = .ok (.invokevirtual 135, 3) := by decide +kernel
theorem dL_moves_49 : decode cL_moves 49 = .ok (.istore 6, 2) := by decide +kernel
theorem dL_moves_51 : decode cL_moves 51 = .ok (.iload_n 2, 1) := by decide +kernel
theorem dL_moves_52 : decode cL_moves 52 = .ok (.newarray .int, 2) := by decide +kernel
theorem dL_moves_54 : decode cL_moves 54 = .ok (.astore 7, 2) := by decide +kernel
theorem dL_moves_56 : decode cL_moves 56 = .ok (.iload_n 2, 1) := by decide +kernel
theorem dL_moves_57 : decode cL_moves 57 = .ok (.newarray .int, 2) := by decide +kernel
theorem dL_moves_59 : decode cL_moves 59 = .ok (.astore 8, 2) := by decide +kernel
theorem dL_moves_61 : decode cL_moves 61 = .ok (.iload_n 1, 1) := by decide +kernel
theorem dL_moves_62 : decode cL_moves 62 = .ok (.newarray .int, 2) := by decide +kernel
theorem dL_moves_64 : decode cL_moves 64 = .ok (.astore 9, 2) := by decide +kernel
theorem dL_moves_66 : decode cL_moves 66 = .ok (.iload_n 1, 1) := by decide +kernel
theorem dL_moves_67 : decode cL_moves 67 = .ok (.newarray .int, 2) := by decide +kernel
theorem dL_moves_69 : decode cL_moves 69 = .ok (.astore 10, 2) := by decide +kernel
theorem dL_moves_71 : decode cL_moves 71 = .ok (.iconst 3, 1) := by decide +kernel
theorem dL_moves_72 : decode cL_moves 72 = .ok (.newarray .long, 2) := by decide +kernel
theorem dL_moves_74 : decode cL_moves 74 = .ok (.dup, 1) := by decide +kernel
theorem dL_moves_75 : decode cL_moves 75 = .ok (.iconst 0, 1) := by decide +kernel
theorem dL_moves_76 : decode cL_moves 76 = .ok (.aload_n 0, 1) := by decide +kernel
theorem dL_moves_77 : decode cL_moves 77 = .ok (.getfield 10, 3) := by decide +kernel
theorem dL_moves_80 : decode cL_moves 80 = .ok (.iconst 0, 1) := by decide +kernel
theorem dL_moves_81 : decode cL_moves 81 = .ok (.invokevirtual 138, 3) := by decide +kernel
theorem dL_moves_84 : decode cL_moves 84 = .ok (.lastore, 1) := by decide +kernel
theorem dL_moves_85 : decode cL_moves 85 = .ok (.dup, 1) := by decide +kernel
theorem dL_moves_86 : decode cL_moves 86 = .ok (.iconst 1, 1) := by decide +kernel
theorem dL_moves_87 : decode cL_moves 87 = .ok (.aload_n 0, 1) := by decide +kernel
theorem dL_moves_88 : decode cL_moves 88 = .ok (.getfield 10, 3) := by decide +kernel
theorem dL_moves_91 : decode cL_moves 91 = .ok (.iconst 1, 1) := by decide +kernel
theorem dL_moves_92 : decode cL_moves 92 = .ok (.invokevirtual 138, 3) := by decide +kernel
theorem dL_moves_95 : decode cL_moves 95 = .ok (.lastore, 1) := by decide +kernel
theorem dL_moves_96 : decode cL_moves 96 = .ok (.dup, 1) := by decide +kernel
theorem dL_moves_97 : decode cL_moves 97 = .ok (.iconst 2, 1) := by decide +kernel
theorem dL_moves_98 : decode cL_moves 98 = .ok (.aload_n 0, 1) := by decide +kernel
theorem dL_moves_99 : decode cL_moves 99 = .ok (.getfield 10, 3) := by decide +kernel
theorem dL_moves_102 : decode cL_moves 102 = .ok (.iconst 2, 1) := by decide +kernel
theorem dL_moves_103 : decode cL_moves 103 = .ok (.invokevirtual 138, 3) := by decide +kernel
theorem dL_moves_106 : decode cL_moves 106 = .ok (.lastore, 1) := by decide +kernel
theorem dL_moves_107 : decode cL_moves 107 = .ok (.astore 11, 2) := by decide +kernel
theorem dL_moves_109 : decode cL_moves 109 = .ok (.iconst 0, 1) := by decide +kernel
theorem dL_moves_110 : decode cL_moves 110 = .ok (.istore 12, 2) := by decide +kernel
theorem dL_moves_112 : decode cL_moves 112 = .ok (.iload 12, 2) := by decide +kernel
theorem dL_moves_114 : decode cL_moves 114 = .ok (.iload_n 2, 1) := by decide +kernel
theorem dL_moves_115 : decode cL_moves 115 = .ok (.if_icmp .ge 37, 3) := by decide +kernel
theorem dL_moves_118 : decode cL_moves 118 = .ok (.aload 7, 2) := by decide +kernel
theorem dL_moves_120 : decode cL_moves 120 = .ok (.iload 12, 2) := by decide +kernel
theorem dL_moves_122 : decode cL_moves 122 = .ok (.aload_n 0, 1) := by decide +kernel
theorem dL_moves_123 : decode cL_moves 123 = .ok (.getfield 10, 3) := by decide +kernel
theorem dL_moves_126 : decode cL_moves 126 = .ok (.iload 12, 2) := by decide +kernel
theorem dL_moves_128 : decode cL_moves 128 = .ok (.invokevirtual 141, 3) := by decide +kernel
theorem dL_moves_131 : decode cL_moves 131 = .ok (.iastore, 1) := by decide +kernel
theorem dL_moves_132 : decode cL_moves 132 = .ok (.aload 8, 2) := by decide +kernel
theorem dL_moves_134 : decode cL_moves 134 = .ok (.iload 12, 2) := by decide +kernel
theorem dL_moves_136 : decode cL_moves 136 = .ok (.aload_n 0, 1) := by decide +kernel
theorem dL_moves_137 : decode cL_moves 137 = .ok (.getfield 10, 3) := by decide +kernel
theorem dL_moves_140 : decode cL_moves 140 = .ok (.iload 12, 2) := by decide +kernel
theorem dL_moves_142 : decode cL_moves 142 = .ok (.invokevirtual 144, 3) := by decide +kernel
theorem dL_moves_145 : decode cL_moves 145 = .ok (.iastore, 1) := by decide +kernel
theorem dL_moves_146 : decode cL_moves 146 = .ok (.iinc 12 1, 3) := by decide +kernel
theorem dL_moves_149 : decode cL_moves 149 = .ok (.goto (-37), 3) := by decide +kernel
theorem dL_moves_152 : decode cL_moves 152 = .ok (.iconst 0, 1) := by decide +kernel
theorem dL_moves_153 : decode cL_moves 153 = .ok (.istore 12, 2) := by decide +kernel
theorem dL_moves_155 : decode cL_moves 155 = .ok (.iload 12, 2) := by decide +kernel
theorem dL_moves_157 : decode cL_moves 157 = .ok (.iload_n 1, 1) := by decide +kernel
theorem dL_moves_158 : decode cL_moves 158 = .ok (.if_icmp .ge 37, 3) := by decide +kernel
theorem dL_moves_161 : decode cL_moves 161 = .ok (.aload 9, 2) := by decide +kernel
theorem dL_moves_163 : decode cL_moves 163 = .ok (.iload 12, 2) := by decide +kernel
theorem dL_moves_165 : decode cL_moves 165 = .ok (.aload_n 0, 1) := by decide +kernel
theorem dL_moves_166 : decode cL_moves 166 = .ok (.getfield 10, 3) := by decide +kernel
theorem dL_moves_169 : decode cL_moves 169 = .ok (.iload 12, 2) := by decide +kernel
theorem dL_moves_171 : decode cL_moves 171 = .ok (.invokevirtual 147, 3) := by decide +kernel
theorem dL_moves_174 : decode cL_moves 174 = .ok (.iastore, 1) := by decide +kernel
theorem dL_moves_175 : decode cL_moves 175 = .ok (.aload 10, 2) := by decide +kernel
theorem dL_moves_177 : decode cL_moves 177 = .ok (.iload 12, 2) := by decide +kernel
theorem dL_moves_179 : decode cL_moves 179 = .ok (.aload_n 0, 1) := by decide +kernel
theorem dL_moves_180 : decode cL_moves 180 = .ok (.getfield 10, 3) := by decide +kernel
theorem dL_moves_183 : decode cL_moves 183 = .ok (.iload 12, 2) := by decide +kernel
theorem dL_moves_185 : decode cL_moves 185 = .ok (.invokevirtual 150, 3) := by decide +kernel
theorem dL_moves_188 : decode cL_moves 188 = .ok (.iastore, 1) := by decide +kernel
theorem dL_moves_189 : decode cL_moves 189 = .ok (.iinc 12 1, 3) := by decide +kernel
theorem dL_moves_192 : decode cL_moves 192 = .ok (.goto (-37), 3) := by decide +kernel
theorem dL_moves_195 : decode cL_moves 195 = .ok (.lconst 0, 1) := by decide +kernel
theorem dL_moves_196 : decode cL_moves 196 = .ok (.lstore 12, 2) := by decide +kernel
theorem dL_moves_198 : decode cL_moves 198 = .ok (.iconst 0, 1) := by decide +kernel
theorem dL_moves_199 : decode cL_moves 199 = .ok (.istore 14, 2) := by decide +kernel
theorem dL_moves_201 : decode cL_moves 201 = .ok (.iload 14, 2) := by decide +kernel
theorem dL_moves_203 : decode cL_moves 203 = .ok (.iload_n 1, 1) := by decide +kernel
theorem dL_moves_204 : decode cL_moves 204 = .ok (.if_icmp .ge 23, 3) := by decide +kernel
theorem dL_moves_207 : decode cL_moves 207 = .ok (.lload 12, 2) := by decide +kernel
theorem dL_moves_209 : decode cL_moves 209 = .ok (.aload_n 0, 1) := by decide +kernel
theorem dL_moves_210 : decode cL_moves 210 = .ok (.getfield 10, 3) := by decide +kernel
theorem dL_moves_213 : decode cL_moves 213 = .ok (.iload 14, 2) := by decide +kernel
theorem dL_moves_215 : decode cL_moves 215 = .ok (.invokevirtual 107, 3) := by decide +kernel
theorem dL_moves_218 : decode cL_moves 218 = .ok (.ladd, 1) := by decide +kernel
theorem dL_moves_219 : decode cL_moves 219 = .ok (.lstore 12, 2) := by decide +kernel
theorem dL_moves_221 : decode cL_moves 221 = .ok (.iinc 14 1, 3) := by decide +kernel
theorem dL_moves_224 : decode cL_moves 224 = .ok (.goto (-23), 3) := by decide +kernel
theorem dL_moves_227 : decode cL_moves 227 = .ok (.aload_n 0, 1) := by decide +kernel
theorem dL_moves_228 : decode cL_moves 228 = .ok (.getfield 10, 3) := by decide +kernel
theorem dL_moves_231 : decode cL_moves 231 = .ok (.iconst 1, 1) := by decide +kernel
theorem dL_moves_232 : decode cL_moves 232 = .ok (.invokevirtual 98, 3) := by decide +kernel
theorem dL_moves_235 : decode cL_moves 235 = .ok (.istore 14, 2) := by decide +kernel
theorem dL_moves_237 : decode cL_moves 237 = .ok (.aload_n 0, 1) := by decide +kernel
theorem dL_moves_238 : decode cL_moves 238 = .ok (.getfield 10, 3) := by decide +kernel
theorem dL_moves_241 : decode cL_moves 241 = .ok (.iload 14, 2) := by decide +kernel
theorem dL_moves_243 : decode cL_moves 243 = .ok (.invokevirtual 98, 3) := by decide +kernel
theorem dL_moves_246 : decode cL_moves 246 = .ok (.iconst 1, 1) := by decide +kernel
theorem dL_moves_247 : decode cL_moves 247 = .ok (.if_icmp .eq 5, 3) := by decide +kernel
theorem dL_moves_250 : decode cL_moves 250 = .ok (.iconst 0, 1) := by decide +kernel
theorem dL_moves_251 : decode cL_moves 251 = .ok (.ireturn, 1) := by decide +kernel
theorem dL_moves_252 : decode cL_moves 252 = .ok (.aload_n 0, 1) := by decide +kernel
theorem dL_moves_253 : decode cL_moves 253 = .ok (.getfield 10, 3) := by decide +kernel
theorem dL_moves_256 : decode cL_moves 256 = .ok (.iconst 1, 1) := by decide +kernel
theorem dL_moves_257 : decode cL_moves 257 = .ok (.invokevirtual 153, 3) := by decide +kernel
theorem dL_moves_260 : decode cL_moves 260 = .ok (.istore 15, 2) := by decide +kernel
theorem dL_moves_262 : decode cL_moves 262 = .ok (.iconst 0, 1) := by decide +kernel
theorem dL_moves_263 : decode cL_moves 263 = .ok (.istore 16, 2) := by decide +kernel
theorem dL_moves_265 : decode cL_moves 265 = .ok (.iload 16, 2) := by decide +kernel
theorem dL_moves_267 : decode cL_moves 267 = .ok (.iload_n 2, 1) := by decide +kernel
theorem dL_moves_268 : decode cL_moves 268 = .ok (.if_icmp .ge 117, 3) := by decide +kernel
theorem dL_moves_271 : decode cL_moves 271 = .ok (.aload_n 0, 1) := by decide +kernel
theorem dL_moves_272 : decode cL_moves 272 = .ok (.getfield 10, 3) := by decide +kernel
theorem dL_moves_275 : decode cL_moves 275 = .ok (.iload 16, 2) := by decide +kernel
theorem dL_moves_277 : decode cL_moves 277 = .ok (.invokevirtual 141, 3) := by decide +kernel
theorem dL_moves_280 : decode cL_moves 280 = .ok (.aload 7, 2) := by decide +kernel
theorem dL_moves_282 : decode cL_moves 282 = .ok (.iload 16, 2) := by decide +kernel
theorem dL_moves_284 : decode cL_moves 284 = .ok (.iaload, 1) := by decide +kernel
theorem dL_moves_285 : decode cL_moves 285 = .ok (.isub, 1) := by decide +kernel
theorem dL_moves_286 : decode cL_moves 286 = .ok (.istore 17, 2) := by decide +kernel
theorem dL_moves_288 : decode cL_moves 288 = .ok (.aload 8, 2) := by decide +kernel
theorem dL_moves_290 : decode cL_moves 290 = .ok (.iload 16, 2) := by decide +kernel
theorem dL_moves_292 : decode cL_moves 292 = .ok (.iaload, 1) := by decide +kernel
theorem dL_moves_293 : decode cL_moves 293 = .ok (.aload 7, 2) := by decide +kernel
theorem dL_moves_295 : decode cL_moves 295 = .ok (.iload 16, 2) := by decide +kernel
theorem dL_moves_297 : decode cL_moves 297 = .ok (.iaload, 1) := by decide +kernel
theorem dL_moves_298 : decode cL_moves 298 = .ok (.isub, 1) := by decide +kernel
theorem dL_moves_299 : decode cL_moves 299 = .ok (.istore 18, 2) := by decide +kernel
theorem dL_moves_301 : decode cL_moves 301 = .ok (.aload_n 0, 1) := by decide +kernel
theorem dL_moves_302 : decode cL_moves 302 = .ok (.getfield 10, 3) := by decide +kernel
theorem dL_moves_305 : decode cL_moves 305 = .ok (.iload 16, 2) := by decide +kernel
theorem dL_moves_307 : decode cL_moves 307 = .ok (.invokevirtual 156, 3) := by decide +kernel
theorem dL_moves_310 : decode cL_moves 310 = .ok (.iconst 1, 1) := by decide +kernel
theorem dL_moves_311 : decode cL_moves 311 = .ok (.if_icmp .ne 11, 3) := by decide +kernel
theorem dL_moves_314 : decode cL_moves 314 = .ok (.iload 17, 2) := by decide +kernel
theorem dL_moves_316 : decode cL_moves 316 = .ok (.ifCond .eq 63, 3) := by decide +kernel
theorem dL_moves_319 : decode cL_moves 319 = .ok (.goto 58, 3) := by decide +kernel
theorem dL_moves_322 : decode cL_moves 322 = .ok (.iload 17, 2) := by decide +kernel
theorem dL_moves_324 : decode cL_moves 324 = .ok (.aload_n 0, 1) := by decide +kernel
theorem dL_moves_325 : decode cL_moves 325 = .ok (.getfield 23, 3) := by decide +kernel
theorem dL_moves_328 : decode cL_moves 328 = .ok (.iload 16, 2) := by decide +kernel
theorem dL_moves_330 : decode cL_moves 330 = .ok (.iaload, 1) := by decide +kernel
theorem dL_moves_331 : decode cL_moves 331 = .ok (.ineg, 1) := by decide +kernel
theorem dL_moves_332 : decode cL_moves 332 = .ok (.aload_n 0, 1) := by decide +kernel
theorem dL_moves_333 : decode cL_moves 333 = .ok (.getfield 23, 3) := by decide +kernel
theorem dL_moves_336 : decode cL_moves 336 = .ok (.iload 16, 2) := by decide +kernel
theorem dL_moves_338 : decode cL_moves 338 = .ok (.iaload, 1) := by decide +kernel
theorem dL_moves_339 : decode cL_moves 339 = .ok (.iload 18, 2) := by decide +kernel
theorem dL_moves_341 : decode cL_moves 341 = .ok (.invokestatic 159, 3) := by decide +kernel
theorem dL_moves_344 : decode cL_moves 344 = .ok (.invokestatic 35, 3) := by decide +kernel
theorem dL_moves_347 : decode cL_moves 347 = .ok (.if_icmp .ne 30, 3) := by decide +kernel
theorem dL_moves_350 : decode cL_moves 350 = .ok (.aload_n 0, 1) := by decide +kernel
theorem dL_moves_351 : decode cL_moves 351 = .ok (.getfield 10, 3) := by decide +kernel
theorem dL_moves_354 : decode cL_moves 354 = .ok (.iload 16, 2) := by decide +kernel
theorem dL_moves_356 : decode cL_moves 356 = .ok (.invokevirtual 141, 3) := by decide +kernel
theorem dL_moves_359 : decode cL_moves 359 = .ok (.ifCond .lt 18, 3) := by decide +kernel
theorem dL_moves_362 : decode cL_moves 362 = .ok (.aload_n 0, 1) := by decide +kernel
theorem dL_moves_363 : decode cL_moves 363 = .ok (.getfield 10, 3) := by decide +kernel
theorem dL_moves_366 : decode cL_moves 366 = .ok (.iload 16, 2) := by decide +kernel
theorem dL_moves_368 : decode cL_moves 368 = .ok (.invokevirtual 141, 3) := by decide +kernel
theorem dL_moves_371 : decode cL_moves 371 = .ok (.sipush 1000, 3) := by decide +kernel
theorem dL_moves_374 : decode cL_moves 374 = .ok (.if_icmp .le 5, 3) := by decide +kernel
theorem dL_moves_377 : decode cL_moves 377 = .ok (.iconst 0, 1) := by decide +kernel
theorem dL_moves_378 : decode cL_moves 378 = .ok (.ireturn, 1) := by decide +kernel
theorem dL_moves_379 : decode cL_moves 379 = .ok (.iinc 16 1, 3) := by decide +kernel
theorem dL_moves_382 : decode cL_moves 382 = .ok (.goto (-117), 3) := by decide +kernel
theorem dL_moves_385 : decode cL_moves 385 = .ok (.iconst 0, 1) := by decide +kernel
theorem dL_moves_386 : decode cL_moves 386 = .ok (.istore 16, 2) := by decide +kernel
theorem dL_moves_388 : decode cL_moves 388 = .ok (.iconst 0, 1) := by decide +kernel
theorem dL_moves_389 : decode cL_moves 389 = .ok (.istore 17, 2) := by decide +kernel
theorem dL_moves_391 : decode cL_moves 391 = .ok (.iconst 0, 1) := by decide +kernel
theorem dL_moves_392 : decode cL_moves 392 = .ok (.istore 18, 2) := by decide +kernel
theorem dL_moves_394 : decode cL_moves 394 = .ok (.iconst 0, 1) := by decide +kernel
theorem dL_moves_395 : decode cL_moves 395 = .ok (.istore 19, 2) := by decide +kernel
theorem dL_moves_397 : decode cL_moves 397 = .ok (.iload 19, 2) := by decide +kernel
theorem dL_moves_399 : decode cL_moves 399 = .ok (.iload_n 3, 1) := by decide +kernel
theorem dL_moves_400 : decode cL_moves 400 = .ok (.if_icmp .ge 113, 3) := by decide +kernel
theorem dL_moves_403 : decode cL_moves 403 = .ok (.iload 16, 2) := by decide +kernel
theorem dL_moves_405 : decode cL_moves 405 = .ok (.aload_n 0, 1) := by decide +kernel
theorem dL_moves_406 : decode cL_moves 406 = .ok (.getfield 10, 3) := by decide +kernel
theorem dL_moves_409 : decode cL_moves 409 = .ok (.iload 19, 2) := by decide +kernel
theorem dL_moves_411 : decode cL_moves 411 = .ok (.invokevirtual 162, 3) := by decide +kernel
theorem dL_moves_414 : decode cL_moves 414 = .ok (.iconst 2, 1) := by decide +kernel
theorem dL_moves_415 : decode cL_moves 415 = .ok (.if_icmp .ne 7, 3) := by decide +kernel
theorem dL_moves_418 : decode cL_moves 418 = .ok (.iconst 1, 1) := by decide +kernel
theorem dL_moves_419 : decode cL_moves 419 = .ok (.goto 4, 3) := by decide +kernel
theorem dL_moves_422 : decode cL_moves 422 = .ok (.iconst 0, 1) := by decide +kernel
theorem dL_moves_423 : decode cL_moves 423 = .ok (.iadd, 1) := by decide +kernel
theorem dL_moves_424 : decode cL_moves 424 = .ok (.istore 16, 2) := by decide +kernel
theorem dL_moves_426 : decode cL_moves 426 = .ok (.iload 17, 2) := by decide +kernel
theorem dL_moves_428 : decode cL_moves 428 = .ok (.aload_n 0, 1) := by decide +kernel
theorem dL_moves_429 : decode cL_moves 429 = .ok (.getfield 10, 3) := by decide +kernel
theorem dL_moves_432 : decode cL_moves 432 = .ok (.iload 19, 2) := by decide +kernel
theorem dL_moves_434 : decode cL_moves 434 = .ok (.invokevirtual 162, 3) := by decide +kernel
theorem dL_moves_437 : decode cL_moves 437 = .ok (.iconst 1, 1) := by decide +kernel
theorem dL_moves_438 : decode cL_moves 438 = .ok (.if_icmp .ne 13, 3) := by decide +kernel
theorem dL_moves_441 : decode cL_moves 441 = .ok (.aload_n 0, 1) := by decide +kernel
theorem dL_moves_442 : decode cL_moves 442 = .ok (.getfield 20, 3) := by decide +kernel
theorem dL_moves_445 : decode cL_moves 445 = .ok (.iload 19, 2) := by decide +kernel
theorem dL_moves_447 : decode cL_moves 447 = .ok (.iaload, 1) := by decide +kernel
theorem dL_moves_448 : decode cL_moves 448 = .ok (.goto 4, 3) := by decide +kernel
theorem dL_moves_451 : decode cL_moves 451 = .ok (.iconst 0, 1) := by decide +kernel
theorem dL_moves_452 : decode cL_moves 452 = .ok (.iadd, 1) := by decide +kernel
theorem dL_moves_453 : decode cL_moves 453 = .ok (.istore 17, 2) := by decide +kernel
theorem dL_moves_455 : decode cL_moves 455 = .ok (.aload_n 0, 1) := by decide +kernel
theorem dL_moves_456 : decode cL_moves 456 = .ok (.getfield 10, 3) := by decide +kernel
theorem dL_moves_459 : decode cL_moves 459 = .ok (.iload 19, 2) := by decide +kernel
theorem dL_moves_461 : decode cL_moves 461 = .ok (.invokevirtual 165, 3) := by decide +kernel
theorem dL_moves_464 : decode cL_moves 464 = .ok (.iconst 1, 1) := by decide +kernel
theorem dL_moves_465 : decode cL_moves 465 = .ok (.if_icmp .ne 15, 3) := by decide +kernel
theorem dL_moves_468 : decode cL_moves 468 = .ok (.aload_n 0, 1) := by decide +kernel
theorem dL_moves_469 : decode cL_moves 469 = .ok (.getfield 10, 3) := by decide +kernel
theorem dL_moves_472 : decode cL_moves 472 = .ok (.iload 19, 2) := by decide +kernel
theorem dL_moves_474 : decode cL_moves 474 = .ok (.invokevirtual 162, 3) := by decide +kernel
theorem dL_moves_477 : decode cL_moves 477 = .ok (.ifCond .eq 28, 3) := by decide +kernel
theorem dL_moves_480 : decode cL_moves 480 = .ok (.aload_n 0, 1) := by decide +kernel
theorem dL_moves_481 : decode cL_moves 481 = .ok (.getfield 10, 3) := by decide +kernel
theorem dL_moves_484 : decode cL_moves 484 = .ok (.iload 19, 2) := by decide +kernel
theorem dL_moves_486 : decode cL_moves 486 = .ok (.invokevirtual 165, 3) := by decide +kernel
theorem dL_moves_489 : decode cL_moves 489 = .ok (.iconst 2, 1) := by decide +kernel
theorem dL_moves_490 : decode cL_moves 490 = .ok (.if_icmp .ne 17, 3) := by decide +kernel
theorem dL_moves_493 : decode cL_moves 493 = .ok (.aload_n 0, 1) := by decide +kernel
theorem dL_moves_494 : decode cL_moves 494 = .ok (.getfield 10, 3) := by decide +kernel
theorem dL_moves_497 : decode cL_moves 497 = .ok (.iload 19, 2) := by decide +kernel
theorem dL_moves_499 : decode cL_moves 499 = .ok (.invokevirtual 162, 3) := by decide +kernel
theorem dL_moves_502 : decode cL_moves 502 = .ok (.ifCond .eq 5, 3) := by decide +kernel
theorem dL_moves_505 : decode cL_moves 505 = .ok (.iconst 0, 1) := by decide +kernel
theorem dL_moves_506 : decode cL_moves 506 = .ok (.ireturn, 1) := by decide +kernel
theorem dL_moves_507 : decode cL_moves 507 = .ok (.iinc 19 1, 3) := by decide +kernel
theorem dL_moves_510 : decode cL_moves 510 = .ok (.goto (-113), 3) := by decide +kernel
theorem dL_moves_513 : decode cL_moves 513 = .ok (.iconst 0, 1) := by decide +kernel
theorem dL_moves_514 : decode cL_moves 514 = .ok (.istore 19, 2) := by decide +kernel
theorem dL_moves_516 : decode cL_moves 516 = .ok (.iload 19, 2) := by decide +kernel
theorem dL_moves_518 : decode cL_moves 518 = .ok (.iload_n 1, 1) := by decide +kernel
theorem dL_moves_519 : decode cL_moves 519 = .ok (.if_icmp .ge 158, 3) := by decide +kernel
theorem dL_moves_522 : decode cL_moves 522 = .ok (.aload_n 0, 1) := by decide +kernel
theorem dL_moves_523 : decode cL_moves 523 = .ok (.getfield 10, 3) := by decide +kernel
theorem dL_moves_526 : decode cL_moves 526 = .ok (.iload 19, 2) := by decide +kernel
theorem dL_moves_528 : decode cL_moves 528 = .ok (.invokevirtual 168, 3) := by decide +kernel
theorem dL_moves_531 : decode cL_moves 531 = .ok (.istore 20, 2) := by decide +kernel
theorem dL_moves_533 : decode cL_moves 533 = .ok (.iload 18, 2) := by decide +kernel
theorem dL_moves_535 : decode cL_moves 535 = .ok (.aload_n 0, 1) := by decide +kernel
theorem dL_moves_536 : decode cL_moves 536 = .ok (.getfield 10, 3) := by decide +kernel
theorem dL_moves_539 : decode cL_moves 539 = .ok (.iload 19, 2) := by decide +kernel
theorem dL_moves_541 : decode cL_moves 541 = .ok (.invokevirtual 171, 3) := by decide +kernel
theorem dL_moves_544 : decode cL_moves 544 = .ok (.ifCond .ge 7, 3) := by decide +kernel
theorem dL_moves_547 : decode cL_moves 547 = .ok (.iconst 1, 1) := by decide +kernel
theorem dL_moves_548 : decode cL_moves 548 = .ok (.goto 4, 3) := by decide +kernel
theorem dL_moves_551 : decode cL_moves 551 = .ok (.iconst 0, 1) := by decide +kernel
theorem dL_moves_552 : decode cL_moves 552 = .ok (.iadd, 1) := by decide +kernel
theorem dL_moves_553 : decode cL_moves 553 = .ok (.istore 18, 2) := by decide +kernel
theorem dL_moves_555 : decode cL_moves 555 = .ok (.aload_n 0, 1) := by decide +kernel
theorem dL_moves_556 : decode cL_moves 556 = .ok (.getfield 10, 3) := by decide +kernel
theorem dL_moves_559 : decode cL_moves 559 = .ok (.iload 19, 2) := by decide +kernel
theorem dL_moves_561 : decode cL_moves 561 = .ok (.invokevirtual 147, 3) := by decide +kernel
theorem dL_moves_564 : decode cL_moves 564 = .ok (.aload 9, 2) := by decide +kernel
theorem dL_moves_566 : decode cL_moves 566 = .ok (.iload 19, 2) := by decide +kernel
theorem dL_moves_568 : decode cL_moves 568 = .ok (.iaload, 1) := by decide +kernel
theorem dL_moves_569 : decode cL_moves 569 = .ok (.iload 20, 2) := by decide +kernel
theorem dL_moves_571 : decode cL_moves 571 = .ok (.invokestatic 159, 3) := by decide +kernel
theorem dL_moves_574 : decode cL_moves 574 = .ok (.if_icmp .ne 95, 3) := by decide +kernel
theorem dL_moves_577 : decode cL_moves 577 = .ok (.aload_n 0, 1) := by decide +kernel
theorem dL_moves_578 : decode cL_moves 578 = .ok (.getfield 10, 3) := by decide +kernel
theorem dL_moves_581 : decode cL_moves 581 = .ok (.iload 19, 2) := by decide +kernel
theorem dL_moves_583 : decode cL_moves 583 = .ok (.invokevirtual 150, 3) := by decide +kernel
theorem dL_moves_586 : decode cL_moves 586 = .ok (.aload 10, 2) := by decide +kernel
theorem dL_moves_588 : decode cL_moves 588 = .ok (.iload 19, 2) := by decide +kernel
theorem dL_moves_590 : decode cL_moves 590 = .ok (.iaload, 1) := by decide +kernel
theorem dL_moves_591 : decode cL_moves 591 = .ok (.iload 20, 2) := by decide +kernel
theorem dL_moves_593 : decode cL_moves 593 = .ok (.invokestatic 35, 3) := by decide +kernel
theorem dL_moves_596 : decode cL_moves 596 = .ok (.if_icmp .ne 73, 3) := by decide +kernel
theorem dL_moves_599 : decode cL_moves 599 = .ok (.iload 20, 2) := by decide +kernel
theorem dL_moves_601 : decode cL_moves 601 = .ok (.ldc 174, 2) := by decide +kernel
theorem dL_moves_603 : decode cL_moves 603 = .ok (.if_icmp .lt 66, 3) := by decide +kernel
theorem dL_moves_606 : decode cL_moves 606 = .ok (.iload 20, 2) := by decide +kernel
theorem dL_moves_608 : decode cL_moves 608 = .ok (.ldc 175, 2) := by decide +kernel
theorem dL_moves_610 : decode cL_moves 610 = .ok (.if_icmp .gt 59, 3) := by decide +kernel
theorem dL_moves_613 : decode cL_moves 613 = .ok (.aload_n 0, 1) := by decide +kernel
theorem dL_moves_614 : decode cL_moves 614 = .ok (.getfield 10, 3) := by decide +kernel
theorem dL_moves_617 : decode cL_moves 617 = .ok (.iload 19, 2) := by decide +kernel
theorem dL_moves_619 : decode cL_moves 619 = .ok (.invokevirtual 176, 3) := by decide +kernel
theorem dL_moves_622 : decode cL_moves 622 = .ok (.ifCond .le 7, 3) := by decide +kernel
theorem dL_moves_625 : decode cL_moves 625 = .ok (.iconst 1, 1) := by decide +kernel
theorem dL_moves_626 : decode cL_moves 626 = .ok (.goto 4, 3) := by decide +kernel
theorem dL_moves_629 : decode cL_moves 629 = .ok (.iconst 0, 1) := by decide +kernel
theorem dL_moves_630 : decode cL_moves 630 = .ok (.aload_n 0, 1) := by decide +kernel
theorem dL_moves_631 : decode cL_moves 631 = .ok (.getfield 10, 3) := by decide +kernel
theorem dL_moves_634 : decode cL_moves 634 = .ok (.iload 19, 2) := by decide +kernel
theorem dL_moves_636 : decode cL_moves 636 = .ok (.invokevirtual 179, 3) := by decide +kernel
theorem dL_moves_639 : decode cL_moves 639 = .ok (.ifCond .lt 7, 3) := by decide +kernel
theorem dL_moves_642 : decode cL_moves 642 = .ok (.iconst 1, 1) := by decide +kernel
theorem dL_moves_643 : decode cL_moves 643 = .ok (.goto 4, 3) := by decide +kernel
theorem dL_moves_646 : decode cL_moves 646 = .ok (.iconst 0, 1) := by decide +kernel
theorem dL_moves_647 : decode cL_moves 647 = .ok (.if_icmp .ne 22, 3) := by decide +kernel
theorem dL_moves_650 : decode cL_moves 650 = .ok (.aload_n 0, 1) := by decide +kernel
theorem dL_moves_651 : decode cL_moves 651 = .ok (.getfield 10, 3) := by decide +kernel
theorem dL_moves_654 : decode cL_moves 654 = .ok (.iload 19, 2) := by decide +kernel
theorem dL_moves_656 : decode cL_moves 656 = .ok (.invokevirtual 179, 3) := by decide +kernel
theorem dL_moves_659 : decode cL_moves 659 = .ok (.aload_n 0, 1) := by decide +kernel
theorem dL_moves_660 : decode cL_moves 660 = .ok (.getfield 10, 3) := by decide +kernel
theorem dL_moves_663 : decode cL_moves 663 = .ok (.invokevirtual 129, 3) := by decide +kernel
theorem dL_moves_666 : decode cL_moves 666 = .ok (.if_icmp .le 5, 3) := by decide +kernel
theorem dL_moves_669 : decode cL_moves 669 = .ok (.iconst 0, 1) := by decide +kernel
theorem dL_moves_670 : decode cL_moves 670 = .ok (.ireturn, 1) := by decide +kernel
theorem dL_moves_671 : decode cL_moves 671 = .ok (.iinc 19 1, 3) := by decide +kernel
theorem dL_moves_674 : decode cL_moves 674 = .ok (.goto (-158), 3) := by decide +kernel
theorem dL_moves_677 : decode cL_moves 677 = .ok (.aload_n 0, 1) := by decide +kernel
theorem dL_moves_678 : decode cL_moves 678 = .ok (.getfield 10, 3) := by decide +kernel
theorem dL_moves_681 : decode cL_moves 681 = .ok (.invokevirtual 129, 3) := by decide +kernel
theorem dL_moves_684 : decode cL_moves 684 = .ok (.iload 4, 2) := by decide +kernel
theorem dL_moves_686 : decode cL_moves 686 = .ok (.iload 14, 2) := by decide +kernel
theorem dL_moves_688 : decode cL_moves 688 = .ok (.iadd, 1) := by decide +kernel
theorem dL_moves_689 : decode cL_moves 689 = .ok (.if_icmp .ne 57, 3) := by decide +kernel
theorem dL_moves_692 : decode cL_moves 692 = .ok (.aload_n 0, 1) := by decide +kernel
theorem dL_moves_693 : decode cL_moves 693 = .ok (.getfield 10, 3) := by decide +kernel
theorem dL_moves_696 : decode cL_moves 696 = .ok (.invokevirtual 120, 3) := by decide +kernel
theorem dL_moves_699 : decode cL_moves 699 = .ok (.iload 17, 2) := by decide +kernel
theorem dL_moves_701 : decode cL_moves 701 = .ok (.if_icmp .ne 45, 3) := by decide +kernel
theorem dL_moves_704 : decode cL_moves 704 = .ok (.aload_n 0, 1) := by decide +kernel
theorem dL_moves_705 : decode cL_moves 705 = .ok (.getfield 10, 3) := by decide +kernel
theorem dL_moves_708 : decode cL_moves 708 = .ok (.invokevirtual 132, 3) := by decide +kernel
theorem dL_moves_711 : decode cL_moves 711 = .ok (.iload 5, 2) := by decide +kernel
theorem dL_moves_713 : decode cL_moves 713 = .ok (.iload 16, 2) := by decide +kernel
theorem dL_moves_715 : decode cL_moves 715 = .ok (.iadd, 1) := by decide +kernel
theorem dL_moves_716 : decode cL_moves 716 = .ok (.if_icmp .ne 30, 3) := by decide +kernel
theorem dL_moves_719 : decode cL_moves 719 = .ok (.aload_n 0, 1) := by decide +kernel
theorem dL_moves_720 : decode cL_moves 720 = .ok (.getfield 10, 3) := by decide +kernel
theorem dL_moves_723 : decode cL_moves 723 = .ok (.invokevirtual 135, 3) := by decide +kernel
theorem dL_moves_726 : decode cL_moves 726 = .ok (.iload 6, 2) := by decide +kernel
theorem dL_moves_728 : decode cL_moves 728 = .ok (.if_icmp .lt 18, 3) := by decide +kernel
theorem dL_moves_731 : decode cL_moves 731 = .ok (.iload 15, 2) := by decide +kernel
theorem dL_moves_733 : decode cL_moves 733 = .ok (.iload 18, 2) := by decide +kernel
theorem dL_moves_735 : decode cL_moves 735 = .ok (.ifCond .le 7, 3) := by decide +kernel
theorem dL_moves_738 : decode cL_moves 738 = .ok (.iconst 1, 1) := by decide +kernel
theorem dL_moves_739 : decode cL_moves 739 = .ok (.goto 4, 3) := by decide +kernel
theorem dL_moves_742 : decode cL_moves 742 = .ok (.iconst 0, 1) := by decide +kernel
theorem dL_moves_743 : decode cL_moves 743 = .ok (.if_icmp .eq 5, 3) := by decide +kernel
theorem dL_moves_746 : decode cL_moves 746 = .ok (.iconst 0, 1) := by decide +kernel
theorem dL_moves_747 : decode cL_moves 747 = .ok (.ireturn, 1) := by decide +kernel
theorem dL_moves_748 : decode cL_moves 748 = .ok (.aload_n 0, 1) := by decide +kernel
theorem dL_moves_749 : decode cL_moves 749 = .ok (.getfield 10, 3) := by decide +kernel
theorem dL_moves_752 : decode cL_moves 752 = .ok (.iconst 1, 1) := by decide +kernel
theorem dL_moves_753 : decode cL_moves 753 = .ok (.invokevirtual 138, 3) := by decide +kernel
theorem dL_moves_756 : decode cL_moves 756 = .ok (.aload 11, 2) := by decide +kernel
theorem dL_moves_758 : decode cL_moves 758 = .ok (.iconst 1, 1) := by decide +kernel
theorem dL_moves_759 : decode cL_moves 759 = .ok (.laload, 1) := by decide +kernel
theorem dL_moves_760 : decode cL_moves 760 = .ok (.iload 14, 2) := by decide +kernel
theorem dL_moves_762 : decode cL_moves 762 = .ok (.i2l, 1) := by decide +kernel
theorem dL_moves_763 : decode cL_moves 763 = .ok (.lload 12, 2) := by decide +kernel
theorem dL_moves_765 : decode cL_moves 765 = .ok (.lmul, 1) := by decide +kernel
theorem dL_moves_766 : decode cL_moves 766 = .ok (.ladd, 1) := by decide +kernel
theorem dL_moves_767 : decode cL_moves 767 = .ok (.lcmp, 1) := by decide +kernel
theorem dL_moves_768 : decode cL_moves 768 = .ok (.ifCond .ne 47, 3) := by decide +kernel
theorem dL_moves_771 : decode cL_moves 771 = .ok (.aload_n 0, 1) := by decide +kernel
theorem dL_moves_772 : decode cL_moves 772 = .ok (.getfield 10, 3) := by decide +kernel
theorem dL_moves_775 : decode cL_moves 775 = .ok (.iconst 2, 1) := by decide +kernel
theorem dL_moves_776 : decode cL_moves 776 = .ok (.invokevirtual 138, 3) := by decide +kernel
theorem dL_moves_779 : decode cL_moves 779 = .ok (.aload 11, 2) := by decide +kernel
theorem dL_moves_781 : decode cL_moves 781 = .ok (.iconst 2, 1) := by decide +kernel
theorem dL_moves_782 : decode cL_moves 782 = .ok (.laload, 1) := by decide +kernel
theorem dL_moves_783 : decode cL_moves 783 = .ok (.iload 14, 2) := by decide +kernel
theorem dL_moves_785 : decode cL_moves 785 = .ok (.i2l, 1) := by decide +kernel
theorem dL_moves_786 : decode cL_moves 786 = .ok (.iload 17, 2) := by decide +kernel
theorem dL_moves_788 : decode cL_moves 788 = .ok (.i2l, 1) := by decide +kernel
theorem dL_moves_789 : decode cL_moves 789 = .ok (.lmul, 1) := by decide +kernel
theorem dL_moves_790 : decode cL_moves 790 = .ok (.ladd, 1) := by decide +kernel
theorem dL_moves_791 : decode cL_moves 791 = .ok (.lcmp, 1) := by decide +kernel
theorem dL_moves_792 : decode cL_moves 792 = .ok (.ifCond .ne 23, 3) := by decide +kernel
theorem dL_moves_795 : decode cL_moves 795 = .ok (.aload_n 0, 1) := by decide +kernel
theorem dL_moves_796 : decode cL_moves 796 = .ok (.getfield 10, 3) := by decide +kernel
theorem dL_moves_799 : decode cL_moves 799 = .ok (.iconst 0, 1) := by decide +kernel
theorem dL_moves_800 : decode cL_moves 800 = .ok (.invokevirtual 138, 3) := by decide +kernel
theorem dL_moves_803 : decode cL_moves 803 = .ok (.aload 11, 2) := by decide +kernel
theorem dL_moves_805 : decode cL_moves 805 = .ok (.iconst 0, 1) := by decide +kernel
theorem dL_moves_806 : decode cL_moves 806 = .ok (.laload, 1) := by decide +kernel
theorem dL_moves_807 : decode cL_moves 807 = .ok (.lcmp, 1) := by decide +kernel
theorem dL_moves_808 : decode cL_moves 808 = .ok (.ifCond .lt 7, 3) := by decide +kernel
theorem dL_moves_811 : decode cL_moves 811 = .ok (.iconst 1, 1) := by decide +kernel
theorem dL_moves_812 : decode cL_moves 812 = .ok (.goto 4, 3) := by decide +kernel
theorem dL_moves_815 : decode cL_moves 815 = .ok (.iconst 0, 1) := by decide +kernel
theorem dL_moves_816 : decode cL_moves 816 = .ok (.ireturn, 1) := by decide +kernel
theorem dL_sheds_0 : decode cL_sheds 0 = .ok (.aload_n 0, 1) := by decide +kernel
theorem dL_sheds_1 : decode cL_sheds 1 = .ok (.getfield 10, 3) := by decide +kernel
theorem dL_sheds_4 : decode cL_sheds 4 = .ok (.invokevirtual 126, 3) := by decide +kernel
theorem dL_sheds_7 : decode cL_sheds 7 = .ok (.istore_n 1, 1) := by decide +kernel
theorem dL_sheds_8 : decode cL_sheds 8 = .ok (.iconst 0, 1) := by decide +kernel
theorem dL_sheds_9 : decode cL_sheds 9 = .ok (.istore_n 2, 1) := by decide +kernel
theorem dL_sheds_10 : decode cL_sheds 10 = .ok (.iload_n 2, 1) := by decide +kernel
theorem dL_sheds_11 : decode cL_sheds 11 = .ok (.iload_n 1, 1) := by decide +kernel
theorem dL_sheds_12 : decode cL_sheds 12 = .ok (.if_icmp .ge 110, 3) := by decide +kernel
theorem dL_sheds_15 : decode cL_sheds 15 = .ok (.iconst 0, 1) := by decide +kernel
theorem dL_sheds_16 : decode cL_sheds 16 = .ok (.istore_n 3, 1) := by decide +kernel
theorem dL_sheds_17 : decode cL_sheds 17 = .ok (.iload_n 3, 1) := by decide +kernel
theorem dL_sheds_18 : decode cL_sheds 18 = .ok (.iload_n 1, 1) := by decide +kernel
theorem dL_sheds_19 : decode cL_sheds 19 = .ok (.if_icmp .ge 97, 3) := by decide +kernel
theorem dL_sheds_22 : decode cL_sheds 22 = .ok (.aload_n 0, 1) := by decide +kernel
theorem dL_sheds_23 : decode cL_sheds 23 = .ok (.getfield 16, 3) := by decide +kernel
theorem dL_sheds_26 : decode cL_sheds 26 = .ok (.iload_n 2, 1) := by decide +kernel
theorem dL_sheds_27 : decode cL_sheds 27 = .ok (.iaload, 1) := by decide +kernel
theorem dL_sheds_28 : decode cL_sheds 28 = .ok (.aload_n 0, 1) := by decide +kernel
theorem dL_sheds_29 : decode cL_sheds 29 = .ok (.getfield 16, 3) := by decide +kernel
theorem dL_sheds_32 : decode cL_sheds 32 = .ok (.iload_n 3, 1) := by decide +kernel
theorem dL_sheds_33 : decode cL_sheds 33 = .ok (.iaload, 1) := by decide +kernel
theorem dL_sheds_34 : decode cL_sheds 34 = .ok (.if_icmp .gt 23, 3) := by decide +kernel
theorem dL_sheds_37 : decode cL_sheds 37 = .ok (.aload_n 0, 1) := by decide +kernel
theorem dL_sheds_38 : decode cL_sheds 38 = .ok (.getfield 16, 3) := by decide +kernel
theorem dL_sheds_41 : decode cL_sheds 41 = .ok (.iload_n 2, 1) := by decide +kernel
theorem dL_sheds_42 : decode cL_sheds 42 = .ok (.iaload, 1) := by decide +kernel
theorem dL_sheds_43 : decode cL_sheds 43 = .ok (.aload_n 0, 1) := by decide +kernel
theorem dL_sheds_44 : decode cL_sheds 44 = .ok (.getfield 16, 3) := by decide +kernel
theorem dL_sheds_47 : decode cL_sheds 47 = .ok (.iload_n 3, 1) := by decide +kernel
theorem dL_sheds_48 : decode cL_sheds 48 = .ok (.iaload, 1) := by decide +kernel
theorem dL_sheds_49 : decode cL_sheds 49 = .ok (.if_icmp .ne 12, 3) := by decide +kernel
theorem dL_sheds_52 : decode cL_sheds 52 = .ok (.iload_n 2, 1) := by decide +kernel
theorem dL_sheds_53 : decode cL_sheds 53 = .ok (.iload_n 3, 1) := by decide +kernel
theorem dL_sheds_54 : decode cL_sheds 54 = .ok (.if_icmp .ge 7, 3) := by decide +kernel
theorem dL_sheds_57 : decode cL_sheds 57 = .ok (.iconst 1, 1) := by decide +kernel
theorem dL_sheds_58 : decode cL_sheds 58 = .ok (.goto 4, 3) := by decide +kernel
theorem dL_sheds_61 : decode cL_sheds 61 = .ok (.iconst 0, 1) := by decide +kernel
theorem dL_sheds_62 : decode cL_sheds 62 = .ok (.istore 4, 2) := by decide +kernel
theorem dL_sheds_64 : decode cL_sheds 64 = .ok (.iload 4, 2) := by decide +kernel
theorem dL_sheds_66 : decode cL_sheds 66 = .ok (.ifCond .eq 44, 3) := by decide +kernel
theorem dL_sheds_69 : decode cL_sheds 69 = .ok (.aload_n 0, 1) := by decide +kernel
theorem dL_sheds_70 : decode cL_sheds 70 = .ok (.getfield 10, 3) := by decide +kernel
theorem dL_sheds_73 : decode cL_sheds 73 = .ok (.iload_n 2, 1) := by decide +kernel
theorem dL_sheds_74 : decode cL_sheds 74 = .ok (.invokevirtual 162, 3) := by decide +kernel
theorem dL_sheds_77 : decode cL_sheds 77 = .ok (.iconst 2, 1) := by decide +kernel
theorem dL_sheds_78 : decode cL_sheds 78 = .ok (.if_icmp .ne 32, 3) := by decide +kernel
theorem dL_sheds_81 : decode cL_sheds 81 = .ok (.aload_n 0, 1) := by decide +kernel
theorem dL_sheds_82 : decode cL_sheds 82 = .ok (.getfield 10, 3) := by decide +kernel
theorem dL_sheds_85 : decode cL_sheds 85 = .ok (.iload_n 3, 1) := by decide +kernel
theorem dL_sheds_86 : decode cL_sheds 86 = .ok (.invokevirtual 162, 3) := by decide +kernel
theorem dL_sheds_89 : decode cL_sheds 89 = .ok (.iconst 1, 1) := by decide +kernel
theorem dL_sheds_90 : decode cL_sheds 90 = .ok (.if_icmp .ne 20, 3) := by decide +kernel
theorem dL_sheds_93 : decode cL_sheds 93 = .ok (.aload_n 0, 1) := by decide +kernel
theorem dL_sheds_94 : decode cL_sheds 94 = .ok (.getfield 20, 3) := by decide +kernel
theorem dL_sheds_97 : decode cL_sheds 97 = .ok (.iload_n 3, 1) := by decide +kernel
theorem dL_sheds_98 : decode cL_sheds 98 = .ok (.iaload, 1) := by decide +kernel
theorem dL_sheds_99 : decode cL_sheds 99 = .ok (.aload_n 0, 1) := by decide +kernel
theorem dL_sheds_100 : decode cL_sheds 100 = .ok (.getfield 20, 3) := by decide +kernel
theorem dL_sheds_103 : decode cL_sheds 103 = .ok (.iload_n 2, 1) := by decide +kernel
theorem dL_sheds_104 : decode cL_sheds 104 = .ok (.iaload, 1) := by decide +kernel
theorem dL_sheds_105 : decode cL_sheds 105 = .ok (.if_icmp .lt 5, 3) := by decide +kernel
theorem dL_sheds_108 : decode cL_sheds 108 = .ok (.iconst 0, 1) := by decide +kernel
theorem dL_sheds_109 : decode cL_sheds 109 = .ok (.ireturn, 1) := by decide +kernel
theorem dL_sheds_110 : decode cL_sheds 110 = .ok (.iinc 3 1, 3) := by decide +kernel
theorem dL_sheds_113 : decode cL_sheds 113 = .ok (.goto (-96), 3) := by decide +kernel
theorem dL_sheds_116 : decode cL_sheds 116 = .ok (.iinc 2 1, 3) := by decide +kernel
theorem dL_sheds_119 : decode cL_sheds 119 = .ok (.goto (-109), 3) := by decide +kernel
theorem dL_sheds_122 : decode cL_sheds 122 = .ok (.iconst 1, 1) := by decide +kernel
theorem dL_sheds_123 : decode cL_sheds 123 = .ok (.ireturn, 1) := by decide +kernel
theorem dL_holdsCharge_0 : decode cL_holdsCharge 0 = .ok (.sipush 1000, 3) := by decide +kernel
theorem dL_holdsCharge_3 : decode cL_holdsCharge 3 = .ok (.aload_n 0, 1) := by decide +kernel
theorem dL_holdsCharge_4 : decode cL_holdsCharge 4 = .ok (.ldc 182, 2) := by decide +kernel
theorem dL_holdsCharge_6 : decode cL_holdsCharge 6 = .ok (.invokevirtual 65, 3) := by decide +kernel
theorem dL_holdsCharge_9 : decode cL_holdsCharge 9 = .ok (.iadd, 1) := by decide +kernel
theorem dL_holdsCharge_10 : decode cL_holdsCharge 10 = .ok (.istore_n 1, 1) := by decide +kernel
theorem dL_holdsCharge_11 : decode cL_holdsCharge 11 = .ok (.aload_n 0, 1) := by decide +kernel
theorem dL_holdsCharge_12 : decode cL_holdsCharge 12 = .ok (.iload_n 1, 1) := by decide +kernel
theorem dL_holdsCharge_13 : decode cL_holdsCharge 13 = .ok (.iconst 1, 1) := by decide +kernel
theorem dL_holdsCharge_14 : decode cL_holdsCharge 14 = .ok (.iadd, 1) := by decide +kernel
theorem dL_holdsCharge_15 : decode cL_holdsCharge 15 = .ok (.invokevirtual 65, 3) := by decide +kernel
theorem dL_holdsCharge_18 : decode cL_holdsCharge 18 = .ok (.istore_n 2, 1) := by decide +kernel
theorem dL_holdsCharge_19 : decode cL_holdsCharge 19 = .ok (.aload_n 0, 1) := by decide +kernel
theorem dL_holdsCharge_20 : decode cL_holdsCharge 20 = .ok (.getfield 10, 3) := by decide +kernel
theorem dL_holdsCharge_23 : decode cL_holdsCharge 23 = .ok (.aload_n 0, 1) := by decide +kernel
theorem dL_holdsCharge_24 : decode cL_holdsCharge 24 = .ok (.sipush 20000, 3) := by decide +kernel
theorem dL_holdsCharge_27 : decode cL_holdsCharge 27 = .ok (.invokevirtual 65, 3) := by decide +kernel
theorem dL_holdsCharge_30 : decode cL_holdsCharge 30 = .ok (.aload_n 0, 1) := by decide +kernel
theorem dL_holdsCharge_31 : decode cL_holdsCharge 31 = .ok (.sipush 9000, 3) := by decide +kernel
theorem dL_holdsCharge_34 : decode cL_holdsCharge 34 = .ok (.invokevirtual 65, 3) := by decide +kernel
theorem dL_holdsCharge_37 : decode cL_holdsCharge 37 = .ok (.iload_n 1, 1) := by decide +kernel
theorem dL_holdsCharge_38 : decode cL_holdsCharge 38 = .ok (.iload_n 2, 1) := by decide +kernel
theorem dL_holdsCharge_39 : decode cL_holdsCharge 39 = .ok (.invokevirtual 94, 3) := by decide +kernel
theorem dL_holdsCharge_42 : decode cL_holdsCharge 42 = .ok (.ifCond .eq 5, 3) := by decide +kernel
theorem dL_holdsCharge_45 : decode cL_holdsCharge 45 = .ok (.iconst 0, 1) := by decide +kernel
theorem dL_holdsCharge_46 : decode cL_holdsCharge 46 = .ok (.ireturn, 1) := by decide +kernel
theorem dL_holdsCharge_47 : decode cL_holdsCharge 47 = .ok (.iconst 0, 1) := by decide +kernel
theorem dL_holdsCharge_48 : decode cL_holdsCharge 48 = .ok (.istore_n 3, 1) := by decide +kernel
theorem dL_holdsCharge_49 : decode cL_holdsCharge 49 = .ok (.iload_n 3, 1) := by decide +kernel
theorem dL_holdsCharge_50 : decode cL_holdsCharge 50 = .ok (.bipush 12, 2) := by decide +kernel
theorem dL_holdsCharge_52 : decode cL_holdsCharge 52 = .ok (.if_icmp .ge 43, 3) := by decide +kernel
theorem dL_holdsCharge_55 : decode cL_holdsCharge 55 = .ok (.aload_n 0, 1) := by decide +kernel
theorem dL_holdsCharge_56 : decode cL_holdsCharge 56 = .ok (.getfield 10, 3) := by decide +kernel
theorem dL_holdsCharge_59 : decode cL_holdsCharge 59 = .ok (.iconst 1, 1) := by decide +kernel
theorem dL_holdsCharge_60 : decode cL_holdsCharge 60 = .ok (.invokevirtual 153, 3) := by decide +kernel
theorem dL_holdsCharge_63 : decode cL_holdsCharge 63 = .ok (.ifCond .lt 24, 3) := by decide +kernel
theorem dL_holdsCharge_66 : decode cL_holdsCharge 66 = .ok (.aload_n 0, 1) := by decide +kernel
theorem dL_holdsCharge_67 : decode cL_holdsCharge 67 = .ok (.getfield 10, 3) := by decide +kernel
theorem dL_holdsCharge_70 : decode cL_holdsCharge 70 = .ok (.invokevirtual 183, 3) := by decide +kernel
theorem dL_holdsCharge_73 : decode cL_holdsCharge 73 = .ok (.ifCond .lt 14, 3) := by decide +kernel
theorem dL_holdsCharge_76 : decode cL_holdsCharge 76 = .ok (.aload_n 0, 1) := by decide +kernel
theorem dL_holdsCharge_77 : decode cL_holdsCharge 77 = .ok (.getfield 10, 3) := by decide +kernel
theorem dL_holdsCharge_80 : decode cL_holdsCharge 80 = .ok (.invokevirtual 183, 3) := by decide +kernel
theorem dL_holdsCharge_83 : decode cL_holdsCharge 83 = .ok (.iload_n 1, 1) := by decide +kernel
theorem dL_holdsCharge_84 : decode cL_holdsCharge 84 = .ok (.if_icmp .le 5, 3) := by decide +kernel
theorem dL_holdsCharge_87 : decode cL_holdsCharge 87 = .ok (.iconst 0, 1) := by decide +kernel
theorem dL_holdsCharge_88 : decode cL_holdsCharge 88 = .ok (.ireturn, 1) := by decide +kernel
theorem dL_holdsCharge_89 : decode cL_holdsCharge 89 = .ok (.iinc 3 1, 3) := by decide +kernel
theorem dL_holdsCharge_92 : decode cL_holdsCharge 92 = .ok (.goto (-43), 3) := by decide +kernel
theorem dL_holdsCharge_95 : decode cL_holdsCharge 95 = .ok (.iconst 1, 1) := by decide +kernel
theorem dL_holdsCharge_96 : decode cL_holdsCharge 96 = .ok (.ireturn, 1) := by decide +kernel
theorem dL_rests_0 : decode cL_rests 0 = .ok (.aload_n 0, 1) := by decide +kernel
theorem dL_rests_1 : decode cL_rests 1 = .ok (.getfield 10, 3) := by decide +kernel
theorem dL_rests_4 : decode cL_rests 4 = .ok (.iconst 0, 1) := by decide +kernel
theorem dL_rests_5 : decode cL_rests 5 = .ok (.invokevirtual 186, 3) := by decide +kernel
theorem dL_rests_8 : decode cL_rests 8 = .ok (.ifCond .ne 5, 3) := by decide +kernel
theorem dL_rests_11 : decode cL_rests 11 = .ok (.iconst 0, 1) := by decide +kernel
theorem dL_rests_12 : decode cL_rests 12 = .ok (.ireturn, 1) := by decide +kernel
theorem dL_rests_13 : decode cL_rests 13 = .ok (.new 7, 3) := by decide +kernel
theorem dL_rests_16 : decode cL_rests 16 = .ok (.dup, 1) := by decide +kernel
theorem dL_rests_17 : decode cL_rests 17 = .ok (.invokespecial 9, 3) := by decide +kernel
theorem dL_rests_20 : decode cL_rests 20 = .ok (.astore_n 1, 1) := by decide +kernel
theorem dL_rests_21 : decode cL_rests 21 = .ok (.iconst 2, 1) := by decide +kernel
theorem dL_rests_22 : decode cL_rests 22 = .ok (.aload_n 0, 1) := by decide +kernel
theorem dL_rests_23 : decode cL_rests 23 = .ok (.iconst 5, 1) := by decide +kernel
theorem dL_rests_24 : decode cL_rests 24 = .ok (.invokevirtual 65, 3) := by decide +kernel
theorem dL_rests_27 : decode cL_rests 27 = .ok (.iadd, 1) := by decide +kernel
theorem dL_rests_28 : decode cL_rests 28 = .ok (.istore_n 2, 1) := by decide +kernel
theorem dL_rests_29 : decode cL_rests 29 = .ok (.ldc 190, 2) := by decide +kernel
theorem dL_rests_31 : decode cL_rests 31 = .ok (.istore_n 3, 1) := by decide +kernel
theorem dL_rests_32 : decode cL_rests 32 = .ok (.ldc 191, 2) := by decide +kernel
theorem dL_rests_34 : decode cL_rests 34 = .ok (.istore 4, 2) := by decide +kernel
theorem dL_rests_36 : decode cL_rests 36 = .ok (.iconst 0, 1) := by decide +kernel
theorem dL_rests_37 : decode cL_rests 37 = .ok (.istore 5, 2) := by decide +kernel
theorem dL_rests_39 : decode cL_rests 39 = .ok (.iload 5, 2) := by decide +kernel
theorem dL_rests_41 : decode cL_rests 41 = .ok (.iload_n 2, 1) := by decide +kernel
theorem dL_rests_42 : decode cL_rests 42 = .ok (.if_icmp .ge 63, 3) := by decide +kernel
theorem dL_rests_45 : decode cL_rests 45 = .ok (.aload_n 0, 1) := by decide +kernel
theorem dL_rests_46 : decode cL_rests 46 = .ok (.ldc 68, 2) := by decide +kernel
theorem dL_rests_48 : decode cL_rests 48 = .ok (.invokevirtual 65, 3) := by decide +kernel
theorem dL_rests_51 : decode cL_rests 51 = .ok (.sipush 30000, 3) := by decide +kernel
theorem dL_rests_54 : decode cL_rests 54 = .ok (.isub, 1) := by decide +kernel
theorem dL_rests_55 : decode cL_rests 55 = .ok (.istore 6, 2) := by decide +kernel
theorem dL_rests_57 : decode cL_rests 57 = .ok (.iload_n 3, 1) := by decide +kernel
theorem dL_rests_58 : decode cL_rests 58 = .ok (.iload 6, 2) := by decide +kernel
theorem dL_rests_60 : decode cL_rests 60 = .ok (.invokestatic 159, 3) := by decide +kernel
theorem dL_rests_63 : decode cL_rests 63 = .ok (.istore_n 3, 1) := by decide +kernel
theorem dL_rests_64 : decode cL_rests 64 = .ok (.iload 4, 2) := by decide +kernel
theorem dL_rests_66 : decode cL_rests 66 = .ok (.iload 6, 2) := by decide +kernel
theorem dL_rests_68 : decode cL_rests 68 = .ok (.invokestatic 35, 3) := by decide +kernel
theorem dL_rests_71 : decode cL_rests 71 = .ok (.istore 4, 2) := by decide +kernel
theorem dL_rests_73 : decode cL_rests 73 = .ok (.aload_n 1, 1) := by decide +kernel
theorem dL_rests_74 : decode cL_rests 74 = .ok (.sipush 20000, 3) := by decide +kernel
theorem dL_rests_77 : decode cL_rests 77 = .ok (.aload_n 0, 1) := by decide +kernel
theorem dL_rests_78 : decode cL_rests 78 = .ok (.ldc 192, 2) := by decide +kernel
theorem dL_rests_80 : decode cL_rests 80 = .ok (.invokevirtual 65, 3) := by decide +kernel
theorem dL_rests_83 : decode cL_rests 83 = .ok (.iadd, 1) := by decide +kernel
theorem dL_rests_84 : decode cL_rests 84 = .ok (.iload 6, 2) := by decide +kernel
theorem dL_rests_86 : decode cL_rests 86 = .ok (.iconst 0, 1) := by decide +kernel
theorem dL_rests_87 : decode cL_rests 87 = .ok (.iconst 0, 1) := by decide +kernel
theorem dL_rests_88 : decode cL_rests 88 = .ok (.iconst 0, 1) := by decide +kernel
theorem dL_rests_89 : decode cL_rests 89 = .ok (.invokevirtual 69, 3) := by decide +kernel
theorem dL_rests_92 : decode cL_rests 92 = .ok (.iload 5, 2) := by decide +kernel
theorem dL_rests_94 : decode cL_rests 94 = .ok (.if_icmp .eq 5, 3) := by decide +kernel
theorem dL_rests_97 : decode cL_rests 97 = .ok (.iconst 0, 1) := by decide +kernel
theorem dL_rests_98 : decode cL_rests 98 = .ok (.ireturn, 1) := by decide +kernel
theorem dL_rests_99 : decode cL_rests 99 = .ok (.iinc 5 1, 3) := by decide +kernel
theorem dL_rests_102 : decode cL_rests 102 = .ok (.goto (-63), 3) := by decide +kernel
theorem dL_rests_105 : decode cL_rests 105 = .ok (.iconst 1, 1) := by decide +kernel
theorem dL_rests_106 : decode cL_rests 106 = .ok (.istore 5, 2) := by decide +kernel
theorem dL_rests_108 : decode cL_rests 108 = .ok (.iload 5, 2) := by decide +kernel
theorem dL_rests_110 : decode cL_rests 110 = .ok (.iload_n 2, 1) := by decide +kernel
theorem dL_rests_111 : decode cL_rests 111 = .ok (.if_icmp .ge 35, 3) := by decide +kernel
theorem dL_rests_114 : decode cL_rests 114 = .ok (.aload_n 1, 1) := by decide +kernel
theorem dL_rests_115 : decode cL_rests 115 = .ok (.iload 5, 2) := by decide +kernel
theorem dL_rests_117 : decode cL_rests 117 = .ok (.aload_n 0, 1) := by decide +kernel
theorem dL_rests_118 : decode cL_rests 118 = .ok (.iload 5, 2) := by decide +kernel
theorem dL_rests_120 : decode cL_rests 120 = .ok (.invokevirtual 65, 3) := by decide +kernel
theorem dL_rests_123 : decode cL_rests 123 = .ok (.iconst 1, 1) := by decide +kernel
theorem dL_rests_124 : decode cL_rests 124 = .ok (.aload_n 0, 1) := by decide +kernel
theorem dL_rests_125 : decode cL_rests 125 = .ok (.sipush 300, 3) := by decide +kernel
theorem dL_rests_128 : decode cL_rests 128 = .ok (.invokevirtual 65, 3) := by decide +kernel
theorem dL_rests_131 : decode cL_rests 131 = .ok (.iadd, 1) := by decide +kernel
theorem dL_rests_132 : decode cL_rests 132 = .ok (.invokevirtual 76, 3) := by decide +kernel
theorem dL_rests_135 : decode cL_rests 135 = .ok (.ifCond .eq 5, 3) := by decide +kernel
theorem dL_rests_138 : decode cL_rests 138 = .ok (.iconst 0, 1) := by decide +kernel
theorem dL_rests_139 : decode cL_rests 139 = .ok (.ireturn, 1) := by decide +kernel
theorem dL_rests_140 : decode cL_rests 140 = .ok (.iinc 5 1, 3) := by decide +kernel
theorem dL_rests_143 : decode cL_rests 143 = .ok (.goto (-35), 3) := by decide +kernel
theorem dL_rests_146 : decode cL_rests 146 = .ok (.iconst 0, 1) := by decide +kernel
theorem dL_rests_147 : decode cL_rests 147 = .ok (.istore 5, 2) := by decide +kernel
theorem dL_rests_149 : decode cL_rests 149 = .ok (.iload 5, 2) := by decide +kernel
theorem dL_rests_151 : decode cL_rests 151 = .ok (.bipush 30, 2) := by decide +kernel
theorem dL_rests_153 : decode cL_rests 153 = .ok (.if_icmp .ge 64, 3) := by decide +kernel
theorem dL_rests_156 : decode cL_rests 156 = .ok (.aload_n 1, 1) := by decide +kernel
theorem dL_rests_157 : decode cL_rests 157 = .ok (.iconst 1, 1) := by decide +kernel
theorem dL_rests_158 : decode cL_rests 158 = .ok (.aload_n 0, 1) := by decide +kernel
theorem dL_rests_159 : decode cL_rests 159 = .ok (.bipush 20, 2) := by decide +kernel
theorem dL_rests_161 : decode cL_rests 161 = .ok (.invokevirtual 65, 3) := by decide +kernel
theorem dL_rests_164 : decode cL_rests 164 = .ok (.iadd, 1) := by decide +kernel
theorem dL_rests_165 : decode cL_rests 165 = .ok (.invokevirtual 153, 3) := by decide +kernel
theorem dL_rests_168 : decode cL_rests 168 = .ok (.ifCond .eq 5, 3) := by decide +kernel
theorem dL_rests_171 : decode cL_rests 171 = .ok (.iconst 0, 1) := by decide +kernel
theorem dL_rests_172 : decode cL_rests 172 = .ok (.ireturn, 1) := by decide +kernel
theorem dL_rests_173 : decode cL_rests 173 = .ok (.iconst 0, 1) := by decide +kernel
theorem dL_rests_174 : decode cL_rests 174 = .ok (.istore 6, 2) := by decide +kernel
theorem dL_rests_176 : decode cL_rests 176 = .ok (.iload 6, 2) := by decide +kernel
theorem dL_rests_178 : decode cL_rests 178 = .ok (.iload_n 2, 1) := by decide +kernel
theorem dL_rests_179 : decode cL_rests 179 = .ok (.if_icmp .ge 32, 3) := by decide +kernel
theorem dL_rests_182 : decode cL_rests 182 = .ok (.aload_n 1, 1) := by decide +kernel
theorem dL_rests_183 : decode cL_rests 183 = .ok (.iload 6, 2) := by decide +kernel
theorem dL_rests_185 : decode cL_rests 185 = .ok (.invokevirtual 168, 3) := by decide +kernel
theorem dL_rests_188 : decode cL_rests 188 = .ok (.iload_n 3, 1) := by decide +kernel
theorem dL_rests_189 : decode cL_rests 189 = .ok (.if_icmp .lt 14, 3) := by decide +kernel
theorem dL_rests_192 : decode cL_rests 192 = .ok (.aload_n 1, 1) := by decide +kernel
theorem dL_rests_193 : decode cL_rests 193 = .ok (.iload 6, 2) := by decide +kernel
theorem dL_rests_195 : decode cL_rests 195 = .ok (.invokevirtual 168, 3) := by decide +kernel
theorem dL_rests_198 : decode cL_rests 198 = .ok (.iload 4, 2) := by decide +kernel
theorem dL_rests_200 : decode cL_rests 200 = .ok (.if_icmp .le 5, 3) := by decide +kernel
theorem dL_rests_203 : decode cL_rests 203 = .ok (.iconst 0, 1) := by decide +kernel
theorem dL_rests_204 : decode cL_rests 204 = .ok (.ireturn, 1) := by decide +kernel
theorem dL_rests_205 : decode cL_rests 205 = .ok (.iinc 6 1, 3) := by decide +kernel
theorem dL_rests_208 : decode cL_rests 208 = .ok (.goto (-32), 3) := by decide +kernel
theorem dL_rests_211 : decode cL_rests 211 = .ok (.iinc 5 1, 3) := by decide +kernel
theorem dL_rests_214 : decode cL_rests 214 = .ok (.goto (-65), 3) := by decide +kernel
theorem dL_rests_217 : decode cL_rests 217 = .ok (.aload_n 1, 1) := by decide +kernel
theorem dL_rests_218 : decode cL_rests 218 = .ok (.iconst 0, 1) := by decide +kernel
theorem dL_rests_219 : decode cL_rests 219 = .ok (.invokevirtual 138, 3) := by decide +kernel
theorem dL_rests_222 : decode cL_rests 222 = .ok (.lconst 0, 1) := by decide +kernel
theorem dL_rests_223 : decode cL_rests 223 = .ok (.lcmp, 1) := by decide +kernel
theorem dL_rests_224 : decode cL_rests 224 = .ok (.ifCond .ne 38, 3) := by decide +kernel
theorem dL_rests_227 : decode cL_rests 227 = .ok (.aload_n 1, 1) := by decide +kernel
theorem dL_rests_228 : decode cL_rests 228 = .ok (.iconst 1, 1) := by decide +kernel
theorem dL_rests_229 : decode cL_rests 229 = .ok (.invokevirtual 138, 3) := by decide +kernel
theorem dL_rests_232 : decode cL_rests 232 = .ok (.lconst 0, 1) := by decide +kernel
theorem dL_rests_233 : decode cL_rests 233 = .ok (.lcmp, 1) := by decide +kernel
theorem dL_rests_234 : decode cL_rests 234 = .ok (.ifCond .ne 28, 3) := by decide +kernel
theorem dL_rests_237 : decode cL_rests 237 = .ok (.aload_n 1, 1) := by decide +kernel
theorem dL_rests_238 : decode cL_rests 238 = .ok (.iconst 2, 1) := by decide +kernel
theorem dL_rests_239 : decode cL_rests 239 = .ok (.invokevirtual 138, 3) := by decide +kernel
theorem dL_rests_242 : decode cL_rests 242 = .ok (.lconst 0, 1) := by decide +kernel
theorem dL_rests_243 : decode cL_rests 243 = .ok (.lcmp, 1) := by decide +kernel
theorem dL_rests_244 : decode cL_rests 244 = .ok (.ifCond .ne 18, 3) := by decide +kernel
theorem dL_rests_247 : decode cL_rests 247 = .ok (.aload_n 0, 1) := by decide +kernel
theorem dL_rests_248 : decode cL_rests 248 = .ok (.getfield 10, 3) := by decide +kernel
theorem dL_rests_251 : decode cL_rests 251 = .ok (.iconst 0, 1) := by decide +kernel
theorem dL_rests_252 : decode cL_rests 252 = .ok (.invokevirtual 193, 3) := by decide +kernel
theorem dL_rests_255 : decode cL_rests 255 = .ok (.ifCond .eq 7, 3) := by decide +kernel
theorem dL_rests_258 : decode cL_rests 258 = .ok (.iconst 1, 1) := by decide +kernel
theorem dL_rests_259 : decode cL_rests 259 = .ok (.goto 4, 3) := by decide +kernel
theorem dL_rests_262 : decode cL_rests 262 = .ok (.iconst 0, 1) := by decide +kernel
theorem dL_rests_263 : decode cL_rests 263 = .ok (.ireturn, 1) := by decide +kernel
theorem dL_cools_0 : decode cL_cools 0 = .ok (.aload_n 0, 1) := by decide +kernel
theorem dL_cools_1 : decode cL_cools 1 = .ok (.getfield 10, 3) := by decide +kernel
theorem dL_cools_4 : decode cL_cools 4 = .ok (.iconst 0, 1) := by decide +kernel
theorem dL_cools_5 : decode cL_cools 5 = .ok (.invokevirtual 186, 3) := by decide +kernel
theorem dL_cools_8 : decode cL_cools 8 = .ok (.ifCond .eq 48, 3) := by decide +kernel
theorem dL_cools_11 : decode cL_cools 11 = .ok (.aload_n 0, 1) := by decide +kernel
theorem dL_cools_12 : decode cL_cools 12 = .ok (.getfield 10, 3) := by decide +kernel
theorem dL_cools_15 : decode cL_cools 15 = .ok (.sipush 1000, 3) := by decide +kernel
theorem dL_cools_18 : decode cL_cools 18 = .ok (.iconst 0, 1) := by decide +kernel
theorem dL_cools_19 : decode cL_cools 19 = .ok (.iconst 0, 1) := by decide +kernel
theorem dL_cools_20 : decode cL_cools 20 = .ok (.sipush 3000, 3) := by decide +kernel
theorem dL_cools_23 : decode cL_cools 23 = .ok (.bipush 50, 2) := by decide +kernel
theorem dL_cools_25 : decode cL_cools 25 = .ok (.sipush 300, 3) := by decide +kernel
theorem dL_cools_28 : decode cL_cools 28 = .ok (.invokevirtual 89, 3) := by decide +kernel
theorem dL_cools_31 : decode cL_cools 31 = .ok (.ifCond .ne 25, 3) := by decide +kernel
theorem dL_cools_34 : decode cL_cools 34 = .ok (.aload_n 0, 1) := by decide +kernel
theorem dL_cools_35 : decode cL_cools 35 = .ok (.getfield 10, 3) := by decide +kernel
theorem dL_cools_38 : decode cL_cools 38 = .ok (.iconst 0, 1) := by decide +kernel
theorem dL_cools_39 : decode cL_cools 39 = .ok (.invokevirtual 186, 3) := by decide +kernel
theorem dL_cools_42 : decode cL_cools 42 = .ok (.ifCond .eq 14, 3) := by decide +kernel
theorem dL_cools_45 : decode cL_cools 45 = .ok (.aload_n 0, 1) := by decide +kernel
theorem dL_cools_46 : decode cL_cools 46 = .ok (.getfield 10, 3) := by decide +kernel
theorem dL_cools_49 : decode cL_cools 49 = .ok (.iconst 1, 1) := by decide +kernel
theorem dL_cools_50 : decode cL_cools 50 = .ok (.invokevirtual 153, 3) := by decide +kernel
theorem dL_cools_53 : decode cL_cools 53 = .ok (.ifCond .ge 5, 3) := by decide +kernel
theorem dL_cools_56 : decode cL_cools 56 = .ok (.iconst 0, 1) := by decide +kernel
theorem dL_cools_57 : decode cL_cools 57 = .ok (.ireturn, 1) := by decide +kernel
theorem dL_cools_58 : decode cL_cools 58 = .ok (.aload_n 0, 1) := by decide +kernel
theorem dL_cools_59 : decode cL_cools 59 = .ok (.getfield 10, 3) := by decide +kernel
theorem dL_cools_62 : decode cL_cools 62 = .ok (.invokevirtual 101, 3) := by decide +kernel
theorem dL_cools_65 : decode cL_cools 65 = .ok (.istore_n 1, 1) := by decide +kernel
theorem dL_cools_66 : decode cL_cools 66 = .ok (.iload_n 1, 1) := by decide +kernel
theorem dL_cools_67 : decode cL_cools 67 = .ok (.newarray .int, 2) := by decide +kernel
theorem dL_cools_69 : decode cL_cools 69 = .ok (.astore_n 2, 1) := by decide +kernel
theorem dL_cools_70 : decode cL_cools 70 = .ok (.iconst 0, 1) := by decide +kernel
theorem dL_cools_71 : decode cL_cools 71 = .ok (.istore_n 3, 1) := by decide +kernel
theorem dL_cools_72 : decode cL_cools 72 = .ok (.iload_n 3, 1) := by decide +kernel
theorem dL_cools_73 : decode cL_cools 73 = .ok (.iload_n 1, 1) := by decide +kernel
theorem dL_cools_74 : decode cL_cools 74 = .ok (.if_icmp .ge 20, 3) := by decide +kernel
theorem dL_cools_77 : decode cL_cools 77 = .ok (.aload_n 2, 1) := by decide +kernel
theorem dL_cools_78 : decode cL_cools 78 = .ok (.iload_n 3, 1) := by decide +kernel
theorem dL_cools_79 : decode cL_cools 79 = .ok (.aload_n 0, 1) := by decide +kernel
theorem dL_cools_80 : decode cL_cools 80 = .ok (.getfield 10, 3) := by decide +kernel
theorem dL_cools_83 : decode cL_cools 83 = .ok (.iload_n 3, 1) := by decide +kernel
theorem dL_cools_84 : decode cL_cools 84 = .ok (.invokevirtual 168, 3) := by decide +kernel
theorem dL_cools_87 : decode cL_cools 87 = .ok (.iastore, 1) := by decide +kernel
theorem dL_cools_88 : decode cL_cools 88 = .ok (.iinc 3 1, 3) := by decide +kernel
theorem dL_cools_91 : decode cL_cools 91 = .ok (.goto (-19), 3) := by decide +kernel
theorem dL_cools_94 : decode cL_cools 94 = .ok (.aload_n 0, 1) := by decide +kernel
theorem dL_cools_95 : decode cL_cools 95 = .ok (.getfield 10, 3) := by decide +kernel
theorem dL_cools_98 : decode cL_cools 98 = .ok (.iconst 0, 1) := by decide +kernel
theorem dL_cools_99 : decode cL_cools 99 = .ok (.invokevirtual 193, 3) := by decide +kernel
theorem dL_cools_102 : decode cL_cools 102 = .ok (.ifCond .eq 49, 3) := by decide +kernel
theorem dL_cools_105 : decode cL_cools 105 = .ok (.aload_n 0, 1) := by decide +kernel
theorem dL_cools_106 : decode cL_cools 106 = .ok (.getfield 10, 3) := by decide +kernel
theorem dL_cools_109 : decode cL_cools 109 = .ok (.sipush 1000, 3) := by decide +kernel
theorem dL_cools_112 : decode cL_cools 112 = .ok (.iconst 0, 1) := by decide +kernel
theorem dL_cools_113 : decode cL_cools 113 = .ok (.iconst 0, 1) := by decide +kernel
theorem dL_cools_114 : decode cL_cools 114 = .ok (.aload_n 0, 1) := by decide +kernel
theorem dL_cools_115 : decode cL_cools 115 = .ok (.sipush 3000, 3) := by decide +kernel
theorem dL_cools_118 : decode cL_cools 118 = .ok (.invokevirtual 65, 3) := by decide +kernel
theorem dL_cools_121 : decode cL_cools 121 = .ok (.aload_n 0, 1) := by decide +kernel
theorem dL_cools_122 : decode cL_cools 122 = .ok (.bipush 50, 2) := by decide +kernel
theorem dL_cools_124 : decode cL_cools 124 = .ok (.invokevirtual 65, 3) := by decide +kernel
theorem dL_cools_127 : decode cL_cools 127 = .ok (.aload_n 0, 1) := by decide +kernel
theorem dL_cools_128 : decode cL_cools 128 = .ok (.sipush 300, 3) := by decide +kernel
theorem dL_cools_131 : decode cL_cools 131 = .ok (.invokevirtual 65, 3) := by decide +kernel
theorem dL_cools_134 : decode cL_cools 134 = .ok (.invokevirtual 89, 3) := by decide +kernel
theorem dL_cools_137 : decode cL_cools 137 = .ok (.ifCond .ne 14, 3) := by decide +kernel
theorem dL_cools_140 : decode cL_cools 140 = .ok (.aload_n 0, 1) := by decide +kernel
theorem dL_cools_141 : decode cL_cools 141 = .ok (.getfield 10, 3) := by decide +kernel
theorem dL_cools_144 : decode cL_cools 144 = .ok (.iconst 1, 1) := by decide +kernel
theorem dL_cools_145 : decode cL_cools 145 = .ok (.invokevirtual 153, 3) := by decide +kernel
theorem dL_cools_148 : decode cL_cools 148 = .ok (.ifCond .ge 5, 3) := by decide +kernel
theorem dL_cools_151 : decode cL_cools 151 = .ok (.iconst 0, 1) := by decide +kernel
theorem dL_cools_152 : decode cL_cools 152 = .ok (.ireturn, 1) := by decide +kernel
theorem dL_cools_153 : decode cL_cools 153 = .ok (.iconst 0, 1) := by decide +kernel
theorem dL_cools_154 : decode cL_cools 154 = .ok (.istore_n 3, 1) := by decide +kernel
theorem dL_cools_155 : decode cL_cools 155 = .ok (.iload_n 3, 1) := by decide +kernel
theorem dL_cools_156 : decode cL_cools 156 = .ok (.iload_n 1, 1) := by decide +kernel
theorem dL_cools_157 : decode cL_cools 157 = .ok (.if_icmp .ge 25, 3) := by decide +kernel
theorem dL_cools_160 : decode cL_cools 160 = .ok (.aload_n 0, 1) := by decide +kernel
theorem dL_cools_161 : decode cL_cools 161 = .ok (.getfield 10, 3) := by decide +kernel
theorem dL_cools_164 : decode cL_cools 164 = .ok (.iload_n 3, 1) := by decide +kernel
theorem dL_cools_165 : decode cL_cools 165 = .ok (.invokevirtual 168, 3) := by decide +kernel
theorem dL_cools_168 : decode cL_cools 168 = .ok (.aload_n 2, 1) := by decide +kernel
theorem dL_cools_169 : decode cL_cools 169 = .ok (.iload_n 3, 1) := by decide +kernel
theorem dL_cools_170 : decode cL_cools 170 = .ok (.iaload, 1) := by decide +kernel
theorem dL_cools_171 : decode cL_cools 171 = .ok (.if_icmp .le 5, 3) := by decide +kernel
theorem dL_cools_174 : decode cL_cools 174 = .ok (.iconst 0, 1) := by decide +kernel
theorem dL_cools_175 : decode cL_cools 175 = .ok (.ireturn, 1) := by decide +kernel
theorem dL_cools_176 : decode cL_cools 176 = .ok (.iinc 3 1, 3) := by decide +kernel
theorem dL_cools_179 : decode cL_cools 179 = .ok (.goto (-24), 3) := by decide +kernel
theorem dL_cools_182 : decode cL_cools 182 = .ok (.aload_n 0, 1) := by decide +kernel
theorem dL_cools_183 : decode cL_cools 183 = .ok (.getfield 10, 3) := by decide +kernel
theorem dL_cools_186 : decode cL_cools 186 = .ok (.iconst 0, 1) := by decide +kernel
theorem dL_cools_187 : decode cL_cools 187 = .ok (.invokevirtual 193, 3) := by decide +kernel
theorem dL_cools_190 : decode cL_cools 190 = .ok (.ireturn, 1) := by decide +kernel
theorem dL_changes_0 : decode cL_changes 0 = .ok (.aload_n 0, 1) := by decide +kernel
theorem dL_changes_1 : decode cL_changes 1 = .ok (.getfield 10, 3) := by decide +kernel
theorem dL_changes_4 : decode cL_changes 4 = .ok (.invokevirtual 126, 3) := by decide +kernel
theorem dL_changes_7 : decode cL_changes 7 = .ok (.istore_n 1, 1) := by decide +kernel
theorem dL_changes_8 : decode cL_changes 8 = .ok (.aload_n 0, 1) := by decide +kernel
theorem dL_changes_9 : decode cL_changes 9 = .ok (.getfield 10, 3) := by decide +kernel
theorem dL_changes_12 : decode cL_changes 12 = .ok (.invokevirtual 101, 3) := by decide +kernel
theorem dL_changes_15 : decode cL_changes 15 = .ok (.istore_n 2, 1) := by decide +kernel
theorem dL_changes_16 : decode cL_changes 16 = .ok (.aload_n 0, 1) := by decide +kernel
theorem dL_changes_17 : decode cL_changes 17 = .ok (.iload_n 2, 1) := by decide +kernel
theorem dL_changes_18 : decode cL_changes 18 = .ok (.invokevirtual 65, 3) := by decide +kernel
theorem dL_changes_21 : decode cL_changes 21 = .ok (.istore_n 3, 1) := by decide +kernel
theorem dL_changes_22 : decode cL_changes 22 = .ok (.iload_n 1, 1) := by decide +kernel
theorem dL_changes_23 : decode cL_changes 23 = .ok (.ifCond .le 25, 3) := by decide +kernel
theorem dL_changes_26 : decode cL_changes 26 = .ok (.aload_n 0, 1) := by decide +kernel
theorem dL_changes_27 : decode cL_changes 27 = .ok (.getfield 10, 3) := by decide +kernel
theorem dL_changes_30 : decode cL_changes 30 = .ok (.aload_n 0, 1) := by decide +kernel
theorem dL_changes_31 : decode cL_changes 31 = .ok (.iload_n 1, 1) := by decide +kernel
theorem dL_changes_32 : decode cL_changes 32 = .ok (.invokevirtual 65, 3) := by decide +kernel
theorem dL_changes_35 : decode cL_changes 35 = .ok (.aload_n 0, 1) := by decide +kernel
theorem dL_changes_36 : decode cL_changes 36 = .ok (.iconst 3, 1) := by decide +kernel
theorem dL_changes_37 : decode cL_changes 37 = .ok (.invokevirtual 65, 3) := by decide +kernel
theorem dL_changes_40 : decode cL_changes 40 = .ok (.invokevirtual 196, 3) := by decide +kernel
theorem dL_changes_43 : decode cL_changes 43 = .ok (.ifCond .ge 5, 3) := by decide +kernel
theorem dL_changes_46 : decode cL_changes 46 = .ok (.iconst 0, 1) := by decide +kernel
theorem dL_changes_47 : decode cL_changes 47 = .ok (.ireturn, 1) := by decide +kernel
theorem dL_changes_48 : decode cL_changes 48 = .ok (.aload_n 0, 1) := by decide +kernel
theorem dL_changes_49 : decode cL_changes 49 = .ok (.getfield 10, 3) := by decide +kernel
theorem dL_changes_52 : decode cL_changes 52 = .ok (.invokevirtual 123, 3) := by decide +kernel
theorem dL_changes_55 : decode cL_changes 55 = .ok (.ifCond .le 67, 3) := by decide +kernel
theorem dL_changes_58 : decode cL_changes 58 = .ok (.aload_n 0, 1) := by decide +kernel
theorem dL_changes_59 : decode cL_changes 59 = .ok (.new 199, 3) := by decide +kernel
theorem dL_changes_62 : decode cL_changes 62 = .ok (.dup, 1) := by decide +kernel
theorem dL_changes_63 : decode cL_changes 63 = .ok (.invokespecial 201, 3) := by decide +kernel
theorem dL_changes_66 : decode cL_changes 66 = .ok (.ldc 202, 2) := by decide +kernel
theorem dL_changes_68 : decode cL_changes 68 = .ok (.invokevirtual 204, 3) := by decide +kernel
theorem dL_changes_71 : decode cL_changes 71 = .ok (.aload_n 0, 1) := by decide +kernel
theorem dL_changes_72 : decode cL_changes 72 = .ok (.aload_n 0, 1) := by decide +kernel
theorem dL_changes_73 : decode cL_changes 73 = .ok (.getfield 10, 3) := by decide +kernel
theorem dL_changes_76 : decode cL_changes 76 = .ok (.invokevirtual 123, 3) := by decide +kernel
theorem dL_changes_79 : decode cL_changes 79 = .ok (.invokevirtual 65, 3) := by decide +kernel
theorem dL_changes_82 : decode cL_changes 82 = .ok (.invokevirtual 208, 3) := by decide +kernel
theorem dL_changes_85 : decode cL_changes 85 = .ok (.aload_n 0, 1) := by decide +kernel
theorem dL_changes_86 : decode cL_changes 86 = .ok (.iconst 2, 1) := by decide +kernel
theorem dL_changes_87 : decode cL_changes 87 = .ok (.invokevirtual 65, 3) := by decide +kernel
theorem dL_changes_90 : decode cL_changes 90 = .ok (.ifCond .ne 8, 3) := by decide +kernel
theorem dL_changes_93 : decode cL_changes 93 = .ok (.ldc 211, 2) := by decide +kernel
theorem dL_changes_95 : decode cL_changes 95 = .ok (.goto 5, 3) := by decide +kernel
theorem dL_changes_98 : decode cL_changes 98 = .ok (.ldc 213, 2) := by decide +kernel
theorem dL_changes_100 : decode cL_changes 100 = .ok (.invokevirtual 204, 3) := by decide +kernel
theorem dL_changes_103 : decode cL_changes 103 = .ok (.invokevirtual 215, 3) := by decide +kernel
theorem dL_changes_106 : decode cL_changes 106 = .ok (.invokevirtual 219, 3) := by decide +kernel
theorem dL_changes_109 : decode cL_changes 109 = .ok (.aload_n 0, 1) := by decide +kernel
theorem dL_changes_110 : decode cL_changes 110 = .ok (.getfield 10, 3) := by decide +kernel
theorem dL_changes_113 : decode cL_changes 113 = .ok (.invokevirtual 223, 3) := by decide +kernel
theorem dL_changes_116 : decode cL_changes 116 = .ok (.iconst 1, 1) := by decide +kernel
theorem dL_changes_117 : decode cL_changes 117 = .ok (.if_icmp .eq 5, 3) := by decide +kernel
theorem dL_changes_120 : decode cL_changes 120 = .ok (.iconst 0, 1) := by decide +kernel
theorem dL_changes_121 : decode cL_changes 121 = .ok (.ireturn, 1) := by decide +kernel
theorem dL_changes_122 : decode cL_changes 122 = .ok (.aload_n 0, 1) := by decide +kernel
theorem dL_changes_123 : decode cL_changes 123 = .ok (.getfield 10, 3) := by decide +kernel
theorem dL_changes_126 : decode cL_changes 126 = .ok (.iload_n 3, 1) := by decide +kernel
theorem dL_changes_127 : decode cL_changes 127 = .ok (.invokevirtual 168, 3) := by decide +kernel
theorem dL_changes_130 : decode cL_changes 130 = .ok (.istore 4, 2) := by decide +kernel
theorem dL_changes_132 : decode cL_changes 132 = .ok (.ldc 174, 2) := by decide +kernel
theorem dL_changes_134 : decode cL_changes 134 = .ok (.iload 4, 2) := by decide +kernel
theorem dL_changes_136 : decode cL_changes 136 = .ok (.aload_n 0, 1) := by decide +kernel
theorem dL_changes_137 : decode cL_changes 137 = .ok (.sipush 20000, 3) := by decide +kernel
theorem dL_changes_140 : decode cL_changes 140 = .ok (.invokevirtual 65, 3) := by decide +kernel
theorem dL_changes_143 : decode cL_changes 143 = .ok (.isub, 1) := by decide +kernel
theorem dL_changes_144 : decode cL_changes 144 = .ok (.invokestatic 35, 3) := by decide +kernel
theorem dL_changes_147 : decode cL_changes 147 = .ok (.istore 5, 2) := by decide +kernel
theorem dL_changes_149 : decode cL_changes 149 = .ok (.ldc 175, 2) := by decide +kernel
theorem dL_changes_151 : decode cL_changes 151 = .ok (.iload 4, 2) := by decide +kernel
theorem dL_changes_153 : decode cL_changes 153 = .ok (.aload_n 0, 1) := by decide +kernel
theorem dL_changes_154 : decode cL_changes 154 = .ok (.sipush 20000, 3) := by decide +kernel
theorem dL_changes_157 : decode cL_changes 157 = .ok (.invokevirtual 65, 3) := by decide +kernel
theorem dL_changes_160 : decode cL_changes 160 = .ok (.iadd, 1) := by decide +kernel
theorem dL_changes_161 : decode cL_changes 161 = .ok (.invokestatic 159, 3) := by decide +kernel
theorem dL_changes_164 : decode cL_changes 164 = .ok (.istore 6, 2) := by decide +kernel
theorem dL_changes_166 : decode cL_changes 166 = .ok (.aload_n 0, 1) := by decide +kernel
theorem dL_changes_167 : decode cL_changes 167 = .ok (.getfield 10, 3) := by decide +kernel
theorem dL_changes_170 : decode cL_changes 170 = .ok (.iload_n 3, 1) := by decide +kernel
theorem dL_changes_171 : decode cL_changes 171 = .ok (.iload 5, 2) := by decide +kernel
theorem dL_changes_173 : decode cL_changes 173 = .ok (.iload 6, 2) := by decide +kernel
theorem dL_changes_175 : decode cL_changes 175 = .ok (.invokevirtual 226, 3) := by decide +kernel
theorem dL_changes_178 : decode cL_changes 178 = .ok (.ifCond .ne 42, 3) := by decide +kernel
theorem dL_changes_181 : decode cL_changes 181 = .ok (.aload_n 0, 1) := by decide +kernel
theorem dL_changes_182 : decode cL_changes 182 = .ok (.getfield 10, 3) := by decide +kernel
theorem dL_changes_185 : decode cL_changes 185 = .ok (.iload_n 3, 1) := by decide +kernel
theorem dL_changes_186 : decode cL_changes 186 = .ok (.invokevirtual 171, 3) := by decide +kernel
theorem dL_changes_189 : decode cL_changes 189 = .ok (.iload 4, 2) := by decide +kernel
theorem dL_changes_191 : decode cL_changes 191 = .ok (.iload 5, 2) := by decide +kernel
theorem dL_changes_193 : decode cL_changes 193 = .ok (.isub, 1) := by decide +kernel
theorem dL_changes_194 : decode cL_changes 194 = .ok (.iload 6, 2) := by decide +kernel
theorem dL_changes_196 : decode cL_changes 196 = .ok (.iload 4, 2) := by decide +kernel
theorem dL_changes_198 : decode cL_changes 198 = .ok (.isub, 1) := by decide +kernel
theorem dL_changes_199 : decode cL_changes 199 = .ok (.invokestatic 159, 3) := by decide +kernel
theorem dL_changes_202 : decode cL_changes 202 = .ok (.if_icmp .ne 18, 3) := by decide +kernel
theorem dL_changes_205 : decode cL_changes 205 = .ok (.aload_n 0, 1) := by decide +kernel
theorem dL_changes_206 : decode cL_changes 206 = .ok (.getfield 10, 3) := by decide +kernel
theorem dL_changes_209 : decode cL_changes 209 = .ok (.iload_n 3, 1) := by decide +kernel
theorem dL_changes_210 : decode cL_changes 210 = .ok (.invokevirtual 171, 3) := by decide +kernel
theorem dL_changes_213 : decode cL_changes 213 = .ok (.ifCond .lt 7, 3) := by decide +kernel
theorem dL_changes_216 : decode cL_changes 216 = .ok (.iconst 1, 1) := by decide +kernel
theorem dL_changes_217 : decode cL_changes 217 = .ok (.goto 4, 3) := by decide +kernel
theorem dL_changes_220 : decode cL_changes 220 = .ok (.iconst 0, 1) := by decide +kernel
theorem dL_changes_221 : decode cL_changes 221 = .ok (.ireturn, 1) := by decide +kernel
theorem dL_law_0 : decode cL_law 0 = .ok (.new 11, 3) := by decide +kernel
theorem dL_law_3 : decode cL_law 3 = .ok (.dup, 1) := by decide +kernel
theorem dL_law_4 : decode cL_law 4 = .ok (.invokespecial 229, 3) := by decide +kernel
theorem dL_law_7 : decode cL_law 7 = .ok (.aload_n 0, 1) := by decide +kernel
theorem dL_law_8 : decode cL_law 8 = .ok (.invokevirtual 230, 3) := by decide +kernel
theorem dL_law_11 : decode cL_law 11 = .ok (.ireturn, 1) := by decide +kernel
theorem dL_flies_0 : decode cL_flies 0 = .ok (.aload_n 0, 1) := by decide +kernel
theorem dL_flies_1 : decode cL_flies 1 = .ok (.aload_n 1, 1) := by decide +kernel
theorem dL_flies_2 : decode cL_flies 2 = .ok (.putfield 28, 3) := by decide +kernel
theorem dL_flies_5 : decode cL_flies 5 = .ok (.aload_n 0, 1) := by decide +kernel
theorem dL_flies_6 : decode cL_flies 6 = .ok (.invokevirtual 234, 3) := by decide +kernel
theorem dL_flies_9 : decode cL_flies 9 = .ok (.ifCond .ne 5, 3) := by decide +kernel
theorem dL_flies_12 : decode cL_flies 12 = .ok (.iconst 0, 1) := by decide +kernel
theorem dL_flies_13 : decode cL_flies 13 = .ok (.ireturn, 1) := by decide +kernel
theorem dL_flies_14 : decode cL_flies 14 = .ok (.iconst 0, 1) := by decide +kernel
theorem dL_flies_15 : decode cL_flies 15 = .ok (.istore_n 2, 1) := by decide +kernel
theorem dL_flies_16 : decode cL_flies 16 = .ok (.iload_n 2, 1) := by decide +kernel
theorem dL_flies_17 : decode cL_flies 17 = .ok (.bipush 10, 2) := by decide +kernel
theorem dL_flies_19 : decode cL_flies 19 = .ok (.if_icmp .ge 265, 3) := by decide +kernel
theorem dL_flies_22 : decode cL_flies 22 = .ok (.aload_n 0, 1) := by decide +kernel
theorem dL_flies_23 : decode cL_flies 23 = .ok (.invokevirtual 238, 3) := by decide +kernel
theorem dL_flies_26 : decode cL_flies 26 = .ok (.ifCond .ne 5, 3) := by decide +kernel
theorem dL_flies_29 : decode cL_flies 29 = .ok (.iconst 0, 1) := by decide +kernel
theorem dL_flies_30 : decode cL_flies 30 = .ok (.ireturn, 1) := by decide +kernel
theorem dL_flies_31 : decode cL_flies 31 = .ok (.aload_n 0, 1) := by decide +kernel
theorem dL_flies_32 : decode cL_flies 32 = .ok (.ldc 241, 2) := by decide +kernel
theorem dL_flies_34 : decode cL_flies 34 = .ok (.invokevirtual 219, 3) := by decide +kernel
theorem dL_flies_37 : decode cL_flies 37 = .ok (.aload_n 0, 1) := by decide +kernel
theorem dL_flies_38 : decode cL_flies 38 = .ok (.getfield 10, 3) := by decide +kernel
theorem dL_flies_41 : decode cL_flies 41 = .ok (.invokevirtual 223, 3) := by decide +kernel
theorem dL_flies_44 : decode cL_flies 44 = .ok (.ifCond .eq 5, 3) := by decide +kernel
theorem dL_flies_47 : decode cL_flies 47 = .ok (.iconst 0, 1) := by decide +kernel
theorem dL_flies_48 : decode cL_flies 48 = .ok (.ireturn, 1) := by decide +kernel
theorem dL_flies_49 : decode cL_flies 49 = .ok (.aload_n 0, 1) := by decide +kernel
theorem dL_flies_50 : decode cL_flies 50 = .ok (.bipush 12, 2) := by decide +kernel
theorem dL_flies_52 : decode cL_flies 52 = .ok (.invokevirtual 65, 3) := by decide +kernel
theorem dL_flies_55 : decode cL_flies 55 = .ok (.istore_n 3, 1) := by decide +kernel
theorem dL_flies_56 : decode cL_flies 56 = .ok (.iload_n 3, 1) := by decide +kernel
theorem dL_flies_57 : decode cL_flies 57 = .ok (.ifCond .lt 32, 3) := by decide +kernel
theorem dL_flies_60 : decode cL_flies 60 = .ok (.aload_n 0, 1) := by decide +kernel
theorem dL_flies_61 : decode cL_flies 61 = .ok (.invokevirtual 243, 3) := by decide +kernel
theorem dL_flies_64 : decode cL_flies 64 = .ok (.ifCond .eq 17, 3) := by decide +kernel
theorem dL_flies_67 : decode cL_flies 67 = .ok (.aload_n 0, 1) := by decide +kernel
theorem dL_flies_68 : decode cL_flies 68 = .ok (.invokevirtual 246, 3) := by decide +kernel
theorem dL_flies_71 : decode cL_flies 71 = .ok (.ifCond .eq 10, 3) := by decide +kernel
theorem dL_flies_74 : decode cL_flies 74 = .ok (.aload_n 0, 1) := by decide +kernel
theorem dL_flies_75 : decode cL_flies 75 = .ok (.invokevirtual 238, 3) := by decide +kernel
theorem dL_flies_78 : decode cL_flies 78 = .ok (.ifCond .ne 5, 3) := by decide +kernel
theorem dL_flies_81 : decode cL_flies 81 = .ok (.iconst 0, 1) := by decide +kernel
theorem dL_flies_82 : decode cL_flies 82 = .ok (.ireturn, 1) := by decide +kernel
theorem dL_flies_83 : decode cL_flies 83 = .ok (.iinc 3 (-1), 3) := by decide +kernel
theorem dL_flies_86 : decode cL_flies 86 = .ok (.goto (-30), 3) := by decide +kernel
theorem dL_flies_89 : decode cL_flies 89 = .ok (.aload_n 0, 1) := by decide +kernel
theorem dL_flies_90 : decode cL_flies 90 = .ok (.invokevirtual 249, 3) := by decide +kernel
theorem dL_flies_93 : decode cL_flies 93 = .ok (.ifCond .eq 41, 3) := by decide +kernel
theorem dL_flies_96 : decode cL_flies 96 = .ok (.aload_n 0, 1) := by decide +kernel
theorem dL_flies_97 : decode cL_flies 97 = .ok (.getfield 10, 3) := by decide +kernel
theorem dL_flies_100 : decode cL_flies 100 = .ok (.iconst 1, 1) := by decide +kernel
theorem dL_flies_101 : decode cL_flies 101 = .ok (.aload_n 0, 1) := by decide +kernel
theorem dL_flies_102 : decode cL_flies 102 = .ok (.iconst 5, 1) := by decide +kernel
theorem dL_flies_103 : decode cL_flies 103 = .ok (.invokevirtual 65, 3) := by decide +kernel
theorem dL_flies_106 : decode cL_flies 106 = .ok (.iadd, 1) := by decide +kernel
theorem dL_flies_107 : decode cL_flies 107 = .ok (.invokevirtual 153, 3) := by decide +kernel
theorem dL_flies_110 : decode cL_flies 110 = .ok (.ifCond .lt 24, 3) := by decide +kernel
theorem dL_flies_113 : decode cL_flies 113 = .ok (.aload_n 0, 1) := by decide +kernel
theorem dL_flies_114 : decode cL_flies 114 = .ok (.invokevirtual 252, 3) := by decide +kernel
theorem dL_flies_117 : decode cL_flies 117 = .ok (.ifCond .eq 17, 3) := by decide +kernel
theorem dL_flies_120 : decode cL_flies 120 = .ok (.aload_n 0, 1) := by decide +kernel
theorem dL_flies_121 : decode cL_flies 121 = .ok (.invokevirtual 255, 3) := by decide +kernel
theorem dL_flies_124 : decode cL_flies 124 = .ok (.ifCond .eq 10, 3) := by decide +kernel
theorem dL_flies_127 : decode cL_flies 127 = .ok (.aload_n 0, 1) := by decide +kernel
theorem dL_flies_128 : decode cL_flies 128 = .ok (.invokevirtual 258, 3) := by decide +kernel
theorem dL_flies_131 : decode cL_flies 131 = .ok (.ifCond .ne 5, 3) := by decide +kernel
theorem dL_flies_134 : decode cL_flies 134 = .ok (.iconst 0, 1) := by decide +kernel
theorem dL_flies_135 : decode cL_flies 135 = .ok (.ireturn, 1) := by decide +kernel
theorem dL_flies_136 : decode cL_flies 136 = .ok (.aload_n 0, 1) := by decide +kernel
theorem dL_flies_137 : decode cL_flies 137 = .ok (.iconst 4, 1) := by decide +kernel
theorem dL_flies_138 : decode cL_flies 138 = .ok (.invokevirtual 65, 3) := by decide +kernel
theorem dL_flies_141 : decode cL_flies 141 = .ok (.ifCond .le 6, 3) := by decide +kernel
theorem dL_flies_144 : decode cL_flies 144 = .ok (.goto 134, 3) := by decide +kernel
theorem dL_flies_147 : decode cL_flies 147 = .ok (.aload_n 0, 1) := by decide +kernel
theorem dL_flies_148 : decode cL_flies 148 = .ok (.getfield 10, 3) := by decide +kernel
theorem dL_flies_151 : decode cL_flies 151 = .ok (.invokevirtual 135, 3) := by decide +kernel
theorem dL_flies_154 : decode cL_flies 154 = .ok (.istore_n 3, 1) := by decide +kernel
theorem dL_flies_155 : decode cL_flies 155 = .ok (.aload_n 0, 1) := by decide +kernel
theorem dL_flies_156 : decode cL_flies 156 = .ok (.getfield 10, 3) := by decide +kernel
theorem dL_flies_159 : decode cL_flies 159 = .ok (.invokevirtual 261, 3) := by decide +kernel
theorem dL_flies_162 : decode cL_flies 162 = .ok (.iload_n 3, 1) := by decide +kernel
theorem dL_flies_163 : decode cL_flies 163 = .ok (.if_icmp .ne 36, 3) := by decide +kernel
theorem dL_flies_166 : decode cL_flies 166 = .ok (.aload_n 0, 1) := by decide +kernel
theorem dL_flies_167 : decode cL_flies 167 = .ok (.getfield 10, 3) := by decide +kernel
theorem dL_flies_170 : decode cL_flies 170 = .ok (.invokevirtual 135, 3) := by decide +kernel
theorem dL_flies_173 : decode cL_flies 173 = .ok (.ifCond .ne 26, 3) := by decide +kernel
theorem dL_flies_176 : decode cL_flies 176 = .ok (.aload_n 0, 1) := by decide +kernel
theorem dL_flies_177 : decode cL_flies 177 = .ok (.getfield 10, 3) := by decide +kernel
theorem dL_flies_180 : decode cL_flies 180 = .ok (.invokevirtual 132, 3) := by decide +kernel
theorem dL_flies_183 : decode cL_flies 183 = .ok (.ifCond .ne 16, 3) := by decide +kernel
theorem dL_flies_186 : decode cL_flies 186 = .ok (.aload_n 0, 1) := by decide +kernel
theorem dL_flies_187 : decode cL_flies 187 = .ok (.getfield 10, 3) := by decide +kernel
theorem dL_flies_190 : decode cL_flies 190 = .ok (.iconst 0, 1) := by decide +kernel
theorem dL_flies_191 : decode cL_flies 191 = .ok (.invokevirtual 138, 3) := by decide +kernel
theorem dL_flies_194 : decode cL_flies 194 = .ok (.lconst 0, 1) := by decide +kernel
theorem dL_flies_195 : decode cL_flies 195 = .ok (.lcmp, 1) := by decide +kernel
theorem dL_flies_196 : decode cL_flies 196 = .ok (.ifCond .eq 5, 3) := by decide +kernel
theorem dL_flies_199 : decode cL_flies 199 = .ok (.iconst 0, 1) := by decide +kernel
theorem dL_flies_200 : decode cL_flies 200 = .ok (.ireturn, 1) := by decide +kernel
theorem dL_flies_201 : decode cL_flies 201 = .ok (.iconst 0, 1) := by decide +kernel
theorem dL_flies_202 : decode cL_flies 202 = .ok (.istore 4, 2) := by decide +kernel
theorem dL_flies_204 : decode cL_flies 204 = .ok (.iload 4, 2) := by decide +kernel
theorem dL_flies_206 : decode cL_flies 206 = .ok (.aload_n 0, 1) := by decide +kernel
theorem dL_flies_207 : decode cL_flies 207 = .ok (.getfield 10, 3) := by decide +kernel
theorem dL_flies_210 : decode cL_flies 210 = .ok (.invokevirtual 101, 3) := by decide +kernel
theorem dL_flies_213 : decode cL_flies 213 = .ok (.if_icmp .ge 65, 3) := by decide +kernel
theorem dL_flies_216 : decode cL_flies 216 = .ok (.aload_n 0, 1) := by decide +kernel
theorem dL_flies_217 : decode cL_flies 217 = .ok (.getfield 10, 3) := by decide +kernel
theorem dL_flies_220 : decode cL_flies 220 = .ok (.iload 4, 2) := by decide +kernel
theorem dL_flies_222 : decode cL_flies 222 = .ok (.invokevirtual 147, 3) := by decide +kernel
theorem dL_flies_225 : decode cL_flies 225 = .ok (.aload_n 0, 1) := by decide +kernel
theorem dL_flies_226 : decode cL_flies 226 = .ok (.getfield 10, 3) := by decide +kernel
theorem dL_flies_229 : decode cL_flies 229 = .ok (.iload 4, 2) := by decide +kernel
theorem dL_flies_231 : decode cL_flies 231 = .ok (.invokevirtual 168, 3) := by decide +kernel
theorem dL_flies_234 : decode cL_flies 234 = .ok (.if_icmp .ne 36, 3) := by decide +kernel
theorem dL_flies_237 : decode cL_flies 237 = .ok (.aload_n 0, 1) := by decide +kernel
theorem dL_flies_238 : decode cL_flies 238 = .ok (.getfield 10, 3) := by decide +kernel
theorem dL_flies_241 : decode cL_flies 241 = .ok (.iload 4, 2) := by decide +kernel
theorem dL_flies_243 : decode cL_flies 243 = .ok (.invokevirtual 150, 3) := by decide +kernel
theorem dL_flies_246 : decode cL_flies 246 = .ok (.aload_n 0, 1) := by decide +kernel
theorem dL_flies_247 : decode cL_flies 247 = .ok (.getfield 10, 3) := by decide +kernel
theorem dL_flies_250 : decode cL_flies 250 = .ok (.iload 4, 2) := by decide +kernel
theorem dL_flies_252 : decode cL_flies 252 = .ok (.invokevirtual 168, 3) := by decide +kernel
theorem dL_flies_255 : decode cL_flies 255 = .ok (.if_icmp .ne 15, 3) := by decide +kernel
theorem dL_flies_258 : decode cL_flies 258 = .ok (.aload_n 0, 1) := by decide +kernel
theorem dL_flies_259 : decode cL_flies 259 = .ok (.getfield 10, 3) := by decide +kernel
theorem dL_flies_262 : decode cL_flies 262 = .ok (.iload 4, 2) := by decide +kernel
theorem dL_flies_264 : decode cL_flies 264 = .ok (.invokevirtual 176, 3) := by decide +kernel
theorem dL_flies_267 : decode cL_flies 267 = .ok (.ifCond .eq 5, 3) := by decide +kernel
theorem dL_flies_270 : decode cL_flies 270 = .ok (.iconst 0, 1) := by decide +kernel
theorem dL_flies_271 : decode cL_flies 271 = .ok (.ireturn, 1) := by decide +kernel
theorem dL_flies_272 : decode cL_flies 272 = .ok (.iinc 4 1, 3) := by decide +kernel
theorem dL_flies_275 : decode cL_flies 275 = .ok (.goto (-71), 3) := by decide +kernel
theorem dL_flies_278 : decode cL_flies 278 = .ok (.iinc 2 1, 3) := by decide +kernel
theorem dL_flies_281 : decode cL_flies 281 = .ok (.goto (-265), 3) := by decide +kernel
theorem dL_flies_284 : decode cL_flies 284 = .ok (.iconst 1, 1) := by decide +kernel
theorem dL_flies_285 : decode cL_flies 285 = .ok (.ireturn, 1) := by decide +kernel
end
section
/-! CORE: a judgement over a pure picture of the memory; the world is the cells from base on, laid by number -/
abbrev Cx : Type := Launch × va_G × (Nat → ClassId) × Nat × (Nat → Nat) × (Nat → Nat) × (Nat × Nat × (Nat → Int32) × Bool)
def gL (G : Cx) : Launch := G.1
def gD (G : Cx) : va_G := G.2.1
def gY (G : Cx) : Nat → ClassId := G.2.2.1
def gB (G : Cx) : Nat := G.2.2.2.1
def gK (G : Cx) : Nat → Nat := G.2.2.2.2.1
def gV (G : Cx) : Nat → Nat := G.2.2.2.2.2.1
def gSa (G : Cx) : Nat := G.2.2.2.2.2.2.1
def gSl (G : Cx) : Nat := G.2.2.2.2.2.2.2.1
def gSx (G : Cx) : Nat → Int32 := G.2.2.2.2.2.2.2.2.1
/-- still being made: the heap ends where the picture ends -/
def gM (G : Cx) : Bool := G.2.2.2.2.2.2.2.2.2
/-- memory: cells made; which reference slots are set; int fields (field, cell); long fields; ints of arrays (cell, place); longs of arrays -/
abbrev Mm : Type := Nat × (Nat → Nat → Bool) × (Nat → Nat → Int32) × (Nat → Nat → Int64) × (Nat → Nat → Int32) × (Nat → Nat → Int64)
def mN (m : Mm) : Nat := m.1
def mI (m : Mm) : Nat → Nat → Bool := m.2.1
def fi (m : Mm) : Nat → Nat → Int32 := m.2.2.1
def fl (m : Mm) : Nat → Nat → Int64 := m.2.2.2.1
def ai (m : Mm) : Nat → Nat → Int32 := m.2.2.2.2.1
def al (m : Mm) : Nat → Nat → Int64 := m.2.2.2.2.2
def up2 {α : Type} (f : Nat → Nat → α) (a k : Nat) (x : α) : Nat → Nat → α := fun b j => if b = a ∧ j = k then x else f b j
def wN (m : Mm) (n : Nat) : Mm := (n, m.2.1, m.2.2.1, m.2.2.2.1, m.2.2.2.2.1, m.2.2.2.2.2)
def wI (m : Mm) (f a : Nat) : Mm := (m.1, up2 m.2.1 f a true, m.2.2.1, m.2.2.2.1, m.2.2.2.2.1, m.2.2.2.2.2)
def wfi (m : Mm) (f a : Nat) (x : Int32) : Mm := (m.1, m.2.1, up2 m.2.2.1 f a x, m.2.2.2.1, m.2.2.2.2.1, m.2.2.2.2.2)
def wfl (m : Mm) (f a : Nat) (x : Int64) : Mm := (m.1, m.2.1, m.2.2.1, up2 m.2.2.2.1 f a x, m.2.2.2.2.1, m.2.2.2.2.2)
def wai (m : Mm) (a k : Nat) (x : Int32) : Mm := (m.1, m.2.1, m.2.2.1, m.2.2.2.1, up2 m.2.2.2.2.1 a k x, m.2.2.2.2.2)
def wal (m : Mm) (a k : Nat) (x : Int64) : Mm := (m.1, m.2.1, m.2.2.1, m.2.2.2.1, m.2.2.2.2.1, up2 m.2.2.2.2.2 a k x)
/-- a whole array of ints anew -/
def waf (m : Mm) (a : Nat) (f : Nat → Int32) : Mm := (m.1, m.2.1, m.2.2.1, m.2.2.2.1, (fun b j => if b = a then f j else m.2.2.2.2.1 b j), m.2.2.2.2.2)
-- the layout
def kC (j : Nat) : Nat := if j = 0 then 0 else if j = 1 then 24 else if j = 2 then 25 else if j = 3 then 26 else if j = 4 then 27 else if j = 5 then 21 else if j = 6 then 5 else if j = 7 then 9 else if j = 8 then 6 else if j = 9 then 21 else if j = 10 then 8 else if j < 18 then 21 else if j = 18 then 22 else if j < 31 then 4 else if j < 55 then 2 else if j < 61 then 3 else 1
def kd (j : Nat) : Nat := if j = 0 then 10 else if j < 70 then kC (j - 1) else if j < 139 then kC (j - 70) else if j = 139 then 28 else if j < 209 then kC (j - 140) else if j < 278 then kC (j - 209) else if j = 278 then 23 else if j = 279 then 7 else if j = 280 then 20 else if j = 281 then 8 else if j < 289 then 21 else if j = 289 then 22 else if j < 293 then 21 else if j = 293 then 11 else if j < 297 then 21 else if j < 300 then 22 else if j = 300 then 23 else if j = 301 then 22 else if j = 302 then 21 else if j = 303 then 22 else 21
def lnC (j : Nat) : Nat := if j = 1 then 12 else if j = 2 then 24 else if j = 3 then 6 else if j = 4 then 8 else if j = 5 then 8 else if j = 9 then 12 else if j = 11 then 500 else if j = 12 then 500 else if j = 18 then 64 else 12
def ln (j : Nat) : Nat := if j < 70 then lnC (j - 1) else if j < 139 then lnC (j - 70) else if j = 139 then 2 else if j < 209 then lnC (j - 140) else if j < 278 then lnC (j - 209) else if j = 278 then 2 else if j = 280 then 500 else if j = 282 then 500 else if j = 283 then 500 else if j < 289 then 12 else if j = 289 then 64 else if j < 293 then 501 else if j < 296 then 1486 else if j = 296 then 2972 else if j = 297 then 3 else if j = 298 then 3 else if j = 299 then 6 else if j = 300 then 2 else if j = 301 then 12 else if j = 302 then 12 else if j = 303 then 300 else if j = 304 then 500 else if j = 305 then 72 else if j = 306 then 1000 else 500
/-- where the reference slot id of the cell j points to -/
def rfo (id j : Nat) : Nat :=
  if id < 5 then j + 1 + id
  else if id = 9 then j + 6 else if id = 10 then j + 7 else if id = 11 then j + 8 else if id = 12 then j + 10
  else if id = 600 then j + 1
  else if id = 700 then j + 1 else if id = 704 then j + 2 else if id = 705 then j + 11 else if id = 706 then j + 12 else if id = 707 then j + 13
  else if id = 809 then j + 8 else if id < 809 then j + 1 + (id - 800)
  else if id = 1000 then j + 1 else if id = 1001 then j + 70 else if id = 1002 then j + 139 else if id = 1003 then j + 278 else if id = 1004 then j + 279
  else if id < 1111 then j + 1 + (id - 1100) else if id = 1121 then j + 12 else if id = 1122 then j + 13 else if id = 1125 then j + 14
  else if kd j = 24 then j + 18 + (id - 100000) else if kd j = 25 then j + 29 + (id - 100000) else if kd j = 26 then j + 52 + (id - 100000) else if kd j = 27 then j + 57 + (id - 100000)
  else j + 1 + 69 * (id - 100000)
def rr (G : Cx) (id a : Nat) : Nat := gB G + rfo id (a - gB G)
/-- field types: 0 int, 1 long, 2 reference, 3 boolean -/
def fty (ci : Nat) : List Nat := match ci with
  | 0 => [2, 2, 2, 2, 2, 0, 0, 0, 0, 2, 2, 2, 2, 0, 0]
  | 1 => [0, 0, 0, 0, 0, 0, 3, 0]
  | 2 => [0, 0, 0]
  | 3 => [0, 0, 0, 0, 0, 0, 3]
  | 4 => [0, 0, 0, 0, 0, 0, 0, 0, 0, 0, 0, 1, 1, 1, 1, 1, 0]
  | 5 => [0, 0, 0, 0, 0, 0]
  | 6 => [2, 0, 0, 1, 1, 1]
  | 7 => [2, 0, 0, 0, 2, 2, 2, 2, 0, 0, 0, 0, 0, 0]
  | 8 => [2, 2, 2, 2, 2, 2, 2, 0, 0, 2]
  | 9 => [0, 0, 0, 0]
  | 10 => [2, 2, 2, 2, 2]
  | _ => []
abbrev classes : List vw_C := [(RX0, TX0, 15), (RX1, TX1, 8), (RX2, TX2, 3), (RX3, TX3, 7), (RX4, TX4, 17), (RX5, TX5, 6), (RX6, TX6, 6), (RX7, TX7, 14), (RX8, TX8, 10), (RX9, TX9, 4), (RX10, TX10, 5), (RL, TL, 6), (RJ4, TJ4, 4), (RJ0, TJ0, 4)]
def gT (G : Cx) : List (ClassId × FieldType) := [(gY G 20, .byte), (gY G 21, .int), (gY G 22, .long), (gY G 23, .boolean), (gY G 24, .object RX4), (gY G 25, .object RX2), (gY G 26, .object RX3), (gY G 27, .object RX1), (gY G 28, .object RX0)]
def fval (G : Cx) (m : Mm) (ty id a : Nat) : Value := if ty = 1 then .long (fl m id a) else if ty = 2 then (if mI m id a = true then .ref (rr G id a) else .null) else .int (fi m id a)
def flds (G : Cx) (m : Mm) (ci a : Nat) : List Value := (List.range (fty ci).length).map (fun k => fval G m ((fty ci).getD k 0) (100 * ci + k) a)
def elq (G : Cx) (m : Mm) (a : Nat) : Nat → Option Nat := fun k => if mI m (100000 + k) a = true then some (rr G (100000 + k) a) else none
def cel (G : Cx) (m : Mm) (j : Nat) : va_E :=
  if kd j < 20 then .inr (kd j, flds G m (kd j) (gB G + j))
  else if kd j = 22 then .inl (gY G 22, ln j, .inr (.inl (al m (gB G + j))))
  else if kd j < 24 then .inl (gY G (kd j), ln j, .inl (ai m (gB G + j)))
  else .inl (gY G (kd j), ln j, .inr (.inr (.inr (.inr (elq G m (gB G + j))))))
def wld (G : Cx) (m : Mm) : va_W := (List.range (mN m)).map (fun j => (gB G + j, cel G m j))
def Rep (G : Cx) (m : Mm) (H : Heap) : Prop := va_P (gD G) classes (wld G m) H ∧ (gM G = true → H.size = gB G + mN m) ∧ (gM G = false → mN m = 293 ∧ gB G + 293 ≤ H.size)
abbrev ab (G : Cx) : Nat → Prop := fun q => gB G ≤ q
abbrev fr (G : Cx) : Nat → Prop := fun q => gB G ≤ q ∧ (gM G = true ∨ q < gB G + 293)
theorem fr_lt {G : Cx} {a : Nat} (h : a < gB G) : ¬ fr G a := fun q => Nat.not_le.mpr h q.1
theorem Rep.fr {G : Cx} {m : Mm} {H : Heap} {j : Nat} (h : Rep G m H) (hj : j < mN m) : fr G (gB G + j) := by
  refine ⟨Nat.le_add_right _ _, ?_⟩
  cases hM : gM G with
  | true => exact Or.inl rfl
  | false =>
    have := (h.2.2 hM).1
    exact Or.inr (by omega)
theorem wld_at {G : Cx} {m : Mm} {j : Nat} (h : j < mN m) : (wld G m)[j]? = some (gB G + j, cel G m j) := by
  simp [wld, h]
theorem wld_D (G : Cx) (m : Mm) : va_D (ab G) (wld G m) := by
  have key : ∀ (i : Nat) (p : Nat × va_E), (wld G m)[i]? = some p → p.1 = gB G + i := by
    intro i p h
    have hi : i < mN m := by
      have := (List.getElem?_eq_some_iff.mp h).1
      simpa [wld] using this
    rw [wld_at hi] at h
    cases h
    rfl
  refine ⟨fun i j p q hp hq e => ?_, fun k q hk => ?_⟩
  · have h1 := key i p hp
    have h2 := key j q hq
    omega
  · show gB G ≤ q.1
    rw [key k q hk]
    exact Nat.le_add_right _ _
/-- a cell of the world written: the world of the new memory -/
theorem wld_set {G : Cx} {m m' : Mm} {j : Nat} {e : va_E} (hn : mN m' = mN m) (hj : cel G m' j = e) (ho : ∀ i, i ≠ j → i < mN m → cel G m' i = cel G m i) : (wld G m).set j (gB G + j, e) = wld G m' := by
  apply List.ext_getElem?
  intro i
  by_cases hi : i < mN m
  · rw [wld_at (m := m') (by rw [hn]; exact hi)]
    by_cases hij : i = j
    · subst hij
      rw [List.getElem?_set_self (by simpa [wld] using hi), hj]
    · rw [List.getElem?_set_ne (Ne.symm hij), wld_at hi, ho i hij hi]
  · have h1 : (wld G m').length ≤ i := by simp [wld, hn]; omega
    have h2 : ((wld G m).set j (gB G + j, e)).length ≤ i := by simp [wld]; omega
    rw [List.getElem?_eq_none h1, List.getElem?_eq_none h2]
theorem flds_at {G : Cx} {m : Mm} {ci a k t : Nat} (h : (fty ci)[k]? = some t) : (flds G m ci a)[k]? = some (fval G m t (100 * ci + k) a) := by
  have hk : k < (fty ci).length := (List.getElem?_eq_some_iff.mp h).1
  unfold flds
  rw [List.getElem?_map, List.getElem?_range hk, Option.map_some, List.getD_eq_getElem?_getD, h]
  rfl
theorem flds_len {G : Cx} {m : Mm} {ci a : Nat} : (flds G m ci a).length = (fty ci).length := by simp [flds]
theorem flds_set {G : Cx} {m m' : Mm} {ci a k t : Nat} {v : Value} (h : (fty ci)[k]? = some t) (hv : fval G m' t (100 * ci + k) a = v) (ho : ∀ i t', i ≠ k → (fty ci)[i]? = some t' → fval G m' t' (100 * ci + i) a = fval G m t' (100 * ci + i) a) : (flds G m ci a).set k v = flds G m' ci a := by
  have hk : k < (fty ci).length := (List.getElem?_eq_some_iff.mp h).1
  apply List.ext_getElem?
  intro i
  by_cases hi : i < (fty ci).length
  · have e1 : (fty ci)[i]? = some (fty ci)[i] := List.getElem?_eq_getElem hi
    rw [flds_at e1]
    by_cases hik : i = k
    · subst hik
      rw [List.getElem?_set_self (by rw [flds_len]; exact hk)]
      rw [h] at e1
      rw [← Option.some.inj e1, hv]
    · rw [List.getElem?_set_ne (Ne.symm hik), flds_at e1, ho i _ hik e1]
  · rw [List.getElem?_eq_none (by rw [List.length_set, flds_len]; omega), List.getElem?_eq_none (by rw [flds_len]; omega)]
/-- the cell a is there, of kind q -/
def isK (G : Cx) (m : Mm) (a q : Nat) : Prop := ∃ j, a = gB G + j ∧ j < mN m ∧ kd j = q
theorem cel_obj {G : Cx} {m : Mm} {j ci : Nat} (h : kd j = ci) (hc : ci < 20) : cel G m j = .inr (ci, flds G m ci (gB G + j)) := by
  subst h
  simp [cel, hc]
theorem cel_int {G : Cx} {m : Mm} {j : Nat} {q : Nat} (h : kd j = q) (hq : q = 20 ∨ q = 21 ∨ q = 23) : cel G m j = .inl (gY G q, ln j, .inl (ai m (gB G + j))) := by
  rcases hq with hq | hq | hq <;> subst hq <;> simp [cel, h]
theorem cel_long {G : Cx} {m : Mm} {j : Nat} (h : kd j = 22) : cel G m j = .inl (gY G 22, ln j, .inr (.inl (al m (gB G + j)))) := by
  simp [cel, h]
theorem cel_ref {G : Cx} {m : Mm} {j : Nat} {q : Nat} (h : kd j = q) (hq : 24 ≤ q) : cel G m j = .inl (gY G q, ln j, .inr (.inr (.inr (.inr (elq G m (gB G + j)))))) := by
  subst h
  have h1 : ¬ kd j < 20 := by omega
  have h2 : ¬ kd j = 22 := by omega
  have h3 : ¬ kd j < 24 := by omega
  simp [cel, h1, h2, h3]
theorem cel_wfi {G : Cx} {m : Mm} {f a i : Nat} {x : Int32} (h : gB G + i ≠ a) : cel G (wfi m f a x) i = cel G m i := by
  have e : ∀ id, fi (wfi m f a x) id (gB G + i) = fi m id (gB G + i) := fun id => if_neg (fun q => h q.2 : ¬ (id = f ∧ gB G + i = a))
  have e2 : flds G (wfi m f a x) (kd i) (gB G + i) = flds G m (kd i) (gB G + i) := by
    unfold flds
    congr 1
    funext k
    unfold fval
    rw [e]
    rfl
  unfold cel
  rw [e2]
  rfl
theorem cel_wfl {G : Cx} {m : Mm} {f a i : Nat} {x : Int64} (h : gB G + i ≠ a) : cel G (wfl m f a x) i = cel G m i := by
  have e : ∀ id, fl (wfl m f a x) id (gB G + i) = fl m id (gB G + i) := fun id => if_neg (fun q => h q.2 : ¬ (id = f ∧ gB G + i = a))
  have e2 : flds G (wfl m f a x) (kd i) (gB G + i) = flds G m (kd i) (gB G + i) := by
    unfold flds
    congr 1
    funext k
    unfold fval
    rw [e]
    rfl
  unfold cel
  rw [e2]
  rfl
theorem cel_wI {G : Cx} {m : Mm} {f a i : Nat} (h : gB G + i ≠ a) : cel G (wI m f a) i = cel G m i := by
  have e : ∀ id, mI (wI m f a) id (gB G + i) = mI m id (gB G + i) := fun id => if_neg (fun q => h q.2 : ¬ (id = f ∧ gB G + i = a))
  have e1 : elq G (wI m f a) (gB G + i) = elq G m (gB G + i) := by
    funext k
    unfold elq
    rw [e]
  have e2 : flds G (wI m f a) (kd i) (gB G + i) = flds G m (kd i) (gB G + i) := by
    unfold flds
    congr 1
    funext k
    unfold fval
    rw [e]
    rfl
  unfold cel
  rw [e1, e2]
  rfl
theorem cel_wai {G : Cx} {m : Mm} {a k i : Nat} {x : Int32} (h : gB G + i ≠ a) : cel G (wai m a k x) i = cel G m i := by
  have e : ai (wai m a k x) (gB G + i) = ai m (gB G + i) := by
    funext j
    simp only [wai, ai, up2, h, false_and, if_false]
  simp only [cel, e]
  rfl
theorem cel_waf {G : Cx} {m : Mm} {a i : Nat} {f : Nat → Int32} (h : gB G + i ≠ a) : cel G (waf m a f) i = cel G m i := by
  have e : ai (waf m a f) (gB G + i) = ai m (gB G + i) := by
    funext j
    simp only [waf, ai, h, if_false]
  simp only [cel, e]
  rfl
theorem cel_wal {G : Cx} {m : Mm} {a k i : Nat} {x : Int64} (h : gB G + i ≠ a) : cel G (wal m a k x) i = cel G m i := by
  have e : al (wal m a k x) (gB G + i) = al m (gB G + i) := by
    funext j
    simp only [wal, al, up2, h, false_and, if_false]
  simp only [cel, e]
  rfl
end
section
/-! STRINGS of the claim: a constant is its place i < 6 -/
abbrev nJS : Nat := 6
def bytJS : List (List Int32) := [[60, 62, 61, 43, 45, 42, 47, 40, 41, 58, 59], [119, 104, 101, 110, 32, 111, 114, 32, 97, 110, 100, 32, 110, 111, 116, 32, 116, 101, 109, 112, 32, 111, 112, 101, 110, 32, 115, 116, 97, 116, 101, 32, 115, 117, 110, 32, 112, 104, 97, 115, 101, 32, 99, 104, 97, 114, 103, 101, 32, 117, 115, 101, 100, 32, 104, 101, 97, 116, 101, 114, 32, 108, 111, 117, 118, 114, 101, 32, 108, 111, 97, 100, 32, 111, 110, 32, 111, 102, 102, 32, 97, 117, 116, 111, 32, 104, 111, 108, 100, 32, 102, 114, 101, 101, 32], [108, 111, 117, 118, 114, 101, 32], [32, 104, 111, 108, 100, 59], [32, 102, 114, 101, 101, 59], []]
def lenJS : List Nat := [11, 95, 7, 6, 6, 0]
def refJS : List (String × Nat × String) := [(RX7, 107, "<>=+-*/():;"), (RX7, 114, "when or and not temp open state sun phase charge used heater louvre load on off auto hold free "), (RL, 202, "louvre "), (RL, 211, " hold;"), (RL, 213, " free;"), (RL, 241, "")]
theorem lenJS_ok : ∀ i, i < nJS → lenJS.getD i 0 = (bytJS.getD i []).length ∧ (bytJS.getD i []).length < 2 ^ 31 := by decide +kernel
/-! THE JUDGEMENT -/
abbrev MI : Type := MethodName × ByteArray × Nat × Option FieldType
def tbG : List Cond := lw_tbl.filter goodWord
def isNest : Cond → Bool
  | .methodLinkNest .. => true
  | .privateMethod .. => true
  | _ => false
theorem tbG_mem {w : Cond} (h : w ∈ lw_tbl) (hg : goodWord w = true) : w ∈ tbG := List.mem_filter.mpr ⟨h, hg⟩
theorem tbG_ok : GoodIn tbG tbG := fun w h => ⟨h, good_of_word (List.mem_filter.mp h).2⟩
/-- what holds of the launch's tables and of the cells below base -/
def EnvOK (G : Cx) (s : State) : Prop :=
  va_K (gD G) classes (gT G) s ∧ vk_S nJS lenJS bytJS (gK G) (gV G) (ab G) s s.heap ∧ (∀ i, i < nJS → vk_R (refJS.getD i ("", 0, "")).1 (refJS.getD i ("", 0, "")).2.1 (refJS.getD i ("", 0, "")).2.2 (gK G i) s) ∧
  va_Z "java/lang/String" "COMPACT_STRINGS" "Z" (.int 1) (ab G) s s.heap ∧ (∃ q : Value, q.isRef = true ∧ va_Z "jdk/internal/util/Preconditions" "SIOOBE_FORMATTER" "Ljava/util/function/BiFunction;" q (ab G) s s.heap ∧ ∃ t : Nat, va_Z "java/lang/Integer" "DigitOnes" "[B" (.ref t) (ab G) s s.heap ∧ va_T .byte t 100 (fun j => .int (nI (48 + j % 10))) (ab G) s s.heap) ∧
  (∀ w ∈ lw_tbl, isNest w = true → va_Nw w s) ∧ (∀ C, Cond.arrayOver (.object C) ∈ lw_tbl → va_AO C s) ∧ gB G ≤ s.heap.size ∧ va_X (gSa G) (gSl G) (gSx G) s s.heap ∧ gSa G < gB G
theorem EnvOK.warm {G : Cx} {s U : State} (h : EnvOK G s) (hW : s.WarmedH U.vm) (hq0 : ∀ a : Nat, a < s.heap.size → ¬ fr G a → U.heap[a]? = s.heap[a]?) (hz : gB G ≤ U.heap.size) : EnvOK G U := by
  obtain ⟨h1, h2, h3, h4, ⟨q, h5r, h5, t, h5a, h5b⟩, h6, h7, h8, h9, h10⟩ := h
  have hvm : s.vm.Alike U.vm := hW.alike
  have hq : ∀ a : Nat, a < s.heap.size → ¬ ab G a → U.heap[a]? = s.heap[a]? := fun a h1 h2 => hq0 a h1 (fun z => h2 z.1)
  refine ⟨h1.moved hvm, (h2.moved hvm).kept hq, fun i hi => (h3 i hi).warm hW, (h4.moved hvm).kept hq, ⟨q, h5r, (h5.moved hvm).kept hq, t, (h5a.moved hvm).kept hq, (h5b.moved hvm).kept hq⟩, fun w hw hn => ?_, fun C hC => (h7 C hC).moved hvm, hz, (h9.moved hvm).kept (hq _ (Nat.lt_of_lt_of_le h10 h8) (Nat.not_le.mpr h10)), h10⟩
  have h := h6 w hw hn
  cases w with
  | methodLinkNest a b c d => exact va_Nw.warmM hW h
  | privateMethod x =>
    have hb : (Cond.privateMethod x).before #[] (s.setVm U.vm) = true := by
      rw [Cond.privateMethod_setVm hW.alike]
      exact h
    exact va_tabs rfl (rfl : (s.setVm U.vm).vm = U.vm) hb
  | _ => cases hn
/-- locals: a list of values; a float stands for 'not known' -/
def lvU : Value := .float 0
def isU : Value → Bool
  | .float _ => true
  | .double _ => true
  | _ => false
def ascF : Nat → List Value → List (Nat × Value)
  | _, [] => []
  | i, v :: vs => if isU v = true then ascF (i + 1) vs else (i, v) :: ascF (i + 1) vs
theorem ascF_mem : ∀ (L : List Value) (n i : Nat) (v : Value), (i, v) ∈ ascF n L ↔ n ≤ i ∧ L[i - n]? = some v ∧ isU v = false := by
  intro L
  induction L with
  | nil => intro n i v; simp [ascF]
  | cons w L ih =>
    intro n i v
    have step : (i, v) ∈ ascF (n + 1) L ↔ n + 1 ≤ i ∧ L[i - (n + 1)]? = some v ∧ isU v = false := ih (n + 1) i v
    by_cases hu : isU w = true
    · rw [ascF, if_pos hu, step]
      constructor
      · rintro ⟨a, b, c⟩
        refine ⟨by omega, ?_, c⟩
        rw [show i - n = (i - (n + 1)) + 1 by omega, List.getElem?_cons_succ]
        exact b
      · rintro ⟨a, b, c⟩
        by_cases hi : i = n
        · subst hi
          rw [Nat.sub_self, List.getElem?_cons_zero] at b
          cases b
          rw [hu] at c
          cases c
        · refine ⟨by omega, ?_, c⟩
          rw [show i - n = (i - (n + 1)) + 1 by omega, List.getElem?_cons_succ] at b
          exact b
    · rw [ascF, if_neg hu, List.mem_cons, step]
      constructor
      · rintro (a | ⟨a, b, c⟩)
        · cases a
          refine ⟨Nat.le_refl _, by rw [Nat.sub_self, List.getElem?_cons_zero], by simpa using hu⟩
        · refine ⟨by omega, ?_, c⟩
          rw [show i - n = (i - (n + 1)) + 1 by omega, List.getElem?_cons_succ]
          exact b
      · rintro ⟨a, b, c⟩
        by_cases hi : i = n
        · subst hi
          rw [Nat.sub_self, List.getElem?_cons_zero] at b
          cases b
          exact Or.inl rfl
        · refine Or.inr ⟨by omega, ?_, c⟩
          rw [show i - n = (i - (n + 1)) + 1 by omega, List.getElem?_cons_succ] at b
          exact b
def LV (ls : Array Slot) (n : Nat) (L : List Value) : Prop := lv_has ls n (ascF 0 L)
theorem LV.at {ls : Array Slot} {n i : Nat} {L : List Value} {v : Value} (h : LV ls n L) (hi : L[i]? = some v) (hv : isU v = false) : ls[i]? = some (.val v) :=
  h.2.2 (i, v) ((ascF_mem L 0 i v).mpr ⟨Nat.zero_le _, hi, hv⟩)
theorem lv_weak {ls : Array Slot} {n : Nat} {l l' : List (Nat × Value)} (h : lv_has ls n l) (hs : ∀ q ∈ l', q ∈ l) : lv_has ls n l' := ⟨h.1, h.2.1, fun q hq => h.2.2 q (hs q hq)⟩
/-- a store of one word -/
def isL : Option Value → Bool
  | some (.long _) => true
  | _ => false
def st1 (L : List Value) (i : Nat) (v : Value) : List Value := match i with
  | 0 => L.set 0 v
  | k + 1 => if isL L[k]? = true then (L.set k lvU).set (k + 1) v else L.set (k + 1) v
def st2 (L : List Value) (i : Nat) (v : Value) : List Value := (st1 L i v).set (i + 1) lvU
theorem st1_get {L : List Value} {i j : Nat} {v w : Value} (h : (st1 L i v)[j]? = some w) (hw : isU w = false) : (j = i ∧ w = v) ∨ (j ≠ i ∧ L[j]? = some w ∧ ¬ (j + 1 = i ∧ w.category = 2)) := by
  have base : ∀ M : List Value, (M.set i v)[j]? = some w → (j = i ∧ w = v) ∨ (j ≠ i ∧ M[j]? = some w) := by
    intro M h
    by_cases hj : j = i
    · subst hj
      have hl : j < M.length := by
        have := (List.getElem?_eq_some_iff.mp h).1
        simpa using this
      rw [List.getElem?_set_self hl] at h
      exact Or.inl ⟨rfl, (Option.some.inj h).symm⟩
    · rw [List.getElem?_set_ne (Ne.symm hj)] at h
      exact Or.inr ⟨hj, h⟩
  cases i with
  | zero =>
    rcases base L h with h | ⟨h1, h2⟩
    · exact Or.inl h
    · exact Or.inr ⟨h1, h2, fun q => by omega⟩
  | succ k =>
    have h' : (if isL L[k]? = true then (L.set k lvU).set (k + 1) v else L.set (k + 1) v)[j]? = some w := h
    by_cases hx : isL L[k]? = true
    · rw [if_pos hx] at h'
      rcases base _ h' with h | ⟨h1, h2⟩
      · exact Or.inl h
      · by_cases hk : j = k
        · subst hk
          have hl : j < L.length := by
            have := (List.getElem?_eq_some_iff.mp h2).1
            simpa using this
          rw [List.getElem?_set_self hl] at h2
          cases h2
          cases hw
        · rw [List.getElem?_set_ne (Ne.symm hk)] at h2
          exact Or.inr ⟨h1, h2, fun q => hk (by omega)⟩
    · rw [if_neg hx] at h'
      rcases base _ h' with h | ⟨h1, h2⟩
      · exact Or.inl h
      · refine Or.inr ⟨h1, h2, fun q => ?_⟩
        have hk : j = k := by omega
        subst hk
        rw [h2] at hx
        cases w with
        | long y => exact hx rfl
        | float y => cases hw
        | double y => cases hw
        | _ => simp [Value.category] at q
theorem LV.store1 {ls : Array Slot} {n i : Nat} {L L' : List Value} {v : Value} (h : LV ls n L) (hi : i < n) (hc : v.category = 1) (hL : st1 L i v = L') : ∃ ls', storeLocals ls i v = some ls' ∧ LV ls' n L' := by
  subst hL
  obtain ⟨ls', h1, h2⟩ := lv_store1 h hi hc
  refine ⟨ls', h1, lv_weak h2 ?_⟩
  rintro ⟨j, w⟩ hq
  obtain ⟨-, hg, hw⟩ := (ascF_mem _ 0 j w).mp hq
  rcases st1_get hg hw with ⟨rfl, rfl⟩ | ⟨h3, h4, h5⟩
  · exact List.mem_cons_self
  · refine List.mem_cons_of_mem _ (List.mem_filter.mpr ⟨(ascF_mem _ 0 j w).mpr ⟨Nat.zero_le _, h4, hw⟩, ?_⟩)
    simp only [Bool.and_eq_true, Bool.not_eq_true', beq_eq_false_iff_ne, ne_eq, Bool.and_eq_false_imp, beq_iff_eq]
    exact ⟨h3, fun a b => h5 ⟨a, b⟩⟩
theorem LV.store2 {ls : Array Slot} {n i : Nat} {L L' : List Value} {v : Value} (h : LV ls n L) (hi : i + 1 < n) (hc : v.category = 2) (hL : st2 L i v = L') : ∃ ls', storeLocals ls i v = some ls' ∧ LV ls' n L' := by
  subst hL
  obtain ⟨ls', h1, h2⟩ := lv_store2 h hi hc
  refine ⟨ls', h1, lv_weak h2 ?_⟩
  rintro ⟨j, w⟩ hq
  obtain ⟨-, hg, hw⟩ := (ascF_mem _ 0 j w).mp hq
  unfold st2 at hg
  by_cases hj : j = i + 1
  · subst hj
    have hl : i + 1 < (st1 L i v).length := by
      have := (List.getElem?_eq_some_iff.mp hg).1
      simpa using this
    simp only [Nat.sub_zero] at hg
    rw [List.getElem?_set_self hl] at hg
    cases hg
    cases hw
  · simp only [Nat.sub_zero] at hg
    rw [List.getElem?_set_ne (Ne.symm hj)] at hg
    rcases st1_get hg hw with ⟨rfl, rfl⟩ | ⟨h3, h4, h5⟩
    · exact List.mem_cons_self
    · refine List.mem_cons_of_mem _ (List.mem_filter.mpr ⟨(ascF_mem _ 0 j w).mpr ⟨Nat.zero_le _, h4, hw⟩, ?_⟩)
      simp only [Bool.and_eq_true, Bool.not_eq_true', beq_eq_false_iff_ne, ne_eq, Bool.and_eq_false_imp, beq_iff_eq]
      exact ⟨h3, hj, fun a b => h5 ⟨a, b⟩⟩
/-- the locals behind the entry -/
def iniA : List Value → List Value
  | [] => []
  | v :: vs => if v.category = 2 then v :: lvU :: iniA vs else v :: iniA vs
def iniL (vs : List Value) (n : Nat) : List Value := iniA vs ++ List.replicate (n - (iniA vs).length) lvU
theorem iniA_mem : ∀ (vs : List Value) (n i : Nat) (v : Value), n ≤ i → (iniA vs)[i - n]? = some v → isU v = false → (i, v) ∈ lv_args n vs := by
  intro vs
  induction vs with
  | nil => intro n i v h1 h2 _; simp [iniA] at h2
  | cons w vs ih =>
    intro n i v h1 h2 h3
    rw [lv_args, List.mem_cons]
    by_cases hi : i = n
    · subst hi
      refine Or.inl ?_
      rw [Nat.sub_self] at h2
      by_cases hw : w.category = 2
      · rw [iniA, if_pos hw, List.getElem?_cons_zero] at h2
        cases h2
        rfl
      · rw [iniA, if_neg hw, List.getElem?_cons_zero] at h2
        cases h2
        rfl
    · refine Or.inr ?_
      have e : i - n = (i - (n + 1)) + 1 := by omega
      rw [e] at h2
      by_cases hw : w.category = 2
      · rw [iniA, if_pos hw, List.getElem?_cons_succ] at h2
        rw [if_pos hw]
        by_cases hi2 : i = n + 1
        · subst hi2
          rw [Nat.sub_self, List.getElem?_cons_zero] at h2
          cases h2
          cases h3
        · rw [show i - (n + 1) = (i - (n + 2)) + 1 by omega, List.getElem?_cons_succ] at h2
          exact ih (n + 2) i v (by omega) h2 h3
      · rw [iniA, if_neg hw, List.getElem?_cons_succ] at h2
        rw [if_neg hw]
        exact ih (n + 1) i v (by omega) h2 h3
theorem LV.entry (vs : List Value) {n : Nat} (h : (lg_sl vs).length ≤ n) : LV ((lg_sl vs ++ List.replicate (n - (lg_sl vs).length) Slot.unset).toArray) n (iniL vs n) := by
  refine lv_weak (lv_entry vs h) ?_
  rintro ⟨i, v⟩ hq
  obtain ⟨-, hg, hv⟩ := (ascF_mem _ 0 i v).mp hq
  by_cases hl : i < (iniA vs).length
  · unfold iniL at hg
    simp only [Nat.sub_zero] at hg
    rw [List.getElem?_append_left hl] at hg
    exact iniA_mem vs 0 i v (Nat.zero_le _) (by simpa using hg) hv
  · unfold iniL at hg
    simp only [Nat.sub_zero] at hg
    rw [List.getElem?_append_right (by omega)] at hg
    have := List.mem_of_getElem? hg
    rw [List.mem_replicate] at this
    rw [this.2] at hv
    cases hv
/-- what a walk in a method of base code μ rests on: depth d is left, b cells and slots may still be made -/
def Fx (G : Cx) (d : Nat) (b : Nat × Nat) (μ : MI) (p : Program) (R : Room) (s : State) (mi : MethodId) (args : Array Value) (meth : Method) (c : Code) (cells slots : Nat) : Prop :=
  p.tables.exec = Jvm.exec ∧ c.code = μ.2.1 ∧ c.maxLocals = μ.2.2.1 ∧ meth.sig.returnType = μ.2.2.2 ∧ s.vm.findClass μ.1.cls = some mi.cls ∧ (∀ w ∈ tbG, w.before args s = true) ∧ meth.locks = false ∧ ((μ.1.name = "<init>" → meth.name = "<init>") ∧ (b.1 = 0 ∨ gM G = true)) ∧
  (d ≤ R.frames ∧ 100 * d ≤ R.locals ∧ cells + b.1 ≤ R.cells ∧ slots + b.2 ≤ R.slots) ∧ EnvOK G s
def Qm (G : Cx) (Q : Option Value → Mm → Prop) : Array Value → State → Outcome → State → Prop := fun _ st o t => (∃ (r : Option Value) (m' : Mm), Q r m' ∧ o = .returned r ∧ Rep G m' t.heap) ∧ va_F (fr G) st t
def WP (G : Cx) (d : Nat) (b : Nat × Nat) (μ : MI) (pc : Nat) (L S : List Value) (m : Mm) (Q : Option Value → Mm → Prop) : Prop :=
  ∀ (p : Program) (e : Env) (R : Room) (s : State) (mi : MethodId) (args : Array Value) (below : List Frame) (meth : Method) (c : Code) (H : Heap) (locs : List Loc) (cells slots : Nat) (ls : Array Slot),
    Fx G d b μ p R s mi args meth c cells slots → Rep G m H → va_S (fr G) s.heap H locs → LV ls μ.2.2.1 L →
    W p (gL G) e R s mi args below meth c H locs cells slots (MQ below (Qm G Q) args s (cells + b.1) (slots + b.2) (fr G)) (F0 mi pc ls S)
def wsM (μ : MI) : List Cond := Cond.code μ.1 μ.2.1 μ.2.2.1 μ.2.2.2 :: tbG
def rmD (d : Nat) (b : Nat × Nat) : Room := { frames := d, cells := b.1, slots := b.2, locals := 100 * d }
def Pcx (G : Cx) (b : Nat × Nat) (As : List Value) (m : Mm) : Array Value → State → Prop := va_Pc As (fun U => Rep G m U.heap ∧ EnvOK G U ∧ (b.1 = 0 ∨ gM G = true))
/-- a method's contract at the memory m: it returns, with an answer and a memory of Q -/
def WPM (G : Cx) (d : Nat) (b : Nat × Nat) (μ : MI) (As : List Value) (m : Mm) (Q : Option Value → Mm → Prop) : Prop :=
  Met (gL G) μ.1 (wsM μ) (rmD d b) (Pcx G b As m) (Qm G Q) b.1 b.2 (fr G)
theorem WPM.of {G : Cx} {d : Nat} {b : Nat × Nat} {μ : MI} {As L : List Value} {m : Mm} {Q : Option Value → Mm → Prop} (hp : plainName μ.1.cls = true) (hn : (lg_sl As).length ≤ μ.2.2.1) (hL : iniL As μ.2.2.1 = L) (k : WP G d b μ 0 L [] m Q) : WPM G d b μ As m Q := by
  subst hL
  refine Met.ofW (cc := μ.2.1) (maxL := μ.2.2.1) (ret := μ.2.2.2) (ws' := tbG) hp rfl ?_
  intro p e s mi args below meth c s₁ B hml hv
  obtain ⟨rfl, hR, hE, hMb⟩ := hv
  have hts := atoms_spec (ws := wsM μ) B.pre
  have h := k p e (rmD d b) s mi As.toArray below meth c s.heap [] 0 0 _ ⟨B.exec, B.bytes, hml, B.returns, findClass_of_methodNamed B.named, fun w hw => hts w (List.mem_cons_of_mem _ hw), B.notSynchronized, ⟨fun h => (name_of_methodNamed B.named B.method).1.trans h, hMb⟩, ⟨Nat.le_refl _, Nat.le_refl _, by simp [rmD], by simp [rmD]⟩, hE⟩ hR va_S.rf (LV.entry As hn)
  rw [Nat.zero_add, Nat.zero_add] at h
  rw [lg_entry_eq]
  exact h
theorem Pcx.blind {G : Cx} {b : Nat × Nat} {As : List Value} {m : Mm} : FrameBlind (Pcx G b As m) := by
  intro a U g mk q
  obtain ⟨h1, h2, h3, h4⟩ := q
  exact ⟨h1, h2, h3.warm (U := U.calling g mk a) (State.WarmedH.refl U) (fun _ _ _ => rfl) h3.2.2.2.2.2.2.2.1, h4⟩
end
