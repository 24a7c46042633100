-- written by prog/gen_code.py: words, classes, methods
def gW : List Cond := lw_tbl.filter goodWord
theorem gw_in {w : Cond} (i : Nat) (h : lw_tbl[i]? = some w) (hg : goodWord w = true) : w ∈ gW := List.mem_filter.2 ⟨List.mem_of_getElem? h, hg⟩
theorem w_0 : Cond.selects "RoomFederation$Resolver" ⟨"RoomFederation$Resolver", "findAgreed", "([LRoomFederation$Event;I)V"⟩ ⟨"RoomFederation$Resolver", "findAgreed", "([LRoomFederation$Event;I)V"⟩ ∈ gW := gw_in 0 (by decide +kernel) (by decide +kernel)
theorem w_1 : Cond.selects "RoomFederation$Resolver" ⟨"RoomFederation$Resolver", "findConflict", "([LRoomFederation$Event;I)V"⟩ ⟨"RoomFederation$Resolver", "findConflict", "([LRoomFederation$Event;I)V"⟩ ∈ gW := gw_in 1 (by decide +kernel) (by decide +kernel)
theorem w_2 : Cond.selects "RoomFederation$Resolver" ⟨"RoomFederation$Resolver", "partPowers", "(LRoomFederation$Log;)V"⟩ ⟨"RoomFederation$Resolver", "partPowers", "(LRoomFederation$Log;)V"⟩ ∈ gW := gw_in 2 (by decide +kernel) (by decide +kernel)
theorem w_3 : Cond.selects "RoomFederation$Resolver" ⟨"RoomFederation$Resolver", "orderOne", "(LRoomFederation$Log;)I"⟩ ⟨"RoomFederation$Resolver", "orderOne", "(LRoomFederation$Log;)I"⟩ ∈ gW := gw_in 3 (by decide +kernel) (by decide +kernel)
theorem w_4 : Cond.selects "RoomFederation$Resolver" ⟨"RoomFederation$Resolver", "list", "(LRoomFederation$EventSet;LRoomFederation$Log;)I"⟩ ⟨"RoomFederation$Resolver", "list", "(LRoomFederation$EventSet;LRoomFederation$Log;)I"⟩ ∈ gW := gw_in 4 (by decide +kernel) (by decide +kernel)
theorem w_5 : Cond.selects "RoomFederation$Resolver" ⟨"RoomFederation$Resolver", "firstFree", "(I)I"⟩ ⟨"RoomFederation$Resolver", "firstFree", "(I)I"⟩ ∈ gW := gw_in 5 (by decide +kernel) (by decide +kernel)
theorem w_6 : Cond.selects "RoomFederation$Resolver" ⟨"RoomFederation$Resolver", "tryQueue", "(ILRoomFederation$State;)V"⟩ ⟨"RoomFederation$Resolver", "tryQueue", "(ILRoomFederation$State;)V"⟩ ∈ gW := gw_in 6 (by decide +kernel) (by decide +kernel)
theorem w_7 : Cond.selects "RoomFederation$Resolver" ⟨"RoomFederation$Resolver", "orderTwo", "(LRoomFederation$State;LRoomFederation$Log;)I"⟩ ⟨"RoomFederation$Resolver", "orderTwo", "(LRoomFederation$State;LRoomFederation$Log;)I"⟩ ∈ gW := gw_in 7 (by decide +kernel) (by decide +kernel)
theorem w_8 : Cond.selects "RoomFederation$Resolver" ⟨"RoomFederation$Resolver", "rankMainline", "(LRoomFederation$State;)I"⟩ ⟨"RoomFederation$Resolver", "rankMainline", "(LRoomFederation$State;)I"⟩ ∈ gW := gw_in 8 (by decide +kernel) (by decide +kernel)
theorem w_9 : Cond.selects "RoomFederation$Resolver" ⟨"RoomFederation$Resolver", "rankOf", "(LRoomFederation$Event;I)I"⟩ ⟨"RoomFederation$Resolver", "rankOf", "(LRoomFederation$Event;I)I"⟩ ∈ gW := gw_in 9 (by decide +kernel) (by decide +kernel)
theorem w_10 : Cond.selects "RoomFederation$Resolver" ⟨"RoomFederation$Resolver", "comesLater", "(LRoomFederation$Event;LRoomFederation$Event;I)Z"⟩ ⟨"RoomFederation$Resolver", "comesLater", "(LRoomFederation$Event;LRoomFederation$Event;I)Z"⟩ ∈ gW := gw_in 10 (by decide +kernel) (by decide +kernel)
theorem w_11 : Cond.selects "RoomFederation" ⟨"RoomFederation", "\x61dmit", "(LRoomFederation$Event;LRoomFederation$State;)I"⟩ ⟨"RoomFederation", "\x61dmit", "(LRoomFederation$Event;LRoomFederation$State;)I"⟩ ∈ gW := gw_in 11 (by decide +kernel) (by decide +kernel)
theorem w_12 : Cond.selects "RoomFederation$Server" ⟨"RoomFederation$Server", "knowsParentsOf", "(LRoomFederation$Event;)Z"⟩ ⟨"RoomFederation$Server", "knowsParentsOf", "(LRoomFederation$Event;)Z"⟩ ∈ gW := gw_in 12 (by decide +kernel) (by decide +kernel)
theorem w_13 : Cond.selects "RoomFederation$Server" ⟨"RoomFederation$Server", "learn", "(LRoomFederation$Event;)V"⟩ ⟨"RoomFederation$Server", "learn", "(LRoomFederation$Event;)V"⟩ ∈ gW := gw_in 13 (by decide +kernel) (by decide +kernel)
theorem w_14 : Cond.selects "RoomFederation$Server" ⟨"RoomFederation$Server", "release", "(ILRoomFederation$Log;)I"⟩ ⟨"RoomFederation$Server", "release", "(ILRoomFederation$Log;)I"⟩ ∈ gW := gw_in 14 (by decide +kernel) (by decide +kernel)
theorem w_15 : Cond.selects "RoomFederation" ⟨"RoomFederation", "serverOf", "(I)LRoomFederation$Server;"⟩ ⟨"RoomFederation", "serverOf", "(I)LRoomFederation$Server;"⟩ ∈ gW := gw_in 15 (by decide +kernel) (by decide +kernel)
theorem w_16 : Cond.selects "RoomFederationModel" ⟨"RoomFederationModel", "writeDown", "(IIIII)V"⟩ ⟨"RoomFederationModel", "writeDown", "(IIIII)V"⟩ ∈ gW := gw_in 16 (by decide +kernel) (by decide +kernel)
theorem w_17 : Cond.selects "RoomFederationModel" ⟨"RoomFederationModel", "isHead", "(II)Z"⟩ ⟨"RoomFederationModel", "isHead", "(II)Z"⟩ ∈ gW := gw_in 17 (by decide +kernel) (by decide +kernel)
theorem w_18 : Cond.selects "RoomFederationModel" ⟨"RoomFederationModel", "authorise", "([II)V"⟩ ⟨"RoomFederationModel", "authorise", "([II)V"⟩ ∈ gW := gw_in 18 (by decide +kernel) (by decide +kernel)
theorem w_19 : Cond.selects "RoomFederationModel" ⟨"RoomFederationModel", "findNeeded", "([IIIII)V"⟩ ⟨"RoomFederationModel", "findNeeded", "([IIIII)V"⟩ ∈ gW := gw_in 19 (by decide +kernel) (by decide +kernel)
theorem w_20 : Cond.selects "RoomFederationModel" ⟨"RoomFederationModel", "need", "(I)V"⟩ ⟨"RoomFederationModel", "need", "(I)V"⟩ ∈ gW := gw_in 20 (by decide +kernel) (by decide +kernel)
theorem w_21 : Cond.selects "RoomFederationModel" ⟨"RoomFederationModel", "makeLevels", "(I)V"⟩ ⟨"RoomFederationModel", "makeLevels", "(I)V"⟩ ∈ gW := gw_in 21 (by decide +kernel) (by decide +kernel)
theorem w_22 : Cond.selects "RoomFederationModel" ⟨"RoomFederationModel", "powerOfAuthorities", "(I)I"⟩ ⟨"RoomFederationModel", "powerOfAuthorities", "(I)I"⟩ ∈ gW := gw_in 22 (by decide +kernel) (by decide +kernel)
theorem w_23 : Cond.selects "RoomFederationModel" ⟨"RoomFederationModel", "allowed", "(I[II)Z"⟩ ⟨"RoomFederationModel", "allowed", "(I[II)Z"⟩ ∈ gW := gw_in 23 (by decide +kernel) (by decide +kernel)
theorem w_24 : Cond.selects "RoomFederationModel" ⟨"RoomFederationModel", "member", "(I[II)Z"⟩ ⟨"RoomFederationModel", "member", "(I[II)Z"⟩ ∈ gW := gw_in 24 (by decide +kernel) (by decide +kernel)
theorem w_25 : Cond.selects "RoomFederationModel" ⟨"RoomFederationModel", "membership", "([III)I"⟩ ⟨"RoomFederationModel", "membership", "([III)I"⟩ ∈ gW := gw_in 25 (by decide +kernel) (by decide +kernel)
theorem w_26 : Cond.selects "RoomFederationModel" ⟨"RoomFederationModel", "levelBy", "([III)I"⟩ ⟨"RoomFederationModel", "levelBy", "([III)I"⟩ ∈ gW := gw_in 26 (by decide +kernel) (by decide +kernel)
theorem w_27 : Cond.selects "RoomFederationModel" ⟨"RoomFederationModel", "powers", "(I[II)Z"⟩ ⟨"RoomFederationModel", "powers", "(I[II)Z"⟩ ∈ gW := gw_in 27 (by decide +kernel) (by decide +kernel)
theorem w_28 : Cond.selects "RoomFederationModel" ⟨"RoomFederationModel", "enter", "()V"⟩ ⟨"RoomFederationModel", "enter", "()V"⟩ ∈ gW := gw_in 28 (by decide +kernel) (by decide +kernel)
theorem w_29 : Cond.selects "RoomFederationModel" ⟨"RoomFederationModel", "resolve", "()V"⟩ ⟨"RoomFederationModel", "resolve", "()V"⟩ ∈ gW := gw_in 29 (by decide +kernel) (by decide +kernel)
theorem w_30 : Cond.selects "RoomFederationModel" ⟨"RoomFederationModel", "findConflict", "()V"⟩ ⟨"RoomFederationModel", "findConflict", "()V"⟩ ∈ gW := gw_in 30 (by decide +kernel) (by decide +kernel)
theorem w_31 : Cond.selects "RoomFederationModel" ⟨"RoomFederationModel", "noteFull", "(I)V"⟩ ⟨"RoomFederationModel", "noteFull", "(I)V"⟩ ∈ gW := gw_in 31 (by decide +kernel) (by decide +kernel)
theorem w_32 : Cond.selects "RoomFederationModel" ⟨"RoomFederationModel", "findPowers", "()V"⟩ ⟨"RoomFederationModel", "findPowers", "()V"⟩ ∈ gW := gw_in 32 (by decide +kernel) (by decide +kernel)
theorem w_33 : Cond.selects "RoomFederationModel" ⟨"RoomFederationModel", "orderOne", "()V"⟩ ⟨"RoomFederationModel", "orderOne", "()V"⟩ ∈ gW := gw_in 33 (by decide +kernel) (by decide +kernel)
theorem w_34 : Cond.selects "RoomFederationModel" ⟨"RoomFederationModel", "first", "(II)Z"⟩ ⟨"RoomFederationModel", "first", "(II)Z"⟩ ∈ gW := gw_in 34 (by decide +kernel) (by decide +kernel)
theorem w_35 : Cond.selects "RoomFederationModel" ⟨"RoomFederationModel", "senderLevel", "(I)I"⟩ ⟨"RoomFederationModel", "senderLevel", "(I)I"⟩ ∈ gW := gw_in 35 (by decide +kernel) (by decide +kernel)
theorem w_36 : Cond.selects "RoomFederationModel" ⟨"RoomFederationModel", "byAuthorities", "(I)V"⟩ ⟨"RoomFederationModel", "byAuthorities", "(I)V"⟩ ∈ gW := gw_in 36 (by decide +kernel) (by decide +kernel)
theorem w_37 : Cond.selects "RoomFederationModel" ⟨"RoomFederationModel", "place", "(I)I"⟩ ⟨"RoomFederationModel", "place", "(I)I"⟩ ∈ gW := gw_in 37 (by decide +kernel) (by decide +kernel)
theorem w_38 : Cond.selects "RoomFederationModel" ⟨"RoomFederationModel", "tryOne", "(I)V"⟩ ⟨"RoomFederationModel", "tryOne", "(I)V"⟩ ∈ gW := gw_in 38 (by decide +kernel) (by decide +kernel)
theorem w_39 : Cond.selects "RoomFederationModel" ⟨"RoomFederationModel", "orderTwo", "()V"⟩ ⟨"RoomFederationModel", "orderTwo", "()V"⟩ ∈ gW := gw_in 39 (by decide +kernel) (by decide +kernel)
theorem w_40 : Cond.selects "RoomFederationModel" ⟨"RoomFederationModel", "mainPlace", "(I)I"⟩ ⟨"RoomFederationModel", "mainPlace", "(I)I"⟩ ∈ gW := gw_in 40 (by decide +kernel) (by decide +kernel)
theorem w_41 : Cond.selects "RoomFederationModel" ⟨"RoomFederationModel", "isGood", "(I)Z"⟩ ⟨"RoomFederationModel", "isGood", "(I)Z"⟩ ∈ gW := gw_in 41 (by decide +kernel) (by decide +kernel)
theorem w_42 : Cond.selects "RoomFederationModel" ⟨"RoomFederationModel", "renew", "(I)V"⟩ ⟨"RoomFederationModel", "renew", "(I)V"⟩ ∈ gW := gw_in 42 (by decide +kernel) (by decide +kernel)
theorem w_43 : Cond.selects "RoomFederationModel" ⟨"RoomFederationModel", "isEvent", "(I)Z"⟩ ⟨"RoomFederationModel", "isEvent", "(I)Z"⟩ ∈ gW := gw_in 43 (by decide +kernel) (by decide +kernel)
theorem w_44 : Cond.selects "RoomFederationModel" ⟨"RoomFederationModel", "ready", "(II)Z"⟩ ⟨"RoomFederationModel", "ready", "(II)Z"⟩ ∈ gW := gw_in 44 (by decide +kernel) (by decide +kernel)
theorem w_45 : Cond.selects "RoomFederationModel" ⟨"RoomFederationModel", "learn", "(II)I"⟩ ⟨"RoomFederationModel", "learn", "(II)I"⟩ ∈ gW := gw_in 45 (by decide +kernel) (by decide +kernel)
theorem w_47 : Cond.initialized "RoomFederation" ∈ gW := gw_in 47 (by decide +kernel) (by decide +kernel)
theorem w_48 : Cond.initialized "RoomFederation$Log" ∈ gW := gw_in 48 (by decide +kernel) (by decide +kernel)
theorem w_49 : Cond.initialized "RoomFederation$Resolver" ∈ gW := gw_in 49 (by decide +kernel) (by decide +kernel)
theorem w_50 : Cond.initialized "RoomFederation$State" ∈ gW := gw_in 50 (by decide +kernel) (by decide +kernel)
theorem w_51 : Cond.initialized "RoomFederation$EventSet" ∈ gW := gw_in 51 (by decide +kernel) (by decide +kernel)
theorem w_52 : Cond.initialized "RoomFederation$Server" ∈ gW := gw_in 52 (by decide +kernel) (by decide +kernel)
theorem w_53 : Cond.initialized "RoomFederationModel" ∈ gW := gw_in 53 (by decide +kernel) (by decide +kernel)
theorem w_54 : Cond.initialized "RoomFederation$Law" ∈ gW := gw_in 54 (by decide +kernel) (by decide +kernel)
theorem w_55 : Cond.initialized "RoomFederation$Event" ∈ gW := gw_in 55 (by decide +kernel) (by decide +kernel)
theorem w_56 : Cond.initialized "java/lang/Long" ∈ gW := gw_in 56 (by decide +kernel) (by decide +kernel)
theorem w_57 : Cond.initialized "java/lang/Math" ∈ gW := gw_in 57 (by decide +kernel) (by decide +kernel)
theorem w_58 : Cond.classLink "RoomFederationLaw" 7 "RoomFederation" ∈ gW := gw_in 58 (by decide +kernel) (by decide +kernel)
theorem w_59 : Cond.instantiable "RoomFederation" 3 ∈ gW := gw_in 59 (by decide +kernel) (by decide +kernel)
theorem w_60 : Cond.methodLink "RoomFederationLaw" 9 ⟨"RoomFederation", "<init>", "()V"⟩ ∈ gW := gw_in 60 (by decide +kernel) (by decide +kernel)
theorem w_61 : Cond.instanceMethod ⟨"RoomFederation", "<init>", "()V"⟩ ∈ gW := gw_in 61 (by decide +kernel) (by decide +kernel)
theorem w_62 : Cond.code ⟨"RoomFederation", "<init>", "()V"⟩ prog_1_method_1_code 2 none ∈ gW := gw_in 62 (by decide +kernel) (by decide +kernel)
theorem w_63 : Cond.methodLink "RoomFederation" 3 ⟨"java/lang/Object", "<init>", "()V"⟩ ∈ gW := gw_in 63 (by decide +kernel) (by decide +kernel)
theorem w_64 : Cond.instanceMethod ⟨"java/lang/Object", "<init>", "()V"⟩ ∈ gW := gw_in 64 (by decide +kernel) (by decide +kernel)
theorem w_65 : Cond.code ⟨"java/lang/Object", "<init>", "()V"⟩ object_method_1_code 1 none ∈ gW := gw_in 65 (by decide +kernel) (by decide +kernel)
theorem w_66 : Cond.classLink "RoomFederation" 9 "RoomFederation$Log" ∈ gW := gw_in 66 (by decide +kernel) (by decide +kernel)
theorem w_67 : Cond.instantiable "RoomFederation$Log" 2 ∈ gW := gw_in 67 (by decide +kernel) (by decide +kernel)
theorem w_68 : Cond.methodLink "RoomFederation" 11 ⟨"RoomFederation$Log", "<init>", "()V"⟩ ∈ gW := gw_in 68 (by decide +kernel) (by decide +kernel)
theorem w_69 : Cond.instanceMethod ⟨"RoomFederation$Log", "<init>", "()V"⟩ ∈ gW := gw_in 69 (by decide +kernel) (by decide +kernel)
theorem w_70 : Cond.code ⟨"RoomFederation$Log", "<init>", "()V"⟩ prog_5_method_1_code 1 none ∈ gW := gw_in 70 (by decide +kernel) (by decide +kernel)
theorem w_71 : Cond.methodLink "RoomFederation$Log" 3 ⟨"java/lang/Object", "<init>", "()V"⟩ ∈ gW := gw_in 71 (by decide +kernel) (by decide +kernel)
theorem w_72 : Cond.classLink "RoomFederation$Log" 9 "RoomFederation$Event" ∈ gW := gw_in 72 (by decide +kernel) (by decide +kernel)
theorem w_74 : Cond.fieldLink "RoomFederation$Log" 11 "RoomFederation$Log" "made" "[LRoomFederation$Event;" ∈ gW := gw_in 74 (by decide +kernel) (by decide +kernel)
theorem w_75 : Cond.fieldLink "RoomFederation$Log" 17 "RoomFederation$Log" "size" "I" ∈ gW := gw_in 75 (by decide +kernel) (by decide +kernel)
theorem w_76 : Cond.laysFinal "RoomFederation$Log" "RoomFederation$Log" "made" "[LRoomFederation$Event;" ∈ gW := gw_in 76 (by decide +kernel) (by decide +kernel)
theorem w_78 : Cond.lays "RoomFederation$Log" "RoomFederation$Log" "size" "I" ∈ gW := gw_in 78 (by decide +kernel) (by decide +kernel)
theorem w_81 : Cond.classLink "RoomFederation" 16 "RoomFederation$Resolver" ∈ gW := gw_in 81 (by decide +kernel) (by decide +kernel)
theorem w_82 : Cond.instantiable "RoomFederation$Resolver" 11 ∈ gW := gw_in 82 (by decide +kernel) (by decide +kernel)
theorem w_83 : Cond.methodLink "RoomFederation" 18 ⟨"RoomFederation$Resolver", "<init>", "()V"⟩ ∈ gW := gw_in 83 (by decide +kernel) (by decide +kernel)
theorem w_84 : Cond.instanceMethod ⟨"RoomFederation$Resolver", "<init>", "()V"⟩ ∈ gW := gw_in 84 (by decide +kernel) (by decide +kernel)
theorem w_85 : Cond.code ⟨"RoomFederation$Resolver", "<init>", "()V"⟩ prog_6_method_1_code 1 none ∈ gW := gw_in 85 (by decide +kernel) (by decide +kernel)
theorem w_86 : Cond.methodLink "RoomFederation$Resolver" 3 ⟨"java/lang/Object", "<init>", "()V"⟩ ∈ gW := gw_in 86 (by decide +kernel) (by decide +kernel)
theorem w_87 : Cond.classLink "RoomFederation$Resolver" 9 "RoomFederation$State" ∈ gW := gw_in 87 (by decide +kernel) (by decide +kernel)
theorem w_88 : Cond.instantiable "RoomFederation$State" 1 ∈ gW := gw_in 88 (by decide +kernel) (by decide +kernel)
theorem w_89 : Cond.methodLink "RoomFederation$Resolver" 11 ⟨"RoomFederation$State", "<init>", "()V"⟩ ∈ gW := gw_in 89 (by decide +kernel) (by decide +kernel)
theorem w_90 : Cond.instanceMethod ⟨"RoomFederation$State", "<init>", "()V"⟩ ∈ gW := gw_in 90 (by decide +kernel) (by decide +kernel)
theorem w_91 : Cond.code ⟨"RoomFederation$State", "<init>", "()V"⟩ prog_8_method_1_code 1 none ∈ gW := gw_in 91 (by decide +kernel) (by decide +kernel)
theorem w_92 : Cond.methodLink "RoomFederation$State" 3 ⟨"java/lang/Object", "<init>", "()V"⟩ ∈ gW := gw_in 92 (by decide +kernel) (by decide +kernel)
theorem w_93 : Cond.classLink "RoomFederation$State" 9 "RoomFederation$Event" ∈ gW := gw_in 93 (by decide +kernel) (by decide +kernel)
theorem w_94 : Cond.fieldLink "RoomFederation$State" 11 "RoomFederation$State" "places" "[LRoomFederation$Event;" ∈ gW := gw_in 94 (by decide +kernel) (by decide +kernel)
theorem w_95 : Cond.laysFinal "RoomFederation$State" "RoomFederation$State" "places" "[LRoomFederation$Event;" ∈ gW := gw_in 95 (by decide +kernel) (by decide +kernel)
theorem w_98 : Cond.classLink "RoomFederation$Resolver" 24 "RoomFederation$EventSet" ∈ gW := gw_in 98 (by decide +kernel) (by decide +kernel)
theorem w_99 : Cond.instantiable "RoomFederation$EventSet" 1 ∈ gW := gw_in 99 (by decide +kernel) (by decide +kernel)
theorem w_100 : Cond.methodLink "RoomFederation$Resolver" 26 ⟨"RoomFederation$EventSet", "<init>", "()V"⟩ ∈ gW := gw_in 100 (by decide +kernel) (by decide +kernel)
theorem w_101 : Cond.instanceMethod ⟨"RoomFederation$EventSet", "<init>", "()V"⟩ ∈ gW := gw_in 101 (by decide +kernel) (by decide +kernel)
theorem w_102 : Cond.code ⟨"RoomFederation$EventSet", "<init>", "()V"⟩ prog_3_method_1_code 1 none ∈ gW := gw_in 102 (by decide +kernel) (by decide +kernel)
theorem w_103 : Cond.methodLink "RoomFederation$EventSet" 5 ⟨"java/lang/Object", "<init>", "()V"⟩ ∈ gW := gw_in 103 (by decide +kernel) (by decide +kernel)
theorem w_104 : Cond.fieldLink "RoomFederation$EventSet" 11 "RoomFederation$EventSet" "words" "[J" ∈ gW := gw_in 104 (by decide +kernel) (by decide +kernel)
theorem w_105 : Cond.laysFinal "RoomFederation$EventSet" "RoomFederation$EventSet" "words" "[J" ∈ gW := gw_in 105 (by decide +kernel) (by decide +kernel)
theorem w_108 : Cond.arrayClass .long ∈ gW := gw_in 108 (by decide +kernel) (by decide +kernel)
theorem w_109 : Cond.classLink "RoomFederation$Resolver" 40 "RoomFederation$Event" ∈ gW := gw_in 109 (by decide +kernel) (by decide +kernel)
theorem w_110 : Cond.fieldLink "RoomFederation$Resolver" 12 "RoomFederation$Resolver" "nothing" "LRoomFederation$State;" ∈ gW := gw_in 110 (by decide +kernel) (by decide +kernel)
theorem w_111 : Cond.fieldLink "RoomFederation$Resolver" 18 "RoomFederation$Resolver" "agreed" "LRoomFederation$State;" ∈ gW := gw_in 111 (by decide +kernel) (by decide +kernel)
theorem w_112 : Cond.fieldLink "RoomFederation$Resolver" 21 "RoomFederation$Resolver" "trial" "LRoomFederation$State;" ∈ gW := gw_in 112 (by decide +kernel) (by decide +kernel)
theorem w_113 : Cond.fieldLink "RoomFederation$Resolver" 27 "RoomFederation$Resolver" "conflict" "LRoomFederation$EventSet;" ∈ gW := gw_in 113 (by decide +kernel) (by decide +kernel)
theorem w_114 : Cond.fieldLink "RoomFederation$Resolver" 31 "RoomFederation$Resolver" "shared" "LRoomFederation$EventSet;" ∈ gW := gw_in 114 (by decide +kernel) (by decide +kernel)
theorem w_115 : Cond.fieldLink "RoomFederation$Resolver" 34 "RoomFederation$Resolver" "chain" "LRoomFederation$EventSet;" ∈ gW := gw_in 115 (by decide +kernel) (by decide +kernel)
theorem w_116 : Cond.fieldLink "RoomFederation$Resolver" 37 "RoomFederation$Resolver" "powers" "LRoomFederation$EventSet;" ∈ gW := gw_in 116 (by decide +kernel) (by decide +kernel)
theorem w_117 : Cond.fieldLink "RoomFederation$Resolver" 42 "RoomFederation$Resolver" "tips" "[LRoomFederation$Event;" ∈ gW := gw_in 117 (by decide +kernel) (by decide +kernel)
theorem w_118 : Cond.fieldLink "RoomFederation$Resolver" 46 "RoomFederation$Resolver" "listed" "[LRoomFederation$Event;" ∈ gW := gw_in 118 (by decide +kernel) (by decide +kernel)
theorem w_119 : Cond.fieldLink "RoomFederation$Resolver" 49 "RoomFederation$Resolver" "queue" "[LRoomFederation$Event;" ∈ gW := gw_in 119 (by decide +kernel) (by decide +kernel)
theorem w_120 : Cond.fieldLink "RoomFederation$Resolver" 52 "RoomFederation$Resolver" "rank" "[I" ∈ gW := gw_in 120 (by decide +kernel) (by decide +kernel)
theorem w_121 : Cond.laysFinal "RoomFederation$Resolver" "RoomFederation$Resolver" "nothing" "LRoomFederation$State;" ∈ gW := gw_in 121 (by decide +kernel) (by decide +kernel)
theorem w_123 : Cond.laysFinal "RoomFederation$Resolver" "RoomFederation$Resolver" "agreed" "LRoomFederation$State;" ∈ gW := gw_in 123 (by decide +kernel) (by decide +kernel)
theorem w_125 : Cond.laysFinal "RoomFederation$Resolver" "RoomFederation$Resolver" "trial" "LRoomFederation$State;" ∈ gW := gw_in 125 (by decide +kernel) (by decide +kernel)
theorem w_127 : Cond.laysFinal "RoomFederation$Resolver" "RoomFederation$Resolver" "conflict" "LRoomFederation$EventSet;" ∈ gW := gw_in 127 (by decide +kernel) (by decide +kernel)
theorem w_129 : Cond.laysFinal "RoomFederation$Resolver" "RoomFederation$Resolver" "shared" "LRoomFederation$EventSet;" ∈ gW := gw_in 129 (by decide +kernel) (by decide +kernel)
theorem w_131 : Cond.laysFinal "RoomFederation$Resolver" "RoomFederation$Resolver" "chain" "LRoomFederation$EventSet;" ∈ gW := gw_in 131 (by decide +kernel) (by decide +kernel)
theorem w_133 : Cond.laysFinal "RoomFederation$Resolver" "RoomFederation$Resolver" "powers" "LRoomFederation$EventSet;" ∈ gW := gw_in 133 (by decide +kernel) (by decide +kernel)
theorem w_135 : Cond.laysFinal "RoomFederation$Resolver" "RoomFederation$Resolver" "tips" "[LRoomFederation$Event;" ∈ gW := gw_in 135 (by decide +kernel) (by decide +kernel)
theorem w_137 : Cond.laysFinal "RoomFederation$Resolver" "RoomFederation$Resolver" "listed" "[LRoomFederation$Event;" ∈ gW := gw_in 137 (by decide +kernel) (by decide +kernel)
theorem w_139 : Cond.laysFinal "RoomFederation$Resolver" "RoomFederation$Resolver" "queue" "[LRoomFederation$Event;" ∈ gW := gw_in 139 (by decide +kernel) (by decide +kernel)
theorem w_141 : Cond.laysFinal "RoomFederation$Resolver" "RoomFederation$Resolver" "rank" "[I" ∈ gW := gw_in 141 (by decide +kernel) (by decide +kernel)
theorem w_144 : Cond.arrayClass .int ∈ gW := gw_in 144 (by decide +kernel) (by decide +kernel)
theorem w_145 : Cond.classLink "RoomFederation" 23 "RoomFederation$Server" ∈ gW := gw_in 145 (by decide +kernel) (by decide +kernel)
theorem w_147 : Cond.instantiable "RoomFederation$Server" 4 ∈ gW := gw_in 147 (by decide +kernel) (by decide +kernel)
theorem w_148 : Cond.methodLink "RoomFederation" 29 ⟨"RoomFederation$Server", "<init>", "()V"⟩ ∈ gW := gw_in 148 (by decide +kernel) (by decide +kernel)
theorem w_149 : Cond.instanceMethod ⟨"RoomFederation$Server", "<init>", "()V"⟩ ∈ gW := gw_in 149 (by decide +kernel) (by decide +kernel)
theorem w_150 : Cond.code ⟨"RoomFederation$Server", "<init>", "()V"⟩ prog_7_method_1_code 1 none ∈ gW := gw_in 150 (by decide +kernel) (by decide +kernel)
theorem w_151 : Cond.methodLink "RoomFederation$Server" 3 ⟨"java/lang/Object", "<init>", "()V"⟩ ∈ gW := gw_in 151 (by decide +kernel) (by decide +kernel)
theorem w_152 : Cond.classLink "RoomFederation$Server" 9 "RoomFederation$EventSet" ∈ gW := gw_in 152 (by decide +kernel) (by decide +kernel)
theorem w_153 : Cond.methodLink "RoomFederation$Server" 11 ⟨"RoomFederation$EventSet", "<init>", "()V"⟩ ∈ gW := gw_in 153 (by decide +kernel) (by decide +kernel)
theorem w_154 : Cond.fieldLink "RoomFederation$Server" 12 "RoomFederation$Server" "known" "LRoomFederation$EventSet;" ∈ gW := gw_in 154 (by decide +kernel) (by decide +kernel)
theorem w_155 : Cond.fieldLink "RoomFederation$Server" 18 "RoomFederation$Server" "held" "LRoomFederation$EventSet;" ∈ gW := gw_in 155 (by decide +kernel) (by decide +kernel)
theorem w_156 : Cond.fieldLink "RoomFederation$Server" 21 "RoomFederation$Server" "heads" "LRoomFederation$EventSet;" ∈ gW := gw_in 156 (by decide +kernel) (by decide +kernel)
theorem w_157 : Cond.fieldLink "RoomFederation$Server" 24 "RoomFederation$Server" "now" "LRoomFederation$State;" ∈ gW := gw_in 157 (by decide +kernel) (by decide +kernel)
theorem w_158 : Cond.fieldLink "RoomFederation$Resolver" 56 "RoomFederation$Server" "now" "LRoomFederation$State;" ∈ gW := gw_in 158 (by decide +kernel) (by decide +kernel)
theorem w_159 : Cond.laysFinal "RoomFederation$Server" "RoomFederation$Server" "known" "LRoomFederation$EventSet;" ∈ gW := gw_in 159 (by decide +kernel) (by decide +kernel)
theorem w_161 : Cond.laysFinal "RoomFederation$Server" "RoomFederation$Server" "held" "LRoomFederation$EventSet;" ∈ gW := gw_in 161 (by decide +kernel) (by decide +kernel)
theorem w_163 : Cond.laysFinal "RoomFederation$Server" "RoomFederation$Server" "heads" "LRoomFederation$EventSet;" ∈ gW := gw_in 163 (by decide +kernel) (by decide +kernel)
theorem w_165 : Cond.lays "RoomFederation$Server" "RoomFederation$Server" "now" "LRoomFederation$State;" ∈ gW := gw_in 165 (by decide +kernel) (by decide +kernel)
theorem w_168 : Cond.fieldLink "RoomFederation" 12 "RoomFederation" "log" "LRoomFederation$Log;" ∈ gW := gw_in 168 (by decide +kernel) (by decide +kernel)
theorem w_169 : Cond.fieldLink "RoomFederation" 19 "RoomFederation" "resolver" "LRoomFederation$Resolver;" ∈ gW := gw_in 169 (by decide +kernel) (by decide +kernel)
theorem w_170 : Cond.fieldLink "RoomFederation" 25 "RoomFederation" "servers" "[LRoomFederation$Server;" ∈ gW := gw_in 170 (by decide +kernel) (by decide +kernel)
theorem w_171 : Cond.laysFinal "RoomFederation" "RoomFederation" "log" "LRoomFederation$Log;" ∈ gW := gw_in 171 (by decide +kernel) (by decide +kernel)
theorem w_173 : Cond.laysFinal "RoomFederation" "RoomFederation" "resolver" "LRoomFederation$Resolver;" ∈ gW := gw_in 173 (by decide +kernel) (by decide +kernel)
theorem w_175 : Cond.laysFinal "RoomFederation" "RoomFederation" "servers" "[LRoomFederation$Server;" ∈ gW := gw_in 175 (by decide +kernel) (by decide +kernel)
theorem w_178 : Cond.methodLink "RoomFederationLaw" 13 ⟨"RoomFederation", "send", "(IIIII)I"⟩ ∈ gW := gw_in 178 (by decide +kernel) (by decide +kernel)
theorem w_179 : Cond.instanceMethod ⟨"RoomFederation", "send", "(IIIII)I"⟩ ∈ gW := gw_in 179 (by decide +kernel) (by decide +kernel)
theorem w_180 : Cond.selects "RoomFederation" ⟨"RoomFederation", "send", "(IIIII)I"⟩ ⟨"RoomFederation", "send", "(IIIII)I"⟩ ∈ gW := gw_in 180 (by decide +kernel) (by decide +kernel)
theorem w_181 : Cond.code ⟨"RoomFederation", "send", "(IIIII)I"⟩ prog_1_method_2_code 10 (some .int) ∈ gW := gw_in 181 (by decide +kernel) (by decide +kernel)
theorem w_182 : Cond.methodLink "RoomFederation" 30 ⟨"RoomFederation$Law", "isProper", "(IIII)Z"⟩ ∈ gW := gw_in 182 (by decide +kernel) (by decide +kernel)
theorem w_183 : Cond.static ⟨"RoomFederation$Law", "isProper", "(IIII)Z"⟩ ∈ gW := gw_in 183 (by decide +kernel) (by decide +kernel)
theorem w_184 : Cond.code ⟨"RoomFederation$Law", "isProper", "(IIII)Z"⟩ prog_4_method_3_code 4 (some .boolean) ∈ gW := gw_in 184 (by decide +kernel) (by decide +kernel)
theorem w_185 : Cond.methodLink "RoomFederation$Law" 9 ⟨"RoomFederation$Law", "isUser", "(I)Z"⟩ ∈ gW := gw_in 185 (by decide +kernel) (by decide +kernel)
theorem w_186 : Cond.static ⟨"RoomFederation$Law", "isUser", "(I)Z"⟩ ∈ gW := gw_in 186 (by decide +kernel) (by decide +kernel)
theorem w_187 : Cond.code ⟨"RoomFederation$Law", "isUser", "(I)Z"⟩ prog_4_method_2_code 1 (some .boolean) ∈ gW := gw_in 187 (by decide +kernel) (by decide +kernel)
theorem w_188 : Cond.methodLink "RoomFederation" 36 ⟨"RoomFederation$Log", "isFull", "()Z"⟩ ∈ gW := gw_in 188 (by decide +kernel) (by decide +kernel)
theorem w_189 : Cond.instanceMethod ⟨"RoomFederation$Log", "isFull", "()Z"⟩ ∈ gW := gw_in 189 (by decide +kernel) (by decide +kernel)
theorem w_190 : Cond.selects "RoomFederation$Log" ⟨"RoomFederation$Log", "isFull", "()Z"⟩ ⟨"RoomFederation$Log", "isFull", "()Z"⟩ ∈ gW := gw_in 190 (by decide +kernel) (by decide +kernel)
theorem w_191 : Cond.code ⟨"RoomFederation$Log", "isFull", "()Z"⟩ prog_5_method_3_code 1 (some .boolean) ∈ gW := gw_in 191 (by decide +kernel) (by decide +kernel)
theorem w_192 : Cond.methodLink "RoomFederation" 40 ⟨"RoomFederation$Resolver", "stateOf", "(LRoomFederation$Server;LRoomFederation$Log;)LRoomFederation$State;"⟩ ∈ gW := gw_in 192 (by decide +kernel) (by decide +kernel)
theorem w_193 : Cond.instanceMethod ⟨"RoomFederation$Resolver", "stateOf", "(LRoomFederation$Server;LRoomFederation$Log;)LRoomFederation$State;"⟩ ∈ gW := gw_in 193 (by decide +kernel) (by decide +kernel)
theorem w_194 : Cond.selects "RoomFederation$Resolver" ⟨"RoomFederation$Resolver", "stateOf", "(LRoomFederation$Server;LRoomFederation$Log;)LRoomFederation$State;"⟩ ⟨"RoomFederation$Resolver", "stateOf", "(LRoomFederation$Server;LRoomFederation$Log;)LRoomFederation$State;"⟩ ∈ gW := gw_in 194 (by decide +kernel) (by decide +kernel)
theorem w_195 : Cond.code ⟨"RoomFederation$Resolver", "stateOf", "(LRoomFederation$Server;LRoomFederation$Log;)LRoomFederation$State;"⟩ prog_6_method_2_code 3 (some (.object "RoomFederation$State")) ∈ gW := gw_in 195 (by decide +kernel) (by decide +kernel)
theorem w_196 : Cond.methodLink "RoomFederation$Resolver" 61 ⟨"RoomFederation$Server", "listHeads", "([LRoomFederation$Event;LRoomFederation$Log;)I"⟩ ∈ gW := gw_in 196 (by decide +kernel) (by decide +kernel)
theorem w_197 : Cond.instanceMethod ⟨"RoomFederation$Server", "listHeads", "([LRoomFederation$Event;LRoomFederation$Log;)I"⟩ ∈ gW := gw_in 197 (by decide +kernel) (by decide +kernel)
theorem w_198 : Cond.selects "RoomFederation$Server" ⟨"RoomFederation$Server", "listHeads", "([LRoomFederation$Event;LRoomFederation$Log;)I"⟩ ⟨"RoomFederation$Server", "listHeads", "([LRoomFederation$Event;LRoomFederation$Log;)I"⟩ ∈ gW := gw_in 198 (by decide +kernel) (by decide +kernel)
theorem w_199 : Cond.code ⟨"RoomFederation$Server", "listHeads", "([LRoomFederation$Event;LRoomFederation$Log;)I"⟩ prog_7_method_9_code 5 (some .int) ∈ gW := gw_in 199 (by decide +kernel) (by decide +kernel)
theorem w_200 : Cond.methodLink "RoomFederation$Server" 36 ⟨"RoomFederation$Log", "size", "()I"⟩ ∈ gW := gw_in 200 (by decide +kernel) (by decide +kernel)
theorem w_201 : Cond.instanceMethod ⟨"RoomFederation$Log", "size", "()I"⟩ ∈ gW := gw_in 201 (by decide +kernel) (by decide +kernel)
theorem w_202 : Cond.selects "RoomFederation$Log" ⟨"RoomFederation$Log", "size", "()I"⟩ ⟨"RoomFederation$Log", "size", "()I"⟩ ∈ gW := gw_in 202 (by decide +kernel) (by decide +kernel)
theorem w_203 : Cond.code ⟨"RoomFederation$Log", "size", "()I"⟩ prog_5_method_2_code 1 (some .int) ∈ gW := gw_in 203 (by decide +kernel) (by decide +kernel)
theorem w_204 : Cond.methodLink "RoomFederation$Server" 28 ⟨"RoomFederation$EventSet", "has", "(I)Z"⟩ ∈ gW := gw_in 204 (by decide +kernel) (by decide +kernel)
theorem w_205 : Cond.instanceMethod ⟨"RoomFederation$EventSet", "has", "(I)Z"⟩ ∈ gW := gw_in 205 (by decide +kernel) (by decide +kernel)
theorem w_206 : Cond.selects "RoomFederation$EventSet" ⟨"RoomFederation$EventSet", "has", "(I)Z"⟩ ⟨"RoomFederation$EventSet", "has", "(I)Z"⟩ ∈ gW := gw_in 206 (by decide +kernel) (by decide +kernel)
theorem w_207 : Cond.code ⟨"RoomFederation$EventSet", "has", "(I)Z"⟩ prog_3_method_2_code 2 (some .boolean) ∈ gW := gw_in 207 (by decide +kernel) (by decide +kernel)
theorem w_208 : Cond.methodLink "RoomFederation$Server" 39 ⟨"RoomFederation$Log", "find", "(I)LRoomFederation$Event;"⟩ ∈ gW := gw_in 208 (by decide +kernel) (by decide +kernel)
theorem w_209 : Cond.instanceMethod ⟨"RoomFederation$Log", "find", "(I)LRoomFederation$Event;"⟩ ∈ gW := gw_in 209 (by decide +kernel) (by decide +kernel)
theorem w_210 : Cond.selects "RoomFederation$Log" ⟨"RoomFederation$Log", "find", "(I)LRoomFederation$Event;"⟩ ⟨"RoomFederation$Log", "find", "(I)LRoomFederation$Event;"⟩ ∈ gW := gw_in 210 (by decide +kernel) (by decide +kernel)
theorem w_211 : Cond.code ⟨"RoomFederation$Log", "find", "(I)LRoomFederation$Event;"⟩ prog_5_method_4_code 2 (some (.object "RoomFederation$Event")) ∈ gW := gw_in 211 (by decide +kernel) (by decide +kernel)
theorem w_212 : Cond.methodLink "RoomFederation$Resolver" 65 ⟨"RoomFederation$Resolver", "resolve", "([LRoomFederation$Event;ILRoomFederation$Log;)LRoomFederation$State;"⟩ ∈ gW := gw_in 212 (by decide +kernel) (by decide +kernel)
theorem w_213 : Cond.instanceMethod ⟨"RoomFederation$Resolver", "resolve", "([LRoomFederation$Event;ILRoomFederation$Log;)LRoomFederation$State;"⟩ ∈ gW := gw_in 213 (by decide +kernel) (by decide +kernel)
theorem w_214 : Cond.selects "RoomFederation$Resolver" ⟨"RoomFederation$Resolver", "resolve", "([LRoomFederation$Event;ILRoomFederation$Log;)LRoomFederation$State;"⟩ ⟨"RoomFederation$Resolver", "resolve", "([LRoomFederation$Event;ILRoomFederation$Log;)LRoomFederation$State;"⟩ ∈ gW := gw_in 214 (by decide +kernel) (by decide +kernel)
theorem w_215 : Cond.code ⟨"RoomFederation$Resolver", "resolve", "([LRoomFederation$Event;ILRoomFederation$Log;)LRoomFederation$State;"⟩ prog_6_method_3_code 5 (some (.object "RoomFederation$State")) ∈ gW := gw_in 215 (by decide +kernel) (by decide +kernel)
theorem w_216 : Cond.methodLink "RoomFederation$Resolver" 72 ⟨"RoomFederation$Resolver", "findAgreed", "([LRoomFederation$Event;I)V"⟩ ∈ gW := gw_in 216 (by decide +kernel) (by decide +kernel)
theorem w_218 : Cond.instanceMethod ⟨"RoomFederation$Resolver", "findAgreed", "([LRoomFederation$Event;I)V"⟩ ∈ gW := gw_in 218 (by decide +kernel) (by decide +kernel)
theorem w_219 : Cond.code ⟨"RoomFederation$Resolver", "findAgreed", "([LRoomFederation$Event;I)V"⟩ prog_6_method_4_code 4 none ∈ gW := gw_in 219 (by decide +kernel) (by decide +kernel)
theorem w_220 : Cond.methodLink "RoomFederation$Resolver" 83 ⟨"RoomFederation$State", "copy", "(LRoomFederation$State;)V"⟩ ∈ gW := gw_in 220 (by decide +kernel) (by decide +kernel)
theorem w_221 : Cond.instanceMethod ⟨"RoomFederation$State", "copy", "(LRoomFederation$State;)V"⟩ ∈ gW := gw_in 221 (by decide +kernel) (by decide +kernel)
theorem w_222 : Cond.selects "RoomFederation$State" ⟨"RoomFederation$State", "copy", "(LRoomFederation$State;)V"⟩ ⟨"RoomFederation$State", "copy", "(LRoomFederation$State;)V"⟩ ∈ gW := gw_in 222 (by decide +kernel) (by decide +kernel)
theorem w_223 : Cond.code ⟨"RoomFederation$State", "copy", "(LRoomFederation$State;)V"⟩ prog_8_method_6_code 3 none ∈ gW := gw_in 223 (by decide +kernel) (by decide +kernel)
theorem w_224 : Cond.methodLink "RoomFederation$Resolver" 102 ⟨"RoomFederation$State", "keepSame", "(LRoomFederation$State;)V"⟩ ∈ gW := gw_in 224 (by decide +kernel) (by decide +kernel)
theorem w_225 : Cond.instanceMethod ⟨"RoomFederation$State", "keepSame", "(LRoomFederation$State;)V"⟩ ∈ gW := gw_in 225 (by decide +kernel) (by decide +kernel)
theorem w_226 : Cond.selects "RoomFederation$State" ⟨"RoomFederation$State", "keepSame", "(LRoomFederation$State;)V"⟩ ⟨"RoomFederation$State", "keepSame", "(LRoomFederation$State;)V"⟩ ∈ gW := gw_in 226 (by decide +kernel) (by decide +kernel)
theorem w_227 : Cond.code ⟨"RoomFederation$State", "keepSame", "(LRoomFederation$State;)V"⟩ prog_8_method_9_code 3 none ∈ gW := gw_in 227 (by decide +kernel) (by decide +kernel)
theorem w_228 : Cond.methodLink "RoomFederation$Resolver" 76 ⟨"RoomFederation$Resolver", "findConflict", "([LRoomFederation$Event;I)V"⟩ ∈ gW := gw_in 228 (by decide +kernel) (by decide +kernel)
theorem w_230 : Cond.instanceMethod ⟨"RoomFederation$Resolver", "findConflict", "([LRoomFederation$Event;I)V"⟩ ∈ gW := gw_in 230 (by decide +kernel) (by decide +kernel)
theorem w_231 : Cond.code ⟨"RoomFederation$Resolver", "findConflict", "([LRoomFederation$Event;I)V"⟩ prog_6_method_5_code 4 none ∈ gW := gw_in 231 (by decide +kernel) (by decide +kernel)
theorem w_232 : Cond.methodLink "RoomFederation$Resolver" 105 ⟨"RoomFederation$EventSet", "clear", "()V"⟩ ∈ gW := gw_in 232 (by decide +kernel) (by decide +kernel)
theorem w_233 : Cond.instanceMethod ⟨"RoomFederation$EventSet", "clear", "()V"⟩ ∈ gW := gw_in 233 (by decide +kernel) (by decide +kernel)
theorem w_234 : Cond.selects "RoomFederation$EventSet" ⟨"RoomFederation$EventSet", "clear", "()V"⟩ ⟨"RoomFederation$EventSet", "clear", "()V"⟩ ∈ gW := gw_in 234 (by decide +kernel) (by decide +kernel)
theorem w_235 : Cond.code ⟨"RoomFederation$EventSet", "clear", "()V"⟩ prog_3_method_5_code 2 none ∈ gW := gw_in 235 (by decide +kernel) (by decide +kernel)
theorem w_236 : Cond.methodLink "RoomFederation$Resolver" 108 ⟨"RoomFederation$State", "addChainTo", "(LRoomFederation$EventSet;)V"⟩ ∈ gW := gw_in 236 (by decide +kernel) (by decide +kernel)
theorem w_237 : Cond.instanceMethod ⟨"RoomFederation$State", "addChainTo", "(LRoomFederation$EventSet;)V"⟩ ∈ gW := gw_in 237 (by decide +kernel) (by decide +kernel)
theorem w_238 : Cond.selects "RoomFederation$State" ⟨"RoomFederation$State", "addChainTo", "(LRoomFederation$EventSet;)V"⟩ ⟨"RoomFederation$State", "addChainTo", "(LRoomFederation$EventSet;)V"⟩ ∈ gW := gw_in 238 (by decide +kernel) (by decide +kernel)
theorem w_239 : Cond.code ⟨"RoomFederation$State", "addChainTo", "(LRoomFederation$EventSet;)V"⟩ prog_8_method_10_code 4 none ∈ gW := gw_in 239 (by decide +kernel) (by decide +kernel)
theorem w_240 : Cond.methodLink "RoomFederation$State" 33 ⟨"RoomFederation$EventSet", "add", "(I)V"⟩ ∈ gW := gw_in 240 (by decide +kernel) (by decide +kernel)
theorem w_241 : Cond.instanceMethod ⟨"RoomFederation$EventSet", "add", "(I)V"⟩ ∈ gW := gw_in 241 (by decide +kernel) (by decide +kernel)
theorem w_242 : Cond.selects "RoomFederation$EventSet" ⟨"RoomFederation$EventSet", "add", "(I)V"⟩ ⟨"RoomFederation$EventSet", "add", "(I)V"⟩ ∈ gW := gw_in 242 (by decide +kernel) (by decide +kernel)
theorem w_243 : Cond.code ⟨"RoomFederation$EventSet", "add", "(I)V"⟩ prog_3_method_3_code 2 none ∈ gW := gw_in 243 (by decide +kernel) (by decide +kernel)
theorem w_244 : Cond.methodLink "RoomFederation$State" 43 ⟨"RoomFederation$EventSet", "addAll", "(LRoomFederation$EventSet;)V"⟩ ∈ gW := gw_in 244 (by decide +kernel) (by decide +kernel)
theorem w_245 : Cond.instanceMethod ⟨"RoomFederation$EventSet", "addAll", "(LRoomFederation$EventSet;)V"⟩ ∈ gW := gw_in 245 (by decide +kernel) (by decide +kernel)
theorem w_246 : Cond.selects "RoomFederation$EventSet" ⟨"RoomFederation$EventSet", "addAll", "(LRoomFederation$EventSet;)V"⟩ ⟨"RoomFederation$EventSet", "addAll", "(LRoomFederation$EventSet;)V"⟩ ∈ gW := gw_in 246 (by decide +kernel) (by decide +kernel)
theorem w_247 : Cond.code ⟨"RoomFederation$EventSet", "addAll", "(LRoomFederation$EventSet;)V"⟩ prog_3_method_7_code 3 none ∈ gW := gw_in 247 (by decide +kernel) (by decide +kernel)
theorem w_248 : Cond.methodLink "RoomFederation$Resolver" 112 ⟨"RoomFederation$EventSet", "addAll", "(LRoomFederation$EventSet;)V"⟩ ∈ gW := gw_in 248 (by decide +kernel) (by decide +kernel)
theorem w_249 : Cond.methodLink "RoomFederation$Resolver" 115 ⟨"RoomFederation$EventSet", "copy", "(LRoomFederation$EventSet;)V"⟩ ∈ gW := gw_in 249 (by decide +kernel) (by decide +kernel)
theorem w_250 : Cond.instanceMethod ⟨"RoomFederation$EventSet", "copy", "(LRoomFederation$EventSet;)V"⟩ ∈ gW := gw_in 250 (by decide +kernel) (by decide +kernel)
theorem w_251 : Cond.selects "RoomFederation$EventSet" ⟨"RoomFederation$EventSet", "copy", "(LRoomFederation$EventSet;)V"⟩ ⟨"RoomFederation$EventSet", "copy", "(LRoomFederation$EventSet;)V"⟩ ∈ gW := gw_in 251 (by decide +kernel) (by decide +kernel)
theorem w_252 : Cond.code ⟨"RoomFederation$EventSet", "copy", "(LRoomFederation$EventSet;)V"⟩ prog_3_method_6_code 3 none ∈ gW := gw_in 252 (by decide +kernel) (by decide +kernel)
theorem w_253 : Cond.methodLink "RoomFederation$Resolver" 117 ⟨"RoomFederation$EventSet", "keepAll", "(LRoomFederation$EventSet;)V"⟩ ∈ gW := gw_in 253 (by decide +kernel) (by decide +kernel)
theorem w_254 : Cond.instanceMethod ⟨"RoomFederation$EventSet", "keepAll", "(LRoomFederation$EventSet;)V"⟩ ∈ gW := gw_in 254 (by decide +kernel) (by decide +kernel)
theorem w_255 : Cond.selects "RoomFederation$EventSet" ⟨"RoomFederation$EventSet", "keepAll", "(LRoomFederation$EventSet;)V"⟩ ⟨"RoomFederation$EventSet", "keepAll", "(LRoomFederation$EventSet;)V"⟩ ∈ gW := gw_in 255 (by decide +kernel) (by decide +kernel)
theorem w_256 : Cond.code ⟨"RoomFederation$EventSet", "keepAll", "(LRoomFederation$EventSet;)V"⟩ prog_3_method_8_code 3 none ∈ gW := gw_in 256 (by decide +kernel) (by decide +kernel)
theorem w_257 : Cond.methodLink "RoomFederation$Resolver" 120 ⟨"RoomFederation$EventSet", "removeAll", "(LRoomFederation$EventSet;)V"⟩ ∈ gW := gw_in 257 (by decide +kernel) (by decide +kernel)
theorem w_258 : Cond.instanceMethod ⟨"RoomFederation$EventSet", "removeAll", "(LRoomFederation$EventSet;)V"⟩ ∈ gW := gw_in 258 (by decide +kernel) (by decide +kernel)
theorem w_259 : Cond.selects "RoomFederation$EventSet" ⟨"RoomFederation$EventSet", "removeAll", "(LRoomFederation$EventSet;)V"⟩ ⟨"RoomFederation$EventSet", "removeAll", "(LRoomFederation$EventSet;)V"⟩ ∈ gW := gw_in 259 (by decide +kernel) (by decide +kernel)
theorem w_260 : Cond.code ⟨"RoomFederation$EventSet", "removeAll", "(LRoomFederation$EventSet;)V"⟩ prog_3_method_9_code 3 none ∈ gW := gw_in 260 (by decide +kernel) (by decide +kernel)
theorem w_261 : Cond.constantLong "RoomFederation$EventSet" 15 (Int64.ofBitVec (BitVec.ofInt 64 (-1))) ∈ gW := gw_in 261 (by decide +kernel) (by decide +kernel)
theorem w_262 : Cond.methodLink "RoomFederation$Resolver" 123 ⟨"RoomFederation$State", "addUnlikeTo", "(LRoomFederation$EventSet;LRoomFederation$State;)V"⟩ ∈ gW := gw_in 262 (by decide +kernel) (by decide +kernel)
theorem w_263 : Cond.instanceMethod ⟨"RoomFederation$State", "addUnlikeTo", "(LRoomFederation$EventSet;LRoomFederation$State;)V"⟩ ∈ gW := gw_in 263 (by decide +kernel) (by decide +kernel)
theorem w_264 : Cond.selects "RoomFederation$State" ⟨"RoomFederation$State", "addUnlikeTo", "(LRoomFederation$EventSet;LRoomFederation$State;)V"⟩ ⟨"RoomFederation$State", "addUnlikeTo", "(LRoomFederation$EventSet;LRoomFederation$State;)V"⟩ ∈ gW := gw_in 264 (by decide +kernel) (by decide +kernel)
theorem w_265 : Cond.code ⟨"RoomFederation$State", "addUnlikeTo", "(LRoomFederation$EventSet;LRoomFederation$State;)V"⟩ prog_8_method_11_code 4 none ∈ gW := gw_in 265 (by decide +kernel) (by decide +kernel)
theorem w_266 : Cond.methodLink "RoomFederation$Resolver" 79 ⟨"RoomFederation$Resolver", "partPowers", "(LRoomFederation$Log;)V"⟩ ∈ gW := gw_in 266 (by decide +kernel) (by decide +kernel)
theorem w_268 : Cond.instanceMethod ⟨"RoomFederation$Resolver", "partPowers", "(LRoomFederation$Log;)V"⟩ ∈ gW := gw_in 268 (by decide +kernel) (by decide +kernel)
theorem w_269 : Cond.code ⟨"RoomFederation$Resolver", "partPowers", "(LRoomFederation$Log;)V"⟩ prog_6_method_6_code 4 none ∈ gW := gw_in 269 (by decide +kernel) (by decide +kernel)
theorem w_270 : Cond.methodLink "RoomFederation$Resolver" 127 ⟨"RoomFederation$Log", "size", "()I"⟩ ∈ gW := gw_in 270 (by decide +kernel) (by decide +kernel)
theorem w_271 : Cond.methodLink "RoomFederation$Resolver" 133 ⟨"RoomFederation$EventSet", "has", "(I)Z"⟩ ∈ gW := gw_in 271 (by decide +kernel) (by decide +kernel)
theorem w_272 : Cond.methodLink "RoomFederation$Resolver" 137 ⟨"RoomFederation$Log", "find", "(I)LRoomFederation$Event;"⟩ ∈ gW := gw_in 272 (by decide +kernel) (by decide +kernel)
theorem w_273 : Cond.methodLink "RoomFederation$Resolver" 141 ⟨"RoomFederation$Event", "isPowerful", "()Z"⟩ ∈ gW := gw_in 273 (by decide +kernel) (by decide +kernel)
theorem w_274 : Cond.instanceMethod ⟨"RoomFederation$Event", "isPowerful", "()Z"⟩ ∈ gW := gw_in 274 (by decide +kernel) (by decide +kernel)
theorem w_275 : Cond.selects "RoomFederation$Event" ⟨"RoomFederation$Event", "isPowerful", "()Z"⟩ ⟨"RoomFederation$Event", "isPowerful", "()Z"⟩ ∈ gW := gw_in 275 (by decide +kernel) (by decide +kernel)
theorem w_276 : Cond.code ⟨"RoomFederation$Event", "isPowerful", "()Z"⟩ prog_2_method_5_code 1 (some .boolean) ∈ gW := gw_in 276 (by decide +kernel) (by decide +kernel)
theorem w_277 : Cond.methodLink "RoomFederation$Resolver" 145 ⟨"RoomFederation$EventSet", "add", "(I)V"⟩ ∈ gW := gw_in 277 (by decide +kernel) (by decide +kernel)
theorem w_278 : Cond.methodLink "RoomFederation$Resolver" 87 ⟨"RoomFederation$Resolver", "orderOne", "(LRoomFederation$Log;)I"⟩ ∈ gW := gw_in 278 (by decide +kernel) (by decide +kernel)
theorem w_280 : Cond.instanceMethod ⟨"RoomFederation$Resolver", "orderOne", "(LRoomFederation$Log;)I"⟩ ∈ gW := gw_in 280 (by decide +kernel) (by decide +kernel)
theorem w_281 : Cond.code ⟨"RoomFederation$Resolver", "orderOne", "(LRoomFederation$Log;)I"⟩ prog_6_method_8_code 5 (some .int) ∈ gW := gw_in 281 (by decide +kernel) (by decide +kernel)
theorem w_282 : Cond.methodLink "RoomFederation$Resolver" 150 ⟨"RoomFederation$Resolver", "list", "(LRoomFederation$EventSet;LRoomFederation$Log;)I"⟩ ∈ gW := gw_in 282 (by decide +kernel) (by decide +kernel)
theorem w_284 : Cond.instanceMethod ⟨"RoomFederation$Resolver", "list", "(LRoomFederation$EventSet;LRoomFederation$Log;)I"⟩ ∈ gW := gw_in 284 (by decide +kernel) (by decide +kernel)
theorem w_285 : Cond.code ⟨"RoomFederation$Resolver", "list", "(LRoomFederation$EventSet;LRoomFederation$Log;)I"⟩ prog_6_method_7_code 5 (some .int) ∈ gW := gw_in 285 (by decide +kernel) (by decide +kernel)
theorem w_286 : Cond.methodLink "RoomFederation$Resolver" 154 ⟨"RoomFederation$Resolver", "firstFree", "(I)I"⟩ ∈ gW := gw_in 286 (by decide +kernel) (by decide +kernel)
theorem w_288 : Cond.instanceMethod ⟨"RoomFederation$Resolver", "firstFree", "(I)I"⟩ ∈ gW := gw_in 288 (by decide +kernel) (by decide +kernel)
theorem w_289 : Cond.code ⟨"RoomFederation$Resolver", "firstFree", "(I)I"⟩ prog_6_method_9_code 5 (some .int) ∈ gW := gw_in 289 (by decide +kernel) (by decide +kernel)
theorem w_290 : Cond.methodLink "RoomFederation$Resolver" 165 ⟨"RoomFederation$Resolver", "isAhead", "(LRoomFederation$Event;LRoomFederation$Event;)Z"⟩ ∈ gW := gw_in 290 (by decide +kernel) (by decide +kernel)
theorem w_291 : Cond.static ⟨"RoomFederation$Resolver", "isAhead", "(LRoomFederation$Event;LRoomFederation$Event;)Z"⟩ ∈ gW := gw_in 291 (by decide +kernel) (by decide +kernel)
theorem w_292 : Cond.code ⟨"RoomFederation$Resolver", "isAhead", "(LRoomFederation$Event;LRoomFederation$Event;)Z"⟩ prog_6_method_10_code 2 (some .boolean) ∈ gW := gw_in 292 (by decide +kernel) (by decide +kernel)
theorem w_293 : Cond.methodLink "RoomFederation$Resolver" 176 ⟨"RoomFederation$Event", "isOlderThan", "(LRoomFederation$Event;)Z"⟩ ∈ gW := gw_in 293 (by decide +kernel) (by decide +kernel)
theorem w_294 : Cond.instanceMethod ⟨"RoomFederation$Event", "isOlderThan", "(LRoomFederation$Event;)Z"⟩ ∈ gW := gw_in 294 (by decide +kernel) (by decide +kernel)
theorem w_295 : Cond.selects "RoomFederation$Event" ⟨"RoomFederation$Event", "isOlderThan", "(LRoomFederation$Event;)Z"⟩ ⟨"RoomFederation$Event", "isOlderThan", "(LRoomFederation$Event;)Z"⟩ ∈ gW := gw_in 295 (by decide +kernel) (by decide +kernel)
theorem w_296 : Cond.code ⟨"RoomFederation$Event", "isOlderThan", "(LRoomFederation$Event;)Z"⟩ prog_2_method_6_code 2 (some .boolean) ∈ gW := gw_in 296 (by decide +kernel) (by decide +kernel)
theorem w_297 : Cond.methodLink "RoomFederation$Resolver" 169 ⟨"RoomFederation$EventSet", "meets", "(LRoomFederation$EventSet;)Z"⟩ ∈ gW := gw_in 297 (by decide +kernel) (by decide +kernel)
theorem w_298 : Cond.instanceMethod ⟨"RoomFederation$EventSet", "meets", "(LRoomFederation$EventSet;)Z"⟩ ∈ gW := gw_in 298 (by decide +kernel) (by decide +kernel)
theorem w_299 : Cond.selects "RoomFederation$EventSet" ⟨"RoomFederation$EventSet", "meets", "(LRoomFederation$EventSet;)Z"⟩ ⟨"RoomFederation$EventSet", "meets", "(LRoomFederation$EventSet;)Z"⟩ ∈ gW := gw_in 299 (by decide +kernel) (by decide +kernel)
theorem w_300 : Cond.code ⟨"RoomFederation$EventSet", "meets", "(LRoomFederation$EventSet;)Z"⟩ prog_3_method_10_code 3 (some .boolean) ∈ gW := gw_in 300 (by decide +kernel) (by decide +kernel)
theorem w_301 : Cond.methodLink "RoomFederation$Resolver" 162 ⟨"RoomFederation$EventSet", "remove", "(I)V"⟩ ∈ gW := gw_in 301 (by decide +kernel) (by decide +kernel)
theorem w_302 : Cond.instanceMethod ⟨"RoomFederation$EventSet", "remove", "(I)V"⟩ ∈ gW := gw_in 302 (by decide +kernel) (by decide +kernel)
theorem w_303 : Cond.selects "RoomFederation$EventSet" ⟨"RoomFederation$EventSet", "remove", "(I)V"⟩ ⟨"RoomFederation$EventSet", "remove", "(I)V"⟩ ∈ gW := gw_in 303 (by decide +kernel) (by decide +kernel)
theorem w_304 : Cond.code ⟨"RoomFederation$EventSet", "remove", "(I)V"⟩ prog_3_method_4_code 2 none ∈ gW := gw_in 304 (by decide +kernel) (by decide +kernel)
theorem w_305 : Cond.methodLink "RoomFederation$Resolver" 91 ⟨"RoomFederation$Resolver", "tryQueue", "(ILRoomFederation$State;)V"⟩ ∈ gW := gw_in 305 (by decide +kernel) (by decide +kernel)
theorem w_307 : Cond.instanceMethod ⟨"RoomFederation$Resolver", "tryQueue", "(ILRoomFederation$State;)V"⟩ ∈ gW := gw_in 307 (by decide +kernel) (by decide +kernel)
theorem w_308 : Cond.code ⟨"RoomFederation$Resolver", "tryQueue", "(ILRoomFederation$State;)V"⟩ prog_6_method_15_code 4 none ∈ gW := gw_in 308 (by decide +kernel) (by decide +kernel)
theorem w_309 : Cond.methodLink "RoomFederation$Resolver" 202 ⟨"RoomFederation$State", "fillFrom", "(LRoomFederation$State;)V"⟩ ∈ gW := gw_in 309 (by decide +kernel) (by decide +kernel)
theorem w_310 : Cond.instanceMethod ⟨"RoomFederation$State", "fillFrom", "(LRoomFederation$State;)V"⟩ ∈ gW := gw_in 310 (by decide +kernel) (by decide +kernel)
theorem w_311 : Cond.selects "RoomFederation$State" ⟨"RoomFederation$State", "fillFrom", "(LRoomFederation$State;)V"⟩ ⟨"RoomFederation$State", "fillFrom", "(LRoomFederation$State;)V"⟩ ∈ gW := gw_in 311 (by decide +kernel) (by decide +kernel)
theorem w_312 : Cond.code ⟨"RoomFederation$State", "fillFrom", "(LRoomFederation$State;)V"⟩ prog_8_method_7_code 3 none ∈ gW := gw_in 312 (by decide +kernel) (by decide +kernel)
theorem w_313 : Cond.methodLink "RoomFederation$Resolver" 205 ⟨"RoomFederation$Law", "allows", "(LRoomFederation$State;LRoomFederation$Event;)Z"⟩ ∈ gW := gw_in 313 (by decide +kernel) (by decide +kernel)
theorem w_314 : Cond.static ⟨"RoomFederation$Law", "allows", "(LRoomFederation$State;LRoomFederation$Event;)Z"⟩ ∈ gW := gw_in 314 (by decide +kernel) (by decide +kernel)
theorem w_315 : Cond.code ⟨"RoomFederation$Law", "allows", "(LRoomFederation$State;LRoomFederation$Event;)Z"⟩ prog_4_method_5_code 3 (some .boolean) ∈ gW := gw_in 315 (by decide +kernel) (by decide +kernel)
theorem w_316 : Cond.methodLink "RoomFederation$Law" 24 ⟨"RoomFederation$State", "at", "(I)LRoomFederation$Event;"⟩ ∈ gW := gw_in 316 (by decide +kernel) (by decide +kernel)
theorem w_317 : Cond.instanceMethod ⟨"RoomFederation$State", "at", "(I)LRoomFederation$Event;"⟩ ∈ gW := gw_in 317 (by decide +kernel) (by decide +kernel)
theorem w_318 : Cond.selects "RoomFederation$State" ⟨"RoomFederation$State", "at", "(I)LRoomFederation$Event;"⟩ ⟨"RoomFederation$State", "at", "(I)LRoomFederation$Event;"⟩ ∈ gW := gw_in 318 (by decide +kernel) (by decide +kernel)
theorem w_319 : Cond.code ⟨"RoomFederation$State", "at", "(I)LRoomFederation$Event;"⟩ prog_8_method_3_code 2 (some (.object "RoomFederation$Event")) ∈ gW := gw_in 319 (by decide +kernel) (by decide +kernel)
theorem w_320 : Cond.methodLink "RoomFederation$Law" 46 ⟨"RoomFederation$Law", "allowsMember", "(LRoomFederation$State;LRoomFederation$Event;)Z"⟩ ∈ gW := gw_in 320 (by decide +kernel) (by decide +kernel)
theorem w_321 : Cond.static ⟨"RoomFederation$Law", "allowsMember", "(LRoomFederation$State;LRoomFederation$Event;)Z"⟩ ∈ gW := gw_in 321 (by decide +kernel) (by decide +kernel)
theorem w_322 : Cond.code ⟨"RoomFederation$Law", "allowsMember", "(LRoomFederation$State;LRoomFederation$Event;)Z"⟩ prog_4_method_6_code 5 (some .boolean) ∈ gW := gw_in 322 (by decide +kernel) (by decide +kernel)
theorem w_323 : Cond.methodLink "RoomFederation$Law" 50 ⟨"RoomFederation$State", "membershipOf", "(I)I"⟩ ∈ gW := gw_in 323 (by decide +kernel) (by decide +kernel)
theorem w_324 : Cond.instanceMethod ⟨"RoomFederation$State", "membershipOf", "(I)I"⟩ ∈ gW := gw_in 324 (by decide +kernel) (by decide +kernel)
theorem w_325 : Cond.selects "RoomFederation$State" ⟨"RoomFederation$State", "membershipOf", "(I)I"⟩ ⟨"RoomFederation$State", "membershipOf", "(I)I"⟩ ∈ gW := gw_in 325 (by decide +kernel) (by decide +kernel)
theorem w_326 : Cond.code ⟨"RoomFederation$State", "membershipOf", "(I)I"⟩ prog_8_method_15_code 3 (some .int) ∈ gW := gw_in 326 (by decide +kernel) (by decide +kernel)
theorem w_327 : Cond.methodLink "RoomFederation$Law" 63 ⟨"RoomFederation$State", "isOpen", "()Z"⟩ ∈ gW := gw_in 327 (by decide +kernel) (by decide +kernel)
theorem w_328 : Cond.instanceMethod ⟨"RoomFederation$State", "isOpen", "()Z"⟩ ∈ gW := gw_in 328 (by decide +kernel) (by decide +kernel)
theorem w_329 : Cond.selects "RoomFederation$State" ⟨"RoomFederation$State", "isOpen", "()Z"⟩ ⟨"RoomFederation$State", "isOpen", "()Z"⟩ ∈ gW := gw_in 329 (by decide +kernel) (by decide +kernel)
theorem w_330 : Cond.code ⟨"RoomFederation$State", "isOpen", "()Z"⟩ prog_8_method_17_code 2 (some .boolean) ∈ gW := gw_in 330 (by decide +kernel) (by decide +kernel)
theorem w_331 : Cond.methodLink "RoomFederation$Law" 67 ⟨"RoomFederation$State", "awaitsMaker", "(I)Z"⟩ ∈ gW := gw_in 331 (by decide +kernel) (by decide +kernel)
theorem w_332 : Cond.instanceMethod ⟨"RoomFederation$State", "awaitsMaker", "(I)Z"⟩ ∈ gW := gw_in 332 (by decide +kernel) (by decide +kernel)
theorem w_333 : Cond.selects "RoomFederation$State" ⟨"RoomFederation$State", "awaitsMaker", "(I)Z"⟩ ⟨"RoomFederation$State", "awaitsMaker", "(I)Z"⟩ ∈ gW := gw_in 333 (by decide +kernel) (by decide +kernel)
theorem w_334 : Cond.code ⟨"RoomFederation$State", "awaitsMaker", "(I)Z"⟩ prog_8_method_16_code 3 (some .boolean) ∈ gW := gw_in 334 (by decide +kernel) (by decide +kernel)
theorem w_335 : Cond.methodLink "RoomFederation$Law" 54 ⟨"RoomFederation$State", "levelOf", "(I)I"⟩ ∈ gW := gw_in 335 (by decide +kernel) (by decide +kernel)
theorem w_336 : Cond.instanceMethod ⟨"RoomFederation$State", "levelOf", "(I)I"⟩ ∈ gW := gw_in 336 (by decide +kernel) (by decide +kernel)
theorem w_337 : Cond.selects "RoomFederation$State" ⟨"RoomFederation$State", "levelOf", "(I)I"⟩ ⟨"RoomFederation$State", "levelOf", "(I)I"⟩ ∈ gW := gw_in 337 (by decide +kernel) (by decide +kernel)
theorem w_338 : Cond.code ⟨"RoomFederation$State", "levelOf", "(I)I"⟩ prog_8_method_14_code 4 (some .int) ∈ gW := gw_in 338 (by decide +kernel) (by decide +kernel)
theorem w_339 : Cond.methodLink "RoomFederation$Law" 57 ⟨"RoomFederation$Law", "allowsLevels", "(LRoomFederation$State;LRoomFederation$Event;)Z"⟩ ∈ gW := gw_in 339 (by decide +kernel) (by decide +kernel)
theorem w_340 : Cond.static ⟨"RoomFederation$Law", "allowsLevels", "(LRoomFederation$State;LRoomFederation$Event;)Z"⟩ ∈ gW := gw_in 340 (by decide +kernel) (by decide +kernel)
theorem w_341 : Cond.code ⟨"RoomFederation$Law", "allowsLevels", "(LRoomFederation$State;LRoomFederation$Event;)Z"⟩ prog_4_method_7_code 6 (some .boolean) ∈ gW := gw_in 341 (by decide +kernel) (by decide +kernel)
theorem w_342 : Cond.methodLink "RoomFederation$Resolver" 211 ⟨"RoomFederation$State", "put", "(LRoomFederation$Event;)V"⟩ ∈ gW := gw_in 342 (by decide +kernel) (by decide +kernel)
theorem w_343 : Cond.instanceMethod ⟨"RoomFederation$State", "put", "(LRoomFederation$Event;)V"⟩ ∈ gW := gw_in 343 (by decide +kernel) (by decide +kernel)
theorem w_344 : Cond.selects "RoomFederation$State" ⟨"RoomFederation$State", "put", "(LRoomFederation$Event;)V"⟩ ⟨"RoomFederation$State", "put", "(LRoomFederation$Event;)V"⟩ ∈ gW := gw_in 344 (by decide +kernel) (by decide +kernel)
theorem w_345 : Cond.code ⟨"RoomFederation$State", "put", "(LRoomFederation$Event;)V"⟩ prog_8_method_4_code 2 none ∈ gW := gw_in 345 (by decide +kernel) (by decide +kernel)
theorem w_346 : Cond.methodLink "RoomFederation$Resolver" 95 ⟨"RoomFederation$Resolver", "orderTwo", "(LRoomFederation$State;LRoomFederation$Log;)I"⟩ ∈ gW := gw_in 346 (by decide +kernel) (by decide +kernel)
theorem w_348 : Cond.instanceMethod ⟨"RoomFederation$Resolver", "orderTwo", "(LRoomFederation$State;LRoomFederation$Log;)I"⟩ ∈ gW := gw_in 348 (by decide +kernel) (by decide +kernel)
theorem w_349 : Cond.code ⟨"RoomFederation$Resolver", "orderTwo", "(LRoomFederation$State;LRoomFederation$Log;)I"⟩ prog_6_method_11_code 9 (some .int) ∈ gW := gw_in 349 (by decide +kernel) (by decide +kernel)
theorem w_350 : Cond.methodLink "RoomFederation$Resolver" 180 ⟨"RoomFederation$Resolver", "rankMainline", "(LRoomFederation$State;)I"⟩ ∈ gW := gw_in 350 (by decide +kernel) (by decide +kernel)
theorem w_352 : Cond.instanceMethod ⟨"RoomFederation$Resolver", "rankMainline", "(LRoomFederation$State;)I"⟩ ∈ gW := gw_in 352 (by decide +kernel) (by decide +kernel)
theorem w_353 : Cond.code ⟨"RoomFederation$Resolver", "rankMainline", "(LRoomFederation$State;)I"⟩ prog_6_method_13_code 4 (some .int) ∈ gW := gw_in 353 (by decide +kernel) (by decide +kernel)
theorem w_354 : Cond.methodLink "RoomFederation$Resolver" 192 ⟨"RoomFederation$State", "at", "(I)LRoomFederation$Event;"⟩ ∈ gW := gw_in 354 (by decide +kernel) (by decide +kernel)
theorem w_355 : Cond.methodLink "RoomFederation$Resolver" 195 ⟨"RoomFederation$Event", "powerBelow", "()LRoomFederation$Event;"⟩ ∈ gW := gw_in 355 (by decide +kernel) (by decide +kernel)
theorem w_356 : Cond.instanceMethod ⟨"RoomFederation$Event", "powerBelow", "()LRoomFederation$Event;"⟩ ∈ gW := gw_in 356 (by decide +kernel) (by decide +kernel)
theorem w_357 : Cond.selects "RoomFederation$Event" ⟨"RoomFederation$Event", "powerBelow", "()LRoomFederation$Event;"⟩ ⟨"RoomFederation$Event", "powerBelow", "()LRoomFederation$Event;"⟩ ∈ gW := gw_in 357 (by decide +kernel) (by decide +kernel)
theorem w_358 : Cond.code ⟨"RoomFederation$Event", "powerBelow", "()LRoomFederation$Event;"⟩ prog_2_method_7_code 1 (some (.object "RoomFederation$Event")) ∈ gW := gw_in 358 (by decide +kernel) (by decide +kernel)
theorem w_359 : Cond.methodLink "RoomFederation$Event" 98 ⟨"RoomFederation$State", "at", "(I)LRoomFederation$Event;"⟩ ∈ gW := gw_in 359 (by decide +kernel) (by decide +kernel)
theorem w_360 : Cond.methodLink "RoomFederation$Resolver" 184 ⟨"RoomFederation$Resolver", "rankOf", "(LRoomFederation$Event;I)I"⟩ ∈ gW := gw_in 360 (by decide +kernel) (by decide +kernel)
theorem w_362 : Cond.instanceMethod ⟨"RoomFederation$Resolver", "rankOf", "(LRoomFederation$Event;I)I"⟩ ∈ gW := gw_in 362 (by decide +kernel) (by decide +kernel)
theorem w_363 : Cond.code ⟨"RoomFederation$Resolver", "rankOf", "(LRoomFederation$Event;I)I"⟩ prog_6_method_14_code 5 (some .int) ∈ gW := gw_in 363 (by decide +kernel) (by decide +kernel)
theorem w_364 : Cond.methodLink "RoomFederation$Resolver" 188 ⟨"RoomFederation$Resolver", "comesLater", "(LRoomFederation$Event;LRoomFederation$Event;I)Z"⟩ ∈ gW := gw_in 364 (by decide +kernel) (by decide +kernel)
theorem w_366 : Cond.instanceMethod ⟨"RoomFederation$Resolver", "comesLater", "(LRoomFederation$Event;LRoomFederation$Event;I)Z"⟩ ∈ gW := gw_in 366 (by decide +kernel) (by decide +kernel)
theorem w_367 : Cond.code ⟨"RoomFederation$Resolver", "comesLater", "(LRoomFederation$Event;LRoomFederation$Event;I)Z"⟩ prog_6_method_12_code 5 (some .boolean) ∈ gW := gw_in 367 (by decide +kernel) (by decide +kernel)
theorem w_368 : Cond.methodLink "RoomFederation$Resolver" 99 ⟨"RoomFederation$State", "overlay", "(LRoomFederation$State;)V"⟩ ∈ gW := gw_in 368 (by decide +kernel) (by decide +kernel)
theorem w_369 : Cond.instanceMethod ⟨"RoomFederation$State", "overlay", "(LRoomFederation$State;)V"⟩ ∈ gW := gw_in 369 (by decide +kernel) (by decide +kernel)
theorem w_370 : Cond.selects "RoomFederation$State" ⟨"RoomFederation$State", "overlay", "(LRoomFederation$State;)V"⟩ ⟨"RoomFederation$State", "overlay", "(LRoomFederation$State;)V"⟩ ∈ gW := gw_in 370 (by decide +kernel) (by decide +kernel)
theorem w_371 : Cond.code ⟨"RoomFederation$State", "overlay", "(LRoomFederation$State;)V"⟩ prog_8_method_8_code 3 none ∈ gW := gw_in 371 (by decide +kernel) (by decide +kernel)
theorem w_372 : Cond.classLink "RoomFederation" 44 "RoomFederation$Event" ∈ gW := gw_in 372 (by decide +kernel) (by decide +kernel)
theorem w_373 : Cond.instantiable "RoomFederation$Event" 16 ∈ gW := gw_in 373 (by decide +kernel) (by decide +kernel)
theorem w_374 : Cond.methodLink "RoomFederation" 46 ⟨"RoomFederation$Log", "size", "()I"⟩ ∈ gW := gw_in 374 (by decide +kernel) (by decide +kernel)
theorem w_375 : Cond.methodLink "RoomFederation" 50 ⟨"RoomFederation$Event", "<init>", "(IIIIII)V"⟩ ∈ gW := gw_in 375 (by decide +kernel) (by decide +kernel)
theorem w_376 : Cond.instanceMethod ⟨"RoomFederation$Event", "<init>", "(IIIIII)V"⟩ ∈ gW := gw_in 376 (by decide +kernel) (by decide +kernel)
theorem w_377 : Cond.code ⟨"RoomFederation$Event", "<init>", "(IIIIII)V"⟩ prog_2_method_1_code 7 none ∈ gW := gw_in 377 (by decide +kernel) (by decide +kernel)
theorem w_378 : Cond.methodLink "RoomFederation$Event" 3 ⟨"java/lang/Object", "<init>", "()V"⟩ ∈ gW := gw_in 378 (by decide +kernel) (by decide +kernel)
theorem w_379 : Cond.classLink "RoomFederation$Event" 9 "RoomFederation$EventSet" ∈ gW := gw_in 379 (by decide +kernel) (by decide +kernel)
theorem w_380 : Cond.methodLink "RoomFederation$Event" 11 ⟨"RoomFederation$EventSet", "<init>", "()V"⟩ ∈ gW := gw_in 380 (by decide +kernel) (by decide +kernel)
theorem w_381 : Cond.classLink "RoomFederation$Event" 13 "RoomFederation$Event" ∈ gW := gw_in 381 (by decide +kernel) (by decide +kernel)
theorem w_382 : Cond.constant "RoomFederation$Event" 62 40503 ∈ gW := gw_in 382 (by decide +kernel) (by decide +kernel)
theorem w_383 : Cond.constant "RoomFederation$Event" 63 65536 ∈ gW := gw_in 383 (by decide +kernel) (by decide +kernel)
theorem w_384 : Cond.methodLink "RoomFederation$Event" 67 ⟨"RoomFederation$State", "placeOf", "(II)I"⟩ ∈ gW := gw_in 384 (by decide +kernel) (by decide +kernel)
theorem w_385 : Cond.static ⟨"RoomFederation$State", "placeOf", "(II)I"⟩ ∈ gW := gw_in 385 (by decide +kernel) (by decide +kernel)
theorem w_386 : Cond.code ⟨"RoomFederation$State", "placeOf", "(II)I"⟩ prog_8_method_2_code 2 (some .int) ∈ gW := gw_in 386 (by decide +kernel) (by decide +kernel)
theorem w_387 : Cond.fieldLink "RoomFederation$Event" 44 "RoomFederation$Event" "number" "I" ∈ gW := gw_in 387 (by decide +kernel) (by decide +kernel)
theorem w_388 : Cond.fieldLink "RoomFederation$Resolver" 158 "RoomFederation$Event" "number" "I" ∈ gW := gw_in 388 (by decide +kernel) (by decide +kernel)
theorem w_389 : Cond.fieldLink "RoomFederation$State" 30 "RoomFederation$Event" "number" "I" ∈ gW := gw_in 389 (by decide +kernel) (by decide +kernel)
theorem w_390 : Cond.fieldLink "RoomFederation$Server" 54 "RoomFederation$Event" "number" "I" ∈ gW := gw_in 390 (by decide +kernel) (by decide +kernel)
theorem w_391 : Cond.fieldLink "RoomFederation" 176 "RoomFederation$Event" "number" "I" ∈ gW := gw_in 391 (by decide +kernel) (by decide +kernel)
theorem w_392 : Cond.fieldLink "RoomFederation$Event" 47 "RoomFederation$Event" "sender" "I" ∈ gW := gw_in 392 (by decide +kernel) (by decide +kernel)
theorem w_393 : Cond.fieldLink "RoomFederation$Law" 32 "RoomFederation$Event" "sender" "I" ∈ gW := gw_in 393 (by decide +kernel) (by decide +kernel)
theorem w_394 : Cond.fieldLink "RoomFederation" 126 "RoomFederation$Event" "sender" "I" ∈ gW := gw_in 394 (by decide +kernel) (by decide +kernel)
theorem w_395 : Cond.fieldLink "RoomFederation$State" 55 "RoomFederation$Event" "sender" "I" ∈ gW := gw_in 395 (by decide +kernel) (by decide +kernel)
theorem w_396 : Cond.fieldLink "RoomFederation$Event" 50 "RoomFederation$Event" "kind" "I" ∈ gW := gw_in 396 (by decide +kernel) (by decide +kernel)
theorem w_397 : Cond.fieldLink "RoomFederation$Law" 18 "RoomFederation$Event" "kind" "I" ∈ gW := gw_in 397 (by decide +kernel) (by decide +kernel)
theorem w_398 : Cond.fieldLink "RoomFederation" 130 "RoomFederation$Event" "kind" "I" ∈ gW := gw_in 398 (by decide +kernel) (by decide +kernel)
theorem w_399 : Cond.fieldLink "RoomFederation$Event" 53 "RoomFederation$Event" "a" "I" ∈ gW := gw_in 399 (by decide +kernel) (by decide +kernel)
theorem w_400 : Cond.fieldLink "RoomFederation$Law" 39 "RoomFederation$Event" "a" "I" ∈ gW := gw_in 400 (by decide +kernel) (by decide +kernel)
theorem w_401 : Cond.fieldLink "RoomFederation" 133 "RoomFederation$Event" "a" "I" ∈ gW := gw_in 401 (by decide +kernel) (by decide +kernel)
theorem w_402 : Cond.fieldLink "RoomFederation$Event" 56 "RoomFederation$Event" "b" "I" ∈ gW := gw_in 402 (by decide +kernel) (by decide +kernel)
theorem w_403 : Cond.fieldLink "RoomFederation$Law" 60 "RoomFederation$Event" "b" "I" ∈ gW := gw_in 403 (by decide +kernel) (by decide +kernel)
theorem w_404 : Cond.fieldLink "RoomFederation" 136 "RoomFederation$Event" "b" "I" ∈ gW := gw_in 404 (by decide +kernel) (by decide +kernel)
theorem w_405 : Cond.fieldLink "RoomFederation$State" 58 "RoomFederation$Event" "b" "I" ∈ gW := gw_in 405 (by decide +kernel) (by decide +kernel)
theorem w_406 : Cond.fieldLink "RoomFederation$Event" 59 "RoomFederation$Event" "time" "I" ∈ gW := gw_in 406 (by decide +kernel) (by decide +kernel)
theorem w_407 : Cond.fieldLink "RoomFederation$Event" 64 "RoomFederation$Event" "id" "I" ∈ gW := gw_in 407 (by decide +kernel) (by decide +kernel)
theorem w_408 : Cond.fieldLink "RoomFederation" 149 "RoomFederation$Event" "id" "I" ∈ gW := gw_in 408 (by decide +kernel) (by decide +kernel)
theorem w_409 : Cond.fieldLink "RoomFederation$Event" 73 "RoomFederation$Event" "place" "I" ∈ gW := gw_in 409 (by decide +kernel) (by decide +kernel)
theorem w_410 : Cond.fieldLink "RoomFederation$State" 17 "RoomFederation$Event" "place" "I" ∈ gW := gw_in 410 (by decide +kernel) (by decide +kernel)
theorem w_411 : Cond.fieldLink "RoomFederation$Event" 12 "RoomFederation$Event" "chain" "LRoomFederation$EventSet;" ∈ gW := gw_in 411 (by decide +kernel) (by decide +kernel)
theorem w_412 : Cond.fieldLink "RoomFederation$Resolver" 149 "RoomFederation$Event" "chain" "LRoomFederation$EventSet;" ∈ gW := gw_in 412 (by decide +kernel) (by decide +kernel)
theorem w_413 : Cond.fieldLink "RoomFederation$State" 39 "RoomFederation$Event" "chain" "LRoomFederation$EventSet;" ∈ gW := gw_in 413 (by decide +kernel) (by decide +kernel)
theorem w_414 : Cond.fieldLink "RoomFederation$Event" 18 "RoomFederation$Event" "parents" "[LRoomFederation$Event;" ∈ gW := gw_in 414 (by decide +kernel) (by decide +kernel)
theorem w_415 : Cond.fieldLink "RoomFederation" 76 "RoomFederation$Event" "parents" "[LRoomFederation$Event;" ∈ gW := gw_in 415 (by decide +kernel) (by decide +kernel)
theorem w_416 : Cond.fieldLink "RoomFederation$Law" 42 "RoomFederation$Event" "parents" "[LRoomFederation$Event;" ∈ gW := gw_in 416 (by decide +kernel) (by decide +kernel)
theorem w_417 : Cond.fieldLink "RoomFederation$Server" 74 "RoomFederation$Event" "parents" "[LRoomFederation$Event;" ∈ gW := gw_in 417 (by decide +kernel) (by decide +kernel)
theorem w_418 : Cond.fieldLink "RoomFederation$Event" 22 "RoomFederation$Event" "grounds" "LRoomFederation$State;" ∈ gW := gw_in 418 (by decide +kernel) (by decide +kernel)
theorem w_419 : Cond.fieldLink "RoomFederation" 139 "RoomFederation$Event" "grounds" "LRoomFederation$State;" ∈ gW := gw_in 419 (by decide +kernel) (by decide +kernel)
theorem w_420 : Cond.fieldLink "RoomFederation$Resolver" 199 "RoomFederation$Event" "grounds" "LRoomFederation$State;" ∈ gW := gw_in 420 (by decide +kernel) (by decide +kernel)
theorem w_421 : Cond.fieldLink "RoomFederation$Event" 26 "RoomFederation$Event" "senderLevel" "I" ∈ gW := gw_in 421 (by decide +kernel) (by decide +kernel)
theorem w_422 : Cond.fieldLink "RoomFederation$Resolver" 173 "RoomFederation$Event" "senderLevel" "I" ∈ gW := gw_in 422 (by decide +kernel) (by decide +kernel)
theorem w_423 : Cond.fieldLink "RoomFederation$Event" 30 "RoomFederation$Event" "levels" "[I" ∈ gW := gw_in 423 (by decide +kernel) (by decide +kernel)
theorem w_424 : Cond.fieldLink "RoomFederation$Law" 70 "RoomFederation$Event" "levels" "[I" ∈ gW := gw_in 424 (by decide +kernel) (by decide +kernel)
theorem w_425 : Cond.fieldLink "RoomFederation$State" 51 "RoomFederation$Event" "levels" "[I" ∈ gW := gw_in 425 (by decide +kernel) (by decide +kernel)
theorem w_426 : Cond.fieldLink "RoomFederation$Event" 34 "RoomFederation$Event" "earlier" "LRoomFederation$State;" ∈ gW := gw_in 426 (by decide +kernel) (by decide +kernel)
theorem w_427 : Cond.fieldLink "RoomFederation" 122 "RoomFederation$Event" "earlier" "LRoomFederation$State;" ∈ gW := gw_in 427 (by decide +kernel) (by decide +kernel)
theorem w_428 : Cond.fieldLink "RoomFederation$Event" 37 "RoomFederation$Event" "behind" "LRoomFederation$State;" ∈ gW := gw_in 428 (by decide +kernel) (by decide +kernel)
theorem w_429 : Cond.fieldLink "RoomFederation$Resolver" 69 "RoomFederation$Event" "behind" "LRoomFederation$State;" ∈ gW := gw_in 429 (by decide +kernel) (by decide +kernel)
theorem w_430 : Cond.fieldLink "RoomFederation$Event" 40 "RoomFederation$Event" "good" "Z" ∈ gW := gw_in 430 (by decide +kernel) (by decide +kernel)
theorem w_431 : Cond.fieldLink "RoomFederation" 145 "RoomFederation$Event" "good" "Z" ∈ gW := gw_in 431 (by decide +kernel) (by decide +kernel)
theorem w_432 : Cond.fieldLink "RoomFederation$State" 47 "RoomFederation$Event" "good" "Z" ∈ gW := gw_in 432 (by decide +kernel) (by decide +kernel)
theorem w_433 : Cond.laysFinal "RoomFederation$Event" "RoomFederation$Event" "number" "I" ∈ gW := gw_in 433 (by decide +kernel) (by decide +kernel)
theorem w_435 : Cond.laysFinal "RoomFederation$Event" "RoomFederation$Event" "sender" "I" ∈ gW := gw_in 435 (by decide +kernel) (by decide +kernel)
theorem w_437 : Cond.laysFinal "RoomFederation$Event" "RoomFederation$Event" "kind" "I" ∈ gW := gw_in 437 (by decide +kernel) (by decide +kernel)
theorem w_439 : Cond.laysFinal "RoomFederation$Event" "RoomFederation$Event" "a" "I" ∈ gW := gw_in 439 (by decide +kernel) (by decide +kernel)
theorem w_441 : Cond.laysFinal "RoomFederation$Event" "RoomFederation$Event" "b" "I" ∈ gW := gw_in 441 (by decide +kernel) (by decide +kernel)
theorem w_443 : Cond.laysFinal "RoomFederation$Event" "RoomFederation$Event" "time" "I" ∈ gW := gw_in 443 (by decide +kernel) (by decide +kernel)
theorem w_445 : Cond.laysFinal "RoomFederation$Event" "RoomFederation$Event" "id" "I" ∈ gW := gw_in 445 (by decide +kernel) (by decide +kernel)
theorem w_447 : Cond.laysFinal "RoomFederation$Event" "RoomFederation$Event" "place" "I" ∈ gW := gw_in 447 (by decide +kernel) (by decide +kernel)
theorem w_449 : Cond.laysFinal "RoomFederation$Event" "RoomFederation$Event" "chain" "LRoomFederation$EventSet;" ∈ gW := gw_in 449 (by decide +kernel) (by decide +kernel)
theorem w_451 : Cond.lays "RoomFederation$Event" "RoomFederation$Event" "parents" "[LRoomFederation$Event;" ∈ gW := gw_in 451 (by decide +kernel) (by decide +kernel)
theorem w_453 : Cond.lays "RoomFederation$Event" "RoomFederation$Event" "grounds" "LRoomFederation$State;" ∈ gW := gw_in 453 (by decide +kernel) (by decide +kernel)
theorem w_455 : Cond.lays "RoomFederation$Event" "RoomFederation$Event" "senderLevel" "I" ∈ gW := gw_in 455 (by decide +kernel) (by decide +kernel)
theorem w_457 : Cond.lays "RoomFederation$Event" "RoomFederation$Event" "levels" "[I" ∈ gW := gw_in 457 (by decide +kernel) (by decide +kernel)
theorem w_459 : Cond.lays "RoomFederation$Event" "RoomFederation$Event" "earlier" "LRoomFederation$State;" ∈ gW := gw_in 459 (by decide +kernel) (by decide +kernel)
theorem w_461 : Cond.lays "RoomFederation$Event" "RoomFederation$Event" "behind" "LRoomFederation$State;" ∈ gW := gw_in 461 (by decide +kernel) (by decide +kernel)
theorem w_463 : Cond.lays "RoomFederation$Event" "RoomFederation$Event" "good" "Z" ∈ gW := gw_in 463 (by decide +kernel) (by decide +kernel)
theorem w_466 : Cond.methodLink "RoomFederation" 53 ⟨"RoomFederation$Server", "latestHeads", "(LRoomFederation$Log;)[LRoomFederation$Event;"⟩ ∈ gW := gw_in 466 (by decide +kernel) (by decide +kernel)
theorem w_467 : Cond.instanceMethod ⟨"RoomFederation$Server", "latestHeads", "(LRoomFederation$Log;)[LRoomFederation$Event;"⟩ ∈ gW := gw_in 467 (by decide +kernel) (by decide +kernel)
theorem w_468 : Cond.selects "RoomFederation$Server" ⟨"RoomFederation$Server", "latestHeads", "(LRoomFederation$Log;)[LRoomFederation$Event;"⟩ ⟨"RoomFederation$Server", "latestHeads", "(LRoomFederation$Log;)[LRoomFederation$Event;"⟩ ∈ gW := gw_in 468 (by decide +kernel) (by decide +kernel)
theorem w_469 : Cond.code ⟨"RoomFederation$Server", "latestHeads", "(LRoomFederation$Log;)[LRoomFederation$Event;"⟩ prog_7_method_10_code 5 (some (.array (.object "RoomFederation$Event"))) ∈ gW := gw_in 469 (by decide +kernel) (by decide +kernel)
theorem w_470 : Cond.methodLink "RoomFederation$Server" 43 ⟨"RoomFederation$Server", "headCount", "()I"⟩ ∈ gW := gw_in 470 (by decide +kernel) (by decide +kernel)
theorem w_471 : Cond.instanceMethod ⟨"RoomFederation$Server", "headCount", "()I"⟩ ∈ gW := gw_in 471 (by decide +kernel) (by decide +kernel)
theorem w_472 : Cond.selects "RoomFederation$Server" ⟨"RoomFederation$Server", "headCount", "()I"⟩ ⟨"RoomFederation$Server", "headCount", "()I"⟩ ∈ gW := gw_in 472 (by decide +kernel) (by decide +kernel)
theorem w_473 : Cond.code ⟨"RoomFederation$Server", "headCount", "()I"⟩ prog_7_method_6_code 1 (some .int) ∈ gW := gw_in 473 (by decide +kernel) (by decide +kernel)
theorem w_474 : Cond.methodLink "RoomFederation$Server" 32 ⟨"RoomFederation$EventSet", "size", "()I"⟩ ∈ gW := gw_in 474 (by decide +kernel) (by decide +kernel)
theorem w_475 : Cond.instanceMethod ⟨"RoomFederation$EventSet", "size", "()I"⟩ ∈ gW := gw_in 475 (by decide +kernel) (by decide +kernel)
theorem w_476 : Cond.selects "RoomFederation$EventSet" ⟨"RoomFederation$EventSet", "size", "()I"⟩ ⟨"RoomFederation$EventSet", "size", "()I"⟩ ∈ gW := gw_in 476 (by decide +kernel) (by decide +kernel)
theorem w_477 : Cond.code ⟨"RoomFederation$EventSet", "size", "()I"⟩ prog_3_method_11_code 3 (some .int) ∈ gW := gw_in 477 (by decide +kernel) (by decide +kernel)
theorem w_478 : Cond.methodLink "RoomFederation$EventSet" 17 ⟨"java/lang/Long", "bitCount", "(J)I"⟩ ∈ gW := gw_in 478 (by decide +kernel) (by decide +kernel)
theorem w_479 : Cond.static ⟨"java/lang/Long", "bitCount", "(J)I"⟩ ∈ gW := gw_in 479 (by decide +kernel) (by decide +kernel)
theorem w_480 : Cond.code ⟨"java/lang/Long", "bitCount", "(J)I"⟩ prog_11_method_50_code 2 (some .int) ∈ gW := gw_in 480 (by decide +kernel) (by decide +kernel)
theorem w_481 : Cond.constantLong "java/lang/Long" 314 6148914691236517205 ∈ gW := gw_in 481 (by decide +kernel) (by decide +kernel)
theorem w_482 : Cond.constantLong "java/lang/Long" 316 3689348814741910323 ∈ gW := gw_in 482 (by decide +kernel) (by decide +kernel)
theorem w_483 : Cond.constantLong "java/lang/Long" 318 1085102592571150095 ∈ gW := gw_in 483 (by decide +kernel) (by decide +kernel)
theorem w_484 : Cond.methodLink "RoomFederation$Server" 46 ⟨"java/lang/Math", "min", "(II)I"⟩ ∈ gW := gw_in 484 (by decide +kernel) (by decide +kernel)
theorem w_485 : Cond.static ⟨"java/lang/Math", "min", "(II)I"⟩ ∈ gW := gw_in 485 (by decide +kernel) (by decide +kernel)
theorem w_486 : Cond.code ⟨"java/lang/Math", "min", "(II)I"⟩ prog_12_method_69_code 2 (some .int) ∈ gW := gw_in 486 (by decide +kernel) (by decide +kernel)
theorem w_487 : Cond.classLink "RoomFederation$Server" 52 "RoomFederation$Event" ∈ gW := gw_in 487 (by decide +kernel) (by decide +kernel)
theorem w_488 : Cond.methodLink "RoomFederation" 57 ⟨"RoomFederation$Event", "setParents", "([LRoomFederation$Event;)V"⟩ ∈ gW := gw_in 488 (by decide +kernel) (by decide +kernel)
theorem w_489 : Cond.instanceMethod ⟨"RoomFederation$Event", "setParents", "([LRoomFederation$Event;)V"⟩ ∈ gW := gw_in 489 (by decide +kernel) (by decide +kernel)
theorem w_490 : Cond.selects "RoomFederation$Event" ⟨"RoomFederation$Event", "setParents", "([LRoomFederation$Event;)V"⟩ ⟨"RoomFederation$Event", "setParents", "([LRoomFederation$Event;)V"⟩ ∈ gW := gw_in 490 (by decide +kernel) (by decide +kernel)
theorem w_491 : Cond.code ⟨"RoomFederation$Event", "setParents", "([LRoomFederation$Event;)V"⟩ prog_2_method_2_code 2 none ∈ gW := gw_in 491 (by decide +kernel) (by decide +kernel)
theorem w_492 : Cond.methodLink "RoomFederation" 61 ⟨"RoomFederation$Law", "needed", "(LRoomFederation$State;LRoomFederation$Event;)LRoomFederation$State;"⟩ ∈ gW := gw_in 492 (by decide +kernel) (by decide +kernel)
theorem w_493 : Cond.static ⟨"RoomFederation$Law", "needed", "(LRoomFederation$State;LRoomFederation$Event;)LRoomFederation$State;"⟩ ∈ gW := gw_in 493 (by decide +kernel) (by decide +kernel)
theorem w_494 : Cond.code ⟨"RoomFederation$Law", "needed", "(LRoomFederation$State;LRoomFederation$Event;)LRoomFederation$State;"⟩ prog_4_method_4_code 3 (some (.object "RoomFederation$State")) ∈ gW := gw_in 494 (by decide +kernel) (by decide +kernel)
theorem w_495 : Cond.classLink "RoomFederation$Law" 15 "RoomFederation$State" ∈ gW := gw_in 495 (by decide +kernel) (by decide +kernel)
theorem w_496 : Cond.methodLink "RoomFederation$Law" 17 ⟨"RoomFederation$State", "<init>", "()V"⟩ ∈ gW := gw_in 496 (by decide +kernel) (by decide +kernel)
theorem w_497 : Cond.methodLink "RoomFederation$Law" 28 ⟨"RoomFederation$State", "put", "(LRoomFederation$Event;)V"⟩ ∈ gW := gw_in 497 (by decide +kernel) (by decide +kernel)
theorem w_498 : Cond.methodLink "RoomFederation$Law" 35 ⟨"RoomFederation$State", "placeOf", "(II)I"⟩ ∈ gW := gw_in 498 (by decide +kernel) (by decide +kernel)
theorem w_499 : Cond.methodLink "RoomFederation" 65 ⟨"RoomFederation$Event", "setGrounds", "(LRoomFederation$State;)V"⟩ ∈ gW := gw_in 499 (by decide +kernel) (by decide +kernel)
theorem w_500 : Cond.instanceMethod ⟨"RoomFederation$Event", "setGrounds", "(LRoomFederation$State;)V"⟩ ∈ gW := gw_in 500 (by decide +kernel) (by decide +kernel)
theorem w_501 : Cond.selects "RoomFederation$Event" ⟨"RoomFederation$Event", "setGrounds", "(LRoomFederation$State;)V"⟩ ⟨"RoomFederation$Event", "setGrounds", "(LRoomFederation$State;)V"⟩ ∈ gW := gw_in 501 (by decide +kernel) (by decide +kernel)
theorem w_502 : Cond.code ⟨"RoomFederation$Event", "setGrounds", "(LRoomFederation$State;)V"⟩ prog_2_method_3_code 3 none ∈ gW := gw_in 502 (by decide +kernel) (by decide +kernel)
theorem w_503 : Cond.methodLink "RoomFederation$Event" 76 ⟨"RoomFederation$State", "addChainTo", "(LRoomFederation$EventSet;)V"⟩ ∈ gW := gw_in 503 (by decide +kernel) (by decide +kernel)
theorem w_504 : Cond.methodLink "RoomFederation$Event" 80 ⟨"RoomFederation$State", "levelOf", "(I)I"⟩ ∈ gW := gw_in 504 (by decide +kernel) (by decide +kernel)
theorem w_505 : Cond.methodLink "RoomFederation" 69 ⟨"RoomFederation$Law", "allows", "(LRoomFederation$State;LRoomFederation$Event;)Z"⟩ ∈ gW := gw_in 505 (by decide +kernel) (by decide +kernel)
theorem w_506 : Cond.methodLink "RoomFederation" 73 ⟨"RoomFederation$Server", "headCount", "()I"⟩ ∈ gW := gw_in 506 (by decide +kernel) (by decide +kernel)
theorem w_507 : Cond.methodLink "RoomFederation" 80 ⟨"RoomFederation$Resolver", "resolve", "([LRoomFederation$Event;ILRoomFederation$Log;)LRoomFederation$State;"⟩ ∈ gW := gw_in 507 (by decide +kernel) (by decide +kernel)
theorem w_508 : Cond.methodLink "RoomFederation" 84 ⟨"RoomFederation", "\x61dmit", "(LRoomFederation$Event;LRoomFederation$State;)I"⟩ ∈ gW := gw_in 508 (by decide +kernel) (by decide +kernel)
theorem w_510 : Cond.instanceMethod ⟨"RoomFederation", "\x61dmit", "(LRoomFederation$Event;LRoomFederation$State;)I"⟩ ∈ gW := gw_in 510 (by decide +kernel) (by decide +kernel)
theorem w_511 : Cond.code ⟨"RoomFederation", "\x61dmit", "(LRoomFederation$Event;LRoomFederation$State;)I"⟩ prog_1_method_14_code 3 (some .int) ∈ gW := gw_in 511 (by decide +kernel) (by decide +kernel)
theorem w_512 : Cond.methodLink "RoomFederation" 169 ⟨"RoomFederation$Event", "settle", "(LRoomFederation$State;)V"⟩ ∈ gW := gw_in 512 (by decide +kernel) (by decide +kernel)
theorem w_513 : Cond.instanceMethod ⟨"RoomFederation$Event", "settle", "(LRoomFederation$State;)V"⟩ ∈ gW := gw_in 513 (by decide +kernel) (by decide +kernel)
theorem w_514 : Cond.selects "RoomFederation$Event" ⟨"RoomFederation$Event", "settle", "(LRoomFederation$State;)V"⟩ ⟨"RoomFederation$Event", "settle", "(LRoomFederation$State;)V"⟩ ∈ gW := gw_in 514 (by decide +kernel) (by decide +kernel)
theorem w_515 : Cond.code ⟨"RoomFederation$Event", "settle", "(LRoomFederation$State;)V"⟩ prog_2_method_4_code 2 none ∈ gW := gw_in 515 (by decide +kernel) (by decide +kernel)
theorem w_516 : Cond.methodLink "RoomFederation$Event" 84 ⟨"RoomFederation$State", "isAllGood", "()Z"⟩ ∈ gW := gw_in 516 (by decide +kernel) (by decide +kernel)
theorem w_517 : Cond.instanceMethod ⟨"RoomFederation$State", "isAllGood", "()Z"⟩ ∈ gW := gw_in 517 (by decide +kernel) (by decide +kernel)
theorem w_518 : Cond.selects "RoomFederation$State" ⟨"RoomFederation$State", "isAllGood", "()Z"⟩ ⟨"RoomFederation$State", "isAllGood", "()Z"⟩ ∈ gW := gw_in 518 (by decide +kernel) (by decide +kernel)
theorem w_519 : Cond.code ⟨"RoomFederation$State", "isAllGood", "()Z"⟩ prog_8_method_13_code 2 (some .boolean) ∈ gW := gw_in 519 (by decide +kernel) (by decide +kernel)
theorem w_520 : Cond.methodLink "RoomFederation$Event" 88 ⟨"RoomFederation$Law", "allows", "(LRoomFederation$State;LRoomFederation$Event;)Z"⟩ ∈ gW := gw_in 520 (by decide +kernel) (by decide +kernel)
theorem w_521 : Cond.methodLink "RoomFederation$Event" 94 ⟨"RoomFederation$State", "with", "(LRoomFederation$Event;)LRoomFederation$State;"⟩ ∈ gW := gw_in 521 (by decide +kernel) (by decide +kernel)
theorem w_522 : Cond.instanceMethod ⟨"RoomFederation$State", "with", "(LRoomFederation$Event;)LRoomFederation$State;"⟩ ∈ gW := gw_in 522 (by decide +kernel) (by decide +kernel)
theorem w_523 : Cond.selects "RoomFederation$State" ⟨"RoomFederation$State", "with", "(LRoomFederation$Event;)LRoomFederation$State;"⟩ ⟨"RoomFederation$State", "with", "(LRoomFederation$Event;)LRoomFederation$State;"⟩ ∈ gW := gw_in 523 (by decide +kernel) (by decide +kernel)
theorem w_524 : Cond.code ⟨"RoomFederation$State", "with", "(LRoomFederation$Event;)LRoomFederation$State;"⟩ prog_8_method_5_code 3 (some (.object "RoomFederation$State")) ∈ gW := gw_in 524 (by decide +kernel) (by decide +kernel)
theorem w_525 : Cond.classLink "RoomFederation$State" 12 "RoomFederation$State" ∈ gW := gw_in 525 (by decide +kernel) (by decide +kernel)
theorem w_526 : Cond.methodLink "RoomFederation$State" 21 ⟨"RoomFederation$State", "<init>", "()V"⟩ ∈ gW := gw_in 526 (by decide +kernel) (by decide +kernel)
theorem w_527 : Cond.methodLink "RoomFederation$State" 22 ⟨"RoomFederation$State", "copy", "(LRoomFederation$State;)V"⟩ ∈ gW := gw_in 527 (by decide +kernel) (by decide +kernel)
theorem w_528 : Cond.methodLink "RoomFederation$State" 26 ⟨"RoomFederation$State", "put", "(LRoomFederation$Event;)V"⟩ ∈ gW := gw_in 528 (by decide +kernel) (by decide +kernel)
theorem w_529 : Cond.methodLink "RoomFederation" 172 ⟨"RoomFederation$Log", "append", "(LRoomFederation$Event;)V"⟩ ∈ gW := gw_in 529 (by decide +kernel) (by decide +kernel)
theorem w_530 : Cond.instanceMethod ⟨"RoomFederation$Log", "append", "(LRoomFederation$Event;)V"⟩ ∈ gW := gw_in 530 (by decide +kernel) (by decide +kernel)
theorem w_531 : Cond.selects "RoomFederation$Log" ⟨"RoomFederation$Log", "append", "(LRoomFederation$Event;)V"⟩ ⟨"RoomFederation$Log", "append", "(LRoomFederation$Event;)V"⟩ ∈ gW := gw_in 531 (by decide +kernel) (by decide +kernel)
theorem w_532 : Cond.code ⟨"RoomFederation$Log", "append", "(LRoomFederation$Event;)V"⟩ prog_5_method_5_code 2 none ∈ gW := gw_in 532 (by decide +kernel) (by decide +kernel)
theorem w_533 : Cond.methodLink "RoomFederation" 104 ⟨"RoomFederation$Server", "receive", "(LRoomFederation$Event;LRoomFederation$Log;)I"⟩ ∈ gW := gw_in 533 (by decide +kernel) (by decide +kernel)
theorem w_534 : Cond.instanceMethod ⟨"RoomFederation$Server", "receive", "(LRoomFederation$Event;LRoomFederation$Log;)I"⟩ ∈ gW := gw_in 534 (by decide +kernel) (by decide +kernel)
theorem w_535 : Cond.selects "RoomFederation$Server" ⟨"RoomFederation$Server", "receive", "(LRoomFederation$Event;LRoomFederation$Log;)I"⟩ ⟨"RoomFederation$Server", "receive", "(LRoomFederation$Event;LRoomFederation$Log;)I"⟩ ∈ gW := gw_in 535 (by decide +kernel) (by decide +kernel)
theorem w_536 : Cond.code ⟨"RoomFederation$Server", "receive", "(LRoomFederation$Event;LRoomFederation$Log;)I"⟩ prog_7_method_11_code 3 (some .int) ∈ gW := gw_in 536 (by decide +kernel) (by decide +kernel)
theorem w_537 : Cond.methodLink "RoomFederation$Server" 58 ⟨"RoomFederation$Server", "knowsParentsOf", "(LRoomFederation$Event;)Z"⟩ ∈ gW := gw_in 537 (by decide +kernel) (by decide +kernel)
theorem w_539 : Cond.instanceMethod ⟨"RoomFederation$Server", "knowsParentsOf", "(LRoomFederation$Event;)Z"⟩ ∈ gW := gw_in 539 (by decide +kernel) (by decide +kernel)
theorem w_540 : Cond.code ⟨"RoomFederation$Server", "knowsParentsOf", "(LRoomFederation$Event;)Z"⟩ prog_7_method_12_code 3 (some .boolean) ∈ gW := gw_in 540 (by decide +kernel) (by decide +kernel)
theorem w_541 : Cond.methodLink "RoomFederation$Server" 62 ⟨"RoomFederation$Server", "learn", "(LRoomFederation$Event;)V"⟩ ∈ gW := gw_in 541 (by decide +kernel) (by decide +kernel)
theorem w_543 : Cond.instanceMethod ⟨"RoomFederation$Server", "learn", "(LRoomFederation$Event;)V"⟩ ∈ gW := gw_in 543 (by decide +kernel) (by decide +kernel)
theorem w_544 : Cond.code ⟨"RoomFederation$Server", "learn", "(LRoomFederation$Event;)V"⟩ prog_7_method_13_code 3 none ∈ gW := gw_in 544 (by decide +kernel) (by decide +kernel)
theorem w_545 : Cond.methodLink "RoomFederation$Server" 70 ⟨"RoomFederation$EventSet", "add", "(I)V"⟩ ∈ gW := gw_in 545 (by decide +kernel) (by decide +kernel)
theorem w_546 : Cond.methodLink "RoomFederation$Server" 78 ⟨"RoomFederation$EventSet", "remove", "(I)V"⟩ ∈ gW := gw_in 546 (by decide +kernel) (by decide +kernel)
theorem w_547 : Cond.methodLink "RoomFederation$Server" 66 ⟨"RoomFederation$Server", "release", "(ILRoomFederation$Log;)I"⟩ ∈ gW := gw_in 547 (by decide +kernel) (by decide +kernel)
theorem w_549 : Cond.instanceMethod ⟨"RoomFederation$Server", "release", "(ILRoomFederation$Log;)I"⟩ ∈ gW := gw_in 549 (by decide +kernel) (by decide +kernel)
theorem w_550 : Cond.code ⟨"RoomFederation$Server", "release", "(ILRoomFederation$Log;)I"⟩ prog_7_method_14_code 6 (some .int) ∈ gW := gw_in 550 (by decide +kernel) (by decide +kernel)
theorem w_551 : Cond.methodLink "RoomFederationLaw" 18 ⟨"RoomFederation", "forge", "(IIIIIII)I"⟩ ∈ gW := gw_in 551 (by decide +kernel) (by decide +kernel)
theorem w_552 : Cond.instanceMethod ⟨"RoomFederation", "forge", "(IIIIIII)I"⟩ ∈ gW := gw_in 552 (by decide +kernel) (by decide +kernel)
theorem w_553 : Cond.selects "RoomFederation" ⟨"RoomFederation", "forge", "(IIIIIII)I"⟩ ⟨"RoomFederation", "forge", "(IIIIIII)I"⟩ ∈ gW := gw_in 553 (by decide +kernel) (by decide +kernel)
theorem w_554 : Cond.code ⟨"RoomFederation", "forge", "(IIIIIII)I"⟩ prog_1_method_3_code 11 (some .int) ∈ gW := gw_in 554 (by decide +kernel) (by decide +kernel)
theorem w_555 : Cond.methodLink "RoomFederation" 88 ⟨"RoomFederation$Server", "canFollow", "(I)Z"⟩ ∈ gW := gw_in 555 (by decide +kernel) (by decide +kernel)
theorem w_556 : Cond.instanceMethod ⟨"RoomFederation$Server", "canFollow", "(I)Z"⟩ ∈ gW := gw_in 556 (by decide +kernel) (by decide +kernel)
theorem w_557 : Cond.selects "RoomFederation$Server" ⟨"RoomFederation$Server", "canFollow", "(I)Z"⟩ ⟨"RoomFederation$Server", "canFollow", "(I)Z"⟩ ∈ gW := gw_in 557 (by decide +kernel) (by decide +kernel)
theorem w_558 : Cond.code ⟨"RoomFederation$Server", "canFollow", "(I)Z"⟩ prog_7_method_7_code 2 (some .boolean) ∈ gW := gw_in 558 (by decide +kernel) (by decide +kernel)
theorem w_559 : Cond.methodLink "RoomFederation" 92 ⟨"RoomFederation$Log", "pair", "(II)[LRoomFederation$Event;"⟩ ∈ gW := gw_in 559 (by decide +kernel) (by decide +kernel)
theorem w_560 : Cond.instanceMethod ⟨"RoomFederation$Log", "pair", "(II)[LRoomFederation$Event;"⟩ ∈ gW := gw_in 560 (by decide +kernel) (by decide +kernel)
theorem w_561 : Cond.selects "RoomFederation$Log" ⟨"RoomFederation$Log", "pair", "(II)[LRoomFederation$Event;"⟩ ⟨"RoomFederation$Log", "pair", "(II)[LRoomFederation$Event;"⟩ ∈ gW := gw_in 561 (by decide +kernel) (by decide +kernel)
theorem w_562 : Cond.code ⟨"RoomFederation$Log", "pair", "(II)[LRoomFederation$Event;"⟩ prog_5_method_6_code 7 (some (.array (.object "RoomFederation$Event"))) ∈ gW := gw_in 562 (by decide +kernel) (by decide +kernel)
theorem w_563 : Cond.methodLink "RoomFederation$Log" 21 ⟨"RoomFederation$Log", "find", "(I)LRoomFederation$Event;"⟩ ∈ gW := gw_in 563 (by decide +kernel) (by decide +kernel)
theorem w_564 : Cond.methodLink "RoomFederationLaw" 23 ⟨"RoomFederation", "deliver", "(II)I"⟩ ∈ gW := gw_in 564 (by decide +kernel) (by decide +kernel)
theorem w_565 : Cond.instanceMethod ⟨"RoomFederation", "deliver", "(II)I"⟩ ∈ gW := gw_in 565 (by decide +kernel) (by decide +kernel)
theorem w_566 : Cond.selects "RoomFederation" ⟨"RoomFederation", "deliver", "(II)I"⟩ ⟨"RoomFederation", "deliver", "(II)I"⟩ ∈ gW := gw_in 566 (by decide +kernel) (by decide +kernel)
theorem w_567 : Cond.code ⟨"RoomFederation", "deliver", "(II)I"⟩ prog_1_method_4_code 5 (some .int) ∈ gW := gw_in 567 (by decide +kernel) (by decide +kernel)
theorem w_568 : Cond.methodLink "RoomFederation" 96 ⟨"RoomFederation", "serverOf", "(I)LRoomFederation$Server;"⟩ ∈ gW := gw_in 568 (by decide +kernel) (by decide +kernel)
theorem w_570 : Cond.instanceMethod ⟨"RoomFederation", "serverOf", "(I)LRoomFederation$Server;"⟩ ∈ gW := gw_in 570 (by decide +kernel) (by decide +kernel)
theorem w_571 : Cond.code ⟨"RoomFederation", "serverOf", "(I)LRoomFederation$Server;"⟩ prog_1_method_15_code 2 (some (.object "RoomFederation$Server")) ∈ gW := gw_in 571 (by decide +kernel) (by decide +kernel)
theorem w_572 : Cond.methodLink "RoomFederation" 100 ⟨"RoomFederation$Log", "find", "(I)LRoomFederation$Event;"⟩ ∈ gW := gw_in 572 (by decide +kernel) (by decide +kernel)
theorem w_573 : Cond.methodLink "RoomFederationLaw" 28 ⟨"RoomFederation", "sync", "(II)I"⟩ ∈ gW := gw_in 573 (by decide +kernel) (by decide +kernel)
theorem w_574 : Cond.instanceMethod ⟨"RoomFederation", "sync", "(II)I"⟩ ∈ gW := gw_in 574 (by decide +kernel) (by decide +kernel)
theorem w_575 : Cond.selects "RoomFederation" ⟨"RoomFederation", "sync", "(II)I"⟩ ⟨"RoomFederation", "sync", "(II)I"⟩ ∈ gW := gw_in 575 (by decide +kernel) (by decide +kernel)
theorem w_576 : Cond.code ⟨"RoomFederation", "sync", "(II)I"⟩ prog_1_method_5_code 8 (some .int) ∈ gW := gw_in 576 (by decide +kernel) (by decide +kernel)
theorem w_577 : Cond.methodLink "RoomFederation" 108 ⟨"RoomFederation$Server", "knownCount", "()I"⟩ ∈ gW := gw_in 577 (by decide +kernel) (by decide +kernel)
theorem w_578 : Cond.instanceMethod ⟨"RoomFederation$Server", "knownCount", "()I"⟩ ∈ gW := gw_in 578 (by decide +kernel) (by decide +kernel)
theorem w_579 : Cond.selects "RoomFederation$Server" ⟨"RoomFederation$Server", "knownCount", "()I"⟩ ⟨"RoomFederation$Server", "knownCount", "()I"⟩ ∈ gW := gw_in 579 (by decide +kernel) (by decide +kernel)
theorem w_580 : Cond.code ⟨"RoomFederation$Server", "knownCount", "()I"⟩ prog_7_method_4_code 1 (some .int) ∈ gW := gw_in 580 (by decide +kernel) (by decide +kernel)
theorem w_581 : Cond.methodLink "RoomFederation" 111 ⟨"RoomFederation$Server", "hasKnown", "(I)Z"⟩ ∈ gW := gw_in 581 (by decide +kernel) (by decide +kernel)
theorem w_582 : Cond.instanceMethod ⟨"RoomFederation$Server", "hasKnown", "(I)Z"⟩ ∈ gW := gw_in 582 (by decide +kernel) (by decide +kernel)
theorem w_583 : Cond.selects "RoomFederation$Server" ⟨"RoomFederation$Server", "hasKnown", "(I)Z"⟩ ⟨"RoomFederation$Server", "hasKnown", "(I)Z"⟩ ∈ gW := gw_in 583 (by decide +kernel) (by decide +kernel)
theorem w_584 : Cond.code ⟨"RoomFederation$Server", "hasKnown", "(I)Z"⟩ prog_7_method_2_code 2 (some .boolean) ∈ gW := gw_in 584 (by decide +kernel) (by decide +kernel)
theorem w_585 : Cond.methodLink "RoomFederationLaw" 32 ⟨"RoomFederation", "state", "(III)I"⟩ ∈ gW := gw_in 585 (by decide +kernel) (by decide +kernel)
theorem w_586 : Cond.instanceMethod ⟨"RoomFederation", "state", "(III)I"⟩ ∈ gW := gw_in 586 (by decide +kernel) (by decide +kernel)
theorem w_587 : Cond.selects "RoomFederation" ⟨"RoomFederation", "state", "(III)I"⟩ ⟨"RoomFederation", "state", "(III)I"⟩ ∈ gW := gw_in 587 (by decide +kernel) (by decide +kernel)
theorem w_588 : Cond.code ⟨"RoomFederation", "state", "(III)I"⟩ prog_1_method_6_code 5 (some .int) ∈ gW := gw_in 588 (by decide +kernel) (by decide +kernel)
theorem w_589 : Cond.methodLink "RoomFederation" 114 ⟨"RoomFederation", "isStateKey", "(II)Z"⟩ ∈ gW := gw_in 589 (by decide +kernel) (by decide +kernel)
theorem w_590 : Cond.static ⟨"RoomFederation", "isStateKey", "(II)Z"⟩ ∈ gW := gw_in 590 (by decide +kernel) (by decide +kernel)
theorem w_591 : Cond.code ⟨"RoomFederation", "isStateKey", "(II)Z"⟩ prog_1_method_16_code 2 (some .boolean) ∈ gW := gw_in 591 (by decide +kernel) (by decide +kernel)
theorem w_592 : Cond.methodLink "RoomFederation" 152 ⟨"RoomFederation$Law", "isUser", "(I)Z"⟩ ∈ gW := gw_in 592 (by decide +kernel) (by decide +kernel)
theorem w_593 : Cond.methodLink "RoomFederation" 118 ⟨"RoomFederation", "numberIn", "(LRoomFederation$State;II)I"⟩ ∈ gW := gw_in 593 (by decide +kernel) (by decide +kernel)
theorem w_594 : Cond.static ⟨"RoomFederation", "numberIn", "(LRoomFederation$State;II)I"⟩ ∈ gW := gw_in 594 (by decide +kernel) (by decide +kernel)
theorem w_595 : Cond.code ⟨"RoomFederation", "numberIn", "(LRoomFederation$State;II)I"⟩ prog_1_method_17_code 4 (some .int) ∈ gW := gw_in 595 (by decide +kernel) (by decide +kernel)
theorem w_596 : Cond.methodLink "RoomFederation" 179 ⟨"RoomFederation$State", "placeOf", "(II)I"⟩ ∈ gW := gw_in 596 (by decide +kernel) (by decide +kernel)
theorem w_597 : Cond.methodLink "RoomFederation" 183 ⟨"RoomFederation$State", "at", "(I)LRoomFederation$Event;"⟩ ∈ gW := gw_in 597 (by decide +kernel) (by decide +kernel)
theorem w_598 : Cond.methodLink "RoomFederationLaw" 37 ⟨"RoomFederation", "before", "(III)I"⟩ ∈ gW := gw_in 598 (by decide +kernel) (by decide +kernel)
theorem w_599 : Cond.instanceMethod ⟨"RoomFederation", "before", "(III)I"⟩ ∈ gW := gw_in 599 (by decide +kernel) (by decide +kernel)
theorem w_600 : Cond.selects "RoomFederation" ⟨"RoomFederation", "before", "(III)I"⟩ ⟨"RoomFederation", "before", "(III)I"⟩ ∈ gW := gw_in 600 (by decide +kernel) (by decide +kernel)
theorem w_601 : Cond.code ⟨"RoomFederation", "before", "(III)I"⟩ prog_1_method_7_code 5 (some .int) ∈ gW := gw_in 601 (by decide +kernel) (by decide +kernel)
theorem w_602 : Cond.methodLink "RoomFederationLaw" 41 ⟨"RoomFederation", "look", "(II)I"⟩ ∈ gW := gw_in 602 (by decide +kernel) (by decide +kernel)
theorem w_603 : Cond.instanceMethod ⟨"RoomFederation", "look", "(II)I"⟩ ∈ gW := gw_in 603 (by decide +kernel) (by decide +kernel)
theorem w_604 : Cond.selects "RoomFederation" ⟨"RoomFederation", "look", "(II)I"⟩ ⟨"RoomFederation", "look", "(II)I"⟩ ∈ gW := gw_in 604 (by decide +kernel) (by decide +kernel)
theorem w_605 : Cond.code ⟨"RoomFederation", "look", "(II)I"⟩ prog_1_method_8_code 4 (some .int) ∈ gW := gw_in 605 (by decide +kernel) (by decide +kernel)
theorem w_606 : Cond.methodLink "RoomFederation" 142 ⟨"RoomFederation$State", "size", "()I"⟩ ∈ gW := gw_in 606 (by decide +kernel) (by decide +kernel)
theorem w_607 : Cond.instanceMethod ⟨"RoomFederation$State", "size", "()I"⟩ ∈ gW := gw_in 607 (by decide +kernel) (by decide +kernel)
theorem w_608 : Cond.selects "RoomFederation$State" ⟨"RoomFederation$State", "size", "()I"⟩ ⟨"RoomFederation$State", "size", "()I"⟩ ∈ gW := gw_in 608 (by decide +kernel) (by decide +kernel)
theorem w_609 : Cond.code ⟨"RoomFederation$State", "size", "()I"⟩ prog_8_method_12_code 3 (some .int) ∈ gW := gw_in 609 (by decide +kernel) (by decide +kernel)
theorem w_610 : Cond.methodLink "RoomFederationLaw" 45 ⟨"RoomFederation", "level", "(II)I"⟩ ∈ gW := gw_in 610 (by decide +kernel) (by decide +kernel)
theorem w_611 : Cond.instanceMethod ⟨"RoomFederation", "level", "(II)I"⟩ ∈ gW := gw_in 611 (by decide +kernel) (by decide +kernel)
theorem w_612 : Cond.selects "RoomFederation" ⟨"RoomFederation", "level", "(II)I"⟩ ⟨"RoomFederation", "level", "(II)I"⟩ ∈ gW := gw_in 612 (by decide +kernel) (by decide +kernel)
theorem w_613 : Cond.code ⟨"RoomFederation", "level", "(II)I"⟩ prog_1_method_9_code 4 (some .int) ∈ gW := gw_in 613 (by decide +kernel) (by decide +kernel)
theorem w_614 : Cond.methodLink "RoomFederation" 155 ⟨"RoomFederation$State", "levelOf", "(I)I"⟩ ∈ gW := gw_in 614 (by decide +kernel) (by decide +kernel)
theorem w_615 : Cond.methodLink "RoomFederationLaw" 49 ⟨"RoomFederation", "knows", "(II)I"⟩ ∈ gW := gw_in 615 (by decide +kernel) (by decide +kernel)
theorem w_616 : Cond.instanceMethod ⟨"RoomFederation", "knows", "(II)I"⟩ ∈ gW := gw_in 616 (by decide +kernel) (by decide +kernel)
theorem w_617 : Cond.selects "RoomFederation" ⟨"RoomFederation", "knows", "(II)I"⟩ ⟨"RoomFederation", "knows", "(II)I"⟩ ∈ gW := gw_in 617 (by decide +kernel) (by decide +kernel)
theorem w_618 : Cond.code ⟨"RoomFederation", "knows", "(II)I"⟩ prog_1_method_10_code 4 (some .int) ∈ gW := gw_in 618 (by decide +kernel) (by decide +kernel)
theorem w_619 : Cond.methodLink "RoomFederation" 159 ⟨"RoomFederation$Server", "isHolding", "(I)Z"⟩ ∈ gW := gw_in 619 (by decide +kernel) (by decide +kernel)
theorem w_620 : Cond.instanceMethod ⟨"RoomFederation$Server", "isHolding", "(I)Z"⟩ ∈ gW := gw_in 620 (by decide +kernel) (by decide +kernel)
theorem w_621 : Cond.selects "RoomFederation$Server" ⟨"RoomFederation$Server", "isHolding", "(I)Z"⟩ ⟨"RoomFederation$Server", "isHolding", "(I)Z"⟩ ∈ gW := gw_in 621 (by decide +kernel) (by decide +kernel)
theorem w_622 : Cond.code ⟨"RoomFederation$Server", "isHolding", "(I)Z"⟩ prog_7_method_3_code 2 (some .boolean) ∈ gW := gw_in 622 (by decide +kernel) (by decide +kernel)
theorem w_623 : Cond.methodLink "RoomFederationLaw" 53 ⟨"RoomFederation", "head", "(II)I"⟩ ∈ gW := gw_in 623 (by decide +kernel) (by decide +kernel)
theorem w_624 : Cond.instanceMethod ⟨"RoomFederation", "head", "(II)I"⟩ ∈ gW := gw_in 624 (by decide +kernel) (by decide +kernel)
theorem w_625 : Cond.selects "RoomFederation" ⟨"RoomFederation", "head", "(II)I"⟩ ⟨"RoomFederation", "head", "(II)I"⟩ ∈ gW := gw_in 625 (by decide +kernel) (by decide +kernel)
theorem w_626 : Cond.code ⟨"RoomFederation", "head", "(II)I"⟩ prog_1_method_11_code 4 (some .int) ∈ gW := gw_in 626 (by decide +kernel) (by decide +kernel)
theorem w_627 : Cond.methodLink "RoomFederation" 162 ⟨"RoomFederation$Server", "headNumber", "(ILRoomFederation$Log;)I"⟩ ∈ gW := gw_in 627 (by decide +kernel) (by decide +kernel)
theorem w_628 : Cond.instanceMethod ⟨"RoomFederation$Server", "headNumber", "(ILRoomFederation$Log;)I"⟩ ∈ gW := gw_in 628 (by decide +kernel) (by decide +kernel)
theorem w_629 : Cond.selects "RoomFederation$Server" ⟨"RoomFederation$Server", "headNumber", "(ILRoomFederation$Log;)I"⟩ ⟨"RoomFederation$Server", "headNumber", "(ILRoomFederation$Log;)I"⟩ ∈ gW := gw_in 629 (by decide +kernel) (by decide +kernel)
theorem w_630 : Cond.code ⟨"RoomFederation$Server", "headNumber", "(ILRoomFederation$Log;)I"⟩ prog_7_method_8_code 5 (some .int) ∈ gW := gw_in 630 (by decide +kernel) (by decide +kernel)
theorem w_631 : Cond.methodLink "RoomFederationLaw" 57 ⟨"RoomFederation", "count", "(II)I"⟩ ∈ gW := gw_in 631 (by decide +kernel) (by decide +kernel)
theorem w_632 : Cond.instanceMethod ⟨"RoomFederation", "count", "(II)I"⟩ ∈ gW := gw_in 632 (by decide +kernel) (by decide +kernel)
theorem w_633 : Cond.selects "RoomFederation" ⟨"RoomFederation", "count", "(II)I"⟩ ⟨"RoomFederation", "count", "(II)I"⟩ ∈ gW := gw_in 633 (by decide +kernel) (by decide +kernel)
theorem w_634 : Cond.code ⟨"RoomFederation", "count", "(II)I"⟩ prog_1_method_12_code 4 (some .int) ∈ gW := gw_in 634 (by decide +kernel) (by decide +kernel)
theorem w_635 : Cond.methodLink "RoomFederation" 166 ⟨"RoomFederation$Server", "heldCount", "()I"⟩ ∈ gW := gw_in 635 (by decide +kernel) (by decide +kernel)
theorem w_636 : Cond.instanceMethod ⟨"RoomFederation$Server", "heldCount", "()I"⟩ ∈ gW := gw_in 636 (by decide +kernel) (by decide +kernel)
theorem w_637 : Cond.selects "RoomFederation$Server" ⟨"RoomFederation$Server", "heldCount", "()I"⟩ ⟨"RoomFederation$Server", "heldCount", "()I"⟩ ∈ gW := gw_in 637 (by decide +kernel) (by decide +kernel)
theorem w_638 : Cond.code ⟨"RoomFederation$Server", "heldCount", "()I"⟩ prog_7_method_5_code 1 (some .int) ∈ gW := gw_in 638 (by decide +kernel) (by decide +kernel)
theorem w_639 : Cond.methodLink "RoomFederationLaw" 61 ⟨"RoomFederation", "events", "()I"⟩ ∈ gW := gw_in 639 (by decide +kernel) (by decide +kernel)
theorem w_640 : Cond.instanceMethod ⟨"RoomFederation", "events", "()I"⟩ ∈ gW := gw_in 640 (by decide +kernel) (by decide +kernel)
theorem w_641 : Cond.selects "RoomFederation" ⟨"RoomFederation", "events", "()I"⟩ ⟨"RoomFederation", "events", "()I"⟩ ∈ gW := gw_in 641 (by decide +kernel) (by decide +kernel)
theorem w_642 : Cond.code ⟨"RoomFederation", "events", "()I"⟩ prog_1_method_13_code 1 (some .int) ∈ gW := gw_in 642 (by decide +kernel) (by decide +kernel)
theorem w_643 : Cond.classLink "RoomFederationLaw" 10 "RoomFederationModel" ∈ gW := gw_in 643 (by decide +kernel) (by decide +kernel)
theorem w_644 : Cond.instantiable "RoomFederationModel" 33 ∈ gW := gw_in 644 (by decide +kernel) (by decide +kernel)
theorem w_645 : Cond.methodLink "RoomFederationLaw" 12 ⟨"RoomFederationModel", "<init>", "()V"⟩ ∈ gW := gw_in 645 (by decide +kernel) (by decide +kernel)
theorem w_646 : Cond.instanceMethod ⟨"RoomFederationModel", "<init>", "()V"⟩ ∈ gW := gw_in 646 (by decide +kernel) (by decide +kernel)
theorem w_647 : Cond.code ⟨"RoomFederationModel", "<init>", "()V"⟩ prog_10_method_1_code 2 none ∈ gW := gw_in 647 (by decide +kernel) (by decide +kernel)
theorem w_648 : Cond.methodLink "RoomFederationModel" 1 ⟨"java/lang/Object", "<init>", "()V"⟩ ∈ gW := gw_in 648 (by decide +kernel) (by decide +kernel)
theorem w_649 : Cond.constant "RoomFederationModel" 40 160000 ∈ gW := gw_in 649 (by decide +kernel) (by decide +kernel)
theorem w_650 : Cond.fieldLink "RoomFederationModel" 9 "RoomFederationModel" "sender" "[I" ∈ gW := gw_in 650 (by decide +kernel) (by decide +kernel)
theorem w_651 : Cond.fieldLink "RoomFederationModel" 13 "RoomFederationModel" "kind" "[I" ∈ gW := gw_in 651 (by decide +kernel) (by decide +kernel)
theorem w_652 : Cond.fieldLink "RoomFederationModel" 16 "RoomFederationModel" "a" "[I" ∈ gW := gw_in 652 (by decide +kernel) (by decide +kernel)
theorem w_653 : Cond.fieldLink "RoomFederationModel" 19 "RoomFederationModel" "b" "[I" ∈ gW := gw_in 653 (by decide +kernel) (by decide +kernel)
theorem w_654 : Cond.fieldLink "RoomFederationModel" 22 "RoomFederationModel" "time" "[I" ∈ gW := gw_in 654 (by decide +kernel) (by decide +kernel)
theorem w_655 : Cond.fieldLink "RoomFederationModel" 25 "RoomFederationModel" "parents" "[I" ∈ gW := gw_in 655 (by decide +kernel) (by decide +kernel)
theorem w_656 : Cond.fieldLink "RoomFederationModel" 28 "RoomFederationModel" "parentCount" "[I" ∈ gW := gw_in 656 (by decide +kernel) (by decide +kernel)
theorem w_657 : Cond.fieldLink "RoomFederationModel" 31 "RoomFederationModel" "authorities" "[I" ∈ gW := gw_in 657 (by decide +kernel) (by decide +kernel)
theorem w_658 : Cond.fieldLink "RoomFederationModel" 34 "RoomFederationModel" "authorityCount" "[I" ∈ gW := gw_in 658 (by decide +kernel) (by decide +kernel)
theorem w_659 : Cond.fieldLink "RoomFederationModel" 37 "RoomFederationModel" "levels" "[I" ∈ gW := gw_in 659 (by decide +kernel) (by decide +kernel)
theorem w_660 : Cond.fieldLink "RoomFederationModel" 41 "RoomFederationModel" "chain" "[Z" ∈ gW := gw_in 660 (by decide +kernel) (by decide +kernel)
theorem w_661 : Cond.fieldLink "RoomFederationModel" 45 "RoomFederationModel" "good" "[Z" ∈ gW := gw_in 661 (by decide +kernel) (by decide +kernel)
theorem w_662 : Cond.fieldLink "RoomFederationModel" 48 "RoomFederationModel" "before" "[I" ∈ gW := gw_in 662 (by decide +kernel) (by decide +kernel)
theorem w_663 : Cond.fieldLink "RoomFederationModel" 51 "RoomFederationModel" "behind" "[I" ∈ gW := gw_in 663 (by decide +kernel) (by decide +kernel)
theorem w_664 : Cond.fieldLink "RoomFederationModel" 131 "RoomFederationModel" "events" "I" ∈ gW := gw_in 664 (by decide +kernel) (by decide +kernel)
theorem w_665 : Cond.fieldLink "RoomFederationModel" 54 "RoomFederationModel" "known" "[Z" ∈ gW := gw_in 665 (by decide +kernel) (by decide +kernel)
theorem w_666 : Cond.fieldLink "RoomFederationModel" 57 "RoomFederationModel" "held" "[Z" ∈ gW := gw_in 666 (by decide +kernel) (by decide +kernel)
theorem w_667 : Cond.fieldLink "RoomFederationModel" 60 "RoomFederationModel" "heldCount" "[I" ∈ gW := gw_in 667 (by decide +kernel) (by decide +kernel)
theorem w_668 : Cond.fieldLink "RoomFederationModel" 63 "RoomFederationModel" "state" "[I" ∈ gW := gw_in 668 (by decide +kernel) (by decide +kernel)
theorem w_669 : Cond.fieldLink "RoomFederationModel" 66 "RoomFederationModel" "of" "[I" ∈ gW := gw_in 669 (by decide +kernel) (by decide +kernel)
theorem w_670 : Cond.fieldLink "RoomFederationModel" 134 "RoomFederationModel" "ofCount" "I" ∈ gW := gw_in 670 (by decide +kernel) (by decide +kernel)
theorem w_671 : Cond.fieldLink "RoomFederationModel" 69 "RoomFederationModel" "result" "[I" ∈ gW := gw_in 671 (by decide +kernel) (by decide +kernel)
theorem w_672 : Cond.fieldLink "RoomFederationModel" 72 "RoomFederationModel" "agreed" "[I" ∈ gW := gw_in 672 (by decide +kernel) (by decide +kernel)
theorem w_673 : Cond.fieldLink "RoomFederationModel" 75 "RoomFederationModel" "full" "[I" ∈ gW := gw_in 673 (by decide +kernel) (by decide +kernel)
theorem w_674 : Cond.fieldLink "RoomFederationModel" 78 "RoomFederationModel" "conflict" "[Z" ∈ gW := gw_in 674 (by decide +kernel) (by decide +kernel)
theorem w_675 : Cond.fieldLink "RoomFederationModel" 81 "RoomFederationModel" "power" "[Z" ∈ gW := gw_in 675 (by decide +kernel) (by decide +kernel)
theorem w_676 : Cond.fieldLink "RoomFederationModel" 84 "RoomFederationModel" "seen" "[Z" ∈ gW := gw_in 676 (by decide +kernel) (by decide +kernel)
theorem w_677 : Cond.fieldLink "RoomFederationModel" 87 "RoomFederationModel" "main" "[I" ∈ gW := gw_in 677 (by decide +kernel) (by decide +kernel)
theorem w_678 : Cond.fieldLink "RoomFederationModel" 162 "RoomFederationModel" "mainCount" "I" ∈ gW := gw_in 678 (by decide +kernel) (by decide +kernel)
theorem w_679 : Cond.fieldLink "RoomFederationModel" 90 "RoomFederationModel" "trial" "[I" ∈ gW := gw_in 679 (by decide +kernel) (by decide +kernel)
theorem w_680 : Cond.fieldLink "RoomFederationModel" 93 "RoomFederationModel" "own" "[I" ∈ gW := gw_in 680 (by decide +kernel) (by decide +kernel)
theorem w_681 : Cond.fieldLink "RoomFederationModel" 96 "RoomFederationModel" "needed" "[I" ∈ gW := gw_in 681 (by decide +kernel) (by decide +kernel)
theorem w_682 : Cond.fieldLink "RoomFederationModel" 117 "RoomFederationModel" "neededCount" "I" ∈ gW := gw_in 682 (by decide +kernel) (by decide +kernel)
theorem w_683 : Cond.laysFinal "RoomFederationModel" "RoomFederationModel" "sender" "[I" ∈ gW := gw_in 683 (by decide +kernel) (by decide +kernel)
theorem w_685 : Cond.laysFinal "RoomFederationModel" "RoomFederationModel" "kind" "[I" ∈ gW := gw_in 685 (by decide +kernel) (by decide +kernel)
theorem w_687 : Cond.laysFinal "RoomFederationModel" "RoomFederationModel" "a" "[I" ∈ gW := gw_in 687 (by decide +kernel) (by decide +kernel)
theorem w_689 : Cond.laysFinal "RoomFederationModel" "RoomFederationModel" "b" "[I" ∈ gW := gw_in 689 (by decide +kernel) (by decide +kernel)
theorem w_691 : Cond.laysFinal "RoomFederationModel" "RoomFederationModel" "time" "[I" ∈ gW := gw_in 691 (by decide +kernel) (by decide +kernel)
theorem w_693 : Cond.laysFinal "RoomFederationModel" "RoomFederationModel" "parents" "[I" ∈ gW := gw_in 693 (by decide +kernel) (by decide +kernel)
theorem w_695 : Cond.laysFinal "RoomFederationModel" "RoomFederationModel" "parentCount" "[I" ∈ gW := gw_in 695 (by decide +kernel) (by decide +kernel)
theorem w_697 : Cond.laysFinal "RoomFederationModel" "RoomFederationModel" "authorities" "[I" ∈ gW := gw_in 697 (by decide +kernel) (by decide +kernel)
theorem w_699 : Cond.laysFinal "RoomFederationModel" "RoomFederationModel" "authorityCount" "[I" ∈ gW := gw_in 699 (by decide +kernel) (by decide +kernel)
theorem w_701 : Cond.laysFinal "RoomFederationModel" "RoomFederationModel" "levels" "[I" ∈ gW := gw_in 701 (by decide +kernel) (by decide +kernel)
theorem w_703 : Cond.laysFinal "RoomFederationModel" "RoomFederationModel" "chain" "[Z" ∈ gW := gw_in 703 (by decide +kernel) (by decide +kernel)
theorem w_705 : Cond.laysFinal "RoomFederationModel" "RoomFederationModel" "good" "[Z" ∈ gW := gw_in 705 (by decide +kernel) (by decide +kernel)
theorem w_707 : Cond.laysFinal "RoomFederationModel" "RoomFederationModel" "before" "[I" ∈ gW := gw_in 707 (by decide +kernel) (by decide +kernel)
theorem w_709 : Cond.laysFinal "RoomFederationModel" "RoomFederationModel" "behind" "[I" ∈ gW := gw_in 709 (by decide +kernel) (by decide +kernel)
theorem w_711 : Cond.lays "RoomFederationModel" "RoomFederationModel" "events" "I" ∈ gW := gw_in 711 (by decide +kernel) (by decide +kernel)
theorem w_713 : Cond.laysFinal "RoomFederationModel" "RoomFederationModel" "known" "[Z" ∈ gW := gw_in 713 (by decide +kernel) (by decide +kernel)
theorem w_715 : Cond.laysFinal "RoomFederationModel" "RoomFederationModel" "held" "[Z" ∈ gW := gw_in 715 (by decide +kernel) (by decide +kernel)
theorem w_717 : Cond.laysFinal "RoomFederationModel" "RoomFederationModel" "heldCount" "[I" ∈ gW := gw_in 717 (by decide +kernel) (by decide +kernel)
theorem w_719 : Cond.laysFinal "RoomFederationModel" "RoomFederationModel" "state" "[I" ∈ gW := gw_in 719 (by decide +kernel) (by decide +kernel)
theorem w_721 : Cond.laysFinal "RoomFederationModel" "RoomFederationModel" "of" "[I" ∈ gW := gw_in 721 (by decide +kernel) (by decide +kernel)
theorem w_723 : Cond.lays "RoomFederationModel" "RoomFederationModel" "ofCount" "I" ∈ gW := gw_in 723 (by decide +kernel) (by decide +kernel)
theorem w_725 : Cond.laysFinal "RoomFederationModel" "RoomFederationModel" "result" "[I" ∈ gW := gw_in 725 (by decide +kernel) (by decide +kernel)
theorem w_727 : Cond.laysFinal "RoomFederationModel" "RoomFederationModel" "agreed" "[I" ∈ gW := gw_in 727 (by decide +kernel) (by decide +kernel)
theorem w_729 : Cond.laysFinal "RoomFederationModel" "RoomFederationModel" "full" "[I" ∈ gW := gw_in 729 (by decide +kernel) (by decide +kernel)
theorem w_731 : Cond.laysFinal "RoomFederationModel" "RoomFederationModel" "conflict" "[Z" ∈ gW := gw_in 731 (by decide +kernel) (by decide +kernel)
theorem w_733 : Cond.laysFinal "RoomFederationModel" "RoomFederationModel" "power" "[Z" ∈ gW := gw_in 733 (by decide +kernel) (by decide +kernel)
theorem w_735 : Cond.laysFinal "RoomFederationModel" "RoomFederationModel" "seen" "[Z" ∈ gW := gw_in 735 (by decide +kernel) (by decide +kernel)
theorem w_737 : Cond.laysFinal "RoomFederationModel" "RoomFederationModel" "main" "[I" ∈ gW := gw_in 737 (by decide +kernel) (by decide +kernel)
theorem w_739 : Cond.lays "RoomFederationModel" "RoomFederationModel" "mainCount" "I" ∈ gW := gw_in 739 (by decide +kernel) (by decide +kernel)
theorem w_741 : Cond.laysFinal "RoomFederationModel" "RoomFederationModel" "trial" "[I" ∈ gW := gw_in 741 (by decide +kernel) (by decide +kernel)
theorem w_743 : Cond.laysFinal "RoomFederationModel" "RoomFederationModel" "own" "[I" ∈ gW := gw_in 743 (by decide +kernel) (by decide +kernel)
theorem w_745 : Cond.laysFinal "RoomFederationModel" "RoomFederationModel" "needed" "[I" ∈ gW := gw_in 745 (by decide +kernel) (by decide +kernel)
theorem w_747 : Cond.lays "RoomFederationModel" "RoomFederationModel" "neededCount" "I" ∈ gW := gw_in 747 (by decide +kernel) (by decide +kernel)
theorem w_750 : Cond.arrayClass .boolean ∈ gW := gw_in 750 (by decide +kernel) (by decide +kernel)
theorem w_751 : Cond.methodLink "RoomFederationLaw" 17 ⟨"RoomFederationModel", "send", "(IIIII)I"⟩ ∈ gW := gw_in 751 (by decide +kernel) (by decide +kernel)
theorem w_752 : Cond.instanceMethod ⟨"RoomFederationModel", "send", "(IIIII)I"⟩ ∈ gW := gw_in 752 (by decide +kernel) (by decide +kernel)
theorem w_753 : Cond.selects "RoomFederationModel" ⟨"RoomFederationModel", "send", "(IIIII)I"⟩ ⟨"RoomFederationModel", "send", "(IIIII)I"⟩ ∈ gW := gw_in 753 (by decide +kernel) (by decide +kernel)
theorem w_754 : Cond.code ⟨"RoomFederationModel", "send", "(IIIII)I"⟩ prog_10_method_32_code 9 (some .int) ∈ gW := gw_in 754 (by decide +kernel) (by decide +kernel)
theorem w_755 : Cond.methodLink "RoomFederationModel" 197 ⟨"RoomFederationModel", "wrong", "(IIII)Z"⟩ ∈ gW := gw_in 755 (by decide +kernel) (by decide +kernel)
theorem w_756 : Cond.static ⟨"RoomFederationModel", "wrong", "(IIII)Z"⟩ ∈ gW := gw_in 756 (by decide +kernel) (by decide +kernel)
theorem w_757 : Cond.code ⟨"RoomFederationModel", "wrong", "(IIII)Z"⟩ prog_10_method_31_code 4 (some .boolean) ∈ gW := gw_in 757 (by decide +kernel) (by decide +kernel)
theorem w_758 : Cond.methodLink "RoomFederationModel" 201 ⟨"RoomFederationModel", "writeDown", "(IIIII)V"⟩ ∈ gW := gw_in 758 (by decide +kernel) (by decide +kernel)
theorem w_760 : Cond.instanceMethod ⟨"RoomFederationModel", "writeDown", "(IIIII)V"⟩ ∈ gW := gw_in 760 (by decide +kernel) (by decide +kernel)
theorem w_761 : Cond.code ⟨"RoomFederationModel", "writeDown", "(IIIII)V"⟩ prog_10_method_27_code 7 none ∈ gW := gw_in 761 (by decide +kernel) (by decide +kernel)
theorem w_762 : Cond.methodLink "RoomFederationModel" 194 ⟨"RoomFederationModel", "isHead", "(II)Z"⟩ ∈ gW := gw_in 762 (by decide +kernel) (by decide +kernel)
theorem w_764 : Cond.instanceMethod ⟨"RoomFederationModel", "isHead", "(II)Z"⟩ ∈ gW := gw_in 764 (by decide +kernel) (by decide +kernel)
theorem w_765 : Cond.code ⟨"RoomFederationModel", "isHead", "(II)Z"⟩ prog_10_method_29_code 5 (some .boolean) ∈ gW := gw_in 765 (by decide +kernel) (by decide +kernel)
theorem w_766 : Cond.methodLink "RoomFederationModel" 205 ⟨"RoomFederationModel", "authorise", "([II)V"⟩ ∈ gW := gw_in 766 (by decide +kernel) (by decide +kernel)
theorem w_768 : Cond.instanceMethod ⟨"RoomFederationModel", "authorise", "([II)V"⟩ ∈ gW := gw_in 768 (by decide +kernel) (by decide +kernel)
theorem w_769 : Cond.code ⟨"RoomFederationModel", "authorise", "([II)V"⟩ prog_10_method_28_code 5 none ∈ gW := gw_in 769 (by decide +kernel) (by decide +kernel)
theorem w_770 : Cond.methodLink "RoomFederationModel" 187 ⟨"RoomFederationModel", "findNeeded", "([IIIII)V"⟩ ∈ gW := gw_in 770 (by decide +kernel) (by decide +kernel)
theorem w_772 : Cond.instanceMethod ⟨"RoomFederationModel", "findNeeded", "([IIIII)V"⟩ ∈ gW := gw_in 772 (by decide +kernel) (by decide +kernel)
theorem w_773 : Cond.code ⟨"RoomFederationModel", "findNeeded", "([IIIII)V"⟩ prog_10_method_10_code 6 none ∈ gW := gw_in 773 (by decide +kernel) (by decide +kernel)
theorem w_774 : Cond.methodLink "RoomFederationModel" 121 ⟨"RoomFederationModel", "need", "(I)V"⟩ ∈ gW := gw_in 774 (by decide +kernel) (by decide +kernel)
theorem w_776 : Cond.instanceMethod ⟨"RoomFederationModel", "need", "(I)V"⟩ ∈ gW := gw_in 776 (by decide +kernel) (by decide +kernel)
theorem w_777 : Cond.code ⟨"RoomFederationModel", "need", "(I)V"⟩ prog_10_method_9_code 4 none ∈ gW := gw_in 777 (by decide +kernel) (by decide +kernel)
theorem w_778 : Cond.methodLink "RoomFederationModel" 191 ⟨"RoomFederationModel", "makeLevels", "(I)V"⟩ ∈ gW := gw_in 778 (by decide +kernel) (by decide +kernel)
theorem w_780 : Cond.instanceMethod ⟨"RoomFederationModel", "makeLevels", "(I)V"⟩ ∈ gW := gw_in 780 (by decide +kernel) (by decide +kernel)
theorem w_781 : Cond.code ⟨"RoomFederationModel", "makeLevels", "(I)V"⟩ prog_10_method_24_code 5 none ∈ gW := gw_in 781 (by decide +kernel) (by decide +kernel)
theorem w_782 : Cond.methodLink "RoomFederationModel" 159 ⟨"RoomFederationModel", "powerOfAuthorities", "(I)I"⟩ ∈ gW := gw_in 782 (by decide +kernel) (by decide +kernel)
theorem w_784 : Cond.instanceMethod ⟨"RoomFederationModel", "powerOfAuthorities", "(I)I"⟩ ∈ gW := gw_in 784 (by decide +kernel) (by decide +kernel)
theorem w_785 : Cond.code ⟨"RoomFederationModel", "powerOfAuthorities", "(I)I"⟩ prog_10_method_12_code 5 (some .int) ∈ gW := gw_in 785 (by decide +kernel) (by decide +kernel)
theorem w_786 : Cond.methodLink "RoomFederationModel" 143 ⟨"RoomFederationModel", "allowed", "(I[II)Z"⟩ ∈ gW := gw_in 786 (by decide +kernel) (by decide +kernel)
theorem w_788 : Cond.instanceMethod ⟨"RoomFederationModel", "allowed", "(I[II)Z"⟩ ∈ gW := gw_in 788 (by decide +kernel) (by decide +kernel)
theorem w_789 : Cond.code ⟨"RoomFederationModel", "allowed", "(I[II)Z"⟩ prog_10_method_8_code 4 (some .boolean) ∈ gW := gw_in 789 (by decide +kernel) (by decide +kernel)
theorem w_790 : Cond.methodLink "RoomFederationModel" 110 ⟨"RoomFederationModel", "member", "(I[II)Z"⟩ ∈ gW := gw_in 790 (by decide +kernel) (by decide +kernel)
theorem w_792 : Cond.instanceMethod ⟨"RoomFederationModel", "member", "(I[II)Z"⟩ ∈ gW := gw_in 792 (by decide +kernel) (by decide +kernel)
theorem w_793 : Cond.code ⟨"RoomFederationModel", "member", "(I[II)Z"⟩ prog_10_method_6_code 11 (some .boolean) ∈ gW := gw_in 793 (by decide +kernel) (by decide +kernel)
theorem w_794 : Cond.methodLink "RoomFederationModel" 103 ⟨"RoomFederationModel", "membership", "([III)I"⟩ ∈ gW := gw_in 794 (by decide +kernel) (by decide +kernel)
theorem w_796 : Cond.instanceMethod ⟨"RoomFederationModel", "membership", "([III)I"⟩ ∈ gW := gw_in 796 (by decide +kernel) (by decide +kernel)
theorem w_797 : Cond.code ⟨"RoomFederationModel", "membership", "([III)I"⟩ prog_10_method_5_code 5 (some .int) ∈ gW := gw_in 797 (by decide +kernel) (by decide +kernel)
theorem w_798 : Cond.methodLink "RoomFederationModel" 107 ⟨"RoomFederationModel", "levelBy", "([III)I"⟩ ∈ gW := gw_in 798 (by decide +kernel) (by decide +kernel)
theorem w_800 : Cond.instanceMethod ⟨"RoomFederationModel", "levelBy", "([III)I"⟩ ∈ gW := gw_in 800 (by decide +kernel) (by decide +kernel)
theorem w_801 : Cond.code ⟨"RoomFederationModel", "levelBy", "([III)I"⟩ prog_10_method_4_code 5 (some .int) ∈ gW := gw_in 801 (by decide +kernel) (by decide +kernel)
theorem w_802 : Cond.methodLink "RoomFederationModel" 114 ⟨"RoomFederationModel", "powers", "(I[II)Z"⟩ ∈ gW := gw_in 802 (by decide +kernel) (by decide +kernel)
theorem w_804 : Cond.instanceMethod ⟨"RoomFederationModel", "powers", "(I[II)Z"⟩ ∈ gW := gw_in 804 (by decide +kernel) (by decide +kernel)
theorem w_805 : Cond.code ⟨"RoomFederationModel", "powers", "(I[II)Z"⟩ prog_10_method_7_code 8 (some .boolean) ∈ gW := gw_in 805 (by decide +kernel) (by decide +kernel)
theorem w_806 : Cond.methodLink "RoomFederationModel" 209 ⟨"RoomFederationModel", "enter", "()V"⟩ ∈ gW := gw_in 806 (by decide +kernel) (by decide +kernel)
theorem w_808 : Cond.instanceMethod ⟨"RoomFederationModel", "enter", "()V"⟩ ∈ gW := gw_in 808 (by decide +kernel) (by decide +kernel)
theorem w_809 : Cond.code ⟨"RoomFederationModel", "enter", "()V"⟩ prog_10_method_26_code 5 none ∈ gW := gw_in 809 (by decide +kernel) (by decide +kernel)
theorem w_810 : Cond.methodLink "RoomFederationModel" 180 ⟨"RoomFederationModel", "resolve", "()V"⟩ ∈ gW := gw_in 810 (by decide +kernel) (by decide +kernel)
theorem w_812 : Cond.instanceMethod ⟨"RoomFederationModel", "resolve", "()V"⟩ ∈ gW := gw_in 812 (by decide +kernel) (by decide +kernel)
theorem w_813 : Cond.code ⟨"RoomFederationModel", "resolve", "()V"⟩ prog_10_method_23_code 3 none ∈ gW := gw_in 813 (by decide +kernel) (by decide +kernel)
theorem w_814 : Cond.methodLink "RoomFederationModel" 168 ⟨"RoomFederationModel", "findConflict", "()V"⟩ ∈ gW := gw_in 814 (by decide +kernel) (by decide +kernel)
theorem w_816 : Cond.instanceMethod ⟨"RoomFederationModel", "findConflict", "()V"⟩ ∈ gW := gw_in 816 (by decide +kernel) (by decide +kernel)
theorem w_817 : Cond.code ⟨"RoomFederationModel", "findConflict", "()V"⟩ prog_10_method_15_code 5 none ∈ gW := gw_in 817 (by decide +kernel) (by decide +kernel)
theorem w_818 : Cond.methodLink "RoomFederationModel" 137 ⟨"RoomFederationModel", "noteFull", "(I)V"⟩ ∈ gW := gw_in 818 (by decide +kernel) (by decide +kernel)
theorem w_820 : Cond.instanceMethod ⟨"RoomFederationModel", "noteFull", "(I)V"⟩ ∈ gW := gw_in 820 (by decide +kernel) (by decide +kernel)
theorem w_821 : Cond.code ⟨"RoomFederationModel", "noteFull", "(I)V"⟩ prog_10_method_14_code 2 none ∈ gW := gw_in 821 (by decide +kernel) (by decide +kernel)
theorem w_822 : Cond.methodLink "RoomFederationModel" 171 ⟨"RoomFederationModel", "findPowers", "()V"⟩ ∈ gW := gw_in 822 (by decide +kernel) (by decide +kernel)
theorem w_824 : Cond.instanceMethod ⟨"RoomFederationModel", "findPowers", "()V"⟩ ∈ gW := gw_in 824 (by decide +kernel) (by decide +kernel)
theorem w_825 : Cond.code ⟨"RoomFederationModel", "findPowers", "()V"⟩ prog_10_method_16_code 4 none ∈ gW := gw_in 825 (by decide +kernel) (by decide +kernel)
theorem w_826 : Cond.methodLink "RoomFederationModel" 174 ⟨"RoomFederationModel", "orderOne", "()V"⟩ ∈ gW := gw_in 826 (by decide +kernel) (by decide +kernel)
theorem w_828 : Cond.instanceMethod ⟨"RoomFederationModel", "orderOne", "()V"⟩ ∈ gW := gw_in 828 (by decide +kernel) (by decide +kernel)
theorem w_829 : Cond.code ⟨"RoomFederationModel", "orderOne", "()V"⟩ prog_10_method_20_code 6 none ∈ gW := gw_in 829 (by decide +kernel) (by decide +kernel)
theorem w_830 : Cond.methodLink "RoomFederationModel" 152 ⟨"RoomFederationModel", "first", "(II)Z"⟩ ∈ gW := gw_in 830 (by decide +kernel) (by decide +kernel)
theorem w_832 : Cond.instanceMethod ⟨"RoomFederationModel", "first", "(II)Z"⟩ ∈ gW := gw_in 832 (by decide +kernel) (by decide +kernel)
theorem w_833 : Cond.code ⟨"RoomFederationModel", "first", "(II)Z"⟩ prog_10_method_19_code 5 (some .boolean) ∈ gW := gw_in 833 (by decide +kernel) (by decide +kernel)
theorem w_834 : Cond.methodLink "RoomFederationModel" 146 ⟨"RoomFederationModel", "senderLevel", "(I)I"⟩ ∈ gW := gw_in 834 (by decide +kernel) (by decide +kernel)
theorem w_836 : Cond.instanceMethod ⟨"RoomFederationModel", "senderLevel", "(I)I"⟩ ∈ gW := gw_in 836 (by decide +kernel) (by decide +kernel)
theorem w_837 : Cond.code ⟨"RoomFederationModel", "senderLevel", "(I)I"⟩ prog_10_method_18_code 2 (some .int) ∈ gW := gw_in 837 (by decide +kernel) (by decide +kernel)
theorem w_838 : Cond.methodLink "RoomFederationModel" 140 ⟨"RoomFederationModel", "byAuthorities", "(I)V"⟩ ∈ gW := gw_in 838 (by decide +kernel) (by decide +kernel)
theorem w_840 : Cond.instanceMethod ⟨"RoomFederationModel", "byAuthorities", "(I)V"⟩ ∈ gW := gw_in 840 (by decide +kernel) (by decide +kernel)
theorem w_841 : Cond.code ⟨"RoomFederationModel", "byAuthorities", "(I)V"⟩ prog_10_method_11_code 5 none ∈ gW := gw_in 841 (by decide +kernel) (by decide +kernel)
theorem w_842 : Cond.methodLink "RoomFederationModel" 125 ⟨"RoomFederationModel", "place", "(I)I"⟩ ∈ gW := gw_in 842 (by decide +kernel) (by decide +kernel)
theorem w_844 : Cond.instanceMethod ⟨"RoomFederationModel", "place", "(I)I"⟩ ∈ gW := gw_in 844 (by decide +kernel) (by decide +kernel)
theorem w_845 : Cond.code ⟨"RoomFederationModel", "place", "(I)I"⟩ prog_10_method_3_code 2 (some .int) ∈ gW := gw_in 845 (by decide +kernel) (by decide +kernel)
theorem w_846 : Cond.methodLink "RoomFederationModel" 99 ⟨"RoomFederationModel", "placeOf", "(II)I"⟩ ∈ gW := gw_in 846 (by decide +kernel) (by decide +kernel)
theorem w_847 : Cond.static ⟨"RoomFederationModel", "placeOf", "(II)I"⟩ ∈ gW := gw_in 847 (by decide +kernel) (by decide +kernel)
theorem w_848 : Cond.code ⟨"RoomFederationModel", "placeOf", "(II)I"⟩ prog_10_method_2_code 2 (some .int) ∈ gW := gw_in 848 (by decide +kernel) (by decide +kernel)
theorem w_849 : Cond.methodLink "RoomFederationModel" 149 ⟨"RoomFederationModel", "id", "(I)I"⟩ ∈ gW := gw_in 849 (by decide +kernel) (by decide +kernel)
theorem w_850 : Cond.static ⟨"RoomFederationModel", "id", "(I)I"⟩ ∈ gW := gw_in 850 (by decide +kernel) (by decide +kernel)
theorem w_851 : Cond.code ⟨"RoomFederationModel", "id", "(I)I"⟩ prog_10_method_13_code 1 (some .int) ∈ gW := gw_in 851 (by decide +kernel) (by decide +kernel)
theorem w_852 : Cond.constant "RoomFederationModel" 129 40503 ∈ gW := gw_in 852 (by decide +kernel) (by decide +kernel)
theorem w_853 : Cond.constant "RoomFederationModel" 130 65535 ∈ gW := gw_in 853 (by decide +kernel) (by decide +kernel)
theorem w_854 : Cond.methodLink "RoomFederationModel" 156 ⟨"RoomFederationModel", "tryOne", "(I)V"⟩ ∈ gW := gw_in 854 (by decide +kernel) (by decide +kernel)
theorem w_856 : Cond.instanceMethod ⟨"RoomFederationModel", "tryOne", "(I)V"⟩ ∈ gW := gw_in 856 (by decide +kernel) (by decide +kernel)
theorem w_857 : Cond.code ⟨"RoomFederationModel", "tryOne", "(I)V"⟩ prog_10_method_17_code 3 none ∈ gW := gw_in 857 (by decide +kernel) (by decide +kernel)
theorem w_858 : Cond.methodLink "RoomFederationModel" 177 ⟨"RoomFederationModel", "orderTwo", "()V"⟩ ∈ gW := gw_in 858 (by decide +kernel) (by decide +kernel)
theorem w_860 : Cond.instanceMethod ⟨"RoomFederationModel", "orderTwo", "()V"⟩ ∈ gW := gw_in 860 (by decide +kernel) (by decide +kernel)
theorem w_861 : Cond.code ⟨"RoomFederationModel", "orderTwo", "()V"⟩ prog_10_method_22_code 7 none ∈ gW := gw_in 861 (by decide +kernel) (by decide +kernel)
theorem w_862 : Cond.methodLink "RoomFederationModel" 165 ⟨"RoomFederationModel", "mainPlace", "(I)I"⟩ ∈ gW := gw_in 862 (by decide +kernel) (by decide +kernel)
theorem w_864 : Cond.instanceMethod ⟨"RoomFederationModel", "mainPlace", "(I)I"⟩ ∈ gW := gw_in 864 (by decide +kernel) (by decide +kernel)
theorem w_865 : Cond.code ⟨"RoomFederationModel", "mainPlace", "(I)I"⟩ prog_10_method_21_code 4 (some .int) ∈ gW := gw_in 865 (by decide +kernel) (by decide +kernel)
theorem w_866 : Cond.methodLink "RoomFederationModel" 183 ⟨"RoomFederationModel", "isGood", "(I)Z"⟩ ∈ gW := gw_in 866 (by decide +kernel) (by decide +kernel)
theorem w_868 : Cond.instanceMethod ⟨"RoomFederationModel", "isGood", "(I)Z"⟩ ∈ gW := gw_in 868 (by decide +kernel) (by decide +kernel)
theorem w_869 : Cond.code ⟨"RoomFederationModel", "isGood", "(I)Z"⟩ prog_10_method_25_code 3 (some .boolean) ∈ gW := gw_in 869 (by decide +kernel) (by decide +kernel)
theorem w_870 : Cond.methodLink "RoomFederationModel" 212 ⟨"RoomFederationModel", "renew", "(I)V"⟩ ∈ gW := gw_in 870 (by decide +kernel) (by decide +kernel)
theorem w_872 : Cond.instanceMethod ⟨"RoomFederationModel", "renew", "(I)V"⟩ ∈ gW := gw_in 872 (by decide +kernel) (by decide +kernel)
theorem w_873 : Cond.code ⟨"RoomFederationModel", "renew", "(I)V"⟩ prog_10_method_30_code 3 none ∈ gW := gw_in 873 (by decide +kernel) (by decide +kernel)
theorem w_874 : Cond.methodLink "RoomFederationLaw" 22 ⟨"RoomFederationModel", "forge", "(IIIIIII)I"⟩ ∈ gW := gw_in 874 (by decide +kernel) (by decide +kernel)
theorem w_875 : Cond.instanceMethod ⟨"RoomFederationModel", "forge", "(IIIIIII)I"⟩ ∈ gW := gw_in 875 (by decide +kernel) (by decide +kernel)
theorem w_876 : Cond.selects "RoomFederationModel" ⟨"RoomFederationModel", "forge", "(IIIIIII)I"⟩ ⟨"RoomFederationModel", "forge", "(IIIIIII)I"⟩ ∈ gW := gw_in 876 (by decide +kernel) (by decide +kernel)
theorem w_877 : Cond.code ⟨"RoomFederationModel", "forge", "(IIIIIII)I"⟩ prog_10_method_33_code 11 (some .int) ∈ gW := gw_in 877 (by decide +kernel) (by decide +kernel)
theorem w_878 : Cond.methodLink "RoomFederationLaw" 27 ⟨"RoomFederationModel", "deliver", "(II)I"⟩ ∈ gW := gw_in 878 (by decide +kernel) (by decide +kernel)
theorem w_879 : Cond.instanceMethod ⟨"RoomFederationModel", "deliver", "(II)I"⟩ ∈ gW := gw_in 879 (by decide +kernel) (by decide +kernel)
theorem w_880 : Cond.selects "RoomFederationModel" ⟨"RoomFederationModel", "deliver", "(II)I"⟩ ⟨"RoomFederationModel", "deliver", "(II)I"⟩ ∈ gW := gw_in 880 (by decide +kernel) (by decide +kernel)
theorem w_881 : Cond.code ⟨"RoomFederationModel", "deliver", "(II)I"⟩ prog_10_method_38_code 5 (some .int) ∈ gW := gw_in 881 (by decide +kernel) (by decide +kernel)
theorem w_882 : Cond.methodLink "RoomFederationModel" 218 ⟨"RoomFederationModel", "isServer", "(I)Z"⟩ ∈ gW := gw_in 882 (by decide +kernel) (by decide +kernel)
theorem w_883 : Cond.static ⟨"RoomFederationModel", "isServer", "(I)Z"⟩ ∈ gW := gw_in 883 (by decide +kernel) (by decide +kernel)
theorem w_884 : Cond.code ⟨"RoomFederationModel", "isServer", "(I)Z"⟩ prog_10_method_36_code 1 (some .boolean) ∈ gW := gw_in 884 (by decide +kernel) (by decide +kernel)
theorem w_885 : Cond.methodLink "RoomFederationModel" 221 ⟨"RoomFederationModel", "isEvent", "(I)Z"⟩ ∈ gW := gw_in 885 (by decide +kernel) (by decide +kernel)
theorem w_887 : Cond.instanceMethod ⟨"RoomFederationModel", "isEvent", "(I)Z"⟩ ∈ gW := gw_in 887 (by decide +kernel) (by decide +kernel)
theorem w_888 : Cond.code ⟨"RoomFederationModel", "isEvent", "(I)Z"⟩ prog_10_method_37_code 2 (some .boolean) ∈ gW := gw_in 888 (by decide +kernel) (by decide +kernel)
theorem w_889 : Cond.methodLink "RoomFederationModel" 215 ⟨"RoomFederationModel", "ready", "(II)Z"⟩ ∈ gW := gw_in 889 (by decide +kernel) (by decide +kernel)
theorem w_891 : Cond.instanceMethod ⟨"RoomFederationModel", "ready", "(II)Z"⟩ ∈ gW := gw_in 891 (by decide +kernel) (by decide +kernel)
theorem w_892 : Cond.code ⟨"RoomFederationModel", "ready", "(II)Z"⟩ prog_10_method_34_code 4 (some .boolean) ∈ gW := gw_in 892 (by decide +kernel) (by decide +kernel)
theorem w_893 : Cond.methodLink "RoomFederationModel" 224 ⟨"RoomFederationModel", "learn", "(II)I"⟩ ∈ gW := gw_in 893 (by decide +kernel) (by decide +kernel)
theorem w_895 : Cond.instanceMethod ⟨"RoomFederationModel", "learn", "(II)I"⟩ ∈ gW := gw_in 895 (by decide +kernel) (by decide +kernel)
theorem w_896 : Cond.code ⟨"RoomFederationModel", "learn", "(II)I"⟩ prog_10_method_35_code 6 (some .int) ∈ gW := gw_in 896 (by decide +kernel) (by decide +kernel)
theorem w_897 : Cond.methodLink "RoomFederationLaw" 31 ⟨"RoomFederationModel", "sync", "(II)I"⟩ ∈ gW := gw_in 897 (by decide +kernel) (by decide +kernel)
theorem w_898 : Cond.instanceMethod ⟨"RoomFederationModel", "sync", "(II)I"⟩ ∈ gW := gw_in 898 (by decide +kernel) (by decide +kernel)
theorem w_899 : Cond.selects "RoomFederationModel" ⟨"RoomFederationModel", "sync", "(II)I"⟩ ⟨"RoomFederationModel", "sync", "(II)I"⟩ ∈ gW := gw_in 899 (by decide +kernel) (by decide +kernel)
theorem w_900 : Cond.code ⟨"RoomFederationModel", "sync", "(II)I"⟩ prog_10_method_39_code 5 (some .int) ∈ gW := gw_in 900 (by decide +kernel) (by decide +kernel)
theorem w_901 : Cond.methodLink "RoomFederationLaw" 36 ⟨"RoomFederationModel", "state", "(III)I"⟩ ∈ gW := gw_in 901 (by decide +kernel) (by decide +kernel)
theorem w_902 : Cond.instanceMethod ⟨"RoomFederationModel", "state", "(III)I"⟩ ∈ gW := gw_in 902 (by decide +kernel) (by decide +kernel)
theorem w_903 : Cond.selects "RoomFederationModel" ⟨"RoomFederationModel", "state", "(III)I"⟩ ⟨"RoomFederationModel", "state", "(III)I"⟩ ∈ gW := gw_in 903 (by decide +kernel) (by decide +kernel)
theorem w_904 : Cond.code ⟨"RoomFederationModel", "state", "(III)I"⟩ prog_10_method_40_code 5 (some .int) ∈ gW := gw_in 904 (by decide +kernel) (by decide +kernel)
theorem w_905 : Cond.methodLink "RoomFederationLaw" 40 ⟨"RoomFederationModel", "before", "(III)I"⟩ ∈ gW := gw_in 905 (by decide +kernel) (by decide +kernel)
theorem w_906 : Cond.instanceMethod ⟨"RoomFederationModel", "before", "(III)I"⟩ ∈ gW := gw_in 906 (by decide +kernel) (by decide +kernel)
theorem w_907 : Cond.selects "RoomFederationModel" ⟨"RoomFederationModel", "before", "(III)I"⟩ ⟨"RoomFederationModel", "before", "(III)I"⟩ ∈ gW := gw_in 907 (by decide +kernel) (by decide +kernel)
theorem w_908 : Cond.code ⟨"RoomFederationModel", "before", "(III)I"⟩ prog_10_method_41_code 5 (some .int) ∈ gW := gw_in 908 (by decide +kernel) (by decide +kernel)
theorem w_909 : Cond.methodLink "RoomFederationLaw" 44 ⟨"RoomFederationModel", "look", "(II)I"⟩ ∈ gW := gw_in 909 (by decide +kernel) (by decide +kernel)
theorem w_910 : Cond.instanceMethod ⟨"RoomFederationModel", "look", "(II)I"⟩ ∈ gW := gw_in 910 (by decide +kernel) (by decide +kernel)
theorem w_911 : Cond.selects "RoomFederationModel" ⟨"RoomFederationModel", "look", "(II)I"⟩ ⟨"RoomFederationModel", "look", "(II)I"⟩ ∈ gW := gw_in 911 (by decide +kernel) (by decide +kernel)
theorem w_912 : Cond.code ⟨"RoomFederationModel", "look", "(II)I"⟩ prog_10_method_42_code 3 (some .int) ∈ gW := gw_in 912 (by decide +kernel) (by decide +kernel)
theorem w_913 : Cond.methodLink "RoomFederationLaw" 48 ⟨"RoomFederationModel", "level", "(II)I"⟩ ∈ gW := gw_in 913 (by decide +kernel) (by decide +kernel)
theorem w_914 : Cond.instanceMethod ⟨"RoomFederationModel", "level", "(II)I"⟩ ∈ gW := gw_in 914 (by decide +kernel) (by decide +kernel)
theorem w_915 : Cond.selects "RoomFederationModel" ⟨"RoomFederationModel", "level", "(II)I"⟩ ⟨"RoomFederationModel", "level", "(II)I"⟩ ∈ gW := gw_in 915 (by decide +kernel) (by decide +kernel)
theorem w_916 : Cond.code ⟨"RoomFederationModel", "level", "(II)I"⟩ prog_10_method_43_code 3 (some .int) ∈ gW := gw_in 916 (by decide +kernel) (by decide +kernel)
theorem w_917 : Cond.methodLink "RoomFederationLaw" 52 ⟨"RoomFederationModel", "knows", "(II)I"⟩ ∈ gW := gw_in 917 (by decide +kernel) (by decide +kernel)
theorem w_918 : Cond.instanceMethod ⟨"RoomFederationModel", "knows", "(II)I"⟩ ∈ gW := gw_in 918 (by decide +kernel) (by decide +kernel)
theorem w_919 : Cond.selects "RoomFederationModel" ⟨"RoomFederationModel", "knows", "(II)I"⟩ ⟨"RoomFederationModel", "knows", "(II)I"⟩ ∈ gW := gw_in 919 (by decide +kernel) (by decide +kernel)
theorem w_920 : Cond.code ⟨"RoomFederationModel", "knows", "(II)I"⟩ prog_10_method_44_code 3 (some .int) ∈ gW := gw_in 920 (by decide +kernel) (by decide +kernel)
theorem w_921 : Cond.methodLink "RoomFederationLaw" 56 ⟨"RoomFederationModel", "head", "(II)I"⟩ ∈ gW := gw_in 921 (by decide +kernel) (by decide +kernel)
theorem w_922 : Cond.instanceMethod ⟨"RoomFederationModel", "head", "(II)I"⟩ ∈ gW := gw_in 922 (by decide +kernel) (by decide +kernel)
theorem w_923 : Cond.selects "RoomFederationModel" ⟨"RoomFederationModel", "head", "(II)I"⟩ ⟨"RoomFederationModel", "head", "(II)I"⟩ ∈ gW := gw_in 923 (by decide +kernel) (by decide +kernel)
theorem w_924 : Cond.code ⟨"RoomFederationModel", "head", "(II)I"⟩ prog_10_method_45_code 5 (some .int) ∈ gW := gw_in 924 (by decide +kernel) (by decide +kernel)
theorem w_925 : Cond.methodLink "RoomFederationLaw" 60 ⟨"RoomFederationModel", "count", "(II)I"⟩ ∈ gW := gw_in 925 (by decide +kernel) (by decide +kernel)
theorem w_926 : Cond.instanceMethod ⟨"RoomFederationModel", "count", "(II)I"⟩ ∈ gW := gw_in 926 (by decide +kernel) (by decide +kernel)
theorem w_927 : Cond.selects "RoomFederationModel" ⟨"RoomFederationModel", "count", "(II)I"⟩ ⟨"RoomFederationModel", "count", "(II)I"⟩ ∈ gW := gw_in 927 (by decide +kernel) (by decide +kernel)
theorem w_928 : Cond.code ⟨"RoomFederationModel", "count", "(II)I"⟩ prog_10_method_46_code 5 (some .int) ∈ gW := gw_in 928 (by decide +kernel) (by decide +kernel)
theorem w_929 : Cond.methodLink "RoomFederationLaw" 65 ⟨"RoomFederationModel", "events", "()I"⟩ ∈ gW := gw_in 929 (by decide +kernel) (by decide +kernel)
theorem w_930 : Cond.instanceMethod ⟨"RoomFederationModel", "events", "()I"⟩ ∈ gW := gw_in 930 (by decide +kernel) (by decide +kernel)
theorem w_931 : Cond.selects "RoomFederationModel" ⟨"RoomFederationModel", "events", "()I"⟩ ⟨"RoomFederationModel", "events", "()I"⟩ ∈ gW := gw_in 931 (by decide +kernel) (by decide +kernel)
theorem w_932 : Cond.code ⟨"RoomFederationModel", "events", "()I"⟩ prog_10_method_47_code 1 (some .int) ∈ gW := gw_in 932 (by decide +kernel) (by decide +kernel)
def cT_0 : u_T := fun k => match k with
  | 0 => ("RoomFederation", "log", "LRoomFederation$Log;", true)
  | 1 => ("RoomFederation", "resolver", "LRoomFederation$Resolver;", true)
  | _ => ("RoomFederation", "servers", "[LRoomFederation$Server;", true)
def cTy_0 : Nat → FieldType := fun k => match k with
  | 0 => .object "RoomFederation$Log"
  | 1 => .object "RoomFederation$Resolver"
  | _ => .array (.object "RoomFederation$Server")
theorem cNm_0 : ∀ a, a < 3 → ∀ b, b < 3 → a ≠ b → (cT_0 a).2.1 ≠ (cT_0 b).2.1 := by decide +kernel
theorem cTyok_0 : ∀ k, k < 3 → parseFieldDescriptor (cT_0 k).2.2.1 = some (cTy_0 k) := by decide +kernel
theorem hin_0 : ∀ w ∈ u_ws "RoomFederation" cT_0 3, w ∈ gW := List.forall_mem_cons.2 ⟨w_171, List.forall_mem_cons.2 ⟨w_173, List.forall_mem_cons.2 ⟨w_175, fun _ h => absurd h List.not_mem_nil⟩⟩⟩
theorem cFs_0 : ∀ j, j < 3 → defaultValue (cTy_0 j) = vp_V ((([(0, 2), (0, 2), (0, 2)] : List (Int × Nat)).map fun q => av_0 q.2).map av_V) j := by decide +kernel
def cT_1 : u_T := fun k => match k with
  | 0 => ("RoomFederation$Event", "number", "I", true)
  | 1 => ("RoomFederation$Event", "sender", "I", true)
  | 2 => ("RoomFederation$Event", "kind", "I", true)
  | 3 => ("RoomFederation$Event", "a", "I", true)
  | 4 => ("RoomFederation$Event", "b", "I", true)
  | 5 => ("RoomFederation$Event", "time", "I", true)
  | 6 => ("RoomFederation$Event", "id", "I", true)
  | 7 => ("RoomFederation$Event", "place", "I", true)
  | 8 => ("RoomFederation$Event", "chain", "LRoomFederation$EventSet;", true)
  | 9 => ("RoomFederation$Event", "parents", "[LRoomFederation$Event;", false)
  | 10 => ("RoomFederation$Event", "grounds", "LRoomFederation$State;", false)
  | 11 => ("RoomFederation$Event", "senderLevel", "I", false)
  | 12 => ("RoomFederation$Event", "levels", "[I", false)
  | 13 => ("RoomFederation$Event", "earlier", "LRoomFederation$State;", false)
  | 14 => ("RoomFederation$Event", "behind", "LRoomFederation$State;", false)
  | _ => ("RoomFederation$Event", "good", "Z", false)
def cTy_1 : Nat → FieldType := fun k => match k with
  | 0 => .int
  | 1 => .int
  | 2 => .int
  | 3 => .int
  | 4 => .int
  | 5 => .int
  | 6 => .int
  | 7 => .int
  | 8 => .object "RoomFederation$EventSet"
  | 9 => .array (.object "RoomFederation$Event")
  | 10 => .object "RoomFederation$State"
  | 11 => .int
  | 12 => .array (.int)
  | 13 => .object "RoomFederation$State"
  | 14 => .object "RoomFederation$State"
  | _ => .boolean
theorem cNm_1 : ∀ a, a < 16 → ∀ b, b < 16 → a ≠ b → (cT_1 a).2.1 ≠ (cT_1 b).2.1 := by decide +kernel
theorem cTyok_1 : ∀ k, k < 16 → parseFieldDescriptor (cT_1 k).2.2.1 = some (cTy_1 k) := by decide +kernel
theorem hin_1 : ∀ w ∈ u_ws "RoomFederation$Event" cT_1 16, w ∈ gW := List.forall_mem_cons.2 ⟨w_433, List.forall_mem_cons.2 ⟨w_435, List.forall_mem_cons.2 ⟨w_437, List.forall_mem_cons.2 ⟨w_439, List.forall_mem_cons.2 ⟨w_441, List.forall_mem_cons.2 ⟨w_443, List.forall_mem_cons.2 ⟨w_445, List.forall_mem_cons.2 ⟨w_447, List.forall_mem_cons.2 ⟨w_449, List.forall_mem_cons.2 ⟨w_451, List.forall_mem_cons.2 ⟨w_453, List.forall_mem_cons.2 ⟨w_455, List.forall_mem_cons.2 ⟨w_457, List.forall_mem_cons.2 ⟨w_459, List.forall_mem_cons.2 ⟨w_461, List.forall_mem_cons.2 ⟨w_463, fun _ h => absurd h List.not_mem_nil⟩⟩⟩⟩⟩⟩⟩⟩⟩⟩⟩⟩⟩⟩⟩⟩
theorem cFs_1 : ∀ j, j < 16 → defaultValue (cTy_1 j) = vp_V ((([(0, 0), (0, 0), (0, 0), (0, 0), (0, 0), (0, 0), (0, 0), (0, 0), (0, 2), (0, 2), (0, 2), (0, 0), (0, 2), (0, 2), (0, 2), (0, 3)] : List (Int × Nat)).map fun q => av_0 q.2).map av_V) j := by decide +kernel
def cT_2 : u_T := fun k => match k with
  | _ => ("RoomFederation$EventSet", "words", "[J", true)
def cTy_2 : Nat → FieldType := fun k => match k with
  | _ => .array (.long)
theorem cNm_2 : ∀ a, a < 1 → ∀ b, b < 1 → a ≠ b → (cT_2 a).2.1 ≠ (cT_2 b).2.1 := by decide +kernel
theorem cTyok_2 : ∀ k, k < 1 → parseFieldDescriptor (cT_2 k).2.2.1 = some (cTy_2 k) := by decide +kernel
theorem hin_2 : ∀ w ∈ u_ws "RoomFederation$EventSet" cT_2 1, w ∈ gW := List.forall_mem_cons.2 ⟨w_105, fun _ h => absurd h List.not_mem_nil⟩
theorem cFs_2 : ∀ j, j < 1 → defaultValue (cTy_2 j) = vp_V ((([(0, 2)] : List (Int × Nat)).map fun q => av_0 q.2).map av_V) j := by decide +kernel
def cT_3 : u_T := fun k => match k with
  | 0 => ("RoomFederation$Log", "made", "[LRoomFederation$Event;", true)
  | _ => ("RoomFederation$Log", "size", "I", false)
def cTy_3 : Nat → FieldType := fun k => match k with
  | 0 => .array (.object "RoomFederation$Event")
  | _ => .int
theorem cNm_3 : ∀ a, a < 2 → ∀ b, b < 2 → a ≠ b → (cT_3 a).2.1 ≠ (cT_3 b).2.1 := by decide +kernel
theorem cTyok_3 : ∀ k, k < 2 → parseFieldDescriptor (cT_3 k).2.2.1 = some (cTy_3 k) := by decide +kernel
theorem hin_3 : ∀ w ∈ u_ws "RoomFederation$Log" cT_3 2, w ∈ gW := List.forall_mem_cons.2 ⟨w_76, List.forall_mem_cons.2 ⟨w_78, fun _ h => absurd h List.not_mem_nil⟩⟩
theorem cFs_3 : ∀ j, j < 2 → defaultValue (cTy_3 j) = vp_V ((([(0, 2), (0, 0)] : List (Int × Nat)).map fun q => av_0 q.2).map av_V) j := by decide +kernel
def cT_4 : u_T := fun k => match k with
  | 0 => ("RoomFederation$Resolver", "nothing", "LRoomFederation$State;", true)
  | 1 => ("RoomFederation$Resolver", "agreed", "LRoomFederation$State;", true)
  | 2 => ("RoomFederation$Resolver", "trial", "LRoomFederation$State;", true)
  | 3 => ("RoomFederation$Resolver", "conflict", "LRoomFederation$EventSet;", true)
  | 4 => ("RoomFederation$Resolver", "shared", "LRoomFederation$EventSet;", true)
  | 5 => ("RoomFederation$Resolver", "chain", "LRoomFederation$EventSet;", true)
  | 6 => ("RoomFederation$Resolver", "powers", "LRoomFederation$EventSet;", true)
  | 7 => ("RoomFederation$Resolver", "tips", "[LRoomFederation$Event;", true)
  | 8 => ("RoomFederation$Resolver", "listed", "[LRoomFederation$Event;", true)
  | 9 => ("RoomFederation$Resolver", "queue", "[LRoomFederation$Event;", true)
  | _ => ("RoomFederation$Resolver", "rank", "[I", true)
def cTy_4 : Nat → FieldType := fun k => match k with
  | 0 => .object "RoomFederation$State"
  | 1 => .object "RoomFederation$State"
  | 2 => .object "RoomFederation$State"
  | 3 => .object "RoomFederation$EventSet"
  | 4 => .object "RoomFederation$EventSet"
  | 5 => .object "RoomFederation$EventSet"
  | 6 => .object "RoomFederation$EventSet"
  | 7 => .array (.object "RoomFederation$Event")
  | 8 => .array (.object "RoomFederation$Event")
  | 9 => .array (.object "RoomFederation$Event")
  | _ => .array (.int)
theorem cNm_4 : ∀ a, a < 11 → ∀ b, b < 11 → a ≠ b → (cT_4 a).2.1 ≠ (cT_4 b).2.1 := by decide +kernel
theorem cTyok_4 : ∀ k, k < 11 → parseFieldDescriptor (cT_4 k).2.2.1 = some (cTy_4 k) := by decide +kernel
theorem hin_4 : ∀ w ∈ u_ws "RoomFederation$Resolver" cT_4 11, w ∈ gW := List.forall_mem_cons.2 ⟨w_121, List.forall_mem_cons.2 ⟨w_123, List.forall_mem_cons.2 ⟨w_125, List.forall_mem_cons.2 ⟨w_127, List.forall_mem_cons.2 ⟨w_129, List.forall_mem_cons.2 ⟨w_131, List.forall_mem_cons.2 ⟨w_133, List.forall_mem_cons.2 ⟨w_135, List.forall_mem_cons.2 ⟨w_137, List.forall_mem_cons.2 ⟨w_139, List.forall_mem_cons.2 ⟨w_141, fun _ h => absurd h List.not_mem_nil⟩⟩⟩⟩⟩⟩⟩⟩⟩⟩⟩
theorem cFs_4 : ∀ j, j < 11 → defaultValue (cTy_4 j) = vp_V ((([(0, 2), (0, 2), (0, 2), (0, 2), (0, 2), (0, 2), (0, 2), (0, 2), (0, 2), (0, 2), (0, 2)] : List (Int × Nat)).map fun q => av_0 q.2).map av_V) j := by decide +kernel
def cT_5 : u_T := fun k => match k with
  | 0 => ("RoomFederation$Server", "known", "LRoomFederation$EventSet;", true)
  | 1 => ("RoomFederation$Server", "held", "LRoomFederation$EventSet;", true)
  | 2 => ("RoomFederation$Server", "heads", "LRoomFederation$EventSet;", true)
  | _ => ("RoomFederation$Server", "now", "LRoomFederation$State;", false)
def cTy_5 : Nat → FieldType := fun k => match k with
  | 0 => .object "RoomFederation$EventSet"
  | 1 => .object "RoomFederation$EventSet"
  | 2 => .object "RoomFederation$EventSet"
  | _ => .object "RoomFederation$State"
theorem cNm_5 : ∀ a, a < 4 → ∀ b, b < 4 → a ≠ b → (cT_5 a).2.1 ≠ (cT_5 b).2.1 := by decide +kernel
theorem cTyok_5 : ∀ k, k < 4 → parseFieldDescriptor (cT_5 k).2.2.1 = some (cTy_5 k) := by decide +kernel
theorem hin_5 : ∀ w ∈ u_ws "RoomFederation$Server" cT_5 4, w ∈ gW := List.forall_mem_cons.2 ⟨w_159, List.forall_mem_cons.2 ⟨w_161, List.forall_mem_cons.2 ⟨w_163, List.forall_mem_cons.2 ⟨w_165, fun _ h => absurd h List.not_mem_nil⟩⟩⟩⟩
theorem cFs_5 : ∀ j, j < 4 → defaultValue (cTy_5 j) = vp_V ((([(0, 2), (0, 2), (0, 2), (0, 2)] : List (Int × Nat)).map fun q => av_0 q.2).map av_V) j := by decide +kernel
def cT_6 : u_T := fun k => match k with
  | _ => ("RoomFederation$State", "places", "[LRoomFederation$Event;", true)
def cTy_6 : Nat → FieldType := fun k => match k with
  | _ => .array (.object "RoomFederation$Event")
theorem cNm_6 : ∀ a, a < 1 → ∀ b, b < 1 → a ≠ b → (cT_6 a).2.1 ≠ (cT_6 b).2.1 := by decide +kernel
theorem cTyok_6 : ∀ k, k < 1 → parseFieldDescriptor (cT_6 k).2.2.1 = some (cTy_6 k) := by decide +kernel
theorem hin_6 : ∀ w ∈ u_ws "RoomFederation$State" cT_6 1, w ∈ gW := List.forall_mem_cons.2 ⟨w_95, fun _ h => absurd h List.not_mem_nil⟩
theorem cFs_6 : ∀ j, j < 1 → defaultValue (cTy_6 j) = vp_V ((([(0, 2)] : List (Int × Nat)).map fun q => av_0 q.2).map av_V) j := by decide +kernel
def cT_7 : u_T := fun k => match k with
  | 0 => ("RoomFederationModel", "sender", "[I", true)
  | 1 => ("RoomFederationModel", "kind", "[I", true)
  | 2 => ("RoomFederationModel", "a", "[I", true)
  | 3 => ("RoomFederationModel", "b", "[I", true)
  | 4 => ("RoomFederationModel", "time", "[I", true)
  | 5 => ("RoomFederationModel", "parents", "[I", true)
  | 6 => ("RoomFederationModel", "parentCount", "[I", true)
  | 7 => ("RoomFederationModel", "authorities", "[I", true)
  | 8 => ("RoomFederationModel", "authorityCount", "[I", true)
  | 9 => ("RoomFederationModel", "levels", "[I", true)
  | 10 => ("RoomFederationModel", "chain", "[Z", true)
  | 11 => ("RoomFederationModel", "good", "[Z", true)
  | 12 => ("RoomFederationModel", "before", "[I", true)
  | 13 => ("RoomFederationModel", "behind", "[I", true)
  | 14 => ("RoomFederationModel", "events", "I", false)
  | 15 => ("RoomFederationModel", "known", "[Z", true)
  | 16 => ("RoomFederationModel", "held", "[Z", true)
  | 17 => ("RoomFederationModel", "heldCount", "[I", true)
  | 18 => ("RoomFederationModel", "state", "[I", true)
  | 19 => ("RoomFederationModel", "of", "[I", true)
  | 20 => ("RoomFederationModel", "ofCount", "I", false)
  | 21 => ("RoomFederationModel", "result", "[I", true)
  | 22 => ("RoomFederationModel", "agreed", "[I", true)
  | 23 => ("RoomFederationModel", "full", "[I", true)
  | 24 => ("RoomFederationModel", "conflict", "[Z", true)
  | 25 => ("RoomFederationModel", "power", "[Z", true)
  | 26 => ("RoomFederationModel", "seen", "[Z", true)
  | 27 => ("RoomFederationModel", "main", "[I", true)
  | 28 => ("RoomFederationModel", "mainCount", "I", false)
  | 29 => ("RoomFederationModel", "trial", "[I", true)
  | 30 => ("RoomFederationModel", "own", "[I", true)
  | 31 => ("RoomFederationModel", "needed", "[I", true)
  | _ => ("RoomFederationModel", "neededCount", "I", false)
def cTy_7 : Nat → FieldType := fun k => match k with
  | 0 => .array (.int)
  | 1 => .array (.int)
  | 2 => .array (.int)
  | 3 => .array (.int)
  | 4 => .array (.int)
  | 5 => .array (.int)
  | 6 => .array (.int)
  | 7 => .array (.int)
  | 8 => .array (.int)
  | 9 => .array (.int)
  | 10 => .array (.boolean)
  | 11 => .array (.boolean)
  | 12 => .array (.int)
  | 13 => .array (.int)
  | 14 => .int
  | 15 => .array (.boolean)
  | 16 => .array (.boolean)
  | 17 => .array (.int)
  | 18 => .array (.int)
  | 19 => .array (.int)
  | 20 => .int
  | 21 => .array (.int)
  | 22 => .array (.int)
  | 23 => .array (.int)
  | 24 => .array (.boolean)
  | 25 => .array (.boolean)
  | 26 => .array (.boolean)
  | 27 => .array (.int)
  | 28 => .int
  | 29 => .array (.int)
  | 30 => .array (.int)
  | 31 => .array (.int)
  | _ => .int
theorem cNm_7 : ∀ a, a < 33 → ∀ b, b < 33 → a ≠ b → (cT_7 a).2.1 ≠ (cT_7 b).2.1 := by decide +kernel
theorem cTyok_7 : ∀ k, k < 33 → parseFieldDescriptor (cT_7 k).2.2.1 = some (cTy_7 k) := by decide +kernel
theorem hin_7 : ∀ w ∈ u_ws "RoomFederationModel" cT_7 33, w ∈ gW := List.forall_mem_cons.2 ⟨w_683, List.forall_mem_cons.2 ⟨w_685, List.forall_mem_cons.2 ⟨w_687, List.forall_mem_cons.2 ⟨w_689, List.forall_mem_cons.2 ⟨w_691, List.forall_mem_cons.2 ⟨w_693, List.forall_mem_cons.2 ⟨w_695, List.forall_mem_cons.2 ⟨w_697, List.forall_mem_cons.2 ⟨w_699, List.forall_mem_cons.2 ⟨w_701, List.forall_mem_cons.2 ⟨w_703, List.forall_mem_cons.2 ⟨w_705, List.forall_mem_cons.2 ⟨w_707, List.forall_mem_cons.2 ⟨w_709, List.forall_mem_cons.2 ⟨w_711, List.forall_mem_cons.2 ⟨w_713, List.forall_mem_cons.2 ⟨w_715, List.forall_mem_cons.2 ⟨w_717, List.forall_mem_cons.2 ⟨w_719, List.forall_mem_cons.2 ⟨w_721, List.forall_mem_cons.2 ⟨w_723, List.forall_mem_cons.2 ⟨w_725, List.forall_mem_cons.2 ⟨w_727, List.forall_mem_cons.2 ⟨w_729, List.forall_mem_cons.2 ⟨w_731, List.forall_mem_cons.2 ⟨w_733, List.forall_mem_cons.2 ⟨w_735, List.forall_mem_cons.2 ⟨w_737, List.forall_mem_cons.2 ⟨w_739, List.forall_mem_cons.2 ⟨w_741, List.forall_mem_cons.2 ⟨w_743, List.forall_mem_cons.2 ⟨w_745, List.forall_mem_cons.2 ⟨w_747, fun _ h => absurd h List.not_mem_nil⟩⟩⟩⟩⟩⟩⟩⟩⟩⟩⟩⟩⟩⟩⟩⟩⟩⟩⟩⟩⟩⟩⟩⟩⟩⟩⟩⟩⟩⟩⟩⟩⟩
theorem cFs_7 : ∀ j, j < 33 → defaultValue (cTy_7 j) = vp_V ((([(0, 2), (0, 2), (0, 2), (0, 2), (0, 2), (0, 2), (0, 2), (0, 2), (0, 2), (0, 2), (0, 2), (0, 2), (0, 2), (0, 2), (0, 0), (0, 2), (0, 2), (0, 2), (0, 2), (0, 2), (0, 0), (0, 2), (0, 2), (0, 2), (0, 2), (0, 2), (0, 2), (0, 2), (0, 0), (0, 2), (0, 2), (0, 2), (0, 0)] : List (Int × Nat)).map fun q => av_0 q.2).map av_V) j := by decide +kernel
def gCl : List vw_C := [("RoomFederation", cT_0, 3), ("RoomFederation$Event", cT_1, 16), ("RoomFederation$EventSet", cT_2, 1), ("RoomFederation$Log", cT_3, 2), ("RoomFederation$Resolver", cT_4, 11), ("RoomFederation$Server", cT_5, 4), ("RoomFederation$State", cT_6, 1), ("RoomFederationModel", cT_7, 33)]
def gAt : List FieldType := [.int, .boolean, .long, .object "RoomFederation$Event", .object "RoomFederation$Server"]
def gAO : List String := ["RoomFederation$Event", "RoomFederation$Server"]
def gG : AG := (gCl, gAt, gW, gAO)
theorem hao_3 : "RoomFederation$Event" ∈ gG.2.2.2 := List.mem_cons_self
theorem hao_4 : "RoomFederation$Server" ∈ gG.2.2.2 := List.mem_cons_of_mem _ List.mem_cons_self
theorem gG_ok : am_Gd gG := fun _ hw => (List.mem_filter.1 hw).2
def yRF_init : AM := (⟨"RoomFederation", "<init>", "()V"⟩, prog_1_method_1_code, 2, none, 3, 60)
def yLog_init : AM := (⟨"RoomFederation$Log", "<init>", "()V"⟩, prog_5_method_1_code, 1, none, 1, 20)
def yResolver_init : AM := (⟨"RoomFederation$Resolver", "<init>", "()V"⟩, prog_6_method_1_code, 1, none, 2, 40)
def yState_init : AM := (⟨"RoomFederation$State", "<init>", "()V"⟩, prog_8_method_1_code, 1, none, 1, 20)
def yEventSet_init : AM := (⟨"RoomFederation$EventSet", "<init>", "()V"⟩, prog_3_method_1_code, 1, none, 1, 20)
def yServer_init : AM := (⟨"RoomFederation$Server", "<init>", "()V"⟩, prog_7_method_1_code, 1, none, 2, 40)
def yRF_send : AM := (⟨"RoomFederation", "send", "(IIIII)I"⟩, prog_1_method_2_code, 10, (some .int), 6, 139)
def yLaw_isProper : AM := (⟨"RoomFederation$Law", "isProper", "(IIII)Z"⟩, prog_4_method_3_code, 4, (some .boolean), 1, 20)
def yLaw_isUser : AM := (⟨"RoomFederation$Law", "isUser", "(I)Z"⟩, prog_4_method_2_code, 1, (some .boolean), 0, 0)
def yLog_isFull : AM := (⟨"RoomFederation$Log", "isFull", "()Z"⟩, prog_5_method_3_code, 1, (some .boolean), 0, 0)
def yResolver_stateOf : AM := (⟨"RoomFederation$Resolver", "stateOf", "(LRoomFederation$Server;LRoomFederation$Log;)LRoomFederation$State;"⟩, prog_6_method_2_code, 3, (some (.object "RoomFederation$State")), 5, 117)
def yServer_listHeads : AM := (⟨"RoomFederation$Server", "listHeads", "([LRoomFederation$Event;LRoomFederation$Log;)I"⟩, prog_7_method_9_code, 5, (some .int), 1, 21)
def yLog_size : AM := (⟨"RoomFederation$Log", "size", "()I"⟩, prog_5_method_2_code, 1, (some .int), 0, 0)
def yEventSet_has : AM := (⟨"RoomFederation$EventSet", "has", "(I)Z"⟩, prog_3_method_2_code, 2, (some .boolean), 0, 0)
def yLog_find : AM := (⟨"RoomFederation$Log", "find", "(I)LRoomFederation$Event;"⟩, prog_5_method_4_code, 2, (some (.object "RoomFederation$Event")), 0, 0)
def yResolver_resolve : AM := (⟨"RoomFederation$Resolver", "resolve", "([LRoomFederation$Event;ILRoomFederation$Log;)LRoomFederation$State;"⟩, prog_6_method_3_code, 5, (some (.object "RoomFederation$State")), 4, 93)
def yResolver_findAgreed : AM := (⟨"RoomFederation$Resolver", "findAgreed", "([LRoomFederation$Event;I)V"⟩, prog_6_method_4_code, 4, none, 1, 22)
def yState_copy : AM := (⟨"RoomFederation$State", "copy", "(LRoomFederation$State;)V"⟩, prog_8_method_6_code, 3, none, 0, 0)
def yState_keepSame : AM := (⟨"RoomFederation$State", "keepSame", "(LRoomFederation$State;)V"⟩, prog_8_method_9_code, 3, none, 0, 0)
def yResolver_findConflict : AM := (⟨"RoomFederation$Resolver", "findConflict", "([LRoomFederation$Event;I)V"⟩, prog_6_method_5_code, 4, none, 2, 45)
def yEventSet_clear : AM := (⟨"RoomFederation$EventSet", "clear", "()V"⟩, prog_3_method_5_code, 2, none, 0, 0)
def yState_addChainTo : AM := (⟨"RoomFederation$State", "addChainTo", "(LRoomFederation$EventSet;)V"⟩, prog_8_method_10_code, 4, none, 1, 22)
def yEventSet_add : AM := (⟨"RoomFederation$EventSet", "add", "(I)V"⟩, prog_3_method_3_code, 2, none, 0, 0)
def yEventSet_addAll : AM := (⟨"RoomFederation$EventSet", "addAll", "(LRoomFederation$EventSet;)V"⟩, prog_3_method_7_code, 3, none, 0, 0)
def yEventSet_copy : AM := (⟨"RoomFederation$EventSet", "copy", "(LRoomFederation$EventSet;)V"⟩, prog_3_method_6_code, 3, none, 0, 0)
def yEventSet_keepAll : AM := (⟨"RoomFederation$EventSet", "keepAll", "(LRoomFederation$EventSet;)V"⟩, prog_3_method_8_code, 3, none, 0, 0)
def yEventSet_removeAll : AM := (⟨"RoomFederation$EventSet", "removeAll", "(LRoomFederation$EventSet;)V"⟩, prog_3_method_9_code, 3, none, 0, 0)
def yState_addUnlikeTo : AM := (⟨"RoomFederation$State", "addUnlikeTo", "(LRoomFederation$EventSet;LRoomFederation$State;)V"⟩, prog_8_method_11_code, 4, none, 1, 21)
def yResolver_partPowers : AM := (⟨"RoomFederation$Resolver", "partPowers", "(LRoomFederation$Log;)V"⟩, prog_6_method_6_code, 4, none, 1, 22)
def yEvent_isPowerful : AM := (⟨"RoomFederation$Event", "isPowerful", "()Z"⟩, prog_2_method_5_code, 1, (some .boolean), 0, 0)
def yResolver_orderOne : AM := (⟨"RoomFederation$Resolver", "orderOne", "(LRoomFederation$Log;)I"⟩, prog_6_method_8_code, 5, (some .int), 3, 66)
def yResolver_list : AM := (⟨"RoomFederation$Resolver", "list", "(LRoomFederation$EventSet;LRoomFederation$Log;)I"⟩, prog_6_method_7_code, 5, (some .int), 1, 21)
def yResolver_firstFree : AM := (⟨"RoomFederation$Resolver", "firstFree", "(I)I"⟩, prog_6_method_9_code, 5, (some .int), 2, 42)
def yResolver_isAhead : AM := (⟨"RoomFederation$Resolver", "isAhead", "(LRoomFederation$Event;LRoomFederation$Event;)Z"⟩, prog_6_method_10_code, 2, (some .boolean), 1, 21)
def yEvent_isOlderThan : AM := (⟨"RoomFederation$Event", "isOlderThan", "(LRoomFederation$Event;)Z"⟩, prog_2_method_6_code, 2, (some .boolean), 0, 0)
def yEventSet_meets : AM := (⟨"RoomFederation$EventSet", "meets", "(LRoomFederation$EventSet;)Z"⟩, prog_3_method_10_code, 3, (some .boolean), 0, 0)
def yEventSet_remove : AM := (⟨"RoomFederation$EventSet", "remove", "(I)V"⟩, prog_3_method_4_code, 2, none, 0, 0)
def yResolver_tryQueue : AM := (⟨"RoomFederation$Resolver", "tryQueue", "(ILRoomFederation$State;)V"⟩, prog_6_method_15_code, 4, none, 3, 70)
def yState_fillFrom : AM := (⟨"RoomFederation$State", "fillFrom", "(LRoomFederation$State;)V"⟩, prog_8_method_7_code, 3, none, 0, 0)
def yLaw_allows : AM := (⟨"RoomFederation$Law", "allows", "(LRoomFederation$State;LRoomFederation$Event;)Z"⟩, prog_4_method_5_code, 3, (some .boolean), 2, 48)
def yState_at : AM := (⟨"RoomFederation$State", "at", "(I)LRoomFederation$Event;"⟩, prog_8_method_3_code, 2, (some (.object "RoomFederation$Event")), 0, 0)
def yLaw_allowsMember : AM := (⟨"RoomFederation$Law", "allowsMember", "(LRoomFederation$State;LRoomFederation$Event;)Z"⟩, prog_4_method_6_code, 5, (some .boolean), 1, 23)
def yState_membershipOf : AM := (⟨"RoomFederation$State", "membershipOf", "(I)I"⟩, prog_8_method_15_code, 3, (some .int), 0, 0)
def yState_isOpen : AM := (⟨"RoomFederation$State", "isOpen", "()Z"⟩, prog_8_method_17_code, 2, (some .boolean), 0, 0)
def yState_awaitsMaker : AM := (⟨"RoomFederation$State", "awaitsMaker", "(I)Z"⟩, prog_8_method_16_code, 3, (some .boolean), 0, 0)
def yState_levelOf : AM := (⟨"RoomFederation$State", "levelOf", "(I)I"⟩, prog_8_method_14_code, 4, (some .int), 0, 0)
def yLaw_allowsLevels : AM := (⟨"RoomFederation$Law", "allowsLevels", "(LRoomFederation$State;LRoomFederation$Event;)Z"⟩, prog_4_method_7_code, 6, (some .boolean), 1, 23)
def yState_put : AM := (⟨"RoomFederation$State", "put", "(LRoomFederation$Event;)V"⟩, prog_8_method_4_code, 2, none, 0, 0)
def yResolver_orderTwo : AM := (⟨"RoomFederation$Resolver", "orderTwo", "(LRoomFederation$State;LRoomFederation$Log;)I"⟩, prog_6_method_11_code, 9, (some .int), 3, 65)
def yResolver_rankMainline : AM := (⟨"RoomFederation$Resolver", "rankMainline", "(LRoomFederation$State;)I"⟩, prog_6_method_13_code, 4, (some .int), 2, 41)
def yEvent_powerBelow : AM := (⟨"RoomFederation$Event", "powerBelow", "()LRoomFederation$Event;"⟩, prog_2_method_7_code, 1, (some (.object "RoomFederation$Event")), 1, 21)
def yResolver_rankOf : AM := (⟨"RoomFederation$Resolver", "rankOf", "(LRoomFederation$Event;I)I"⟩, prog_6_method_14_code, 5, (some .int), 2, 41)
def yResolver_comesLater : AM := (⟨"RoomFederation$Resolver", "comesLater", "(LRoomFederation$Event;LRoomFederation$Event;I)Z"⟩, prog_6_method_12_code, 5, (some .boolean), 1, 21)
def yState_overlay : AM := (⟨"RoomFederation$State", "overlay", "(LRoomFederation$State;)V"⟩, prog_8_method_8_code, 3, none, 0, 0)
def yEvent_init : AM := (⟨"RoomFederation$Event", "<init>", "(IIIIII)V"⟩, prog_2_method_1_code, 7, none, 2, 40)
def yState_placeOf : AM := (⟨"RoomFederation$State", "placeOf", "(II)I"⟩, prog_8_method_2_code, 2, (some .int), 0, 0)
def yServer_latestHeads : AM := (⟨"RoomFederation$Server", "latestHeads", "(LRoomFederation$Log;)[LRoomFederation$Event;"⟩, prog_7_method_10_code, 5, (some (.array (.object "RoomFederation$Event"))), 3, 63)
def yServer_headCount : AM := (⟨"RoomFederation$Server", "headCount", "()I"⟩, prog_7_method_6_code, 1, (some .int), 2, 43)
def yEventSet_size : AM := (⟨"RoomFederation$EventSet", "size", "()I"⟩, prog_3_method_11_code, 3, (some .int), 1, 21)
def yEvent_setParents : AM := (⟨"RoomFederation$Event", "setParents", "([LRoomFederation$Event;)V"⟩, prog_2_method_2_code, 2, none, 0, 0)
def yLaw_needed : AM := (⟨"RoomFederation$Law", "needed", "(LRoomFederation$State;LRoomFederation$Event;)LRoomFederation$State;"⟩, prog_4_method_4_code, 3, (some (.object "RoomFederation$State")), 2, 40)
def yEvent_setGrounds : AM := (⟨"RoomFederation$Event", "setGrounds", "(LRoomFederation$State;)V"⟩, prog_2_method_3_code, 3, none, 2, 45)
def yRF_admit : AM := (⟨"RoomFederation", "\x61dmit", "(LRoomFederation$Event;LRoomFederation$State;)I"⟩, prog_1_method_14_code, 3, (some .int), 4, 91)
def yEvent_settle : AM := (⟨"RoomFederation$Event", "settle", "(LRoomFederation$State;)V"⟩, prog_2_method_4_code, 2, none, 3, 70)
def yState_isAllGood : AM := (⟨"RoomFederation$State", "isAllGood", "()Z"⟩, prog_8_method_13_code, 2, (some .boolean), 0, 0)
def yState_with : AM := (⟨"RoomFederation$State", "with", "(LRoomFederation$Event;)LRoomFederation$State;"⟩, prog_8_method_5_code, 3, (some (.object "RoomFederation$State")), 2, 40)
def yLog_append : AM := (⟨"RoomFederation$Log", "append", "(LRoomFederation$Event;)V"⟩, prog_5_method_5_code, 2, none, 0, 0)
def yServer_receive : AM := (⟨"RoomFederation$Server", "receive", "(LRoomFederation$Event;LRoomFederation$Log;)I"⟩, prog_7_method_11_code, 3, (some .int), 3, 68)
def yServer_knowsParentsOf : AM := (⟨"RoomFederation$Server", "knowsParentsOf", "(LRoomFederation$Event;)Z"⟩, prog_7_method_12_code, 3, (some .boolean), 1, 21)
def yServer_learn : AM := (⟨"RoomFederation$Server", "learn", "(LRoomFederation$Event;)V"⟩, prog_7_method_13_code, 3, none, 1, 21)
def yServer_release : AM := (⟨"RoomFederation$Server", "release", "(ILRoomFederation$Log;)I"⟩, prog_7_method_14_code, 6, (some .int), 2, 43)
def yRF_forge : AM := (⟨"RoomFederation", "forge", "(IIIIIII)I"⟩, prog_1_method_3_code, 11, (some .int), 5, 117)
def yServer_canFollow : AM := (⟨"RoomFederation$Server", "canFollow", "(I)Z"⟩, prog_7_method_7_code, 2, (some .boolean), 1, 21)
def yLog_pair : AM := (⟨"RoomFederation$Log", "pair", "(II)[LRoomFederation$Event;"⟩, prog_5_method_6_code, 7, (some (.array (.object "RoomFederation$Event"))), 1, 21)
def yRF_deliver : AM := (⟨"RoomFederation", "deliver", "(II)I"⟩, prog_1_method_4_code, 5, (some .int), 4, 90)
def yRF_serverOf : AM := (⟨"RoomFederation", "serverOf", "(I)LRoomFederation$Server;"⟩, prog_1_method_15_code, 2, (some (.object "RoomFederation$Server")), 0, 0)
def yRF_sync : AM := (⟨"RoomFederation", "sync", "(II)I"⟩, prog_1_method_5_code, 8, (some .int), 4, 90)
def yServer_knownCount : AM := (⟨"RoomFederation$Server", "knownCount", "()I"⟩, prog_7_method_4_code, 1, (some .int), 2, 43)
def yServer_hasKnown : AM := (⟨"RoomFederation$Server", "hasKnown", "(I)Z"⟩, prog_7_method_2_code, 2, (some .boolean), 1, 21)
def yRF_state : AM := (⟨"RoomFederation", "state", "(III)I"⟩, prog_1_method_6_code, 5, (some .int), 6, 139)
def yRF_isStateKey : AM := (⟨"RoomFederation", "isStateKey", "(II)Z"⟩, prog_1_method_16_code, 2, (some .boolean), 1, 20)
def yRF_numberIn : AM := (⟨"RoomFederation", "numberIn", "(LRoomFederation$State;II)I"⟩, prog_1_method_17_code, 4, (some .int), 1, 21)
def yRF_before : AM := (⟨"RoomFederation", "before", "(III)I"⟩, prog_1_method_7_code, 5, (some .int), 2, 44)
def yRF_look : AM := (⟨"RoomFederation", "look", "(II)I"⟩, prog_1_method_8_code, 4, (some .int), 1, 22)
def yState_size : AM := (⟨"RoomFederation$State", "size", "()I"⟩, prog_8_method_12_code, 3, (some .int), 0, 0)
def yRF_level : AM := (⟨"RoomFederation", "level", "(II)I"⟩, prog_1_method_9_code, 4, (some .int), 6, 139)
def yRF_knows : AM := (⟨"RoomFederation", "knows", "(II)I"⟩, prog_1_method_10_code, 4, (some .int), 2, 42)
def yServer_isHolding : AM := (⟨"RoomFederation$Server", "isHolding", "(I)Z"⟩, prog_7_method_3_code, 2, (some .boolean), 1, 21)
def yRF_head : AM := (⟨"RoomFederation", "head", "(II)I"⟩, prog_1_method_11_code, 4, (some .int), 2, 45)
def yServer_headNumber : AM := (⟨"RoomFederation$Server", "headNumber", "(ILRoomFederation$Log;)I"⟩, prog_7_method_8_code, 5, (some .int), 1, 21)
def yRF_count : AM := (⟨"RoomFederation", "count", "(II)I"⟩, prog_1_method_12_code, 4, (some .int), 6, 139)
def yServer_heldCount : AM := (⟨"RoomFederation$Server", "heldCount", "()I"⟩, prog_7_method_5_code, 1, (some .int), 2, 43)
def yRF_events : AM := (⟨"RoomFederation", "events", "()I"⟩, prog_1_method_13_code, 1, (some .int), 1, 20)
def yMd_init : AM := (⟨"RoomFederationModel", "<init>", "()V"⟩, prog_10_method_1_code, 2, none, 1, 20)
def yMd_send : AM := (⟨"RoomFederationModel", "send", "(IIIII)I"⟩, prog_10_method_32_code, 9, (some .int), 8, 182)
def yMd_wrong : AM := (⟨"RoomFederationModel", "wrong", "(IIII)Z"⟩, prog_10_method_31_code, 4, (some .boolean), 0, 0)
def yMd_writeDown : AM := (⟨"RoomFederationModel", "writeDown", "(IIIII)V"⟩, prog_10_method_27_code, 7, none, 0, 0)
def yMd_isHead : AM := (⟨"RoomFederationModel", "isHead", "(II)Z"⟩, prog_10_method_29_code, 5, (some .boolean), 0, 0)
def yMd_authorise : AM := (⟨"RoomFederationModel", "authorise", "([II)V"⟩, prog_10_method_28_code, 5, none, 2, 48)
def yMd_findNeeded : AM := (⟨"RoomFederationModel", "findNeeded", "([IIIII)V"⟩, prog_10_method_10_code, 6, none, 1, 23)
def yMd_need : AM := (⟨"RoomFederationModel", "need", "(I)V"⟩, prog_10_method_9_code, 4, none, 0, 0)
def yMd_makeLevels : AM := (⟨"RoomFederationModel", "makeLevels", "(I)V"⟩, prog_10_method_24_code, 5, none, 1, 24)
def yMd_powerOfAuthorities : AM := (⟨"RoomFederationModel", "powerOfAuthorities", "(I)I"⟩, prog_10_method_12_code, 5, (some .int), 0, 0)
def yMd_allowed : AM := (⟨"RoomFederationModel", "allowed", "(I[II)Z"⟩, prog_10_method_8_code, 4, (some .boolean), 2, 54)
def yMd_member : AM := (⟨"RoomFederationModel", "member", "(I[II)Z"⟩, prog_10_method_6_code, 11, (some .boolean), 1, 24)
def yMd_membership : AM := (⟨"RoomFederationModel", "membership", "([III)I"⟩, prog_10_method_5_code, 5, (some .int), 0, 0)
def yMd_levelBy : AM := (⟨"RoomFederationModel", "levelBy", "([III)I"⟩, prog_10_method_4_code, 5, (some .int), 0, 0)
def yMd_powers : AM := (⟨"RoomFederationModel", "powers", "(I[II)Z"⟩, prog_10_method_7_code, 8, (some .boolean), 1, 24)
def yMd_enter : AM := (⟨"RoomFederationModel", "enter", "()V"⟩, prog_10_method_26_code, 5, none, 7, 158)
def yMd_resolve : AM := (⟨"RoomFederationModel", "resolve", "()V"⟩, prog_10_method_23_code, 3, none, 6, 136)
def yMd_findConflict : AM := (⟨"RoomFederationModel", "findConflict", "()V"⟩, prog_10_method_15_code, 5, none, 1, 21)
def yMd_noteFull : AM := (⟨"RoomFederationModel", "noteFull", "(I)V"⟩, prog_10_method_14_code, 2, none, 0, 0)
def yMd_findPowers : AM := (⟨"RoomFederationModel", "findPowers", "()V"⟩, prog_10_method_16_code, 4, none, 0, 0)
def yMd_orderOne : AM := (⟨"RoomFederationModel", "orderOne", "()V"⟩, prog_10_method_20_code, 6, none, 5, 111)
def yMd_first : AM := (⟨"RoomFederationModel", "first", "(II)Z"⟩, prog_10_method_19_code, 5, (some .boolean), 4, 87)
def yMd_senderLevel : AM := (⟨"RoomFederationModel", "senderLevel", "(I)I"⟩, prog_10_method_18_code, 2, (some .int), 3, 66)
def yMd_byAuthorities : AM := (⟨"RoomFederationModel", "byAuthorities", "(I)V"⟩, prog_10_method_11_code, 5, none, 2, 42)
def yMd_place : AM := (⟨"RoomFederationModel", "place", "(I)I"⟩, prog_10_method_3_code, 2, (some .int), 1, 21)
def yMd_placeOf : AM := (⟨"RoomFederationModel", "placeOf", "(II)I"⟩, prog_10_method_2_code, 2, (some .int), 0, 0)
def yMd_id : AM := (⟨"RoomFederationModel", "id", "(I)I"⟩, prog_10_method_13_code, 1, (some .int), 0, 0)
def yMd_tryOne : AM := (⟨"RoomFederationModel", "tryOne", "(I)V"⟩, prog_10_method_17_code, 3, none, 3, 77)
def yMd_orderTwo : AM := (⟨"RoomFederationModel", "orderTwo", "()V"⟩, prog_10_method_22_code, 7, none, 4, 99)
def yMd_mainPlace : AM := (⟨"RoomFederationModel", "mainPlace", "(I)I"⟩, prog_10_method_21_code, 4, (some .int), 1, 24)
def yMd_isGood : AM := (⟨"RoomFederationModel", "isGood", "(I)Z"⟩, prog_10_method_25_code, 3, (some .boolean), 3, 77)
def yMd_renew : AM := (⟨"RoomFederationModel", "renew", "(I)V"⟩, prog_10_method_30_code, 3, none, 7, 158)
def yMd_forge : AM := (⟨"RoomFederationModel", "forge", "(IIIIIII)I"⟩, prog_10_method_33_code, 11, (some .int), 8, 182)
def yMd_deliver : AM := (⟨"RoomFederationModel", "deliver", "(II)I"⟩, prog_10_method_38_code, 5, (some .int), 8, 180)
def yMd_isServer : AM := (⟨"RoomFederationModel", "isServer", "(I)Z"⟩, prog_10_method_36_code, 1, (some .boolean), 0, 0)
def yMd_isEvent : AM := (⟨"RoomFederationModel", "isEvent", "(I)Z"⟩, prog_10_method_37_code, 2, (some .boolean), 0, 0)
def yMd_ready : AM := (⟨"RoomFederationModel", "ready", "(II)Z"⟩, prog_10_method_34_code, 4, (some .boolean), 0, 0)
def yMd_learn : AM := (⟨"RoomFederationModel", "learn", "(II)I"⟩, prog_10_method_35_code, 6, (some .int), 1, 23)
def yMd_sync : AM := (⟨"RoomFederationModel", "sync", "(II)I"⟩, prog_10_method_39_code, 5, (some .int), 8, 180)
def yMd_state : AM := (⟨"RoomFederationModel", "state", "(III)I"⟩, prog_10_method_40_code, 5, (some .int), 1, 21)
def yMd_before : AM := (⟨"RoomFederationModel", "before", "(III)I"⟩, prog_10_method_41_code, 5, (some .int), 1, 21)
def yMd_look : AM := (⟨"RoomFederationModel", "look", "(II)I"⟩, prog_10_method_42_code, 3, (some .int), 1, 21)
def yMd_level : AM := (⟨"RoomFederationModel", "level", "(II)I"⟩, prog_10_method_43_code, 3, (some .int), 1, 24)
def yMd_knows : AM := (⟨"RoomFederationModel", "knows", "(II)I"⟩, prog_10_method_44_code, 3, (some .int), 1, 21)
def yMd_head : AM := (⟨"RoomFederationModel", "head", "(II)I"⟩, prog_10_method_45_code, 5, (some .int), 1, 24)
def yMd_count : AM := (⟨"RoomFederationModel", "count", "(II)I"⟩, prog_10_method_46_code, 5, (some .int), 1, 24)
def yMd_events : AM := (⟨"RoomFederationModel", "events", "()I"⟩, prog_10_method_47_code, 1, (some .int), 0, 0)
def yLw_law : AM := (⟨"RoomFederationLaw", "law", "([I)Z"⟩, code, 4, (some .boolean), 9, 212)
def mtl : List AM := [yRF_init, yLog_init, yResolver_init, yState_init, yEventSet_init, yServer_init, yRF_send, yLaw_isProper, yLaw_isUser, yLog_isFull, yResolver_stateOf, yServer_listHeads, yLog_size, yEventSet_has, yLog_find, yResolver_resolve, yResolver_findAgreed, yState_copy, yState_keepSame, yResolver_findConflict, yEventSet_clear, yState_addChainTo, yEventSet_add, yEventSet_addAll, yEventSet_copy, yEventSet_keepAll, yEventSet_removeAll, yState_addUnlikeTo, yResolver_partPowers, yEvent_isPowerful, yResolver_orderOne, yResolver_list, yResolver_firstFree, yResolver_isAhead, yEvent_isOlderThan, yEventSet_meets, yEventSet_remove, yResolver_tryQueue, yState_fillFrom, yLaw_allows, yState_at, yLaw_allowsMember, yState_membershipOf, yState_isOpen, yState_awaitsMaker, yState_levelOf, yLaw_allowsLevels, yState_put, yResolver_orderTwo, yResolver_rankMainline, yEvent_powerBelow, yResolver_rankOf, yResolver_comesLater, yState_overlay, yEvent_init, yState_placeOf, yServer_latestHeads, yServer_headCount, yEventSet_size, yEvent_setParents, yLaw_needed, yEvent_setGrounds, yRF_admit, yEvent_settle, yState_isAllGood, yState_with, yLog_append, yServer_receive, yServer_knowsParentsOf, yServer_learn, yServer_release, yRF_forge, yServer_canFollow, yLog_pair, yRF_deliver, yRF_serverOf, yRF_sync, yServer_knownCount, yServer_hasKnown, yRF_state, yRF_isStateKey, yRF_numberIn, yRF_before, yRF_look, yState_size, yRF_level, yRF_knows, yServer_isHolding, yRF_head, yServer_headNumber, yRF_count, yServer_heldCount, yRF_events, yMd_init, yMd_send, yMd_wrong, yMd_writeDown, yMd_isHead, yMd_authorise, yMd_findNeeded, yMd_need, yMd_makeLevels, yMd_powerOfAuthorities, yMd_allowed, yMd_member, yMd_membership, yMd_levelBy, yMd_powers, yMd_enter, yMd_resolve, yMd_findConflict, yMd_noteFull, yMd_findPowers, yMd_orderOne, yMd_first, yMd_senderLevel, yMd_byAuthorities, yMd_place, yMd_placeOf, yMd_id, yMd_tryOne, yMd_orderTwo, yMd_mainPlace, yMd_isGood, yMd_renew, yMd_forge, yMd_deliver, yMd_isServer, yMd_isEvent, yMd_ready, yMd_learn, yMd_sync, yMd_state, yMd_before, yMd_look, yMd_level, yMd_knows, yMd_head, yMd_count, yMd_events, yLw_law]
def mt (M : Nat) : AM := match mtl[M]? with
  | some y => y
  | none => yLw_law
theorem mt_0 : mt 0 = yRF_init := rfl
theorem hd_0 : yRF_init.1.cls ≠ "java/lang/invoke/MethodHandle" ∧ yRF_init.1.cls ≠ "java/lang/invoke/VarHandle" ∧ (parseMethodDescriptor yRF_init.1.desc).map (fun d => d.parameters.length) = some (1 - 1) := by decide +kernel
theorem mt_1 : mt 1 = yLog_init := rfl
theorem hd_1 : yLog_init.1.cls ≠ "java/lang/invoke/MethodHandle" ∧ yLog_init.1.cls ≠ "java/lang/invoke/VarHandle" ∧ (parseMethodDescriptor yLog_init.1.desc).map (fun d => d.parameters.length) = some (1 - 1) := by decide +kernel
theorem mt_2 : mt 2 = yResolver_init := rfl
theorem hd_2 : yResolver_init.1.cls ≠ "java/lang/invoke/MethodHandle" ∧ yResolver_init.1.cls ≠ "java/lang/invoke/VarHandle" ∧ (parseMethodDescriptor yResolver_init.1.desc).map (fun d => d.parameters.length) = some (1 - 1) := by decide +kernel
theorem mt_3 : mt 3 = yState_init := rfl
theorem hd_3 : yState_init.1.cls ≠ "java/lang/invoke/MethodHandle" ∧ yState_init.1.cls ≠ "java/lang/invoke/VarHandle" ∧ (parseMethodDescriptor yState_init.1.desc).map (fun d => d.parameters.length) = some (1 - 1) := by decide +kernel
theorem mt_4 : mt 4 = yEventSet_init := rfl
theorem hd_4 : yEventSet_init.1.cls ≠ "java/lang/invoke/MethodHandle" ∧ yEventSet_init.1.cls ≠ "java/lang/invoke/VarHandle" ∧ (parseMethodDescriptor yEventSet_init.1.desc).map (fun d => d.parameters.length) = some (1 - 1) := by decide +kernel
theorem mt_5 : mt 5 = yServer_init := rfl
theorem hd_5 : yServer_init.1.cls ≠ "java/lang/invoke/MethodHandle" ∧ yServer_init.1.cls ≠ "java/lang/invoke/VarHandle" ∧ (parseMethodDescriptor yServer_init.1.desc).map (fun d => d.parameters.length) = some (1 - 1) := by decide +kernel
theorem mt_6 : mt 6 = yRF_send := rfl
theorem hd_6 : yRF_send.1.cls ≠ "java/lang/invoke/MethodHandle" ∧ yRF_send.1.cls ≠ "java/lang/invoke/VarHandle" ∧ (parseMethodDescriptor yRF_send.1.desc).map (fun d => d.parameters.length) = some (6 - 1) := by decide +kernel
theorem mt_7 : mt 7 = yLaw_isProper := rfl
theorem hd_7 : yLaw_isProper.1.cls ≠ "java/lang/invoke/MethodHandle" ∧ yLaw_isProper.1.cls ≠ "java/lang/invoke/VarHandle" ∧ (parseMethodDescriptor yLaw_isProper.1.desc).map (fun d => d.parameters.length) = some 4 := by decide +kernel
theorem mt_8 : mt 8 = yLaw_isUser := rfl
theorem hd_8 : yLaw_isUser.1.cls ≠ "java/lang/invoke/MethodHandle" ∧ yLaw_isUser.1.cls ≠ "java/lang/invoke/VarHandle" ∧ (parseMethodDescriptor yLaw_isUser.1.desc).map (fun d => d.parameters.length) = some 1 := by decide +kernel
theorem mt_9 : mt 9 = yLog_isFull := rfl
theorem hd_9 : yLog_isFull.1.cls ≠ "java/lang/invoke/MethodHandle" ∧ yLog_isFull.1.cls ≠ "java/lang/invoke/VarHandle" ∧ (parseMethodDescriptor yLog_isFull.1.desc).map (fun d => d.parameters.length) = some (1 - 1) := by decide +kernel
theorem mt_10 : mt 10 = yResolver_stateOf := rfl
theorem hd_10 : yResolver_stateOf.1.cls ≠ "java/lang/invoke/MethodHandle" ∧ yResolver_stateOf.1.cls ≠ "java/lang/invoke/VarHandle" ∧ (parseMethodDescriptor yResolver_stateOf.1.desc).map (fun d => d.parameters.length) = some (3 - 1) := by decide +kernel
theorem mt_11 : mt 11 = yServer_listHeads := rfl
theorem hd_11 : yServer_listHeads.1.cls ≠ "java/lang/invoke/MethodHandle" ∧ yServer_listHeads.1.cls ≠ "java/lang/invoke/VarHandle" ∧ (parseMethodDescriptor yServer_listHeads.1.desc).map (fun d => d.parameters.length) = some (3 - 1) := by decide +kernel
theorem mt_12 : mt 12 = yLog_size := rfl
theorem hd_12 : yLog_size.1.cls ≠ "java/lang/invoke/MethodHandle" ∧ yLog_size.1.cls ≠ "java/lang/invoke/VarHandle" ∧ (parseMethodDescriptor yLog_size.1.desc).map (fun d => d.parameters.length) = some (1 - 1) := by decide +kernel
theorem mt_13 : mt 13 = yEventSet_has := rfl
theorem hd_13 : yEventSet_has.1.cls ≠ "java/lang/invoke/MethodHandle" ∧ yEventSet_has.1.cls ≠ "java/lang/invoke/VarHandle" ∧ (parseMethodDescriptor yEventSet_has.1.desc).map (fun d => d.parameters.length) = some (2 - 1) := by decide +kernel
theorem mt_14 : mt 14 = yLog_find := rfl
theorem hd_14 : yLog_find.1.cls ≠ "java/lang/invoke/MethodHandle" ∧ yLog_find.1.cls ≠ "java/lang/invoke/VarHandle" ∧ (parseMethodDescriptor yLog_find.1.desc).map (fun d => d.parameters.length) = some (2 - 1) := by decide +kernel
theorem mt_15 : mt 15 = yResolver_resolve := rfl
theorem hd_15 : yResolver_resolve.1.cls ≠ "java/lang/invoke/MethodHandle" ∧ yResolver_resolve.1.cls ≠ "java/lang/invoke/VarHandle" ∧ (parseMethodDescriptor yResolver_resolve.1.desc).map (fun d => d.parameters.length) = some (4 - 1) := by decide +kernel
theorem mt_16 : mt 16 = yResolver_findAgreed := rfl
theorem hd_16 : yResolver_findAgreed.1.cls ≠ "java/lang/invoke/MethodHandle" ∧ yResolver_findAgreed.1.cls ≠ "java/lang/invoke/VarHandle" ∧ (parseMethodDescriptor yResolver_findAgreed.1.desc).map (fun d => d.parameters.length) = some (3 - 1) := by decide +kernel
theorem mt_17 : mt 17 = yState_copy := rfl
theorem hd_17 : yState_copy.1.cls ≠ "java/lang/invoke/MethodHandle" ∧ yState_copy.1.cls ≠ "java/lang/invoke/VarHandle" ∧ (parseMethodDescriptor yState_copy.1.desc).map (fun d => d.parameters.length) = some (2 - 1) := by decide +kernel
theorem mt_18 : mt 18 = yState_keepSame := rfl
theorem hd_18 : yState_keepSame.1.cls ≠ "java/lang/invoke/MethodHandle" ∧ yState_keepSame.1.cls ≠ "java/lang/invoke/VarHandle" ∧ (parseMethodDescriptor yState_keepSame.1.desc).map (fun d => d.parameters.length) = some (2 - 1) := by decide +kernel
theorem mt_19 : mt 19 = yResolver_findConflict := rfl
theorem hd_19 : yResolver_findConflict.1.cls ≠ "java/lang/invoke/MethodHandle" ∧ yResolver_findConflict.1.cls ≠ "java/lang/invoke/VarHandle" ∧ (parseMethodDescriptor yResolver_findConflict.1.desc).map (fun d => d.parameters.length) = some (3 - 1) := by decide +kernel
theorem mt_20 : mt 20 = yEventSet_clear := rfl
theorem hd_20 : yEventSet_clear.1.cls ≠ "java/lang/invoke/MethodHandle" ∧ yEventSet_clear.1.cls ≠ "java/lang/invoke/VarHandle" ∧ (parseMethodDescriptor yEventSet_clear.1.desc).map (fun d => d.parameters.length) = some (1 - 1) := by decide +kernel
theorem mt_21 : mt 21 = yState_addChainTo := rfl
theorem hd_21 : yState_addChainTo.1.cls ≠ "java/lang/invoke/MethodHandle" ∧ yState_addChainTo.1.cls ≠ "java/lang/invoke/VarHandle" ∧ (parseMethodDescriptor yState_addChainTo.1.desc).map (fun d => d.parameters.length) = some (2 - 1) := by decide +kernel
theorem mt_22 : mt 22 = yEventSet_add := rfl
theorem hd_22 : yEventSet_add.1.cls ≠ "java/lang/invoke/MethodHandle" ∧ yEventSet_add.1.cls ≠ "java/lang/invoke/VarHandle" ∧ (parseMethodDescriptor yEventSet_add.1.desc).map (fun d => d.parameters.length) = some (2 - 1) := by decide +kernel
theorem mt_23 : mt 23 = yEventSet_addAll := rfl
theorem hd_23 : yEventSet_addAll.1.cls ≠ "java/lang/invoke/MethodHandle" ∧ yEventSet_addAll.1.cls ≠ "java/lang/invoke/VarHandle" ∧ (parseMethodDescriptor yEventSet_addAll.1.desc).map (fun d => d.parameters.length) = some (2 - 1) := by decide +kernel
theorem mt_24 : mt 24 = yEventSet_copy := rfl
theorem hd_24 : yEventSet_copy.1.cls ≠ "java/lang/invoke/MethodHandle" ∧ yEventSet_copy.1.cls ≠ "java/lang/invoke/VarHandle" ∧ (parseMethodDescriptor yEventSet_copy.1.desc).map (fun d => d.parameters.length) = some (2 - 1) := by decide +kernel
theorem mt_25 : mt 25 = yEventSet_keepAll := rfl
theorem hd_25 : yEventSet_keepAll.1.cls ≠ "java/lang/invoke/MethodHandle" ∧ yEventSet_keepAll.1.cls ≠ "java/lang/invoke/VarHandle" ∧ (parseMethodDescriptor yEventSet_keepAll.1.desc).map (fun d => d.parameters.length) = some (2 - 1) := by decide +kernel
theorem mt_26 : mt 26 = yEventSet_removeAll := rfl
theorem hd_26 : yEventSet_removeAll.1.cls ≠ "java/lang/invoke/MethodHandle" ∧ yEventSet_removeAll.1.cls ≠ "java/lang/invoke/VarHandle" ∧ (parseMethodDescriptor yEventSet_removeAll.1.desc).map (fun d => d.parameters.length) = some (2 - 1) := by decide +kernel
theorem mt_27 : mt 27 = yState_addUnlikeTo := rfl
theorem hd_27 : yState_addUnlikeTo.1.cls ≠ "java/lang/invoke/MethodHandle" ∧ yState_addUnlikeTo.1.cls ≠ "java/lang/invoke/VarHandle" ∧ (parseMethodDescriptor yState_addUnlikeTo.1.desc).map (fun d => d.parameters.length) = some (3 - 1) := by decide +kernel
theorem mt_28 : mt 28 = yResolver_partPowers := rfl
theorem hd_28 : yResolver_partPowers.1.cls ≠ "java/lang/invoke/MethodHandle" ∧ yResolver_partPowers.1.cls ≠ "java/lang/invoke/VarHandle" ∧ (parseMethodDescriptor yResolver_partPowers.1.desc).map (fun d => d.parameters.length) = some (2 - 1) := by decide +kernel
theorem mt_29 : mt 29 = yEvent_isPowerful := rfl
theorem hd_29 : yEvent_isPowerful.1.cls ≠ "java/lang/invoke/MethodHandle" ∧ yEvent_isPowerful.1.cls ≠ "java/lang/invoke/VarHandle" ∧ (parseMethodDescriptor yEvent_isPowerful.1.desc).map (fun d => d.parameters.length) = some (1 - 1) := by decide +kernel
theorem mt_30 : mt 30 = yResolver_orderOne := rfl
theorem hd_30 : yResolver_orderOne.1.cls ≠ "java/lang/invoke/MethodHandle" ∧ yResolver_orderOne.1.cls ≠ "java/lang/invoke/VarHandle" ∧ (parseMethodDescriptor yResolver_orderOne.1.desc).map (fun d => d.parameters.length) = some (2 - 1) := by decide +kernel
theorem mt_31 : mt 31 = yResolver_list := rfl
theorem hd_31 : yResolver_list.1.cls ≠ "java/lang/invoke/MethodHandle" ∧ yResolver_list.1.cls ≠ "java/lang/invoke/VarHandle" ∧ (parseMethodDescriptor yResolver_list.1.desc).map (fun d => d.parameters.length) = some (3 - 1) := by decide +kernel
theorem mt_32 : mt 32 = yResolver_firstFree := rfl
theorem hd_32 : yResolver_firstFree.1.cls ≠ "java/lang/invoke/MethodHandle" ∧ yResolver_firstFree.1.cls ≠ "java/lang/invoke/VarHandle" ∧ (parseMethodDescriptor yResolver_firstFree.1.desc).map (fun d => d.parameters.length) = some (2 - 1) := by decide +kernel
theorem mt_33 : mt 33 = yResolver_isAhead := rfl
theorem hd_33 : yResolver_isAhead.1.cls ≠ "java/lang/invoke/MethodHandle" ∧ yResolver_isAhead.1.cls ≠ "java/lang/invoke/VarHandle" ∧ (parseMethodDescriptor yResolver_isAhead.1.desc).map (fun d => d.parameters.length) = some 2 := by decide +kernel
theorem mt_34 : mt 34 = yEvent_isOlderThan := rfl
theorem hd_34 : yEvent_isOlderThan.1.cls ≠ "java/lang/invoke/MethodHandle" ∧ yEvent_isOlderThan.1.cls ≠ "java/lang/invoke/VarHandle" ∧ (parseMethodDescriptor yEvent_isOlderThan.1.desc).map (fun d => d.parameters.length) = some (2 - 1) := by decide +kernel
theorem mt_35 : mt 35 = yEventSet_meets := rfl
theorem hd_35 : yEventSet_meets.1.cls ≠ "java/lang/invoke/MethodHandle" ∧ yEventSet_meets.1.cls ≠ "java/lang/invoke/VarHandle" ∧ (parseMethodDescriptor yEventSet_meets.1.desc).map (fun d => d.parameters.length) = some (2 - 1) := by decide +kernel
theorem mt_36 : mt 36 = yEventSet_remove := rfl
theorem hd_36 : yEventSet_remove.1.cls ≠ "java/lang/invoke/MethodHandle" ∧ yEventSet_remove.1.cls ≠ "java/lang/invoke/VarHandle" ∧ (parseMethodDescriptor yEventSet_remove.1.desc).map (fun d => d.parameters.length) = some (2 - 1) := by decide +kernel
theorem mt_37 : mt 37 = yResolver_tryQueue := rfl
theorem hd_37 : yResolver_tryQueue.1.cls ≠ "java/lang/invoke/MethodHandle" ∧ yResolver_tryQueue.1.cls ≠ "java/lang/invoke/VarHandle" ∧ (parseMethodDescriptor yResolver_tryQueue.1.desc).map (fun d => d.parameters.length) = some (3 - 1) := by decide +kernel
theorem mt_38 : mt 38 = yState_fillFrom := rfl
theorem hd_38 : yState_fillFrom.1.cls ≠ "java/lang/invoke/MethodHandle" ∧ yState_fillFrom.1.cls ≠ "java/lang/invoke/VarHandle" ∧ (parseMethodDescriptor yState_fillFrom.1.desc).map (fun d => d.parameters.length) = some (2 - 1) := by decide +kernel
theorem mt_39 : mt 39 = yLaw_allows := rfl
theorem hd_39 : yLaw_allows.1.cls ≠ "java/lang/invoke/MethodHandle" ∧ yLaw_allows.1.cls ≠ "java/lang/invoke/VarHandle" ∧ (parseMethodDescriptor yLaw_allows.1.desc).map (fun d => d.parameters.length) = some 2 := by decide +kernel
theorem mt_40 : mt 40 = yState_at := rfl
theorem hd_40 : yState_at.1.cls ≠ "java/lang/invoke/MethodHandle" ∧ yState_at.1.cls ≠ "java/lang/invoke/VarHandle" ∧ (parseMethodDescriptor yState_at.1.desc).map (fun d => d.parameters.length) = some (2 - 1) := by decide +kernel
theorem mt_41 : mt 41 = yLaw_allowsMember := rfl
theorem hd_41 : yLaw_allowsMember.1.cls ≠ "java/lang/invoke/MethodHandle" ∧ yLaw_allowsMember.1.cls ≠ "java/lang/invoke/VarHandle" ∧ (parseMethodDescriptor yLaw_allowsMember.1.desc).map (fun d => d.parameters.length) = some 2 := by decide +kernel
theorem mt_42 : mt 42 = yState_membershipOf := rfl
theorem hd_42 : yState_membershipOf.1.cls ≠ "java/lang/invoke/MethodHandle" ∧ yState_membershipOf.1.cls ≠ "java/lang/invoke/VarHandle" ∧ (parseMethodDescriptor yState_membershipOf.1.desc).map (fun d => d.parameters.length) = some (2 - 1) := by decide +kernel
theorem mt_43 : mt 43 = yState_isOpen := rfl
theorem hd_43 : yState_isOpen.1.cls ≠ "java/lang/invoke/MethodHandle" ∧ yState_isOpen.1.cls ≠ "java/lang/invoke/VarHandle" ∧ (parseMethodDescriptor yState_isOpen.1.desc).map (fun d => d.parameters.length) = some (1 - 1) := by decide +kernel
theorem mt_44 : mt 44 = yState_awaitsMaker := rfl
theorem hd_44 : yState_awaitsMaker.1.cls ≠ "java/lang/invoke/MethodHandle" ∧ yState_awaitsMaker.1.cls ≠ "java/lang/invoke/VarHandle" ∧ (parseMethodDescriptor yState_awaitsMaker.1.desc).map (fun d => d.parameters.length) = some (2 - 1) := by decide +kernel
theorem mt_45 : mt 45 = yState_levelOf := rfl
theorem hd_45 : yState_levelOf.1.cls ≠ "java/lang/invoke/MethodHandle" ∧ yState_levelOf.1.cls ≠ "java/lang/invoke/VarHandle" ∧ (parseMethodDescriptor yState_levelOf.1.desc).map (fun d => d.parameters.length) = some (2 - 1) := by decide +kernel
theorem mt_46 : mt 46 = yLaw_allowsLevels := rfl
theorem hd_46 : yLaw_allowsLevels.1.cls ≠ "java/lang/invoke/MethodHandle" ∧ yLaw_allowsLevels.1.cls ≠ "java/lang/invoke/VarHandle" ∧ (parseMethodDescriptor yLaw_allowsLevels.1.desc).map (fun d => d.parameters.length) = some 2 := by decide +kernel
theorem mt_47 : mt 47 = yState_put := rfl
theorem hd_47 : yState_put.1.cls ≠ "java/lang/invoke/MethodHandle" ∧ yState_put.1.cls ≠ "java/lang/invoke/VarHandle" ∧ (parseMethodDescriptor yState_put.1.desc).map (fun d => d.parameters.length) = some (2 - 1) := by decide +kernel
theorem mt_48 : mt 48 = yResolver_orderTwo := rfl
theorem hd_48 : yResolver_orderTwo.1.cls ≠ "java/lang/invoke/MethodHandle" ∧ yResolver_orderTwo.1.cls ≠ "java/lang/invoke/VarHandle" ∧ (parseMethodDescriptor yResolver_orderTwo.1.desc).map (fun d => d.parameters.length) = some (3 - 1) := by decide +kernel
theorem mt_49 : mt 49 = yResolver_rankMainline := rfl
theorem hd_49 : yResolver_rankMainline.1.cls ≠ "java/lang/invoke/MethodHandle" ∧ yResolver_rankMainline.1.cls ≠ "java/lang/invoke/VarHandle" ∧ (parseMethodDescriptor yResolver_rankMainline.1.desc).map (fun d => d.parameters.length) = some (2 - 1) := by decide +kernel
theorem mt_50 : mt 50 = yEvent_powerBelow := rfl
theorem hd_50 : yEvent_powerBelow.1.cls ≠ "java/lang/invoke/MethodHandle" ∧ yEvent_powerBelow.1.cls ≠ "java/lang/invoke/VarHandle" ∧ (parseMethodDescriptor yEvent_powerBelow.1.desc).map (fun d => d.parameters.length) = some (1 - 1) := by decide +kernel
theorem mt_51 : mt 51 = yResolver_rankOf := rfl
theorem hd_51 : yResolver_rankOf.1.cls ≠ "java/lang/invoke/MethodHandle" ∧ yResolver_rankOf.1.cls ≠ "java/lang/invoke/VarHandle" ∧ (parseMethodDescriptor yResolver_rankOf.1.desc).map (fun d => d.parameters.length) = some (3 - 1) := by decide +kernel
theorem mt_52 : mt 52 = yResolver_comesLater := rfl
theorem hd_52 : yResolver_comesLater.1.cls ≠ "java/lang/invoke/MethodHandle" ∧ yResolver_comesLater.1.cls ≠ "java/lang/invoke/VarHandle" ∧ (parseMethodDescriptor yResolver_comesLater.1.desc).map (fun d => d.parameters.length) = some (4 - 1) := by decide +kernel
theorem mt_53 : mt 53 = yState_overlay := rfl
theorem hd_53 : yState_overlay.1.cls ≠ "java/lang/invoke/MethodHandle" ∧ yState_overlay.1.cls ≠ "java/lang/invoke/VarHandle" ∧ (parseMethodDescriptor yState_overlay.1.desc).map (fun d => d.parameters.length) = some (2 - 1) := by decide +kernel
theorem mt_54 : mt 54 = yEvent_init := rfl
theorem hd_54 : yEvent_init.1.cls ≠ "java/lang/invoke/MethodHandle" ∧ yEvent_init.1.cls ≠ "java/lang/invoke/VarHandle" ∧ (parseMethodDescriptor yEvent_init.1.desc).map (fun d => d.parameters.length) = some (7 - 1) := by decide +kernel
theorem mt_55 : mt 55 = yState_placeOf := rfl
theorem hd_55 : yState_placeOf.1.cls ≠ "java/lang/invoke/MethodHandle" ∧ yState_placeOf.1.cls ≠ "java/lang/invoke/VarHandle" ∧ (parseMethodDescriptor yState_placeOf.1.desc).map (fun d => d.parameters.length) = some 2 := by decide +kernel
theorem mt_56 : mt 56 = yServer_latestHeads := rfl
theorem hd_56 : yServer_latestHeads.1.cls ≠ "java/lang/invoke/MethodHandle" ∧ yServer_latestHeads.1.cls ≠ "java/lang/invoke/VarHandle" ∧ (parseMethodDescriptor yServer_latestHeads.1.desc).map (fun d => d.parameters.length) = some (2 - 1) := by decide +kernel
theorem mt_57 : mt 57 = yServer_headCount := rfl
theorem hd_57 : yServer_headCount.1.cls ≠ "java/lang/invoke/MethodHandle" ∧ yServer_headCount.1.cls ≠ "java/lang/invoke/VarHandle" ∧ (parseMethodDescriptor yServer_headCount.1.desc).map (fun d => d.parameters.length) = some (1 - 1) := by decide +kernel
theorem mt_58 : mt 58 = yEventSet_size := rfl
theorem hd_58 : yEventSet_size.1.cls ≠ "java/lang/invoke/MethodHandle" ∧ yEventSet_size.1.cls ≠ "java/lang/invoke/VarHandle" ∧ (parseMethodDescriptor yEventSet_size.1.desc).map (fun d => d.parameters.length) = some (1 - 1) := by decide +kernel
theorem mt_59 : mt 59 = yEvent_setParents := rfl
theorem hd_59 : yEvent_setParents.1.cls ≠ "java/lang/invoke/MethodHandle" ∧ yEvent_setParents.1.cls ≠ "java/lang/invoke/VarHandle" ∧ (parseMethodDescriptor yEvent_setParents.1.desc).map (fun d => d.parameters.length) = some (2 - 1) := by decide +kernel
theorem mt_60 : mt 60 = yLaw_needed := rfl
theorem hd_60 : yLaw_needed.1.cls ≠ "java/lang/invoke/MethodHandle" ∧ yLaw_needed.1.cls ≠ "java/lang/invoke/VarHandle" ∧ (parseMethodDescriptor yLaw_needed.1.desc).map (fun d => d.parameters.length) = some 2 := by decide +kernel
theorem mt_61 : mt 61 = yEvent_setGrounds := rfl
theorem hd_61 : yEvent_setGrounds.1.cls ≠ "java/lang/invoke/MethodHandle" ∧ yEvent_setGrounds.1.cls ≠ "java/lang/invoke/VarHandle" ∧ (parseMethodDescriptor yEvent_setGrounds.1.desc).map (fun d => d.parameters.length) = some (2 - 1) := by decide +kernel
theorem mt_62 : mt 62 = yRF_admit := rfl
theorem hd_62 : yRF_admit.1.cls ≠ "java/lang/invoke/MethodHandle" ∧ yRF_admit.1.cls ≠ "java/lang/invoke/VarHandle" ∧ (parseMethodDescriptor yRF_admit.1.desc).map (fun d => d.parameters.length) = some (3 - 1) := by decide +kernel
theorem mt_63 : mt 63 = yEvent_settle := rfl
theorem hd_63 : yEvent_settle.1.cls ≠ "java/lang/invoke/MethodHandle" ∧ yEvent_settle.1.cls ≠ "java/lang/invoke/VarHandle" ∧ (parseMethodDescriptor yEvent_settle.1.desc).map (fun d => d.parameters.length) = some (2 - 1) := by decide +kernel
theorem mt_64 : mt 64 = yState_isAllGood := rfl
theorem hd_64 : yState_isAllGood.1.cls ≠ "java/lang/invoke/MethodHandle" ∧ yState_isAllGood.1.cls ≠ "java/lang/invoke/VarHandle" ∧ (parseMethodDescriptor yState_isAllGood.1.desc).map (fun d => d.parameters.length) = some (1 - 1) := by decide +kernel
theorem mt_65 : mt 65 = yState_with := rfl
theorem hd_65 : yState_with.1.cls ≠ "java/lang/invoke/MethodHandle" ∧ yState_with.1.cls ≠ "java/lang/invoke/VarHandle" ∧ (parseMethodDescriptor yState_with.1.desc).map (fun d => d.parameters.length) = some (2 - 1) := by decide +kernel
theorem mt_66 : mt 66 = yLog_append := rfl
theorem hd_66 : yLog_append.1.cls ≠ "java/lang/invoke/MethodHandle" ∧ yLog_append.1.cls ≠ "java/lang/invoke/VarHandle" ∧ (parseMethodDescriptor yLog_append.1.desc).map (fun d => d.parameters.length) = some (2 - 1) := by decide +kernel
theorem mt_67 : mt 67 = yServer_receive := rfl
theorem hd_67 : yServer_receive.1.cls ≠ "java/lang/invoke/MethodHandle" ∧ yServer_receive.1.cls ≠ "java/lang/invoke/VarHandle" ∧ (parseMethodDescriptor yServer_receive.1.desc).map (fun d => d.parameters.length) = some (3 - 1) := by decide +kernel
theorem mt_68 : mt 68 = yServer_knowsParentsOf := rfl
theorem hd_68 : yServer_knowsParentsOf.1.cls ≠ "java/lang/invoke/MethodHandle" ∧ yServer_knowsParentsOf.1.cls ≠ "java/lang/invoke/VarHandle" ∧ (parseMethodDescriptor yServer_knowsParentsOf.1.desc).map (fun d => d.parameters.length) = some (2 - 1) := by decide +kernel
theorem mt_69 : mt 69 = yServer_learn := rfl
theorem hd_69 : yServer_learn.1.cls ≠ "java/lang/invoke/MethodHandle" ∧ yServer_learn.1.cls ≠ "java/lang/invoke/VarHandle" ∧ (parseMethodDescriptor yServer_learn.1.desc).map (fun d => d.parameters.length) = some (2 - 1) := by decide +kernel
theorem mt_70 : mt 70 = yServer_release := rfl
theorem hd_70 : yServer_release.1.cls ≠ "java/lang/invoke/MethodHandle" ∧ yServer_release.1.cls ≠ "java/lang/invoke/VarHandle" ∧ (parseMethodDescriptor yServer_release.1.desc).map (fun d => d.parameters.length) = some (3 - 1) := by decide +kernel
theorem mt_71 : mt 71 = yRF_forge := rfl
theorem hd_71 : yRF_forge.1.cls ≠ "java/lang/invoke/MethodHandle" ∧ yRF_forge.1.cls ≠ "java/lang/invoke/VarHandle" ∧ (parseMethodDescriptor yRF_forge.1.desc).map (fun d => d.parameters.length) = some (8 - 1) := by decide +kernel
theorem mt_72 : mt 72 = yServer_canFollow := rfl
theorem hd_72 : yServer_canFollow.1.cls ≠ "java/lang/invoke/MethodHandle" ∧ yServer_canFollow.1.cls ≠ "java/lang/invoke/VarHandle" ∧ (parseMethodDescriptor yServer_canFollow.1.desc).map (fun d => d.parameters.length) = some (2 - 1) := by decide +kernel
theorem mt_73 : mt 73 = yLog_pair := rfl
theorem hd_73 : yLog_pair.1.cls ≠ "java/lang/invoke/MethodHandle" ∧ yLog_pair.1.cls ≠ "java/lang/invoke/VarHandle" ∧ (parseMethodDescriptor yLog_pair.1.desc).map (fun d => d.parameters.length) = some (3 - 1) := by decide +kernel
theorem mt_74 : mt 74 = yRF_deliver := rfl
theorem hd_74 : yRF_deliver.1.cls ≠ "java/lang/invoke/MethodHandle" ∧ yRF_deliver.1.cls ≠ "java/lang/invoke/VarHandle" ∧ (parseMethodDescriptor yRF_deliver.1.desc).map (fun d => d.parameters.length) = some (3 - 1) := by decide +kernel
theorem mt_75 : mt 75 = yRF_serverOf := rfl
theorem hd_75 : yRF_serverOf.1.cls ≠ "java/lang/invoke/MethodHandle" ∧ yRF_serverOf.1.cls ≠ "java/lang/invoke/VarHandle" ∧ (parseMethodDescriptor yRF_serverOf.1.desc).map (fun d => d.parameters.length) = some (2 - 1) := by decide +kernel
theorem mt_76 : mt 76 = yRF_sync := rfl
theorem hd_76 : yRF_sync.1.cls ≠ "java/lang/invoke/MethodHandle" ∧ yRF_sync.1.cls ≠ "java/lang/invoke/VarHandle" ∧ (parseMethodDescriptor yRF_sync.1.desc).map (fun d => d.parameters.length) = some (3 - 1) := by decide +kernel
theorem mt_77 : mt 77 = yServer_knownCount := rfl
theorem hd_77 : yServer_knownCount.1.cls ≠ "java/lang/invoke/MethodHandle" ∧ yServer_knownCount.1.cls ≠ "java/lang/invoke/VarHandle" ∧ (parseMethodDescriptor yServer_knownCount.1.desc).map (fun d => d.parameters.length) = some (1 - 1) := by decide +kernel
theorem mt_78 : mt 78 = yServer_hasKnown := rfl
theorem hd_78 : yServer_hasKnown.1.cls ≠ "java/lang/invoke/MethodHandle" ∧ yServer_hasKnown.1.cls ≠ "java/lang/invoke/VarHandle" ∧ (parseMethodDescriptor yServer_hasKnown.1.desc).map (fun d => d.parameters.length) = some (2 - 1) := by decide +kernel
theorem mt_79 : mt 79 = yRF_state := rfl
theorem hd_79 : yRF_state.1.cls ≠ "java/lang/invoke/MethodHandle" ∧ yRF_state.1.cls ≠ "java/lang/invoke/VarHandle" ∧ (parseMethodDescriptor yRF_state.1.desc).map (fun d => d.parameters.length) = some (4 - 1) := by decide +kernel
theorem mt_80 : mt 80 = yRF_isStateKey := rfl
theorem hd_80 : yRF_isStateKey.1.cls ≠ "java/lang/invoke/MethodHandle" ∧ yRF_isStateKey.1.cls ≠ "java/lang/invoke/VarHandle" ∧ (parseMethodDescriptor yRF_isStateKey.1.desc).map (fun d => d.parameters.length) = some 2 := by decide +kernel
theorem mt_81 : mt 81 = yRF_numberIn := rfl
theorem hd_81 : yRF_numberIn.1.cls ≠ "java/lang/invoke/MethodHandle" ∧ yRF_numberIn.1.cls ≠ "java/lang/invoke/VarHandle" ∧ (parseMethodDescriptor yRF_numberIn.1.desc).map (fun d => d.parameters.length) = some 3 := by decide +kernel
theorem mt_82 : mt 82 = yRF_before := rfl
theorem hd_82 : yRF_before.1.cls ≠ "java/lang/invoke/MethodHandle" ∧ yRF_before.1.cls ≠ "java/lang/invoke/VarHandle" ∧ (parseMethodDescriptor yRF_before.1.desc).map (fun d => d.parameters.length) = some (4 - 1) := by decide +kernel
theorem mt_83 : mt 83 = yRF_look := rfl
theorem hd_83 : yRF_look.1.cls ≠ "java/lang/invoke/MethodHandle" ∧ yRF_look.1.cls ≠ "java/lang/invoke/VarHandle" ∧ (parseMethodDescriptor yRF_look.1.desc).map (fun d => d.parameters.length) = some (3 - 1) := by decide +kernel
theorem mt_84 : mt 84 = yState_size := rfl
theorem hd_84 : yState_size.1.cls ≠ "java/lang/invoke/MethodHandle" ∧ yState_size.1.cls ≠ "java/lang/invoke/VarHandle" ∧ (parseMethodDescriptor yState_size.1.desc).map (fun d => d.parameters.length) = some (1 - 1) := by decide +kernel
theorem mt_85 : mt 85 = yRF_level := rfl
theorem hd_85 : yRF_level.1.cls ≠ "java/lang/invoke/MethodHandle" ∧ yRF_level.1.cls ≠ "java/lang/invoke/VarHandle" ∧ (parseMethodDescriptor yRF_level.1.desc).map (fun d => d.parameters.length) = some (3 - 1) := by decide +kernel
theorem mt_86 : mt 86 = yRF_knows := rfl
theorem hd_86 : yRF_knows.1.cls ≠ "java/lang/invoke/MethodHandle" ∧ yRF_knows.1.cls ≠ "java/lang/invoke/VarHandle" ∧ (parseMethodDescriptor yRF_knows.1.desc).map (fun d => d.parameters.length) = some (3 - 1) := by decide +kernel
theorem mt_87 : mt 87 = yServer_isHolding := rfl
theorem hd_87 : yServer_isHolding.1.cls ≠ "java/lang/invoke/MethodHandle" ∧ yServer_isHolding.1.cls ≠ "java/lang/invoke/VarHandle" ∧ (parseMethodDescriptor yServer_isHolding.1.desc).map (fun d => d.parameters.length) = some (2 - 1) := by decide +kernel
theorem mt_88 : mt 88 = yRF_head := rfl
theorem hd_88 : yRF_head.1.cls ≠ "java/lang/invoke/MethodHandle" ∧ yRF_head.1.cls ≠ "java/lang/invoke/VarHandle" ∧ (parseMethodDescriptor yRF_head.1.desc).map (fun d => d.parameters.length) = some (3 - 1) := by decide +kernel
theorem mt_89 : mt 89 = yServer_headNumber := rfl
theorem hd_89 : yServer_headNumber.1.cls ≠ "java/lang/invoke/MethodHandle" ∧ yServer_headNumber.1.cls ≠ "java/lang/invoke/VarHandle" ∧ (parseMethodDescriptor yServer_headNumber.1.desc).map (fun d => d.parameters.length) = some (3 - 1) := by decide +kernel
theorem mt_90 : mt 90 = yRF_count := rfl
theorem hd_90 : yRF_count.1.cls ≠ "java/lang/invoke/MethodHandle" ∧ yRF_count.1.cls ≠ "java/lang/invoke/VarHandle" ∧ (parseMethodDescriptor yRF_count.1.desc).map (fun d => d.parameters.length) = some (3 - 1) := by decide +kernel
theorem mt_91 : mt 91 = yServer_heldCount := rfl
theorem hd_91 : yServer_heldCount.1.cls ≠ "java/lang/invoke/MethodHandle" ∧ yServer_heldCount.1.cls ≠ "java/lang/invoke/VarHandle" ∧ (parseMethodDescriptor yServer_heldCount.1.desc).map (fun d => d.parameters.length) = some (1 - 1) := by decide +kernel
theorem mt_92 : mt 92 = yRF_events := rfl
theorem hd_92 : yRF_events.1.cls ≠ "java/lang/invoke/MethodHandle" ∧ yRF_events.1.cls ≠ "java/lang/invoke/VarHandle" ∧ (parseMethodDescriptor yRF_events.1.desc).map (fun d => d.parameters.length) = some (1 - 1) := by decide +kernel
theorem mt_93 : mt 93 = yMd_init := rfl
theorem hd_93 : yMd_init.1.cls ≠ "java/lang/invoke/MethodHandle" ∧ yMd_init.1.cls ≠ "java/lang/invoke/VarHandle" ∧ (parseMethodDescriptor yMd_init.1.desc).map (fun d => d.parameters.length) = some (1 - 1) := by decide +kernel
theorem mt_94 : mt 94 = yMd_send := rfl
theorem hd_94 : yMd_send.1.cls ≠ "java/lang/invoke/MethodHandle" ∧ yMd_send.1.cls ≠ "java/lang/invoke/VarHandle" ∧ (parseMethodDescriptor yMd_send.1.desc).map (fun d => d.parameters.length) = some (6 - 1) := by decide +kernel
theorem mt_95 : mt 95 = yMd_wrong := rfl
theorem hd_95 : yMd_wrong.1.cls ≠ "java/lang/invoke/MethodHandle" ∧ yMd_wrong.1.cls ≠ "java/lang/invoke/VarHandle" ∧ (parseMethodDescriptor yMd_wrong.1.desc).map (fun d => d.parameters.length) = some 4 := by decide +kernel
theorem mt_96 : mt 96 = yMd_writeDown := rfl
theorem hd_96 : yMd_writeDown.1.cls ≠ "java/lang/invoke/MethodHandle" ∧ yMd_writeDown.1.cls ≠ "java/lang/invoke/VarHandle" ∧ (parseMethodDescriptor yMd_writeDown.1.desc).map (fun d => d.parameters.length) = some (6 - 1) := by decide +kernel
theorem mt_97 : mt 97 = yMd_isHead := rfl
theorem hd_97 : yMd_isHead.1.cls ≠ "java/lang/invoke/MethodHandle" ∧ yMd_isHead.1.cls ≠ "java/lang/invoke/VarHandle" ∧ (parseMethodDescriptor yMd_isHead.1.desc).map (fun d => d.parameters.length) = some (3 - 1) := by decide +kernel
theorem mt_98 : mt 98 = yMd_authorise := rfl
theorem hd_98 : yMd_authorise.1.cls ≠ "java/lang/invoke/MethodHandle" ∧ yMd_authorise.1.cls ≠ "java/lang/invoke/VarHandle" ∧ (parseMethodDescriptor yMd_authorise.1.desc).map (fun d => d.parameters.length) = some (3 - 1) := by decide +kernel
theorem mt_99 : mt 99 = yMd_findNeeded := rfl
theorem hd_99 : yMd_findNeeded.1.cls ≠ "java/lang/invoke/MethodHandle" ∧ yMd_findNeeded.1.cls ≠ "java/lang/invoke/VarHandle" ∧ (parseMethodDescriptor yMd_findNeeded.1.desc).map (fun d => d.parameters.length) = some (6 - 1) := by decide +kernel
theorem mt_100 : mt 100 = yMd_need := rfl
theorem hd_100 : yMd_need.1.cls ≠ "java/lang/invoke/MethodHandle" ∧ yMd_need.1.cls ≠ "java/lang/invoke/VarHandle" ∧ (parseMethodDescriptor yMd_need.1.desc).map (fun d => d.parameters.length) = some (2 - 1) := by decide +kernel
theorem mt_101 : mt 101 = yMd_makeLevels := rfl
theorem hd_101 : yMd_makeLevels.1.cls ≠ "java/lang/invoke/MethodHandle" ∧ yMd_makeLevels.1.cls ≠ "java/lang/invoke/VarHandle" ∧ (parseMethodDescriptor yMd_makeLevels.1.desc).map (fun d => d.parameters.length) = some (2 - 1) := by decide +kernel
theorem mt_102 : mt 102 = yMd_powerOfAuthorities := rfl
theorem hd_102 : yMd_powerOfAuthorities.1.cls ≠ "java/lang/invoke/MethodHandle" ∧ yMd_powerOfAuthorities.1.cls ≠ "java/lang/invoke/VarHandle" ∧ (parseMethodDescriptor yMd_powerOfAuthorities.1.desc).map (fun d => d.parameters.length) = some (2 - 1) := by decide +kernel
theorem mt_103 : mt 103 = yMd_allowed := rfl
theorem hd_103 : yMd_allowed.1.cls ≠ "java/lang/invoke/MethodHandle" ∧ yMd_allowed.1.cls ≠ "java/lang/invoke/VarHandle" ∧ (parseMethodDescriptor yMd_allowed.1.desc).map (fun d => d.parameters.length) = some (4 - 1) := by decide +kernel
theorem mt_104 : mt 104 = yMd_member := rfl
theorem hd_104 : yMd_member.1.cls ≠ "java/lang/invoke/MethodHandle" ∧ yMd_member.1.cls ≠ "java/lang/invoke/VarHandle" ∧ (parseMethodDescriptor yMd_member.1.desc).map (fun d => d.parameters.length) = some (4 - 1) := by decide +kernel
theorem mt_105 : mt 105 = yMd_membership := rfl
theorem hd_105 : yMd_membership.1.cls ≠ "java/lang/invoke/MethodHandle" ∧ yMd_membership.1.cls ≠ "java/lang/invoke/VarHandle" ∧ (parseMethodDescriptor yMd_membership.1.desc).map (fun d => d.parameters.length) = some (4 - 1) := by decide +kernel
theorem mt_106 : mt 106 = yMd_levelBy := rfl
theorem hd_106 : yMd_levelBy.1.cls ≠ "java/lang/invoke/MethodHandle" ∧ yMd_levelBy.1.cls ≠ "java/lang/invoke/VarHandle" ∧ (parseMethodDescriptor yMd_levelBy.1.desc).map (fun d => d.parameters.length) = some (4 - 1) := by decide +kernel
theorem mt_107 : mt 107 = yMd_powers := rfl
theorem hd_107 : yMd_powers.1.cls ≠ "java/lang/invoke/MethodHandle" ∧ yMd_powers.1.cls ≠ "java/lang/invoke/VarHandle" ∧ (parseMethodDescriptor yMd_powers.1.desc).map (fun d => d.parameters.length) = some (4 - 1) := by decide +kernel
theorem mt_108 : mt 108 = yMd_enter := rfl
theorem hd_108 : yMd_enter.1.cls ≠ "java/lang/invoke/MethodHandle" ∧ yMd_enter.1.cls ≠ "java/lang/invoke/VarHandle" ∧ (parseMethodDescriptor yMd_enter.1.desc).map (fun d => d.parameters.length) = some (1 - 1) := by decide +kernel
theorem mt_109 : mt 109 = yMd_resolve := rfl
theorem hd_109 : yMd_resolve.1.cls ≠ "java/lang/invoke/MethodHandle" ∧ yMd_resolve.1.cls ≠ "java/lang/invoke/VarHandle" ∧ (parseMethodDescriptor yMd_resolve.1.desc).map (fun d => d.parameters.length) = some (1 - 1) := by decide +kernel
theorem mt_110 : mt 110 = yMd_findConflict := rfl
theorem hd_110 : yMd_findConflict.1.cls ≠ "java/lang/invoke/MethodHandle" ∧ yMd_findConflict.1.cls ≠ "java/lang/invoke/VarHandle" ∧ (parseMethodDescriptor yMd_findConflict.1.desc).map (fun d => d.parameters.length) = some (1 - 1) := by decide +kernel
theorem mt_111 : mt 111 = yMd_noteFull := rfl
theorem hd_111 : yMd_noteFull.1.cls ≠ "java/lang/invoke/MethodHandle" ∧ yMd_noteFull.1.cls ≠ "java/lang/invoke/VarHandle" ∧ (parseMethodDescriptor yMd_noteFull.1.desc).map (fun d => d.parameters.length) = some (2 - 1) := by decide +kernel
theorem mt_112 : mt 112 = yMd_findPowers := rfl
theorem hd_112 : yMd_findPowers.1.cls ≠ "java/lang/invoke/MethodHandle" ∧ yMd_findPowers.1.cls ≠ "java/lang/invoke/VarHandle" ∧ (parseMethodDescriptor yMd_findPowers.1.desc).map (fun d => d.parameters.length) = some (1 - 1) := by decide +kernel
theorem mt_113 : mt 113 = yMd_orderOne := rfl
theorem hd_113 : yMd_orderOne.1.cls ≠ "java/lang/invoke/MethodHandle" ∧ yMd_orderOne.1.cls ≠ "java/lang/invoke/VarHandle" ∧ (parseMethodDescriptor yMd_orderOne.1.desc).map (fun d => d.parameters.length) = some (1 - 1) := by decide +kernel
theorem mt_114 : mt 114 = yMd_first := rfl
theorem hd_114 : yMd_first.1.cls ≠ "java/lang/invoke/MethodHandle" ∧ yMd_first.1.cls ≠ "java/lang/invoke/VarHandle" ∧ (parseMethodDescriptor yMd_first.1.desc).map (fun d => d.parameters.length) = some (3 - 1) := by decide +kernel
theorem mt_115 : mt 115 = yMd_senderLevel := rfl
theorem hd_115 : yMd_senderLevel.1.cls ≠ "java/lang/invoke/MethodHandle" ∧ yMd_senderLevel.1.cls ≠ "java/lang/invoke/VarHandle" ∧ (parseMethodDescriptor yMd_senderLevel.1.desc).map (fun d => d.parameters.length) = some (2 - 1) := by decide +kernel
theorem mt_116 : mt 116 = yMd_byAuthorities := rfl
theorem hd_116 : yMd_byAuthorities.1.cls ≠ "java/lang/invoke/MethodHandle" ∧ yMd_byAuthorities.1.cls ≠ "java/lang/invoke/VarHandle" ∧ (parseMethodDescriptor yMd_byAuthorities.1.desc).map (fun d => d.parameters.length) = some (2 - 1) := by decide +kernel
theorem mt_117 : mt 117 = yMd_place := rfl
theorem hd_117 : yMd_place.1.cls ≠ "java/lang/invoke/MethodHandle" ∧ yMd_place.1.cls ≠ "java/lang/invoke/VarHandle" ∧ (parseMethodDescriptor yMd_place.1.desc).map (fun d => d.parameters.length) = some (2 - 1) := by decide +kernel
theorem mt_118 : mt 118 = yMd_placeOf := rfl
theorem hd_118 : yMd_placeOf.1.cls ≠ "java/lang/invoke/MethodHandle" ∧ yMd_placeOf.1.cls ≠ "java/lang/invoke/VarHandle" ∧ (parseMethodDescriptor yMd_placeOf.1.desc).map (fun d => d.parameters.length) = some 2 := by decide +kernel
theorem mt_119 : mt 119 = yMd_id := rfl
theorem hd_119 : yMd_id.1.cls ≠ "java/lang/invoke/MethodHandle" ∧ yMd_id.1.cls ≠ "java/lang/invoke/VarHandle" ∧ (parseMethodDescriptor yMd_id.1.desc).map (fun d => d.parameters.length) = some 1 := by decide +kernel
theorem mt_120 : mt 120 = yMd_tryOne := rfl
theorem hd_120 : yMd_tryOne.1.cls ≠ "java/lang/invoke/MethodHandle" ∧ yMd_tryOne.1.cls ≠ "java/lang/invoke/VarHandle" ∧ (parseMethodDescriptor yMd_tryOne.1.desc).map (fun d => d.parameters.length) = some (2 - 1) := by decide +kernel
theorem mt_121 : mt 121 = yMd_orderTwo := rfl
theorem hd_121 : yMd_orderTwo.1.cls ≠ "java/lang/invoke/MethodHandle" ∧ yMd_orderTwo.1.cls ≠ "java/lang/invoke/VarHandle" ∧ (parseMethodDescriptor yMd_orderTwo.1.desc).map (fun d => d.parameters.length) = some (1 - 1) := by decide +kernel
theorem mt_122 : mt 122 = yMd_mainPlace := rfl
theorem hd_122 : yMd_mainPlace.1.cls ≠ "java/lang/invoke/MethodHandle" ∧ yMd_mainPlace.1.cls ≠ "java/lang/invoke/VarHandle" ∧ (parseMethodDescriptor yMd_mainPlace.1.desc).map (fun d => d.parameters.length) = some (2 - 1) := by decide +kernel
theorem mt_123 : mt 123 = yMd_isGood := rfl
theorem hd_123 : yMd_isGood.1.cls ≠ "java/lang/invoke/MethodHandle" ∧ yMd_isGood.1.cls ≠ "java/lang/invoke/VarHandle" ∧ (parseMethodDescriptor yMd_isGood.1.desc).map (fun d => d.parameters.length) = some (2 - 1) := by decide +kernel
theorem mt_124 : mt 124 = yMd_renew := rfl
theorem hd_124 : yMd_renew.1.cls ≠ "java/lang/invoke/MethodHandle" ∧ yMd_renew.1.cls ≠ "java/lang/invoke/VarHandle" ∧ (parseMethodDescriptor yMd_renew.1.desc).map (fun d => d.parameters.length) = some (2 - 1) := by decide +kernel
theorem mt_125 : mt 125 = yMd_forge := rfl
theorem hd_125 : yMd_forge.1.cls ≠ "java/lang/invoke/MethodHandle" ∧ yMd_forge.1.cls ≠ "java/lang/invoke/VarHandle" ∧ (parseMethodDescriptor yMd_forge.1.desc).map (fun d => d.parameters.length) = some (8 - 1) := by decide +kernel
theorem mt_126 : mt 126 = yMd_deliver := rfl
theorem hd_126 : yMd_deliver.1.cls ≠ "java/lang/invoke/MethodHandle" ∧ yMd_deliver.1.cls ≠ "java/lang/invoke/VarHandle" ∧ (parseMethodDescriptor yMd_deliver.1.desc).map (fun d => d.parameters.length) = some (3 - 1) := by decide +kernel
theorem mt_127 : mt 127 = yMd_isServer := rfl
theorem hd_127 : yMd_isServer.1.cls ≠ "java/lang/invoke/MethodHandle" ∧ yMd_isServer.1.cls ≠ "java/lang/invoke/VarHandle" ∧ (parseMethodDescriptor yMd_isServer.1.desc).map (fun d => d.parameters.length) = some 1 := by decide +kernel
theorem mt_128 : mt 128 = yMd_isEvent := rfl
theorem hd_128 : yMd_isEvent.1.cls ≠ "java/lang/invoke/MethodHandle" ∧ yMd_isEvent.1.cls ≠ "java/lang/invoke/VarHandle" ∧ (parseMethodDescriptor yMd_isEvent.1.desc).map (fun d => d.parameters.length) = some (2 - 1) := by decide +kernel
theorem mt_129 : mt 129 = yMd_ready := rfl
theorem hd_129 : yMd_ready.1.cls ≠ "java/lang/invoke/MethodHandle" ∧ yMd_ready.1.cls ≠ "java/lang/invoke/VarHandle" ∧ (parseMethodDescriptor yMd_ready.1.desc).map (fun d => d.parameters.length) = some (3 - 1) := by decide +kernel
theorem mt_130 : mt 130 = yMd_learn := rfl
theorem hd_130 : yMd_learn.1.cls ≠ "java/lang/invoke/MethodHandle" ∧ yMd_learn.1.cls ≠ "java/lang/invoke/VarHandle" ∧ (parseMethodDescriptor yMd_learn.1.desc).map (fun d => d.parameters.length) = some (3 - 1) := by decide +kernel
theorem mt_131 : mt 131 = yMd_sync := rfl
theorem hd_131 : yMd_sync.1.cls ≠ "java/lang/invoke/MethodHandle" ∧ yMd_sync.1.cls ≠ "java/lang/invoke/VarHandle" ∧ (parseMethodDescriptor yMd_sync.1.desc).map (fun d => d.parameters.length) = some (3 - 1) := by decide +kernel
theorem mt_132 : mt 132 = yMd_state := rfl
theorem hd_132 : yMd_state.1.cls ≠ "java/lang/invoke/MethodHandle" ∧ yMd_state.1.cls ≠ "java/lang/invoke/VarHandle" ∧ (parseMethodDescriptor yMd_state.1.desc).map (fun d => d.parameters.length) = some (4 - 1) := by decide +kernel
theorem mt_133 : mt 133 = yMd_before := rfl
theorem hd_133 : yMd_before.1.cls ≠ "java/lang/invoke/MethodHandle" ∧ yMd_before.1.cls ≠ "java/lang/invoke/VarHandle" ∧ (parseMethodDescriptor yMd_before.1.desc).map (fun d => d.parameters.length) = some (4 - 1) := by decide +kernel
theorem mt_134 : mt 134 = yMd_look := rfl
theorem hd_134 : yMd_look.1.cls ≠ "java/lang/invoke/MethodHandle" ∧ yMd_look.1.cls ≠ "java/lang/invoke/VarHandle" ∧ (parseMethodDescriptor yMd_look.1.desc).map (fun d => d.parameters.length) = some (3 - 1) := by decide +kernel
theorem mt_135 : mt 135 = yMd_level := rfl
theorem hd_135 : yMd_level.1.cls ≠ "java/lang/invoke/MethodHandle" ∧ yMd_level.1.cls ≠ "java/lang/invoke/VarHandle" ∧ (parseMethodDescriptor yMd_level.1.desc).map (fun d => d.parameters.length) = some (3 - 1) := by decide +kernel
theorem mt_136 : mt 136 = yMd_knows := rfl
theorem hd_136 : yMd_knows.1.cls ≠ "java/lang/invoke/MethodHandle" ∧ yMd_knows.1.cls ≠ "java/lang/invoke/VarHandle" ∧ (parseMethodDescriptor yMd_knows.1.desc).map (fun d => d.parameters.length) = some (3 - 1) := by decide +kernel
theorem mt_137 : mt 137 = yMd_head := rfl
theorem hd_137 : yMd_head.1.cls ≠ "java/lang/invoke/MethodHandle" ∧ yMd_head.1.cls ≠ "java/lang/invoke/VarHandle" ∧ (parseMethodDescriptor yMd_head.1.desc).map (fun d => d.parameters.length) = some (3 - 1) := by decide +kernel
theorem mt_138 : mt 138 = yMd_count := rfl
theorem hd_138 : yMd_count.1.cls ≠ "java/lang/invoke/MethodHandle" ∧ yMd_count.1.cls ≠ "java/lang/invoke/VarHandle" ∧ (parseMethodDescriptor yMd_count.1.desc).map (fun d => d.parameters.length) = some (3 - 1) := by decide +kernel
theorem mt_139 : mt 139 = yMd_events := rfl
theorem hd_139 : yMd_events.1.cls ≠ "java/lang/invoke/MethodHandle" ∧ yMd_events.1.cls ≠ "java/lang/invoke/VarHandle" ∧ (parseMethodDescriptor yMd_events.1.desc).map (fun d => d.parameters.length) = some (1 - 1) := by decide +kernel
theorem mt_140 : mt 140 = yLw_law := rfl
theorem hd_140 : yLw_law.1.cls ≠ "java/lang/invoke/MethodHandle" ∧ yLw_law.1.cls ≠ "java/lang/invoke/VarHandle" ∧ (parseMethodDescriptor yLw_law.1.desc).map (fun d => d.parameters.length) = some 1 := by decide +kernel
theorem mt_plain : ∀ M, plainName (mt M).1.cls = true := by
  have h : ∀ y ∈ mtl, plainName y.1.cls = true := by decide +kernel
  intro M
  unfold mt
  split
  · rename_i y hy
    exact h y (List.mem_of_getElem? hy)
  · decide +kernel
