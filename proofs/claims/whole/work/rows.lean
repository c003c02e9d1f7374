section
-- ===== PART A: goes FIRST, ahead of the names: the tables' words, and 'selects' of the private methods out of them =====
/-- a private method of a class that the tables say can be made, by its rows of tables_1 -/
def lw_okq (q : MethodName × Nat) : Prop := (q.1.cls ≠ "java/lang/invoke/MethodHandle" ∧ q.1.cls ≠ "java/lang/invoke/VarHandle") ∧ Cond.instantiable q.1.cls q.2 ∈ tables_1 ∧ Cond.privateMethod q.1 ∈ tables_1 ∧ Cond.instanceMethod q.1 ∈ tables_1
theorem lw_p0 : lw_okq (⟨"CabTears$Text", "readNumbers", "(II)Z"⟩, 4) := ⟨⟨by decide +kernel, by decide +kernel⟩, List.mem_of_getElem? (i := 27) (by decide +kernel), List.mem_of_getElem? (i := 333) (by decide +kernel), List.mem_of_getElem? (i := 334) (by decide +kernel)⟩
theorem lw_p1 : lw_okq (⟨"CabTears$Text", "tell", "(LCabTears$City;C)Z"⟩, 4) := ⟨⟨by decide +kernel, by decide +kernel⟩, List.mem_of_getElem? (i := 27) (by decide +kernel), List.mem_of_getElem? (i := 337) (by decide +kernel), List.mem_of_getElem? (i := 338) (by decide +kernel)⟩
theorem lw_p2 : lw_okq (⟨"CabTears", "begin", "()V"⟩, 11) := ⟨⟨by decide +kernel, by decide +kernel⟩, List.mem_of_getElem? (i := 19) (by decide +kernel), List.mem_of_getElem? (i := 364) (by decide +kernel), List.mem_of_getElem? (i := 365) (by decide +kernel)⟩
theorem lw_p3 : lw_okq (⟨"CabTears$Orders", "keepIfFewer", "(I)V"⟩, 5) := ⟨⟨by decide +kernel, by decide +kernel⟩, List.mem_of_getElem? (i := 216) (by decide +kernel), List.mem_of_getElem? (i := 547) (by decide +kernel), List.mem_of_getElem? (i := 548) (by decide +kernel)⟩
theorem lw_p4 : lw_okq (⟨"CabTears", "lateFrom", "(II)I"⟩, 11) := ⟨⟨by decide +kernel, by decide +kernel⟩, List.mem_of_getElem? (i := 19) (by decide +kernel), List.mem_of_getElem? (i := 562) (by decide +kernel), List.mem_of_getElem? (i := 563) (by decide +kernel)⟩
theorem lw_p5 : lw_okq (⟨"CabTears", "liveOneDay", "()V"⟩, 11) := ⟨⟨by decide +kernel, by decide +kernel⟩, List.mem_of_getElem? (i := 19) (by decide +kernel), List.mem_of_getElem? (i := 577) (by decide +kernel), List.mem_of_getElem? (i := 578) (by decide +kernel)⟩
theorem lw_p6 : lw_okq (⟨"CabTears", "dayLike", "(I)I"⟩, 11) := ⟨⟨by decide +kernel, by decide +kernel⟩, List.mem_of_getElem? (i := 19) (by decide +kernel), List.mem_of_getElem? (i := 583) (by decide +kernel), List.mem_of_getElem? (i := 584) (by decide +kernel)⟩
theorem lw_p7 : lw_okq (⟨"CabTears", "tearsOfOthers", "(I)I"⟩, 11) := ⟨⟨by decide +kernel, by decide +kernel⟩, List.mem_of_getElem? (i := 19) (by decide +kernel), List.mem_of_getElem? (i := 591) (by decide +kernel), List.mem_of_getElem? (i := 592) (by decide +kernel)⟩
theorem lw_p8 : lw_okq (⟨"CabTears", "fitsSeen", "(III)Z"⟩, 11) := ⟨⟨by decide +kernel, by decide +kernel⟩, List.mem_of_getElem? (i := 19) (by decide +kernel), List.mem_of_getElem? (i := 627) (by decide +kernel), List.mem_of_getElem? (i := 628) (by decide +kernel)⟩
theorem lw_p9 : lw_okq (⟨"CabTears", "lateAmong", "(I)I"⟩, 11) := ⟨⟨by decide +kernel, by decide +kernel⟩, List.mem_of_getElem? (i := 19) (by decide +kernel), List.mem_of_getElem? (i := 650) (by decide +kernel), List.mem_of_getElem? (i := 651) (by decide +kernel)⟩
theorem lw_p10 : lw_okq (⟨"CabTears", "howManyWept", "()I"⟩, 11) := ⟨⟨by decide +kernel, by decide +kernel⟩, List.mem_of_getElem? (i := 19) (by decide +kernel), List.mem_of_getElem? (i := 681) (by decide +kernel), List.mem_of_getElem? (i := 682) (by decide +kernel)⟩
theorem lw_p11 : lw_okq (⟨"CabTearsModel", "addsCab", "(III)V"⟩, 32) := ⟨⟨by decide +kernel, by decide +kernel⟩, List.mem_of_getElem? (i := 685) (by decide +kernel), List.mem_of_getElem? (i := 691) (by decide +kernel), List.mem_of_getElem? (i := 692) (by decide +kernel)⟩
theorem lw_p12 : lw_okq (⟨"CabTearsModel", "addsFare", "(IIIII)V"⟩, 32) := ⟨⟨by decide +kernel, by decide +kernel⟩, List.mem_of_getElem? (i := 685) (by decide +kernel), List.mem_of_getElem? (i := 695) (by decide +kernel), List.mem_of_getElem? (i := 696) (by decide +kernel)⟩
theorem lw_p13 : lw_okq (⟨"CabTearsModel", "begins", "()V"⟩, 32) := ⟨⟨by decide +kernel, by decide +kernel⟩, List.mem_of_getElem? (i := 685) (by decide +kernel), List.mem_of_getElem? (i := 699) (by decide +kernel), List.mem_of_getElem? (i := 700) (by decide +kernel)⟩
theorem lw_p14 : lw_okq (⟨"CabTearsModel", "faultOf", "()I"⟩, 32) := ⟨⟨by decide +kernel, by decide +kernel⟩, List.mem_of_getElem? (i := 685) (by decide +kernel), List.mem_of_getElem? (i := 817) (by decide +kernel), List.mem_of_getElem? (i := 818) (by decide +kernel)⟩
theorem lw_p15 : lw_okq (⟨"CabTearsModel", "takesItem", "()Z"⟩, 32) := ⟨⟨by decide +kernel, by decide +kernel⟩, List.mem_of_getElem? (i := 685) (by decide +kernel), List.mem_of_getElem? (i := 821) (by decide +kernel), List.mem_of_getElem? (i := 822) (by decide +kernel)⟩
def lw_privs_1 : List (MethodName × Nat) := [(⟨"CabTears$Text", "readNumbers", "(II)Z"⟩, 4), (⟨"CabTears$Text", "tell", "(LCabTears$City;C)Z"⟩, 4), (⟨"CabTears", "begin", "()V"⟩, 11), (⟨"CabTears$Orders", "keepIfFewer", "(I)V"⟩, 5), (⟨"CabTears", "lateFrom", "(II)I"⟩, 11), (⟨"CabTears", "liveOneDay", "()V"⟩, 11), (⟨"CabTears", "dayLike", "(I)I"⟩, 11), (⟨"CabTears", "tearsOfOthers", "(I)I"⟩, 11), (⟨"CabTears", "fitsSeen", "(III)Z"⟩, 11), (⟨"CabTears", "lateAmong", "(I)I"⟩, 11), (⟨"CabTears", "howManyWept", "()I"⟩, 11), (⟨"CabTearsModel", "addsCab", "(III)V"⟩, 32), (⟨"CabTearsModel", "addsFare", "(IIIII)V"⟩, 32), (⟨"CabTearsModel", "begins", "()V"⟩, 32), (⟨"CabTearsModel", "faultOf", "()I"⟩, 32), (⟨"CabTearsModel", "takesItem", "()Z"⟩, 32)]
theorem lw_r1 : ∀ q ∈ lw_privs_1, lw_okq q := List.forall_mem_cons.mpr ⟨lw_p0, List.forall_mem_cons.mpr ⟨lw_p1, List.forall_mem_cons.mpr ⟨lw_p2, List.forall_mem_cons.mpr ⟨lw_p3, List.forall_mem_cons.mpr ⟨lw_p4, List.forall_mem_cons.mpr ⟨lw_p5, List.forall_mem_cons.mpr ⟨lw_p6, List.forall_mem_cons.mpr ⟨lw_p7, List.forall_mem_cons.mpr ⟨lw_p8, List.forall_mem_cons.mpr ⟨lw_p9, List.forall_mem_cons.mpr ⟨lw_p10, List.forall_mem_cons.mpr ⟨lw_p11, List.forall_mem_cons.mpr ⟨lw_p12, List.forall_mem_cons.mpr ⟨lw_p13, List.forall_mem_cons.mpr ⟨lw_p14, List.forall_mem_cons.mpr ⟨lw_p15, fun _ h => absurd h List.not_mem_nil⟩⟩⟩⟩⟩⟩⟩⟩⟩⟩⟩⟩⟩⟩⟩⟩
theorem lw_p16 : lw_okq (⟨"CabTearsModel", "letterAt", "(I)I"⟩, 32) := ⟨⟨by decide +kernel, by decide +kernel⟩, List.mem_of_getElem? (i := 685) (by decide +kernel), List.mem_of_getElem? (i := 825) (by decide +kernel), List.mem_of_getElem? (i := 826) (by decide +kernel)⟩
theorem lw_p17 : lw_okq (⟨"CabTearsModel", "takesRows", "()Z"⟩, 32) := ⟨⟨by decide +kernel, by decide +kernel⟩, List.mem_of_getElem? (i := 685) (by decide +kernel), List.mem_of_getElem? (i := 829) (by decide +kernel), List.mem_of_getElem? (i := 830) (by decide +kernel)⟩
theorem lw_p18 : lw_okq (⟨"CabTearsModel", "takesNumber", "(III)Z"⟩, 32) := ⟨⟨by decide +kernel, by decide +kernel⟩, List.mem_of_getElem? (i := 685) (by decide +kernel), List.mem_of_getElem? (i := 833) (by decide +kernel), List.mem_of_getElem? (i := 834) (by decide +kernel)⟩
theorem lw_p19 : lw_okq (⟨"CabTearsModel", "takesCab", "()Z"⟩, 32) := ⟨⟨by decide +kernel, by decide +kernel⟩, List.mem_of_getElem? (i := 685) (by decide +kernel), List.mem_of_getElem? (i := 839) (by decide +kernel), List.mem_of_getElem? (i := 840) (by decide +kernel)⟩
theorem lw_p20 : lw_okq (⟨"CabTearsModel", "takesFare", "()Z"⟩, 32) := ⟨⟨by decide +kernel, by decide +kernel⟩, List.mem_of_getElem? (i := 685) (by decide +kernel), List.mem_of_getElem? (i := 843) (by decide +kernel), List.mem_of_getElem? (i := 844) (by decide +kernel)⟩
theorem lw_p21 : lw_okq (⟨"CabTearsModel", "places", "()I"⟩, 32) := ⟨⟨by decide +kernel, by decide +kernel⟩, List.mem_of_getElem? (i := 685) (by decide +kernel), List.mem_of_getElem? (i := 851) (by decide +kernel), List.mem_of_getElem? (i := 852) (by decide +kernel)⟩
theorem lw_p22 : lw_okq (⟨"CabTearsModel", "isPlace", "(I)Z"⟩, 32) := ⟨⟨by decide +kernel, by decide +kernel⟩, List.mem_of_getElem? (i := 685) (by decide +kernel), List.mem_of_getElem? (i := 859) (by decide +kernel), List.mem_of_getElem? (i := 860) (by decide +kernel)⟩
theorem lw_p23 : lw_okq (⟨"CabTearsModel", "farOf", "(II)I"⟩, 32) := ⟨⟨by decide +kernel, by decide +kernel⟩, List.mem_of_getElem? (i := 685) (by decide +kernel), List.mem_of_getElem? (i := 863) (by decide +kernel), List.mem_of_getElem? (i := 864) (by decide +kernel)⟩
theorem lw_p24 : lw_okq (⟨"CabTearsModel", "isCab", "(I)Z"⟩, 32) := ⟨⟨by decide +kernel, by decide +kernel⟩, List.mem_of_getElem? (i := 685) (by decide +kernel), List.mem_of_getElem? (i := 871) (by decide +kernel), List.mem_of_getElem? (i := 872) (by decide +kernel)⟩
theorem lw_p25 : lw_okq (⟨"CabTearsModel", "isFare", "(I)Z"⟩, 32) := ⟨⟨by decide +kernel, by decide +kernel⟩, List.mem_of_getElem? (i := 685) (by decide +kernel), List.mem_of_getElem? (i := 879) (by decide +kernel), List.mem_of_getElem? (i := 880) (by decide +kernel)⟩
theorem lw_p26 : lw_okq (⟨"CabTearsModel", "minds", "()V"⟩, 32) := ⟨⟨by decide +kernel, by decide +kernel⟩, List.mem_of_getElem? (i := 685) (by decide +kernel), List.mem_of_getElem? (i := 890) (by decide +kernel), List.mem_of_getElem? (i := 891) (by decide +kernel)⟩
theorem lw_p27 : lw_okq (⟨"CabTearsModel", "copy", "(II)V"⟩, 32) := ⟨⟨by decide +kernel, by decide +kernel⟩, List.mem_of_getElem? (i := 685) (by decide +kernel), List.mem_of_getElem? (i := 894) (by decide +kernel), List.mem_of_getElem? (i := 895) (by decide +kernel)⟩
theorem lw_p28 : lw_okq (⟨"CabTearsModel", "ridesAsOneDoes", "(III)Z"⟩, 32) := ⟨⟨by decide +kernel, by decide +kernel⟩, List.mem_of_getElem? (i := 685) (by decide +kernel), List.mem_of_getElem? (i := 898) (by decide +kernel), List.mem_of_getElem? (i := 899) (by decide +kernel)⟩
theorem lw_p29 : lw_okq (⟨"CabTearsModel", "lateBy", "(III)I"⟩, 32) := ⟨⟨by decide +kernel, by decide +kernel⟩, List.mem_of_getElem? (i := 685) (by decide +kernel), List.mem_of_getElem? (i := 902) (by decide +kernel), List.mem_of_getElem? (i := 903) (by decide +kernel)⟩
theorem lw_p30 : lw_okq (⟨"CabTearsModel", "freeBy", "(III)I"⟩, 32) := ⟨⟨by decide +kernel, by decide +kernel⟩, List.mem_of_getElem? (i := 685) (by decide +kernel), List.mem_of_getElem? (i := 906) (by decide +kernel), List.mem_of_getElem? (i := 907) (by decide +kernel)⟩
theorem lw_p31 : lw_okq (⟨"CabTearsModel", "setsOut", "(II)I"⟩, 32) := ⟨⟨by decide +kernel, by decide +kernel⟩, List.mem_of_getElem? (i := 685) (by decide +kernel), List.mem_of_getElem? (i := 910) (by decide +kernel), List.mem_of_getElem? (i := 911) (by decide +kernel)⟩
def lw_privs_2 : List (MethodName × Nat) := [(⟨"CabTearsModel", "letterAt", "(I)I"⟩, 32), (⟨"CabTearsModel", "takesRows", "()Z"⟩, 32), (⟨"CabTearsModel", "takesNumber", "(III)Z"⟩, 32), (⟨"CabTearsModel", "takesCab", "()Z"⟩, 32), (⟨"CabTearsModel", "takesFare", "()Z"⟩, 32), (⟨"CabTearsModel", "places", "()I"⟩, 32), (⟨"CabTearsModel", "isPlace", "(I)Z"⟩, 32), (⟨"CabTearsModel", "farOf", "(II)I"⟩, 32), (⟨"CabTearsModel", "isCab", "(I)Z"⟩, 32), (⟨"CabTearsModel", "isFare", "(I)Z"⟩, 32), (⟨"CabTearsModel", "minds", "()V"⟩, 32), (⟨"CabTearsModel", "copy", "(II)V"⟩, 32), (⟨"CabTearsModel", "ridesAsOneDoes", "(III)Z"⟩, 32), (⟨"CabTearsModel", "lateBy", "(III)I"⟩, 32), (⟨"CabTearsModel", "freeBy", "(III)I"⟩, 32), (⟨"CabTearsModel", "setsOut", "(II)I"⟩, 32)]
theorem lw_r2 : ∀ q ∈ lw_privs_2, lw_okq q := List.forall_mem_cons.mpr ⟨lw_p16, List.forall_mem_cons.mpr ⟨lw_p17, List.forall_mem_cons.mpr ⟨lw_p18, List.forall_mem_cons.mpr ⟨lw_p19, List.forall_mem_cons.mpr ⟨lw_p20, List.forall_mem_cons.mpr ⟨lw_p21, List.forall_mem_cons.mpr ⟨lw_p22, List.forall_mem_cons.mpr ⟨lw_p23, List.forall_mem_cons.mpr ⟨lw_p24, List.forall_mem_cons.mpr ⟨lw_p25, List.forall_mem_cons.mpr ⟨lw_p26, List.forall_mem_cons.mpr ⟨lw_p27, List.forall_mem_cons.mpr ⟨lw_p28, List.forall_mem_cons.mpr ⟨lw_p29, List.forall_mem_cons.mpr ⟨lw_p30, List.forall_mem_cons.mpr ⟨lw_p31, fun _ h => absurd h List.not_mem_nil⟩⟩⟩⟩⟩⟩⟩⟩⟩⟩⟩⟩⟩⟩⟩⟩
theorem lw_p32 : lw_okq (⟨"CabTearsModel", "goesBy", "(III)Z"⟩, 32) := ⟨⟨by decide +kernel, by decide +kernel⟩, List.mem_of_getElem? (i := 685) (by decide +kernel), List.mem_of_getElem? (i := 914) (by decide +kernel), List.mem_of_getElem? (i := 915) (by decide +kernel)⟩
theorem lw_p33 : lw_okq (⟨"CabTearsModel", "weeps", "(II)Z"⟩, 32) := ⟨⟨by decide +kernel, by decide +kernel⟩, List.mem_of_getElem? (i := 685) (by decide +kernel), List.mem_of_getElem? (i := 918) (by decide +kernel), List.mem_of_getElem? (i := 919) (by decide +kernel)⟩
theorem lw_p34 : lw_okq (⟨"CabTearsModel", "rides", "(IIIZ)V"⟩, 32) := ⟨⟨by decide +kernel, by decide +kernel⟩, List.mem_of_getElem? (i := 685) (by decide +kernel), List.mem_of_getElem? (i := 922) (by decide +kernel), List.mem_of_getElem? (i := 923) (by decide +kernel)⟩
theorem lw_p35 : lw_okq (⟨"CabTearsModel", "sends", "(III)V"⟩, 32) := ⟨⟨by decide +kernel, by decide +kernel⟩, List.mem_of_getElem? (i := 685) (by decide +kernel), List.mem_of_getElem? (i := 930) (by decide +kernel), List.mem_of_getElem? (i := 931) (by decide +kernel)⟩
theorem lw_p36 : lw_okq (⟨"CabTearsModel", "soonestIn", "(II)I"⟩, 32) := ⟨⟨by decide +kernel, by decide +kernel⟩, List.mem_of_getElem? (i := 685) (by decide +kernel), List.mem_of_getElem? (i := 951) (by decide +kernel), List.mem_of_getElem? (i := 952) (by decide +kernel)⟩
theorem lw_p37 : lw_okq (⟨"CabTearsModel", "ordersRest", "()I"⟩, 32) := ⟨⟨by decide +kernel, by decide +kernel⟩, List.mem_of_getElem? (i := 685) (by decide +kernel), List.mem_of_getElem? (i := 960) (by decide +kernel), List.mem_of_getElem? (i := 961) (by decide +kernel)⟩
theorem lw_p38 : lw_okq (⟨"CabTearsModel", "rest", "()I"⟩, 32) := ⟨⟨by decide +kernel, by decide +kernel⟩, List.mem_of_getElem? (i := 685) (by decide +kernel), List.mem_of_getElem? (i := 964) (by decide +kernel), List.mem_of_getElem? (i := 965) (by decide +kernel)⟩
theorem lw_p39 : lw_okq (⟨"CabTearsModel", "tries", "()V"⟩, 32) := ⟨⟨by decide +kernel, by decide +kernel⟩, List.mem_of_getElem? (i := 685) (by decide +kernel), List.mem_of_getElem? (i := 976) (by decide +kernel), List.mem_of_getElem? (i := 977) (by decide +kernel)⟩
theorem lw_p40 : lw_okq (⟨"CabTearsModel", "laysDay", "(I)V"⟩, 32) := ⟨⟨by decide +kernel, by decide +kernel⟩, List.mem_of_getElem? (i := 685) (by decide +kernel), List.mem_of_getElem? (i := 984) (by decide +kernel), List.mem_of_getElem? (i := 985) (by decide +kernel)⟩
theorem lw_p41 : lw_okq (⟨"CabTearsModel", "areLike", "(II)Z"⟩, 32) := ⟨⟨by decide +kernel, by decide +kernel⟩, List.mem_of_getElem? (i := 685) (by decide +kernel), List.mem_of_getElem? (i := 988) (by decide +kernel), List.mem_of_getElem? (i := 989) (by decide +kernel)⟩
theorem lw_p42 : lw_okq (⟨"CabTearsModel", "weepBy", "(IIZ)I"⟩, 32) := ⟨⟨by decide +kernel, by decide +kernel⟩, List.mem_of_getElem? (i := 685) (by decide +kernel), List.mem_of_getElem? (i := 996) (by decide +kernel), List.mem_of_getElem? (i := 997) (by decide +kernel)⟩
theorem lw_p43 : lw_okq (⟨"CabTearsModel", "isSeen", "(I)Z"⟩, 32) := ⟨⟨by decide +kernel, by decide +kernel⟩, List.mem_of_getElem? (i := 685) (by decide +kernel), List.mem_of_getElem? (i := 1018) (by decide +kernel), List.mem_of_getElem? (i := 1019) (by decide +kernel)⟩
def lw_privs_3 : List (MethodName × Nat) := [(⟨"CabTearsModel", "goesBy", "(III)Z"⟩, 32), (⟨"CabTearsModel", "weeps", "(II)Z"⟩, 32), (⟨"CabTearsModel", "rides", "(IIIZ)V"⟩, 32), (⟨"CabTearsModel", "sends", "(III)V"⟩, 32), (⟨"CabTearsModel", "soonestIn", "(II)I"⟩, 32), (⟨"CabTearsModel", "ordersRest", "()I"⟩, 32), (⟨"CabTearsModel", "rest", "()I"⟩, 32), (⟨"CabTearsModel", "tries", "()V"⟩, 32), (⟨"CabTearsModel", "laysDay", "(I)V"⟩, 32), (⟨"CabTearsModel", "areLike", "(II)Z"⟩, 32), (⟨"CabTearsModel", "weepBy", "(IIZ)I"⟩, 32), (⟨"CabTearsModel", "isSeen", "(I)Z"⟩, 32)]
theorem lw_r3 : ∀ q ∈ lw_privs_3, lw_okq q := List.forall_mem_cons.mpr ⟨lw_p32, List.forall_mem_cons.mpr ⟨lw_p33, List.forall_mem_cons.mpr ⟨lw_p34, List.forall_mem_cons.mpr ⟨lw_p35, List.forall_mem_cons.mpr ⟨lw_p36, List.forall_mem_cons.mpr ⟨lw_p37, List.forall_mem_cons.mpr ⟨lw_p38, List.forall_mem_cons.mpr ⟨lw_p39, List.forall_mem_cons.mpr ⟨lw_p40, List.forall_mem_cons.mpr ⟨lw_p41, List.forall_mem_cons.mpr ⟨lw_p42, List.forall_mem_cons.mpr ⟨lw_p43, fun _ h => absurd h List.not_mem_nil⟩⟩⟩⟩⟩⟩⟩⟩⟩⟩⟩⟩
def lw_privs : List (MethodName × Nat) := lw_privs_1 ++ (lw_privs_2 ++ (lw_privs_3))
def lw_tbl : List Cond := k2_sels lw_privs ++ tables_1
theorem lw_privs_ok : ∀ q ∈ lw_privs, lw_okq q := by
  show ∀ q ∈ lw_privs_1 ++ (lw_privs_2 ++ (lw_privs_3)), lw_okq q
  exact List.forall_mem_append.mpr ⟨lw_r1, List.forall_mem_append.mpr ⟨lw_r2, lw_r3⟩⟩
-- ===== end of PART A; then your names; then what follows =====
end
section
/-! ===== BEGIN printed: names, fields, word lists, decode rows ===== -/
def RX0 : String := "CabTears$City"
def TX0 : u_T := fun k => match k with
  | 0 => ("CabTears$City", "rows", "I", false)
  | 1 => ("CabTears$City", "columns", "I", false)
  | 2 => ("CabTears$City", "cabs", "I", false)
  | 3 => ("CabTears$City", "fares", "I", false)
  | 4 => ("CabTears$City", "cabKind", "[I", true)
  | 5 => ("CabTears$City", "cabPlace", "[I", true)
  | 6 => ("CabTears$City", "cabWeptIn", "[I", true)
  | 7 => ("CabTears$City", "fareKind", "[I", true)
  | 8 => ("CabTears$City", "from", "[I", true)
  | 9 => ("CabTears$City", "to", "[I", true)
  | 10 => ("CabTears$City", "since", "[I", true)
  | 11 => ("CabTears$City", "bears", "[I", true)
  | _ => ("CabTears$City", "trip", "LCabTears$Trip;", true)
def tyX0 : Nat → FieldType := fun k => match k with
  | 0 => .int
  | 1 => .int
  | 2 => .int
  | 3 => .int
  | 4 => .array .int
  | 5 => .array .int
  | 6 => .array .int
  | 7 => .array .int
  | 8 => .array .int
  | 9 => .array .int
  | 10 => .array .int
  | 11 => .array .int
  | _ => .object "CabTears$Trip"
abbrev wsX00 : List Cond := u_ws RX0 TX0 13
theorem nmX0 : ∀ a, a < 13 → ∀ b, b < 13 → a ≠ b → (TX0 a).2.1 ≠ (TX0 b).2.1 := by decide +kernel
theorem tyX0_ok : ∀ k, k < 13 → parseFieldDescriptor (TX0 k).2.2.1 = some (tyX0 k) := by decide +kernel
abbrev cX0_init : ByteArray := prog_2_method_1_code
def yX0_init : MethodName := ⟨RX0, "<init>", "()V"⟩
abbrev cX0_clear : ByteArray := prog_2_method_2_code
def yX0_clear : MethodName := ⟨RX0, "clear", "()V"⟩
abbrev cX0_build : ByteArray := prog_2_method_3_code
def yX0_build : MethodName := ⟨RX0, "build", "(II)Z"⟩
abbrev cX0_addCab : ByteArray := prog_2_method_4_code
def yX0_addCab : MethodName := ⟨RX0, "addCab", "(III)Z"⟩
abbrev cX0_addFare : ByteArray := prog_2_method_5_code
def yX0_addFare : MethodName := ⟨RX0, "addFare", "([I)Z"⟩
abbrev cX0_places : ByteArray := prog_2_method_6_code
def yX0_places : MethodName := ⟨RX0, "places", "()I"⟩
abbrev cX0_hasPlace : ByteArray := prog_2_method_7_code
def yX0_hasPlace : MethodName := ⟨RX0, "hasPlace", "(I)Z"⟩
abbrev cX0_hasCab : ByteArray := prog_2_method_8_code
def yX0_hasCab : MethodName := ⟨RX0, "hasCab", "(I)Z"⟩
abbrev cX0_hasFare : ByteArray := prog_2_method_9_code
def yX0_hasFare : MethodName := ⟨RX0, "hasFare", "(I)Z"⟩
abbrev cX0_steps : ByteArray := prog_2_method_10_code
def yX0_steps : MethodName := ⟨RX0, "steps", "(II)I"⟩
abbrev cX0_reckon : ByteArray := prog_2_method_11_code
def yX0_reckon : MethodName := ⟨RX0, "reckon", "(LCabTears$Stand;II)V"⟩
abbrev cX0_reckonAs : ByteArray := prog_2_method_12_code
def yX0_reckonAs : MethodName := ⟨RX0, "reckonAs", "(LCabTears$Stand;IIII)V"⟩
abbrev cX0_nearest : ByteArray := prog_2_method_13_code
def yX0_nearest : MethodName := ⟨RX0, "nearest", "(LCabTears$Stand;I)I"⟩
abbrev cX0_settle : ByteArray := prog_2_method_14_code
def yX0_settle : MethodName := ⟨RX0, "settle", "(LCabTears$Stand;IIZ)V"⟩
abbrev cX0_drive : ByteArray := prog_2_method_15_code
def yX0_drive : MethodName := ⟨RX0, "drive", "(LCabTears$Stand;II)Z"⟩
abbrev cX0_driveSoonest : ByteArray := prog_2_method_16_code
def yX0_driveSoonest : MethodName := ⟨RX0, "driveSoonest", "(LCabTears$Stand;I)Z"⟩
abbrev cX0_move : ByteArray := prog_2_method_17_code
def yX0_move : MethodName := ⟨RX0, "move", "(LCabTears$Stand;II)V"⟩
def RX1 : String := "CabTears$Duel"
def TX1 : u_T := fun k => match k with
  | 0 => ("CabTears$Duel", "stands", "[LCabTears$Stand;", true)
  | 1 => ("CabTears$Duel", "first", "I", false)
  | 2 => ("CabTears$Duel", "second", "I", false)
  | 3 => ("CabTears$Duel", "turns", "I", false)
  | 4 => ("CabTears$Duel", "outcome", "I", false)
  | _ => ("CabTears$Duel", "opening", "I", false)
def tyX1 : Nat → FieldType := fun k => match k with
  | 0 => .array (.object "CabTears$Stand")
  | 1 => .int
  | 2 => .int
  | 3 => .int
  | 4 => .int
  | _ => .int
abbrev wsX10 : List Cond := u_ws RX1 TX1 6
theorem nmX1 : ∀ a, a < 6 → ∀ b, b < 6 → a ≠ b → (TX1 a).2.1 ≠ (TX1 b).2.1 := by decide +kernel
theorem tyX1_ok : ∀ k, k < 6 → parseFieldDescriptor (TX1 k).2.2.1 = some (tyX1 k) := by decide +kernel
abbrev cX1_init : ByteArray := prog_3_method_1_code
def yX1_init : MethodName := ⟨RX1, "<init>", "()V"⟩
abbrev cX1_fight : ByteArray := prog_3_method_2_code
def yX1_fight : MethodName := ⟨RX1, "fight", "(LCabTears$City;LCabTears$Stand;III)V"⟩
abbrev cX1_play : ByteArray := prog_3_method_3_code
def yX1_play : MethodName := ⟨RX1, "play", "(LCabTears$Duel;LCabTears$City;I)I"⟩
def RX2 : String := "CabTears$Orders"
def TX2 : u_T := fun k => match k with
  | 0 => ("CabTears$Orders", "stands", "[LCabTears$Stand;", true)
  | 1 => ("CabTears$Orders", "tried", "[I", true)
  | 2 => ("CabTears$Orders", "best", "[I", true)
  | 3 => ("CabTears$Orders", "length", "I", false)
  | _ => ("CabTears$Orders", "fewest", "I", false)
def tyX2 : Nat → FieldType := fun k => match k with
  | 0 => .array (.object "CabTears$Stand")
  | 1 => .array .int
  | 2 => .array .int
  | 3 => .int
  | _ => .int
abbrev wsX20 : List Cond := u_ws RX2 TX2 5
theorem nmX2 : ∀ a, a < 5 → ∀ b, b < 5 → a ≠ b → (TX2 a).2.1 ≠ (TX2 b).2.1 := by decide +kernel
theorem tyX2_ok : ∀ k, k < 5 → parseFieldDescriptor (TX2 k).2.2.1 = some (tyX2 k) := by decide +kernel
abbrev cX2_init : ByteArray := prog_4_method_1_code
def yX2_init : MethodName := ⟨RX2, "<init>", "()V"⟩
abbrev cX2_search : ByteArray := prog_4_method_2_code
def yX2_search : MethodName := ⟨RX2, "search", "(LCabTears$City;LCabTears$Stand;)V"⟩
abbrev cX2_extend : ByteArray := prog_4_method_3_code
def yX2_extend : MethodName := ⟨RX2, "extend", "(LCabTears$Orders;LCabTears$City;II)V"⟩
abbrev cX2_keepIfFewer : ByteArray := prog_4_method_4_code
def yX2_keepIfFewer : MethodName := ⟨RX2, "keepIfFewer", "(I)V"⟩
def RX3 : String := "CabTears$Seen"
def TX3 : u_T := fun k => match k with
  | 0 => ("CabTears$Seen", "cab", "[I", true)
  | 1 => ("CabTears$Seen", "fare", "[I", true)
  | 2 => ("CabTears$Seen", "step", "[I", true)
  | _ => ("CabTears$Seen", "held", "I", false)
def tyX3 : Nat → FieldType := fun k => match k with
  | 0 => .array .int
  | 1 => .array .int
  | 2 => .array .int
  | _ => .int
abbrev wsX30 : List Cond := u_ws RX3 TX3 4
theorem nmX3 : ∀ a, a < 4 → ∀ b, b < 4 → a ≠ b → (TX3 a).2.1 ≠ (TX3 b).2.1 := by decide +kernel
theorem tyX3_ok : ∀ k, k < 4 → parseFieldDescriptor (TX3 k).2.2.1 = some (tyX3 k) := by decide +kernel
abbrev cX3_init : ByteArray := prog_5_method_1_code
def yX3_init : MethodName := ⟨RX3, "<init>", "()V"⟩
abbrev cX3_add : ByteArray := prog_5_method_2_code
def yX3_add : MethodName := ⟨RX3, "add", "(III)Z"⟩
def RX4 : String := "CabTears$Shelf"
def TX4 : u_T := fun k => match k with
  | 0 => ("CabTears$Shelf", "stands", "[LCabTears$Stand;", true)
  | 1 => ("CabTears$Shelf", "top", "I", false)
  | _ => ("CabTears$Shelf", "held", "I", false)
def tyX4 : Nat → FieldType := fun k => match k with
  | 0 => .array (.object "CabTears$Stand")
  | 1 => .int
  | _ => .int
abbrev wsX40 : List Cond := u_ws RX4 TX4 3
theorem nmX4 : ∀ a, a < 3 → ∀ b, b < 3 → a ≠ b → (TX4 a).2.1 ≠ (TX4 b).2.1 := by decide +kernel
theorem tyX4_ok : ∀ k, k < 3 → parseFieldDescriptor (TX4 k).2.2.1 = some (tyX4 k) := by decide +kernel
abbrev cX4_init : ByteArray := prog_6_method_1_code
def yX4_init : MethodName := ⟨RX4, "<init>", "(I)V"⟩
abbrev cX4_put : ByteArray := prog_6_method_2_code
def yX4_put : MethodName := ⟨RX4, "put", "(LCabTears$Stand;)V"⟩
abbrev cX4_giveBack : ByteArray := prog_6_method_3_code
def yX4_giveBack : MethodName := ⟨RX4, "giveBack", "(LCabTears$Stand;)Z"⟩
def RX5 : String := "CabTears$Stand"
def TX5 : u_T := fun k => match k with
  | 0 => ("CabTears$Stand", "now", "I", false)
  | 1 => ("CabTears$Stand", "place", "[I", true)
  | 2 => ("CabTears$Stand", "free", "[I", true)
  | 3 => ("CabTears$Stand", "weptIn", "[I", true)
  | 4 => ("CabTears$Stand", "late", "[I", true)
  | _ => ("CabTears$Stand", "tears", "[I", true)
def tyX5 : Nat → FieldType := fun k => match k with
  | 0 => .int
  | 1 => .array .int
  | 2 => .array .int
  | 3 => .array .int
  | 4 => .array .int
  | _ => .array .int
abbrev wsX50 : List Cond := u_ws RX5 TX5 6
theorem nmX5 : ∀ a, a < 6 → ∀ b, b < 6 → a ≠ b → (TX5 a).2.1 ≠ (TX5 b).2.1 := by decide +kernel
theorem tyX5_ok : ∀ k, k < 6 → parseFieldDescriptor (TX5 k).2.2.1 = some (tyX5 k) := by decide +kernel
abbrev cX5_init : ByteArray := prog_7_method_1_code
def yX5_init : MethodName := ⟨RX5, "<init>", "()V"⟩
abbrev cX5_begin : ByteArray := prog_7_method_2_code
def yX5_begin : MethodName := ⟨RX5, "begin", "(LCabTears$City;)V"⟩
abbrev cX5_dawn : ByteArray := prog_7_method_3_code
def yX5_dawn : MethodName := ⟨RX5, "dawn", "()V"⟩
abbrev cX5_isTaken : ByteArray := prog_7_method_4_code
def yX5_isTaken : MethodName := ⟨RX5, "isTaken", "(I)Z"⟩
abbrev cX5_copy : ByteArray := prog_7_method_5_code
def yX5_copy : MethodName := ⟨RX5, "copy", "(LCabTears$Stand;)V"⟩
abbrev cX5_cabsAsNumber : ByteArray := prog_7_method_6_code
def yX5_cabsAsNumber : MethodName := ⟨RX5, "cabsAsNumber", "()J"⟩
def RX6 : String := "CabTears$Text"
def TX6 : u_T := fun k => match k with
  | 0 => ("CabTears$Text", "letters", "[C", true)
  | 1 => ("CabTears$Text", "length", "I", false)
  | 2 => ("CabTears$Text", "numbers", "[I", true)
  | _ => ("CabTears$Text", "told", "I", false)
def tyX6 : Nat → FieldType := fun k => match k with
  | 0 => .array .char
  | 1 => .int
  | 2 => .array .int
  | _ => .int
abbrev wsX60 : List Cond := u_ws RX6 TX6 4
theorem nmX6 : ∀ a, a < 4 → ∀ b, b < 4 → a ≠ b → (TX6 a).2.1 ≠ (TX6 b).2.1 := by decide +kernel
theorem tyX6_ok : ∀ k, k < 4 → parseFieldDescriptor (TX6 k).2.2.1 = some (tyX6 k) := by decide +kernel
abbrev cX6_init : ByteArray := prog_8_method_1_code
def yX6_init : MethodName := ⟨RX6, "<init>", "()V"⟩
abbrev cX6_add : ByteArray := prog_8_method_2_code
def yX6_add : MethodName := ⟨RX6, "add", "(C)Z"⟩
abbrev cX6_readInto : ByteArray := prog_8_method_3_code
def yX6_readInto : MethodName := ⟨RX6, "readInto", "(LCabTears$City;)I"⟩
abbrev cX6_readNumbers : ByteArray := prog_8_method_4_code
def yX6_readNumbers : MethodName := ⟨RX6, "readNumbers", "(II)Z"⟩
abbrev cX6_tell : ByteArray := prog_8_method_5_code
def yX6_tell : MethodName := ⟨RX6, "tell", "(LCabTears$City;C)Z"⟩
def RX7 : String := "CabTears$Trip"
def TX7 : u_T := fun k => match k with
  | 0 => ("CabTears$Trip", "free", "I", false)
  | 1 => ("CabTears$Trip", "late", "I", false)
  | 2 => ("CabTears$Trip", "weeps", "Z", false)
  | _ => ("CabTears$Trip", "by", "Z", false)
def tyX7 : Nat → FieldType := fun k => match k with
  | 0 => .int
  | 1 => .int
  | 2 => .boolean
  | _ => .boolean
abbrev wsX70 : List Cond := u_ws RX7 TX7 4
theorem nmX7 : ∀ a, a < 4 → ∀ b, b < 4 → a ≠ b → (TX7 a).2.1 ≠ (TX7 b).2.1 := by decide +kernel
theorem tyX7_ok : ∀ k, k < 4 → parseFieldDescriptor (TX7 k).2.2.1 = some (tyX7 k) := by decide +kernel
abbrev cX7_init : ByteArray := prog_9_method_1_code
def yX7_init : MethodName := ⟨RX7, "<init>", "()V"⟩
def RX8 : String := "CabTears"
def TX8 : u_T := fun k => match k with
  | 0 => ("CabTears", "text", "LCabTears$Text;", true)
  | 1 => ("CabTears", "city", "LCabTears$City;", true)
  | 2 => ("CabTears", "draft", "LCabTears$City;", true)
  | 3 => ("CabTears", "stand", "LCabTears$Stand;", true)
  | 4 => ("CabTears", "trial", "LCabTears$Stand;", true)
  | 5 => ("CabTears", "done", "LCabTears$Shelf;", true)
  | 6 => ("CabTears", "kept", "LCabTears$Shelf;", true)
  | 7 => ("CabTears", "seen", "LCabTears$Seen;", true)
  | 8 => ("CabTears", "orders", "LCabTears$Orders;", true)
  | 9 => ("CabTears", "duel", "LCabTears$Duel;", true)
  | _ => ("CabTears", "days", "[J", true)
def tyX8 : Nat → FieldType := fun k => match k with
  | 0 => .object "CabTears$Text"
  | 1 => .object "CabTears$City"
  | 2 => .object "CabTears$City"
  | 3 => .object "CabTears$Stand"
  | 4 => .object "CabTears$Stand"
  | 5 => .object "CabTears$Shelf"
  | 6 => .object "CabTears$Shelf"
  | 7 => .object "CabTears$Seen"
  | 8 => .object "CabTears$Orders"
  | 9 => .object "CabTears$Duel"
  | _ => .array .long
abbrev wsX80 : List Cond := u_ws RX8 TX8 11
theorem nmX8 : ∀ a, a < 11 → ∀ b, b < 11 → a ≠ b → (TX8 a).2.1 ≠ (TX8 b).2.1 := by decide +kernel
theorem tyX8_ok : ∀ k, k < 11 → parseFieldDescriptor (TX8 k).2.2.1 = some (tyX8 k) := by decide +kernel
abbrev cX8_init : ByteArray := prog_1_method_1_code
def yX8_init : MethodName := ⟨RX8, "<init>", "()V"⟩
abbrev cX8_write : ByteArray := prog_1_method_2_code
def yX8_write : MethodName := ⟨RX8, "write", "(I)I"⟩
abbrev cX8_wipe : ByteArray := prog_1_method_3_code
def yX8_wipe : MethodName := ⟨RX8, "wipe", "()I"⟩
abbrev cX8_fault : ByteArray := prog_1_method_4_code
def yX8_fault : MethodName := ⟨RX8, "fault", "()I"⟩
abbrev cX8_lay : ByteArray := prog_1_method_5_code
def yX8_lay : MethodName := ⟨RX8, "lay", "()I"⟩
abbrev cX8_far : ByteArray := prog_1_method_6_code
def yX8_far : MethodName := ⟨RX8, "far", "(II)I"⟩
abbrev cX8_cab : ByteArray := prog_1_method_7_code
def yX8_cab : MethodName := ⟨RX8, "cab", "(II)I"⟩
abbrev cX8_fare : ByteArray := prog_1_method_8_code
def yX8_fare : MethodName := ⟨RX8, "fare", "(II)I"⟩
abbrev cX8_take : ByteArray := prog_1_method_9_code
def yX8_take : MethodName := ⟨RX8, "take", "(II)I"⟩
abbrev cX8_send : ByteArray := prog_1_method_10_code
def yX8_send : MethodName := ⟨RX8, "send", "(II)I"⟩
abbrev cX8_pass : ByteArray := prog_1_method_11_code
def yX8_pass : MethodName := ⟨RX8, "pass", "(I)I"⟩
abbrev cX8_undo : ByteArray := prog_1_method_12_code
def yX8_undo : MethodName := ⟨RX8, "undo", "()I"⟩
abbrev cX8_ride : ByteArray := prog_1_method_13_code
def yX8_ride : MethodName := ⟨RX8, "ride", "(III)I"⟩
abbrev cX8_soonest : ByteArray := prog_1_method_14_code
def yX8_soonest : MethodName := ⟨RX8, "soonest", "(I)I"⟩
abbrev cX8_order : ByteArray := prog_1_method_15_code
def yX8_order : MethodName := ⟨RX8, "order", "(I)I"⟩
abbrev cX8_waiting : ByteArray := prog_1_method_16_code
def yX8_waiting : MethodName := ⟨RX8, "waiting", "(II)I"⟩
abbrev cX8_round : ByteArray := prog_1_method_17_code
def yX8_round : MethodName := ⟨RX8, "round", "(I)I"⟩
abbrev cX8_mends : ByteArray := prog_1_method_18_code
def yX8_mends : MethodName := ⟨RX8, "mends", "(I)I"⟩
abbrev cX8_rivals : ByteArray := prog_1_method_19_code
def yX8_rivals : MethodName := ⟨RX8, "rivals", "(IIII)I"⟩
abbrev cX8_see : ByteArray := prog_1_method_20_code
def yX8_see : MethodName := ⟨RX8, "see", "(III)I"⟩
abbrev cX8_forget : ByteArray := prog_1_method_21_code
def yX8_forget : MethodName := ⟨RX8, "forget", "()I"⟩
abbrev cX8_wept : ByteArray := prog_1_method_22_code
def yX8_wept : MethodName := ⟨RX8, "wept", "(II)I"⟩
abbrev cX8_kinds : ByteArray := prog_1_method_23_code
def yX8_kinds : MethodName := ⟨RX8, "kinds", "(I)I"⟩
abbrev cX8_tears : ByteArray := prog_1_method_24_code
def yX8_tears : MethodName := ⟨RX8, "tears", "(III)I"⟩
abbrev cX8_year : ByteArray := prog_1_method_25_code
def yX8_year : MethodName := ⟨RX8, "year", "(III)I"⟩
abbrev cX8_keep : ByteArray := prog_1_method_26_code
def yX8_keep : MethodName := ⟨RX8, "keep", "()I"⟩
abbrev cX8_back : ByteArray := prog_1_method_27_code
def yX8_back : MethodName := ⟨RX8, "back", "()I"⟩
abbrev cX8_count : ByteArray := prog_1_method_28_code
def yX8_count : MethodName := ⟨RX8, "count", "(I)I"⟩
abbrev cX8_within : ByteArray := prog_1_method_29_code
def yX8_within : MethodName := ⟨RX8, "within", "(III)Z"⟩
abbrev cX8_begin : ByteArray := prog_1_method_30_code
def yX8_begin : MethodName := ⟨RX8, "begin", "()V"⟩
abbrev cX8_restOf : ByteArray := prog_1_method_31_code
def yX8_restOf : MethodName := ⟨RX8, "restOf", "(LCabTears$City;LCabTears$Stand;)I"⟩
abbrev cX8_howManyWept : ByteArray := prog_1_method_32_code
def yX8_howManyWept : MethodName := ⟨RX8, "howManyWept", "()I"⟩
abbrev cX8_lateFrom : ByteArray := prog_1_method_33_code
def yX8_lateFrom : MethodName := ⟨RX8, "lateFrom", "(II)I"⟩
abbrev cX8_liveOneDay : ByteArray := prog_1_method_34_code
def yX8_liveOneDay : MethodName := ⟨RX8, "liveOneDay", "()V"⟩
abbrev cX8_dayLike : ByteArray := prog_1_method_35_code
def yX8_dayLike : MethodName := ⟨RX8, "dayLike", "(I)I"⟩
abbrev cX8_tearsOfOthers : ByteArray := prog_1_method_36_code
def yX8_tearsOfOthers : MethodName := ⟨RX8, "tearsOfOthers", "(I)I"⟩
abbrev cX8_fitsSeen : ByteArray := prog_1_method_37_code
def yX8_fitsSeen : MethodName := ⟨RX8, "fitsSeen", "(III)Z"⟩
abbrev cX8_lateAmong : ByteArray := prog_1_method_38_code
def yX8_lateAmong : MethodName := ⟨RX8, "lateAmong", "(I)I"⟩
abbrev cX8_drawn : ByteArray := prog_1_method_39_code
def yX8_drawn : MethodName := ⟨RX8, "drawn", "(II)I"⟩
abbrev cX8_power : ByteArray := prog_1_method_40_code
def yX8_power : MethodName := ⟨RX8, "power", "(II)I"⟩
abbrev cX8_commonDivisor : ByteArray := prog_1_method_41_code
def yX8_commonDivisor : MethodName := ⟨RX8, "commonDivisor", "(II)I"⟩
def RX9 : String := "CabTearsModel"
def TX9 : u_T := fun k => match k with
  | 0 => ("CabTearsModel", "w", "[I", true)
  | 1 => ("CabTearsModel", "undoes", "I", false)
  | 2 => ("CabTearsModel", "kept", "I", false)
  | 3 => ("CabTearsModel", "inRows", "I", false)
  | 4 => ("CabTearsModel", "columns", "I", false)
  | 5 => ("CabTearsModel", "cabs", "I", false)
  | 6 => ("CabTearsModel", "cabKind", "[I", true)
  | 7 => ("CabTearsModel", "fares", "I", false)
  | 8 => ("CabTearsModel", "fareKind", "[I", true)
  | 9 => ("CabTearsModel", "fareFrom", "[I", true)
  | 10 => ("CabTearsModel", "fareTo", "[I", true)
  | 11 => ("CabTearsModel", "fareWhen", "[I", true)
  | 12 => ("CabTearsModel", "bears", "[I", true)
  | 13 => ("CabTearsModel", "seen", "I", false)
  | 14 => ("CabTearsModel", "seenCab", "[I", true)
  | 15 => ("CabTearsModel", "seenFare", "[I", true)
  | 16 => ("CabTearsModel", "seenStep", "[I", true)
  | 17 => ("CabTearsModel", "text", "[I", true)
  | 18 => ("CabTearsModel", "texted", "I", false)
  | 19 => ("CabTearsModel", "place", "I", false)
  | 20 => ("CabTearsModel", "number", "I", false)
  | 21 => ("CabTearsModel", "readRows", "I", false)
  | 22 => ("CabTearsModel", "readColumns", "I", false)
  | 23 => ("CabTearsModel", "readCabs", "I", false)
  | 24 => ("CabTearsModel", "readCab", "[I", true)
  | 25 => ("CabTearsModel", "readFares", "I", false)
  | 26 => ("CabTearsModel", "readFare", "[I", true)
  | 27 => ("CabTearsModel", "tried", "[I", true)
  | 28 => ("CabTearsModel", "weptBy", "[I", true)
  | 29 => ("CabTearsModel", "bestOrder", "[I", true)
  | 30 => ("CabTearsModel", "days", "[I", true)
  | _ => ("CabTearsModel", "values", "[I", true)
def tyX9 : Nat → FieldType := fun k => match k with
  | 0 => .array .int
  | 1 => .int
  | 2 => .int
  | 3 => .int
  | 4 => .int
  | 5 => .int
  | 6 => .array .int
  | 7 => .int
  | 8 => .array .int
  | 9 => .array .int
  | 10 => .array .int
  | 11 => .array .int
  | 12 => .array .int
  | 13 => .int
  | 14 => .array .int
  | 15 => .array .int
  | 16 => .array .int
  | 17 => .array .int
  | 18 => .int
  | 19 => .int
  | 20 => .int
  | 21 => .int
  | 22 => .int
  | 23 => .int
  | 24 => .array .int
  | 25 => .int
  | 26 => .array .int
  | 27 => .array .int
  | 28 => .array .int
  | 29 => .array .int
  | 30 => .array .int
  | _ => .array .int
abbrev wsX90 : List Cond := u_ws RX9 TX9 32
theorem nmX9 : ∀ a, a < 32 → ∀ b, b < 32 → a ≠ b → (TX9 a).2.1 ≠ (TX9 b).2.1 := by decide +kernel
theorem tyX9_ok : ∀ k, k < 32 → parseFieldDescriptor (TX9 k).2.2.1 = some (tyX9 k) := by decide +kernel
abbrev cX9_init : ByteArray := prog_11_method_1_code
def yX9_init : MethodName := ⟨RX9, "<init>", "()V"⟩
abbrev cX9_in : ByteArray := prog_11_method_3_code
def yX9_in : MethodName := ⟨RX9, "in", "(JJJ)Z"⟩
abbrev cX9_has : ByteArray := prog_11_method_4_code
def yX9_has : MethodName := ⟨RX9, "has", "(II)Z"⟩
abbrev cX9_ones : ByteArray := prog_11_method_5_code
def yX9_ones : MethodName := ⟨RX9, "ones", "(I)I"⟩
abbrev cX9_copy : ByteArray := prog_11_method_6_code
def yX9_copy : MethodName := ⟨RX9, "copy", "(II)V"⟩
abbrev cX9_places : ByteArray := prog_11_method_7_code
def yX9_places : MethodName := ⟨RX9, "places", "()I"⟩
abbrev cX9_isPlace : ByteArray := prog_11_method_8_code
def yX9_isPlace : MethodName := ⟨RX9, "isPlace", "(I)Z"⟩
abbrev cX9_isCab : ByteArray := prog_11_method_9_code
def yX9_isCab : MethodName := ⟨RX9, "isCab", "(I)Z"⟩
abbrev cX9_isFare : ByteArray := prog_11_method_10_code
def yX9_isFare : MethodName := ⟨RX9, "isFare", "(I)Z"⟩
abbrev cX9_addsCab : ByteArray := prog_11_method_11_code
def yX9_addsCab : MethodName := ⟨RX9, "addsCab", "(III)V"⟩
abbrev cX9_addsFare : ByteArray := prog_11_method_12_code
def yX9_addsFare : MethodName := ⟨RX9, "addsFare", "(IIIII)V"⟩
abbrev cX9_begins : ByteArray := prog_11_method_13_code
def yX9_begins : MethodName := ⟨RX9, "begins", "()V"⟩
abbrev cX9_write : ByteArray := prog_11_method_14_code
def yX9_write : MethodName := ⟨RX9, "write", "(I)I"⟩
abbrev cX9_wipe : ByteArray := prog_11_method_15_code
def yX9_wipe : MethodName := ⟨RX9, "wipe", "()I"⟩
abbrev cX9_letterAt : ByteArray := prog_11_method_16_code
def yX9_letterAt : MethodName := ⟨RX9, "letterAt", "(I)I"⟩
abbrev cX9_takesNumber : ByteArray := prog_11_method_17_code
def yX9_takesNumber : MethodName := ⟨RX9, "takesNumber", "(III)Z"⟩
abbrev cX9_takesRows : ByteArray := prog_11_method_18_code
def yX9_takesRows : MethodName := ⟨RX9, "takesRows", "()Z"⟩
abbrev cX9_takesCab : ByteArray := prog_11_method_19_code
def yX9_takesCab : MethodName := ⟨RX9, "takesCab", "()Z"⟩
abbrev cX9_takesFare : ByteArray := prog_11_method_20_code
def yX9_takesFare : MethodName := ⟨RX9, "takesFare", "()Z"⟩
abbrev cX9_takesItem : ByteArray := prog_11_method_21_code
def yX9_takesItem : MethodName := ⟨RX9, "takesItem", "()Z"⟩
abbrev cX9_faultOf : ByteArray := prog_11_method_22_code
def yX9_faultOf : MethodName := ⟨RX9, "faultOf", "()I"⟩
abbrev cX9_fault : ByteArray := prog_11_method_23_code
def yX9_fault : MethodName := ⟨RX9, "fault", "()I"⟩
abbrev cX9_lay : ByteArray := prog_11_method_24_code
def yX9_lay : MethodName := ⟨RX9, "lay", "()I"⟩
abbrev cX9_farOf : ByteArray := prog_11_method_25_code
def yX9_farOf : MethodName := ⟨RX9, "farOf", "(II)I"⟩
abbrev cX9_far : ByteArray := prog_11_method_26_code
def yX9_far : MethodName := ⟨RX9, "far", "(II)I"⟩
abbrev cX9_cab : ByteArray := prog_11_method_27_code
def yX9_cab : MethodName := ⟨RX9, "cab", "(II)I"⟩
abbrev cX9_fare : ByteArray := prog_11_method_28_code
def yX9_fare : MethodName := ⟨RX9, "fare", "(II)I"⟩
abbrev cX9_goesBy : ByteArray := prog_11_method_29_code
def yX9_goesBy : MethodName := ⟨RX9, "goesBy", "(III)Z"⟩
abbrev cX9_setsOut : ByteArray := prog_11_method_30_code
def yX9_setsOut : MethodName := ⟨RX9, "setsOut", "(II)I"⟩
abbrev cX9_freeBy : ByteArray := prog_11_method_31_code
def yX9_freeBy : MethodName := ⟨RX9, "freeBy", "(III)I"⟩
abbrev cX9_lateBy : ByteArray := prog_11_method_32_code
def yX9_lateBy : MethodName := ⟨RX9, "lateBy", "(III)I"⟩
abbrev cX9_weeps : ByteArray := prog_11_method_33_code
def yX9_weeps : MethodName := ⟨RX9, "weeps", "(II)Z"⟩
abbrev cX9_rides : ByteArray := prog_11_method_34_code
def yX9_rides : MethodName := ⟨RX9, "rides", "(IIIZ)V"⟩
abbrev cX9_ridesAsOneDoes : ByteArray := prog_11_method_35_code
def yX9_ridesAsOneDoes : MethodName := ⟨RX9, "ridesAsOneDoes", "(III)Z"⟩
abbrev cX9_soonestIn : ByteArray := prog_11_method_36_code
def yX9_soonestIn : MethodName := ⟨RX9, "soonestIn", "(II)I"⟩
abbrev cX9_minds : ByteArray := prog_11_method_37_code
def yX9_minds : MethodName := ⟨RX9, "minds", "()V"⟩
abbrev cX9_take : ByteArray := prog_11_method_38_code
def yX9_take : MethodName := ⟨RX9, "take", "(II)I"⟩
abbrev cX9_sends : ByteArray := prog_11_method_39_code
def yX9_sends : MethodName := ⟨RX9, "sends", "(III)V"⟩
abbrev cX9_send : ByteArray := prog_11_method_40_code
def yX9_send : MethodName := ⟨RX9, "send", "(II)I"⟩
abbrev cX9_pass : ByteArray := prog_11_method_41_code
def yX9_pass : MethodName := ⟨RX9, "pass", "(I)I"⟩
abbrev cX9_undo : ByteArray := prog_11_method_42_code
def yX9_undo : MethodName := ⟨RX9, "undo", "()I"⟩
abbrev cX9_tries : ByteArray := prog_11_method_43_code
def yX9_tries : MethodName := ⟨RX9, "tries", "()V"⟩
abbrev cX9_ride : ByteArray := prog_11_method_44_code
def yX9_ride : MethodName := ⟨RX9, "ride", "(III)I"⟩
abbrev cX9_soonest : ByteArray := prog_11_method_45_code
def yX9_soonest : MethodName := ⟨RX9, "soonest", "(I)I"⟩
abbrev cX9_rest : ByteArray := prog_11_method_46_code
def yX9_rest : MethodName := ⟨RX9, "rest", "()I"⟩
abbrev cX9_ordersRest : ByteArray := prog_11_method_47_code
def yX9_ordersRest : MethodName := ⟨RX9, "ordersRest", "()I"⟩
abbrev cX9_order : ByteArray := prog_11_method_48_code
def yX9_order : MethodName := ⟨RX9, "order", "(I)I"⟩
abbrev cX9_waiting : ByteArray := prog_11_method_49_code
def yX9_waiting : MethodName := ⟨RX9, "waiting", "(II)I"⟩
abbrev cX9_laysDay : ByteArray := prog_11_method_50_code
def yX9_laysDay : MethodName := ⟨RX9, "laysDay", "(I)V"⟩
abbrev cX9_areLike : ByteArray := prog_11_method_51_code
def yX9_areLike : MethodName := ⟨RX9, "areLike", "(II)Z"⟩
abbrev cX9_round : ByteArray := prog_11_method_52_code
def yX9_round : MethodName := ⟨RX9, "round", "(I)I"⟩
abbrev cX9_weepBy : ByteArray := prog_11_method_53_code
def yX9_weepBy : MethodName := ⟨RX9, "weepBy", "(IIZ)I"⟩
abbrev cX9_mends : ByteArray := prog_11_method_54_code
def yX9_mends : MethodName := ⟨RX9, "mends", "(I)I"⟩
abbrev cX9_rivals : ByteArray := prog_11_method_55_code
def yX9_rivals : MethodName := ⟨RX9, "rivals", "(IIII)I"⟩
abbrev cX9_see : ByteArray := prog_11_method_56_code
def yX9_see : MethodName := ⟨RX9, "see", "(III)I"⟩
abbrev cX9_forget : ByteArray := prog_11_method_57_code
def yX9_forget : MethodName := ⟨RX9, "forget", "()I"⟩
abbrev cX9_isSeen : ByteArray := prog_11_method_58_code
def yX9_isSeen : MethodName := ⟨RX9, "isSeen", "(I)Z"⟩
abbrev cX9_wept : ByteArray := prog_11_method_59_code
def yX9_wept : MethodName := ⟨RX9, "wept", "(II)I"⟩
abbrev cX9_kinds : ByteArray := prog_11_method_60_code
def yX9_kinds : MethodName := ⟨RX9, "kinds", "(I)I"⟩
abbrev cX9_tears : ByteArray := prog_11_method_61_code
def yX9_tears : MethodName := ⟨RX9, "tears", "(III)I"⟩
abbrev cX9_year : ByteArray := prog_11_method_62_code
def yX9_year : MethodName := ⟨RX9, "year", "(III)I"⟩
abbrev cX9_keep : ByteArray := prog_11_method_63_code
def yX9_keep : MethodName := ⟨RX9, "keep", "()I"⟩
abbrev cX9_back : ByteArray := prog_11_method_64_code
def yX9_back : MethodName := ⟨RX9, "back", "()I"⟩
abbrev cX9_count : ByteArray := prog_11_method_65_code
def yX9_count : MethodName := ⟨RX9, "count", "(I)I"⟩
def RJ6 : String := "java/lang/Integer"
def TJ6 : u_T := fun k => match k with
  | _ => ("", "", "", false)
def tyJ6 : Nat → FieldType := fun k => match k with
  | _ => .int
abbrev wsJ60 : List Cond := u_ws RJ6 TJ6 0
theorem nmJ6 : ∀ a, a < 0 → ∀ b, b < 0 → a ≠ b → (TJ6 a).2.1 ≠ (TJ6 b).2.1 := by decide +kernel
theorem tyJ6_ok : ∀ k, k < 0 → parseFieldDescriptor (TJ6 k).2.2.1 = some (tyJ6 k) := by decide +kernel
abbrev cJ6_bitCount_0f7a4 : ByteArray := prog_12_method_49_code
def yJ6_bitCount_0f7a4 : MethodName := ⟨RJ6, "bitCount", "(I)I"⟩
def RJ9 : String := "java/lang/Math"
def TJ9 : u_T := fun k => match k with
  | _ => ("", "", "", false)
def tyJ9 : Nat → FieldType := fun k => match k with
  | _ => .int
abbrev wsJ90 : List Cond := u_ws RJ9 TJ9 0
theorem nmJ9 : ∀ a, a < 0 → ∀ b, b < 0 → a ≠ b → (TJ9 a).2.1 ≠ (TJ9 b).2.1 := by decide +kernel
theorem tyJ9_ok : ∀ k, k < 0 → parseFieldDescriptor (TJ9 k).2.2.1 = some (tyJ9 k) := by decide +kernel
abbrev cJ9_abs_0f7a4 : ByteArray := prog_13_method_59_code
def yJ9_abs_0f7a4 : MethodName := ⟨RJ9, "abs", "(I)I"⟩
abbrev cJ9_max_7cf53 : ByteArray := prog_13_method_65_code
def yJ9_max_7cf53 : MethodName := ⟨RJ9, "max", "(II)I"⟩
abbrev cJ9_min_7cf53 : ByteArray := prog_13_method_69_code
def yJ9_min_7cf53 : MethodName := ⟨RJ9, "min", "(II)I"⟩
def RJ0 : String := "java/lang/String"
def TJ0 : u_T := fun k => match k with
  | _ => ("", "", "", false)
def tyJ0 : Nat → FieldType := fun k => match k with
  | _ => .int
abbrev wsJ00 : List Cond := u_ws RJ0 TJ0 0
theorem nmJ0 : ∀ a, a < 0 → ∀ b, b < 0 → a ≠ b → (TJ0 a).2.1 ≠ (TJ0 b).2.1 := by decide +kernel
theorem tyJ0_ok : ∀ k, k < 0 → parseFieldDescriptor (TJ0 k).2.2.1 = some (tyJ0 k) := by decide +kernel
abbrev cJ0_length_8abf5 : ByteArray := prog_14_method_54_code
def yJ0_length_8abf5 : MethodName := ⟨RJ0, "length", "()I"⟩
abbrev cJ0_charAt_5068e : ByteArray := prog_14_method_56_code
def yJ0_charAt_5068e : MethodName := ⟨RJ0, "charAt", "(I)C"⟩
abbrev cJ0_coder_7d493 : ByteArray := prog_14_method_152_code
def yJ0_coder_7d493 : MethodName := ⟨RJ0, "coder", "()B"⟩
abbrev cJ0_isLatin1_aae02 : ByteArray := prog_14_method_154_code
def yJ0_isLatin1_aae02 : MethodName := ⟨RJ0, "isLatin1", "()Z"⟩
abbrev cJ0_checkIndex_df160 : ByteArray := prog_14_method_155_code
def yJ0_checkIndex_df160 : MethodName := ⟨RJ0, "checkIndex", "(II)V"⟩
def RJ1 : String := "java/lang/StringLatin1"
def TJ1 : u_T := fun k => match k with
  | _ => ("", "", "", false)
def tyJ1 : Nat → FieldType := fun k => match k with
  | _ => .int
abbrev wsJ10 : List Cond := u_ws RJ1 TJ1 0
theorem nmJ1 : ∀ a, a < 0 → ∀ b, b < 0 → a ≠ b → (TJ1 a).2.1 ≠ (TJ1 b).2.1 := by decide +kernel
theorem tyJ1_ok : ∀ k, k < 0 → parseFieldDescriptor (TJ1 k).2.2.1 = some (tyJ1 k) := by decide +kernel
abbrev cJ1_charAt_3b067 : ByteArray := prog_15_method_2_code
def yJ1_charAt_3b067 : MethodName := ⟨RJ1, "charAt", "([BI)C"⟩
def RJ2 : String := "java/lang/StringUTF16"
def TJ2 : u_T := fun k => match k with
  | _ => ("", "", "", false)
def tyJ2 : Nat → FieldType := fun k => match k with
  | _ => .int
abbrev wsJ20 : List Cond := u_ws RJ2 TJ2 0
theorem nmJ2 : ∀ a, a < 0 → ∀ b, b < 0 → a ≠ b → (TJ2 a).2.1 ≠ (TJ2 b).2.1 := by decide +kernel
theorem tyJ2_ok : ∀ k, k < 0 → parseFieldDescriptor (TJ2 k).2.2.1 = some (tyJ2 k) := by decide +kernel
abbrev cJ2_getChar_3b067 : ByteArray := prog_16_method_5_code
def yJ2_getChar_3b067 : MethodName := ⟨RJ2, "getChar", "([BI)C"⟩
abbrev cJ2_length_9d52b : ByteArray := prog_16_method_6_code
def yJ2_length_9d52b : MethodName := ⟨RJ2, "length", "([B)I"⟩
abbrev cJ2_charAt_3b067 : ByteArray := prog_16_method_83_code
def yJ2_charAt_3b067 : MethodName := ⟨RJ2, "charAt", "([BI)C"⟩
abbrev cJ2_checkIndex_2214a : ByteArray := prog_16_method_91_code
def yJ2_checkIndex_2214a : MethodName := ⟨RJ2, "checkIndex", "(I[B)V"⟩
def RJ10 : String := "java/lang/System"
def TJ10 : u_T := fun k => match k with
  | _ => ("", "", "", false)
def tyJ10 : Nat → FieldType := fun k => match k with
  | _ => .int
abbrev wsJ100 : List Cond := u_ws RJ10 TJ10 0
theorem nmJ10 : ∀ a, a < 0 → ∀ b, b < 0 → a ≠ b → (TJ10 a).2.1 ≠ (TJ10 b).2.1 := by decide +kernel
theorem tyJ10_ok : ∀ k, k < 0 → parseFieldDescriptor (TJ10 k).2.2.1 = some (tyJ10 k) := by decide +kernel
def RJ3 : String := "jdk/internal/util/Preconditions"
def TJ3 : u_T := fun k => match k with
  | _ => ("", "", "", false)
def tyJ3 : Nat → FieldType := fun k => match k with
  | _ => .int
abbrev wsJ30 : List Cond := u_ws RJ3 TJ3 0
theorem nmJ3 : ∀ a, a < 0 → ∀ b, b < 0 → a ≠ b → (TJ3 a).2.1 ≠ (TJ3 b).2.1 := by decide +kernel
theorem tyJ3_ok : ∀ k, k < 0 → parseFieldDescriptor (TJ3 k).2.2.1 = some (tyJ3 k) := by decide +kernel
abbrev cJ3_checkIndex_8e157 : ByteArray := prog_18_method_11_code
def yJ3_checkIndex_8e157 : MethodName := ⟨RJ3, "checkIndex", "(IILjava/util/function/BiFunction;)I"⟩
def RL : String := "CabTearsLaw"
abbrev cL_law : ByteArray := code
def yL_law : MethodName := ⟨RL, "law", "([I)Z"⟩
abbrev vwCl : List vw_C := [(RX0, TX0, 13), (RX1, TX1, 6), (RX2, TX2, 5), (RX3, TX3, 4), (RX4, TX4, 3), (RX5, TX5, 6), (RX6, TX6, 4), (RX7, TX7, 4), (RX8, TX8, 11), (RX9, TX9, 32)]
end
section
/-! ===== the flat memory: cells by their places, each holds ints by their slots; references stand in a fixed layout ===== -/
/-! the words that every method is given: the good ones of the tables -/
def fl_U : List Cond := lw_tbl.filter goodWord
theorem fl_w1 {w : Cond} (i : Nat) (h : lw_tbl[i]? = some w) (g : goodWord w = true) : w ∈ fl_U := List.mem_filter.mpr ⟨List.mem_of_getElem? h, g⟩
theorem fl_ws {ws : List Cond} (ps : List Nat) (hp : ws = ps.filterMap (fun i => lw_tbl[i]?)) (g : ws.all goodWord = true) : ∀ w ∈ ws, w ∈ fl_U := by
  intro w hw
  have h1 := List.all_eq_true.mp g w hw
  rw [hp] at hw
  obtain ⟨i, -, hi⟩ := List.mem_filterMap.mp hw
  exact fl_w1 i hi h1
theorem fl_good {ws : List Cond} (h : ∀ w ∈ ws, w ∈ fl_U) : GoodIn fl_U ws := fun w hw => ⟨h w hw, good_of_word (List.mem_filter.mp (h w hw)).2⟩
theorem fl_goodc {w : Cond} {ws : List Cond} (hw : w ∈ fl_U) (h : GoodIn fl_U ws) : GoodIn fl_U (w :: ws) := fun v hv => by
  rcases List.mem_cons.mp hv with rfl | hv
  · exact ⟨hw, good_of_word (List.mem_filter.mp hw).2⟩
  · exact h v hv
theorem fl_goodU : GoodIn fl_U fl_U := fl_good (fun _ h => h)
/-! memory -/
abbrev Mem : Type := (Nat → Nat → Int32) × (Nat → Int64)
def mI (m : Mem) (k j : Nat) (v : Int32) : Mem := (va_up m.1 k (upd (m.1 k) j v), m.2)
def mL (m : Mem) (j : Nat) (v : Int64) : Mem := (m.1, vp_updL m.2 j v)
def mC (m : Mem) (k k2 sp dp n : Nat) : Mem := (va_up m.1 k2 (va_cpy (m.1 k) (m.1 k2) sp dp n), m.2)
abbrev Kd : Type := Nat × Nat × List (Option Nat)
def fl_fs (ad : Nat → Nat) (f : Nat → Int32) : Nat → List (Option Nat) → List Value
  | _, [] => []
  | i, none :: l => .int (f i) :: fl_fs ad f (i + 1) l
  | i, some r :: l => .ref (ad r) :: fl_fs ad f (i + 1) l
def fl_base (kd : Kd) : Nat := (kd.2.2.getD 0 none).getD 0
def fl_ent (ca : Nat → ClassId) (ad : Nat → Nat) (m : Mem) (k : Nat) (kd : Kd) : va_E :=
  if kd.1 = 0 then .inr (kd.2.1, fl_fs ad (m.1 k) 0 kd.2.2)
  else if kd.1 = 3 then .inl (ca 3, (kd.2.1, .inr (.inl m.2)))
  else if kd.1 = 4 then .inl (ca 4, (kd.2.1, .inr (.inr (.inr (.inr (fun j => some (ad (fl_base kd + 6 * j))))))))
  else .inl (ca kd.1, (kd.2.1, .inl (m.1 k)))
def fl_w (L : List Kd) (ca : Nat → ClassId) (ad : Nat → Nat) (m : Mem) : va_W := L.mapIdx (fun k kd => (ad k, fl_ent ca ad m k kd))
theorem fl_at {L : List Kd} {ca : Nat → ClassId} {ad : Nat → Nat} {m : Mem} {k : Nat} {kd : Kd} (h : L[k]? = some kd) : (fl_w L ca ad m)[k]? = some (ad k, fl_ent ca ad m k kd) := by
  simp [fl_w, h]
theorem fl_fs_getI {ad : Nat → Nat} {f : Nat → Int32} : ∀ (l : List (Option Nat)) (i j : Nat), l[j]? = some none → (fl_fs ad f i l)[j]? = some (.int (f (i + j)))
  | [], _, _, h => by simp at h
  | none :: l, i, 0, _ => by simp [fl_fs]
  | some r :: l, i, 0, h => by simp at h
  | none :: l, i, j + 1, h => by
    simp only [fl_fs, List.getElem?_cons_succ] at h ⊢
    rw [fl_fs_getI l (i + 1) j h]; congr 3; omega
  | some r :: l, i, j + 1, h => by
    simp only [fl_fs, List.getElem?_cons_succ] at h ⊢
    rw [fl_fs_getI l (i + 1) j h]; congr 3; omega
theorem fl_fs_getR {ad : Nat → Nat} {f : Nat → Int32} {r : Nat} : ∀ (l : List (Option Nat)) (i j : Nat), l[j]? = some (some r) → (fl_fs ad f i l)[j]? = some (.ref (ad r))
  | [], _, _, h => by simp at h
  | none :: l, i, 0, h => by simp at h
  | some r :: l, i, 0, h => by simp at h; subst h; simp [fl_fs]
  | none :: l, i, j + 1, h => by
    simp only [fl_fs, List.getElem?_cons_succ] at h ⊢
    exact fl_fs_getR l (i + 1) j h
  | some r :: l, i, j + 1, h => by
    simp only [fl_fs, List.getElem?_cons_succ] at h ⊢
    exact fl_fs_getR l (i + 1) j h
theorem fl_fs_out {ad : Nat → Nat} {f : Nat → Int32} {p : Nat} {v : Int32} : ∀ (l : List (Option Nat)) (i : Nat), p < i → fl_fs ad (upd f p v) i l = fl_fs ad f i l
  | [], _, _ => rfl
  | none :: l, i, h => by
    simp only [fl_fs]
    rw [fl_fs_out l (i + 1) (by omega), show upd f p v i = f i by simp [upd]; intro e; omega]
  | some r :: l, i, h => by
    simp only [fl_fs]
    rw [fl_fs_out l (i + 1) (by omega)]
theorem fl_fs_set {ad : Nat → Nat} {f : Nat → Int32} {v : Int32} : ∀ (l : List (Option Nat)) (i j : Nat), l[j]? = some none → fl_fs ad (upd f (i + j) v) i l = (fl_fs ad f i l).set j (.int v)
  | [], _, _, h => by simp at h
  | none :: l, i, 0, _ => by
    simp only [fl_fs, List.set_cons_zero]
    rw [fl_fs_out l (i + 1) (by omega)]
    simp [upd]
  | some r :: l, i, 0, h => by simp at h
  | none :: l, i, j + 1, h => by
    simp only [fl_fs, List.getElem?_cons_succ, List.set_cons_succ] at h ⊢
    rw [show i + (j + 1) = (i + 1) + j by omega, fl_fs_set l (i + 1) j h, show upd f (i + 1 + j) v i = f i by simp [upd]; intro e; omega]
  | some r :: l, i, j + 1, h => by
    simp only [fl_fs, List.getElem?_cons_succ, List.set_cons_succ] at h ⊢
    rw [show i + (j + 1) = (i + 1) + j by omega, fl_fs_set l (i + 1) j h]
theorem fl_fs_len {ad : Nat → Nat} {f : Nat → Int32} : ∀ (l : List (Option Nat)) (i : Nat), (fl_fs ad f i l).length = l.length
  | [], _ => rfl
  | none :: l, i => by simp [fl_fs, fl_fs_len l (i + 1)]
  | some r :: l, i => by simp [fl_fs, fl_fs_len l (i + 1)]
theorem fl_set {L : List Kd} {ca : Nat → ClassId} {ad : Nat → Nat} {m m' : Mem} {k : Nat} {kd : Kd} (h : L[k]? = some kd) (h1 : ∀ i, i ≠ k → m'.1 i = m.1 i) (h2 : m'.2 = m.2) :
    fl_w L ca ad m' = (fl_w L ca ad m).set k (ad k, fl_ent ca ad m' k kd) := by
  apply List.ext_getElem?
  intro i
  by_cases hi : i = k
  · subst hi
    have hl : i < (fl_w L ca ad m).length := by simp only [fl_w, List.length_mapIdx]; exact (List.getElem?_eq_some_iff.mp h).1
    rw [List.getElem?_set_self hl, fl_at h]
  · rw [List.getElem?_set_ne (Ne.symm hi)]
    simp only [fl_w, List.getElem?_mapIdx]
    cases hL : L[i]? with
    | none => rfl
    | some q => simp only [Option.map_some, fl_ent, h1 i hi, h2]
theorem fl_setL {L : List Kd} {ca : Nat → ClassId} {ad : Nat → Nat} {m : Mem} {j : Nat} {v : Int64} {k : Nat} {kd : Kd} (h : L[k]? = some kd) (hu : ∀ i q, L[i]? = some q → q.1 = 3 → i = k) :
    fl_w L ca ad (mL m j v) = (fl_w L ca ad m).set k (ad k, fl_ent ca ad (mL m j v) k kd) := by
  apply List.ext_getElem?
  intro i
  by_cases hi : i = k
  · subst hi
    have hl : i < (fl_w L ca ad m).length := by simp only [fl_w, List.length_mapIdx]; exact (List.getElem?_eq_some_iff.mp h).1
    rw [List.getElem?_set_self hl, fl_at h]
  · rw [List.getElem?_set_ne (Ne.symm hi)]
    simp only [fl_w, List.getElem?_mapIdx]
    cases hL : L[i]? with
    | none => rfl
    | some q =>
      have h3 : ¬ q.1 = 3 := fun e => hi (hu i q hL e)
      simp only [Option.map_some, fl_ent, h3, if_false, mL]
theorem mI_ne {m : Mem} {k j : Nat} {v : Int32} (i : Nat) (h : i ≠ k) : (mI m k j v).1 i = m.1 i := by simp [mI, va_up, h]
theorem mI_eq {m : Mem} {k j : Nat} {v : Int32} : (mI m k j v).1 k = upd (m.1 k) j v := by simp [mI, va_up]
theorem mC_ne {m : Mem} {k k2 sp dp n : Nat} (i : Nat) (h : i ≠ k2) : (mC m k k2 sp dp n).1 i = m.1 i := by simp [mC, va_up, h]
theorem mC_eq {m : Mem} {k k2 sp dp n : Nat} : (mC m k k2 sp dp n).1 k2 = va_cpy (m.1 k) (m.1 k2) sp dp n := by simp [mC, va_up]
/-- which addresses a layout has -/
def fl_A (L : List Kd) (ad : Nat → Nat) : Nat → Prop := fun q => ∃ k, k < L.length ∧ q = ad k
def fl_inj (L : List Kd) (ad : Nat → Nat) : Prop := ∀ i j, i < L.length → j < L.length → ad i = ad j → i = j
theorem fl_D {L : List Kd} {ca : Nat → ClassId} {ad : Nat → Nat} {m : Mem} (h : fl_inj L ad) : va_D (fl_A L ad) (fl_w L ca ad m) := by
  have key : ∀ (i : Nat) (q : Nat × va_E), (fl_w L ca ad m)[i]? = some q → i < L.length ∧ q.1 = ad i := by
    intro i q hq
    simp only [fl_w, List.getElem?_mapIdx] at hq
    cases hL : L[i]? with
    | none => rw [hL] at hq; cases hq
    | some kd =>
      rw [hL] at hq
      cases hq
      exact ⟨(List.getElem?_eq_some_iff.mp hL).1, rfl⟩
  refine ⟨fun i j p q hi hj e => ?_, fun k q hq => ?_⟩
  · obtain ⟨a1, a2⟩ := key i p hi
    obtain ⟨b1, b2⟩ := key j q hj
    exact h i j a1 b1 (by rw [← a2, ← b2]; exact e)
  · obtain ⟨a1, a2⟩ := key k q hq
    exact ⟨k, a1, a2⟩
def fl_tys (ca : Nat → ClassId) : List (ClassId × FieldType) := [(ca 1, .int), (ca 2, .char), (ca 3, .long), (ca 4, .object RX5)]
/-- the private members of nest mates that are linked -/
def fl_nest : List Cond := [.methodLinkNest "CabTears" 11 ⟨"CabTears$Text", "<init>", "()V"⟩ "CabTears", .methodLinkNest "CabTears" 18 ⟨"CabTears$City", "<init>", "()V"⟩ "CabTears", .methodLinkNest "CabTears$City" 38 ⟨"CabTears$Trip", "<init>", "()V"⟩ "CabTears", .methodLinkNest "CabTears" 28 ⟨"CabTears$Stand", "<init>", "()V"⟩ "CabTears", .methodLinkNest "CabTears$Shelf" 21 ⟨"CabTears$Stand", "<init>", "()V"⟩ "CabTears", .methodLinkNest "CabTears" 50 ⟨"CabTears$Seen", "<init>", "()V"⟩ "CabTears", .methodLinkNest "CabTears$Orders" 24 ⟨"CabTears$Stand", "<init>", "()V"⟩ "CabTears", .methodLinkNest "CabTears$Duel" 17 ⟨"CabTears$Stand", "<init>", "()V"⟩ "CabTears", .methodLinkNest "CabTears$City" 56 ⟨"CabTears", "within", "(III)Z"⟩ "CabTears", .methodLinkNest "CabTears$Orders" 29 ⟨"CabTears", "restOf", "(LCabTears$City;LCabTears$Stand;)I"⟩ "CabTears", .methodLinkNest "CabTears$Duel" 35 ⟨"CabTears", "restOf", "(LCabTears$City;LCabTears$Stand;)I"⟩ "CabTears"]
theorem fl_nest_in : fl_nest = [72, 94, 100, 178, 224, 238, 266, 293, 388, 583, 648].filterMap (fun i => lw_tbl[i]?) := by decide +kernel
theorem fl_nest_warm : ∀ w ∈ fl_nest, ∀ s U : State, s.WarmedH U.vm → va_Nw w s → va_Nw w U := by
  simp only [fl_nest, List.forall_mem_cons]
  refine ⟨?_, ?_, ?_, ?_, ?_, ?_, ?_, ?_, ?_, ?_, ?_, fun _ h => absurd h List.not_mem_nil⟩
  all_goals exact fun s U hW h => va_Nw.warmM hW h
theorem fl_nest_tab : fl_nest.all (fun w => w.onTables) = true := by decide +kernel
def fl_E (D : va_G) (ca : Nat → ClassId) (U : State) : Prop := va_K D vwCl (fl_tys ca) U ∧ ∀ w ∈ fl_nest, va_Nw w U
theorem fl_E.warm {D : va_G} {ca : Nat → ClassId} {s U : State} (hW : s.WarmedH U.vm) (h : fl_E D ca s) : fl_E D ca U := ⟨va_K.moved hW.alike h.1, fun w hw => fl_nest_warm w hw s U hW (h.2 w hw)⟩
theorem fl_E.same {D : va_G} {ca : Nat → ClassId} {s U : State} (hv : s.vm = U.vm) (h : fl_E D ca s) : fl_E D ca U := ⟨va_K.moved (hv ▸ Vm.Alike.refl _) h.1, fun w hw => va_Nw.same (List.all_eq_true.mp fl_nest_tab w hw) hv (h.2 w hw)⟩
/-! what a walk stands on -/
def fl_X (p : Program) (s : State) (m : MethodId) (args : Array Value) (c : Code) (cc : ByteArray) (nL : Nat) (own : String) (L : List Kd) (D : va_G) (ca : Nat → ClassId) (ad : Nat → Nat) : Prop :=
  p.tables.exec = Jvm.exec ∧ c.code = cc ∧ c.maxLocals = nL ∧ s.vm.findClass own = some m.cls ∧ (∀ w ∈ fl_U, w.before args s = true) ∧ fl_E D ca s ∧ fl_inj L ad
def fl_Q (L : List Kd) (D : va_G) (ca : Nat → ClassId) (ad : Nat → Nat) (v : Option Value) (M : Mem) : Array Value → State → Outcome → State → Prop := fun _ st oc t => oc = .returned v ∧ va_P D vwCl (fl_w L ca ad M) t.heap ∧ va_F (fl_A L ad) st t
def fl_Pc (L : List Kd) (D : va_G) (ca : Nat → ClassId) (ad : Nat → Nat) (av : List Value) (m : Mem) : Array Value → State → Prop := va_Pc av (fun U => va_P D vwCl (fl_w L ca ad m) U.heap ∧ fl_E D ca U)
def fl_rm (d : Nat) : Room := { frames := d, cells := 0, slots := 0, locals := 64 * d }
/-- a method's contract: from the memory m it answers v and leaves the memory M -/
def fl_M (l : Launch) (L : List Kd) (D : va_G) (ca : Nat → ClassId) (ad : Nat → Nat) (y : MethodName) (cd : ByteArray) (nL : Nat) (ret : Option FieldType) (d : Nat) (av : List Value) (m : Mem) (v : Option Value) (M : Mem) : Prop :=
  Met l y (Cond.code y cd nL ret :: fl_U) (fl_rm d) (fl_Pc L D ca ad av m) (fl_Q L D ca ad v M) 0 0 (fl_A L ad)
theorem fl_blind {L : List Kd} {D : va_G} {ca : Nat → ClassId} {ad : Nat → Nat} {av : List Value} {m : Mem} : FrameBlind (fl_Pc L D ca ad av m) := fun a U g mk h => ⟨h.1, h.2.1, fl_E.same (s := U) (U := U.calling g mk a) rfl h.2.2⟩
theorem fl_ofW {l : Launch} {L : List Kd} {D : va_G} {ca : Nat → ClassId} {ad : Nat → Nat} {y : MethodName} {cd : ByteArray} {nL : Nat} {ret : Option FieldType} {d : Nat} {av : List Value} {m : Mem} {v : Option Value} {M : Mem} (hy : plainName y.cls = true) (hi : fl_inj L ad) (hn : (lg_sl av).length ≤ nL)
    (body : ∀ (p : Program) (e : Env) (s : State) (mm : MethodId) (below : List Frame) (meth : Method) (c : Code) (ls : Array Slot), fl_X p s mm av.toArray c cd nL y.cls L D ca ad → meth.sig.returnType = ret → meth.locks = false → va_P D vwCl (fl_w L ca ad m) s.heap → lv_has ls nL (lv_args 0 av) →
      W p l e (fl_rm d) s mm av.toArray below meth c s.heap [] 0 0 (MQ below (fl_Q L D ca ad v M) av.toArray s 0 0 (fl_A L ad)) (F0 mm 0 ls [])) : fl_M l L D ca ad y cd nL ret d av m v M := by
  refine Met.ofW (cc := cd) (maxL := nL) (ret := ret) hy rfl ?_
  intro p e s mm args below meth c s₁ B hml hv
  obtain ⟨rfl, hP, hE⟩ := hv
  have hts := atoms_spec (ws := Cond.code y cd nL ret :: fl_U) B.pre
  rw [lg_entry_eq]
  exact body p e s mm below meth c _ ⟨B.exec, B.bytes, hml, findClass_of_methodNamed B.named, fun w hw => hts w (List.mem_cons_of_mem _ hw), hE, hi⟩ B.returns B.notSynchronized hP (lv_entry av hn)
/-! links, a row each -/
def fl_fk (own : String) (index ci fi : Nat) : Prop := ∃ (C : String) (T : u_T) (N : Nat), vwCl[ci]? = some (C, T, N) ∧ (∀ w ∈ u_ws C T N, w ∈ fl_U) ∧ fi < N ∧ Cond.fieldLink own index (T fi).1 (T fi).2.1 (T fi).2.2.1 ∈ fl_U
def fl_pk (own : String) (index ci fi : Nat) (ty : FieldType) : Prop := ∃ (C : String) (T : u_T) (N : Nat) (ty0 : Nat → FieldType), vwCl[ci]? = some (C, T, N) ∧ (∀ w ∈ u_ws C T N, w ∈ fl_U) ∧ fi < N ∧ Cond.fieldLink own index (T fi).1 (T fi).2.1 (T fi).2.2.1 ∈ fl_U ∧ (∀ k, k < N → parseFieldDescriptor (T k).2.2.1 = some (ty0 k)) ∧ (∀ a, a < N → ∀ b, b < N → a ≠ b → (T a).2.1 ≠ (T b).2.1) ∧ (T fi).2.2.2 = false ∧ parseFieldDescriptor (T fi).2.2.1 = some ty
def fl_nn (y : MethodName) (n : Nat) : Prop := y.cls ≠ "java/lang/invoke/MethodHandle" ∧ y.cls ≠ "java/lang/invoke/VarHandle" ∧ (parseMethodDescriptor y.desc).map (fun d => d.parameters.length) = some n
def fl_mv (own : String) (index ci : Nat) (y : MethodName) (cd : ByteArray) (nL : Nat) (ret : Option FieldType) (n : Nat) : Prop := (∃ (T : u_T) (N : Nat), vwCl[ci]? = some (y.cls, T, N)) ∧ GoodIn fl_U (wsV own index y.cls y (Cond.code y cd nL ret :: fl_U)) ∧ fl_nn y n
def fl_ms (own : String) (index : Nat) (y : MethodName) (cd : ByteArray) (nL : Nat) (ret : Option FieldType) (n : Nat) : Prop := y.cls = own ∧ GoodIn fl_U (wsS own index y (Cond.code y cd nL ret :: fl_U)) ∧ fl_nn y n
def fl_mn (own : String) (index : Nat) (y : MethodName) (host : String) (cd : ByteArray) (nL : Nat) (ret : Option FieldType) (n : Nat) : Prop := Cond.methodLinkNest own index y host ∈ fl_nest ∧ GoodIn fl_U (Cond.code y cd nL ret :: fl_U) ∧ Cond.initialized y.cls ∈ fl_U ∧ Cond.static y ∈ fl_U ∧ fl_nn y n
theorem fl_mv_of {own : String} {index ci : Nat} {y : MethodName} {cd : ByteArray} {nL : Nat} {ret : Option FieldType} {n : Nat} {T : u_T} {N : Nat} (hc : vwCl[ci]? = some (y.cls, T, N)) (h1 : Cond.methodLink own index y ∈ fl_U) (h2 : Cond.instanceMethod y ∈ fl_U) (h3 : Cond.selects y.cls y y ∈ fl_U) (h4 : Cond.initialized y.cls ∈ fl_U) (h5 : Cond.code y cd nL ret ∈ fl_U) (hn : fl_nn y n) : fl_mv own index ci y cd nL ret n :=
  ⟨⟨T, N, hc⟩, fl_goodc h1 (fl_goodc h2 (fl_goodc h3 (fl_goodc h4 (fl_goodc h5 fl_goodU)))), hn⟩
theorem fl_ms_of {own : String} {index : Nat} {y : MethodName} {cd : ByteArray} {nL : Nat} {ret : Option FieldType} {n : Nat} (hc : y.cls = own) (h1 : Cond.methodLink own index y ∈ fl_U) (h2 : Cond.static y ∈ fl_U) (h4 : Cond.initialized own ∈ fl_U) (h5 : Cond.code y cd nL ret ∈ fl_U) (hn : fl_nn y n) : fl_ms own index y cd nL ret n :=
  ⟨hc, fl_goodc h1 (fl_goodc h2 (fl_goodc h4 (fl_goodc h5 fl_goodU))), hn⟩
theorem fl_mn_of {own : String} {index : Nat} {y : MethodName} {host : String} {cd : ByteArray} {nL : Nat} {ret : Option FieldType} {n : Nat} (h1 : Cond.methodLinkNest own index y host ∈ fl_nest) (h2 : Cond.static y ∈ fl_U) (h4 : Cond.initialized y.cls ∈ fl_U) (h5 : Cond.code y cd nL ret ∈ fl_U) (hn : fl_nn y n) : fl_mn own index y host cd nL ret n :=
  ⟨h1, fl_goodc h5 fl_goodU, h4, h2, hn⟩
section FL
variable {p : Program} {l : Launch} {e : Env} {R : Room} {s : State} {mm : MethodId} {args : Array Value} {below : List Frame} {meth : Method} {c : Code} {H : Heap} {locs : List Loc} {cells slots : Nat} {Q : State → Prop}
variable {cc : ByteArray} {nL pc : Nat} {ls : Array Slot} {rest : List Value} {own : String} {L : List Kd} {D : va_G} {ca : Nat → ClassId} {ad : Nat → Nat} {m : Mem} {H0 : Heap}
theorem fl_geti (X : fl_X p s mm args c cc nL own L D ca ad) (hP : va_P D vwCl (fl_w L ca ad m) H) {k j ci index : Nat} {tm : List (Option Nat)} (hf : fl_fk own index ci j) (hk : L[k]? = some (0, ci, tm)) (ht : tm[j]? = some none) (hdg : decode cc pc = .ok (.getfield index, 3))
    (kk : W p l e R s mm args below meth c H locs cells slots Q (F0 mm (pc + 3) ls (.int (m.1 k j) :: rest))) : W p l e R s mm args below meth c H locs cells slots Q (F0 mm pc ls (.ref (ad k) :: rest)) := by
  obtain ⟨hx, hb, hml, hown, hts, hE, hi⟩ := X
  obtain ⟨C, T, N, hc, hin, hfi, hlink⟩ := hf
  have he : (fl_w L ca ad m)[k]? = some (ad k, .inr (ci, fl_fs ad (m.1 k) 0 tm)) := (fl_at hk).trans (by simp [fl_ent])
  exact va_get (D := D) (ci := ci) (v := .int (m.1 k j)) (C := C) (T := T) (N := N) hx hb hts hin hown hE.1 hP k he hc j hfi (hts _ hlink) (fun _ h9 => h9) ((fl_fs_getI tm 0 j ht).trans (by rw [Nat.zero_add])) hdg kk
theorem fl_getr (X : fl_X p s mm args c cc nL own L D ca ad) (hP : va_P D vwCl (fl_w L ca ad m) H) {k j ci index r : Nat} {tm : List (Option Nat)} (hf : fl_fk own index ci j) (hk : L[k]? = some (0, ci, tm)) (ht : tm[j]? = some (some r)) (hdg : decode cc pc = .ok (.getfield index, 3))
    (kk : W p l e R s mm args below meth c H locs cells slots Q (F0 mm (pc + 3) ls (.ref (ad r) :: rest))) : W p l e R s mm args below meth c H locs cells slots Q (F0 mm pc ls (.ref (ad k) :: rest)) := by
  obtain ⟨hx, hb, hml, hown, hts, hE, hi⟩ := X
  obtain ⟨C, T, N, hc, hin, hfi, hlink⟩ := hf
  have he : (fl_w L ca ad m)[k]? = some (ad k, .inr (ci, fl_fs ad (m.1 k) 0 tm)) := (fl_at hk).trans (by simp [fl_ent])
  exact va_get (D := D) (ci := ci) (v := .ref (ad r)) (C := C) (T := T) (N := N) hx hb hts hin hown hE.1 hP k he hc j hfi (hts _ hlink) (fun _ h9 => h9) (fl_fs_getR tm 0 j ht) hdg kk
theorem fl_puti (X : fl_X p s mm args c cc nL own L D ca ad) (hP : va_P D vwCl (fl_w L ca ad m) H) (hS : va_S (fl_A L ad) H0 H locs) {k j ci index : Nat} {tm : List (Option Nat)} {ty : FieldType} {v : Int32} (hf : fl_pk own index ci j ty) (hk : L[k]? = some (0, ci, tm)) (ht : tm[j]? = some none) (hn : narrow ty (.int v) = .int v) (hfit : fits ty (.int v) = true) (hdg : decode cc pc = .ok (.putfield index, 3))
    (kk : ∀ (H1 : Heap) (locs1 : List Loc), va_P D vwCl (fl_w L ca ad (mI m k j v)) H1 → va_S (fl_A L ad) H0 H1 locs1 → W p l e R s mm args below meth c H1 locs1 cells slots Q (F0 mm (pc + 3) ls rest)) : W p l e R s mm args below meth c H locs cells slots Q (F0 mm pc ls (.int v :: .ref (ad k) :: rest)) := by
  obtain ⟨hx, hb, hml, hown, hts, hE, hi⟩ := X
  obtain ⟨C, T, N, ty0, hc, hin, hfi, hlink, hty, hnm, hfin, hd⟩ := hf
  have he : (fl_w L ca ad m)[k]? = some (ad k, .inr (ci, fl_fs ad (m.1 k) 0 tm)) := (fl_at hk).trans (by simp [fl_ent])
  have hl : j < (fl_fs ad (m.1 k) 0 tm).length := by rw [fl_fs_len]; exact (List.getElem?_eq_some_iff.mp ht).1
  refine va_put (D := D) (ci := ci) (v := .int v) (ty := ty) (C := C) (T := T) (N := N) hx hb hts hin ty0 hty hnm hown hE.1 hP (fl_D hi) hS k he hc j hfi (hts _ hlink) (fun _ h9 => h9) hfin hd hn hfit hl hdg (fun H1 locs1 hP1 _ hS1 => kk H1 locs1 ?_ hS1)
  rw [fl_set (m := m) hk (fun i h => mI_ne i h) rfl, show fl_ent ca ad (mI m k j v) k (0, ci, tm) = .inr (ci, fl_fs ad ((mI m k j v).1 k) 0 tm) by simp [fl_ent], mI_eq]
  have := fl_fs_set (ad := ad) (f := m.1 k) (v := v) tm 0 j ht
  rw [Nat.zero_add] at this
  rw [this]
  exact hP1
theorem fl_iald (X : fl_X p s mm args c cc nL own L D ca ad) (hP : va_P D vwCl (fl_w L ca ad m) H) {k n : Nat} {tm : List (Option Nat)} (hk : L[k]? = some (1, n, tm)) {i : Int32} (hin : 0 ≤ i.toInt ∧ i.toInt < n) (hdg : decode cc pc = .ok (.iaload, 1))
    (kk : W p l e R s mm args below meth c H locs cells slots Q (F0 mm (pc + 1) ls (.int (m.1 k i.toNatClampNeg) :: rest))) : W p l e R s mm args below meth c H locs cells slots Q (F0 mm pc ls (.int i :: .ref (ad k) :: rest)) := by
  obtain ⟨hx, hb, hml, hown, hts, hE, hi⟩ := X
  have he : (fl_w L ca ad m)[k]? = some (ad k, .inl (ca 1, n, .inl (m.1 k))) := (fl_at hk).trans (by simp [fl_ent])
  exact va_iald hx hb hE.1 hP k 0 he rfl (vp_in_iff.mpr hin) hdg kk
theorem fl_cald (X : fl_X p s mm args c cc nL own L D ca ad) (hP : va_P D vwCl (fl_w L ca ad m) H) {k n : Nat} {tm : List (Option Nat)} (hk : L[k]? = some (2, n, tm)) {i : Int32} (hin : 0 ≤ i.toInt ∧ i.toInt < n) (hdg : decode cc pc = .ok (.caload, 1))
    (kk : W p l e R s mm args below meth c H locs cells slots Q (F0 mm (pc + 1) ls (.int (m.1 k i.toNatClampNeg) :: rest))) : W p l e R s mm args below meth c H locs cells slots Q (F0 mm pc ls (.int i :: .ref (ad k) :: rest)) := by
  obtain ⟨hx, hb, hml, hown, hts, hE, hi⟩ := X
  have he : (fl_w L ca ad m)[k]? = some (ad k, .inl (ca 2, n, .inl (m.1 k))) := (fl_at hk).trans (by simp [fl_ent])
  exact va_cald hx hb hE.1 hP k 1 he rfl (vp_in_iff.mpr hin) hdg kk
theorem fl_lald (X : fl_X p s mm args c cc nL own L D ca ad) (hP : va_P D vwCl (fl_w L ca ad m) H) {k n : Nat} {tm : List (Option Nat)} (hk : L[k]? = some (3, n, tm)) {i : Int32} (hin : 0 ≤ i.toInt ∧ i.toInt < n) (hdg : decode cc pc = .ok (.laload, 1))
    (kk : W p l e R s mm args below meth c H locs cells slots Q (F0 mm (pc + 1) ls (.long (m.2 i.toNatClampNeg) :: rest))) : W p l e R s mm args below meth c H locs cells slots Q (F0 mm pc ls (.int i :: .ref (ad k) :: rest)) := by
  obtain ⟨hx, hb, hml, hown, hts, hE, hi⟩ := X
  have he : (fl_w L ca ad m)[k]? = some (ad k, .inl (ca 3, n, .inr (.inl m.2))) := (fl_at hk).trans (by simp [fl_ent])
  exact va_lald hx hb hE.1 hP k 2 he rfl (vp_in_iff.mpr hin) hdg kk
theorem fl_aald (X : fl_X p s mm args c cc nL own L D ca ad) (hP : va_P D vwCl (fl_w L ca ad m) H) {k n b : Nat} (hk : L[k]? = some (4, n, [some b])) {i : Int32} (hin : 0 ≤ i.toInt ∧ i.toInt < n) (hdg : decode cc pc = .ok (.aaload, 1))
    (kk : W p l e R s mm args below meth c H locs cells slots Q (F0 mm (pc + 1) ls (.ref (ad (b + 6 * i.toNatClampNeg)) :: rest))) : W p l e R s mm args below meth c H locs cells slots Q (F0 mm pc ls (.int i :: .ref (ad k) :: rest)) := by
  obtain ⟨hx, hb, hml, hown, hts, hE, hi⟩ := X
  have he : (fl_w L ca ad m)[k]? = some (ad k, .inl (ca 4, n, .inr (.inr (.inr (.inr (fun j => some (ad (b + 6 * j)))))))) := (fl_at hk).trans (by simp [fl_ent, fl_base])
  exact va_aldq hx hb hE.1 hP k 3 he rfl (vp_in_iff.mpr hin) hdg kk
theorem fl_alen (X : fl_X p s mm args c cc nL own L D ca ad) (hP : va_P D vwCl (fl_w L ca ad m) H) {k t n : Nat} {tm : List (Option Nat)} (hk : L[k]? = some (t, n, tm)) (ht : t = 1 ∨ t = 2 ∨ t = 4) {v : Int32} (hv : Int32.ofNat n = v) (hdg : decode cc pc = .ok (.arraylength, 1))
    (kk : W p l e R s mm args below meth c H locs cells slots Q (F0 mm (pc + 1) ls (.int v :: rest))) : W p l e R s mm args below meth c H locs cells slots Q (F0 mm pc ls (.ref (ad k) :: rest)) := by
  obtain ⟨hx, hb, hml, hown, hts, hE, hi⟩ := X
  rcases ht with rfl | rfl | rfl
  · have he : (fl_w L ca ad m)[k]? = some (ad k, .inl (ca 1, n, .inl (m.1 k))) := (fl_at hk).trans (by simp [fl_ent])
    exact va_alen hx hb hE.1 hP k 0 he rfl hv hdg kk
  · have he : (fl_w L ca ad m)[k]? = some (ad k, .inl (ca 2, n, .inl (m.1 k))) := (fl_at hk).trans (by simp [fl_ent])
    exact va_alen hx hb hE.1 hP k 1 he rfl hv hdg kk
  · have he : (fl_w L ca ad m)[k]? = some (ad k, .inl (ca 4, n, .inr (.inr (.inr (.inr (fun j => some (ad (fl_base (4, n, tm) + 6 * j)))))))) := (fl_at hk).trans (by simp [fl_ent])
    exact va_alen hx hb hE.1 hP k 3 he rfl hv hdg kk
theorem fl_iast (X : fl_X p s mm args c cc nL own L D ca ad) (hP : va_P D vwCl (fl_w L ca ad m) H) (hS : va_S (fl_A L ad) H0 H locs) {k n : Nat} {tm : List (Option Nat)} (hk : L[k]? = some (1, n, tm)) {i x : Int32} (hin : 0 ≤ i.toInt ∧ i.toInt < n) (hdg : decode cc pc = .ok (.iastore, 1))
    (kk : ∀ (H1 : Heap) (locs1 : List Loc), va_P D vwCl (fl_w L ca ad (mI m k i.toNatClampNeg x)) H1 → va_S (fl_A L ad) H0 H1 locs1 → W p l e R s mm args below meth c H1 locs1 cells slots Q (F0 mm (pc + 1) ls rest)) : W p l e R s mm args below meth c H locs cells slots Q (F0 mm pc ls (.int x :: .int i :: .ref (ad k) :: rest)) := by
  obtain ⟨hx, hb, hml, hown, hts, hE, hi⟩ := X
  have he : (fl_w L ca ad m)[k]? = some (ad k, .inl (ca 1, n, .inl (m.1 k))) := (fl_at hk).trans (by simp [fl_ent])
  refine va_iast hx hb hE.1 hP (fl_D hi) hS k 0 he rfl (vp_in_iff.mpr hin) hdg (fun H1 locs1 hP1 _ hS1 => kk H1 locs1 ?_ hS1)
  rw [fl_set (m := m) hk (fun i h => mI_ne i h) rfl, show fl_ent ca ad (mI m k i.toNatClampNeg x) k (1, n, tm) = .inl (ca 1, n, .inl ((mI m k i.toNatClampNeg x).1 k)) by simp [fl_ent], mI_eq]
  exact hP1
theorem fl_cast (X : fl_X p s mm args c cc nL own L D ca ad) (hP : va_P D vwCl (fl_w L ca ad m) H) (hS : va_S (fl_A L ad) H0 H locs) {k n : Nat} {tm : List (Option Nat)} (hk : L[k]? = some (2, n, tm)) {i x : Int32} (hin : 0 ≤ i.toInt ∧ i.toInt < n) (hdg : decode cc pc = .ok (.castore, 1))
    (kk : ∀ (H1 : Heap) (locs1 : List Loc), va_P D vwCl (fl_w L ca ad (mI m k i.toNatClampNeg (vp_nar .char x))) H1 → va_S (fl_A L ad) H0 H1 locs1 → W p l e R s mm args below meth c H1 locs1 cells slots Q (F0 mm (pc + 1) ls rest)) : W p l e R s mm args below meth c H locs cells slots Q (F0 mm pc ls (.int x :: .int i :: .ref (ad k) :: rest)) := by
  obtain ⟨hx, hb, hml, hown, hts, hE, hi⟩ := X
  have he : (fl_w L ca ad m)[k]? = some (ad k, .inl (ca 2, n, .inl (m.1 k))) := (fl_at hk).trans (by simp [fl_ent])
  refine va_cast hx hb hE.1 hP (fl_D hi) hS k 1 he rfl (vp_in_iff.mpr hin) hdg (fun H1 locs1 hP1 _ hS1 => kk H1 locs1 ?_ hS1)
  rw [fl_set (m := m) hk (fun i h => mI_ne i h) rfl, show fl_ent ca ad (mI m k i.toNatClampNeg (vp_nar .char x)) k (2, n, tm) = .inl (ca 2, n, .inl ((mI m k i.toNatClampNeg (vp_nar .char x)).1 k)) by simp [fl_ent], mI_eq]
  exact hP1
theorem fl_last (X : fl_X p s mm args c cc nL own L D ca ad) (hP : va_P D vwCl (fl_w L ca ad m) H) (hS : va_S (fl_A L ad) H0 H locs) {k n : Nat} {tm : List (Option Nat)} (hk : L[k]? = some (3, n, tm)) (hu : ∀ i q, L[i]? = some q → q.1 = 3 → i = k) {i : Int32} {x : Int64} (hin : 0 ≤ i.toInt ∧ i.toInt < n) (hdg : decode cc pc = .ok (.lastore, 1))
    (kk : ∀ (H1 : Heap) (locs1 : List Loc), va_P D vwCl (fl_w L ca ad (mL m i.toNatClampNeg x)) H1 → va_S (fl_A L ad) H0 H1 locs1 → W p l e R s mm args below meth c H1 locs1 cells slots Q (F0 mm (pc + 1) ls rest)) : W p l e R s mm args below meth c H locs cells slots Q (F0 mm pc ls (.long x :: .int i :: .ref (ad k) :: rest)) := by
  obtain ⟨hx, hb, hml, hown, hts, hE, hi⟩ := X
  have he : (fl_w L ca ad m)[k]? = some (ad k, .inl (ca 3, n, .inr (.inl m.2))) := (fl_at hk).trans (by simp [fl_ent])
  refine va_last hx hb hE.1 hP (fl_D hi) hS k 2 he rfl (vp_in_iff.mpr hin) hdg (fun H1 locs1 hP1 _ hS1 => kk H1 locs1 ?_ hS1)
  rw [fl_setL (m := m) hk hu, show fl_ent ca ad (mL m i.toNatClampNeg x) k (3, n, tm) = .inl (ca 3, n, .inr (.inl (vp_updL m.2 i.toNatClampNeg x))) by simp [fl_ent, mL]]
  exact hP1
theorem fl_copy (X : fl_X p s mm args c cc nL own L D ca ad) (hP : va_P D vwCl (fl_w L ca ad m) H) (hS : va_S (fl_A L ad) H0 H locs) (hsz : ls.size = nL) {k k2 n0 n1 index : Nat} {tm tm2 : List (Option Nat)} (hk : L[k]? = some (1, n0, tm)) (hk2 : L[k2]? = some (1, n1, tm2)) {sp dp n : Int32} (h1 : ¬ sp < 0) (h2 : ¬ dp < 0) (h3 : ¬ n < 0) (h4 : sp.toNatClampNeg + n.toNatClampNeg ≤ n0) (h5 : dp.toNatClampNeg + n.toNatClampNeg ≤ n1)
    (w1 : Cond.methodLink own index arraycopyName ∈ fl_U) (w2 : Cond.native arraycopyName ∈ fl_U) (w3 : Cond.static arraycopyName ∈ fl_U) (w4 : Cond.initialized "java/lang/System" ∈ fl_U) (hframes : 1 ≤ R.frames) (hlocals : (rest.map fun v => v.category).sum + (nativeFrameWords "java/lang/System" "arraycopy" 5 + 11) ≤ R.locals) (hdg : decode cc pc = .ok (.invokestatic index, 3))
    (kk : ∀ (H1 : Heap) (locs1 : List Loc), va_P D vwCl (fl_w L ca ad (mC m k k2 sp.toNatClampNeg dp.toNatClampNeg n.toNatClampNeg)) H1 → va_S (fl_A L ad) H0 H1 locs1 → W p l e R s mm args below meth c H1 locs1 cells slots Q (F0 mm (pc + 3) ls rest)) : W p l e R s mm args below meth c H locs cells slots Q (F0 mm pc ls (.int n :: .int dp :: .ref (ad k2) :: .int sp :: .ref (ad k) :: rest)) := by
  obtain ⟨hx, hb, hml, hown, hts, hE, hi⟩ := X
  have he : (fl_w L ca ad m)[k]? = some (ad k, .inl (ca 1, n0, .inl (m.1 k))) := (fl_at hk).trans (by simp [fl_ent])
  have he2 : (fl_w L ca ad m)[k2]? = some (ad k2, .inl (ca 1, n1, .inl (m.1 k2))) := (fl_at hk2).trans (by simp [fl_ent])
  refine va_copyi (ty := .int) hx hb (hml.trans hsz.symm) hown (hts _ w1) (hts _ w2) (hts _ w3) (hts _ w4) hE.1 hP (fl_D hi) hS k k2 0 0 he he2 rfl rfl rfl h1 h2 h3 h4 h5 (fun _ _ => rfl) hframes hlocals hdg (fun H1 locs1 hP1 _ hS1 => kk H1 locs1 ?_ hS1)
  rw [fl_set (m := m) hk2 (fun i h => mC_ne i h) rfl, show fl_ent ca ad (mC m k k2 sp.toNatClampNeg dp.toNatClampNeg n.toNatClampNeg) k2 (1, n1, tm2) = .inl (ca 1, n1, .inl ((mC m k k2 sp.toNatClampNeg dp.toNatClampNeg n.toNatClampNeg).1 k2)) by simp [fl_ent], mC_eq]
  exact hP1
/-! calls -/
theorem fl_call {v : Option Value} {M : Mem} {st0 : List Value} {a : Array Value} (hr : va_Run p l e R s mm args below meth c H locs cells slots 0 0 (F0 mm pc ls st0) rest (fl_Q L D ca ad v M a) (fl_A L ad)) (hS : va_S (fl_A L ad) H0 H locs)
    (kk : ∀ (H1 : Heap) (locs1 : List Loc), va_P D vwCl (fl_w L ca ad M) H1 → va_S (fl_A L ad) H0 H1 locs1 → W p l e R s mm args below meth c H1 locs1 cells slots Q (F0 mm (pc + 3) ls (v.toList ++ rest))) : W p l e R s mm args below meth c H locs cells slots Q (F0 mm pc ls st0) := by
  intro T hT X
  obtain ⟨v', st₀, t, T', L', h0, X', hL, e1, e2, ⟨hv, hp, hz, hk⟩, st⟩ := hr T hT X
  cases hv
  rw [h0] at hz hk
  obtain ⟨t2, a1, b1⟩ := kk T'.heap (locs ++ L') (by rw [e1]; exact hp)
    ⟨Nat.le_trans hS.1 (by rw [e1]; exact hz), fun q h1 h2 => by rw [e1, hk q (Nat.lt_of_lt_of_le h1 hS.1) h2]; exact hS.2.1 q h1 h2, fun q hq => by
      rcases List.mem_append.mp hq with h | h
      · exact hS.2.2 q h
      · exact hL q h⟩ T' rfl X'
  exact ⟨t2, st t2 a1, b1⟩
def fl_fit (d nLc : Nat) (R : Room) (cells slots : Nat) : Prop := d + 1 ≤ R.frames ∧ 8 + (nLc + 11) + 64 * d ≤ R.locals ∧ cells ≤ R.cells ∧ slots ≤ R.slots
theorem fl_fit_rm {d d0 nLc : Nat} (h : d < d0) (h2 : nLc ≤ 45) : fl_fit d nLc (fl_rm d0) 0 0 := ⟨h, by show 8 + (nLc + 11) + 64 * d ≤ 64 * d0; omega, Nat.le_refl 0, Nat.le_refl 0⟩
theorem fl_callV (X : fl_X p s mm args c cc nL own L D ca ad) (hP : va_P D vwCl (fl_w L ca ad m) H) (hS : va_S (fl_A L ad) H0 H locs) (hsz : ls.size = nL) {index ci n nLc d k : Nat} {y : MethodName} {cd : ByteArray} {ret : Option FieldType} {av : List Value} {v : Option Value} {M : Mem} {tm : List (Option Nat)}
    (hm : fl_mv own index ci y cd nLc ret n) (hM : fl_M l L D ca ad y cd nLc ret d (.ref (ad k) :: av) m v M) (hk : L[k]? = some (0, ci, tm)) (hfit : fl_fit d nLc R cells slots) (hn : av.length = n) (hroom : (rest.map fun v => v.category).sum ≤ 8) (hdg : decode cc pc = .ok (.invokevirtual index, 3)) {st : List Value} (hst : st = av.reverse ++ .ref (ad k) :: rest)
    (kk : ∀ (H1 : Heap) (locs1 : List Loc), va_P D vwCl (fl_w L ca ad M) H1 → va_S (fl_A L ad) H0 H1 locs1 → W p l e R s mm args below meth c H1 locs1 cells slots Q (F0 mm (pc + 3) ls (v.toList ++ rest))) : W p l e R s mm args below meth c H locs cells slots Q (F0 mm pc ls st) := by
  obtain ⟨hx, hb, hml, hown, hts, hE, hi⟩ := X
  obtain ⟨⟨T, N, hc⟩, hG, hy⟩ := hm
  have he : (fl_w L ca ad m)[k]? = some (ad k, .inr (ci, fl_fs ad (m.1 k) 0 tm)) := (fl_at hk).trans (by simp [fl_ent])
  refine fl_call (v := v) (M := M) (va_runV (Ts := fl_U) (As := av) (rest := rest) ⟨hx, hb, hml, hown, hts⟩ hM (cwV n hts hG rfl rfl rfl ⟨rfl, hy⟩ ⟨hfit.1, hfit.2.1⟩) ⟨fl_blind, va_recv hE.1 hP hc he, fun U hU hW => ⟨rfl, by rw [hU]; exact hP, fl_E.warm hW hE⟩⟩ rfl hn hsz hst (lv_room hroom) hdg ⟨hfit.2.2.1, hfit.2.2.2⟩) hS kk
theorem fl_callS (X : fl_X p s mm args c cc nL own L D ca ad) (hP : va_P D vwCl (fl_w L ca ad m) H) (hS : va_S (fl_A L ad) H0 H locs) (hsz : ls.size = nL) {index n nLc d : Nat} {y : MethodName} {cd : ByteArray} {ret : Option FieldType} {av : List Value} {v : Option Value} {M : Mem}
    (hm : fl_ms own index y cd nLc ret n) (hM : fl_M l L D ca ad y cd nLc ret d av m v M) (hfit : fl_fit d nLc R cells slots) (hn : av.length = n) (hroom : (rest.map fun v => v.category).sum ≤ 8) (hdg : decode cc pc = .ok (.invokestatic index, 3)) {st : List Value} (hst : st = av.reverse ++ rest)
    (kk : ∀ (H1 : Heap) (locs1 : List Loc), va_P D vwCl (fl_w L ca ad M) H1 → va_S (fl_A L ad) H0 H1 locs1 → W p l e R s mm args below meth c H1 locs1 cells slots Q (F0 mm (pc + 3) ls (v.toList ++ rest))) : W p l e R s mm args below meth c H locs cells slots Q (F0 mm pc ls st) := by
  obtain ⟨hx, hb, hml, hown, hts, hE, hi⟩ := X
  obtain ⟨hc, hG, hy⟩ := hm
  refine fl_call (v := v) (M := M) (va_runS (Ts := fl_U) (As := av) (rest := rest) ⟨hx, hb, hml, hown, hts⟩ hM (cwS n hts hG rfl rfl rfl ⟨hc, hy⟩ ⟨hfit.1, hfit.2.1⟩) ⟨fl_blind, fun U hU hW => ⟨rfl, by rw [hU]; exact hP, fl_E.warm hW hE⟩⟩ rfl hn hsz hst (lv_room hroom) hdg ⟨hfit.2.2.1, hfit.2.2.2⟩) hS kk
theorem fl_callN (X : fl_X p s mm args c cc nL own L D ca ad) (hP : va_P D vwCl (fl_w L ca ad m) H) (hS : va_S (fl_A L ad) H0 H locs) (hsz : ls.size = nL) {index n nLc d : Nat} {y : MethodName} {host : String} {cd : ByteArray} {ret : Option FieldType} {av : List Value} {v : Option Value} {M : Mem}
    (hm : fl_mn own index y host cd nLc ret n) (hM : fl_M l L D ca ad y cd nLc ret d av m v M) (hfit : fl_fit d nLc R cells slots) (hn : av.length = n) (hroom : (rest.map fun v => v.category).sum ≤ 8) (hdg : decode cc pc = .ok (.invokestatic index, 3)) {st : List Value} (hst : st = av.reverse ++ rest)
    (kk : ∀ (H1 : Heap) (locs1 : List Loc), va_P D vwCl (fl_w L ca ad M) H1 → va_S (fl_A L ad) H0 H1 locs1 → W p l e R s mm args below meth c H1 locs1 cells slots Q (F0 mm (pc + 3) ls (v.toList ++ rest))) : W p l e R s mm args below meth c H locs cells slots Q (F0 mm pc ls st) := by
  obtain ⟨hx, hb, hml, hown, hts, hE, hi⟩ := X
  obtain ⟨hl, hG, hini, hstt, hy⟩ := hm
  refine fl_call (v := v) (M := M) (va_runSN (Ts := fl_U) (As := av) (rest := rest) ⟨hx, hb, hml, hown, hts⟩ hM ⟨va_cnB n hts hG rfl rfl rfl (hE.2 _ hl) (hts _ hini) hy ⟨hfit.1, hfit.2.1⟩, hts _ hstt, trivial⟩ ⟨fl_blind, fun U hU hW => ⟨rfl, by rw [hU]; exact hP, fl_E.warm hW hE⟩⟩ rfl hn hsz hst (lv_room hroom) hdg ⟨hfit.2.2.1, hfit.2.2.2⟩) hS kk
/-! ends -/
theorem fl_iret {v v' : Int32} {M : Mem} (X : fl_X p s mm args c cc nL own L D ca ad) (hr : meth.sig.returnType = some .int) (hlk : meth.locks = false) (hP : va_P D vwCl (fl_w L ca ad m) H) (hS : va_S (fl_A L ad) s.heap H locs) (hdg : decode cc pc = .ok (.ireturn, 1)) (h : some (v, m) = some (v', M)) :
    W p l e R s mm args below meth c H locs 0 0 (MQ below (fl_Q L D ca ad (some (.int v')) M) args s 0 0 (fl_A L ad)) (F0 mm pc ls [.int v]) := by
  cases h
  exact W.iret (v := v) X.1 X.2.1 hr (fun t ht hW => ⟨rfl, by rw [ht]; exact hP, hS.F ht⟩) hS.2.2 hdg hlk
theorem fl_zret {v v' : Int32} {M : Mem} (X : fl_X p s mm args c cc nL own L D ca ad) (hr : meth.sig.returnType = some .boolean) (hlk : meth.locks = false) (hv : v = 0 ∨ v = 1) (hP : va_P D vwCl (fl_w L ca ad m) H) (hS : va_S (fl_A L ad) s.heap H locs) (hdg : decode cc pc = .ok (.ireturn, 1)) (h : some (v, m) = some (v', M)) :
    W p l e R s mm args below meth c H locs 0 0 (MQ below (fl_Q L D ca ad (some (.int v')) M) args s 0 0 (fl_A L ad)) (F0 mm pc ls [.int v]) := by
  cases h
  exact W.zret (v := v) (ty := .boolean) X.1 X.2.1 hr (by rcases hv with rfl | rfl <;> rfl) (fun t ht hW => ⟨rfl, by rw [ht]; exact hP, hS.F ht⟩) hS.2.2 hdg hlk
theorem fl_lret {v v' : Int64} {M : Mem} (X : fl_X p s mm args c cc nL own L D ca ad) (hr : meth.sig.returnType = some .long) (hlk : meth.locks = false) (hP : va_P D vwCl (fl_w L ca ad m) H) (hS : va_S (fl_A L ad) s.heap H locs) (hdg : decode cc pc = .ok (.lreturn, 1)) (h : some (v, m) = some (v', M)) :
    W p l e R s mm args below meth c H locs 0 0 (MQ below (fl_Q L D ca ad (some (.long v')) M) args s 0 0 (fl_A L ad)) (F0 mm pc ls [.long v]) := by
  cases h
  exact W.lret (v := v) X.1 X.2.1 hr (fun t ht hW => ⟨rfl, by rw [ht]; exact hP, hS.F ht⟩) hS.2.2 hdg hlk
theorem fl_vret {v v' : Int32} {M : Mem} (X : fl_X p s mm args c cc nL own L D ca ad) (hr : meth.sig.returnType = none) (hlk : meth.locks = false) (hP : va_P D vwCl (fl_w L ca ad m) H) (hS : va_S (fl_A L ad) s.heap H locs) (hdg : decode cc pc = .ok (.return_, 1)) (h : some (v, m) = some (v', M)) :
    W p l e R s mm args below meth c H locs 0 0 (MQ below (fl_Q L D ca ad none M) args s 0 0 (fl_A L ad)) (F0 mm pc ls []) := by
  cases h
  exact W.vret X.1 X.2.1 hr (fun t ht hW => ⟨rfl, by rw [ht]; exact hP, hS.F ht⟩) hS.2.2 hdg hlk
end FL
/-! the pure side: answers that may be wanting -/
def fl_bd {α β : Type} (o : Option (α × Mem)) (f : α → Mem → Option β) : Option β := match o with
  | some q => f q.1 q.2
  | none => none
theorem fl_bd_e {α β : Type} {o : Option (α × Mem)} {f : α → Mem → Option β} {x : β} (h : fl_bd o f = some x) : ∃ (r : α) (m1 : Mem), o = some (r, m1) ∧ f r m1 = some x := by
  cases o with
  | none => cases h
  | some q => exact ⟨q.1, q.2, rfl, h⟩
theorem fl_bd_s {α β : Type} {f : α → Mem → Option β} {r : α} {m1 : Mem} : fl_bd (some (r, m1)) f = f r m1 := rfl
def fl_ck {α : Type} (c : Prop) [Decidable c] (o : Option α) : Option α := if c then o else none
theorem fl_ck_e {α : Type} {c : Prop} [Decidable c] {o : Option α} {x : α} (h : fl_ck c o = some x) : c ∧ o = some x := by
  unfold fl_ck at h
  split at h
  · exact ⟨by assumption, h⟩
  · cases h
theorem fl_ck_t {α : Type} {c : Prop} [Decidable c] {o : Option α} (h : c) : fl_ck c o = o := if_pos h
theorem fl_if_t {α : Type} {c : Prop} [Decidable c] {A B x : α} (h : (if c then A else B) = x) (hc : c) : A = x := (if_pos hc).symm.trans h
theorem fl_if_f {α : Type} {c : Prop} [Decidable c] {A B x : α} (h : (if c then A else B) = x) (hc : ¬ c) : B = x := (if_neg hc).symm.trans h
end
