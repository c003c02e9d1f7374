section
-- ===== PART A: goes FIRST, ahead of the names: the tables' words, and 'selects' of the private methods out of them =====
/-- a private method of a class that the tables say can be made, by its rows of tables_1 -/
def lw_okq (q : MethodName × Nat) : Prop := (q.1.cls ≠ "java/lang/invoke/MethodHandle" ∧ q.1.cls ≠ "java/lang/invoke/VarHandle") ∧ Cond.instantiable q.1.cls q.2 ∈ tables_1 ∧ Cond.privateMethod q.1 ∈ tables_1 ∧ Cond.instanceMethod q.1 ∈ tables_1
theorem lw_p0 : lw_okq (⟨"CabTears$Text", "readNumbers", "(II)Z"⟩, 4) := ⟨⟨by decide +kernel, by decide +kernel⟩, List.mem_of_getElem? (i := 27) (by decide +kernel), List.mem_of_getElem? (i := 333) (by decide +kernel), List.mem_of_getElem? (i := 334) (by decide +kernel)⟩
theorem lw_p1 : lw_okq (⟨"CabTears$Text", "tell", "(LCabTears$City;C)Z"⟩, 4) := ⟨⟨by decide +kernel, by decide +kernel⟩, List.mem_of_getElem? (i := 27) (by decide +kernel), List.mem_of_getElem? (i := 337) (by decide +kernel), List.mem_of_getElem? (i := 338) (by decide +kernel)⟩
theorem lw_p2 : lw_okq (⟨"CabTears", "begin", "()V"⟩, 11) := ⟨⟨by decide +kernel, by decide +kernel⟩, List.mem_of_getElem? (i := 19) (by decide +kernel), List.mem_of_getElem? (i := 364) (by decide +kernel), List.mem_of_getElem? (i := 365) (by decide +kernel)⟩
theorem lw_p3 : lw_okq (⟨"CabTears$Orders", "keepIfFewer", "(I)V"⟩, 5) := ⟨⟨by decide +kernel, by decide +kernel⟩, List.mem_of_getElem? (i := 216) (by decide +kernel), List.mem_of_getElem? (i := 547) (by decide +kernel), List.mem_of_getElem? (i := 548) (by decide +kernel)⟩
theorem lw_p4 : lw_okq (⟨"CabTears", "lateFrom", "(II)I"⟩, 11) := ⟨⟨by decide +kernel, by decide +kernel⟩, List.mem_of_getElem? (i := 19) (by decide +kernel), List.mem_of_getElem? (i := 562) (by decide +kernel), List.mem_of_getElem? (i := 563) (by decide +kernel)⟩
theorem lw_p5 : lw_okq (⟨"CabTears", "liveOneDay", "()V"⟩, 11) := ⟨⟨by decide +kernel, by decide +kernel⟩, List.mem_of_getElem? (i := 19) (by decide +kernel), List.mem_of_getElem? (i := 577) (by decide +kernel), List.mem_of_getElem? (i := 578) (by decide +kernel)⟩
theorem lw_p6 : lw_okq (⟨"CabTears", "dayLike", "(I)I"⟩, 11) := ⟨⟨by decide +kernel, by decide +kernel⟩, List.mem_of_getElem? (i := 19) (by decide +kernel), List.mem_of_getElem? (i := 583) (by decide +kernel), List.mem_of_getElem? (i := 584) (by decide +kernel)⟩
theorem lw_p7 : lw_okq (⟨"CabTears", "tearsOfOthers", "(I)I"⟩, 11) := ⟨⟨by decide +kernel, by decide +kernel⟩, List.mem_of_getElem? (i := 19) (by decide +kernel), List.mem_of_getElem? (i := 591) (by decide +kernel), List.mem_of_getElem? (i := 592) (by decide +kernel)⟩
theorem lw_p8 : lw_okq (⟨"CabTears", "fitsSeen", "(III)Z"⟩, 11) := ⟨⟨by decide +kernel, by decide +kernel⟩, List.mem_of_getElem? (i := 19) (by decide +kernel), List.mem_of_getElem? (i := 627) (by decide +kernel), List.mem_of_getElem? (i := 628) (by decide +kernel)⟩
theorem lw_p9 : lw_okq (⟨"CabTears", "lateAmong", "(I)I"⟩, 11) := ⟨⟨by decide +kernel, by decide +kernel⟩, List.mem_of_getElem? (i := 19) (by decide +kernel), List.mem_of_getElem? (i := 650) (by decide +kernel), List.mem_of_getElem? (i := 651) (by decide +kernel)⟩
theorem lw_p10 : lw_okq (⟨"CabTears", "howManyWept", "()I"⟩, 11) := ⟨⟨by decide +kernel, by decide +kernel⟩, List.mem_of_getElem? (i := 19) (by decide +kernel), List.mem_of_getElem? (i := 681) (by decide +kernel), List.mem_of_getElem? (i := 682) (by decide +kernel)⟩
theorem lw_p11 : lw_okq (⟨"CabTearsModel", "addsCab", "(III)V"⟩, 32) := ⟨⟨by decide +kernel, by decide +kernel⟩, List.mem_of_getElem? (i := 685) (by decide +kernel), List.mem_of_getElem? (i := 691) (by decide +kernel), List.mem_of_getElem? (i := 692) (by decide +kernel)⟩
theorem lw_p12 : lw_okq (⟨"CabTearsModel", "addsFare", "(IIIII)V"⟩, 32) := ⟨⟨by decide +kernel, by decide +kernel⟩, List.mem_of_getElem? (i := 685) (by decide +kernel), List.mem_of_getElem? (i := 695) (by decide +kernel), List.mem_of_getElem? (i := 696) (by decide +kernel)⟩
theorem lw_p13 : lw_okq (⟨"CabTearsModel", "begins", "()V"⟩, 32) := ⟨⟨by decide +kernel, by decide +kernel⟩, List.mem_of_getElem? (i := 685) (by decide +kernel), List.mem_of_getElem? (i := 699) (by decide +kernel), List.mem_of_getElem? (i := 700) (by decide +kernel)⟩
theorem lw_p14 : lw_okq (⟨"CabTearsModel", "faultOf", "()I"⟩, 32) := ⟨⟨by decide +kernel, by decide +kernel⟩, List.mem_of_getElem? (i := 685) (by decide +kernel), List.mem_of_getElem? (i := 817) (by decide +kernel), List.mem_of_getElem? (i := 818) (by decide +kernel)⟩
theorem lw_p15 : lw_okq (⟨"CabTearsModel", "takesItem", "()Z"⟩, 32) := ⟨⟨by decide +kernel, by decide +kernel⟩, List.mem_of_getElem? (i := 685) (by decide +kernel), List.mem_of_getElem? (i := 821) (by decide +kernel), List.mem_of_getElem? (i := 822) (by decide +kernel)⟩
def lw_privs_1 : List (MethodName × Nat) := [(⟨"CabTears$Text", "readNumbers", "(II)Z"⟩, 4), (⟨"CabTears$Text", "tell", "(LCabTears$City;C)Z"⟩, 4), (⟨"CabTears", "begin", "()V"⟩, 11), (⟨"CabTears$Orders", "keepIfFewer", "(I)V"⟩, 5), (⟨"CabTears", "lateFrom", "(II)I"⟩, 11), (⟨"CabTears", "liveOneDay", "()V"⟩, 11), (⟨"CabTears", "dayLike", "(I)I"⟩, 11), (⟨"CabTears", "tearsOfOthers", "(I)I"⟩, 11), (⟨"CabTears", "fitsSeen", "(III)Z"⟩, 11), (⟨"CabTears", "lateAmong", "(I)I"⟩, 11), (⟨"CabTears", "howManyWept", "()I"⟩, 11), (⟨"CabTearsModel", "addsCab", "(III)V"⟩, 32), (⟨"CabTearsModel", "addsFare", "(IIIII)V"⟩, 32), (⟨"CabTearsModel", "begins", "()V"⟩, 32), (⟨"CabTearsModel", "faultOf", "()I"⟩, 32), (⟨"CabTearsModel", "takesItem", "()Z"⟩, 32)]
theorem lw_r1 : ∀ q ∈ lw_privs_1, lw_okq q := List.forall_mem_cons.mpr ⟨lw_p0, List.forall_mem_cons.mpr ⟨lw_p1, List.forall_mem_cons.mpr ⟨lw_p2, List.forall_mem_cons.mpr ⟨lw_p3, List.forall_mem_cons.mpr ⟨lw_p4, List.forall_mem_cons.mpr ⟨lw_p5, List.forall_mem_cons.mpr ⟨lw_p6, List.forall_mem_cons.mpr ⟨lw_p7, List.forall_mem_cons.mpr ⟨lw_p8, List.forall_mem_cons.mpr ⟨lw_p9, List.forall_mem_cons.mpr ⟨lw_p10, List.forall_mem_cons.mpr ⟨lw_p11, List.forall_mem_cons.mpr ⟨lw_p12, List.forall_mem_cons.mpr ⟨lw_p13, List.forall_mem_cons.mpr ⟨lw_p14, List.forall_mem_cons.mpr ⟨lw_p15, fun _ h => absurd h List.not_mem_nil⟩⟩⟩⟩⟩⟩⟩⟩⟩⟩⟩⟩⟩⟩⟩⟩
theorem lw_p16 : lw_okq (⟨"CabTearsModel", "letterAt", "(I)I"⟩, 32) := ⟨⟨by decide +kernel, by decide +kernel⟩, List.mem_of_getElem? (i := 685) (by decide +kernel), List.mem_of_getElem? (i := 825) (by decide +kernel), List.mem_of_getElem? (i := 826) (by decide +kernel)⟩
theorem lw_p17 : lw_okq (⟨"CabTearsModel", "takesRows", "()Z"⟩, 32) := ⟨⟨by decide +kernel, by decide +kernel⟩, List.mem_of_getElem? (i := 685) (by decide +kernel), List.mem_of_getElem? (i := 829) (by decide +kernel), List.mem_of_getElem? (i := 830) (by decide +kernel)⟩
theorem lw_p18 : lw_okq (⟨"CabTearsModel", "takesNumber", "(III)Z"⟩, 32) := ⟨⟨by decide +kernel, by decide +kernel⟩, List.mem_of_getElem? (i := 685) (by decide +kernel), List.mem_of_getElem? (i := 833) (by decide +kernel), List.mem_of_getElem? (i := 834) (by decide +kernel)⟩
theorem lw_p19 : lw_okq (⟨"CabTearsModel", "takesCab", "()Z"⟩, 32) := ⟨⟨by decide +kernel, by decide +kernel⟩, List.mem_of_getElem? (i := 685) (by decide +kernel), List.mem_of_getElem? (i := 839) (by decide +kernel), List.mem_of_getElem? (i := 840) (by decide +kernel)⟩
theorem lw_p20 : lw_okq (⟨"CabTearsModel", "takesFare", "()Z"⟩, 32) := ⟨⟨by decide +kernel, by decide +kernel⟩, List.mem_of_getElem? (i := 685) (by decide +kernel), List.mem_of_getElem? (i := 843) (by decide +kernel), List.mem_of_getElem? (i := 844) (by decide +kernel)⟩
theorem lw_p21 : lw_okq (⟨"CabTearsModel", "places", "()I"⟩, 32) := ⟨⟨by decide +kernel, by decide +kernel⟩, List.mem_of_getElem? (i := 685) (by decide +kernel), List.mem_of_getElem? (i := 851) (by decide +kernel), List.mem_of_getElem? (i := 852) (by decide +kernel)⟩
theorem lw_p22 : lw_okq (⟨"CabTearsModel", "isPlace", "(I)Z"⟩, 32) := ⟨⟨by decide +kernel, by decide +kernel⟩, List.mem_of_getElem? (i := 685) (by decide +kernel), List.mem_of_getElem? (i := 859) (by decide +kernel), List.mem_of_getElem? (i := 860) (by decide +kernel)⟩
theorem lw_p23 : lw_okq (⟨"CabTearsModel", "farOf", "(II)I"⟩, 32) := ⟨⟨by decide +kernel, by decide +kernel⟩, List.mem_of_getElem? (i := 685) (by decide +kernel), List.mem_of_getElem? (i := 863) (by decide +kernel), List.mem_of_getElem? (i := 864) (by decide +kernel)⟩
theorem lw_p24 : lw_okq (⟨"CabTearsModel", "isCab", "(I)Z"⟩, 32) := ⟨⟨by decide +kernel, by decide +kernel⟩, List.mem_of_getElem? (i := 685) (by decide +kernel), List.mem_of_getElem? (i := 871) (by decide +kernel), List.mem_of_getElem? (i := 872) (by decide +kernel)⟩
theorem lw_p25 : lw_okq (⟨"CabTearsModel", "isFare", "(I)Z"⟩, 32) := ⟨⟨by decide +kernel, by decide +kernel⟩, List.mem_of_getElem? (i := 685) (by decide +kernel), List.mem_of_getElem? (i := 879) (by decide +kernel), List.mem_of_getElem? (i := 880) (by decide +kernel)⟩
theorem lw_p26 : lw_okq (⟨"CabTearsModel", "minds", "()V"⟩, 32) := ⟨⟨by decide +kernel, by decide +kernel⟩, List.mem_of_getElem? (i := 685) (by decide +kernel), List.mem_of_getElem? (i := 890) (by decide +kernel), List.mem_of_getElem? (i := 891) (by decide +kernel)⟩
theorem lw_p27 : lw_okq (⟨"CabTearsModel", "copy", "(II)V"⟩, 32) := ⟨⟨by decide +kernel, by decide +kernel⟩, List.mem_of_getElem? (i := 685) (by decide +kernel), List.mem_of_getElem? (i := 894) (by decide +kernel), List.mem_of_getElem? (i := 895) (by decide +kernel)⟩
theorem lw_p28 : lw_okq (⟨"CabTearsModel", "ridesAsOneDoes", "(III)Z"⟩, 32) := ⟨⟨by decide +kernel, by decide +kernel⟩, List.mem_of_getElem? (i := 685) (by decide +kernel), List.mem_of_getElem? (i := 898) (by decide +kernel), List.mem_of_getElem? (i := 899) (by decide +kernel)⟩
theorem lw_p29 : lw_okq (⟨"CabTearsModel", "lateBy", "(III)I"⟩, 32) := ⟨⟨by decide +kernel, by decide +kernel⟩, List.mem_of_getElem? (i := 685) (by decide +kernel), List.mem_of_getElem? (i := 902) (by decide +kernel), List.mem_of_getElem? (i := 903) (by decide +kernel)⟩
theorem lw_p30 : lw_okq (⟨"CabTearsModel", "freeBy", "(III)I"⟩, 32) := ⟨⟨by decide +kernel, by decide +kernel⟩, List.mem_of_getElem? (i := 685) (by decide +kernel), List.mem_of_getElem? (i := 906) (by decide +kernel), List.mem_of_getElem? (i := 907) (by decide +kernel)⟩
theorem lw_p31 : lw_okq (⟨"CabTearsModel", "setsOut", "(II)I"⟩, 32) := ⟨⟨by decide +kernel, by decide +kernel⟩, List.mem_of_getElem? (i := 685) (by decide +kernel), List.mem_of_getElem? (i := 910) (by decide +kernel), List.mem_of_getElem? (i := 911) (by decide +kernel)⟩
def lw_privs_2 : List (MethodName × Nat) := [(⟨"CabTearsModel", "letterAt", "(I)I"⟩, 32), (⟨"CabTearsModel", "takesRows", "()Z"⟩, 32), (⟨"CabTearsModel", "takesNumber", "(III)Z"⟩, 32), (⟨"CabTearsModel", "takesCab", "()Z"⟩, 32), (⟨"CabTearsModel", "takesFare", "()Z"⟩, 32), (⟨"CabTearsModel", "places", "()I"⟩, 32), (⟨"CabTearsModel", "isPlace", "(I)Z"⟩, 32), (⟨"CabTearsModel", "farOf", "(II)I"⟩, 32), (⟨"CabTearsModel", "isCab", "(I)Z"⟩, 32), (⟨"CabTearsModel", "isFare", "(I)Z"⟩, 32), (⟨"CabTearsModel", "minds", "()V"⟩, 32), (⟨"CabTearsModel", "copy", "(II)V"⟩, 32), (⟨"CabTearsModel", "ridesAsOneDoes", "(III)Z"⟩, 32), (⟨"CabTearsModel", "lateBy", "(III)I"⟩, 32), (⟨"CabTearsModel", "freeBy", "(III)I"⟩, 32), (⟨"CabTearsModel", "setsOut", "(II)I"⟩, 32)]
theorem lw_r2 : ∀ q ∈ lw_privs_2, lw_okq q := List.forall_mem_cons.mpr ⟨lw_p16, List.forall_mem_cons.mpr ⟨lw_p17, List.forall_mem_cons.mpr ⟨lw_p18, List.forall_mem_cons.mpr ⟨lw_p19, List.forall_mem_cons.mpr ⟨lw_p20, List.forall_mem_cons.mpr ⟨lw_p21, List.forall_mem_cons.mpr ⟨lw_p22, List.forall_mem_cons.mpr ⟨lw_p23, List.forall_mem_cons.mpr ⟨lw_p24, List.forall_mem_cons.mpr ⟨lw_p25, List.forall_mem_cons.mpr ⟨lw_p26, List.forall_mem_cons.mpr ⟨lw_p27, List.forall_mem_cons.mpr ⟨lw_p28, List.forall_mem_cons.mpr ⟨lw_p29, List.forall_mem_cons.mpr ⟨lw_p30, List.forall_mem_cons.mpr ⟨lw_p31, fun _ h => absurd h List.not_mem_nil⟩⟩⟩⟩⟩⟩⟩⟩⟩⟩⟩⟩⟩⟩⟩⟩
theorem lw_p32 : lw_okq (⟨"CabTearsModel", "goesBy", "(III)Z"⟩, 32) := ⟨⟨by decide +kernel, by decide +kernel⟩, List.mem_of_getElem? (i := 685) (by decide +kernel), List.mem_of_getElem? (i := 914) (by decide +kernel), List.mem_of_getElem? (i := 915) (by decide +kernel)⟩
theorem lw_p33 : lw_okq (⟨"CabTearsModel", "weeps", "(II)Z"⟩, 32) := ⟨⟨by decide +kernel, by decide +kernel⟩, List.mem_of_getElem? (i := 685) (by decide +kernel), List.mem_of_getElem? (i := 918) (by decide +kernel), List.mem_of_getElem? (i := 919) (by decide +kernel)⟩
theorem lw_p34 : lw_okq (⟨"CabTearsModel", "rides", "(IIIZ)V"⟩, 32) := ⟨⟨by decide +kernel, by decide +kernel⟩, List.mem_of_getElem? (i := 685) (by decide +kernel), List.mem_of_getElem? (i := 922) (by decide +kernel), List.mem_of_getElem? (i := 923) (by decide +kernel)⟩
theorem lw_p35 : lw_okq (⟨"CabTearsModel", "sends", "(III)V"⟩, 32) := ⟨⟨by decide +kernel, by decide +kernel⟩, List.mem_of_getElem? (i := 685) (by decide +kernel), List.mem_of_getElem? (i := 930) (by decide +kernel), List.mem_of_getElem? (i := 931) (by decide +kernel)⟩
theorem lw_p36 : lw_okq (⟨"CabTearsModel", "soonestIn", "(II)I"⟩, 32) := ⟨⟨by decide +kernel, by decide +kernel⟩, List.mem_of_getElem? (i := 685) (by decide +kernel), List.mem_of_getElem? (i := 951) (by decide +kernel), List.mem_of_getElem? (i := 952) (by decide +kernel)⟩
theorem lw_p37 : lw_okq (⟨"CabTearsModel", "ordersRest", "()I"⟩, 32) := ⟨⟨by decide +kernel, by decide +kernel⟩, List.mem_of_getElem? (i := 685) (by decide +kernel), List.mem_of_getElem? (i := 960) (by decide +kernel), List.mem_of_getElem? (i := 961) (by decide +kernel)⟩
theorem lw_p38 : lw_okq (⟨"CabTearsModel", "rest", "()I"⟩, 32) := ⟨⟨by decide +kernel, by decide +kernel⟩, List.mem_of_getElem? (i := 685) (by decide +kernel), List.mem_of_getElem? (i := 964) (by decide +kernel), List.mem_of_getElem? (i := 965) (by decide +kernel)⟩
theorem lw_p39 : lw_okq (⟨"CabTearsModel", "tries", "()V"⟩, 32) := ⟨⟨by decide +kernel, by decide +kernel⟩, List.mem_of_getElem? (i := 685) (by decide +kernel), List.mem_of_getElem? (i := 976) (by decide +kernel), List.mem_of_getElem? (i := 977) (by decide +kernel)⟩
theorem lw_p40 : lw_okq (⟨"CabTearsModel", "laysDay", "(I)V"⟩, 32) := ⟨⟨by decide +kernel, by decide +kernel⟩, List.mem_of_getElem? (i := 685) (by decide +kernel), List.mem_of_getElem? (i := 984) (by decide +kernel), List.mem_of_getElem? (i := 985) (by decide +kernel)⟩
theorem lw_p41 : lw_okq (⟨"CabTearsModel", "areLike", "(II)Z"⟩, 32) := ⟨⟨by decide +kernel, by decide +kernel⟩, List.mem_of_getElem? (i := 685) (by decide +kernel), List.mem_of_getElem? (i := 988) (by decide +kernel), List.mem_of_getElem? (i := 989) (by decide +kernel)⟩
theorem lw_p42 : lw_okq (⟨"CabTearsModel", "weepBy", "(IIZ)I"⟩, 32) := ⟨⟨by decide +kernel, by decide +kernel⟩, List.mem_of_getElem? (i := 685) (by decide +kernel), List.mem_of_getElem? (i := 996) (by decide +kernel), List.mem_of_getElem? (i := 997) (by decide +kernel)⟩
theorem lw_p43 : lw_okq (⟨"CabTearsModel", "isSeen", "(I)Z"⟩, 32) := ⟨⟨by decide +kernel, by decide +kernel⟩, List.mem_of_getElem? (i := 685) (by decide +kernel), List.mem_of_getElem? (i := 1018) (by decide +kernel), List.mem_of_getElem? (i := 1019) (by decide +kernel)⟩
def lw_privs_3 : List (MethodName × Nat) := [(⟨"CabTearsModel", "goesBy", "(III)Z"⟩, 32), (⟨"CabTearsModel", "weeps", "(II)Z"⟩, 32), (⟨"CabTearsModel", "rides", "(IIIZ)V"⟩, 32), (⟨"CabTearsModel", "sends", "(III)V"⟩, 32), (⟨"CabTearsModel", "soonestIn", "(II)I"⟩, 32), (⟨"CabTearsModel", "ordersRest", "()I"⟩, 32), (⟨"CabTearsModel", "rest", "()I"⟩, 32), (⟨"CabTearsModel", "tries", "()V"⟩, 32), (⟨"CabTearsModel", "laysDay", "(I)V"⟩, 32), (⟨"CabTearsModel", "areLike", "(II)Z"⟩, 32), (⟨"CabTearsModel", "weepBy", "(IIZ)I"⟩, 32), (⟨"CabTearsModel", "isSeen", "(I)Z"⟩, 32)]
theorem lw_r3 : ∀ q ∈ lw_privs_3, lw_okq q := List.forall_mem_cons.mpr ⟨lw_p32, List.forall_mem_cons.mpr ⟨lw_p33, List.forall_mem_cons.mpr ⟨lw_p34, List.forall_mem_cons.mpr ⟨lw_p35, List.forall_mem_cons.mpr ⟨lw_p36, List.forall_mem_cons.mpr ⟨lw_p37, List.forall_mem_cons.mpr ⟨lw_p38, List.forall_mem_cons.mpr ⟨lw_p39, List.forall_mem_cons.mpr ⟨lw_p40, List.forall_mem_cons.mpr ⟨lw_p41, List.forall_mem_cons.mpr ⟨lw_p42, List.forall_mem_cons.mpr ⟨lw_p43, fun _ h => absurd h List.not_mem_nil⟩⟩⟩⟩⟩⟩⟩⟩⟩⟩⟩⟩
def lw_privs : List (MethodName × Nat) := lw_privs_1 ++ (lw_privs_2 ++ (lw_privs_3))
def lw_tbl : List Cond := k2_sels lw_privs ++ tables_1
theorem lw_privs_ok : ∀ q ∈ lw_privs, lw_okq q := by
  show ∀ q ∈ lw_privs_1 ++ (lw_privs_2 ++ (lw_privs_3)), lw_okq q
  exact List.forall_mem_append.mpr ⟨lw_r1, List.forall_mem_append.mpr ⟨lw_r2, lw_r3⟩⟩
-- ===== end of PART A; then your names; then what follows =====
end
section
/-! ===== BEGIN printed: names, fields, word lists, decode rows ===== -/
def RX0 : String := "CabTears$City"
def TX0 : u_T := fun k => match k with
  | 0 => ("CabTears$City", "rows", "I", false)
  | 1 => ("CabTears$City", "columns", "I", false)
  | 2 => ("CabTears$City", "cabs", "I", false)
  | 3 => ("CabTears$City", "fares", "I", false)
  | 4 => ("CabTears$City", "cabKind", "[I", true)
  | 5 => ("CabTears$City", "cabPlace", "[I", true)
  | 6 => ("CabTears$City", "cabWeptIn", "[I", true)
  | 7 => ("CabTears$City", "fareKind", "[I", true)
  | 8 => ("CabTears$City", "from", "[I", true)
  | 9 => ("CabTears$City", "to", "[I", true)
  | 10 => ("CabTears$City", "since", "[I", true)
  | 11 => ("CabTears$City", "bears", "[I", true)
  | _ => ("CabTears$City", "trip", "LCabTears$Trip;", true)
def tyX0 : Nat → FieldType := fun k => match k with
  | 0 => .int
  | 1 => .int
  | 2 => .int
  | 3 => .int
  | 4 => .array .int
  | 5 => .array .int
  | 6 => .array .int
  | 7 => .array .int
  | 8 => .array .int
  | 9 => .array .int
  | 10 => .array .int
  | 11 => .array .int
  | _ => .object "CabTears$Trip"
abbrev wsX00 : List Cond := u_ws RX0 TX0 13
theorem nmX0 : ∀ a, a < 13 → ∀ b, b < 13 → a ≠ b → (TX0 a).2.1 ≠ (TX0 b).2.1 := by decide +kernel
theorem tyX0_ok : ∀ k, k < 13 → parseFieldDescriptor (TX0 k).2.2.1 = some (tyX0 k) := by decide +kernel
abbrev cX0_init : ByteArray := prog_2_method_1_code
def yX0_init : MethodName := ⟨RX0, "<init>", "()V"⟩
abbrev cX0_clear : ByteArray := prog_2_method_2_code
def yX0_clear : MethodName := ⟨RX0, "clear", "()V"⟩
abbrev cX0_build : ByteArray := prog_2_method_3_code
def yX0_build : MethodName := ⟨RX0, "build", "(II)Z"⟩
abbrev cX0_addCab : ByteArray := prog_2_method_4_code
def yX0_addCab : MethodName := ⟨RX0, "addCab", "(III)Z"⟩
abbrev cX0_addFare : ByteArray := prog_2_method_5_code
def yX0_addFare : MethodName := ⟨RX0, "addFare", "([I)Z"⟩
abbrev cX0_places : ByteArray := prog_2_method_6_code
def yX0_places : MethodName := ⟨RX0, "places", "()I"⟩
abbrev cX0_hasPlace : ByteArray := prog_2_method_7_code
def yX0_hasPlace : MethodName := ⟨RX0, "hasPlace", "(I)Z"⟩
abbrev cX0_hasCab : ByteArray := prog_2_method_8_code
def yX0_hasCab : MethodName := ⟨RX0, "hasCab", "(I)Z"⟩
abbrev cX0_hasFare : ByteArray := prog_2_method_9_code
def yX0_hasFare : MethodName := ⟨RX0, "hasFare", "(I)Z"⟩
abbrev cX0_steps : ByteArray := prog_2_method_10_code
def yX0_steps : MethodName := ⟨RX0, "steps", "(II)I"⟩
abbrev cX0_reckon : ByteArray := prog_2_method_11_code
def yX0_reckon : MethodName := ⟨RX0, "reckon", "(LCabTears$Stand;II)V"⟩
abbrev cX0_reckonAs : ByteArray := prog_2_method_12_code
def yX0_reckonAs : MethodName := ⟨RX0, "reckonAs", "(LCabTears$Stand;IIII)V"⟩
abbrev cX0_nearest : ByteArray := prog_2_method_13_code
def yX0_nearest : MethodName := ⟨RX0, "nearest", "(LCabTears$Stand;I)I"⟩
abbrev cX0_settle : ByteArray := prog_2_method_14_code
def yX0_settle : MethodName := ⟨RX0, "settle", "(LCabTears$Stand;IIZ)V"⟩
abbrev cX0_drive : ByteArray := prog_2_method_15_code
def yX0_drive : MethodName := ⟨RX0, "drive", "(LCabTears$Stand;II)Z"⟩
abbrev cX0_driveSoonest : ByteArray := prog_2_method_16_code
def yX0_driveSoonest : MethodName := ⟨RX0, "driveSoonest", "(LCabTears$Stand;I)Z"⟩
abbrev cX0_move : ByteArray := prog_2_method_17_code
def yX0_move : MethodName := ⟨RX0, "move", "(LCabTears$Stand;II)V"⟩
def RX1 : String := "CabTears$Duel"
def TX1 : u_T := fun k => match k with
  | 0 => ("CabTears$Duel", "stands", "[LCabTears$Stand;", true)
  | 1 => ("CabTears$Duel", "first", "I", false)
  | 2 => ("CabTears$Duel", "second", "I", false)
  | 3 => ("CabTears$Duel", "turns", "I", false)
  | 4 => ("CabTears$Duel", "outcome", "I", false)
  | _ => ("CabTears$Duel", "opening", "I", false)
def tyX1 : Nat → FieldType := fun k => match k with
  | 0 => .array (.object "CabTears$Stand")
  | 1 => .int
  | 2 => .int
  | 3 => .int
  | 4 => .int
  | _ => .int
abbrev wsX10 : List Cond := u_ws RX1 TX1 6
theorem nmX1 : ∀ a, a < 6 → ∀ b, b < 6 → a ≠ b → (TX1 a).2.1 ≠ (TX1 b).2.1 := by decide +kernel
theorem tyX1_ok : ∀ k, k < 6 → parseFieldDescriptor (TX1 k).2.2.1 = some (tyX1 k) := by decide +kernel
abbrev cX1_init : ByteArray := prog_3_method_1_code
def yX1_init : MethodName := ⟨RX1, "<init>", "()V"⟩
abbrev cX1_fight : ByteArray := prog_3_method_2_code
def yX1_fight : MethodName := ⟨RX1, "fight", "(LCabTears$City;LCabTears$Stand;III)V"⟩
abbrev cX1_play : ByteArray := prog_3_method_3_code
def yX1_play : MethodName := ⟨RX1, "play", "(LCabTears$Duel;LCabTears$City;I)I"⟩
def RX2 : String := "CabTears$Orders"
def TX2 : u_T := fun k => match k with
  | 0 => ("CabTears$Orders", "stands", "[LCabTears$Stand;", true)
  | 1 => ("CabTears$Orders", "tried", "[I", true)
  | 2 => ("CabTears$Orders", "best", "[I", true)
  | 3 => ("CabTears$Orders", "length", "I", false)
  | _ => ("CabTears$Orders", "fewest", "I", false)
def tyX2 : Nat → FieldType := fun k => match k with
  | 0 => .array (.object "CabTears$Stand")
  | 1 => .array .int
  | 2 => .array .int
  | 3 => .int
  | _ => .int
abbrev wsX20 : List Cond := u_ws RX2 TX2 5
theorem nmX2 : ∀ a, a < 5 → ∀ b, b < 5 → a ≠ b → (TX2 a).2.1 ≠ (TX2 b).2.1 := by decide +kernel
theorem tyX2_ok : ∀ k, k < 5 → parseFieldDescriptor (TX2 k).2.2.1 = some (tyX2 k) := by decide +kernel
abbrev cX2_init : ByteArray := prog_4_method_1_code
def yX2_init : MethodName := ⟨RX2, "<init>", "()V"⟩
abbrev cX2_search : ByteArray := prog_4_method_2_code
def yX2_search : MethodName := ⟨RX2, "search", "(LCabTears$City;LCabTears$Stand;)V"⟩
abbrev cX2_extend : ByteArray := prog_4_method_3_code
def yX2_extend : MethodName := ⟨RX2, "extend", "(LCabTears$Orders;LCabTears$City;II)V"⟩
abbrev cX2_keepIfFewer : ByteArray := prog_4_method_4_code
def yX2_keepIfFewer : MethodName := ⟨RX2, "keepIfFewer", "(I)V"⟩
def RX3 : String := "CabTears$Seen"
def TX3 : u_T := fun k => match k with
  | 0 => ("CabTears$Seen", "cab", "[I", true)
  | 1 => ("CabTears$Seen", "fare", "[I", true)
  | 2 => ("CabTears$Seen", "step", "[I", true)
  | _ => ("CabTears$Seen", "held", "I", false)
def tyX3 : Nat → FieldType := fun k => match k with
  | 0 => .array .int
  | 1 => .array .int
  | 2 => .array .int
  | _ => .int
abbrev wsX30 : List Cond := u_ws RX3 TX3 4
theorem nmX3 : ∀ a, a < 4 → ∀ b, b < 4 → a ≠ b → (TX3 a).2.1 ≠ (TX3 b).2.1 := by decide +kernel
theorem tyX3_ok : ∀ k, k < 4 → parseFieldDescriptor (TX3 k).2.2.1 = some (tyX3 k) := by decide +kernel
abbrev cX3_init : ByteArray := prog_5_method_1_code
def yX3_init : MethodName := ⟨RX3, "<init>", "()V"⟩
abbrev cX3_add : ByteArray := prog_5_method_2_code
def yX3_add : MethodName := ⟨RX3, "add", "(III)Z"⟩
def RX4 : String := "CabTears$Shelf"
def TX4 : u_T := fun k => match k with
  | 0 => ("CabTears$Shelf", "stands", "[LCabTears$Stand;", true)
  | 1 => ("CabTears$Shelf", "top", "I", false)
  | _ => ("CabTears$Shelf", "held", "I", false)
def tyX4 : Nat → FieldType := fun k => match k with
  | 0 => .array (.object "CabTears$Stand")
  | 1 => .int
  | _ => .int
abbrev wsX40 : List Cond := u_ws RX4 TX4 3
theorem nmX4 : ∀ a, a < 3 → ∀ b, b < 3 → a ≠ b → (TX4 a).2.1 ≠ (TX4 b).2.1 := by decide +kernel
theorem tyX4_ok : ∀ k, k < 3 → parseFieldDescriptor (TX4 k).2.2.1 = some (tyX4 k) := by decide +kernel
abbrev cX4_init : ByteArray := prog_6_method_1_code
def yX4_init : MethodName := ⟨RX4, "<init>", "(I)V"⟩
abbrev cX4_put : ByteArray := prog_6_method_2_code
def yX4_put : MethodName := ⟨RX4, "put", "(LCabTears$Stand;)V"⟩
abbrev cX4_giveBack : ByteArray := prog_6_method_3_code
def yX4_giveBack : MethodName := ⟨RX4, "giveBack", "(LCabTears$Stand;)Z"⟩
def RX5 : String := "CabTears$Stand"
def TX5 : u_T := fun k => match k with
  | 0 => ("CabTears$Stand", "now", "I", false)
  | 1 => ("CabTears$Stand", "place", "[I", true)
  | 2 => ("CabTears$Stand", "free", "[I", true)
  | 3 => ("CabTears$Stand", "weptIn", "[I", true)
  | 4 => ("CabTears$Stand", "late", "[I", true)
  | _ => ("CabTears$Stand", "tears", "[I", true)
def tyX5 : Nat → FieldType := fun k => match k with
  | 0 => .int
  | 1 => .array .int
  | 2 => .array .int
  | 3 => .array .int
  | 4 => .array .int
  | _ => .array .int
abbrev wsX50 : List Cond := u_ws RX5 TX5 6
theorem nmX5 : ∀ a, a < 6 → ∀ b, b < 6 → a ≠ b → (TX5 a).2.1 ≠ (TX5 b).2.1 := by decide +kernel
theorem tyX5_ok : ∀ k, k < 6 → parseFieldDescriptor (TX5 k).2.2.1 = some (tyX5 k) := by decide +kernel
abbrev cX5_init : ByteArray := prog_7_method_1_code
def yX5_init : MethodName := ⟨RX5, "<init>", "()V"⟩
abbrev cX5_begin : ByteArray := prog_7_method_2_code
def yX5_begin : MethodName := ⟨RX5, "begin", "(LCabTears$City;)V"⟩
abbrev cX5_dawn : ByteArray := prog_7_method_3_code
def yX5_dawn : MethodName := ⟨RX5, "dawn", "()V"⟩
abbrev cX5_isTaken : ByteArray := prog_7_method_4_code
def yX5_isTaken : MethodName := ⟨RX5, "isTaken", "(I)Z"⟩
abbrev cX5_copy : ByteArray := prog_7_method_5_code
def yX5_copy : MethodName := ⟨RX5, "copy", "(LCabTears$Stand;)V"⟩
abbrev cX5_cabsAsNumber : ByteArray := prog_7_method_6_code
def yX5_cabsAsNumber : MethodName := ⟨RX5, "cabsAsNumber", "()J"⟩
def RX6 : String := "CabTears$Text"
def TX6 : u_T := fun k => match k with
  | 0 => ("CabTears$Text", "letters", "[C", true)
  | 1 => ("CabTears$Text", "length", "I", false)
  | 2 => ("CabTears$Text", "numbers", "[I", true)
  | _ => ("CabTears$Text", "told", "I", false)
def tyX6 : Nat → FieldType := fun k => match k with
  | 0 => .array .char
  | 1 => .int
  | 2 => .array .int
  | _ => .int
abbrev wsX60 : List Cond := u_ws RX6 TX6 4
theorem nmX6 : ∀ a, a < 4 → ∀ b, b < 4 → a ≠ b → (TX6 a).2.1 ≠ (TX6 b).2.1 := by decide +kernel
theorem tyX6_ok : ∀ k, k < 4 → parseFieldDescriptor (TX6 k).2.2.1 = some (tyX6 k) := by decide +kernel
abbrev cX6_init : ByteArray := prog_8_method_1_code
def yX6_init : MethodName := ⟨RX6, "<init>", "()V"⟩
abbrev cX6_add : ByteArray := prog_8_method_2_code
def yX6_add : MethodName := ⟨RX6, "add", "(C)Z"⟩
abbrev cX6_readInto : ByteArray := prog_8_method_3_code
def yX6_readInto : MethodName := ⟨RX6, "readInto", "(LCabTears$City;)I"⟩
abbrev cX6_readNumbers : ByteArray := prog_8_method_4_code
def yX6_readNumbers : MethodName := ⟨RX6, "readNumbers", "(II)Z"⟩
abbrev cX6_tell : ByteArray := prog_8_method_5_code
def yX6_tell : MethodName := ⟨RX6, "tell", "(LCabTears$City;C)Z"⟩
def RX7 : String := "CabTears$Trip"
def TX7 : u_T := fun k => match k with
  | 0 => ("CabTears$Trip", "free", "I", false)
  | 1 => ("CabTears$Trip", "late", "I", false)
  | 2 => ("CabTears$Trip", "weeps", "Z", false)
  | _ => ("CabTears$Trip", "by", "Z", false)
def tyX7 : Nat → FieldType := fun k => match k with
  | 0 => .int
  | 1 => .int
  | 2 => .boolean
  | _ => .boolean
abbrev wsX70 : List Cond := u_ws RX7 TX7 4
theorem nmX7 : ∀ a, a < 4 → ∀ b, b < 4 → a ≠ b → (TX7 a).2.1 ≠ (TX7 b).2.1 := by decide +kernel
theorem tyX7_ok : ∀ k, k < 4 → parseFieldDescriptor (TX7 k).2.2.1 = some (tyX7 k) := by decide +kernel
abbrev cX7_init : ByteArray := prog_9_method_1_code
def yX7_init : MethodName := ⟨RX7, "<init>", "()V"⟩
def RX8 : String := "CabTears"
def TX8 : u_T := fun k => match k with
  | 0 => ("CabTears", "text", "LCabTears$Text;", true)
  | 1 => ("CabTears", "city", "LCabTears$City;", true)
  | 2 => ("CabTears", "draft", "LCabTears$City;", true)
  | 3 => ("CabTears", "stand", "LCabTears$Stand;", true)
  | 4 => ("CabTears", "trial", "LCabTears$Stand;", true)
  | 5 => ("CabTears", "done", "LCabTears$Shelf;", true)
  | 6 => ("CabTears", "kept", "LCabTears$Shelf;", true)
  | 7 => ("CabTears", "seen", "LCabTears$Seen;", true)
  | 8 => ("CabTears", "orders", "LCabTears$Orders;", true)
  | 9 => ("CabTears", "duel", "LCabTears$Duel;", true)
  | _ => ("CabTears", "days", "[J", true)
def tyX8 : Nat → FieldType := fun k => match k with
  | 0 => .object "CabTears$Text"
  | 1 => .object "CabTears$City"
  | 2 => .object "CabTears$City"
  | 3 => .object "CabTears$Stand"
  | 4 => .object "CabTears$Stand"
  | 5 => .object "CabTears$Shelf"
  | 6 => .object "CabTears$Shelf"
  | 7 => .object "CabTears$Seen"
  | 8 => .object "CabTears$Orders"
  | 9 => .object "CabTears$Duel"
  | _ => .array .long
abbrev wsX80 : List Cond := u_ws RX8 TX8 11
theorem nmX8 : ∀ a, a < 11 → ∀ b, b < 11 → a ≠ b → (TX8 a).2.1 ≠ (TX8 b).2.1 := by decide +kernel
theorem tyX8_ok : ∀ k, k < 11 → parseFieldDescriptor (TX8 k).2.2.1 = some (tyX8 k) := by decide +kernel
abbrev cX8_init : ByteArray := prog_1_method_1_code
def yX8_init : MethodName := ⟨RX8, "<init>", "()V"⟩
abbrev cX8_write : ByteArray := prog_1_method_2_code
def yX8_write : MethodName := ⟨RX8, "write", "(I)I"⟩
abbrev cX8_wipe : ByteArray := prog_1_method_3_code
def yX8_wipe : MethodName := ⟨RX8, "wipe", "()I"⟩
abbrev cX8_fault : ByteArray := prog_1_method_4_code
def yX8_fault : MethodName := ⟨RX8, "fault", "()I"⟩
abbrev cX8_lay : ByteArray := prog_1_method_5_code
def yX8_lay : MethodName := ⟨RX8, "lay", "()I"⟩
abbrev cX8_far : ByteArray := prog_1_method_6_code
def yX8_far : MethodName := ⟨RX8, "far", "(II)I"⟩
abbrev cX8_cab : ByteArray := prog_1_method_7_code
def yX8_cab : MethodName := ⟨RX8, "cab", "(II)I"⟩
abbrev cX8_fare : ByteArray := prog_1_method_8_code
def yX8_fare : MethodName := ⟨RX8, "fare", "(II)I"⟩
abbrev cX8_take : ByteArray := prog_1_method_9_code
def yX8_take : MethodName := ⟨RX8, "take", "(II)I"⟩
abbrev cX8_send : ByteArray := prog_1_method_10_code
def yX8_send : MethodName := ⟨RX8, "send", "(II)I"⟩
abbrev cX8_pass : ByteArray := prog_1_method_11_code
def yX8_pass : MethodName := ⟨RX8, "pass", "(I)I"⟩
abbrev cX8_undo : ByteArray := prog_1_method_12_code
def yX8_undo : MethodName := ⟨RX8, "undo", "()I"⟩
abbrev cX8_ride : ByteArray := prog_1_method_13_code
def yX8_ride : MethodName := ⟨RX8, "ride", "(III)I"⟩
abbrev cX8_soonest : ByteArray := prog_1_method_14_code
def yX8_soonest : MethodName := ⟨RX8, "soonest", "(I)I"⟩
abbrev cX8_order : ByteArray := prog_1_method_15_code
def yX8_order : MethodName := ⟨RX8, "order", "(I)I"⟩
abbrev cX8_waiting : ByteArray := prog_1_method_16_code
def yX8_waiting : MethodName := ⟨RX8, "waiting", "(II)I"⟩
abbrev cX8_round : ByteArray := prog_1_method_17_code
def yX8_round : MethodName := ⟨RX8, "round", "(I)I"⟩
abbrev cX8_mends : ByteArray := prog_1_method_18_code
def yX8_mends : MethodName := ⟨RX8, "mends", "(I)I"⟩
abbrev cX8_rivals : ByteArray := prog_1_method_19_code
def yX8_rivals : MethodName := ⟨RX8, "rivals", "(IIII)I"⟩
abbrev cX8_see : ByteArray := prog_1_method_20_code
def yX8_see : MethodName := ⟨RX8, "see", "(III)I"⟩
abbrev cX8_forget : ByteArray := prog_1_method_21_code
def yX8_forget : MethodName := ⟨RX8, "forget", "()I"⟩
abbrev cX8_wept : ByteArray := prog_1_method_22_code
def yX8_wept : MethodName := ⟨RX8, "wept", "(II)I"⟩
abbrev cX8_kinds : ByteArray := prog_1_method_23_code
def yX8_kinds : MethodName := ⟨RX8, "kinds", "(I)I"⟩
abbrev cX8_tears : ByteArray := prog_1_method_24_code
def yX8_tears : MethodName := ⟨RX8, "tears", "(III)I"⟩
abbrev cX8_year : ByteArray := prog_1_method_25_code
def yX8_year : MethodName := ⟨RX8, "year", "(III)I"⟩
abbrev cX8_keep : ByteArray := prog_1_method_26_code
def yX8_keep : MethodName := ⟨RX8, "keep", "()I"⟩
abbrev cX8_back : ByteArray := prog_1_method_27_code
def yX8_back : MethodName := ⟨RX8, "back", "()I"⟩
abbrev cX8_count : ByteArray := prog_1_method_28_code
def yX8_count : MethodName := ⟨RX8, "count", "(I)I"⟩
abbrev cX8_within : ByteArray := prog_1_method_29_code
def yX8_within : MethodName := ⟨RX8, "within", "(III)Z"⟩
abbrev cX8_begin : ByteArray := prog_1_method_30_code
def yX8_begin : MethodName := ⟨RX8, "begin", "()V"⟩
abbrev cX8_restOf : ByteArray := prog_1_method_31_code
def yX8_restOf : MethodName := ⟨RX8, "restOf", "(LCabTears$City;LCabTears$Stand;)I"⟩
abbrev cX8_howManyWept : ByteArray := prog_1_method_32_code
def yX8_howManyWept : MethodName := ⟨RX8, "howManyWept", "()I"⟩
abbrev cX8_lateFrom : ByteArray := prog_1_method_33_code
def yX8_lateFrom : MethodName := ⟨RX8, "lateFrom", "(II)I"⟩
abbrev cX8_liveOneDay : ByteArray := prog_1_method_34_code
def yX8_liveOneDay : MethodName := ⟨RX8, "liveOneDay", "()V"⟩
abbrev cX8_dayLike : ByteArray := prog_1_method_35_code
def yX8_dayLike : MethodName := ⟨RX8, "dayLike", "(I)I"⟩
abbrev cX8_tearsOfOthers : ByteArray := prog_1_method_36_code
def yX8_tearsOfOthers : MethodName := ⟨RX8, "tearsOfOthers", "(I)I"⟩
abbrev cX8_fitsSeen : ByteArray := prog_1_method_37_code
def yX8_fitsSeen : MethodName := ⟨RX8, "fitsSeen", "(III)Z"⟩
abbrev cX8_lateAmong : ByteArray := prog_1_method_38_code
def yX8_lateAmong : MethodName := ⟨RX8, "lateAmong", "(I)I"⟩
abbrev cX8_drawn : ByteArray := prog_1_method_39_code
def yX8_drawn : MethodName := ⟨RX8, "drawn", "(II)I"⟩
abbrev cX8_power : ByteArray := prog_1_method_40_code
def yX8_power : MethodName := ⟨RX8, "power", "(II)I"⟩
abbrev cX8_commonDivisor : ByteArray := prog_1_method_41_code
def yX8_commonDivisor : MethodName := ⟨RX8, "commonDivisor", "(II)I"⟩
def RX9 : String := "CabTearsModel"
def TX9 : u_T := fun k => match k with
  | 0 => ("CabTearsModel", "w", "[I", true)
  | 1 => ("CabTearsModel", "undoes", "I", false)
  | 2 => ("CabTearsModel", "kept", "I", false)
  | 3 => ("CabTearsModel", "inRows", "I", false)
  | 4 => ("CabTearsModel", "columns", "I", false)
  | 5 => ("CabTearsModel", "cabs", "I", false)
  | 6 => ("CabTearsModel", "cabKind", "[I", true)
  | 7 => ("CabTearsModel", "fares", "I", false)
  | 8 => ("CabTearsModel", "fareKind", "[I", true)
  | 9 => ("CabTearsModel", "fareFrom", "[I", true)
  | 10 => ("CabTearsModel", "fareTo", "[I", true)
  | 11 => ("CabTearsModel", "fareWhen", "[I", true)
  | 12 => ("CabTearsModel", "bears", "[I", true)
  | 13 => ("CabTearsModel", "seen", "I", false)
  | 14 => ("CabTearsModel", "seenCab", "[I", true)
  | 15 => ("CabTearsModel", "seenFare", "[I", true)
  | 16 => ("CabTearsModel", "seenStep", "[I", true)
  | 17 => ("CabTearsModel", "text", "[I", true)
  | 18 => ("CabTearsModel", "texted", "I", false)
  | 19 => ("CabTearsModel", "place", "I", false)
  | 20 => ("CabTearsModel", "number", "I", false)
  | 21 => ("CabTearsModel", "readRows", "I", false)
  | 22 => ("CabTearsModel", "readColumns", "I", false)
  | 23 => ("CabTearsModel", "readCabs", "I", false)
  | 24 => ("CabTearsModel", "readCab", "[I", true)
  | 25 => ("CabTearsModel", "readFares", "I", false)
  | 26 => ("CabTearsModel", "readFare", "[I", true)
  | 27 => ("CabTearsModel", "tried", "[I", true)
  | 28 => ("CabTearsModel", "weptBy", "[I", true)
  | 29 => ("CabTearsModel", "bestOrder", "[I", true)
  | 30 => ("CabTearsModel", "days", "[I", true)
  | _ => ("CabTearsModel", "values", "[I", true)
def tyX9 : Nat → FieldType := fun k => match k with
  | 0 => .array .int
  | 1 => .int
  | 2 => .int
  | 3 => .int
  | 4 => .int
  | 5 => .int
  | 6 => .array .int
  | 7 => .int
  | 8 => .array .int
  | 9 => .array .int
  | 10 => .array .int
  | 11 => .array .int
  | 12 => .array .int
  | 13 => .int
  | 14 => .array .int
  | 15 => .array .int
  | 16 => .array .int
  | 17 => .array .int
  | 18 => .int
  | 19 => .int
  | 20 => .int
  | 21 => .int
  | 22 => .int
  | 23 => .int
  | 24 => .array .int
  | 25 => .int
  | 26 => .array .int
  | 27 => .array .int
  | 28 => .array .int
  | 29 => .array .int
  | 30 => .array .int
  | _ => .array .int
abbrev wsX90 : List Cond := u_ws RX9 TX9 32
theorem nmX9 : ∀ a, a < 32 → ∀ b, b < 32 → a ≠ b → (TX9 a).2.1 ≠ (TX9 b).2.1 := by decide +kernel
theorem tyX9_ok : ∀ k, k < 32 → parseFieldDescriptor (TX9 k).2.2.1 = some (tyX9 k) := by decide +kernel
abbrev cX9_init : ByteArray := prog_11_method_1_code
def yX9_init : MethodName := ⟨RX9, "<init>", "()V"⟩
abbrev cX9_in : ByteArray := prog_11_method_3_code
def yX9_in : MethodName := ⟨RX9, "in", "(JJJ)Z"⟩
abbrev cX9_has : ByteArray := prog_11_method_4_code
def yX9_has : MethodName := ⟨RX9, "has", "(II)Z"⟩
abbrev cX9_ones : ByteArray := prog_11_method_5_code
def yX9_ones : MethodName := ⟨RX9, "ones", "(I)I"⟩
abbrev cX9_copy : ByteArray := prog_11_method_6_code
def yX9_copy : MethodName := ⟨RX9, "copy", "(II)V"⟩
abbrev cX9_places : ByteArray := prog_11_method_7_code
def yX9_places : MethodName := ⟨RX9, "places", "()I"⟩
abbrev cX9_isPlace : ByteArray := prog_11_method_8_code
def yX9_isPlace : MethodName := ⟨RX9, "isPlace", "(I)Z"⟩
abbrev cX9_isCab : ByteArray := prog_11_method_9_code
def yX9_isCab : MethodName := ⟨RX9, "isCab", "(I)Z"⟩
abbrev cX9_isFare : ByteArray := prog_11_method_10_code
def yX9_isFare : MethodName := ⟨RX9, "isFare", "(I)Z"⟩
abbrev cX9_addsCab : ByteArray := prog_11_method_11_code
def yX9_addsCab : MethodName := ⟨RX9, "addsCab", "(III)V"⟩
abbrev cX9_addsFare : ByteArray := prog_11_method_12_code
def yX9_addsFare : MethodName := ⟨RX9, "addsFare", "(IIIII)V"⟩
abbrev cX9_begins : ByteArray := prog_11_method_13_code
def yX9_begins : MethodName := ⟨RX9, "begins", "()V"⟩
abbrev cX9_write : ByteArray := prog_11_method_14_code
def yX9_write : MethodName := ⟨RX9, "write", "(I)I"⟩
abbrev cX9_wipe : ByteArray := prog_11_method_15_code
def yX9_wipe : MethodName := ⟨RX9, "wipe", "()I"⟩
abbrev cX9_letterAt : ByteArray := prog_11_method_16_code
def yX9_letterAt : MethodName := ⟨RX9, "letterAt", "(I)I"⟩
abbrev cX9_takesNumber : ByteArray := prog_11_method_17_code
def yX9_takesNumber : MethodName := ⟨RX9, "takesNumber", "(III)Z"⟩
abbrev cX9_takesRows : ByteArray := prog_11_method_18_code
def yX9_takesRows : MethodName := ⟨RX9, "takesRows", "()Z"⟩
abbrev cX9_takesCab : ByteArray := prog_11_method_19_code
def yX9_takesCab : MethodName := ⟨RX9, "takesCab", "()Z"⟩
abbrev cX9_takesFare : ByteArray := prog_11_method_20_code
def yX9_takesFare : MethodName := ⟨RX9, "takesFare", "()Z"⟩
abbrev cX9_takesItem : ByteArray := prog_11_method_21_code
def yX9_takesItem : MethodName := ⟨RX9, "takesItem", "()Z"⟩
abbrev cX9_faultOf : ByteArray := prog_11_method_22_code
def yX9_faultOf : MethodName := ⟨RX9, "faultOf", "()I"⟩
abbrev cX9_fault : ByteArray := prog_11_method_23_code
def yX9_fault : MethodName := ⟨RX9, "fault", "()I"⟩
abbrev cX9_lay : ByteArray := prog_11_method_24_code
def yX9_lay : MethodName := ⟨RX9, "lay", "()I"⟩
abbrev cX9_farOf : ByteArray := prog_11_method_25_code
def yX9_farOf : MethodName := ⟨RX9, "farOf", "(II)I"⟩
abbrev cX9_far : ByteArray := prog_11_method_26_code
def yX9_far : MethodName := ⟨RX9, "far", "(II)I"⟩
abbrev cX9_cab : ByteArray := prog_11_method_27_code
def yX9_cab : MethodName := ⟨RX9, "cab", "(II)I"⟩
abbrev cX9_fare : ByteArray := prog_11_method_28_code
def yX9_fare : MethodName := ⟨RX9, "fare", "(II)I"⟩
abbrev cX9_goesBy : ByteArray := prog_11_method_29_code
def yX9_goesBy : MethodName := ⟨RX9, "goesBy", "(III)Z"⟩
abbrev cX9_setsOut : ByteArray := prog_11_method_30_code
def yX9_setsOut : MethodName := ⟨RX9, "setsOut", "(II)I"⟩
abbrev cX9_freeBy : ByteArray := prog_11_method_31_code
def yX9_freeBy : MethodName := ⟨RX9, "freeBy", "(III)I"⟩
abbrev cX9_lateBy : ByteArray := prog_11_method_32_code
def yX9_lateBy : MethodName := ⟨RX9, "lateBy", "(III)I"⟩
abbrev cX9_weeps : ByteArray := prog_11_method_33_code
def yX9_weeps : MethodName := ⟨RX9, "weeps", "(II)Z"⟩
abbrev cX9_rides : ByteArray := prog_11_method_34_code
def yX9_rides : MethodName := ⟨RX9, "rides", "(IIIZ)V"⟩
abbrev cX9_ridesAsOneDoes : ByteArray := prog_11_method_35_code
def yX9_ridesAsOneDoes : MethodName := ⟨RX9, "ridesAsOneDoes", "(III)Z"⟩
abbrev cX9_soonestIn : ByteArray := prog_11_method_36_code
def yX9_soonestIn : MethodName := ⟨RX9, "soonestIn", "(II)I"⟩
abbrev cX9_minds : ByteArray := prog_11_method_37_code
def yX9_minds : MethodName := ⟨RX9, "minds", "()V"⟩
abbrev cX9_take : ByteArray := prog_11_method_38_code
def yX9_take : MethodName := ⟨RX9, "take", "(II)I"⟩
abbrev cX9_sends : ByteArray := prog_11_method_39_code
def yX9_sends : MethodName := ⟨RX9, "sends", "(III)V"⟩
abbrev cX9_send : ByteArray := prog_11_method_40_code
def yX9_send : MethodName := ⟨RX9, "send", "(II)I"⟩
abbrev cX9_pass : ByteArray := prog_11_method_41_code
def yX9_pass : MethodName := ⟨RX9, "pass", "(I)I"⟩
abbrev cX9_undo : ByteArray := prog_11_method_42_code
def yX9_undo : MethodName := ⟨RX9, "undo", "()I"⟩
abbrev cX9_tries : ByteArray := prog_11_method_43_code
def yX9_tries : MethodName := ⟨RX9, "tries", "()V"⟩
abbrev cX9_ride : ByteArray := prog_11_method_44_code
def yX9_ride : MethodName := ⟨RX9, "ride", "(III)I"⟩
abbrev cX9_soonest : ByteArray := prog_11_method_45_code
def yX9_soonest : MethodName := ⟨RX9, "soonest", "(I)I"⟩
abbrev cX9_rest : ByteArray := prog_11_method_46_code
def yX9_rest : MethodName := ⟨RX9, "rest", "()I"⟩
abbrev cX9_ordersRest : ByteArray := prog_11_method_47_code
def yX9_ordersRest : MethodName := ⟨RX9, "ordersRest", "()I"⟩
abbrev cX9_order : ByteArray := prog_11_method_48_code
def yX9_order : MethodName := ⟨RX9, "order", "(I)I"⟩
abbrev cX9_waiting : ByteArray := prog_11_method_49_code
def yX9_waiting : MethodName := ⟨RX9, "waiting", "(II)I"⟩
abbrev cX9_laysDay : ByteArray := prog_11_method_50_code
def yX9_laysDay : MethodName := ⟨RX9, "laysDay", "(I)V"⟩
abbrev cX9_areLike : ByteArray := prog_11_method_51_code
def yX9_areLike : MethodName := ⟨RX9, "areLike", "(II)Z"⟩
abbrev cX9_round : ByteArray := prog_11_method_52_code
def yX9_round : MethodName := ⟨RX9, "round", "(I)I"⟩
abbrev cX9_weepBy : ByteArray := prog_11_method_53_code
def yX9_weepBy : MethodName := ⟨RX9, "weepBy", "(IIZ)I"⟩
abbrev cX9_mends : ByteArray := prog_11_method_54_code
def yX9_mends : MethodName := ⟨RX9, "mends", "(I)I"⟩
abbrev cX9_rivals : ByteArray := prog_11_method_55_code
def yX9_rivals : MethodName := ⟨RX9, "rivals", "(IIII)I"⟩
abbrev cX9_see : ByteArray := prog_11_method_56_code
def yX9_see : MethodName := ⟨RX9, "see", "(III)I"⟩
abbrev cX9_forget : ByteArray := prog_11_method_57_code
def yX9_forget : MethodName := ⟨RX9, "forget", "()I"⟩
abbrev cX9_isSeen : ByteArray := prog_11_method_58_code
def yX9_isSeen : MethodName := ⟨RX9, "isSeen", "(I)Z"⟩
abbrev cX9_wept : ByteArray := prog_11_method_59_code
def yX9_wept : MethodName := ⟨RX9, "wept", "(II)I"⟩
abbrev cX9_kinds : ByteArray := prog_11_method_60_code
def yX9_kinds : MethodName := ⟨RX9, "kinds", "(I)I"⟩
abbrev cX9_tears : ByteArray := prog_11_method_61_code
def yX9_tears : MethodName := ⟨RX9, "tears", "(III)I"⟩
abbrev cX9_year : ByteArray := prog_11_method_62_code
def yX9_year : MethodName := ⟨RX9, "year", "(III)I"⟩
abbrev cX9_keep : ByteArray := prog_11_method_63_code
def yX9_keep : MethodName := ⟨RX9, "keep", "()I"⟩
abbrev cX9_back : ByteArray := prog_11_method_64_code
def yX9_back : MethodName := ⟨RX9, "back", "()I"⟩
abbrev cX9_count : ByteArray := prog_11_method_65_code
def yX9_count : MethodName := ⟨RX9, "count", "(I)I"⟩
def RJ6 : String := "java/lang/Integer"
def TJ6 : u_T := fun k => match k with
  | _ => ("", "", "", false)
def tyJ6 : Nat → FieldType := fun k => match k with
  | _ => .int
abbrev wsJ60 : List Cond := u_ws RJ6 TJ6 0
theorem nmJ6 : ∀ a, a < 0 → ∀ b, b < 0 → a ≠ b → (TJ6 a).2.1 ≠ (TJ6 b).2.1 := by decide +kernel
theorem tyJ6_ok : ∀ k, k < 0 → parseFieldDescriptor (TJ6 k).2.2.1 = some (tyJ6 k) := by decide +kernel
abbrev cJ6_bitCount_0f7a4 : ByteArray := prog_12_method_49_code
def yJ6_bitCount_0f7a4 : MethodName := ⟨RJ6, "bitCount", "(I)I"⟩
def RJ9 : String := "java/lang/Math"
def TJ9 : u_T := fun k => match k with
  | _ => ("", "", "", false)
def tyJ9 : Nat → FieldType := fun k => match k with
  | _ => .int
abbrev wsJ90 : List Cond := u_ws RJ9 TJ9 0
theorem nmJ9 : ∀ a, a < 0 → ∀ b, b < 0 → a ≠ b → (TJ9 a).2.1 ≠ (TJ9 b).2.1 := by decide +kernel
theorem tyJ9_ok : ∀ k, k < 0 → parseFieldDescriptor (TJ9 k).2.2.1 = some (tyJ9 k) := by decide +kernel
abbrev cJ9_abs_0f7a4 : ByteArray := prog_13_method_59_code
def yJ9_abs_0f7a4 : MethodName := ⟨RJ9, "abs", "(I)I"⟩
abbrev cJ9_max_7cf53 : ByteArray := prog_13_method_65_code
def yJ9_max_7cf53 : MethodName := ⟨RJ9, "max", "(II)I"⟩
abbrev cJ9_min_7cf53 : ByteArray := prog_13_method_69_code
def yJ9_min_7cf53 : MethodName := ⟨RJ9, "min", "(II)I"⟩
def RJ0 : String := "java/lang/String"
def TJ0 : u_T := fun k => match k with
  | _ => ("", "", "", false)
def tyJ0 : Nat → FieldType := fun k => match k with
  | _ => .int
abbrev wsJ00 : List Cond := u_ws RJ0 TJ0 0
theorem nmJ0 : ∀ a, a < 0 → ∀ b, b < 0 → a ≠ b → (TJ0 a).2.1 ≠ (TJ0 b).2.1 := by decide +kernel
theorem tyJ0_ok : ∀ k, k < 0 → parseFieldDescriptor (TJ0 k).2.2.1 = some (tyJ0 k) := by decide +kernel
abbrev cJ0_length_8abf5 : ByteArray := prog_14_method_54_code
def yJ0_length_8abf5 : MethodName := ⟨RJ0, "length", "()I"⟩
abbrev cJ0_charAt_5068e : ByteArray := prog_14_method_56_code
def yJ0_charAt_5068e : MethodName := ⟨RJ0, "charAt", "(I)C"⟩
abbrev cJ0_coder_7d493 : ByteArray := prog_14_method_152_code
def yJ0_coder_7d493 : MethodName := ⟨RJ0, "coder", "()B"⟩
abbrev cJ0_isLatin1_aae02 : ByteArray := prog_14_method_154_code
def yJ0_isLatin1_aae02 : MethodName := ⟨RJ0, "isLatin1", "()Z"⟩
abbrev cJ0_checkIndex_df160 : ByteArray := prog_14_method_155_code
def yJ0_checkIndex_df160 : MethodName := ⟨RJ0, "checkIndex", "(II)V"⟩
def RJ1 : String := "java/lang/StringLatin1"
def TJ1 : u_T := fun k => match k with
  | _ => ("", "", "", false)
def tyJ1 : Nat → FieldType := fun k => match k with
  | _ => .int
abbrev wsJ10 : List Cond := u_ws RJ1 TJ1 0
theorem nmJ1 : ∀ a, a < 0 → ∀ b, b < 0 → a ≠ b → (TJ1 a).2.1 ≠ (TJ1 b).2.1 := by decide +kernel
theorem tyJ1_ok : ∀ k, k < 0 → parseFieldDescriptor (TJ1 k).2.2.1 = some (tyJ1 k) := by decide +kernel
abbrev cJ1_charAt_3b067 : ByteArray := prog_15_method_2_code
def yJ1_charAt_3b067 : MethodName := ⟨RJ1, "charAt", "([BI)C"⟩
def RJ2 : String := "java/lang/StringUTF16"
def TJ2 : u_T := fun k => match k with
  | _ => ("", "", "", false)
def tyJ2 : Nat → FieldType := fun k => match k with
  | _ => .int
abbrev wsJ20 : List Cond := u_ws RJ2 TJ2 0
theorem nmJ2 : ∀ a, a < 0 → ∀ b, b < 0 → a ≠ b → (TJ2 a).2.1 ≠ (TJ2 b).2.1 := by decide +kernel
theorem tyJ2_ok : ∀ k, k < 0 → parseFieldDescriptor (TJ2 k).2.2.1 = some (tyJ2 k) := by decide +kernel
abbrev cJ2_getChar_3b067 : ByteArray := prog_16_method_5_code
def yJ2_getChar_3b067 : MethodName := ⟨RJ2, "getChar", "([BI)C"⟩
abbrev cJ2_length_9d52b : ByteArray := prog_16_method_6_code
def yJ2_length_9d52b : MethodName := ⟨RJ2, "length", "([B)I"⟩
abbrev cJ2_charAt_3b067 : ByteArray := prog_16_method_83_code
def yJ2_charAt_3b067 : MethodName := ⟨RJ2, "charAt", "([BI)C"⟩
abbrev cJ2_checkIndex_2214a : ByteArray := prog_16_method_91_code
def yJ2_checkIndex_2214a : MethodName := ⟨RJ2, "checkIndex", "(I[B)V"⟩
def RJ10 : String := "java/lang/System"
def TJ10 : u_T := fun k => match k with
  | _ => ("", "", "", false)
def tyJ10 : Nat → FieldType := fun k => match k with
  | _ => .int
abbrev wsJ100 : List Cond := u_ws RJ10 TJ10 0
theorem nmJ10 : ∀ a, a < 0 → ∀ b, b < 0 → a ≠ b → (TJ10 a).2.1 ≠ (TJ10 b).2.1 := by decide +kernel
theorem tyJ10_ok : ∀ k, k < 0 → parseFieldDescriptor (TJ10 k).2.2.1 = some (tyJ10 k) := by decide +kernel
def RJ3 : String := "jdk/internal/util/Preconditions"
def TJ3 : u_T := fun k => match k with
  | _ => ("", "", "", false)
def tyJ3 : Nat → FieldType := fun k => match k with
  | _ => .int
abbrev wsJ30 : List Cond := u_ws RJ3 TJ3 0
theorem nmJ3 : ∀ a, a < 0 → ∀ b, b < 0 → a ≠ b → (TJ3 a).2.1 ≠ (TJ3 b).2.1 := by decide +kernel
theorem tyJ3_ok : ∀ k, k < 0 → parseFieldDescriptor (TJ3 k).2.2.1 = some (tyJ3 k) := by decide +kernel
abbrev cJ3_checkIndex_8e157 : ByteArray := prog_18_method_11_code
def yJ3_checkIndex_8e157 : MethodName := ⟨RJ3, "checkIndex", "(IILjava/util/function/BiFunction;)I"⟩
def RL : String := "CabTearsLaw"
abbrev cL_law : ByteArray := code
def yL_law : MethodName := ⟨RL, "law", "([I)Z"⟩
abbrev vwCl : List vw_C := [(RX0, TX0, 13), (RX1, TX1, 6), (RX2, TX2, 5), (RX3, TX3, 4), (RX4, TX4, 3), (RX5, TX5, 6), (RX6, TX6, 4), (RX7, TX7, 4), (RX8, TX8, 11), (RX9, TX9, 32)]
end
section
/-! ===== the flat memory: cells by their places, each holds ints by their slots; references stand in a fixed layout ===== -/
/-! the words that every method is given: the good ones of the tables -/
def fl_U : List Cond := lw_tbl.filter goodWord
theorem fl_w1 {w : Cond} (i : Nat) (h : lw_tbl[i]? = some w) (g : goodWord w = true) : w ∈ fl_U := List.mem_filter.mpr ⟨List.mem_of_getElem? h, g⟩
theorem fl_ws {ws : List Cond} (ps : List Nat) (hp : ws = ps.filterMap (fun i => lw_tbl[i]?)) (g : ws.all goodWord = true) : ∀ w ∈ ws, w ∈ fl_U := by
  intro w hw
  have h1 := List.all_eq_true.mp g w hw
  rw [hp] at hw
  obtain ⟨i, -, hi⟩ := List.mem_filterMap.mp hw
  exact fl_w1 i hi h1
theorem fl_good {ws : List Cond} (h : ∀ w ∈ ws, w ∈ fl_U) : GoodIn fl_U ws := fun w hw => ⟨h w hw, good_of_word (List.mem_filter.mp (h w hw)).2⟩
theorem fl_goodc {w : Cond} {ws : List Cond} (hw : w ∈ fl_U) (h : GoodIn fl_U ws) : GoodIn fl_U (w :: ws) := fun v hv => by
  rcases List.mem_cons.mp hv with rfl | hv
  · exact ⟨hw, good_of_word (List.mem_filter.mp hw).2⟩
  · exact h v hv
theorem fl_goodU : GoodIn fl_U fl_U := fl_good (fun _ h => h)
/-! memory -/
abbrev Mem : Type := (Nat → Nat → Int32) × (Nat → Int64)
def mI (m : Mem) (k j : Nat) (v : Int32) : Mem := (va_up m.1 k (upd (m.1 k) j v), m.2)
def mL (m : Mem) (j : Nat) (v : Int64) : Mem := (m.1, vp_updL m.2 j v)
def mC (m : Mem) (k k2 sp dp n : Nat) : Mem := (va_up m.1 k2 (va_cpy (m.1 k) (m.1 k2) sp dp n), m.2)
abbrev Kd : Type := Nat × Nat × List (Option Nat)
def fl_fs (ad : Nat → Nat) (f : Nat → Int32) : Nat → List (Option Nat) → List Value
  | _, [] => []
  | i, none :: l => .int (f i) :: fl_fs ad f (i + 1) l
  | i, some r :: l => .ref (ad r) :: fl_fs ad f (i + 1) l
def fl_base (kd : Kd) : Nat := (kd.2.2.getD 0 none).getD 0
def fl_ent (ca : Nat → ClassId) (ad : Nat → Nat) (m : Mem) (k : Nat) (kd : Kd) : va_E :=
  if kd.1 = 0 then .inr (kd.2.1, fl_fs ad (m.1 k) 0 kd.2.2)
  else if kd.1 = 3 then .inl (ca 3, (kd.2.1, .inr (.inl m.2)))
  else if kd.1 = 4 then .inl (ca 4, (kd.2.1, .inr (.inr (.inr (.inr (fun j => some (ad (fl_base kd + 6 * j))))))))
  else .inl (ca kd.1, (kd.2.1, .inl (m.1 k)))
def fl_w (L : List Kd) (ca : Nat → ClassId) (ad : Nat → Nat) (m : Mem) : va_W := L.mapIdx (fun k kd => (ad k, fl_ent ca ad m k kd))
theorem fl_at {L : List Kd} {ca : Nat → ClassId} {ad : Nat → Nat} {m : Mem} {k : Nat} {kd : Kd} (h : L[k]? = some kd) : (fl_w L ca ad m)[k]? = some (ad k, fl_ent ca ad m k kd) := by
  simp [fl_w, h]
theorem fl_fs_getI {ad : Nat → Nat} {f : Nat → Int32} : ∀ (l : List (Option Nat)) (i j : Nat), l[j]? = some none → (fl_fs ad f i l)[j]? = some (.int (f (i + j)))
  | [], _, _, h => by simp at h
  | none :: l, i, 0, _ => by simp [fl_fs]
  | some r :: l, i, 0, h => by simp at h
  | none :: l, i, j + 1, h => by
    simp only [fl_fs, List.getElem?_cons_succ] at h ⊢
    rw [fl_fs_getI l (i + 1) j h]; congr 3; omega
  | some r :: l, i, j + 1, h => by
    simp only [fl_fs, List.getElem?_cons_succ] at h ⊢
    rw [fl_fs_getI l (i + 1) j h]; congr 3; omega
theorem fl_fs_getR {ad : Nat → Nat} {f : Nat → Int32} {r : Nat} : ∀ (l : List (Option Nat)) (i j : Nat), l[j]? = some (some r) → (fl_fs ad f i l)[j]? = some (.ref (ad r))
  | [], _, _, h => by simp at h
  | none :: l, i, 0, h => by simp at h
  | some r :: l, i, 0, h => by simp at h; subst h; simp [fl_fs]
  | none :: l, i, j + 1, h => by
    simp only [fl_fs, List.getElem?_cons_succ] at h ⊢
    exact fl_fs_getR l (i + 1) j h
  | some r :: l, i, j + 1, h => by
    simp only [fl_fs, List.getElem?_cons_succ] at h ⊢
    exact fl_fs_getR l (i + 1) j h
theorem fl_fs_out {ad : Nat → Nat} {f : Nat → Int32} {p : Nat} {v : Int32} : ∀ (l : List (Option Nat)) (i : Nat), p < i → fl_fs ad (upd f p v) i l = fl_fs ad f i l
  | [], _, _ => rfl
  | none :: l, i, h => by
    simp only [fl_fs]
    rw [fl_fs_out l (i + 1) (by omega), show upd f p v i = f i by simp [upd]; intro e; omega]
  | some r :: l, i, h => by
    simp only [fl_fs]
    rw [fl_fs_out l (i + 1) (by omega)]
theorem fl_fs_set {ad : Nat → Nat} {f : Nat → Int32} {v : Int32} : ∀ (l : List (Option Nat)) (i j : Nat), l[j]? = some none → fl_fs ad (upd f (i + j) v) i l = (fl_fs ad f i l).set j (.int v)
  | [], _, _, h => by simp at h
  | none :: l, i, 0, _ => by
    simp only [fl_fs, List.set_cons_zero]
    rw [fl_fs_out l (i + 1) (by omega)]
    simp [upd]
  | some r :: l, i, 0, h => by simp at h
  | none :: l, i, j + 1, h => by
    simp only [fl_fs, List.getElem?_cons_succ, List.set_cons_succ] at h ⊢
    rw [show i + (j + 1) = (i + 1) + j by omega, fl_fs_set l (i + 1) j h, show upd f (i + 1 + j) v i = f i by simp [upd]; intro e; omega]
  | some r :: l, i, j + 1, h => by
    simp only [fl_fs, List.getElem?_cons_succ, List.set_cons_succ] at h ⊢
    rw [show i + (j + 1) = (i + 1) + j by omega, fl_fs_set l (i + 1) j h]
theorem fl_fs_len {ad : Nat → Nat} {f : Nat → Int32} : ∀ (l : List (Option Nat)) (i : Nat), (fl_fs ad f i l).length = l.length
  | [], _ => rfl
  | none :: l, i => by simp [fl_fs, fl_fs_len l (i + 1)]
  | some r :: l, i => by simp [fl_fs, fl_fs_len l (i + 1)]
theorem fl_set {L : List Kd} {ca : Nat → ClassId} {ad : Nat → Nat} {m m' : Mem} {k : Nat} {kd : Kd} (h : L[k]? = some kd) (h1 : ∀ i, i ≠ k → m'.1 i = m.1 i) (h2 : m'.2 = m.2) :
    fl_w L ca ad m' = (fl_w L ca ad m).set k (ad k, fl_ent ca ad m' k kd) := by
  apply List.ext_getElem?
  intro i
  by_cases hi : i = k
  · subst hi
    have hl : i < (fl_w L ca ad m).length := by simp only [fl_w, List.length_mapIdx]; exact (List.getElem?_eq_some_iff.mp h).1
    rw [List.getElem?_set_self hl, fl_at h]
  · rw [List.getElem?_set_ne (Ne.symm hi)]
    simp only [fl_w, List.getElem?_mapIdx]
    cases hL : L[i]? with
    | none => rfl
    | some q => simp only [Option.map_some, fl_ent, h1 i hi, h2]
theorem fl_setL {L : List Kd} {ca : Nat → ClassId} {ad : Nat → Nat} {m : Mem} {j : Nat} {v : Int64} {k : Nat} {kd : Kd} (h : L[k]? = some kd) (hu : ∀ i q, L[i]? = some q → q.1 = 3 → i = k) :
    fl_w L ca ad (mL m j v) = (fl_w L ca ad m).set k (ad k, fl_ent ca ad (mL m j v) k kd) := by
  apply List.ext_getElem?
  intro i
  by_cases hi : i = k
  · subst hi
    have hl : i < (fl_w L ca ad m).length := by simp only [fl_w, List.length_mapIdx]; exact (List.getElem?_eq_some_iff.mp h).1
    rw [List.getElem?_set_self hl, fl_at h]
  · rw [List.getElem?_set_ne (Ne.symm hi)]
    simp only [fl_w, List.getElem?_mapIdx]
    cases hL : L[i]? with
    | none => rfl
    | some q =>
      have h3 : ¬ q.1 = 3 := fun e => hi (hu i q hL e)
      simp only [Option.map_some, fl_ent, h3, if_false, mL]
theorem mI_ne {m : Mem} {k j : Nat} {v : Int32} (i : Nat) (h : i ≠ k) : (mI m k j v).1 i = m.1 i := by simp [mI, va_up, h]
theorem mI_eq {m : Mem} {k j : Nat} {v : Int32} : (mI m k j v).1 k = upd (m.1 k) j v := by simp [mI, va_up]
theorem mC_ne {m : Mem} {k k2 sp dp n : Nat} (i : Nat) (h : i ≠ k2) : (mC m k k2 sp dp n).1 i = m.1 i := by simp [mC, va_up, h]
theorem mC_eq {m : Mem} {k k2 sp dp n : Nat} : (mC m k k2 sp dp n).1 k2 = va_cpy (m.1 k) (m.1 k2) sp dp n := by simp [mC, va_up]
/-- which addresses a layout has -/
def fl_A (L : List Kd) (ad : Nat → Nat) : Nat → Prop := fun q => ∃ k, k < L.length ∧ q = ad k
def fl_inj (L : List Kd) (ad : Nat → Nat) : Prop := ∀ i j, i < L.length → j < L.length → ad i = ad j → i = j
theorem fl_D {L : List Kd} {ca : Nat → ClassId} {ad : Nat → Nat} {m : Mem} (h : fl_inj L ad) : va_D (fl_A L ad) (fl_w L ca ad m) := by
  have key : ∀ (i : Nat) (q : Nat × va_E), (fl_w L ca ad m)[i]? = some q → i < L.length ∧ q.1 = ad i := by
    intro i q hq
    simp only [fl_w, List.getElem?_mapIdx] at hq
    cases hL : L[i]? with
    | none => rw [hL] at hq; cases hq
    | some kd =>
      rw [hL] at hq
      cases hq
      exact ⟨(List.getElem?_eq_some_iff.mp hL).1, rfl⟩
  refine ⟨fun i j p q hi hj e => ?_, fun k q hq => ?_⟩
  · obtain ⟨a1, a2⟩ := key i p hi
    obtain ⟨b1, b2⟩ := key j q hj
    exact h i j a1 b1 (by rw [← a2, ← b2]; exact e)
  · obtain ⟨a1, a2⟩ := key k q hq
    exact ⟨k, a1, a2⟩
def fl_tys (ca : Nat → ClassId) : List (ClassId × FieldType) := [(ca 1, .int), (ca 2, .char), (ca 3, .long), (ca 4, .object RX5)]
/-- the private members of nest mates that are linked -/
def fl_nest : List Cond := [.methodLinkNest "CabTears" 11 ⟨"CabTears$Text", "<init>", "()V"⟩ "CabTears", .methodLinkNest "CabTears" 18 ⟨"CabTears$City", "<init>", "()V"⟩ "CabTears", .methodLinkNest "CabTears$City" 38 ⟨"CabTears$Trip", "<init>", "()V"⟩ "CabTears", .methodLinkNest "CabTears" 28 ⟨"CabTears$Stand", "<init>", "()V"⟩ "CabTears", .methodLinkNest "CabTears$Shelf" 21 ⟨"CabTears$Stand", "<init>", "()V"⟩ "CabTears", .methodLinkNest "CabTears" 50 ⟨"CabTears$Seen", "<init>", "()V"⟩ "CabTears", .methodLinkNest "CabTears$Orders" 24 ⟨"CabTears$Stand", "<init>", "()V"⟩ "CabTears", .methodLinkNest "CabTears$Duel" 17 ⟨"CabTears$Stand", "<init>", "()V"⟩ "CabTears", .methodLinkNest "CabTears$City" 56 ⟨"CabTears", "within", "(III)Z"⟩ "CabTears", .methodLinkNest "CabTears$Orders" 29 ⟨"CabTears", "restOf", "(LCabTears$City;LCabTears$Stand;)I"⟩ "CabTears", .methodLinkNest "CabTears$Duel" 35 ⟨"CabTears", "restOf", "(LCabTears$City;LCabTears$Stand;)I"⟩ "CabTears"]
theorem fl_nest_in : fl_nest = [72, 94, 100, 178, 224, 238, 266, 293, 388, 583, 648].filterMap (fun i => lw_tbl[i]?) := by decide +kernel
theorem fl_nest_warm : ∀ w ∈ fl_nest, ∀ s U : State, s.WarmedH U.vm → va_Nw w s → va_Nw w U := by
  simp only [fl_nest, List.forall_mem_cons]
  refine ⟨?_, ?_, ?_, ?_, ?_, ?_, ?_, ?_, ?_, ?_, ?_, fun _ h => absurd h List.not_mem_nil⟩
  all_goals exact fun s U hW h => va_Nw.warmM hW h
theorem fl_nest_tab : fl_nest.all (fun w => w.onTables) = true := by decide +kernel
def fl_E (D : va_G) (ca : Nat → ClassId) (U : State) : Prop := va_K D vwCl (fl_tys ca) U ∧ ∀ w ∈ fl_nest, va_Nw w U
theorem fl_E.warm {D : va_G} {ca : Nat → ClassId} {s U : State} (hW : s.WarmedH U.vm) (h : fl_E D ca s) : fl_E D ca U := ⟨va_K.moved hW.alike h.1, fun w hw => fl_nest_warm w hw s U hW (h.2 w hw)⟩
theorem fl_E.same {D : va_G} {ca : Nat → ClassId} {s U : State} (hv : s.vm = U.vm) (h : fl_E D ca s) : fl_E D ca U := ⟨va_K.moved (hv ▸ Vm.Alike.refl _) h.1, fun w hw => va_Nw.same (List.all_eq_true.mp fl_nest_tab w hw) hv (h.2 w hw)⟩
/-! what a walk stands on -/
def fl_X (p : Program) (s : State) (m : MethodId) (args : Array Value) (c : Code) (cc : ByteArray) (nL : Nat) (own : String) (L : List Kd) (D : va_G) (ca : Nat → ClassId) (ad : Nat → Nat) : Prop :=
  p.tables.exec = Jvm.exec ∧ c.code = cc ∧ c.maxLocals = nL ∧ s.vm.findClass own = some m.cls ∧ (∀ w ∈ fl_U, w.before args s = true) ∧ fl_E D ca s ∧ fl_inj L ad
def fl_Q (L : List Kd) (D : va_G) (ca : Nat → ClassId) (ad : Nat → Nat) (v : Option Value) (M : Mem) : Array Value → State → Outcome → State → Prop := fun _ st oc t => oc = .returned v ∧ va_P D vwCl (fl_w L ca ad M) t.heap ∧ va_F (fl_A L ad) st t
def fl_Pc (L : List Kd) (D : va_G) (ca : Nat → ClassId) (ad : Nat → Nat) (av : List Value) (m : Mem) : Array Value → State → Prop := va_Pc av (fun U => va_P D vwCl (fl_w L ca ad m) U.heap ∧ fl_E D ca U)
def fl_rm (d : Nat) : Room := { frames := d, cells := 0, slots := 0, locals := 64 * d }
/-- a method's contract: from the memory m it answers v and leaves the memory M -/
def fl_M (l : Launch) (L : List Kd) (D : va_G) (ca : Nat → ClassId) (ad : Nat → Nat) (y : MethodName) (cd : ByteArray) (nL : Nat) (ret : Option FieldType) (d : Nat) (av : List Value) (m : Mem) (v : Option Value) (M : Mem) : Prop :=
  Met l y (Cond.code y cd nL ret :: fl_U) (fl_rm d) (fl_Pc L D ca ad av m) (fl_Q L D ca ad v M) 0 0 (fl_A L ad)
theorem fl_blind {L : List Kd} {D : va_G} {ca : Nat → ClassId} {ad : Nat → Nat} {av : List Value} {m : Mem} : FrameBlind (fl_Pc L D ca ad av m) := fun a U g mk h => ⟨h.1, h.2.1, fl_E.same (s := U) (U := U.calling g mk a) rfl h.2.2⟩
theorem fl_ofW {l : Launch} {L : List Kd} {D : va_G} {ca : Nat → ClassId} {ad : Nat → Nat} {y : MethodName} {cd : ByteArray} {nL : Nat} {ret : Option FieldType} {d : Nat} {av : List Value} {m : Mem} {v : Option Value} {M : Mem} (hy : plainName y.cls = true) (hi : fl_inj L ad) (hn : (lg_sl av).length ≤ nL)
    (body : ∀ (p : Program) (e : Env) (s : State) (mm : MethodId) (args : Array Value) (below : List Frame) (meth : Method) (c : Code) (ls : Array Slot), fl_X p s mm args c cd nL y.cls L D ca ad → meth.sig.returnType = ret → meth.locks = false → va_P D vwCl (fl_w L ca ad m) s.heap → lv_has ls nL (lv_args 0 av) →
      W p l e (fl_rm d) s mm args below meth c s.heap [] 0 0 (MQ below (fl_Q L D ca ad v M) args s 0 0 (fl_A L ad)) (F0 mm 0 ls [])) : fl_M l L D ca ad y cd nL ret d av m v M := by
  refine Met.ofW (cc := cd) (maxL := nL) (ret := ret) hy rfl ?_
  intro p e s mm args below meth c s₁ B hml hv
  obtain ⟨rfl, hP, hE⟩ := hv
  have hts := atoms_spec (ws := Cond.code y cd nL ret :: fl_U) B.pre
  rw [lg_entry_eq]
  exact body p e s mm _ below meth c _ ⟨B.exec, B.bytes, hml, findClass_of_methodNamed B.named, fun w hw => hts w (List.mem_cons_of_mem _ hw), hE, hi⟩ B.returns B.notSynchronized hP (lv_entry av hn)
/-! links, a row each -/
def fl_fk (own : String) (index ci fi : Nat) : Prop := ∃ (C : String) (T : u_T) (N : Nat), vwCl[ci]? = some (C, T, N) ∧ (∀ w ∈ u_ws C T N, w ∈ fl_U) ∧ fi < N ∧ Cond.fieldLink own index (T fi).1 (T fi).2.1 (T fi).2.2.1 ∈ fl_U
def fl_pk (own : String) (index ci fi : Nat) (ty : FieldType) : Prop := ∃ (C : String) (T : u_T) (N : Nat) (ty0 : Nat → FieldType), vwCl[ci]? = some (C, T, N) ∧ (∀ w ∈ u_ws C T N, w ∈ fl_U) ∧ fi < N ∧ Cond.fieldLink own index (T fi).1 (T fi).2.1 (T fi).2.2.1 ∈ fl_U ∧ (∀ k, k < N → parseFieldDescriptor (T k).2.2.1 = some (ty0 k)) ∧ (∀ a, a < N → ∀ b, b < N → a ≠ b → (T a).2.1 ≠ (T b).2.1) ∧ (T fi).2.2.2 = false ∧ parseFieldDescriptor (T fi).2.2.1 = some ty
def fl_nn (y : MethodName) (n : Nat) : Prop := y.cls ≠ "java/lang/invoke/MethodHandle" ∧ y.cls ≠ "java/lang/invoke/VarHandle" ∧ (parseMethodDescriptor y.desc).map (fun d => d.parameters.length) = some n
def fl_mv (own : String) (index ci : Nat) (y : MethodName) (cd : ByteArray) (nL : Nat) (ret : Option FieldType) (n : Nat) : Prop := (∃ (T : u_T) (N : Nat), vwCl[ci]? = some (y.cls, T, N)) ∧ GoodIn fl_U (wsV own index y.cls y (Cond.code y cd nL ret :: fl_U)) ∧ fl_nn y n
def fl_ms (own : String) (index : Nat) (y : MethodName) (cd : ByteArray) (nL : Nat) (ret : Option FieldType) (n : Nat) : Prop := GoodIn fl_U (va_wsS own index y (Cond.code y cd nL ret :: fl_U)) ∧ fl_nn y n
def fl_mn (own : String) (index : Nat) (y : MethodName) (host : String) (cd : ByteArray) (nL : Nat) (ret : Option FieldType) (n : Nat) : Prop := Cond.methodLinkNest own index y host ∈ fl_nest ∧ GoodIn fl_U (Cond.code y cd nL ret :: fl_U) ∧ Cond.initialized y.cls ∈ fl_U ∧ Cond.static y ∈ fl_U ∧ fl_nn y n
theorem fl_mv_of {own : String} {index ci : Nat} {y : MethodName} {cd : ByteArray} {nL : Nat} {ret : Option FieldType} {n : Nat} {T : u_T} {N : Nat} (hc : vwCl[ci]? = some (y.cls, T, N)) (h1 : Cond.methodLink own index y ∈ fl_U) (h2 : Cond.instanceMethod y ∈ fl_U) (h3 : Cond.selects y.cls y y ∈ fl_U) (h4 : Cond.initialized y.cls ∈ fl_U) (h5 : Cond.code y cd nL ret ∈ fl_U) (hn : fl_nn y n) : fl_mv own index ci y cd nL ret n :=
  ⟨⟨T, N, hc⟩, fl_goodc h1 (fl_goodc h2 (fl_goodc h3 (fl_goodc h4 (fl_goodc h5 fl_goodU)))), hn⟩
theorem fl_ms_of {own : String} {index : Nat} {y : MethodName} {cd : ByteArray} {nL : Nat} {ret : Option FieldType} {n : Nat} (h1 : Cond.methodLink own index y ∈ fl_U) (h2 : Cond.static y ∈ fl_U) (h4 : Cond.initialized y.cls ∈ fl_U) (h5 : Cond.code y cd nL ret ∈ fl_U) (hn : fl_nn y n) : fl_ms own index y cd nL ret n :=
  ⟨fl_goodc h1 (fl_goodc h2 (fl_goodc h4 (fl_goodc h5 fl_goodU))), hn⟩
theorem fl_mn_of {own : String} {index : Nat} {y : MethodName} {host : String} {cd : ByteArray} {nL : Nat} {ret : Option FieldType} {n : Nat} (h1 : Cond.methodLinkNest own index y host ∈ fl_nest) (h2 : Cond.static y ∈ fl_U) (h4 : Cond.initialized y.cls ∈ fl_U) (h5 : Cond.code y cd nL ret ∈ fl_U) (hn : fl_nn y n) : fl_mn own index y host cd nL ret n :=
  ⟨h1, fl_goodc h5 fl_goodU, h4, h2, hn⟩
section FL
variable {p : Program} {l : Launch} {e : Env} {R : Room} {s : State} {mm : MethodId} {args : Array Value} {below : List Frame} {meth : Method} {c : Code} {H : Heap} {locs : List Loc} {cells slots : Nat} {Q : State → Prop}
variable {cc : ByteArray} {nL pc : Nat} {ls : Array Slot} {rest : List Value} {own : String} {L : List Kd} {D : va_G} {ca : Nat → ClassId} {ad : Nat → Nat} {m : Mem} {H0 : Heap}
theorem fl_geti (X : fl_X p s mm args c cc nL own L D ca ad) (hP : va_P D vwCl (fl_w L ca ad m) H) {k j ci index : Nat} {tm : List (Option Nat)} (hf : fl_fk own index ci j) (hk : L[k]? = some (0, ci, tm)) (ht : tm[j]? = some none) (hdg : decode cc pc = .ok (.getfield index, 3))
    (kk : W p l e R s mm args below meth c H locs cells slots Q (F0 mm (pc + 3) ls (.int (m.1 k j) :: rest))) : W p l e R s mm args below meth c H locs cells slots Q (F0 mm pc ls (.ref (ad k) :: rest)) := by
  obtain ⟨hx, hb, hml, hown, hts, hE, hi⟩ := X
  obtain ⟨C, T, N, hc, hin, hfi, hlink⟩ := hf
  have he : (fl_w L ca ad m)[k]? = some (ad k, .inr (ci, fl_fs ad (m.1 k) 0 tm)) := (fl_at hk).trans (by simp [fl_ent])
  exact va_get (D := D) (ci := ci) (v := .int (m.1 k j)) (C := C) (T := T) (N := N) hx hb hts hin hown hE.1 hP k he hc j hfi (hts _ hlink) (fun _ h9 => h9) ((fl_fs_getI tm 0 j ht).trans (by rw [Nat.zero_add])) hdg kk
theorem fl_getr (X : fl_X p s mm args c cc nL own L D ca ad) (hP : va_P D vwCl (fl_w L ca ad m) H) {k j ci index r : Nat} {tm : List (Option Nat)} (hf : fl_fk own index ci j) (hk : L[k]? = some (0, ci, tm)) (ht : tm[j]? = some (some r)) (hdg : decode cc pc = .ok (.getfield index, 3))
    (kk : W p l e R s mm args below meth c H locs cells slots Q (F0 mm (pc + 3) ls (.ref (ad r) :: rest))) : W p l e R s mm args below meth c H locs cells slots Q (F0 mm pc ls (.ref (ad k) :: rest)) := by
  obtain ⟨hx, hb, hml, hown, hts, hE, hi⟩ := X
  obtain ⟨C, T, N, hc, hin, hfi, hlink⟩ := hf
  have he : (fl_w L ca ad m)[k]? = some (ad k, .inr (ci, fl_fs ad (m.1 k) 0 tm)) := (fl_at hk).trans (by simp [fl_ent])
  exact va_get (D := D) (ci := ci) (v := .ref (ad r)) (C := C) (T := T) (N := N) hx hb hts hin hown hE.1 hP k he hc j hfi (hts _ hlink) (fun _ h9 => h9) (fl_fs_getR tm 0 j ht) hdg kk
theorem fl_puti (X : fl_X p s mm args c cc nL own L D ca ad) (hP : va_P D vwCl (fl_w L ca ad m) H) (hS : va_S (fl_A L ad) H0 H locs) {k j ci index : Nat} {tm : List (Option Nat)} {ty : FieldType} {v : Int32} (hf : fl_pk own index ci j ty) (hk : L[k]? = some (0, ci, tm)) (ht : tm[j]? = some none) (hn : narrow ty (.int v) = .int v) (hfit : fits ty (.int v) = true) (hdg : decode cc pc = .ok (.putfield index, 3))
    (kk : ∀ (H1 : Heap) (locs1 : List Loc), va_P D vwCl (fl_w L ca ad (mI m k j v)) H1 → va_S (fl_A L ad) H0 H1 locs1 → W p l e R s mm args below meth c H1 locs1 cells slots Q (F0 mm (pc + 3) ls rest)) : W p l e R s mm args below meth c H locs cells slots Q (F0 mm pc ls (.int v :: .ref (ad k) :: rest)) := by
  obtain ⟨hx, hb, hml, hown, hts, hE, hi⟩ := X
  obtain ⟨C, T, N, ty0, hc, hin, hfi, hlink, hty, hnm, hfin, hd⟩ := hf
  have he : (fl_w L ca ad m)[k]? = some (ad k, .inr (ci, fl_fs ad (m.1 k) 0 tm)) := (fl_at hk).trans (by simp [fl_ent])
  have hl : j < (fl_fs ad (m.1 k) 0 tm).length := by rw [fl_fs_len]; exact (List.getElem?_eq_some_iff.mp ht).1
  refine va_put (D := D) (ci := ci) (v := .int v) (ty := ty) (C := C) (T := T) (N := N) hx hb hts hin ty0 hty hnm hown hE.1 hP (fl_D hi) hS k he hc j hfi (hts _ hlink) (fun _ h9 => h9) hfin hd hn hfit hl hdg (fun H1 locs1 hP1 _ hS1 => kk H1 locs1 ?_ hS1)
  rw [fl_set (m := m) hk (fun i h => mI_ne i h) rfl, show fl_ent ca ad (mI m k j v) k (0, ci, tm) = .inr (ci, fl_fs ad ((mI m k j v).1 k) 0 tm) by simp [fl_ent], mI_eq]
  have := fl_fs_set (ad := ad) (f := m.1 k) (v := v) tm 0 j ht
  rw [Nat.zero_add] at this
  rw [this]
  exact hP1
theorem fl_iald (X : fl_X p s mm args c cc nL own L D ca ad) (hP : va_P D vwCl (fl_w L ca ad m) H) {k n : Nat} {tm : List (Option Nat)} (hk : L[k]? = some (1, n, tm)) {i : Int32} (hin : 0 ≤ i.toInt ∧ i.toInt < n) (hdg : decode cc pc = .ok (.iaload, 1))
    (kk : W p l e R s mm args below meth c H locs cells slots Q (F0 mm (pc + 1) ls (.int (m.1 k i.toNatClampNeg) :: rest))) : W p l e R s mm args below meth c H locs cells slots Q (F0 mm pc ls (.int i :: .ref (ad k) :: rest)) := by
  obtain ⟨hx, hb, hml, hown, hts, hE, hi⟩ := X
  have he : (fl_w L ca ad m)[k]? = some (ad k, .inl (ca 1, n, .inl (m.1 k))) := (fl_at hk).trans (by simp [fl_ent])
  exact va_iald hx hb hE.1 hP k 0 he rfl (vp_in_iff.mpr hin) hdg kk
theorem fl_cald (X : fl_X p s mm args c cc nL own L D ca ad) (hP : va_P D vwCl (fl_w L ca ad m) H) {k n : Nat} {tm : List (Option Nat)} (hk : L[k]? = some (2, n, tm)) {i : Int32} (hin : 0 ≤ i.toInt ∧ i.toInt < n) (hdg : decode cc pc = .ok (.caload, 1))
    (kk : W p l e R s mm args below meth c H locs cells slots Q (F0 mm (pc + 1) ls (.int (m.1 k i.toNatClampNeg) :: rest))) : W p l e R s mm args below meth c H locs cells slots Q (F0 mm pc ls (.int i :: .ref (ad k) :: rest)) := by
  obtain ⟨hx, hb, hml, hown, hts, hE, hi⟩ := X
  have he : (fl_w L ca ad m)[k]? = some (ad k, .inl (ca 2, n, .inl (m.1 k))) := (fl_at hk).trans (by simp [fl_ent])
  exact va_cald hx hb hE.1 hP k 1 he rfl (vp_in_iff.mpr hin) hdg kk
theorem fl_lald (X : fl_X p s mm args c cc nL own L D ca ad) (hP : va_P D vwCl (fl_w L ca ad m) H) {k n : Nat} {tm : List (Option Nat)} (hk : L[k]? = some (3, n, tm)) {i : Int32} (hin : 0 ≤ i.toInt ∧ i.toInt < n) (hdg : decode cc pc = .ok (.laload, 1))
    (kk : W p l e R s mm args below meth c H locs cells slots Q (F0 mm (pc + 1) ls (.long (m.2 i.toNatClampNeg) :: rest))) : W p l e R s mm args below meth c H locs cells slots Q (F0 mm pc ls (.int i :: .ref (ad k) :: rest)) := by
  obtain ⟨hx, hb, hml, hown, hts, hE, hi⟩ := X
  have he : (fl_w L ca ad m)[k]? = some (ad k, .inl (ca 3, n, .inr (.inl m.2))) := (fl_at hk).trans (by simp [fl_ent])
  exact va_lald hx hb hE.1 hP k 2 he rfl (vp_in_iff.mpr hin) hdg kk
theorem fl_aald (X : fl_X p s mm args c cc nL own L D ca ad) (hP : va_P D vwCl (fl_w L ca ad m) H) {k n b : Nat} (hk : L[k]? = some (4, n, [some b])) {i : Int32} (hin : 0 ≤ i.toInt ∧ i.toInt < n) (hdg : decode cc pc = .ok (.aaload, 1))
    (kk : W p l e R s mm args below meth c H locs cells slots Q (F0 mm (pc + 1) ls (.ref (ad (b + 6 * i.toNatClampNeg)) :: rest))) : W p l e R s mm args below meth c H locs cells slots Q (F0 mm pc ls (.int i :: .ref (ad k) :: rest)) := by
  obtain ⟨hx, hb, hml, hown, hts, hE, hi⟩ := X
  have he : (fl_w L ca ad m)[k]? = some (ad k, .inl (ca 4, n, .inr (.inr (.inr (.inr (fun j => some (ad (b + 6 * j)))))))) := (fl_at hk).trans (by simp [fl_ent, fl_base])
  exact va_aldq hx hb hE.1 hP k 3 he rfl (vp_in_iff.mpr hin) hdg kk
theorem fl_alen (X : fl_X p s mm args c cc nL own L D ca ad) (hP : va_P D vwCl (fl_w L ca ad m) H) {k t n : Nat} {tm : List (Option Nat)} (hk : L[k]? = some (t, n, tm)) (ht : t = 1 ∨ t = 2 ∨ t = 4) {v : Int32} (hv : Int32.ofNat n = v) (hdg : decode cc pc = .ok (.arraylength, 1))
    (kk : W p l e R s mm args below meth c H locs cells slots Q (F0 mm (pc + 1) ls (.int v :: rest))) : W p l e R s mm args below meth c H locs cells slots Q (F0 mm pc ls (.ref (ad k) :: rest)) := by
  obtain ⟨hx, hb, hml, hown, hts, hE, hi⟩ := X
  rcases ht with rfl | rfl | rfl
  · have he : (fl_w L ca ad m)[k]? = some (ad k, .inl (ca 1, n, .inl (m.1 k))) := (fl_at hk).trans (by simp [fl_ent])
    exact va_alen hx hb hE.1 hP k 0 he rfl hv hdg kk
  · have he : (fl_w L ca ad m)[k]? = some (ad k, .inl (ca 2, n, .inl (m.1 k))) := (fl_at hk).trans (by simp [fl_ent])
    exact va_alen hx hb hE.1 hP k 1 he rfl hv hdg kk
  · have he : (fl_w L ca ad m)[k]? = some (ad k, .inl (ca 4, n, .inr (.inr (.inr (.inr (fun j => some (ad (fl_base (4, n, tm) + 6 * j)))))))) := (fl_at hk).trans (by simp [fl_ent])
    exact va_alen hx hb hE.1 hP k 3 he rfl hv hdg kk
theorem fl_iast (X : fl_X p s mm args c cc nL own L D ca ad) (hP : va_P D vwCl (fl_w L ca ad m) H) (hS : va_S (fl_A L ad) H0 H locs) {k n : Nat} {tm : List (Option Nat)} (hk : L[k]? = some (1, n, tm)) {i x : Int32} (hin : 0 ≤ i.toInt ∧ i.toInt < n) (hdg : decode cc pc = .ok (.iastore, 1))
    (kk : ∀ (H1 : Heap) (locs1 : List Loc), va_P D vwCl (fl_w L ca ad (mI m k i.toNatClampNeg x)) H1 → va_S (fl_A L ad) H0 H1 locs1 → W p l e R s mm args below meth c H1 locs1 cells slots Q (F0 mm (pc + 1) ls rest)) : W p l e R s mm args below meth c H locs cells slots Q (F0 mm pc ls (.int x :: .int i :: .ref (ad k) :: rest)) := by
  obtain ⟨hx, hb, hml, hown, hts, hE, hi⟩ := X
  have he : (fl_w L ca ad m)[k]? = some (ad k, .inl (ca 1, n, .inl (m.1 k))) := (fl_at hk).trans (by simp [fl_ent])
  refine va_iast hx hb hE.1 hP (fl_D hi) hS k 0 he rfl (vp_in_iff.mpr hin) hdg (fun H1 locs1 hP1 _ hS1 => kk H1 locs1 ?_ hS1)
  rw [fl_set (m := m) hk (fun i h => mI_ne i h) rfl, show fl_ent ca ad (mI m k i.toNatClampNeg x) k (1, n, tm) = .inl (ca 1, n, .inl ((mI m k i.toNatClampNeg x).1 k)) by simp [fl_ent], mI_eq]
  exact hP1
theorem fl_cast (X : fl_X p s mm args c cc nL own L D ca ad) (hP : va_P D vwCl (fl_w L ca ad m) H) (hS : va_S (fl_A L ad) H0 H locs) {k n : Nat} {tm : List (Option Nat)} (hk : L[k]? = some (2, n, tm)) {i x : Int32} (hin : 0 ≤ i.toInt ∧ i.toInt < n) (hdg : decode cc pc = .ok (.castore, 1))
    (kk : ∀ (H1 : Heap) (locs1 : List Loc), va_P D vwCl (fl_w L ca ad (mI m k i.toNatClampNeg (vp_nar .char x))) H1 → va_S (fl_A L ad) H0 H1 locs1 → W p l e R s mm args below meth c H1 locs1 cells slots Q (F0 mm (pc + 1) ls rest)) : W p l e R s mm args below meth c H locs cells slots Q (F0 mm pc ls (.int x :: .int i :: .ref (ad k) :: rest)) := by
  obtain ⟨hx, hb, hml, hown, hts, hE, hi⟩ := X
  have he : (fl_w L ca ad m)[k]? = some (ad k, .inl (ca 2, n, .inl (m.1 k))) := (fl_at hk).trans (by simp [fl_ent])
  refine va_cast hx hb hE.1 hP (fl_D hi) hS k 1 he rfl (vp_in_iff.mpr hin) hdg (fun H1 locs1 hP1 _ hS1 => kk H1 locs1 ?_ hS1)
  rw [fl_set (m := m) hk (fun i h => mI_ne i h) rfl, show fl_ent ca ad (mI m k i.toNatClampNeg (vp_nar .char x)) k (2, n, tm) = .inl (ca 2, n, .inl ((mI m k i.toNatClampNeg (vp_nar .char x)).1 k)) by simp [fl_ent], mI_eq]
  exact hP1
theorem fl_last (X : fl_X p s mm args c cc nL own L D ca ad) (hP : va_P D vwCl (fl_w L ca ad m) H) (hS : va_S (fl_A L ad) H0 H locs) {k n : Nat} {tm : List (Option Nat)} (hk : L[k]? = some (3, n, tm)) (hu : ∀ i q, L[i]? = some q → q.1 = 3 → i = k) {i : Int32} {x : Int64} (hin : 0 ≤ i.toInt ∧ i.toInt < n) (hdg : decode cc pc = .ok (.lastore, 1))
    (kk : ∀ (H1 : Heap) (locs1 : List Loc), va_P D vwCl (fl_w L ca ad (mL m i.toNatClampNeg x)) H1 → va_S (fl_A L ad) H0 H1 locs1 → W p l e R s mm args below meth c H1 locs1 cells slots Q (F0 mm (pc + 1) ls rest)) : W p l e R s mm args below meth c H locs cells slots Q (F0 mm pc ls (.long x :: .int i :: .ref (ad k) :: rest)) := by
  obtain ⟨hx, hb, hml, hown, hts, hE, hi⟩ := X
  have he : (fl_w L ca ad m)[k]? = some (ad k, .inl (ca 3, n, .inr (.inl m.2))) := (fl_at hk).trans (by simp [fl_ent])
  refine va_last hx hb hE.1 hP (fl_D hi) hS k 2 he rfl (vp_in_iff.mpr hin) hdg (fun H1 locs1 hP1 _ hS1 => kk H1 locs1 ?_ hS1)
  rw [fl_setL (m := m) hk hu, show fl_ent ca ad (mL m i.toNatClampNeg x) k (3, n, tm) = .inl (ca 3, n, .inr (.inl (vp_updL m.2 i.toNatClampNeg x))) by simp [fl_ent, mL]]
  exact hP1
theorem fl_copy (X : fl_X p s mm args c cc nL own L D ca ad) (hP : va_P D vwCl (fl_w L ca ad m) H) (hS : va_S (fl_A L ad) H0 H locs) (hsz : ls.size = nL) {k k2 n0 n1 index : Nat} {tm tm2 : List (Option Nat)} (hk : L[k]? = some (1, n0, tm)) (hk2 : L[k2]? = some (1, n1, tm2)) {sp dp n : Int32} (h1 : ¬ sp < 0) (h2 : ¬ dp < 0) (h3 : ¬ n < 0) (h4 : sp.toNatClampNeg + n.toNatClampNeg ≤ n0) (h5 : dp.toNatClampNeg + n.toNatClampNeg ≤ n1)
    (w1 : Cond.methodLink own index arraycopyName ∈ fl_U) (w2 : Cond.native arraycopyName ∈ fl_U) (w3 : Cond.static arraycopyName ∈ fl_U) (w4 : Cond.initialized "java/lang/System" ∈ fl_U) (hframes : 1 ≤ R.frames) (hlocals : (rest.map fun v => v.category).sum + (nativeFrameWords "java/lang/System" "arraycopy" 5 + 11) ≤ R.locals) (hdg : decode cc pc = .ok (.invokestatic index, 3))
    (kk : ∀ (H1 : Heap) (locs1 : List Loc), va_P D vwCl (fl_w L ca ad (mC m k k2 sp.toNatClampNeg dp.toNatClampNeg n.toNatClampNeg)) H1 → va_S (fl_A L ad) H0 H1 locs1 → W p l e R s mm args below meth c H1 locs1 cells slots Q (F0 mm (pc + 3) ls rest)) : W p l e R s mm args below meth c H locs cells slots Q (F0 mm pc ls (.int n :: .int dp :: .ref (ad k2) :: .int sp :: .ref (ad k) :: rest)) := by
  obtain ⟨hx, hb, hml, hown, hts, hE, hi⟩ := X
  have he : (fl_w L ca ad m)[k]? = some (ad k, .inl (ca 1, n0, .inl (m.1 k))) := (fl_at hk).trans (by simp [fl_ent])
  have he2 : (fl_w L ca ad m)[k2]? = some (ad k2, .inl (ca 1, n1, .inl (m.1 k2))) := (fl_at hk2).trans (by simp [fl_ent])
  refine va_copyi (ty := .int) hx hb (hml.trans hsz.symm) hown (hts _ w1) (hts _ w2) (hts _ w3) (hts _ w4) hE.1 hP (fl_D hi) hS k k2 0 0 he he2 rfl rfl rfl h1 h2 h3 h4 h5 (fun _ _ => rfl) hframes hlocals hdg (fun H1 locs1 hP1 _ hS1 => kk H1 locs1 ?_ hS1)
  rw [fl_set (m := m) hk2 (fun i h => mC_ne i h) rfl, show fl_ent ca ad (mC m k k2 sp.toNatClampNeg dp.toNatClampNeg n.toNatClampNeg) k2 (1, n1, tm2) = .inl (ca 1, n1, .inl ((mC m k k2 sp.toNatClampNeg dp.toNatClampNeg n.toNatClampNeg).1 k2)) by simp [fl_ent], mC_eq]
  exact hP1
/-! calls -/
theorem fl_call {v : Option Value} {M : Mem} {st0 : List Value} {a : Array Value} (hr : va_Run p l e R s mm args below meth c H locs cells slots 0 0 (F0 mm pc ls st0) rest (fl_Q L D ca ad v M a) (fl_A L ad)) (hS : va_S (fl_A L ad) H0 H locs)
    (kk : ∀ (H1 : Heap) (locs1 : List Loc), va_P D vwCl (fl_w L ca ad M) H1 → va_S (fl_A L ad) H0 H1 locs1 → W p l e R s mm args below meth c H1 locs1 cells slots Q (F0 mm (pc + 3) ls (v.toList ++ rest))) : W p l e R s mm args below meth c H locs cells slots Q (F0 mm pc ls st0) := by
  intro T hT X
  obtain ⟨v', st₀, t, T', L', h0, X', hL, e1, e2, ⟨hv, hp, hz, hk⟩, st⟩ := hr T hT X
  cases hv
  rw [h0] at hz hk
  obtain ⟨t2, a1, b1⟩ := kk T'.heap (locs ++ L') (by rw [e1]; exact hp)
    ⟨Nat.le_trans hS.1 (by rw [e1]; exact hz), fun q h1 h2 => by rw [e1, hk q (Nat.lt_of_lt_of_le h1 hS.1) h2]; exact hS.2.1 q h1 h2, fun q hq => by
      rcases List.mem_append.mp hq with h | h
      · exact hS.2.2 q h
      · exact hL q h⟩ T' rfl X'
  exact ⟨t2, st t2 a1, b1⟩
def fl_fit (d nLc : Nat) (R : Room) (cells slots : Nat) : Prop := d + 1 ≤ R.frames ∧ 8 + (nLc + 11) + 64 * d ≤ R.locals ∧ cells ≤ R.cells ∧ slots ≤ R.slots
theorem fl_fit_rm {d d0 nLc : Nat} (h : d < d0) (h2 : nLc ≤ 45) : fl_fit d nLc (fl_rm d0) 0 0 := ⟨h, by show 8 + (nLc + 11) + 64 * d ≤ 64 * d0; omega, Nat.le_refl 0, Nat.le_refl 0⟩
theorem fl_callV (X : fl_X p s mm args c cc nL own L D ca ad) (hP : va_P D vwCl (fl_w L ca ad m) H) (hS : va_S (fl_A L ad) H0 H locs) (hsz : ls.size = nL) {index ci n nLc d k : Nat} {y : MethodName} {cd : ByteArray} {ret : Option FieldType} {av : List Value} {v : Option Value} {M : Mem} {tm : List (Option Nat)}
    (hm : fl_mv own index ci y cd nLc ret n) (hM : fl_M l L D ca ad y cd nLc ret d (.ref (ad k) :: av) m v M) (hk : L[k]? = some (0, ci, tm)) (hfit : fl_fit d nLc R cells slots) (hn : av.length = n) (hroom : (rest.map fun v => v.category).sum ≤ 8) (hdg : decode cc pc = .ok (.invokevirtual index, 3)) {st : List Value} (hst : st = av.reverse ++ .ref (ad k) :: rest)
    (kk : ∀ (H1 : Heap) (locs1 : List Loc), va_P D vwCl (fl_w L ca ad M) H1 → va_S (fl_A L ad) H0 H1 locs1 → W p l e R s mm args below meth c H1 locs1 cells slots Q (F0 mm (pc + 3) ls (v.toList ++ rest))) : W p l e R s mm args below meth c H locs cells slots Q (F0 mm pc ls st) := by
  obtain ⟨hx, hb, hml, hown, hts, hE, hi⟩ := X
  obtain ⟨⟨T, N, hc⟩, hG, hy⟩ := hm
  have he : (fl_w L ca ad m)[k]? = some (ad k, .inr (ci, fl_fs ad (m.1 k) 0 tm)) := (fl_at hk).trans (by simp [fl_ent])
  refine fl_call (v := v) (M := M) (va_runV (Ts := fl_U) (As := av) (rest := rest) ⟨hx, hb, hml, hown, hts⟩ hM (cwV n hts hG rfl rfl rfl ⟨rfl, hy⟩ ⟨hfit.1, hfit.2.1⟩) ⟨fl_blind, va_recv hE.1 hP hc he, fun U hU hW => ⟨rfl, by rw [hU]; exact hP, fl_E.warm hW hE⟩⟩ rfl hn hsz hst (lv_room hroom) hdg ⟨hfit.2.2.1, hfit.2.2.2⟩) hS kk
theorem fl_callS (X : fl_X p s mm args c cc nL own L D ca ad) (hP : va_P D vwCl (fl_w L ca ad m) H) (hS : va_S (fl_A L ad) H0 H locs) (hsz : ls.size = nL) {index n nLc d : Nat} {y : MethodName} {cd : ByteArray} {ret : Option FieldType} {av : List Value} {v : Option Value} {M : Mem}
    (hm : fl_ms own index y cd nLc ret n) (hM : fl_M l L D ca ad y cd nLc ret d av m v M) (hfit : fl_fit d nLc R cells slots) (hn : av.length = n) (hroom : (rest.map fun v => v.category).sum ≤ 8) (hdg : decode cc pc = .ok (.invokestatic index, 3)) {st : List Value} (hst : st = av.reverse ++ rest)
    (kk : ∀ (H1 : Heap) (locs1 : List Loc), va_P D vwCl (fl_w L ca ad M) H1 → va_S (fl_A L ad) H0 H1 locs1 → W p l e R s mm args below meth c H1 locs1 cells slots Q (F0 mm (pc + 3) ls (v.toList ++ rest))) : W p l e R s mm args below meth c H locs cells slots Q (F0 mm pc ls st) := by
  obtain ⟨hx, hb, hml, hown, hts, hE, hi⟩ := X
  obtain ⟨hG, hy⟩ := hm
  refine fl_call (v := v) (M := M) (va_runS (Ts := fl_U) (As := av) (rest := rest) ⟨hx, hb, hml, hown, hts⟩ hM (va_cwS n hts hG rfl rfl rfl hy ⟨hfit.1, hfit.2.1⟩) ⟨fl_blind, fun U hU hW => ⟨rfl, by rw [hU]; exact hP, fl_E.warm hW hE⟩⟩ rfl hn hsz hst (lv_room hroom) hdg ⟨hfit.2.2.1, hfit.2.2.2⟩) hS kk
theorem fl_callN (X : fl_X p s mm args c cc nL own L D ca ad) (hP : va_P D vwCl (fl_w L ca ad m) H) (hS : va_S (fl_A L ad) H0 H locs) (hsz : ls.size = nL) {index n nLc d : Nat} {y : MethodName} {host : String} {cd : ByteArray} {ret : Option FieldType} {av : List Value} {v : Option Value} {M : Mem}
    (hm : fl_mn own index y host cd nLc ret n) (hM : fl_M l L D ca ad y cd nLc ret d av m v M) (hfit : fl_fit d nLc R cells slots) (hn : av.length = n) (hroom : (rest.map fun v => v.category).sum ≤ 8) (hdg : decode cc pc = .ok (.invokestatic index, 3)) {st : List Value} (hst : st = av.reverse ++ rest)
    (kk : ∀ (H1 : Heap) (locs1 : List Loc), va_P D vwCl (fl_w L ca ad M) H1 → va_S (fl_A L ad) H0 H1 locs1 → W p l e R s mm args below meth c H1 locs1 cells slots Q (F0 mm (pc + 3) ls (v.toList ++ rest))) : W p l e R s mm args below meth c H locs cells slots Q (F0 mm pc ls st) := by
  obtain ⟨hx, hb, hml, hown, hts, hE, hi⟩ := X
  obtain ⟨hl, hG, hini, hstt, hy⟩ := hm
  refine fl_call (v := v) (M := M) (va_runSN (Ts := fl_U) (As := av) (rest := rest) ⟨hx, hb, hml, hown, hts⟩ hM ⟨va_cnB n hts hG rfl rfl rfl (hE.2 _ hl) (hts _ hini) hy ⟨hfit.1, hfit.2.1⟩, hts _ hstt, trivial⟩ ⟨fl_blind, fun U hU hW => ⟨rfl, by rw [hU]; exact hP, fl_E.warm hW hE⟩⟩ rfl hn hsz hst (lv_room hroom) hdg ⟨hfit.2.2.1, hfit.2.2.2⟩) hS kk
/-! ends -/
theorem fl_iret {v v' : Int32} {M : Mem} (X : fl_X p s mm args c cc nL own L D ca ad) (hr : meth.sig.returnType = some .int) (hlk : meth.locks = false) (hP : va_P D vwCl (fl_w L ca ad m) H) (hS : va_S (fl_A L ad) s.heap H locs) (hdg : decode cc pc = .ok (.ireturn, 1)) (h : some (v, m) = some (v', M)) :
    W p l e R s mm args below meth c H locs 0 0 (MQ below (fl_Q L D ca ad (some (.int v')) M) args s 0 0 (fl_A L ad)) (F0 mm pc ls [.int v]) := by
  cases h
  exact W.iret (v := v) X.1 X.2.1 hr (fun t ht hW => ⟨rfl, by rw [ht]; exact hP, hS.F ht⟩) hS.2.2 hdg hlk
theorem fl_zret {v v' : Int32} {M : Mem} (X : fl_X p s mm args c cc nL own L D ca ad) (hr : meth.sig.returnType = some .boolean) (hlk : meth.locks = false) (hv : v = 0 ∨ v = 1) (hP : va_P D vwCl (fl_w L ca ad m) H) (hS : va_S (fl_A L ad) s.heap H locs) (hdg : decode cc pc = .ok (.ireturn, 1)) (h : some (v, m) = some (v', M)) :
    W p l e R s mm args below meth c H locs 0 0 (MQ below (fl_Q L D ca ad (some (.int v')) M) args s 0 0 (fl_A L ad)) (F0 mm pc ls [.int v]) := by
  cases h
  exact W.zret (v := v) (ty := .boolean) X.1 X.2.1 hr (by rcases hv with rfl | rfl <;> rfl) (fun t ht hW => ⟨rfl, by rw [ht]; exact hP, hS.F ht⟩) hS.2.2 hdg hlk
theorem fl_lret {v v' : Int64} {M : Mem} (X : fl_X p s mm args c cc nL own L D ca ad) (hr : meth.sig.returnType = some .long) (hlk : meth.locks = false) (hP : va_P D vwCl (fl_w L ca ad m) H) (hS : va_S (fl_A L ad) s.heap H locs) (hdg : decode cc pc = .ok (.lreturn, 1)) (h : some (v, m) = some (v', M)) :
    W p l e R s mm args below meth c H locs 0 0 (MQ below (fl_Q L D ca ad (some (.long v')) M) args s 0 0 (fl_A L ad)) (F0 mm pc ls [.long v]) := by
  cases h
  exact W.lret (v := v) X.1 X.2.1 hr (fun t ht hW => ⟨rfl, by rw [ht]; exact hP, hS.F ht⟩) hS.2.2 hdg hlk
theorem fl_vret {v v' : Int32} {M : Mem} (X : fl_X p s mm args c cc nL own L D ca ad) (hr : meth.sig.returnType = none) (hlk : meth.locks = false) (hP : va_P D vwCl (fl_w L ca ad m) H) (hS : va_S (fl_A L ad) s.heap H locs) (hdg : decode cc pc = .ok (.return_, 1)) (h : some (v, m) = some (v', M)) :
    W p l e R s mm args below meth c H locs 0 0 (MQ below (fl_Q L D ca ad none M) args s 0 0 (fl_A L ad)) (F0 mm pc ls []) := by
  cases h
  exact W.vret X.1 X.2.1 hr (fun t ht hW => ⟨rfl, by rw [ht]; exact hP, hS.F ht⟩) hS.2.2 hdg hlk
end FL
/-! the pure side: answers that may be wanting -/
def fl_bd {α β : Type} (o : Option (α × Mem)) (f : α → Mem → Option β) : Option β := match o with
  | some q => f q.1 q.2
  | none => none
theorem fl_bd_e {α β : Type} {o : Option (α × Mem)} {f : α → Mem → Option β} {x : β} (h : fl_bd o f = some x) : ∃ (r : α) (m1 : Mem), o = some (r, m1) ∧ f r m1 = some x := by
  cases o with
  | none => cases h
  | some q => exact ⟨q.1, q.2, rfl, h⟩
theorem fl_bd_s {α β : Type} {f : α → Mem → Option β} {r : α} {m1 : Mem} : fl_bd (some (r, m1)) f = f r m1 := rfl
def fl_ck {α : Type} (c : Prop) [Decidable c] (o : Option α) : Option α := if c then o else none
theorem fl_ck_e {α : Type} {c : Prop} [Decidable c] {o : Option α} {x : α} (h : fl_ck c o = some x) : c ∧ o = some x := by
  unfold fl_ck at h
  split at h
  · exact ⟨by assumption, h⟩
  · cases h
theorem fl_ck_t {α : Type} {c : Prop} [Decidable c] {o : Option α} (h : c) : fl_ck c o = o := if_pos h
theorem fl_if_t {α : Type} {c : Prop} [Decidable c] {A B x : α} (h : (if c then A else B) = x) (hc : c) : A = x := (if_pos hc).symm.trans h
theorem fl_if_f {α : Type} {c : Prop} [Decidable c] {A B x : α} (h : (if c then A else B) = x) (hc : ¬ c) : B = x := (if_neg hc).symm.trans h
end
section
/-! the layouts: 1 of the class, 2 of the reference; links, by the places of their words -/
def L1 : List Kd := [(0, 8, [some 1, some 4, some 14, some 39, some 45, some 24, some 26, some 28, some 32, some 36, some 38]), (0, 6, [some 2, none, some 3, none]), (2, 200, []), (1, 5, []), (0, 0, [none, none, none, none, some 5, some 6, some 7, some 8, some 9, some 10, some 11, some 12, some 13]), (1, 3, []), (1, 3, []), (1, 3, []), (1, 7, []), (1, 7, []), (1, 7, []), (1, 7, []), (1, 7, []), (0, 7, [none, none, none, none]), (0, 0, [none, none, none, none, some 15, some 16, some 17, some 18, some 19, some 20, some 21, some 22, some 23]), (1, 3, []), (1, 3, []), (1, 3, []), (1, 7, []), (1, 7, []), (1, 7, []), (1, 7, []), (1, 7, []), (0, 7, [none, none, none, none]), (0, 4, [some 25, none, none]), (4, 8, [some 51]), (0, 4, [some 27, none, none]), (4, 2, [some 99]), (0, 3, [some 29, some 30, some 31, none]), (1, 6, []), (1, 6, []), (1, 6, []), (0, 2, [some 33, some 34, some 35, none, none]), (4, 8, [some 111]), (1, 7, []), (1, 7, []), (0, 1, [some 37, none, none, none, none, none]), (4, 5, [some 159]), (3, 41, []), (0, 5, [none, some 40, some 41, some 42, some 43, some 44]), (1, 3, []), (1, 3, []), (1, 3, []), (1, 7, []), (1, 7, []), (0, 5, [none, some 46, some 47, some 48, some 49, some 50]), (1, 3, []), (1, 3, []), (1, 3, []), (1, 7, []), (1, 7, []), (0, 5, [none, some 52, some 53, some 54, some 55, some 56]), (1, 3, []), (1, 3, []), (1, 3, []), (1, 7, []), (1, 7, []), (0, 5, [none, some 58, some 59, some 60, some 61, some 62]), (1, 3, []), (1, 3, []), (1, 3, []), (1, 7, []), (1, 7, []), (0, 5, [none, some 64, some 65, some 66, some 67, some 68]), (1, 3, []), (1, 3, []), (1, 3, []), (1, 7, []), (1, 7, []), (0, 5, [none, some 70, some 71, some 72, some 73, some 74]), (1, 3, []), (1, 3, []), (1, 3, []), (1, 7, []), (1, 7, []), (0, 5, [none, some 76, some 77, some 78, some 79, some 80]), (1, 3, []), (1, 3, []), (1, 3, []), (1, 7, []), (1, 7, []), (0, 5, [none, some 82, some 83, some 84, some 85, some 86]), (1, 3, []), (1, 3, []), (1, 3, []), (1, 7, []), (1, 7, []), (0, 5, [none, some 88, some 89, some 90, some 91, some 92]), (1, 3, []), (1, 3, []), (1, 3, []), (1, 7, []), (1, 7, []), (0, 5, [none, some 94, some 95, some 96, some 97, some 98]), (1, 3, []), (1, 3, []), (1, 3, []), (1, 7, []), (1, 7, []), (0, 5, [none, some 100, some 101, some 102, some 103, some 104]), (1, 3, []), (1, 3, []), (1, 3, []), (1, 7, []), (1, 7, []), (0, 5, [none, some 106, some 107, some 108, some 109, some 110]), (1, 3, []), (1, 3, []), (1, 3, []), (1, 7, []), (1, 7, []), (0, 5, [none, some 112, some 113, some 114, some 115, some 116]), (1, 3, []), (1, 3, []), (1, 3, []), (1, 7, []), (1, 7, []), (0, 5, [none, some 118, some 119, some 120, some 121, some 122]), (1, 3, []), (1, 3, []), (1, 3, []), (1, 7, []), (1, 7, []), (0, 5, [none, some 124, some 125, some 126, some 127, some 128]), (1, 3, []), (1, 3, []), (1, 3, []), (1, 7, []), (1, 7, []), (0, 5, [none, some 130, some 131, some 132, some 133, some 134]), (1, 3, []), (1, 3, []), (1, 3, []), (1, 7, []), (1, 7, []), (0, 5, [none, some 136, some 137, some 138, some 139, some 140]), (1, 3, []), (1, 3, []), (1, 3, []), (1, 7, []), (1, 7, []), (0, 5, [none, some 142, some 143, some 144, some 145, some 146]), (1, 3, []), (1, 3, []), (1, 3, []), (1, 7, []), (1, 7, []), (0, 5, [none, some 148, some 149, some 150, some 151, some 152]), (1, 3, []), (1, 3, []), (1, 3, []), (1, 7, []), (1, 7, []), (0, 5, [none, some 154, some 155, some 156, some 157, some 158]), (1, 3, []), (1, 3, []), (1, 3, []), (1, 7, []), (1, 7, []), (0, 5, [none, some 160, some 161, some 162, some 163, some 164]), (1, 3, []), (1, 3, []), (1, 3, []), (1, 7, []), (1, 7, []), (0, 5, [none, some 166, some 167, some 168, some 169, some 170]), (1, 3, []), (1, 3, []), (1, 3, []), (1, 7, []), (1, 7, []), (0, 5, [none, some 172, some 173, some 174, some 175, some 176]), (1, 3, []), (1, 3, []), (1, 3, []), (1, 7, []), (1, 7, []), (0, 5, [none, some 178, some 179, some 180, some 181, some 182]), (1, 3, []), (1, 3, []), (1, 3, []), (1, 7, []), (1, 7, []), (0, 5, [none, some 184, some 185, some 186, some 187, some 188]), (1, 3, []), (1, 3, []), (1, 3, []), (1, 7, []), (1, 7, [])]
def L2 : List Kd := [(0, 9, [some 1, none, none, none, none, none, some 2, none, some 3, some 4, some 5, some 6, some 7, none, some 8, some 9, some 10, some 11, none, none, none, none, none, none, some 12, none, some 13, some 14, some 15, some 16, some 17, some 18]), (1, 380, []), (1, 3, []), (1, 7, []), (1, 7, []), (1, 7, []), (1, 7, []), (1, 7, []), (1, 6, []), (1, 6, []), (1, 6, []), (1, 200, []), (1, 9, []), (1, 35, []), (1, 8, []), (1, 8, []), (1, 7, []), (1, 246, []), (1, 2401, [])]
theorem k1_0 : L1[0]? = some (0, 8, [some 1, some 4, some 14, some 39, some 45, some 24, some 26, some 28, some 32, some 36, some 38]) := rfl
theorem k1_1 : L1[1]? = some (0, 6, [some 2, none, some 3, none]) := rfl
theorem k1_2 : L1[2]? = some (2, 200, []) := rfl
theorem k1_3 : L1[3]? = some (1, 5, []) := rfl
theorem k1_4 : L1[4]? = some (0, 0, [none, none, none, none, some 5, some 6, some 7, some 8, some 9, some 10, some 11, some 12, some 13]) := rfl
theorem k1_5 : L1[5]? = some (1, 3, []) := rfl
theorem k1_6 : L1[6]? = some (1, 3, []) := rfl
theorem k1_7 : L1[7]? = some (1, 3, []) := rfl
theorem k1_8 : L1[8]? = some (1, 7, []) := rfl
theorem k1_9 : L1[9]? = some (1, 7, []) := rfl
theorem k1_10 : L1[10]? = some (1, 7, []) := rfl
theorem k1_11 : L1[11]? = some (1, 7, []) := rfl
theorem k1_12 : L1[12]? = some (1, 7, []) := rfl
theorem k1_13 : L1[13]? = some (0, 7, [none, none, none, none]) := rfl
theorem k1_14 : L1[14]? = some (0, 0, [none, none, none, none, some 15, some 16, some 17, some 18, some 19, some 20, some 21, some 22, some 23]) := rfl
theorem k1_15 : L1[15]? = some (1, 3, []) := rfl
theorem k1_16 : L1[16]? = some (1, 3, []) := rfl
theorem k1_17 : L1[17]? = some (1, 3, []) := rfl
theorem k1_18 : L1[18]? = some (1, 7, []) := rfl
theorem k1_19 : L1[19]? = some (1, 7, []) := rfl
theorem k1_20 : L1[20]? = some (1, 7, []) := rfl
theorem k1_21 : L1[21]? = some (1, 7, []) := rfl
theorem k1_22 : L1[22]? = some (1, 7, []) := rfl
theorem k1_23 : L1[23]? = some (0, 7, [none, none, none, none]) := rfl
theorem k1_24 : L1[24]? = some (0, 4, [some 25, none, none]) := rfl
theorem k1_25 : L1[25]? = some (4, 8, [some 51]) := rfl
theorem k1_26 : L1[26]? = some (0, 4, [some 27, none, none]) := rfl
theorem k1_27 : L1[27]? = some (4, 2, [some 99]) := rfl
theorem k1_28 : L1[28]? = some (0, 3, [some 29, some 30, some 31, none]) := rfl
theorem k1_29 : L1[29]? = some (1, 6, []) := rfl
theorem k1_30 : L1[30]? = some (1, 6, []) := rfl
theorem k1_31 : L1[31]? = some (1, 6, []) := rfl
theorem k1_32 : L1[32]? = some (0, 2, [some 33, some 34, some 35, none, none]) := rfl
theorem k1_33 : L1[33]? = some (4, 8, [some 111]) := rfl
theorem k1_34 : L1[34]? = some (1, 7, []) := rfl
theorem k1_35 : L1[35]? = some (1, 7, []) := rfl
theorem k1_36 : L1[36]? = some (0, 1, [some 37, none, none, none, none, none]) := rfl
theorem k1_37 : L1[37]? = some (4, 5, [some 159]) := rfl
theorem k1_38 : L1[38]? = some (3, 41, []) := rfl
theorem k1_39 : L1[39]? = some (0, 5, [none, some 40, some 41, some 42, some 43, some 44]) := rfl
theorem k1_40 : L1[40]? = some (1, 3, []) := rfl
theorem k1_41 : L1[41]? = some (1, 3, []) := rfl
theorem k1_42 : L1[42]? = some (1, 3, []) := rfl
theorem k1_43 : L1[43]? = some (1, 7, []) := rfl
theorem k1_44 : L1[44]? = some (1, 7, []) := rfl
theorem k1_45 : L1[45]? = some (0, 5, [none, some 46, some 47, some 48, some 49, some 50]) := rfl
theorem k1_46 : L1[46]? = some (1, 3, []) := rfl
theorem k1_47 : L1[47]? = some (1, 3, []) := rfl
theorem k1_48 : L1[48]? = some (1, 3, []) := rfl
theorem k1_49 : L1[49]? = some (1, 7, []) := rfl
theorem k1_50 : L1[50]? = some (1, 7, []) := rfl
theorem k1_51 : L1[51]? = some (0, 5, [none, some 52, some 53, some 54, some 55, some 56]) := rfl
theorem k1_52 : L1[52]? = some (1, 3, []) := rfl
theorem k1_53 : L1[53]? = some (1, 3, []) := rfl
theorem k1_54 : L1[54]? = some (1, 3, []) := rfl
theorem k1_55 : L1[55]? = some (1, 7, []) := rfl
theorem k1_56 : L1[56]? = some (1, 7, []) := rfl
theorem k1_57 : L1[57]? = some (0, 5, [none, some 58, some 59, some 60, some 61, some 62]) := rfl
theorem k1_58 : L1[58]? = some (1, 3, []) := rfl
theorem k1_59 : L1[59]? = some (1, 3, []) := rfl
theorem k1_60 : L1[60]? = some (1, 3, []) := rfl
theorem k1_61 : L1[61]? = some (1, 7, []) := rfl
theorem k1_62 : L1[62]? = some (1, 7, []) := rfl
theorem k1_63 : L1[63]? = some (0, 5, [none, some 64, some 65, some 66, some 67, some 68]) := rfl
theorem k1_64 : L1[64]? = some (1, 3, []) := rfl
theorem k1_65 : L1[65]? = some (1, 3, []) := rfl
theorem k1_66 : L1[66]? = some (1, 3, []) := rfl
theorem k1_67 : L1[67]? = some (1, 7, []) := rfl
theorem k1_68 : L1[68]? = some (1, 7, []) := rfl
theorem k1_69 : L1[69]? = some (0, 5, [none, some 70, some 71, some 72, some 73, some 74]) := rfl
theorem k1_70 : L1[70]? = some (1, 3, []) := rfl
theorem k1_71 : L1[71]? = some (1, 3, []) := rfl
theorem k1_72 : L1[72]? = some (1, 3, []) := rfl
theorem k1_73 : L1[73]? = some (1, 7, []) := rfl
theorem k1_74 : L1[74]? = some (1, 7, []) := rfl
theorem k1_75 : L1[75]? = some (0, 5, [none, some 76, some 77, some 78, some 79, some 80]) := rfl
theorem k1_76 : L1[76]? = some (1, 3, []) := rfl
theorem k1_77 : L1[77]? = some (1, 3, []) := rfl
theorem k1_78 : L1[78]? = some (1, 3, []) := rfl
theorem k1_79 : L1[79]? = some (1, 7, []) := rfl
theorem k1_80 : L1[80]? = some (1, 7, []) := rfl
theorem k1_81 : L1[81]? = some (0, 5, [none, some 82, some 83, some 84, some 85, some 86]) := rfl
theorem k1_82 : L1[82]? = some (1, 3, []) := rfl
theorem k1_83 : L1[83]? = some (1, 3, []) := rfl
theorem k1_84 : L1[84]? = some (1, 3, []) := rfl
theorem k1_85 : L1[85]? = some (1, 7, []) := rfl
theorem k1_86 : L1[86]? = some (1, 7, []) := rfl
theorem k1_87 : L1[87]? = some (0, 5, [none, some 88, some 89, some 90, some 91, some 92]) := rfl
theorem k1_88 : L1[88]? = some (1, 3, []) := rfl
theorem k1_89 : L1[89]? = some (1, 3, []) := rfl
theorem k1_90 : L1[90]? = some (1, 3, []) := rfl
theorem k1_91 : L1[91]? = some (1, 7, []) := rfl
theorem k1_92 : L1[92]? = some (1, 7, []) := rfl
theorem k1_93 : L1[93]? = some (0, 5, [none, some 94, some 95, some 96, some 97, some 98]) := rfl
theorem k1_94 : L1[94]? = some (1, 3, []) := rfl
theorem k1_95 : L1[95]? = some (1, 3, []) := rfl
theorem k1_96 : L1[96]? = some (1, 3, []) := rfl
theorem k1_97 : L1[97]? = some (1, 7, []) := rfl
theorem k1_98 : L1[98]? = some (1, 7, []) := rfl
theorem k1_99 : L1[99]? = some (0, 5, [none, some 100, some 101, some 102, some 103, some 104]) := rfl
theorem k1_100 : L1[100]? = some (1, 3, []) := rfl
theorem k1_101 : L1[101]? = some (1, 3, []) := rfl
theorem k1_102 : L1[102]? = some (1, 3, []) := rfl
theorem k1_103 : L1[103]? = some (1, 7, []) := rfl
theorem k1_104 : L1[104]? = some (1, 7, []) := rfl
theorem k1_105 : L1[105]? = some (0, 5, [none, some 106, some 107, some 108, some 109, some 110]) := rfl
theorem k1_106 : L1[106]? = some (1, 3, []) := rfl
theorem k1_107 : L1[107]? = some (1, 3, []) := rfl
theorem k1_108 : L1[108]? = some (1, 3, []) := rfl
theorem k1_109 : L1[109]? = some (1, 7, []) := rfl
theorem k1_110 : L1[110]? = some (1, 7, []) := rfl
theorem k1_111 : L1[111]? = some (0, 5, [none, some 112, some 113, some 114, some 115, some 116]) := rfl
theorem k1_112 : L1[112]? = some (1, 3, []) := rfl
theorem k1_113 : L1[113]? = some (1, 3, []) := rfl
theorem k1_114 : L1[114]? = some (1, 3, []) := rfl
theorem k1_115 : L1[115]? = some (1, 7, []) := rfl
theorem k1_116 : L1[116]? = some (1, 7, []) := rfl
theorem k1_117 : L1[117]? = some (0, 5, [none, some 118, some 119, some 120, some 121, some 122]) := rfl
theorem k1_118 : L1[118]? = some (1, 3, []) := rfl
theorem k1_119 : L1[119]? = some (1, 3, []) := rfl
theorem k1_120 : L1[120]? = some (1, 3, []) := rfl
theorem k1_121 : L1[121]? = some (1, 7, []) := rfl
theorem k1_122 : L1[122]? = some (1, 7, []) := rfl
theorem k1_123 : L1[123]? = some (0, 5, [none, some 124, some 125, some 126, some 127, some 128]) := rfl
theorem k1_124 : L1[124]? = some (1, 3, []) := rfl
theorem k1_125 : L1[125]? = some (1, 3, []) := rfl
theorem k1_126 : L1[126]? = some (1, 3, []) := rfl
theorem k1_127 : L1[127]? = some (1, 7, []) := rfl
theorem k1_128 : L1[128]? = some (1, 7, []) := rfl
theorem k1_129 : L1[129]? = some (0, 5, [none, some 130, some 131, some 132, some 133, some 134]) := rfl
theorem k1_130 : L1[130]? = some (1, 3, []) := rfl
theorem k1_131 : L1[131]? = some (1, 3, []) := rfl
theorem k1_132 : L1[132]? = some (1, 3, []) := rfl
theorem k1_133 : L1[133]? = some (1, 7, []) := rfl
theorem k1_134 : L1[134]? = some (1, 7, []) := rfl
theorem k1_135 : L1[135]? = some (0, 5, [none, some 136, some 137, some 138, some 139, some 140]) := rfl
theorem k1_136 : L1[136]? = some (1, 3, []) := rfl
theorem k1_137 : L1[137]? = some (1, 3, []) := rfl
theorem k1_138 : L1[138]? = some (1, 3, []) := rfl
theorem k1_139 : L1[139]? = some (1, 7, []) := rfl
theorem k1_140 : L1[140]? = some (1, 7, []) := rfl
theorem k1_141 : L1[141]? = some (0, 5, [none, some 142, some 143, some 144, some 145, some 146]) := rfl
theorem k1_142 : L1[142]? = some (1, 3, []) := rfl
theorem k1_143 : L1[143]? = some (1, 3, []) := rfl
theorem k1_144 : L1[144]? = some (1, 3, []) := rfl
theorem k1_145 : L1[145]? = some (1, 7, []) := rfl
theorem k1_146 : L1[146]? = some (1, 7, []) := rfl
theorem k1_147 : L1[147]? = some (0, 5, [none, some 148, some 149, some 150, some 151, some 152]) := rfl
theorem k1_148 : L1[148]? = some (1, 3, []) := rfl
theorem k1_149 : L1[149]? = some (1, 3, []) := rfl
theorem k1_150 : L1[150]? = some (1, 3, []) := rfl
theorem k1_151 : L1[151]? = some (1, 7, []) := rfl
theorem k1_152 : L1[152]? = some (1, 7, []) := rfl
theorem k1_153 : L1[153]? = some (0, 5, [none, some 154, some 155, some 156, some 157, some 158]) := rfl
theorem k1_154 : L1[154]? = some (1, 3, []) := rfl
theorem k1_155 : L1[155]? = some (1, 3, []) := rfl
theorem k1_156 : L1[156]? = some (1, 3, []) := rfl
theorem k1_157 : L1[157]? = some (1, 7, []) := rfl
theorem k1_158 : L1[158]? = some (1, 7, []) := rfl
theorem k1_159 : L1[159]? = some (0, 5, [none, some 160, some 161, some 162, some 163, some 164]) := rfl
theorem k1_160 : L1[160]? = some (1, 3, []) := rfl
theorem k1_161 : L1[161]? = some (1, 3, []) := rfl
theorem k1_162 : L1[162]? = some (1, 3, []) := rfl
theorem k1_163 : L1[163]? = some (1, 7, []) := rfl
theorem k1_164 : L1[164]? = some (1, 7, []) := rfl
theorem k1_165 : L1[165]? = some (0, 5, [none, some 166, some 167, some 168, some 169, some 170]) := rfl
theorem k1_166 : L1[166]? = some (1, 3, []) := rfl
theorem k1_167 : L1[167]? = some (1, 3, []) := rfl
theorem k1_168 : L1[168]? = some (1, 3, []) := rfl
theorem k1_169 : L1[169]? = some (1, 7, []) := rfl
theorem k1_170 : L1[170]? = some (1, 7, []) := rfl
theorem k1_171 : L1[171]? = some (0, 5, [none, some 172, some 173, some 174, some 175, some 176]) := rfl
theorem k1_172 : L1[172]? = some (1, 3, []) := rfl
theorem k1_173 : L1[173]? = some (1, 3, []) := rfl
theorem k1_174 : L1[174]? = some (1, 3, []) := rfl
theorem k1_175 : L1[175]? = some (1, 7, []) := rfl
theorem k1_176 : L1[176]? = some (1, 7, []) := rfl
theorem k1_177 : L1[177]? = some (0, 5, [none, some 178, some 179, some 180, some 181, some 182]) := rfl
theorem k1_178 : L1[178]? = some (1, 3, []) := rfl
theorem k1_179 : L1[179]? = some (1, 3, []) := rfl
theorem k1_180 : L1[180]? = some (1, 3, []) := rfl
theorem k1_181 : L1[181]? = some (1, 7, []) := rfl
theorem k1_182 : L1[182]? = some (1, 7, []) := rfl
theorem k1_183 : L1[183]? = some (0, 5, [none, some 184, some 185, some 186, some 187, some 188]) := rfl
theorem k1_184 : L1[184]? = some (1, 3, []) := rfl
theorem k1_185 : L1[185]? = some (1, 3, []) := rfl
theorem k1_186 : L1[186]? = some (1, 3, []) := rfl
theorem k1_187 : L1[187]? = some (1, 7, []) := rfl
theorem k1_188 : L1[188]? = some (1, 7, []) := rfl
theorem k2_0 : L2[0]? = some (0, 9, [some 1, none, none, none, none, none, some 2, none, some 3, some 4, some 5, some 6, some 7, none, some 8, some 9, some 10, some 11, none, none, none, none, none, none, some 12, none, some 13, some 14, some 15, some 16, some 17, some 18]) := rfl
theorem k2_1 : L2[1]? = some (1, 380, []) := rfl
theorem k2_2 : L2[2]? = some (1, 3, []) := rfl
theorem k2_3 : L2[3]? = some (1, 7, []) := rfl
theorem k2_4 : L2[4]? = some (1, 7, []) := rfl
theorem k2_5 : L2[5]? = some (1, 7, []) := rfl
theorem k2_6 : L2[6]? = some (1, 7, []) := rfl
theorem k2_7 : L2[7]? = some (1, 7, []) := rfl
theorem k2_8 : L2[8]? = some (1, 6, []) := rfl
theorem k2_9 : L2[9]? = some (1, 6, []) := rfl
theorem k2_10 : L2[10]? = some (1, 6, []) := rfl
theorem k2_11 : L2[11]? = some (1, 200, []) := rfl
theorem k2_12 : L2[12]? = some (1, 9, []) := rfl
theorem k2_13 : L2[13]? = some (1, 35, []) := rfl
theorem k2_14 : L2[14]? = some (1, 8, []) := rfl
theorem k2_15 : L2[15]? = some (1, 8, []) := rfl
theorem k2_16 : L2[16]? = some (1, 7, []) := rfl
theorem k2_17 : L2[17]? = some (1, 246, []) := rfl
theorem k2_18 : L2[18]? = some (1, 2401, []) := rfl
def isStand (K : Nat) : Prop := L1[K]? = some (0, 5, [none, some (K + 1), some (K + 2), some (K + 3), some (K + 4), some (K + 5)]) ∧ L1[K + 1]? = some (1, 3, []) ∧ L1[K + 2]? = some (1, 3, []) ∧ L1[K + 3]? = some (1, 3, []) ∧ L1[K + 4]? = some (1, 7, []) ∧ L1[K + 5]? = some (1, 7, [])
def isCity (K : Nat) : Prop := L1[K]? = some (0, 0, [none, none, none, none, some (K + 1), some (K + 2), some (K + 3), some (K + 4), some (K + 5), some (K + 6), some (K + 7), some (K + 8), some (K + 9)]) ∧ L1[K + 1]? = some (1, 3, []) ∧ L1[K + 2]? = some (1, 3, []) ∧ L1[K + 3]? = some (1, 3, []) ∧ L1[K + 4]? = some (1, 7, []) ∧ L1[K + 5]? = some (1, 7, []) ∧ L1[K + 6]? = some (1, 7, []) ∧ L1[K + 7]? = some (1, 7, []) ∧ L1[K + 8]? = some (1, 7, []) ∧ L1[K + 9]? = some (0, 7, [none, none, none, none])
theorem st_39 : isStand 39 := ⟨rfl, rfl, rfl, rfl, rfl, rfl⟩
theorem st_45 : isStand 45 := ⟨rfl, rfl, rfl, rfl, rfl, rfl⟩
theorem st_51 : isStand 51 := ⟨rfl, rfl, rfl, rfl, rfl, rfl⟩
theorem st_57 : isStand 57 := ⟨rfl, rfl, rfl, rfl, rfl, rfl⟩
theorem st_63 : isStand 63 := ⟨rfl, rfl, rfl, rfl, rfl, rfl⟩
theorem st_69 : isStand 69 := ⟨rfl, rfl, rfl, rfl, rfl, rfl⟩
theorem st_75 : isStand 75 := ⟨rfl, rfl, rfl, rfl, rfl, rfl⟩
theorem st_81 : isStand 81 := ⟨rfl, rfl, rfl, rfl, rfl, rfl⟩
theorem st_87 : isStand 87 := ⟨rfl, rfl, rfl, rfl, rfl, rfl⟩
theorem st_93 : isStand 93 := ⟨rfl, rfl, rfl, rfl, rfl, rfl⟩
theorem st_99 : isStand 99 := ⟨rfl, rfl, rfl, rfl, rfl, rfl⟩
theorem st_105 : isStand 105 := ⟨rfl, rfl, rfl, rfl, rfl, rfl⟩
theorem st_111 : isStand 111 := ⟨rfl, rfl, rfl, rfl, rfl, rfl⟩
theorem st_117 : isStand 117 := ⟨rfl, rfl, rfl, rfl, rfl, rfl⟩
theorem st_123 : isStand 123 := ⟨rfl, rfl, rfl, rfl, rfl, rfl⟩
theorem st_129 : isStand 129 := ⟨rfl, rfl, rfl, rfl, rfl, rfl⟩
theorem st_135 : isStand 135 := ⟨rfl, rfl, rfl, rfl, rfl, rfl⟩
theorem st_141 : isStand 141 := ⟨rfl, rfl, rfl, rfl, rfl, rfl⟩
theorem st_147 : isStand 147 := ⟨rfl, rfl, rfl, rfl, rfl, rfl⟩
theorem st_153 : isStand 153 := ⟨rfl, rfl, rfl, rfl, rfl, rfl⟩
theorem st_159 : isStand 159 := ⟨rfl, rfl, rfl, rfl, rfl, rfl⟩
theorem st_165 : isStand 165 := ⟨rfl, rfl, rfl, rfl, rfl, rfl⟩
theorem st_171 : isStand 171 := ⟨rfl, rfl, rfl, rfl, rfl, rfl⟩
theorem st_177 : isStand 177 := ⟨rfl, rfl, rfl, rfl, rfl, rfl⟩
theorem st_183 : isStand 183 := ⟨rfl, rfl, rfl, rfl, rfl, rfl⟩
theorem ct_4 : isCity 4 := ⟨rfl, rfl, rfl, rfl, rfl, rfl, rfl, rfl, rfl, rfl⟩
theorem ct_14 : isCity 14 := ⟨rfl, rfl, rfl, rfl, rfl, rfl, rfl, rfl, rfl, rfl⟩
theorem fl_stn_51 : ∀ j, j < 8 → isStand (51 + 6 * j)
  | 0, _ => st_51
  | 1, _ => st_57
  | 2, _ => st_63
  | 3, _ => st_69
  | 4, _ => st_75
  | 5, _ => st_81
  | 6, _ => st_87
  | 7, _ => st_93
  | j + 8, h => absurd h (by omega)
theorem fl_st_51 {i : Int32} (h : 0 ≤ i.toInt ∧ i.toInt < 8) : isStand (51 + 6 * i.toNatClampNeg) := fl_stn_51 _ (by have h1 : i.toNatClampNeg = i.toInt.toNat := rfl; omega)
theorem fl_stn_99 : ∀ j, j < 2 → isStand (99 + 6 * j)
  | 0, _ => st_99
  | 1, _ => st_105
  | j + 2, h => absurd h (by omega)
theorem fl_st_99 {i : Int32} (h : 0 ≤ i.toInt ∧ i.toInt < 2) : isStand (99 + 6 * i.toNatClampNeg) := fl_stn_99 _ (by have h1 : i.toNatClampNeg = i.toInt.toNat := rfl; omega)
theorem fl_stn_111 : ∀ j, j < 8 → isStand (111 + 6 * j)
  | 0, _ => st_111
  | 1, _ => st_117
  | 2, _ => st_123
  | 3, _ => st_129
  | 4, _ => st_135
  | 5, _ => st_141
  | 6, _ => st_147
  | 7, _ => st_153
  | j + 8, h => absurd h (by omega)
theorem fl_st_111 {i : Int32} (h : 0 ≤ i.toInt ∧ i.toInt < 8) : isStand (111 + 6 * i.toNatClampNeg) := fl_stn_111 _ (by have h1 : i.toNatClampNeg = i.toInt.toNat := rfl; omega)
theorem fl_stn_159 : ∀ j, j < 5 → isStand (159 + 6 * j)
  | 0, _ => st_159
  | 1, _ => st_165
  | 2, _ => st_171
  | 3, _ => st_177
  | 4, _ => st_183
  | j + 5, h => absurd h (by omega)
theorem fl_st_159 {i : Int32} (h : 0 ≤ i.toInt ∧ i.toInt < 5) : isStand (159 + 6 * i.toNatClampNeg) := fl_stn_159 _ (by have h1 : i.toNatClampNeg = i.toInt.toNat := rfl; omega)
theorem fl_one3 : ∀ i q, L1[i]? = some q → q.1 = 3 → i = 38 := by
  have h : ∀ i, i < 189 → ∀ q, L1[i]? = some q → q.1 = 3 → i = 38 := by
    intro i hi q hq h3
    have : ((List.range 189).all fun i => match L1[i]? with | some q => decide (q.1 = 3 → i = 38) | none => true) = true := by decide +kernel
    have h1 := List.all_eq_true.mp this i (List.mem_range.mpr hi)
    rw [hq] at h1
    exact of_decide_eq_true h1 h3
  intro i q hq h3
  exact h i (by have := (List.getElem?_eq_some_iff.mp hq).1; exact this) q hq h3
theorem fl_nz {v : Int32} (h : v = 0 ∨ v = 1) : narrow .boolean (.int v) = .int v := by rcases h with rfl | rfl <;> rfl
theorem fl_fz {v : Int32} (h : v = 0 ∨ v = 1) : fits .boolean (.int v) = true := by rcases h with rfl | rfl <;> rfl
theorem fl_r1 {d : Nat} (h : 1 ≤ d) : 1 ≤ (fl_rm d).frames := h
theorem fl_r2 {d : Nat} {n : Nat} (h : 1 ≤ d) (h2 : n ≤ 8) : n + 13 ≤ (fl_rm d).locals := by show n + 13 ≤ 64 * d; omega
theorem fl_nfw : nativeFrameWords "java/lang/System" "arraycopy" 5 + 11 ≤ 50 := by decide +kernel
theorem fl_r3 {d : Nat} {n : Nat} (h : 1 ≤ d) (h2 : n ≤ 8) : n + (nativeFrameWords "java/lang/System" "arraycopy" 5 + 11) ≤ (fl_rm d).locals := by
  have := fl_nfw
  show n + _ ≤ 64 * d
  omega
theorem inU_X0 : ∀ w ∈ u_ws RX0 TX0 13, w ∈ fl_U := fl_ws [149, 151, 153, 155, 157, 159, 161, 163, 165, 167, 169, 171, 173] (by decide +kernel) (by decide +kernel)
theorem inU_X1 : ∀ w ∈ u_ws RX1 TX1 6, w ∈ fl_U := fl_ws [302, 304, 306, 308, 310, 312] (by decide +kernel) (by decide +kernel)
theorem inU_X2 : ∀ w ∈ u_ws RX2 TX2 5, w ∈ fl_U := fl_ws [275, 277, 279, 281, 283] (by decide +kernel) (by decide +kernel)
theorem inU_X3 : ∀ w ∈ u_ws RX3 TX3 4, w ∈ fl_U := fl_ws [250, 252, 254, 256] (by decide +kernel) (by decide +kernel)
theorem inU_X4 : ∀ w ∈ u_ws RX4 TX4 3, w ∈ fl_U := fl_ws [229, 231, 233] (by decide +kernel) (by decide +kernel)
theorem inU_X5 : ∀ w ∈ u_ws RX5 TX5 6, w ∈ fl_U := fl_ws [200, 202, 204, 206, 208, 210] (by decide +kernel) (by decide +kernel)
theorem inU_X6 : ∀ w ∈ u_ws RX6 TX6 4, w ∈ fl_U := fl_ws [81, 83, 85, 87] (by decide +kernel) (by decide +kernel)
theorem inU_X7 : ∀ w ∈ u_ws RX7 TX7 4, w ∈ fl_U := fl_ws [112, 114, 116, 118] (by decide +kernel) (by decide +kernel)
theorem inU_X8 : ∀ w ∈ u_ws RX8 TX8 11, w ∈ fl_U := fl_ws [433, 435, 437, 439, 441, 443, 445, 447, 449, 451, 453] (by decide +kernel) (by decide +kernel)
theorem inU_X9 : ∀ w ∈ u_ws RX9 TX9 32, w ∈ fl_U := fl_ws [778, 780, 782, 784, 786, 788, 790, 792, 794, 796, 798, 800, 802, 804, 806, 808, 810, 812, 814, 816, 818, 820, 822, 824, 826, 828, 830, 832, 834, 836, 838, 840] (by decide +kernel) (by decide +kernel)
theorem wq_0 : Cond.selects "CabTears$Text" ⟨"CabTears$Text", "readNumbers", "(II)Z"⟩ ⟨"CabTears$Text", "readNumbers", "(II)Z"⟩ ∈ fl_U := fl_w1 0 (by decide +kernel) (by decide +kernel)
theorem wq_1 : Cond.selects "CabTears$Text" ⟨"CabTears$Text", "tell", "(LCabTears$City;C)Z"⟩ ⟨"CabTears$Text", "tell", "(LCabTears$City;C)Z"⟩ ∈ fl_U := fl_w1 1 (by decide +kernel) (by decide +kernel)
theorem wq_2 : Cond.selects "CabTears" ⟨"CabTears", "begin", "()V"⟩ ⟨"CabTears", "begin", "()V"⟩ ∈ fl_U := fl_w1 2 (by decide +kernel) (by decide +kernel)
theorem wq_3 : Cond.selects "CabTears$Orders" ⟨"CabTears$Orders", "keepIfFewer", "(I)V"⟩ ⟨"CabTears$Orders", "keepIfFewer", "(I)V"⟩ ∈ fl_U := fl_w1 3 (by decide +kernel) (by decide +kernel)
theorem wq_4 : Cond.selects "CabTears" ⟨"CabTears", "lateFrom", "(II)I"⟩ ⟨"CabTears", "lateFrom", "(II)I"⟩ ∈ fl_U := fl_w1 4 (by decide +kernel) (by decide +kernel)
theorem wq_5 : Cond.selects "CabTears" ⟨"CabTears", "liveOneDay", "()V"⟩ ⟨"CabTears", "liveOneDay", "()V"⟩ ∈ fl_U := fl_w1 5 (by decide +kernel) (by decide +kernel)
theorem wq_6 : Cond.selects "CabTears" ⟨"CabTears", "dayLike", "(I)I"⟩ ⟨"CabTears", "dayLike", "(I)I"⟩ ∈ fl_U := fl_w1 6 (by decide +kernel) (by decide +kernel)
theorem wq_7 : Cond.selects "CabTears" ⟨"CabTears", "tearsOfOthers", "(I)I"⟩ ⟨"CabTears", "tearsOfOthers", "(I)I"⟩ ∈ fl_U := fl_w1 7 (by decide +kernel) (by decide +kernel)
theorem wq_8 : Cond.selects "CabTears" ⟨"CabTears", "fitsSeen", "(III)Z"⟩ ⟨"CabTears", "fitsSeen", "(III)Z"⟩ ∈ fl_U := fl_w1 8 (by decide +kernel) (by decide +kernel)
theorem wq_9 : Cond.selects "CabTears" ⟨"CabTears", "lateAmong", "(I)I"⟩ ⟨"CabTears", "lateAmong", "(I)I"⟩ ∈ fl_U := fl_w1 9 (by decide +kernel) (by decide +kernel)
theorem wq_10 : Cond.selects "CabTears" ⟨"CabTears", "howManyWept", "()I"⟩ ⟨"CabTears", "howManyWept", "()I"⟩ ∈ fl_U := fl_w1 10 (by decide +kernel) (by decide +kernel)
theorem wq_11 : Cond.selects "CabTearsModel" ⟨"CabTearsModel", "addsCab", "(III)V"⟩ ⟨"CabTearsModel", "addsCab", "(III)V"⟩ ∈ fl_U := fl_w1 11 (by decide +kernel) (by decide +kernel)
theorem wq_12 : Cond.selects "CabTearsModel" ⟨"CabTearsModel", "addsFare", "(IIIII)V"⟩ ⟨"CabTearsModel", "addsFare", "(IIIII)V"⟩ ∈ fl_U := fl_w1 12 (by decide +kernel) (by decide +kernel)
theorem wq_13 : Cond.selects "CabTearsModel" ⟨"CabTearsModel", "begins", "()V"⟩ ⟨"CabTearsModel", "begins", "()V"⟩ ∈ fl_U := fl_w1 13 (by decide +kernel) (by decide +kernel)
theorem wq_14 : Cond.selects "CabTearsModel" ⟨"CabTearsModel", "faultOf", "()I"⟩ ⟨"CabTearsModel", "faultOf", "()I"⟩ ∈ fl_U := fl_w1 14 (by decide +kernel) (by decide +kernel)
theorem wq_15 : Cond.selects "CabTearsModel" ⟨"CabTearsModel", "takesItem", "()Z"⟩ ⟨"CabTearsModel", "takesItem", "()Z"⟩ ∈ fl_U := fl_w1 15 (by decide +kernel) (by decide +kernel)
theorem wq_16 : Cond.selects "CabTearsModel" ⟨"CabTearsModel", "letterAt", "(I)I"⟩ ⟨"CabTearsModel", "letterAt", "(I)I"⟩ ∈ fl_U := fl_w1 16 (by decide +kernel) (by decide +kernel)
theorem wq_17 : Cond.selects "CabTearsModel" ⟨"CabTearsModel", "takesRows", "()Z"⟩ ⟨"CabTearsModel", "takesRows", "()Z"⟩ ∈ fl_U := fl_w1 17 (by decide +kernel) (by decide +kernel)
theorem wq_18 : Cond.selects "CabTearsModel" ⟨"CabTearsModel", "takesNumber", "(III)Z"⟩ ⟨"CabTearsModel", "takesNumber", "(III)Z"⟩ ∈ fl_U := fl_w1 18 (by decide +kernel) (by decide +kernel)
theorem wq_19 : Cond.selects "CabTearsModel" ⟨"CabTearsModel", "takesCab", "()Z"⟩ ⟨"CabTearsModel", "takesCab", "()Z"⟩ ∈ fl_U := fl_w1 19 (by decide +kernel) (by decide +kernel)
theorem wq_20 : Cond.selects "CabTearsModel" ⟨"CabTearsModel", "takesFare", "()Z"⟩ ⟨"CabTearsModel", "takesFare", "()Z"⟩ ∈ fl_U := fl_w1 20 (by decide +kernel) (by decide +kernel)
theorem wq_21 : Cond.selects "CabTearsModel" ⟨"CabTearsModel", "places", "()I"⟩ ⟨"CabTearsModel", "places", "()I"⟩ ∈ fl_U := fl_w1 21 (by decide +kernel) (by decide +kernel)
theorem wq_22 : Cond.selects "CabTearsModel" ⟨"CabTearsModel", "isPlace", "(I)Z"⟩ ⟨"CabTearsModel", "isPlace", "(I)Z"⟩ ∈ fl_U := fl_w1 22 (by decide +kernel) (by decide +kernel)
theorem wq_23 : Cond.selects "CabTearsModel" ⟨"CabTearsModel", "farOf", "(II)I"⟩ ⟨"CabTearsModel", "farOf", "(II)I"⟩ ∈ fl_U := fl_w1 23 (by decide +kernel) (by decide +kernel)
theorem wq_24 : Cond.selects "CabTearsModel" ⟨"CabTearsModel", "isCab", "(I)Z"⟩ ⟨"CabTearsModel", "isCab", "(I)Z"⟩ ∈ fl_U := fl_w1 24 (by decide +kernel) (by decide +kernel)
theorem wq_25 : Cond.selects "CabTearsModel" ⟨"CabTearsModel", "isFare", "(I)Z"⟩ ⟨"CabTearsModel", "isFare", "(I)Z"⟩ ∈ fl_U := fl_w1 25 (by decide +kernel) (by decide +kernel)
theorem wq_26 : Cond.selects "CabTearsModel" ⟨"CabTearsModel", "minds", "()V"⟩ ⟨"CabTearsModel", "minds", "()V"⟩ ∈ fl_U := fl_w1 26 (by decide +kernel) (by decide +kernel)
theorem wq_27 : Cond.selects "CabTearsModel" ⟨"CabTearsModel", "copy", "(II)V"⟩ ⟨"CabTearsModel", "copy", "(II)V"⟩ ∈ fl_U := fl_w1 27 (by decide +kernel) (by decide +kernel)
theorem wq_28 : Cond.selects "CabTearsModel" ⟨"CabTearsModel", "ridesAsOneDoes", "(III)Z"⟩ ⟨"CabTearsModel", "ridesAsOneDoes", "(III)Z"⟩ ∈ fl_U := fl_w1 28 (by decide +kernel) (by decide +kernel)
theorem wq_29 : Cond.selects "CabTearsModel" ⟨"CabTearsModel", "lateBy", "(III)I"⟩ ⟨"CabTearsModel", "lateBy", "(III)I"⟩ ∈ fl_U := fl_w1 29 (by decide +kernel) (by decide +kernel)
theorem wq_30 : Cond.selects "CabTearsModel" ⟨"CabTearsModel", "freeBy", "(III)I"⟩ ⟨"CabTearsModel", "freeBy", "(III)I"⟩ ∈ fl_U := fl_w1 30 (by decide +kernel) (by decide +kernel)
theorem wq_31 : Cond.selects "CabTearsModel" ⟨"CabTearsModel", "setsOut", "(II)I"⟩ ⟨"CabTearsModel", "setsOut", "(II)I"⟩ ∈ fl_U := fl_w1 31 (by decide +kernel) (by decide +kernel)
theorem wq_32 : Cond.selects "CabTearsModel" ⟨"CabTearsModel", "goesBy", "(III)Z"⟩ ⟨"CabTearsModel", "goesBy", "(III)Z"⟩ ∈ fl_U := fl_w1 32 (by decide +kernel) (by decide +kernel)
theorem wq_33 : Cond.selects "CabTearsModel" ⟨"CabTearsModel", "weeps", "(II)Z"⟩ ⟨"CabTearsModel", "weeps", "(II)Z"⟩ ∈ fl_U := fl_w1 33 (by decide +kernel) (by decide +kernel)
theorem wq_34 : Cond.selects "CabTearsModel" ⟨"CabTearsModel", "rides", "(IIIZ)V"⟩ ⟨"CabTearsModel", "rides", "(IIIZ)V"⟩ ∈ fl_U := fl_w1 34 (by decide +kernel) (by decide +kernel)
theorem wq_35 : Cond.selects "CabTearsModel" ⟨"CabTearsModel", "sends", "(III)V"⟩ ⟨"CabTearsModel", "sends", "(III)V"⟩ ∈ fl_U := fl_w1 35 (by decide +kernel) (by decide +kernel)
theorem wq_36 : Cond.selects "CabTearsModel" ⟨"CabTearsModel", "soonestIn", "(II)I"⟩ ⟨"CabTearsModel", "soonestIn", "(II)I"⟩ ∈ fl_U := fl_w1 36 (by decide +kernel) (by decide +kernel)
theorem wq_37 : Cond.selects "CabTearsModel" ⟨"CabTearsModel", "ordersRest", "()I"⟩ ⟨"CabTearsModel", "ordersRest", "()I"⟩ ∈ fl_U := fl_w1 37 (by decide +kernel) (by decide +kernel)
theorem wq_38 : Cond.selects "CabTearsModel" ⟨"CabTearsModel", "rest", "()I"⟩ ⟨"CabTearsModel", "rest", "()I"⟩ ∈ fl_U := fl_w1 38 (by decide +kernel) (by decide +kernel)
theorem wq_39 : Cond.selects "CabTearsModel" ⟨"CabTearsModel", "tries", "()V"⟩ ⟨"CabTearsModel", "tries", "()V"⟩ ∈ fl_U := fl_w1 39 (by decide +kernel) (by decide +kernel)
theorem wq_40 : Cond.selects "CabTearsModel" ⟨"CabTearsModel", "laysDay", "(I)V"⟩ ⟨"CabTearsModel", "laysDay", "(I)V"⟩ ∈ fl_U := fl_w1 40 (by decide +kernel) (by decide +kernel)
theorem wq_41 : Cond.selects "CabTearsModel" ⟨"CabTearsModel", "areLike", "(II)Z"⟩ ⟨"CabTearsModel", "areLike", "(II)Z"⟩ ∈ fl_U := fl_w1 41 (by decide +kernel) (by decide +kernel)
theorem wq_42 : Cond.selects "CabTearsModel" ⟨"CabTearsModel", "weepBy", "(IIZ)I"⟩ ⟨"CabTearsModel", "weepBy", "(IIZ)I"⟩ ∈ fl_U := fl_w1 42 (by decide +kernel) (by decide +kernel)
theorem wq_43 : Cond.selects "CabTearsModel" ⟨"CabTearsModel", "isSeen", "(I)Z"⟩ ⟨"CabTearsModel", "isSeen", "(I)Z"⟩ ∈ fl_U := fl_w1 43 (by decide +kernel) (by decide +kernel)
theorem wq_45 : Cond.initialized "CabTears" ∈ fl_U := fl_w1 45 (by decide +kernel) (by decide +kernel)
theorem wq_46 : Cond.initialized "CabTears$Text" ∈ fl_U := fl_w1 46 (by decide +kernel) (by decide +kernel)
theorem wq_47 : Cond.initialized "CabTears$City" ∈ fl_U := fl_w1 47 (by decide +kernel) (by decide +kernel)
theorem wq_49 : Cond.initialized "CabTears$Stand" ∈ fl_U := fl_w1 49 (by decide +kernel) (by decide +kernel)
theorem wq_50 : Cond.initialized "CabTears$Shelf" ∈ fl_U := fl_w1 50 (by decide +kernel) (by decide +kernel)
theorem wq_51 : Cond.initialized "java/lang/Math" ∈ fl_U := fl_w1 51 (by decide +kernel) (by decide +kernel)
theorem wq_52 : Cond.initialized "CabTears$Seen" ∈ fl_U := fl_w1 52 (by decide +kernel) (by decide +kernel)
theorem wq_53 : Cond.initialized "CabTears$Orders" ∈ fl_U := fl_w1 53 (by decide +kernel) (by decide +kernel)
theorem wq_54 : Cond.initialized "CabTears$Duel" ∈ fl_U := fl_w1 54 (by decide +kernel) (by decide +kernel)
theorem wq_59 : Cond.initialized "java/lang/System" ∈ fl_U := fl_w1 59 (by decide +kernel) (by decide +kernel)
theorem wq_60 : Cond.initialized "CabTearsModel" ∈ fl_U := fl_w1 60 (by decide +kernel) (by decide +kernel)
theorem wq_61 : Cond.initialized "java/lang/Integer" ∈ fl_U := fl_w1 61 (by decide +kernel) (by decide +kernel)
theorem wq_76 : Cond.fieldLink "CabTears$Text" 9 "CabTears$Text" "letters" "[C" ∈ fl_U := fl_w1 76 (by decide +kernel) (by decide +kernel)
theorem wq_77 : Cond.fieldLink "CabTears" 93 "CabTears$Text" "length" "I" ∈ fl_U := fl_w1 77 (by decide +kernel) (by decide +kernel)
theorem wq_78 : Cond.fieldLink "CabTears$Text" 19 "CabTears$Text" "length" "I" ∈ fl_U := fl_w1 78 (by decide +kernel) (by decide +kernel)
theorem wq_79 : Cond.fieldLink "CabTears$Text" 15 "CabTears$Text" "numbers" "[I" ∈ fl_U := fl_w1 79 (by decide +kernel) (by decide +kernel)
theorem wq_80 : Cond.fieldLink "CabTears$Text" 36 "CabTears$Text" "told" "I" ∈ fl_U := fl_w1 80 (by decide +kernel) (by decide +kernel)
theorem wq_104 : Cond.fieldLink "CabTears$City" 103 "CabTears$Trip" "free" "I" ∈ fl_U := fl_w1 104 (by decide +kernel) (by decide +kernel)
theorem wq_105 : Cond.fieldLink "CabTears" 192 "CabTears$Trip" "free" "I" ∈ fl_U := fl_w1 105 (by decide +kernel) (by decide +kernel)
theorem wq_106 : Cond.fieldLink "CabTears$City" 105 "CabTears$Trip" "late" "I" ∈ fl_U := fl_w1 106 (by decide +kernel) (by decide +kernel)
theorem wq_107 : Cond.fieldLink "CabTears" 196 "CabTears$Trip" "late" "I" ∈ fl_U := fl_w1 107 (by decide +kernel) (by decide +kernel)
theorem wq_108 : Cond.fieldLink "CabTears$City" 108 "CabTears$Trip" "weeps" "Z" ∈ fl_U := fl_w1 108 (by decide +kernel) (by decide +kernel)
theorem wq_109 : Cond.fieldLink "CabTears" 198 "CabTears$Trip" "weeps" "Z" ∈ fl_U := fl_w1 109 (by decide +kernel) (by decide +kernel)
theorem wq_110 : Cond.fieldLink "CabTears$City" 96 "CabTears$Trip" "by" "Z" ∈ fl_U := fl_w1 110 (by decide +kernel) (by decide +kernel)
theorem wq_111 : Cond.fieldLink "CabTears" 202 "CabTears$Trip" "by" "Z" ∈ fl_U := fl_w1 111 (by decide +kernel) (by decide +kernel)
theorem wq_121 : Cond.fieldLink "CabTears$City" 43 "CabTears$City" "rows" "I" ∈ fl_U := fl_w1 121 (by decide +kernel) (by decide +kernel)
theorem wq_122 : Cond.fieldLink "CabTears$City" 47 "CabTears$City" "columns" "I" ∈ fl_U := fl_w1 122 (by decide +kernel) (by decide +kernel)
theorem wq_123 : Cond.fieldLink "CabTears" 286 "CabTears$City" "columns" "I" ∈ fl_U := fl_w1 123 (by decide +kernel) (by decide +kernel)
theorem wq_124 : Cond.fieldLink "CabTears$City" 50 "CabTears$City" "cabs" "I" ∈ fl_U := fl_w1 124 (by decide +kernel) (by decide +kernel)
theorem wq_125 : Cond.fieldLink "CabTears" 103 "CabTears$City" "cabs" "I" ∈ fl_U := fl_w1 125 (by decide +kernel) (by decide +kernel)
theorem wq_126 : Cond.fieldLink "CabTears$City" 53 "CabTears$City" "fares" "I" ∈ fl_U := fl_w1 126 (by decide +kernel) (by decide +kernel)
theorem wq_127 : Cond.fieldLink "CabTears$Orders" 40 "CabTears$City" "fares" "I" ∈ fl_U := fl_w1 127 (by decide +kernel) (by decide +kernel)
theorem wq_128 : Cond.fieldLink "CabTears$Duel" 52 "CabTears$City" "fares" "I" ∈ fl_U := fl_w1 128 (by decide +kernel) (by decide +kernel)
theorem wq_129 : Cond.fieldLink "CabTears" 106 "CabTears$City" "fares" "I" ∈ fl_U := fl_w1 129 (by decide +kernel) (by decide +kernel)
theorem wq_130 : Cond.fieldLink "CabTears$City" 9 "CabTears$City" "cabKind" "[I" ∈ fl_U := fl_w1 130 (by decide +kernel) (by decide +kernel)
theorem wq_131 : Cond.fieldLink "CabTears" 123 "CabTears$City" "cabKind" "[I" ∈ fl_U := fl_w1 131 (by decide +kernel) (by decide +kernel)
theorem wq_132 : Cond.fieldLink "CabTears$City" 15 "CabTears$City" "cabPlace" "[I" ∈ fl_U := fl_w1 132 (by decide +kernel) (by decide +kernel)
theorem wq_133 : Cond.fieldLink "CabTears$Stand" 27 "CabTears$City" "cabPlace" "[I" ∈ fl_U := fl_w1 133 (by decide +kernel) (by decide +kernel)
theorem wq_134 : Cond.fieldLink "CabTears$City" 18 "CabTears$City" "cabWeptIn" "[I" ∈ fl_U := fl_w1 134 (by decide +kernel) (by decide +kernel)
theorem wq_135 : Cond.fieldLink "CabTears$Stand" 38 "CabTears$City" "cabWeptIn" "[I" ∈ fl_U := fl_w1 135 (by decide +kernel) (by decide +kernel)
theorem wq_136 : Cond.fieldLink "CabTears$City" 21 "CabTears$City" "fareKind" "[I" ∈ fl_U := fl_w1 136 (by decide +kernel) (by decide +kernel)
theorem wq_137 : Cond.fieldLink "CabTears$Orders" 45 "CabTears$City" "fareKind" "[I" ∈ fl_U := fl_w1 137 (by decide +kernel) (by decide +kernel)
theorem wq_138 : Cond.fieldLink "CabTears" 139 "CabTears$City" "fareKind" "[I" ∈ fl_U := fl_w1 138 (by decide +kernel) (by decide +kernel)
theorem wq_139 : Cond.fieldLink "CabTears$City" 24 "CabTears$City" "from" "[I" ∈ fl_U := fl_w1 139 (by decide +kernel) (by decide +kernel)
theorem wq_140 : Cond.fieldLink "CabTears" 142 "CabTears$City" "from" "[I" ∈ fl_U := fl_w1 140 (by decide +kernel) (by decide +kernel)
theorem wq_141 : Cond.fieldLink "CabTears$City" 27 "CabTears$City" "to" "[I" ∈ fl_U := fl_w1 141 (by decide +kernel) (by decide +kernel)
theorem wq_142 : Cond.fieldLink "CabTears" 145 "CabTears$City" "to" "[I" ∈ fl_U := fl_w1 142 (by decide +kernel) (by decide +kernel)
theorem wq_143 : Cond.fieldLink "CabTears$City" 30 "CabTears$City" "since" "[I" ∈ fl_U := fl_w1 143 (by decide +kernel) (by decide +kernel)
theorem wq_144 : Cond.fieldLink "CabTears" 148 "CabTears$City" "since" "[I" ∈ fl_U := fl_w1 144 (by decide +kernel) (by decide +kernel)
theorem wq_145 : Cond.fieldLink "CabTears$City" 33 "CabTears$City" "bears" "[I" ∈ fl_U := fl_w1 145 (by decide +kernel) (by decide +kernel)
theorem wq_146 : Cond.fieldLink "CabTears" 151 "CabTears$City" "bears" "[I" ∈ fl_U := fl_w1 146 (by decide +kernel) (by decide +kernel)
theorem wq_147 : Cond.fieldLink "CabTears$City" 39 "CabTears$City" "trip" "LCabTears$Trip;" ∈ fl_U := fl_w1 147 (by decide +kernel) (by decide +kernel)
theorem wq_148 : Cond.fieldLink "CabTears" 188 "CabTears$City" "trip" "LCabTears$Trip;" ∈ fl_U := fl_w1 148 (by decide +kernel) (by decide +kernel)
theorem wq_182 : Cond.fieldLink "CabTears$Stand" 44 "CabTears$Stand" "now" "I" ∈ fl_U := fl_w1 182 (by decide +kernel) (by decide +kernel)
theorem wq_183 : Cond.fieldLink "CabTears" 175 "CabTears$Stand" "now" "I" ∈ fl_U := fl_w1 183 (by decide +kernel) (by decide +kernel)
theorem wq_184 : Cond.fieldLink "CabTears$City" 87 "CabTears$Stand" "now" "I" ∈ fl_U := fl_w1 184 (by decide +kernel) (by decide +kernel)
theorem wq_185 : Cond.fieldLink "CabTears$Stand" 9 "CabTears$Stand" "place" "[I" ∈ fl_U := fl_w1 185 (by decide +kernel) (by decide +kernel)
theorem wq_186 : Cond.fieldLink "CabTears" 127 "CabTears$Stand" "place" "[I" ∈ fl_U := fl_w1 186 (by decide +kernel) (by decide +kernel)
theorem wq_187 : Cond.fieldLink "CabTears$City" 100 "CabTears$Stand" "place" "[I" ∈ fl_U := fl_w1 187 (by decide +kernel) (by decide +kernel)
theorem wq_188 : Cond.fieldLink "CabTears$Stand" 15 "CabTears$Stand" "free" "[I" ∈ fl_U := fl_w1 188 (by decide +kernel) (by decide +kernel)
theorem wq_189 : Cond.fieldLink "CabTears" 130 "CabTears$Stand" "free" "[I" ∈ fl_U := fl_w1 189 (by decide +kernel) (by decide +kernel)
theorem wq_190 : Cond.fieldLink "CabTears$City" 90 "CabTears$Stand" "free" "[I" ∈ fl_U := fl_w1 190 (by decide +kernel) (by decide +kernel)
theorem wq_191 : Cond.fieldLink "CabTears$Stand" 18 "CabTears$Stand" "weptIn" "[I" ∈ fl_U := fl_w1 191 (by decide +kernel) (by decide +kernel)
theorem wq_192 : Cond.fieldLink "CabTears" 133 "CabTears$Stand" "weptIn" "[I" ∈ fl_U := fl_w1 192 (by decide +kernel) (by decide +kernel)
theorem wq_193 : Cond.fieldLink "CabTears$City" 78 "CabTears$Stand" "weptIn" "[I" ∈ fl_U := fl_w1 193 (by decide +kernel) (by decide +kernel)
theorem wq_194 : Cond.fieldLink "CabTears$Stand" 21 "CabTears$Stand" "late" "[I" ∈ fl_U := fl_w1 194 (by decide +kernel) (by decide +kernel)
theorem wq_195 : Cond.fieldLink "CabTears" 157 "CabTears$Stand" "late" "[I" ∈ fl_U := fl_w1 195 (by decide +kernel) (by decide +kernel)
theorem wq_196 : Cond.fieldLink "CabTears$City" 111 "CabTears$Stand" "late" "[I" ∈ fl_U := fl_w1 196 (by decide +kernel) (by decide +kernel)
theorem wq_197 : Cond.fieldLink "CabTears$Stand" 24 "CabTears$Stand" "tears" "[I" ∈ fl_U := fl_w1 197 (by decide +kernel) (by decide +kernel)
theorem wq_198 : Cond.fieldLink "CabTears" 160 "CabTears$Stand" "tears" "[I" ∈ fl_U := fl_w1 198 (by decide +kernel) (by decide +kernel)
theorem wq_199 : Cond.fieldLink "CabTears$City" 113 "CabTears$Stand" "tears" "[I" ∈ fl_U := fl_w1 199 (by decide +kernel) (by decide +kernel)
theorem wq_220 : Cond.static ⟨"java/lang/Math", "max", "(II)I"⟩ ∈ fl_U := fl_w1 220 (by decide +kernel) (by decide +kernel)
theorem wq_221 : Cond.code ⟨"java/lang/Math", "max", "(II)I"⟩ prog_13_method_65_code 2 (Option.some FieldType.int) ∈ fl_U := fl_w1 221 (by decide +kernel) (by decide +kernel)
theorem wq_225 : Cond.fieldLink "CabTears$Shelf" 15 "CabTears$Shelf" "stands" "[LCabTears$Stand;" ∈ fl_U := fl_w1 225 (by decide +kernel) (by decide +kernel)
theorem wq_226 : Cond.fieldLink "CabTears$Shelf" 22 "CabTears$Shelf" "top" "I" ∈ fl_U := fl_w1 226 (by decide +kernel) (by decide +kernel)
theorem wq_227 : Cond.fieldLink "CabTears$Shelf" 30 "CabTears$Shelf" "held" "I" ∈ fl_U := fl_w1 227 (by decide +kernel) (by decide +kernel)
theorem wq_228 : Cond.fieldLink "CabTears" 182 "CabTears$Shelf" "held" "I" ∈ fl_U := fl_w1 228 (by decide +kernel) (by decide +kernel)
theorem wq_242 : Cond.fieldLink "CabTears$Seen" 9 "CabTears$Seen" "cab" "[I" ∈ fl_U := fl_w1 242 (by decide +kernel) (by decide +kernel)
theorem wq_243 : Cond.fieldLink "CabTears" 298 "CabTears$Seen" "cab" "[I" ∈ fl_U := fl_w1 243 (by decide +kernel) (by decide +kernel)
theorem wq_244 : Cond.fieldLink "CabTears$Seen" 15 "CabTears$Seen" "fare" "[I" ∈ fl_U := fl_w1 244 (by decide +kernel) (by decide +kernel)
theorem wq_245 : Cond.fieldLink "CabTears" 301 "CabTears$Seen" "fare" "[I" ∈ fl_U := fl_w1 245 (by decide +kernel) (by decide +kernel)
theorem wq_246 : Cond.fieldLink "CabTears$Seen" 18 "CabTears$Seen" "step" "[I" ∈ fl_U := fl_w1 246 (by decide +kernel) (by decide +kernel)
theorem wq_247 : Cond.fieldLink "CabTears" 308 "CabTears$Seen" "step" "[I" ∈ fl_U := fl_w1 247 (by decide +kernel) (by decide +kernel)
theorem wq_248 : Cond.fieldLink "CabTears$Seen" 21 "CabTears$Seen" "held" "I" ∈ fl_U := fl_w1 248 (by decide +kernel) (by decide +kernel)
theorem wq_249 : Cond.fieldLink "CabTears" 256 "CabTears$Seen" "held" "I" ∈ fl_U := fl_w1 249 (by decide +kernel) (by decide +kernel)
theorem wq_267 : Cond.fieldLink "CabTears$Orders" 11 "CabTears$Orders" "stands" "[LCabTears$Stand;" ∈ fl_U := fl_w1 267 (by decide +kernel) (by decide +kernel)
theorem wq_268 : Cond.fieldLink "CabTears$Orders" 17 "CabTears$Orders" "tried" "[I" ∈ fl_U := fl_w1 268 (by decide +kernel) (by decide +kernel)
theorem wq_269 : Cond.fieldLink "CabTears$Orders" 21 "CabTears$Orders" "best" "[I" ∈ fl_U := fl_w1 269 (by decide +kernel) (by decide +kernel)
theorem wq_270 : Cond.fieldLink "CabTears" 217 "CabTears$Orders" "best" "[I" ∈ fl_U := fl_w1 270 (by decide +kernel) (by decide +kernel)
theorem wq_271 : Cond.fieldLink "CabTears$Orders" 33 "CabTears$Orders" "length" "I" ∈ fl_U := fl_w1 271 (by decide +kernel) (by decide +kernel)
theorem wq_272 : Cond.fieldLink "CabTears" 216 "CabTears$Orders" "length" "I" ∈ fl_U := fl_w1 272 (by decide +kernel) (by decide +kernel)
theorem wq_273 : Cond.fieldLink "CabTears$Orders" 37 "CabTears$Orders" "fewest" "I" ∈ fl_U := fl_w1 273 (by decide +kernel) (by decide +kernel)
theorem wq_274 : Cond.fieldLink "CabTears" 213 "CabTears$Orders" "fewest" "I" ∈ fl_U := fl_w1 274 (by decide +kernel) (by decide +kernel)
theorem wq_294 : Cond.fieldLink "CabTears$Duel" 11 "CabTears$Duel" "stands" "[LCabTears$Stand;" ∈ fl_U := fl_w1 294 (by decide +kernel) (by decide +kernel)
theorem wq_295 : Cond.fieldLink "CabTears$Duel" 22 "CabTears$Duel" "first" "I" ∈ fl_U := fl_w1 295 (by decide +kernel) (by decide +kernel)
theorem wq_296 : Cond.fieldLink "CabTears$Duel" 26 "CabTears$Duel" "second" "I" ∈ fl_U := fl_w1 296 (by decide +kernel) (by decide +kernel)
theorem wq_297 : Cond.fieldLink "CabTears$Duel" 39 "CabTears$Duel" "turns" "I" ∈ fl_U := fl_w1 297 (by decide +kernel) (by decide +kernel)
theorem wq_298 : Cond.fieldLink "CabTears$Duel" 49 "CabTears$Duel" "outcome" "I" ∈ fl_U := fl_w1 298 (by decide +kernel) (by decide +kernel)
theorem wq_299 : Cond.fieldLink "CabTears" 248 "CabTears$Duel" "outcome" "I" ∈ fl_U := fl_w1 299 (by decide +kernel) (by decide +kernel)
theorem wq_300 : Cond.fieldLink "CabTears$Duel" 42 "CabTears$Duel" "opening" "I" ∈ fl_U := fl_w1 300 (by decide +kernel) (by decide +kernel)
theorem wq_301 : Cond.fieldLink "CabTears" 251 "CabTears$Duel" "opening" "I" ∈ fl_U := fl_w1 301 (by decide +kernel) (by decide +kernel)
theorem wq_364 : Cond.methodLink "CabTears" 85 ⟨"CabTears$Text", "add", "(C)Z"⟩ ∈ fl_U := fl_w1 364 (by decide +kernel) (by decide +kernel)
theorem wq_365 : Cond.instanceMethod ⟨"CabTears$Text", "add", "(C)Z"⟩ ∈ fl_U := fl_w1 365 (by decide +kernel) (by decide +kernel)
theorem wq_366 : Cond.selects "CabTears$Text" ⟨"CabTears$Text", "add", "(C)Z"⟩ ⟨"CabTears$Text", "add", "(C)Z"⟩ ∈ fl_U := fl_w1 366 (by decide +kernel) (by decide +kernel)
theorem wq_367 : Cond.code ⟨"CabTears$Text", "add", "(C)Z"⟩ prog_8_method_2_code 2 (Option.some FieldType.boolean) ∈ fl_U := fl_w1 367 (by decide +kernel) (by decide +kernel)
theorem wq_368 : Cond.methodLink "CabTears" 89 ⟨"CabTears$Text", "readInto", "(LCabTears$City;)I"⟩ ∈ fl_U := fl_w1 368 (by decide +kernel) (by decide +kernel)
theorem wq_369 : Cond.instanceMethod ⟨"CabTears$Text", "readInto", "(LCabTears$City;)I"⟩ ∈ fl_U := fl_w1 369 (by decide +kernel) (by decide +kernel)
theorem wq_370 : Cond.selects "CabTears$Text" ⟨"CabTears$Text", "readInto", "(LCabTears$City;)I"⟩ ⟨"CabTears$Text", "readInto", "(LCabTears$City;)I"⟩ ∈ fl_U := fl_w1 370 (by decide +kernel) (by decide +kernel)
theorem wq_371 : Cond.code ⟨"CabTears$Text", "readInto", "(LCabTears$City;)I"⟩ prog_8_method_3_code 4 (Option.some FieldType.int) ∈ fl_U := fl_w1 371 (by decide +kernel) (by decide +kernel)
theorem wq_372 : Cond.methodLink "CabTears$Text" 23 ⟨"CabTears$City", "clear", "()V"⟩ ∈ fl_U := fl_w1 372 (by decide +kernel) (by decide +kernel)
theorem wq_373 : Cond.instanceMethod ⟨"CabTears$City", "clear", "()V"⟩ ∈ fl_U := fl_w1 373 (by decide +kernel) (by decide +kernel)
theorem wq_374 : Cond.selects "CabTears$City" ⟨"CabTears$City", "clear", "()V"⟩ ⟨"CabTears$City", "clear", "()V"⟩ ∈ fl_U := fl_w1 374 (by decide +kernel) (by decide +kernel)
theorem wq_375 : Cond.code ⟨"CabTears$City", "clear", "()V"⟩ prog_2_method_2_code 1 (Option.none : Option FieldType) ∈ fl_U := fl_w1 375 (by decide +kernel) (by decide +kernel)
theorem wq_376 : Cond.methodLink "CabTears$Text" 28 ⟨"CabTears$Text", "readNumbers", "(II)Z"⟩ ∈ fl_U := fl_w1 376 (by decide +kernel) (by decide +kernel)
theorem wq_378 : Cond.instanceMethod ⟨"CabTears$Text", "readNumbers", "(II)Z"⟩ ∈ fl_U := fl_w1 378 (by decide +kernel) (by decide +kernel)
theorem wq_379 : Cond.code ⟨"CabTears$Text", "readNumbers", "(II)Z"⟩ prog_8_method_4_code 7 (Option.some FieldType.boolean) ∈ fl_U := fl_w1 379 (by decide +kernel) (by decide +kernel)
theorem wq_380 : Cond.methodLink "CabTears$Text" 32 ⟨"CabTears$Text", "tell", "(LCabTears$City;C)Z"⟩ ∈ fl_U := fl_w1 380 (by decide +kernel) (by decide +kernel)
theorem wq_382 : Cond.instanceMethod ⟨"CabTears$Text", "tell", "(LCabTears$City;C)Z"⟩ ∈ fl_U := fl_w1 382 (by decide +kernel) (by decide +kernel)
theorem wq_383 : Cond.code ⟨"CabTears$Text", "tell", "(LCabTears$City;C)Z"⟩ prog_8_method_5_code 3 (Option.some FieldType.boolean) ∈ fl_U := fl_w1 383 (by decide +kernel) (by decide +kernel)
theorem wq_384 : Cond.methodLink "CabTears$Text" 39 ⟨"CabTears$City", "build", "(II)Z"⟩ ∈ fl_U := fl_w1 384 (by decide +kernel) (by decide +kernel)
theorem wq_385 : Cond.instanceMethod ⟨"CabTears$City", "build", "(II)Z"⟩ ∈ fl_U := fl_w1 385 (by decide +kernel) (by decide +kernel)
theorem wq_386 : Cond.selects "CabTears$City" ⟨"CabTears$City", "build", "(II)Z"⟩ ⟨"CabTears$City", "build", "(II)Z"⟩ ∈ fl_U := fl_w1 386 (by decide +kernel) (by decide +kernel)
theorem wq_387 : Cond.code ⟨"CabTears$City", "build", "(II)Z"⟩ prog_2_method_3_code 3 (Option.some FieldType.boolean) ∈ fl_U := fl_w1 387 (by decide +kernel) (by decide +kernel)
theorem wq_389 : Cond.static ⟨"CabTears", "within", "(III)Z"⟩ ∈ fl_U := fl_w1 389 (by decide +kernel) (by decide +kernel)
theorem wq_390 : Cond.code ⟨"CabTears", "within", "(III)Z"⟩ prog_1_method_29_code 3 (Option.some FieldType.boolean) ∈ fl_U := fl_w1 390 (by decide +kernel) (by decide +kernel)
theorem wq_391 : Cond.methodLink "CabTears$Text" 42 ⟨"CabTears$City", "addCab", "(III)Z"⟩ ∈ fl_U := fl_w1 391 (by decide +kernel) (by decide +kernel)
theorem wq_392 : Cond.instanceMethod ⟨"CabTears$City", "addCab", "(III)Z"⟩ ∈ fl_U := fl_w1 392 (by decide +kernel) (by decide +kernel)
theorem wq_393 : Cond.selects "CabTears$City" ⟨"CabTears$City", "addCab", "(III)Z"⟩ ⟨"CabTears$City", "addCab", "(III)Z"⟩ ∈ fl_U := fl_w1 393 (by decide +kernel) (by decide +kernel)
theorem wq_394 : Cond.code ⟨"CabTears$City", "addCab", "(III)Z"⟩ prog_2_method_4_code 4 (Option.some FieldType.boolean) ∈ fl_U := fl_w1 394 (by decide +kernel) (by decide +kernel)
theorem wq_395 : Cond.methodLink "CabTears$City" 60 ⟨"CabTears$City", "hasPlace", "(I)Z"⟩ ∈ fl_U := fl_w1 395 (by decide +kernel) (by decide +kernel)
theorem wq_396 : Cond.instanceMethod ⟨"CabTears$City", "hasPlace", "(I)Z"⟩ ∈ fl_U := fl_w1 396 (by decide +kernel) (by decide +kernel)
theorem wq_397 : Cond.selects "CabTears$City" ⟨"CabTears$City", "hasPlace", "(I)Z"⟩ ⟨"CabTears$City", "hasPlace", "(I)Z"⟩ ∈ fl_U := fl_w1 397 (by decide +kernel) (by decide +kernel)
theorem wq_398 : Cond.code ⟨"CabTears$City", "hasPlace", "(I)Z"⟩ prog_2_method_7_code 2 (Option.some FieldType.boolean) ∈ fl_U := fl_w1 398 (by decide +kernel) (by decide +kernel)
theorem wq_399 : Cond.methodLink "CabTears$City" 64 ⟨"CabTears$City", "places", "()I"⟩ ∈ fl_U := fl_w1 399 (by decide +kernel) (by decide +kernel)
theorem wq_400 : Cond.instanceMethod ⟨"CabTears$City", "places", "()I"⟩ ∈ fl_U := fl_w1 400 (by decide +kernel) (by decide +kernel)
theorem wq_401 : Cond.selects "CabTears$City" ⟨"CabTears$City", "places", "()I"⟩ ⟨"CabTears$City", "places", "()I"⟩ ∈ fl_U := fl_w1 401 (by decide +kernel) (by decide +kernel)
theorem wq_402 : Cond.code ⟨"CabTears$City", "places", "()I"⟩ prog_2_method_6_code 1 (Option.some FieldType.int) ∈ fl_U := fl_w1 402 (by decide +kernel) (by decide +kernel)
theorem wq_403 : Cond.methodLink "CabTears$Text" 46 ⟨"CabTears$City", "addFare", "([I)Z"⟩ ∈ fl_U := fl_w1 403 (by decide +kernel) (by decide +kernel)
theorem wq_404 : Cond.instanceMethod ⟨"CabTears$City", "addFare", "([I)Z"⟩ ∈ fl_U := fl_w1 404 (by decide +kernel) (by decide +kernel)
theorem wq_405 : Cond.selects "CabTears$City" ⟨"CabTears$City", "addFare", "([I)Z"⟩ ⟨"CabTears$City", "addFare", "([I)Z"⟩ ∈ fl_U := fl_w1 405 (by decide +kernel) (by decide +kernel)
theorem wq_406 : Cond.code ⟨"CabTears$City", "addFare", "([I)Z"⟩ prog_2_method_5_code 3 (Option.some FieldType.boolean) ∈ fl_U := fl_w1 406 (by decide +kernel) (by decide +kernel)
theorem wq_407 : Cond.methodLink "CabTears" 96 ⟨"CabTears", "begin", "()V"⟩ ∈ fl_U := fl_w1 407 (by decide +kernel) (by decide +kernel)
theorem wq_409 : Cond.instanceMethod ⟨"CabTears", "begin", "()V"⟩ ∈ fl_U := fl_w1 409 (by decide +kernel) (by decide +kernel)
theorem wq_410 : Cond.code ⟨"CabTears", "begin", "()V"⟩ prog_1_method_30_code 1 (Option.none : Option FieldType) ∈ fl_U := fl_w1 410 (by decide +kernel) (by decide +kernel)
theorem wq_411 : Cond.methodLink "CabTears" 292 ⟨"CabTears$Stand", "begin", "(LCabTears$City;)V"⟩ ∈ fl_U := fl_w1 411 (by decide +kernel) (by decide +kernel)
theorem wq_412 : Cond.instanceMethod ⟨"CabTears$Stand", "begin", "(LCabTears$City;)V"⟩ ∈ fl_U := fl_w1 412 (by decide +kernel) (by decide +kernel)
theorem wq_413 : Cond.selects "CabTears$Stand" ⟨"CabTears$Stand", "begin", "(LCabTears$City;)V"⟩ ⟨"CabTears$Stand", "begin", "(LCabTears$City;)V"⟩ ∈ fl_U := fl_w1 413 (by decide +kernel) (by decide +kernel)
theorem wq_414 : Cond.code ⟨"CabTears$Stand", "begin", "(LCabTears$City;)V"⟩ prog_7_method_2_code 2 (Option.none : Option FieldType) ∈ fl_U := fl_w1 414 (by decide +kernel) (by decide +kernel)
theorem wq_415 : Cond.methodLink "CabTears$Stand" 32 ⟨"java/lang/System", "arraycopy", "(Ljava/lang/Object;ILjava/lang/Object;II)V"⟩ ∈ fl_U := fl_w1 415 (by decide +kernel) (by decide +kernel)
theorem wq_416 : Cond.static ⟨"java/lang/System", "arraycopy", "(Ljava/lang/Object;ILjava/lang/Object;II)V"⟩ ∈ fl_U := fl_w1 416 (by decide +kernel) (by decide +kernel)
theorem wq_417 : Cond.native ⟨"java/lang/System", "arraycopy", "(Ljava/lang/Object;ILjava/lang/Object;II)V"⟩ ∈ fl_U := fl_w1 417 (by decide +kernel) (by decide +kernel)
theorem wq_418 : Cond.methodLink "CabTears$Stand" 41 ⟨"CabTears$Stand", "dawn", "()V"⟩ ∈ fl_U := fl_w1 418 (by decide +kernel) (by decide +kernel)
theorem wq_419 : Cond.instanceMethod ⟨"CabTears$Stand", "dawn", "()V"⟩ ∈ fl_U := fl_w1 419 (by decide +kernel) (by decide +kernel)
theorem wq_420 : Cond.selects "CabTears$Stand" ⟨"CabTears$Stand", "dawn", "()V"⟩ ⟨"CabTears$Stand", "dawn", "()V"⟩ ∈ fl_U := fl_w1 420 (by decide +kernel) (by decide +kernel)
theorem wq_421 : Cond.code ⟨"CabTears$Stand", "dawn", "()V"⟩ prog_7_method_3_code 2 (Option.none : Option FieldType) ∈ fl_U := fl_w1 421 (by decide +kernel) (by decide +kernel)
theorem wq_422 : Cond.fieldLink "CabTears" 12 "CabTears" "text" "LCabTears$Text;" ∈ fl_U := fl_w1 422 (by decide +kernel) (by decide +kernel)
theorem wq_423 : Cond.fieldLink "CabTears" 19 "CabTears" "city" "LCabTears$City;" ∈ fl_U := fl_w1 423 (by decide +kernel) (by decide +kernel)
theorem wq_424 : Cond.fieldLink "CabTears" 23 "CabTears" "draft" "LCabTears$City;" ∈ fl_U := fl_w1 424 (by decide +kernel) (by decide +kernel)
theorem wq_425 : Cond.fieldLink "CabTears" 29 "CabTears" "stand" "LCabTears$Stand;" ∈ fl_U := fl_w1 425 (by decide +kernel) (by decide +kernel)
theorem wq_426 : Cond.fieldLink "CabTears" 33 "CabTears" "trial" "LCabTears$Stand;" ∈ fl_U := fl_w1 426 (by decide +kernel) (by decide +kernel)
theorem wq_427 : Cond.fieldLink "CabTears" 41 "CabTears" "done" "LCabTears$Shelf;" ∈ fl_U := fl_w1 427 (by decide +kernel) (by decide +kernel)
theorem wq_428 : Cond.fieldLink "CabTears" 45 "CabTears" "kept" "LCabTears$Shelf;" ∈ fl_U := fl_w1 428 (by decide +kernel) (by decide +kernel)
theorem wq_429 : Cond.fieldLink "CabTears" 51 "CabTears" "seen" "LCabTears$Seen;" ∈ fl_U := fl_w1 429 (by decide +kernel) (by decide +kernel)
theorem wq_430 : Cond.fieldLink "CabTears" 58 "CabTears" "orders" "LCabTears$Orders;" ∈ fl_U := fl_w1 430 (by decide +kernel) (by decide +kernel)
theorem wq_431 : Cond.fieldLink "CabTears" 65 "CabTears" "duel" "LCabTears$Duel;" ∈ fl_U := fl_w1 431 (by decide +kernel) (by decide +kernel)
theorem wq_432 : Cond.fieldLink "CabTears" 69 "CabTears" "days" "[J" ∈ fl_U := fl_w1 432 (by decide +kernel) (by decide +kernel)
theorem wq_462 : Cond.methodLink "CabTears" 99 ⟨"CabTears", "within", "(III)Z"⟩ ∈ fl_U := fl_w1 462 (by decide +kernel) (by decide +kernel)
theorem wq_475 : Cond.methodLink "CabTears" 109 ⟨"CabTears$City", "places", "()I"⟩ ∈ fl_U := fl_w1 475 (by decide +kernel) (by decide +kernel)
theorem wq_480 : Cond.methodLink "CabTears" 112 ⟨"CabTears$City", "hasPlace", "(I)Z"⟩ ∈ fl_U := fl_w1 480 (by decide +kernel) (by decide +kernel)
theorem wq_481 : Cond.methodLink "CabTears" 116 ⟨"CabTears$City", "steps", "(II)I"⟩ ∈ fl_U := fl_w1 481 (by decide +kernel) (by decide +kernel)
theorem wq_482 : Cond.instanceMethod ⟨"CabTears$City", "steps", "(II)I"⟩ ∈ fl_U := fl_w1 482 (by decide +kernel) (by decide +kernel)
theorem wq_483 : Cond.selects "CabTears$City" ⟨"CabTears$City", "steps", "(II)I"⟩ ⟨"CabTears$City", "steps", "(II)I"⟩ ∈ fl_U := fl_w1 483 (by decide +kernel) (by decide +kernel)
theorem wq_484 : Cond.code ⟨"CabTears$City", "steps", "(II)I"⟩ prog_2_method_10_code 4 (Option.some FieldType.int) ∈ fl_U := fl_w1 484 (by decide +kernel) (by decide +kernel)
theorem wq_485 : Cond.methodLink "CabTears$City" 68 ⟨"java/lang/Math", "max", "(II)I"⟩ ∈ fl_U := fl_w1 485 (by decide +kernel) (by decide +kernel)
theorem wq_486 : Cond.methodLink "CabTears$City" 74 ⟨"java/lang/Math", "abs", "(I)I"⟩ ∈ fl_U := fl_w1 486 (by decide +kernel) (by decide +kernel)
theorem wq_487 : Cond.static ⟨"java/lang/Math", "abs", "(I)I"⟩ ∈ fl_U := fl_w1 487 (by decide +kernel) (by decide +kernel)
theorem wq_488 : Cond.code ⟨"java/lang/Math", "abs", "(I)I"⟩ prog_13_method_59_code 1 (Option.some FieldType.int) ∈ fl_U := fl_w1 488 (by decide +kernel) (by decide +kernel)
theorem wq_493 : Cond.methodLink "CabTears" 120 ⟨"CabTears$City", "hasCab", "(I)Z"⟩ ∈ fl_U := fl_w1 493 (by decide +kernel) (by decide +kernel)
theorem wq_494 : Cond.instanceMethod ⟨"CabTears$City", "hasCab", "(I)Z"⟩ ∈ fl_U := fl_w1 494 (by decide +kernel) (by decide +kernel)
theorem wq_495 : Cond.selects "CabTears$City" ⟨"CabTears$City", "hasCab", "(I)Z"⟩ ⟨"CabTears$City", "hasCab", "(I)Z"⟩ ∈ fl_U := fl_w1 495 (by decide +kernel) (by decide +kernel)
theorem wq_496 : Cond.code ⟨"CabTears$City", "hasCab", "(I)Z"⟩ prog_2_method_8_code 2 (Option.some FieldType.boolean) ∈ fl_U := fl_w1 496 (by decide +kernel) (by decide +kernel)
theorem wq_501 : Cond.methodLink "CabTears" 136 ⟨"CabTears$City", "hasFare", "(I)Z"⟩ ∈ fl_U := fl_w1 501 (by decide +kernel) (by decide +kernel)
theorem wq_502 : Cond.instanceMethod ⟨"CabTears$City", "hasFare", "(I)Z"⟩ ∈ fl_U := fl_w1 502 (by decide +kernel) (by decide +kernel)
theorem wq_503 : Cond.selects "CabTears$City" ⟨"CabTears$City", "hasFare", "(I)Z"⟩ ⟨"CabTears$City", "hasFare", "(I)Z"⟩ ∈ fl_U := fl_w1 503 (by decide +kernel) (by decide +kernel)
theorem wq_504 : Cond.code ⟨"CabTears$City", "hasFare", "(I)Z"⟩ prog_2_method_9_code 2 (Option.some FieldType.boolean) ∈ fl_U := fl_w1 504 (by decide +kernel) (by decide +kernel)
theorem wq_505 : Cond.methodLink "CabTears" 154 ⟨"CabTears$Stand", "isTaken", "(I)Z"⟩ ∈ fl_U := fl_w1 505 (by decide +kernel) (by decide +kernel)
theorem wq_506 : Cond.instanceMethod ⟨"CabTears$Stand", "isTaken", "(I)Z"⟩ ∈ fl_U := fl_w1 506 (by decide +kernel) (by decide +kernel)
theorem wq_507 : Cond.selects "CabTears$Stand" ⟨"CabTears$Stand", "isTaken", "(I)Z"⟩ ⟨"CabTears$Stand", "isTaken", "(I)Z"⟩ ∈ fl_U := fl_w1 507 (by decide +kernel) (by decide +kernel)
theorem wq_508 : Cond.code ⟨"CabTears$Stand", "isTaken", "(I)Z"⟩ prog_7_method_4_code 2 (Option.some FieldType.boolean) ∈ fl_U := fl_w1 508 (by decide +kernel) (by decide +kernel)
theorem wq_513 : Cond.methodLink "CabTears" 163 ⟨"CabTears$Shelf", "put", "(LCabTears$Stand;)V"⟩ ∈ fl_U := fl_w1 513 (by decide +kernel) (by decide +kernel)
theorem wq_514 : Cond.instanceMethod ⟨"CabTears$Shelf", "put", "(LCabTears$Stand;)V"⟩ ∈ fl_U := fl_w1 514 (by decide +kernel) (by decide +kernel)
theorem wq_515 : Cond.selects "CabTears$Shelf" ⟨"CabTears$Shelf", "put", "(LCabTears$Stand;)V"⟩ ⟨"CabTears$Shelf", "put", "(LCabTears$Stand;)V"⟩ ∈ fl_U := fl_w1 515 (by decide +kernel) (by decide +kernel)
theorem wq_516 : Cond.code ⟨"CabTears$Shelf", "put", "(LCabTears$Stand;)V"⟩ prog_6_method_2_code 2 (Option.none : Option FieldType) ∈ fl_U := fl_w1 516 (by decide +kernel) (by decide +kernel)
theorem wq_517 : Cond.methodLink "CabTears$Shelf" 26 ⟨"CabTears$Stand", "copy", "(LCabTears$Stand;)V"⟩ ∈ fl_U := fl_w1 517 (by decide +kernel) (by decide +kernel)
theorem wq_518 : Cond.instanceMethod ⟨"CabTears$Stand", "copy", "(LCabTears$Stand;)V"⟩ ∈ fl_U := fl_w1 518 (by decide +kernel) (by decide +kernel)
theorem wq_519 : Cond.selects "CabTears$Stand" ⟨"CabTears$Stand", "copy", "(LCabTears$Stand;)V"⟩ ⟨"CabTears$Stand", "copy", "(LCabTears$Stand;)V"⟩ ∈ fl_U := fl_w1 519 (by decide +kernel) (by decide +kernel)
theorem wq_520 : Cond.code ⟨"CabTears$Stand", "copy", "(LCabTears$Stand;)V"⟩ prog_7_method_5_code 2 (Option.none : Option FieldType) ∈ fl_U := fl_w1 520 (by decide +kernel) (by decide +kernel)
theorem wq_521 : Cond.methodLink "CabTears$Shelf" 33 ⟨"java/lang/Math", "min", "(II)I"⟩ ∈ fl_U := fl_w1 521 (by decide +kernel) (by decide +kernel)
theorem wq_522 : Cond.static ⟨"java/lang/Math", "min", "(II)I"⟩ ∈ fl_U := fl_w1 522 (by decide +kernel) (by decide +kernel)
theorem wq_523 : Cond.code ⟨"java/lang/Math", "min", "(II)I"⟩ prog_13_method_69_code 2 (Option.some FieldType.int) ∈ fl_U := fl_w1 523 (by decide +kernel) (by decide +kernel)
theorem wq_524 : Cond.methodLink "CabTears" 167 ⟨"CabTears$City", "drive", "(LCabTears$Stand;II)Z"⟩ ∈ fl_U := fl_w1 524 (by decide +kernel) (by decide +kernel)
theorem wq_525 : Cond.instanceMethod ⟨"CabTears$City", "drive", "(LCabTears$Stand;II)Z"⟩ ∈ fl_U := fl_w1 525 (by decide +kernel) (by decide +kernel)
theorem wq_526 : Cond.selects "CabTears$City" ⟨"CabTears$City", "drive", "(LCabTears$Stand;II)Z"⟩ ⟨"CabTears$City", "drive", "(LCabTears$Stand;II)Z"⟩ ∈ fl_U := fl_w1 526 (by decide +kernel) (by decide +kernel)
theorem wq_527 : Cond.code ⟨"CabTears$City", "drive", "(LCabTears$Stand;II)Z"⟩ prog_2_method_15_code 5 (Option.some FieldType.boolean) ∈ fl_U := fl_w1 527 (by decide +kernel) (by decide +kernel)
theorem wq_528 : Cond.methodLink "CabTears$City" 116 ⟨"CabTears$City", "reckon", "(LCabTears$Stand;II)V"⟩ ∈ fl_U := fl_w1 528 (by decide +kernel) (by decide +kernel)
theorem wq_529 : Cond.instanceMethod ⟨"CabTears$City", "reckon", "(LCabTears$Stand;II)V"⟩ ∈ fl_U := fl_w1 529 (by decide +kernel) (by decide +kernel)
theorem wq_530 : Cond.selects "CabTears$City" ⟨"CabTears$City", "reckon", "(LCabTears$Stand;II)V"⟩ ⟨"CabTears$City", "reckon", "(LCabTears$Stand;II)V"⟩ ∈ fl_U := fl_w1 530 (by decide +kernel) (by decide +kernel)
theorem wq_531 : Cond.code ⟨"CabTears$City", "reckon", "(LCabTears$Stand;II)V"⟩ prog_2_method_11_code 4 (Option.none : Option FieldType) ∈ fl_U := fl_w1 531 (by decide +kernel) (by decide +kernel)
theorem wq_532 : Cond.methodLink "CabTears$City" 83 ⟨"CabTears$City", "reckonAs", "(LCabTears$Stand;IIII)V"⟩ ∈ fl_U := fl_w1 532 (by decide +kernel) (by decide +kernel)
theorem wq_533 : Cond.instanceMethod ⟨"CabTears$City", "reckonAs", "(LCabTears$Stand;IIII)V"⟩ ∈ fl_U := fl_w1 533 (by decide +kernel) (by decide +kernel)
theorem wq_534 : Cond.selects "CabTears$City" ⟨"CabTears$City", "reckonAs", "(LCabTears$Stand;IIII)V"⟩ ⟨"CabTears$City", "reckonAs", "(LCabTears$Stand;IIII)V"⟩ ∈ fl_U := fl_w1 534 (by decide +kernel) (by decide +kernel)
theorem wq_535 : Cond.code ⟨"CabTears$City", "reckonAs", "(LCabTears$Stand;IIII)V"⟩ prog_2_method_12_code 9 (Option.none : Option FieldType) ∈ fl_U := fl_w1 535 (by decide +kernel) (by decide +kernel)
theorem wq_536 : Cond.methodLink "CabTears$City" 93 ⟨"CabTears$City", "steps", "(II)I"⟩ ∈ fl_U := fl_w1 536 (by decide +kernel) (by decide +kernel)
theorem wq_537 : Cond.methodLink "CabTears$City" 120 ⟨"CabTears$City", "settle", "(LCabTears$Stand;IIZ)V"⟩ ∈ fl_U := fl_w1 537 (by decide +kernel) (by decide +kernel)
theorem wq_538 : Cond.instanceMethod ⟨"CabTears$City", "settle", "(LCabTears$Stand;IIZ)V"⟩ ∈ fl_U := fl_w1 538 (by decide +kernel) (by decide +kernel)
theorem wq_539 : Cond.selects "CabTears$City" ⟨"CabTears$City", "settle", "(LCabTears$Stand;IIZ)V"⟩ ⟨"CabTears$City", "settle", "(LCabTears$Stand;IIZ)V"⟩ ∈ fl_U := fl_w1 539 (by decide +kernel) (by decide +kernel)
theorem wq_540 : Cond.code ⟨"CabTears$City", "settle", "(LCabTears$Stand;IIZ)V"⟩ prog_2_method_14_code 5 (Option.none : Option FieldType) ∈ fl_U := fl_w1 540 (by decide +kernel) (by decide +kernel)
theorem wq_545 : Cond.methodLink "CabTears" 171 ⟨"CabTears$City", "move", "(LCabTears$Stand;II)V"⟩ ∈ fl_U := fl_w1 545 (by decide +kernel) (by decide +kernel)
theorem wq_546 : Cond.instanceMethod ⟨"CabTears$City", "move", "(LCabTears$Stand;II)V"⟩ ∈ fl_U := fl_w1 546 (by decide +kernel) (by decide +kernel)
theorem wq_547 : Cond.selects "CabTears$City" ⟨"CabTears$City", "move", "(LCabTears$Stand;II)V"⟩ ⟨"CabTears$City", "move", "(LCabTears$Stand;II)V"⟩ ∈ fl_U := fl_w1 547 (by decide +kernel) (by decide +kernel)
theorem wq_548 : Cond.code ⟨"CabTears$City", "move", "(LCabTears$Stand;II)V"⟩ prog_2_method_17_code 4 (Option.none : Option FieldType) ∈ fl_U := fl_w1 548 (by decide +kernel) (by decide +kernel)
theorem wq_557 : Cond.methodLink "CabTears" 178 ⟨"CabTears$Shelf", "giveBack", "(LCabTears$Stand;)Z"⟩ ∈ fl_U := fl_w1 557 (by decide +kernel) (by decide +kernel)
theorem wq_558 : Cond.instanceMethod ⟨"CabTears$Shelf", "giveBack", "(LCabTears$Stand;)Z"⟩ ∈ fl_U := fl_w1 558 (by decide +kernel) (by decide +kernel)
theorem wq_559 : Cond.selects "CabTears$Shelf" ⟨"CabTears$Shelf", "giveBack", "(LCabTears$Stand;)Z"⟩ ⟨"CabTears$Shelf", "giveBack", "(LCabTears$Stand;)Z"⟩ ∈ fl_U := fl_w1 559 (by decide +kernel) (by decide +kernel)
theorem wq_560 : Cond.code ⟨"CabTears$Shelf", "giveBack", "(LCabTears$Stand;)Z"⟩ prog_6_method_3_code 2 (Option.some FieldType.boolean) ∈ fl_U := fl_w1 560 (by decide +kernel) (by decide +kernel)
theorem wq_565 : Cond.methodLink "CabTears" 185 ⟨"CabTears$City", "reckon", "(LCabTears$Stand;II)V"⟩ ∈ fl_U := fl_w1 565 (by decide +kernel) (by decide +kernel)
theorem wq_570 : Cond.methodLink "CabTears" 205 ⟨"CabTears$City", "nearest", "(LCabTears$Stand;I)I"⟩ ∈ fl_U := fl_w1 570 (by decide +kernel) (by decide +kernel)
theorem wq_571 : Cond.instanceMethod ⟨"CabTears$City", "nearest", "(LCabTears$Stand;I)I"⟩ ∈ fl_U := fl_w1 571 (by decide +kernel) (by decide +kernel)
theorem wq_572 : Cond.selects "CabTears$City" ⟨"CabTears$City", "nearest", "(LCabTears$Stand;I)I"⟩ ⟨"CabTears$City", "nearest", "(LCabTears$Stand;I)I"⟩ ∈ fl_U := fl_w1 572 (by decide +kernel) (by decide +kernel)
theorem wq_573 : Cond.code ⟨"CabTears$City", "nearest", "(LCabTears$Stand;I)I"⟩ prog_2_method_13_code 6 (Option.some FieldType.int) ∈ fl_U := fl_w1 573 (by decide +kernel) (by decide +kernel)
theorem wq_578 : Cond.methodLink "CabTears" 209 ⟨"CabTears$Orders", "search", "(LCabTears$City;LCabTears$Stand;)V"⟩ ∈ fl_U := fl_w1 578 (by decide +kernel) (by decide +kernel)
theorem wq_579 : Cond.instanceMethod ⟨"CabTears$Orders", "search", "(LCabTears$City;LCabTears$Stand;)V"⟩ ∈ fl_U := fl_w1 579 (by decide +kernel) (by decide +kernel)
theorem wq_580 : Cond.selects "CabTears$Orders" ⟨"CabTears$Orders", "search", "(LCabTears$City;LCabTears$Stand;)V"⟩ ⟨"CabTears$Orders", "search", "(LCabTears$City;LCabTears$Stand;)V"⟩ ∈ fl_U := fl_w1 580 (by decide +kernel) (by decide +kernel)
theorem wq_581 : Cond.code ⟨"CabTears$Orders", "search", "(LCabTears$City;LCabTears$Stand;)V"⟩ prog_4_method_2_code 5 (Option.none : Option FieldType) ∈ fl_U := fl_w1 581 (by decide +kernel) (by decide +kernel)
theorem wq_582 : Cond.methodLink "CabTears$Orders" 25 ⟨"CabTears$Stand", "copy", "(LCabTears$Stand;)V"⟩ ∈ fl_U := fl_w1 582 (by decide +kernel) (by decide +kernel)
theorem wq_584 : Cond.static ⟨"CabTears", "restOf", "(LCabTears$City;LCabTears$Stand;)I"⟩ ∈ fl_U := fl_w1 584 (by decide +kernel) (by decide +kernel)
theorem wq_585 : Cond.code ⟨"CabTears", "restOf", "(LCabTears$City;LCabTears$Stand;)I"⟩ prog_1_method_31_code 4 (Option.some FieldType.int) ∈ fl_U := fl_w1 585 (by decide +kernel) (by decide +kernel)
theorem wq_586 : Cond.methodLink "CabTears$Orders" 48 ⟨"CabTears$Stand", "isTaken", "(I)Z"⟩ ∈ fl_U := fl_w1 586 (by decide +kernel) (by decide +kernel)
theorem wq_587 : Cond.methodLink "CabTears$Orders" 52 ⟨"CabTears$Orders", "extend", "(LCabTears$Orders;LCabTears$City;II)V"⟩ ∈ fl_U := fl_w1 587 (by decide +kernel) (by decide +kernel)
theorem wq_588 : Cond.static ⟨"CabTears$Orders", "extend", "(LCabTears$Orders;LCabTears$City;II)V"⟩ ∈ fl_U := fl_w1 588 (by decide +kernel) (by decide +kernel)
theorem wq_589 : Cond.code ⟨"CabTears$Orders", "extend", "(LCabTears$Orders;LCabTears$City;II)V"⟩ prog_4_method_3_code 8 (Option.none : Option FieldType) ∈ fl_U := fl_w1 589 (by decide +kernel) (by decide +kernel)
theorem wq_590 : Cond.methodLink "CabTears$Orders" 56 ⟨"CabTears$Orders", "keepIfFewer", "(I)V"⟩ ∈ fl_U := fl_w1 590 (by decide +kernel) (by decide +kernel)
theorem wq_592 : Cond.instanceMethod ⟨"CabTears$Orders", "keepIfFewer", "(I)V"⟩ ∈ fl_U := fl_w1 592 (by decide +kernel) (by decide +kernel)
theorem wq_593 : Cond.code ⟨"CabTears$Orders", "keepIfFewer", "(I)V"⟩ prog_4_method_4_code 2 (Option.none : Option FieldType) ∈ fl_U := fl_w1 593 (by decide +kernel) (by decide +kernel)
theorem wq_594 : Cond.methodLink "CabTears$Orders" 64 ⟨"java/lang/System", "arraycopy", "(Ljava/lang/Object;ILjava/lang/Object;II)V"⟩ ∈ fl_U := fl_w1 594 (by decide +kernel) (by decide +kernel)
theorem wq_595 : Cond.methodLink "CabTears$Orders" 60 ⟨"CabTears$City", "driveSoonest", "(LCabTears$Stand;I)Z"⟩ ∈ fl_U := fl_w1 595 (by decide +kernel) (by decide +kernel)
theorem wq_596 : Cond.instanceMethod ⟨"CabTears$City", "driveSoonest", "(LCabTears$Stand;I)Z"⟩ ∈ fl_U := fl_w1 596 (by decide +kernel) (by decide +kernel)
theorem wq_597 : Cond.selects "CabTears$City" ⟨"CabTears$City", "driveSoonest", "(LCabTears$Stand;I)Z"⟩ ⟨"CabTears$City", "driveSoonest", "(LCabTears$Stand;I)Z"⟩ ∈ fl_U := fl_w1 597 (by decide +kernel) (by decide +kernel)
theorem wq_598 : Cond.code ⟨"CabTears$City", "driveSoonest", "(LCabTears$Stand;I)Z"⟩ prog_2_method_16_code 3 (Option.some FieldType.boolean) ∈ fl_U := fl_w1 598 (by decide +kernel) (by decide +kernel)
theorem wq_599 : Cond.methodLink "CabTears$City" 124 ⟨"CabTears$City", "nearest", "(LCabTears$Stand;I)I"⟩ ∈ fl_U := fl_w1 599 (by decide +kernel) (by decide +kernel)
theorem wq_600 : Cond.methodLink "CabTears$City" 128 ⟨"CabTears$City", "drive", "(LCabTears$Stand;II)Z"⟩ ∈ fl_U := fl_w1 600 (by decide +kernel) (by decide +kernel)
theorem wq_605 : Cond.methodLink "CabTears" 220 ⟨"CabTears", "lateFrom", "(II)I"⟩ ∈ fl_U := fl_w1 605 (by decide +kernel) (by decide +kernel)
theorem wq_607 : Cond.instanceMethod ⟨"CabTears", "lateFrom", "(II)I"⟩ ∈ fl_U := fl_w1 607 (by decide +kernel) (by decide +kernel)
theorem wq_608 : Cond.code ⟨"CabTears", "lateFrom", "(II)I"⟩ prog_1_method_33_code 5 (Option.some FieldType.int) ∈ fl_U := fl_w1 608 (by decide +kernel) (by decide +kernel)
theorem wq_609 : Cond.methodLink "CabTears" 223 ⟨"CabTears$Stand", "copy", "(LCabTears$Stand;)V"⟩ ∈ fl_U := fl_w1 609 (by decide +kernel) (by decide +kernel)
theorem wq_614 : Cond.methodLink "CabTears" 226 ⟨"CabTears$Stand", "cabsAsNumber", "()J"⟩ ∈ fl_U := fl_w1 614 (by decide +kernel) (by decide +kernel)
theorem wq_615 : Cond.instanceMethod ⟨"CabTears$Stand", "cabsAsNumber", "()J"⟩ ∈ fl_U := fl_w1 615 (by decide +kernel) (by decide +kernel)
theorem wq_616 : Cond.selects "CabTears$Stand" ⟨"CabTears$Stand", "cabsAsNumber", "()J"⟩ ⟨"CabTears$Stand", "cabsAsNumber", "()J"⟩ ∈ fl_U := fl_w1 616 (by decide +kernel) (by decide +kernel)
theorem wq_617 : Cond.code ⟨"CabTears$Stand", "cabsAsNumber", "()J"⟩ prog_7_method_6_code 4 (Option.some FieldType.long) ∈ fl_U := fl_w1 617 (by decide +kernel) (by decide +kernel)
theorem wq_618 : Cond.constantLong "CabTears$Stand" 48 (64 : Int64) ∈ fl_U := fl_w1 618 (by decide +kernel) (by decide +kernel)
theorem wq_619 : Cond.constantLong "CabTears$Stand" 50 (-4 : Int64) ∈ fl_U := fl_w1 619 (by decide +kernel) (by decide +kernel)
theorem wq_620 : Cond.methodLink "CabTears" 230 ⟨"CabTears", "liveOneDay", "()V"⟩ ∈ fl_U := fl_w1 620 (by decide +kernel) (by decide +kernel)
theorem wq_622 : Cond.instanceMethod ⟨"CabTears", "liveOneDay", "()V"⟩ ∈ fl_U := fl_w1 622 (by decide +kernel) (by decide +kernel)
theorem wq_623 : Cond.code ⟨"CabTears", "liveOneDay", "()V"⟩ prog_1_method_34_code 2 (Option.none : Option FieldType) ∈ fl_U := fl_w1 623 (by decide +kernel) (by decide +kernel)
theorem wq_624 : Cond.methodLink "CabTears" 295 ⟨"CabTears$Stand", "dawn", "()V"⟩ ∈ fl_U := fl_w1 624 (by decide +kernel) (by decide +kernel)
theorem wq_625 : Cond.methodLink "CabTears" 240 ⟨"CabTears$City", "driveSoonest", "(LCabTears$Stand;I)Z"⟩ ∈ fl_U := fl_w1 625 (by decide +kernel) (by decide +kernel)
theorem wq_626 : Cond.methodLink "CabTears" 233 ⟨"CabTears", "dayLike", "(I)I"⟩ ∈ fl_U := fl_w1 626 (by decide +kernel) (by decide +kernel)
theorem wq_628 : Cond.instanceMethod ⟨"CabTears", "dayLike", "(I)I"⟩ ∈ fl_U := fl_w1 628 (by decide +kernel) (by decide +kernel)
theorem wq_629 : Cond.code ⟨"CabTears", "dayLike", "(I)I"⟩ prog_1_method_35_code 3 (Option.some FieldType.int) ∈ fl_U := fl_w1 629 (by decide +kernel) (by decide +kernel)
theorem wq_634 : Cond.methodLink "CabTears" 237 ⟨"CabTears", "tearsOfOthers", "(I)I"⟩ ∈ fl_U := fl_w1 634 (by decide +kernel) (by decide +kernel)
theorem wq_636 : Cond.instanceMethod ⟨"CabTears", "tearsOfOthers", "(I)I"⟩ ∈ fl_U := fl_w1 636 (by decide +kernel) (by decide +kernel)
theorem wq_637 : Cond.code ⟨"CabTears", "tearsOfOthers", "(I)I"⟩ prog_1_method_36_code 4 (Option.some FieldType.int) ∈ fl_U := fl_w1 637 (by decide +kernel) (by decide +kernel)
theorem wq_642 : Cond.methodLink "CabTears" 244 ⟨"CabTears$Duel", "fight", "(LCabTears$City;LCabTears$Stand;III)V"⟩ ∈ fl_U := fl_w1 642 (by decide +kernel) (by decide +kernel)
theorem wq_643 : Cond.instanceMethod ⟨"CabTears$Duel", "fight", "(LCabTears$City;LCabTears$Stand;III)V"⟩ ∈ fl_U := fl_w1 643 (by decide +kernel) (by decide +kernel)
theorem wq_644 : Cond.selects "CabTears$Duel" ⟨"CabTears$Duel", "fight", "(LCabTears$City;LCabTears$Stand;III)V"⟩ ⟨"CabTears$Duel", "fight", "(LCabTears$City;LCabTears$Stand;III)V"⟩ ∈ fl_U := fl_w1 644 (by decide +kernel) (by decide +kernel)
theorem wq_645 : Cond.code ⟨"CabTears$Duel", "fight", "(LCabTears$City;LCabTears$Stand;III)V"⟩ prog_3_method_2_code 6 (Option.none : Option FieldType) ∈ fl_U := fl_w1 645 (by decide +kernel) (by decide +kernel)
theorem wq_646 : Cond.methodLink "CabTears$Duel" 18 ⟨"CabTears$Stand", "copy", "(LCabTears$Stand;)V"⟩ ∈ fl_U := fl_w1 646 (by decide +kernel) (by decide +kernel)
theorem wq_647 : Cond.methodLink "CabTears$Duel" 29 ⟨"java/lang/Math", "min", "(II)I"⟩ ∈ fl_U := fl_w1 647 (by decide +kernel) (by decide +kernel)
theorem wq_649 : Cond.methodLink "CabTears$Duel" 45 ⟨"CabTears$Duel", "play", "(LCabTears$Duel;LCabTears$City;I)I"⟩ ∈ fl_U := fl_w1 649 (by decide +kernel) (by decide +kernel)
theorem wq_650 : Cond.static ⟨"CabTears$Duel", "play", "(LCabTears$Duel;LCabTears$City;I)I"⟩ ∈ fl_U := fl_w1 650 (by decide +kernel) (by decide +kernel)
theorem wq_651 : Cond.code ⟨"CabTears$Duel", "play", "(LCabTears$Duel;LCabTears$City;I)I"⟩ prog_3_method_3_code 10 (Option.some FieldType.int) ∈ fl_U := fl_w1 651 (by decide +kernel) (by decide +kernel)
theorem wq_652 : Cond.methodLink "CabTears$Duel" 57 ⟨"CabTears$Stand", "isTaken", "(I)Z"⟩ ∈ fl_U := fl_w1 652 (by decide +kernel) (by decide +kernel)
theorem wq_653 : Cond.methodLink "CabTears$Duel" 61 ⟨"CabTears$City", "drive", "(LCabTears$Stand;II)Z"⟩ ∈ fl_U := fl_w1 653 (by decide +kernel) (by decide +kernel)
theorem wq_658 : Cond.methodLink "CabTears" 254 ⟨"CabTears$Seen", "add", "(III)Z"⟩ ∈ fl_U := fl_w1 658 (by decide +kernel) (by decide +kernel)
theorem wq_659 : Cond.instanceMethod ⟨"CabTears$Seen", "add", "(III)Z"⟩ ∈ fl_U := fl_w1 659 (by decide +kernel) (by decide +kernel)
theorem wq_660 : Cond.selects "CabTears$Seen" ⟨"CabTears$Seen", "add", "(III)Z"⟩ ⟨"CabTears$Seen", "add", "(III)Z"⟩ ∈ fl_U := fl_w1 660 (by decide +kernel) (by decide +kernel)
theorem wq_661 : Cond.code ⟨"CabTears$Seen", "add", "(III)Z"⟩ prog_5_method_2_code 4 (Option.some FieldType.boolean) ∈ fl_U := fl_w1 661 (by decide +kernel) (by decide +kernel)
theorem wq_670 : Cond.methodLink "CabTears" 257 ⟨"CabTears", "fitsSeen", "(III)Z"⟩ ∈ fl_U := fl_w1 670 (by decide +kernel) (by decide +kernel)
theorem wq_672 : Cond.instanceMethod ⟨"CabTears", "fitsSeen", "(III)Z"⟩ ∈ fl_U := fl_w1 672 (by decide +kernel) (by decide +kernel)
theorem wq_673 : Cond.code ⟨"CabTears", "fitsSeen", "(III)Z"⟩ prog_1_method_37_code 5 (Option.some FieldType.boolean) ∈ fl_U := fl_w1 673 (by decide +kernel) (by decide +kernel)
theorem wq_674 : Cond.methodLink "CabTears" 304 ⟨"CabTears$City", "reckonAs", "(LCabTears$Stand;IIII)V"⟩ ∈ fl_U := fl_w1 674 (by decide +kernel) (by decide +kernel)
theorem wq_683 : Cond.methodLink "CabTears" 260 ⟨"CabTears", "restOf", "(LCabTears$City;LCabTears$Stand;)I"⟩ ∈ fl_U := fl_w1 683 (by decide +kernel) (by decide +kernel)
theorem wq_684 : Cond.methodLink "CabTears" 264 ⟨"CabTears", "power", "(II)I"⟩ ∈ fl_U := fl_w1 684 (by decide +kernel) (by decide +kernel)
theorem wq_685 : Cond.static ⟨"CabTears", "power", "(II)I"⟩ ∈ fl_U := fl_w1 685 (by decide +kernel) (by decide +kernel)
theorem wq_686 : Cond.code ⟨"CabTears", "power", "(II)I"⟩ prog_1_method_40_code 4 (Option.some FieldType.int) ∈ fl_U := fl_w1 686 (by decide +kernel) (by decide +kernel)
theorem wq_687 : Cond.methodLink "CabTears" 267 ⟨"java/lang/Integer", "bitCount", "(I)I"⟩ ∈ fl_U := fl_w1 687 (by decide +kernel) (by decide +kernel)
theorem wq_688 : Cond.static ⟨"java/lang/Integer", "bitCount", "(I)I"⟩ ∈ fl_U := fl_w1 688 (by decide +kernel) (by decide +kernel)
theorem wq_689 : Cond.code ⟨"java/lang/Integer", "bitCount", "(I)I"⟩ prog_12_method_49_code 1 (Option.some FieldType.int) ∈ fl_U := fl_w1 689 (by decide +kernel) (by decide +kernel)
theorem wq_690 : Cond.constant "java/lang/Integer" 265 (1431655765 : Int32) ∈ fl_U := fl_w1 690 (by decide +kernel) (by decide +kernel)
theorem wq_691 : Cond.constant "java/lang/Integer" 266 (858993459 : Int32) ∈ fl_U := fl_w1 691 (by decide +kernel) (by decide +kernel)
theorem wq_692 : Cond.constant "java/lang/Integer" 267 (252645135 : Int32) ∈ fl_U := fl_w1 692 (by decide +kernel) (by decide +kernel)
theorem wq_693 : Cond.methodLink "CabTears" 272 ⟨"CabTears", "lateAmong", "(I)I"⟩ ∈ fl_U := fl_w1 693 (by decide +kernel) (by decide +kernel)
theorem wq_695 : Cond.instanceMethod ⟨"CabTears", "lateAmong", "(I)I"⟩ ∈ fl_U := fl_w1 695 (by decide +kernel) (by decide +kernel)
theorem wq_696 : Cond.code ⟨"CabTears", "lateAmong", "(I)I"⟩ prog_1_method_38_code 6 (Option.some FieldType.int) ∈ fl_U := fl_w1 696 (by decide +kernel) (by decide +kernel)
theorem wq_697 : Cond.methodLink "CabTears" 311 ⟨"CabTears$City", "settle", "(LCabTears$Stand;IIZ)V"⟩ ∈ fl_U := fl_w1 697 (by decide +kernel) (by decide +kernel)
theorem wq_698 : Cond.methodLink "CabTears" 275 ⟨"CabTears", "commonDivisor", "(II)I"⟩ ∈ fl_U := fl_w1 698 (by decide +kernel) (by decide +kernel)
theorem wq_699 : Cond.static ⟨"CabTears", "commonDivisor", "(II)I"⟩ ∈ fl_U := fl_w1 699 (by decide +kernel) (by decide +kernel)
theorem wq_700 : Cond.code ⟨"CabTears", "commonDivisor", "(II)I"⟩ prog_1_method_41_code 6 (Option.some FieldType.int) ∈ fl_U := fl_w1 700 (by decide +kernel) (by decide +kernel)
theorem wq_701 : Cond.methodLink "CabTears" 278 ⟨"java/lang/Math", "max", "(II)I"⟩ ∈ fl_U := fl_w1 701 (by decide +kernel) (by decide +kernel)
theorem wq_706 : Cond.methodLink "CabTears" 283 ⟨"CabTears", "drawn", "(II)I"⟩ ∈ fl_U := fl_w1 706 (by decide +kernel) (by decide +kernel)
theorem wq_707 : Cond.static ⟨"CabTears", "drawn", "(II)I"⟩ ∈ fl_U := fl_w1 707 (by decide +kernel) (by decide +kernel)
theorem wq_708 : Cond.code ⟨"CabTears", "drawn", "(II)I"⟩ prog_1_method_39_code 4 (Option.some FieldType.int) ∈ fl_U := fl_w1 708 (by decide +kernel) (by decide +kernel)
theorem wq_709 : Cond.constantLong "CabTears" 315 (7919 : Int64) ∈ fl_U := fl_w1 709 (by decide +kernel) (by decide +kernel)
theorem wq_710 : Cond.constantLong "CabTears" 317 (6151 : Int64) ∈ fl_U := fl_w1 710 (by decide +kernel) (by decide +kernel)
theorem wq_711 : Cond.constantLong "CabTears" 319 (65521 : Int64) ∈ fl_U := fl_w1 711 (by decide +kernel) (by decide +kernel)
theorem wq_724 : Cond.methodLink "CabTears" 289 ⟨"CabTears", "howManyWept", "()I"⟩ ∈ fl_U := fl_w1 724 (by decide +kernel) (by decide +kernel)
theorem wq_726 : Cond.instanceMethod ⟨"CabTears", "howManyWept", "()I"⟩ ∈ fl_U := fl_w1 726 (by decide +kernel) (by decide +kernel)
theorem wq_727 : Cond.code ⟨"CabTears", "howManyWept", "()I"⟩ prog_1_method_32_code 3 (Option.some FieldType.int) ∈ fl_U := fl_w1 727 (by decide +kernel) (by decide +kernel)
theorem wq_734 : Cond.methodLink "CabTearsModel" 71 ⟨"CabTearsModel", "addsCab", "(III)V"⟩ ∈ fl_U := fl_w1 734 (by decide +kernel) (by decide +kernel)
theorem wq_736 : Cond.instanceMethod ⟨"CabTearsModel", "addsCab", "(III)V"⟩ ∈ fl_U := fl_w1 736 (by decide +kernel) (by decide +kernel)
theorem wq_737 : Cond.code ⟨"CabTearsModel", "addsCab", "(III)V"⟩ prog_11_method_11_code 4 (Option.none : Option FieldType) ∈ fl_U := fl_w1 737 (by decide +kernel) (by decide +kernel)
theorem wq_738 : Cond.methodLink "CabTearsModel" 75 ⟨"CabTearsModel", "addsFare", "(IIIII)V"⟩ ∈ fl_U := fl_w1 738 (by decide +kernel) (by decide +kernel)
theorem wq_740 : Cond.instanceMethod ⟨"CabTearsModel", "addsFare", "(IIIII)V"⟩ ∈ fl_U := fl_w1 740 (by decide +kernel) (by decide +kernel)
theorem wq_741 : Cond.code ⟨"CabTearsModel", "addsFare", "(IIIII)V"⟩ prog_11_method_12_code 6 (Option.none : Option FieldType) ∈ fl_U := fl_w1 741 (by decide +kernel) (by decide +kernel)
theorem wq_742 : Cond.methodLink "CabTearsModel" 79 ⟨"CabTearsModel", "begins", "()V"⟩ ∈ fl_U := fl_w1 742 (by decide +kernel) (by decide +kernel)
theorem wq_744 : Cond.instanceMethod ⟨"CabTearsModel", "begins", "()V"⟩ ∈ fl_U := fl_w1 744 (by decide +kernel) (by decide +kernel)
theorem wq_745 : Cond.code ⟨"CabTearsModel", "begins", "()V"⟩ prog_11_method_13_code 3 (Option.none : Option FieldType) ∈ fl_U := fl_w1 745 (by decide +kernel) (by decide +kernel)
theorem wq_746 : Cond.fieldLink "CabTearsModel" 7 "CabTearsModel" "w" "[I" ∈ fl_U := fl_w1 746 (by decide +kernel) (by decide +kernel)
theorem wq_747 : Cond.fieldLink "CabTearsModel" 108 "CabTearsModel" "undoes" "I" ∈ fl_U := fl_w1 747 (by decide +kernel) (by decide +kernel)
theorem wq_748 : Cond.fieldLink "CabTearsModel" 111 "CabTearsModel" "kept" "I" ∈ fl_U := fl_w1 748 (by decide +kernel) (by decide +kernel)
theorem wq_749 : Cond.fieldLink "CabTearsModel" 82 "CabTearsModel" "inRows" "I" ∈ fl_U := fl_w1 749 (by decide +kernel) (by decide +kernel)
theorem wq_750 : Cond.fieldLink "CabTearsModel" 85 "CabTearsModel" "columns" "I" ∈ fl_U := fl_w1 750 (by decide +kernel) (by decide +kernel)
theorem wq_751 : Cond.fieldLink "CabTearsModel" 96 "CabTearsModel" "cabs" "I" ∈ fl_U := fl_w1 751 (by decide +kernel) (by decide +kernel)
theorem wq_752 : Cond.fieldLink "CabTearsModel" 13 "CabTearsModel" "cabKind" "[I" ∈ fl_U := fl_w1 752 (by decide +kernel) (by decide +kernel)
theorem wq_753 : Cond.fieldLink "CabTearsModel" 99 "CabTearsModel" "fares" "I" ∈ fl_U := fl_w1 753 (by decide +kernel) (by decide +kernel)
theorem wq_754 : Cond.fieldLink "CabTearsModel" 16 "CabTearsModel" "fareKind" "[I" ∈ fl_U := fl_w1 754 (by decide +kernel) (by decide +kernel)
theorem wq_755 : Cond.fieldLink "CabTearsModel" 19 "CabTearsModel" "fareFrom" "[I" ∈ fl_U := fl_w1 755 (by decide +kernel) (by decide +kernel)
theorem wq_756 : Cond.fieldLink "CabTearsModel" 22 "CabTearsModel" "fareTo" "[I" ∈ fl_U := fl_w1 756 (by decide +kernel) (by decide +kernel)
theorem wq_757 : Cond.fieldLink "CabTearsModel" 25 "CabTearsModel" "fareWhen" "[I" ∈ fl_U := fl_w1 757 (by decide +kernel) (by decide +kernel)
theorem wq_758 : Cond.fieldLink "CabTearsModel" 28 "CabTearsModel" "bears" "[I" ∈ fl_U := fl_w1 758 (by decide +kernel) (by decide +kernel)
theorem wq_759 : Cond.fieldLink "CabTearsModel" 114 "CabTearsModel" "seen" "I" ∈ fl_U := fl_w1 759 (by decide +kernel) (by decide +kernel)
theorem wq_760 : Cond.fieldLink "CabTearsModel" 31 "CabTearsModel" "seenCab" "[I" ∈ fl_U := fl_w1 760 (by decide +kernel) (by decide +kernel)
theorem wq_761 : Cond.fieldLink "CabTearsModel" 34 "CabTearsModel" "seenFare" "[I" ∈ fl_U := fl_w1 761 (by decide +kernel) (by decide +kernel)
theorem wq_762 : Cond.fieldLink "CabTearsModel" 37 "CabTearsModel" "seenStep" "[I" ∈ fl_U := fl_w1 762 (by decide +kernel) (by decide +kernel)
theorem wq_763 : Cond.fieldLink "CabTearsModel" 40 "CabTearsModel" "text" "[I" ∈ fl_U := fl_w1 763 (by decide +kernel) (by decide +kernel)
theorem wq_764 : Cond.fieldLink "CabTearsModel" 121 "CabTearsModel" "texted" "I" ∈ fl_U := fl_w1 764 (by decide +kernel) (by decide +kernel)
theorem wq_765 : Cond.fieldLink "CabTearsModel" 124 "CabTearsModel" "place" "I" ∈ fl_U := fl_w1 765 (by decide +kernel) (by decide +kernel)
theorem wq_766 : Cond.fieldLink "CabTearsModel" 127 "CabTearsModel" "number" "I" ∈ fl_U := fl_w1 766 (by decide +kernel) (by decide +kernel)
theorem wq_767 : Cond.fieldLink "CabTearsModel" 64 "CabTearsModel" "readRows" "I" ∈ fl_U := fl_w1 767 (by decide +kernel) (by decide +kernel)
theorem wq_768 : Cond.fieldLink "CabTearsModel" 68 "CabTearsModel" "readColumns" "I" ∈ fl_U := fl_w1 768 (by decide +kernel) (by decide +kernel)
theorem wq_769 : Cond.fieldLink "CabTearsModel" 102 "CabTearsModel" "readCabs" "I" ∈ fl_U := fl_w1 769 (by decide +kernel) (by decide +kernel)
theorem wq_770 : Cond.fieldLink "CabTearsModel" 43 "CabTearsModel" "readCab" "[I" ∈ fl_U := fl_w1 770 (by decide +kernel) (by decide +kernel)
theorem wq_771 : Cond.fieldLink "CabTearsModel" 105 "CabTearsModel" "readFares" "I" ∈ fl_U := fl_w1 771 (by decide +kernel) (by decide +kernel)
theorem wq_772 : Cond.fieldLink "CabTearsModel" 46 "CabTearsModel" "readFare" "[I" ∈ fl_U := fl_w1 772 (by decide +kernel) (by decide +kernel)
theorem wq_773 : Cond.fieldLink "CabTearsModel" 49 "CabTearsModel" "tried" "[I" ∈ fl_U := fl_w1 773 (by decide +kernel) (by decide +kernel)
theorem wq_774 : Cond.fieldLink "CabTearsModel" 52 "CabTearsModel" "weptBy" "[I" ∈ fl_U := fl_w1 774 (by decide +kernel) (by decide +kernel)
theorem wq_775 : Cond.fieldLink "CabTearsModel" 55 "CabTearsModel" "bestOrder" "[I" ∈ fl_U := fl_w1 775 (by decide +kernel) (by decide +kernel)
theorem wq_776 : Cond.fieldLink "CabTearsModel" 58 "CabTearsModel" "days" "[I" ∈ fl_U := fl_w1 776 (by decide +kernel) (by decide +kernel)
theorem wq_777 : Cond.fieldLink "CabTearsModel" 61 "CabTearsModel" "values" "[I" ∈ fl_U := fl_w1 777 (by decide +kernel) (by decide +kernel)
theorem wq_847 : Cond.constantLong "CabTearsModel" 117 (32 : Int64) ∈ fl_U := fl_w1 847 (by decide +kernel) (by decide +kernel)
theorem wq_848 : Cond.constantLong "CabTearsModel" 119 (126 : Int64) ∈ fl_U := fl_w1 848 (by decide +kernel) (by decide +kernel)
theorem wq_849 : Cond.methodLink "CabTearsModel" 92 ⟨"CabTearsModel", "in", "(JJJ)Z"⟩ ∈ fl_U := fl_w1 849 (by decide +kernel) (by decide +kernel)
theorem wq_850 : Cond.static ⟨"CabTearsModel", "in", "(JJJ)Z"⟩ ∈ fl_U := fl_w1 850 (by decide +kernel) (by decide +kernel)
theorem wq_851 : Cond.code ⟨"CabTearsModel", "in", "(JJJ)Z"⟩ prog_11_method_3_code 6 (Option.some FieldType.boolean) ∈ fl_U := fl_w1 851 (by decide +kernel) (by decide +kernel)
theorem wq_860 : Cond.methodLink "CabTearsModel" 155 ⟨"CabTearsModel", "faultOf", "()I"⟩ ∈ fl_U := fl_w1 860 (by decide +kernel) (by decide +kernel)
theorem wq_862 : Cond.instanceMethod ⟨"CabTearsModel", "faultOf", "()I"⟩ ∈ fl_U := fl_w1 862 (by decide +kernel) (by decide +kernel)
theorem wq_863 : Cond.code ⟨"CabTearsModel", "faultOf", "()I"⟩ prog_11_method_22_code 2 (Option.some FieldType.int) ∈ fl_U := fl_w1 863 (by decide +kernel) (by decide +kernel)
theorem wq_864 : Cond.methodLink "CabTearsModel" 152 ⟨"CabTearsModel", "takesItem", "()Z"⟩ ∈ fl_U := fl_w1 864 (by decide +kernel) (by decide +kernel)
theorem wq_866 : Cond.instanceMethod ⟨"CabTearsModel", "takesItem", "()Z"⟩ ∈ fl_U := fl_w1 866 (by decide +kernel) (by decide +kernel)
theorem wq_867 : Cond.code ⟨"CabTearsModel", "takesItem", "()Z"⟩ prog_11_method_21_code 2 (Option.some FieldType.boolean) ∈ fl_U := fl_w1 867 (by decide +kernel) (by decide +kernel)
theorem wq_868 : Cond.methodLink "CabTearsModel" 130 ⟨"CabTearsModel", "letterAt", "(I)I"⟩ ∈ fl_U := fl_w1 868 (by decide +kernel) (by decide +kernel)
theorem wq_870 : Cond.instanceMethod ⟨"CabTearsModel", "letterAt", "(I)I"⟩ ∈ fl_U := fl_w1 870 (by decide +kernel) (by decide +kernel)
theorem wq_871 : Cond.code ⟨"CabTearsModel", "letterAt", "(I)I"⟩ prog_11_method_16_code 2 (Option.some FieldType.int) ∈ fl_U := fl_w1 871 (by decide +kernel) (by decide +kernel)
theorem wq_872 : Cond.methodLink "CabTearsModel" 142 ⟨"CabTearsModel", "takesRows", "()Z"⟩ ∈ fl_U := fl_w1 872 (by decide +kernel) (by decide +kernel)
theorem wq_874 : Cond.instanceMethod ⟨"CabTearsModel", "takesRows", "()Z"⟩ ∈ fl_U := fl_w1 874 (by decide +kernel) (by decide +kernel)
theorem wq_875 : Cond.code ⟨"CabTearsModel", "takesRows", "()Z"⟩ prog_11_method_18_code 2 (Option.some FieldType.boolean) ∈ fl_U := fl_w1 875 (by decide +kernel) (by decide +kernel)
theorem wq_876 : Cond.methodLink "CabTearsModel" 138 ⟨"CabTearsModel", "takesNumber", "(III)Z"⟩ ∈ fl_U := fl_w1 876 (by decide +kernel) (by decide +kernel)
theorem wq_878 : Cond.instanceMethod ⟨"CabTearsModel", "takesNumber", "(III)Z"⟩ ∈ fl_U := fl_w1 878 (by decide +kernel) (by decide +kernel)
theorem wq_879 : Cond.code ⟨"CabTearsModel", "takesNumber", "(III)Z"⟩ prog_11_method_17_code 5 (Option.some FieldType.boolean) ∈ fl_U := fl_w1 879 (by decide +kernel) (by decide +kernel)
theorem wq_880 : Cond.constantLong "CabTearsModel" 134 (48 : Int64) ∈ fl_U := fl_w1 880 (by decide +kernel) (by decide +kernel)
theorem wq_881 : Cond.constantLong "CabTearsModel" 136 (57 : Int64) ∈ fl_U := fl_w1 881 (by decide +kernel) (by decide +kernel)
theorem wq_882 : Cond.methodLink "CabTearsModel" 146 ⟨"CabTearsModel", "takesCab", "()Z"⟩ ∈ fl_U := fl_w1 882 (by decide +kernel) (by decide +kernel)
theorem wq_884 : Cond.instanceMethod ⟨"CabTearsModel", "takesCab", "()Z"⟩ ∈ fl_U := fl_w1 884 (by decide +kernel) (by decide +kernel)
theorem wq_885 : Cond.code ⟨"CabTearsModel", "takesCab", "()Z"⟩ prog_11_method_19_code 4 (Option.some FieldType.boolean) ∈ fl_U := fl_w1 885 (by decide +kernel) (by decide +kernel)
theorem wq_886 : Cond.methodLink "CabTearsModel" 149 ⟨"CabTearsModel", "takesFare", "()Z"⟩ ∈ fl_U := fl_w1 886 (by decide +kernel) (by decide +kernel)
theorem wq_888 : Cond.instanceMethod ⟨"CabTearsModel", "takesFare", "()Z"⟩ ∈ fl_U := fl_w1 888 (by decide +kernel) (by decide +kernel)
theorem wq_889 : Cond.code ⟨"CabTearsModel", "takesFare", "()Z"⟩ prog_11_method_20_code 6 (Option.some FieldType.boolean) ∈ fl_U := fl_w1 889 (by decide +kernel) (by decide +kernel)
theorem wq_894 : Cond.methodLink "CabTearsModel" 88 ⟨"CabTearsModel", "places", "()I"⟩ ∈ fl_U := fl_w1 894 (by decide +kernel) (by decide +kernel)
theorem wq_896 : Cond.instanceMethod ⟨"CabTearsModel", "places", "()I"⟩ ∈ fl_U := fl_w1 896 (by decide +kernel) (by decide +kernel)
theorem wq_897 : Cond.code ⟨"CabTearsModel", "places", "()I"⟩ prog_11_method_7_code 1 (Option.some FieldType.int) ∈ fl_U := fl_w1 897 (by decide +kernel) (by decide +kernel)
theorem wq_902 : Cond.methodLink "CabTearsModel" 158 ⟨"CabTearsModel", "isPlace", "(I)Z"⟩ ∈ fl_U := fl_w1 902 (by decide +kernel) (by decide +kernel)
theorem wq_904 : Cond.instanceMethod ⟨"CabTearsModel", "isPlace", "(I)Z"⟩ ∈ fl_U := fl_w1 904 (by decide +kernel) (by decide +kernel)
theorem wq_905 : Cond.code ⟨"CabTearsModel", "isPlace", "(I)Z"⟩ prog_11_method_8_code 2 (Option.some FieldType.boolean) ∈ fl_U := fl_w1 905 (by decide +kernel) (by decide +kernel)
theorem wq_906 : Cond.methodLink "CabTearsModel" 162 ⟨"CabTearsModel", "farOf", "(II)I"⟩ ∈ fl_U := fl_w1 906 (by decide +kernel) (by decide +kernel)
theorem wq_908 : Cond.instanceMethod ⟨"CabTearsModel", "farOf", "(II)I"⟩ ∈ fl_U := fl_w1 908 (by decide +kernel) (by decide +kernel)
theorem wq_909 : Cond.code ⟨"CabTearsModel", "farOf", "(II)I"⟩ prog_11_method_25_code 5 (Option.some FieldType.int) ∈ fl_U := fl_w1 909 (by decide +kernel) (by decide +kernel)
theorem wq_914 : Cond.methodLink "CabTearsModel" 166 ⟨"CabTearsModel", "isCab", "(I)Z"⟩ ∈ fl_U := fl_w1 914 (by decide +kernel) (by decide +kernel)
theorem wq_916 : Cond.instanceMethod ⟨"CabTearsModel", "isCab", "(I)Z"⟩ ∈ fl_U := fl_w1 916 (by decide +kernel) (by decide +kernel)
theorem wq_917 : Cond.code ⟨"CabTearsModel", "isCab", "(I)Z"⟩ prog_11_method_9_code 2 (Option.some FieldType.boolean) ∈ fl_U := fl_w1 917 (by decide +kernel) (by decide +kernel)
theorem wq_922 : Cond.methodLink "CabTearsModel" 169 ⟨"CabTearsModel", "isFare", "(I)Z"⟩ ∈ fl_U := fl_w1 922 (by decide +kernel) (by decide +kernel)
theorem wq_924 : Cond.instanceMethod ⟨"CabTearsModel", "isFare", "(I)Z"⟩ ∈ fl_U := fl_w1 924 (by decide +kernel) (by decide +kernel)
theorem wq_925 : Cond.code ⟨"CabTearsModel", "isFare", "(I)Z"⟩ prog_11_method_10_code 2 (Option.some FieldType.boolean) ∈ fl_U := fl_w1 925 (by decide +kernel) (by decide +kernel)
theorem wq_930 : Cond.methodLink "CabTearsModel" 197 ⟨"CabTearsModel", "has", "(II)Z"⟩ ∈ fl_U := fl_w1 930 (by decide +kernel) (by decide +kernel)
theorem wq_931 : Cond.static ⟨"CabTearsModel", "has", "(II)Z"⟩ ∈ fl_U := fl_w1 931 (by decide +kernel) (by decide +kernel)
theorem wq_932 : Cond.code ⟨"CabTearsModel", "has", "(II)Z"⟩ prog_11_method_4_code 2 (Option.some FieldType.boolean) ∈ fl_U := fl_w1 932 (by decide +kernel) (by decide +kernel)
theorem wq_933 : Cond.methodLink "CabTearsModel" 200 ⟨"CabTearsModel", "minds", "()V"⟩ ∈ fl_U := fl_w1 933 (by decide +kernel) (by decide +kernel)
theorem wq_935 : Cond.instanceMethod ⟨"CabTearsModel", "minds", "()V"⟩ ∈ fl_U := fl_w1 935 (by decide +kernel) (by decide +kernel)
theorem wq_936 : Cond.code ⟨"CabTearsModel", "minds", "()V"⟩ prog_11_method_37_code 2 (Option.none : Option FieldType) ∈ fl_U := fl_w1 936 (by decide +kernel) (by decide +kernel)
theorem wq_937 : Cond.methodLink "CabTearsModel" 193 ⟨"CabTearsModel", "copy", "(II)V"⟩ ∈ fl_U := fl_w1 937 (by decide +kernel) (by decide +kernel)
theorem wq_939 : Cond.instanceMethod ⟨"CabTearsModel", "copy", "(II)V"⟩ ∈ fl_U := fl_w1 939 (by decide +kernel) (by decide +kernel)
theorem wq_940 : Cond.code ⟨"CabTearsModel", "copy", "(II)V"⟩ prog_11_method_6_code 4 (Option.none : Option FieldType) ∈ fl_U := fl_w1 940 (by decide +kernel) (by decide +kernel)
theorem wq_941 : Cond.methodLink "CabTearsModel" 203 ⟨"CabTearsModel", "ridesAsOneDoes", "(III)Z"⟩ ∈ fl_U := fl_w1 941 (by decide +kernel) (by decide +kernel)
theorem wq_943 : Cond.instanceMethod ⟨"CabTearsModel", "ridesAsOneDoes", "(III)Z"⟩ ∈ fl_U := fl_w1 943 (by decide +kernel) (by decide +kernel)
theorem wq_944 : Cond.code ⟨"CabTearsModel", "ridesAsOneDoes", "(III)Z"⟩ prog_11_method_35_code 5 (Option.some FieldType.boolean) ∈ fl_U := fl_w1 944 (by decide +kernel) (by decide +kernel)
theorem wq_945 : Cond.methodLink "CabTearsModel" 182 ⟨"CabTearsModel", "lateBy", "(III)I"⟩ ∈ fl_U := fl_w1 945 (by decide +kernel) (by decide +kernel)
theorem wq_947 : Cond.instanceMethod ⟨"CabTearsModel", "lateBy", "(III)I"⟩ ∈ fl_U := fl_w1 947 (by decide +kernel) (by decide +kernel)
theorem wq_948 : Cond.code ⟨"CabTearsModel", "lateBy", "(III)I"⟩ prog_11_method_32_code 4 (Option.some FieldType.int) ∈ fl_U := fl_w1 948 (by decide +kernel) (by decide +kernel)
theorem wq_949 : Cond.methodLink "CabTearsModel" 178 ⟨"CabTearsModel", "freeBy", "(III)I"⟩ ∈ fl_U := fl_w1 949 (by decide +kernel) (by decide +kernel)
theorem wq_951 : Cond.instanceMethod ⟨"CabTearsModel", "freeBy", "(III)I"⟩ ∈ fl_U := fl_w1 951 (by decide +kernel) (by decide +kernel)
theorem wq_952 : Cond.code ⟨"CabTearsModel", "freeBy", "(III)I"⟩ prog_11_method_31_code 7 (Option.some FieldType.int) ∈ fl_U := fl_w1 952 (by decide +kernel) (by decide +kernel)
theorem wq_953 : Cond.methodLink "CabTearsModel" 172 ⟨"CabTearsModel", "setsOut", "(II)I"⟩ ∈ fl_U := fl_w1 953 (by decide +kernel) (by decide +kernel)
theorem wq_955 : Cond.instanceMethod ⟨"CabTearsModel", "setsOut", "(II)I"⟩ ∈ fl_U := fl_w1 955 (by decide +kernel) (by decide +kernel)
theorem wq_956 : Cond.code ⟨"CabTearsModel", "setsOut", "(II)I"⟩ prog_11_method_30_code 3 (Option.some FieldType.int) ∈ fl_U := fl_w1 956 (by decide +kernel) (by decide +kernel)
theorem wq_957 : Cond.methodLink "CabTearsModel" 175 ⟨"CabTearsModel", "goesBy", "(III)Z"⟩ ∈ fl_U := fl_w1 957 (by decide +kernel) (by decide +kernel)
theorem wq_959 : Cond.instanceMethod ⟨"CabTearsModel", "goesBy", "(III)Z"⟩ ∈ fl_U := fl_w1 959 (by decide +kernel) (by decide +kernel)
theorem wq_960 : Cond.code ⟨"CabTearsModel", "goesBy", "(III)Z"⟩ prog_11_method_29_code 5 (Option.some FieldType.boolean) ∈ fl_U := fl_w1 960 (by decide +kernel) (by decide +kernel)
theorem wq_961 : Cond.methodLink "CabTearsModel" 185 ⟨"CabTearsModel", "weeps", "(II)Z"⟩ ∈ fl_U := fl_w1 961 (by decide +kernel) (by decide +kernel)
theorem wq_963 : Cond.instanceMethod ⟨"CabTearsModel", "weeps", "(II)Z"⟩ ∈ fl_U := fl_w1 963 (by decide +kernel) (by decide +kernel)
theorem wq_964 : Cond.code ⟨"CabTearsModel", "weeps", "(II)Z"⟩ prog_11_method_33_code 3 (Option.some FieldType.boolean) ∈ fl_U := fl_w1 964 (by decide +kernel) (by decide +kernel)
theorem wq_965 : Cond.methodLink "CabTearsModel" 189 ⟨"CabTearsModel", "rides", "(IIIZ)V"⟩ ∈ fl_U := fl_w1 965 (by decide +kernel) (by decide +kernel)
theorem wq_967 : Cond.instanceMethod ⟨"CabTearsModel", "rides", "(IIIZ)V"⟩ ∈ fl_U := fl_w1 967 (by decide +kernel) (by decide +kernel)
theorem wq_968 : Cond.code ⟨"CabTearsModel", "rides", "(IIIZ)V"⟩ prog_11_method_34_code 7 (Option.none : Option FieldType) ∈ fl_U := fl_w1 968 (by decide +kernel) (by decide +kernel)
theorem wq_973 : Cond.methodLink "CabTearsModel" 206 ⟨"CabTearsModel", "sends", "(III)V"⟩ ∈ fl_U := fl_w1 973 (by decide +kernel) (by decide +kernel)
theorem wq_975 : Cond.instanceMethod ⟨"CabTearsModel", "sends", "(III)V"⟩ ∈ fl_U := fl_w1 975 (by decide +kernel) (by decide +kernel)
theorem wq_976 : Cond.code ⟨"CabTearsModel", "sends", "(III)V"⟩ prog_11_method_39_code 4 (Option.none : Option FieldType) ∈ fl_U := fl_w1 976 (by decide +kernel) (by decide +kernel)
theorem wq_981 : Cond.constantLong "CabTearsModel" 209 (60 : Int64) ∈ fl_U := fl_w1 981 (by decide +kernel) (by decide +kernel)
theorem wq_994 : Cond.methodLink "CabTearsModel" 211 ⟨"CabTearsModel", "soonestIn", "(II)I"⟩ ∈ fl_U := fl_w1 994 (by decide +kernel) (by decide +kernel)
theorem wq_996 : Cond.instanceMethod ⟨"CabTearsModel", "soonestIn", "(II)I"⟩ ∈ fl_U := fl_w1 996 (by decide +kernel) (by decide +kernel)
theorem wq_997 : Cond.code ⟨"CabTearsModel", "soonestIn", "(II)I"⟩ prog_11_method_36_code 5 (Option.some FieldType.int) ∈ fl_U := fl_w1 997 (by decide +kernel) (by decide +kernel)
theorem wq_1002 : Cond.constantLong "CabTearsModel" 221 (7 : Int64) ∈ fl_U := fl_w1 1002 (by decide +kernel) (by decide +kernel)
theorem wq_1003 : Cond.methodLink "CabTearsModel" 223 ⟨"CabTearsModel", "ordersRest", "()I"⟩ ∈ fl_U := fl_w1 1003 (by decide +kernel) (by decide +kernel)
theorem wq_1005 : Cond.instanceMethod ⟨"CabTearsModel", "ordersRest", "()I"⟩ ∈ fl_U := fl_w1 1005 (by decide +kernel) (by decide +kernel)
theorem wq_1006 : Cond.code ⟨"CabTearsModel", "ordersRest", "()I"⟩ prog_11_method_47_code 8 (Option.some FieldType.int) ∈ fl_U := fl_w1 1006 (by decide +kernel) (by decide +kernel)
theorem wq_1007 : Cond.methodLink "CabTearsModel" 214 ⟨"CabTearsModel", "rest", "()I"⟩ ∈ fl_U := fl_w1 1007 (by decide +kernel) (by decide +kernel)
theorem wq_1009 : Cond.instanceMethod ⟨"CabTearsModel", "rest", "()I"⟩ ∈ fl_U := fl_w1 1009 (by decide +kernel) (by decide +kernel)
theorem wq_1010 : Cond.code ⟨"CabTearsModel", "rest", "()I"⟩ prog_11_method_46_code 1 (Option.some FieldType.int) ∈ fl_U := fl_w1 1010 (by decide +kernel) (by decide +kernel)
theorem wq_1011 : Cond.methodLink "CabTearsModel" 217 ⟨"CabTearsModel", "ones", "(I)I"⟩ ∈ fl_U := fl_w1 1011 (by decide +kernel) (by decide +kernel)
theorem wq_1012 : Cond.static ⟨"CabTearsModel", "ones", "(I)I"⟩ ∈ fl_U := fl_w1 1012 (by decide +kernel) (by decide +kernel)
theorem wq_1013 : Cond.code ⟨"CabTearsModel", "ones", "(I)I"⟩ prog_11_method_5_code 3 (Option.some FieldType.int) ∈ fl_U := fl_w1 1013 (by decide +kernel) (by decide +kernel)
theorem wq_1014 : Cond.constant "CabTearsModel" 220 (1000000 : Int32) ∈ fl_U := fl_w1 1014 (by decide +kernel) (by decide +kernel)
theorem wq_1019 : Cond.methodLink "CabTearsModel" 226 ⟨"CabTearsModel", "tries", "()V"⟩ ∈ fl_U := fl_w1 1019 (by decide +kernel) (by decide +kernel)
theorem wq_1021 : Cond.instanceMethod ⟨"CabTearsModel", "tries", "()V"⟩ ∈ fl_U := fl_w1 1021 (by decide +kernel) (by decide +kernel)
theorem wq_1022 : Cond.code ⟨"CabTearsModel", "tries", "()V"⟩ prog_11_method_43_code 1 (Option.none : Option FieldType) ∈ fl_U := fl_w1 1022 (by decide +kernel) (by decide +kernel)
theorem wq_1027 : Cond.methodLink "CabTearsModel" 229 ⟨"CabTearsModel", "laysDay", "(I)V"⟩ ∈ fl_U := fl_w1 1027 (by decide +kernel) (by decide +kernel)
theorem wq_1029 : Cond.instanceMethod ⟨"CabTearsModel", "laysDay", "(I)V"⟩ ∈ fl_U := fl_w1 1029 (by decide +kernel) (by decide +kernel)
theorem wq_1030 : Cond.code ⟨"CabTearsModel", "laysDay", "(I)V"⟩ prog_11_method_50_code 3 (Option.none : Option FieldType) ∈ fl_U := fl_w1 1030 (by decide +kernel) (by decide +kernel)
theorem wq_1031 : Cond.methodLink "CabTearsModel" 233 ⟨"CabTearsModel", "areLike", "(II)Z"⟩ ∈ fl_U := fl_w1 1031 (by decide +kernel) (by decide +kernel)
theorem wq_1033 : Cond.instanceMethod ⟨"CabTearsModel", "areLike", "(II)Z"⟩ ∈ fl_U := fl_w1 1033 (by decide +kernel) (by decide +kernel)
theorem wq_1034 : Cond.code ⟨"CabTearsModel", "areLike", "(II)Z"⟩ prog_11_method_51_code 5 (Option.some FieldType.boolean) ∈ fl_U := fl_w1 1034 (by decide +kernel) (by decide +kernel)
theorem wq_1039 : Cond.methodLink "CabTearsModel" 236 ⟨"CabTearsModel", "weepBy", "(IIZ)I"⟩ ∈ fl_U := fl_w1 1039 (by decide +kernel) (by decide +kernel)
theorem wq_1041 : Cond.instanceMethod ⟨"CabTearsModel", "weepBy", "(IIZ)I"⟩ ∈ fl_U := fl_w1 1041 (by decide +kernel) (by decide +kernel)
theorem wq_1042 : Cond.code ⟨"CabTearsModel", "weepBy", "(IIZ)I"⟩ prog_11_method_53_code 6 (Option.some FieldType.int) ∈ fl_U := fl_w1 1042 (by decide +kernel) (by decide +kernel)
theorem wq_1047 : Cond.constantLong "CabTearsModel" 240 (4 : Int64) ∈ fl_U := fl_w1 1047 (by decide +kernel) (by decide +kernel)
theorem wq_1052 : Cond.constantLong "CabTearsModel" 242 (400 : Int64) ∈ fl_U := fl_w1 1052 (by decide +kernel) (by decide +kernel)
theorem wq_1061 : Cond.methodLink "CabTearsModel" 244 ⟨"CabTearsModel", "isSeen", "(I)Z"⟩ ∈ fl_U := fl_w1 1061 (by decide +kernel) (by decide +kernel)
theorem wq_1063 : Cond.instanceMethod ⟨"CabTearsModel", "isSeen", "(I)Z"⟩ ∈ fl_U := fl_w1 1063 (by decide +kernel) (by decide +kernel)
theorem wq_1064 : Cond.code ⟨"CabTearsModel", "isSeen", "(I)Z"⟩ prog_11_method_58_code 4 (Option.some FieldType.boolean) ∈ fl_U := fl_w1 1064 (by decide +kernel) (by decide +kernel)
theorem wq_1073 : Cond.constantLong "CabTearsModel" 247 (10 : Int64) ∈ fl_U := fl_w1 1073 (by decide +kernel) (by decide +kernel)
theorem wq_1078 : Cond.constantLong "CabTearsModel" 249 (9999 : Int64) ∈ fl_U := fl_w1 1078 (by decide +kernel) (by decide +kernel)
theorem wq_1079 : Cond.constantLong "CabTearsModel" 251 (40 : Int64) ∈ fl_U := fl_w1 1079 (by decide +kernel) (by decide +kernel)
theorem wq_1080 : Cond.constantLong "CabTearsModel" 253 (7919 : Int64) ∈ fl_U := fl_w1 1080 (by decide +kernel) (by decide +kernel)
theorem wq_1081 : Cond.constantLong "CabTearsModel" 255 (6151 : Int64) ∈ fl_U := fl_w1 1081 (by decide +kernel) (by decide +kernel)
theorem wq_1082 : Cond.constantLong "CabTearsModel" 257 (65521 : Int64) ∈ fl_U := fl_w1 1082 (by decide +kernel) (by decide +kernel)
theorem fk_X8_12 : fl_fk RX8 12 8 0 := ⟨RX8, TX8, 11, rfl, inU_X8, by decide, wq_422⟩
theorem fk_X8_19 : fl_fk RX8 19 8 1 := ⟨RX8, TX8, 11, rfl, inU_X8, by decide, wq_423⟩
theorem fk_X8_23 : fl_fk RX8 23 8 2 := ⟨RX8, TX8, 11, rfl, inU_X8, by decide, wq_424⟩
theorem fk_X8_29 : fl_fk RX8 29 8 3 := ⟨RX8, TX8, 11, rfl, inU_X8, by decide, wq_425⟩
theorem fk_X8_33 : fl_fk RX8 33 8 4 := ⟨RX8, TX8, 11, rfl, inU_X8, by decide, wq_426⟩
theorem fk_X8_41 : fl_fk RX8 41 8 5 := ⟨RX8, TX8, 11, rfl, inU_X8, by decide, wq_427⟩
theorem fk_X8_45 : fl_fk RX8 45 8 6 := ⟨RX8, TX8, 11, rfl, inU_X8, by decide, wq_428⟩
theorem fk_X8_51 : fl_fk RX8 51 8 7 := ⟨RX8, TX8, 11, rfl, inU_X8, by decide, wq_429⟩
theorem fk_X8_58 : fl_fk RX8 58 8 8 := ⟨RX8, TX8, 11, rfl, inU_X8, by decide, wq_430⟩
theorem fk_X8_65 : fl_fk RX8 65 8 9 := ⟨RX8, TX8, 11, rfl, inU_X8, by decide, wq_431⟩
theorem fk_X8_69 : fl_fk RX8 69 8 10 := ⟨RX8, TX8, 11, rfl, inU_X8, by decide, wq_432⟩
theorem fk_X8_93 : fl_fk RX8 93 6 1 := ⟨RX6, TX6, 4, rfl, inU_X6, by decide, wq_77⟩
theorem fk_X8_103 : fl_fk RX8 103 0 2 := ⟨RX0, TX0, 13, rfl, inU_X0, by decide, wq_125⟩
theorem fk_X8_106 : fl_fk RX8 106 0 3 := ⟨RX0, TX0, 13, rfl, inU_X0, by decide, wq_129⟩
theorem fk_X8_123 : fl_fk RX8 123 0 4 := ⟨RX0, TX0, 13, rfl, inU_X0, by decide, wq_131⟩
theorem fk_X8_127 : fl_fk RX8 127 5 1 := ⟨RX5, TX5, 6, rfl, inU_X5, by decide, wq_186⟩
theorem fk_X8_130 : fl_fk RX8 130 5 2 := ⟨RX5, TX5, 6, rfl, inU_X5, by decide, wq_189⟩
theorem fk_X8_133 : fl_fk RX8 133 5 3 := ⟨RX5, TX5, 6, rfl, inU_X5, by decide, wq_192⟩
theorem fk_X8_139 : fl_fk RX8 139 0 7 := ⟨RX0, TX0, 13, rfl, inU_X0, by decide, wq_138⟩
theorem fk_X8_142 : fl_fk RX8 142 0 8 := ⟨RX0, TX0, 13, rfl, inU_X0, by decide, wq_140⟩
theorem fk_X8_145 : fl_fk RX8 145 0 9 := ⟨RX0, TX0, 13, rfl, inU_X0, by decide, wq_142⟩
theorem fk_X8_148 : fl_fk RX8 148 0 10 := ⟨RX0, TX0, 13, rfl, inU_X0, by decide, wq_144⟩
theorem fk_X8_151 : fl_fk RX8 151 0 11 := ⟨RX0, TX0, 13, rfl, inU_X0, by decide, wq_146⟩
theorem fk_X8_157 : fl_fk RX8 157 5 4 := ⟨RX5, TX5, 6, rfl, inU_X5, by decide, wq_195⟩
theorem fk_X8_160 : fl_fk RX8 160 5 5 := ⟨RX5, TX5, 6, rfl, inU_X5, by decide, wq_198⟩
theorem fk_X8_175 : fl_fk RX8 175 5 0 := ⟨RX5, TX5, 6, rfl, inU_X5, by decide, wq_183⟩
theorem fk_X8_182 : fl_fk RX8 182 4 2 := ⟨RX4, TX4, 3, rfl, inU_X4, by decide, wq_228⟩
theorem fk_X8_188 : fl_fk RX8 188 0 12 := ⟨RX0, TX0, 13, rfl, inU_X0, by decide, wq_148⟩
theorem fk_X8_192 : fl_fk RX8 192 7 0 := ⟨RX7, TX7, 4, rfl, inU_X7, by decide, wq_105⟩
theorem fk_X8_196 : fl_fk RX8 196 7 1 := ⟨RX7, TX7, 4, rfl, inU_X7, by decide, wq_107⟩
theorem fk_X8_198 : fl_fk RX8 198 7 2 := ⟨RX7, TX7, 4, rfl, inU_X7, by decide, wq_109⟩
theorem fk_X8_202 : fl_fk RX8 202 7 3 := ⟨RX7, TX7, 4, rfl, inU_X7, by decide, wq_111⟩
theorem fk_X8_213 : fl_fk RX8 213 2 4 := ⟨RX2, TX2, 5, rfl, inU_X2, by decide, wq_274⟩
theorem fk_X8_216 : fl_fk RX8 216 2 3 := ⟨RX2, TX2, 5, rfl, inU_X2, by decide, wq_272⟩
theorem fk_X8_217 : fl_fk RX8 217 2 2 := ⟨RX2, TX2, 5, rfl, inU_X2, by decide, wq_270⟩
theorem fk_X8_248 : fl_fk RX8 248 1 4 := ⟨RX1, TX1, 6, rfl, inU_X1, by decide, wq_299⟩
theorem fk_X8_251 : fl_fk RX8 251 1 5 := ⟨RX1, TX1, 6, rfl, inU_X1, by decide, wq_301⟩
theorem fk_X8_256 : fl_fk RX8 256 3 3 := ⟨RX3, TX3, 4, rfl, inU_X3, by decide, wq_249⟩
theorem fk_X8_286 : fl_fk RX8 286 0 1 := ⟨RX0, TX0, 13, rfl, inU_X0, by decide, wq_123⟩
theorem fk_X8_298 : fl_fk RX8 298 3 0 := ⟨RX3, TX3, 4, rfl, inU_X3, by decide, wq_243⟩
theorem fk_X8_301 : fl_fk RX8 301 3 1 := ⟨RX3, TX3, 4, rfl, inU_X3, by decide, wq_245⟩
theorem fk_X8_308 : fl_fk RX8 308 3 2 := ⟨RX3, TX3, 4, rfl, inU_X3, by decide, wq_247⟩
theorem fk_X0_9 : fl_fk RX0 9 0 4 := ⟨RX0, TX0, 13, rfl, inU_X0, by decide, wq_130⟩
theorem fk_X0_15 : fl_fk RX0 15 0 5 := ⟨RX0, TX0, 13, rfl, inU_X0, by decide, wq_132⟩
theorem fk_X0_18 : fl_fk RX0 18 0 6 := ⟨RX0, TX0, 13, rfl, inU_X0, by decide, wq_134⟩
theorem fk_X0_21 : fl_fk RX0 21 0 7 := ⟨RX0, TX0, 13, rfl, inU_X0, by decide, wq_136⟩
theorem fk_X0_24 : fl_fk RX0 24 0 8 := ⟨RX0, TX0, 13, rfl, inU_X0, by decide, wq_139⟩
theorem fk_X0_27 : fl_fk RX0 27 0 9 := ⟨RX0, TX0, 13, rfl, inU_X0, by decide, wq_141⟩
theorem fk_X0_30 : fl_fk RX0 30 0 10 := ⟨RX0, TX0, 13, rfl, inU_X0, by decide, wq_143⟩
theorem fk_X0_33 : fl_fk RX0 33 0 11 := ⟨RX0, TX0, 13, rfl, inU_X0, by decide, wq_145⟩
theorem fk_X0_39 : fl_fk RX0 39 0 12 := ⟨RX0, TX0, 13, rfl, inU_X0, by decide, wq_147⟩
theorem fk_X0_43 : fl_fk RX0 43 0 0 := ⟨RX0, TX0, 13, rfl, inU_X0, by decide, wq_121⟩
theorem fk_X0_47 : fl_fk RX0 47 0 1 := ⟨RX0, TX0, 13, rfl, inU_X0, by decide, wq_122⟩
theorem fk_X0_50 : fl_fk RX0 50 0 2 := ⟨RX0, TX0, 13, rfl, inU_X0, by decide, wq_124⟩
theorem fk_X0_53 : fl_fk RX0 53 0 3 := ⟨RX0, TX0, 13, rfl, inU_X0, by decide, wq_126⟩
theorem fk_X0_78 : fl_fk RX0 78 5 3 := ⟨RX5, TX5, 6, rfl, inU_X5, by decide, wq_193⟩
theorem fk_X0_87 : fl_fk RX0 87 5 0 := ⟨RX5, TX5, 6, rfl, inU_X5, by decide, wq_184⟩
theorem fk_X0_90 : fl_fk RX0 90 5 2 := ⟨RX5, TX5, 6, rfl, inU_X5, by decide, wq_190⟩
theorem fk_X0_96 : fl_fk RX0 96 7 3 := ⟨RX7, TX7, 4, rfl, inU_X7, by decide, wq_110⟩
theorem fk_X0_100 : fl_fk RX0 100 5 1 := ⟨RX5, TX5, 6, rfl, inU_X5, by decide, wq_187⟩
theorem fk_X0_103 : fl_fk RX0 103 7 0 := ⟨RX7, TX7, 4, rfl, inU_X7, by decide, wq_104⟩
theorem fk_X0_105 : fl_fk RX0 105 7 1 := ⟨RX7, TX7, 4, rfl, inU_X7, by decide, wq_106⟩
theorem fk_X0_108 : fl_fk RX0 108 7 2 := ⟨RX7, TX7, 4, rfl, inU_X7, by decide, wq_108⟩
theorem fk_X0_111 : fl_fk RX0 111 5 4 := ⟨RX5, TX5, 6, rfl, inU_X5, by decide, wq_196⟩
theorem fk_X0_113 : fl_fk RX0 113 5 5 := ⟨RX5, TX5, 6, rfl, inU_X5, by decide, wq_199⟩
theorem fk_X1_11 : fl_fk RX1 11 1 0 := ⟨RX1, TX1, 6, rfl, inU_X1, by decide, wq_294⟩
theorem fk_X1_22 : fl_fk RX1 22 1 1 := ⟨RX1, TX1, 6, rfl, inU_X1, by decide, wq_295⟩
theorem fk_X1_26 : fl_fk RX1 26 1 2 := ⟨RX1, TX1, 6, rfl, inU_X1, by decide, wq_296⟩
theorem fk_X1_39 : fl_fk RX1 39 1 3 := ⟨RX1, TX1, 6, rfl, inU_X1, by decide, wq_297⟩
theorem fk_X1_42 : fl_fk RX1 42 1 5 := ⟨RX1, TX1, 6, rfl, inU_X1, by decide, wq_300⟩
theorem fk_X1_52 : fl_fk RX1 52 0 3 := ⟨RX0, TX0, 13, rfl, inU_X0, by decide, wq_128⟩
theorem fk_X2_11 : fl_fk RX2 11 2 0 := ⟨RX2, TX2, 5, rfl, inU_X2, by decide, wq_267⟩
theorem fk_X2_17 : fl_fk RX2 17 2 1 := ⟨RX2, TX2, 5, rfl, inU_X2, by decide, wq_268⟩
theorem fk_X2_21 : fl_fk RX2 21 2 2 := ⟨RX2, TX2, 5, rfl, inU_X2, by decide, wq_269⟩
theorem fk_X2_33 : fl_fk RX2 33 2 3 := ⟨RX2, TX2, 5, rfl, inU_X2, by decide, wq_271⟩
theorem fk_X2_37 : fl_fk RX2 37 2 4 := ⟨RX2, TX2, 5, rfl, inU_X2, by decide, wq_273⟩
theorem fk_X2_40 : fl_fk RX2 40 0 3 := ⟨RX0, TX0, 13, rfl, inU_X0, by decide, wq_127⟩
theorem fk_X2_45 : fl_fk RX2 45 0 7 := ⟨RX0, TX0, 13, rfl, inU_X0, by decide, wq_137⟩
theorem fk_X3_9 : fl_fk RX3 9 3 0 := ⟨RX3, TX3, 4, rfl, inU_X3, by decide, wq_242⟩
theorem fk_X3_15 : fl_fk RX3 15 3 1 := ⟨RX3, TX3, 4, rfl, inU_X3, by decide, wq_244⟩
theorem fk_X3_18 : fl_fk RX3 18 3 2 := ⟨RX3, TX3, 4, rfl, inU_X3, by decide, wq_246⟩
theorem fk_X3_21 : fl_fk RX3 21 3 3 := ⟨RX3, TX3, 4, rfl, inU_X3, by decide, wq_248⟩
theorem fk_X4_15 : fl_fk RX4 15 4 0 := ⟨RX4, TX4, 3, rfl, inU_X4, by decide, wq_225⟩
theorem fk_X4_22 : fl_fk RX4 22 4 1 := ⟨RX4, TX4, 3, rfl, inU_X4, by decide, wq_226⟩
theorem fk_X4_30 : fl_fk RX4 30 4 2 := ⟨RX4, TX4, 3, rfl, inU_X4, by decide, wq_227⟩
theorem fk_X5_9 : fl_fk RX5 9 5 1 := ⟨RX5, TX5, 6, rfl, inU_X5, by decide, wq_185⟩
theorem fk_X5_15 : fl_fk RX5 15 5 2 := ⟨RX5, TX5, 6, rfl, inU_X5, by decide, wq_188⟩
theorem fk_X5_18 : fl_fk RX5 18 5 3 := ⟨RX5, TX5, 6, rfl, inU_X5, by decide, wq_191⟩
theorem fk_X5_21 : fl_fk RX5 21 5 4 := ⟨RX5, TX5, 6, rfl, inU_X5, by decide, wq_194⟩
theorem fk_X5_24 : fl_fk RX5 24 5 5 := ⟨RX5, TX5, 6, rfl, inU_X5, by decide, wq_197⟩
theorem fk_X5_27 : fl_fk RX5 27 0 5 := ⟨RX0, TX0, 13, rfl, inU_X0, by decide, wq_133⟩
theorem fk_X5_38 : fl_fk RX5 38 0 6 := ⟨RX0, TX0, 13, rfl, inU_X0, by decide, wq_135⟩
theorem fk_X5_44 : fl_fk RX5 44 5 0 := ⟨RX5, TX5, 6, rfl, inU_X5, by decide, wq_182⟩
theorem fk_X6_9 : fl_fk RX6 9 6 0 := ⟨RX6, TX6, 4, rfl, inU_X6, by decide, wq_76⟩
theorem fk_X6_15 : fl_fk RX6 15 6 2 := ⟨RX6, TX6, 4, rfl, inU_X6, by decide, wq_79⟩
theorem fk_X6_19 : fl_fk RX6 19 6 1 := ⟨RX6, TX6, 4, rfl, inU_X6, by decide, wq_78⟩
theorem fk_X6_36 : fl_fk RX6 36 6 3 := ⟨RX6, TX6, 4, rfl, inU_X6, by decide, wq_80⟩
theorem fk_X9_7 : fl_fk RX9 7 9 0 := ⟨RX9, TX9, 32, rfl, inU_X9, by decide, wq_746⟩
theorem fk_X9_13 : fl_fk RX9 13 9 6 := ⟨RX9, TX9, 32, rfl, inU_X9, by decide, wq_752⟩
theorem fk_X9_16 : fl_fk RX9 16 9 8 := ⟨RX9, TX9, 32, rfl, inU_X9, by decide, wq_754⟩
theorem fk_X9_19 : fl_fk RX9 19 9 9 := ⟨RX9, TX9, 32, rfl, inU_X9, by decide, wq_755⟩
theorem fk_X9_22 : fl_fk RX9 22 9 10 := ⟨RX9, TX9, 32, rfl, inU_X9, by decide, wq_756⟩
theorem fk_X9_25 : fl_fk RX9 25 9 11 := ⟨RX9, TX9, 32, rfl, inU_X9, by decide, wq_757⟩
theorem fk_X9_28 : fl_fk RX9 28 9 12 := ⟨RX9, TX9, 32, rfl, inU_X9, by decide, wq_758⟩
theorem fk_X9_31 : fl_fk RX9 31 9 14 := ⟨RX9, TX9, 32, rfl, inU_X9, by decide, wq_760⟩
theorem fk_X9_34 : fl_fk RX9 34 9 15 := ⟨RX9, TX9, 32, rfl, inU_X9, by decide, wq_761⟩
theorem fk_X9_37 : fl_fk RX9 37 9 16 := ⟨RX9, TX9, 32, rfl, inU_X9, by decide, wq_762⟩
theorem fk_X9_40 : fl_fk RX9 40 9 17 := ⟨RX9, TX9, 32, rfl, inU_X9, by decide, wq_763⟩
theorem fk_X9_43 : fl_fk RX9 43 9 24 := ⟨RX9, TX9, 32, rfl, inU_X9, by decide, wq_770⟩
theorem fk_X9_46 : fl_fk RX9 46 9 26 := ⟨RX9, TX9, 32, rfl, inU_X9, by decide, wq_772⟩
theorem fk_X9_49 : fl_fk RX9 49 9 27 := ⟨RX9, TX9, 32, rfl, inU_X9, by decide, wq_773⟩
theorem fk_X9_52 : fl_fk RX9 52 9 28 := ⟨RX9, TX9, 32, rfl, inU_X9, by decide, wq_774⟩
theorem fk_X9_55 : fl_fk RX9 55 9 29 := ⟨RX9, TX9, 32, rfl, inU_X9, by decide, wq_775⟩
theorem fk_X9_58 : fl_fk RX9 58 9 30 := ⟨RX9, TX9, 32, rfl, inU_X9, by decide, wq_776⟩
theorem fk_X9_61 : fl_fk RX9 61 9 31 := ⟨RX9, TX9, 32, rfl, inU_X9, by decide, wq_777⟩
theorem fk_X9_64 : fl_fk RX9 64 9 21 := ⟨RX9, TX9, 32, rfl, inU_X9, by decide, wq_767⟩
theorem fk_X9_68 : fl_fk RX9 68 9 22 := ⟨RX9, TX9, 32, rfl, inU_X9, by decide, wq_768⟩
theorem fk_X9_82 : fl_fk RX9 82 9 3 := ⟨RX9, TX9, 32, rfl, inU_X9, by decide, wq_749⟩
theorem fk_X9_85 : fl_fk RX9 85 9 4 := ⟨RX9, TX9, 32, rfl, inU_X9, by decide, wq_750⟩
theorem fk_X9_96 : fl_fk RX9 96 9 5 := ⟨RX9, TX9, 32, rfl, inU_X9, by decide, wq_751⟩
theorem fk_X9_99 : fl_fk RX9 99 9 7 := ⟨RX9, TX9, 32, rfl, inU_X9, by decide, wq_753⟩
theorem fk_X9_102 : fl_fk RX9 102 9 23 := ⟨RX9, TX9, 32, rfl, inU_X9, by decide, wq_769⟩
theorem fk_X9_105 : fl_fk RX9 105 9 25 := ⟨RX9, TX9, 32, rfl, inU_X9, by decide, wq_771⟩
theorem fk_X9_108 : fl_fk RX9 108 9 1 := ⟨RX9, TX9, 32, rfl, inU_X9, by decide, wq_747⟩
theorem fk_X9_111 : fl_fk RX9 111 9 2 := ⟨RX9, TX9, 32, rfl, inU_X9, by decide, wq_748⟩
theorem fk_X9_114 : fl_fk RX9 114 9 13 := ⟨RX9, TX9, 32, rfl, inU_X9, by decide, wq_759⟩
theorem fk_X9_121 : fl_fk RX9 121 9 18 := ⟨RX9, TX9, 32, rfl, inU_X9, by decide, wq_764⟩
theorem fk_X9_124 : fl_fk RX9 124 9 19 := ⟨RX9, TX9, 32, rfl, inU_X9, by decide, wq_765⟩
theorem fk_X9_127 : fl_fk RX9 127 9 20 := ⟨RX9, TX9, 32, rfl, inU_X9, by decide, wq_766⟩
theorem pk_X8_93 : fl_pk RX8 93 6 1 .int := ⟨RX6, TX6, 4, tyX6, rfl, inU_X6, by decide, wq_77, tyX6_ok, nmX6, rfl, by decide +kernel⟩
theorem pk_X8_175 : fl_pk RX8 175 5 0 .int := ⟨RX5, TX5, 6, tyX5, rfl, inU_X5, by decide, wq_183, tyX5_ok, nmX5, rfl, by decide +kernel⟩
theorem pk_X8_182 : fl_pk RX8 182 4 2 .int := ⟨RX4, TX4, 3, tyX4, rfl, inU_X4, by decide, wq_228, tyX4_ok, nmX4, rfl, by decide +kernel⟩
theorem pk_X8_256 : fl_pk RX8 256 3 3 .int := ⟨RX3, TX3, 4, tyX3, rfl, inU_X3, by decide, wq_249, tyX3_ok, nmX3, rfl, by decide +kernel⟩
theorem pk_X0_43 : fl_pk RX0 43 0 0 .int := ⟨RX0, TX0, 13, tyX0, rfl, inU_X0, by decide, wq_121, tyX0_ok, nmX0, rfl, by decide +kernel⟩
theorem pk_X0_47 : fl_pk RX0 47 0 1 .int := ⟨RX0, TX0, 13, tyX0, rfl, inU_X0, by decide, wq_122, tyX0_ok, nmX0, rfl, by decide +kernel⟩
theorem pk_X0_50 : fl_pk RX0 50 0 2 .int := ⟨RX0, TX0, 13, tyX0, rfl, inU_X0, by decide, wq_124, tyX0_ok, nmX0, rfl, by decide +kernel⟩
theorem pk_X0_53 : fl_pk RX0 53 0 3 .int := ⟨RX0, TX0, 13, tyX0, rfl, inU_X0, by decide, wq_126, tyX0_ok, nmX0, rfl, by decide +kernel⟩
theorem pk_X0_96 : fl_pk RX0 96 7 3 .boolean := ⟨RX7, TX7, 4, tyX7, rfl, inU_X7, by decide, wq_110, tyX7_ok, nmX7, rfl, by decide +kernel⟩
theorem pk_X0_103 : fl_pk RX0 103 7 0 .int := ⟨RX7, TX7, 4, tyX7, rfl, inU_X7, by decide, wq_104, tyX7_ok, nmX7, rfl, by decide +kernel⟩
theorem pk_X0_105 : fl_pk RX0 105 7 1 .int := ⟨RX7, TX7, 4, tyX7, rfl, inU_X7, by decide, wq_106, tyX7_ok, nmX7, rfl, by decide +kernel⟩
theorem pk_X0_108 : fl_pk RX0 108 7 2 .boolean := ⟨RX7, TX7, 4, tyX7, rfl, inU_X7, by decide, wq_108, tyX7_ok, nmX7, rfl, by decide +kernel⟩
theorem pk_X1_22 : fl_pk RX1 22 1 1 .int := ⟨RX1, TX1, 6, tyX1, rfl, inU_X1, by decide, wq_295, tyX1_ok, nmX1, rfl, by decide +kernel⟩
theorem pk_X1_26 : fl_pk RX1 26 1 2 .int := ⟨RX1, TX1, 6, tyX1, rfl, inU_X1, by decide, wq_296, tyX1_ok, nmX1, rfl, by decide +kernel⟩
theorem pk_X1_39 : fl_pk RX1 39 1 3 .int := ⟨RX1, TX1, 6, tyX1, rfl, inU_X1, by decide, wq_297, tyX1_ok, nmX1, rfl, by decide +kernel⟩
theorem pk_X1_42 : fl_pk RX1 42 1 5 .int := ⟨RX1, TX1, 6, tyX1, rfl, inU_X1, by decide, wq_300, tyX1_ok, nmX1, rfl, by decide +kernel⟩
theorem pk_X1_49 : fl_pk RX1 49 1 4 .int := ⟨RX1, TX1, 6, tyX1, rfl, inU_X1, by decide, wq_298, tyX1_ok, nmX1, rfl, by decide +kernel⟩
theorem pk_X2_33 : fl_pk RX2 33 2 3 .int := ⟨RX2, TX2, 5, tyX2, rfl, inU_X2, by decide, wq_271, tyX2_ok, nmX2, rfl, by decide +kernel⟩
theorem pk_X2_37 : fl_pk RX2 37 2 4 .int := ⟨RX2, TX2, 5, tyX2, rfl, inU_X2, by decide, wq_273, tyX2_ok, nmX2, rfl, by decide +kernel⟩
theorem pk_X3_21 : fl_pk RX3 21 3 3 .int := ⟨RX3, TX3, 4, tyX3, rfl, inU_X3, by decide, wq_248, tyX3_ok, nmX3, rfl, by decide +kernel⟩
theorem pk_X4_22 : fl_pk RX4 22 4 1 .int := ⟨RX4, TX4, 3, tyX4, rfl, inU_X4, by decide, wq_226, tyX4_ok, nmX4, rfl, by decide +kernel⟩
theorem pk_X4_30 : fl_pk RX4 30 4 2 .int := ⟨RX4, TX4, 3, tyX4, rfl, inU_X4, by decide, wq_227, tyX4_ok, nmX4, rfl, by decide +kernel⟩
theorem pk_X5_44 : fl_pk RX5 44 5 0 .int := ⟨RX5, TX5, 6, tyX5, rfl, inU_X5, by decide, wq_182, tyX5_ok, nmX5, rfl, by decide +kernel⟩
theorem pk_X6_19 : fl_pk RX6 19 6 1 .int := ⟨RX6, TX6, 4, tyX6, rfl, inU_X6, by decide, wq_78, tyX6_ok, nmX6, rfl, by decide +kernel⟩
theorem pk_X6_36 : fl_pk RX6 36 6 3 .int := ⟨RX6, TX6, 4, tyX6, rfl, inU_X6, by decide, wq_80, tyX6_ok, nmX6, rfl, by decide +kernel⟩
theorem pk_X9_64 : fl_pk RX9 64 9 21 .int := ⟨RX9, TX9, 32, tyX9, rfl, inU_X9, by decide, wq_767, tyX9_ok, nmX9, rfl, by decide +kernel⟩
theorem pk_X9_68 : fl_pk RX9 68 9 22 .int := ⟨RX9, TX9, 32, tyX9, rfl, inU_X9, by decide, wq_768, tyX9_ok, nmX9, rfl, by decide +kernel⟩
theorem pk_X9_82 : fl_pk RX9 82 9 3 .int := ⟨RX9, TX9, 32, tyX9, rfl, inU_X9, by decide, wq_749, tyX9_ok, nmX9, rfl, by decide +kernel⟩
theorem pk_X9_85 : fl_pk RX9 85 9 4 .int := ⟨RX9, TX9, 32, tyX9, rfl, inU_X9, by decide, wq_750, tyX9_ok, nmX9, rfl, by decide +kernel⟩
theorem pk_X9_96 : fl_pk RX9 96 9 5 .int := ⟨RX9, TX9, 32, tyX9, rfl, inU_X9, by decide, wq_751, tyX9_ok, nmX9, rfl, by decide +kernel⟩
theorem pk_X9_99 : fl_pk RX9 99 9 7 .int := ⟨RX9, TX9, 32, tyX9, rfl, inU_X9, by decide, wq_753, tyX9_ok, nmX9, rfl, by decide +kernel⟩
theorem pk_X9_102 : fl_pk RX9 102 9 23 .int := ⟨RX9, TX9, 32, tyX9, rfl, inU_X9, by decide, wq_769, tyX9_ok, nmX9, rfl, by decide +kernel⟩
theorem pk_X9_105 : fl_pk RX9 105 9 25 .int := ⟨RX9, TX9, 32, tyX9, rfl, inU_X9, by decide, wq_771, tyX9_ok, nmX9, rfl, by decide +kernel⟩
theorem pk_X9_108 : fl_pk RX9 108 9 1 .int := ⟨RX9, TX9, 32, tyX9, rfl, inU_X9, by decide, wq_747, tyX9_ok, nmX9, rfl, by decide +kernel⟩
theorem pk_X9_111 : fl_pk RX9 111 9 2 .int := ⟨RX9, TX9, 32, tyX9, rfl, inU_X9, by decide, wq_748, tyX9_ok, nmX9, rfl, by decide +kernel⟩
theorem pk_X9_114 : fl_pk RX9 114 9 13 .int := ⟨RX9, TX9, 32, tyX9, rfl, inU_X9, by decide, wq_759, tyX9_ok, nmX9, rfl, by decide +kernel⟩
theorem pk_X9_121 : fl_pk RX9 121 9 18 .int := ⟨RX9, TX9, 32, tyX9, rfl, inU_X9, by decide, wq_764, tyX9_ok, nmX9, rfl, by decide +kernel⟩
theorem pk_X9_124 : fl_pk RX9 124 9 19 .int := ⟨RX9, TX9, 32, tyX9, rfl, inU_X9, by decide, wq_765, tyX9_ok, nmX9, rfl, by decide +kernel⟩
theorem pk_X9_127 : fl_pk RX9 127 9 20 .int := ⟨RX9, TX9, 32, tyX9, rfl, inU_X9, by decide, wq_766, tyX9_ok, nmX9, rfl, by decide +kernel⟩
theorem mv_X8_85 : fl_mv RX8 85 6 yX6_add cX6_add 2 (some .boolean) 1 := fl_mv_of (T := TX6) (N := 4) rfl wq_364 wq_365 wq_366 wq_46 wq_367 ⟨by decide +kernel, by decide +kernel, by decide +kernel⟩
theorem mv_X8_89 : fl_mv RX8 89 6 yX6_readInto cX6_readInto 4 (some .int) 1 := fl_mv_of (T := TX6) (N := 4) rfl wq_368 wq_369 wq_370 wq_46 wq_371 ⟨by decide +kernel, by decide +kernel, by decide +kernel⟩
theorem mv_X8_96 : fl_mv RX8 96 8 yX8_begin cX8_begin 1 none 0 := fl_mv_of (T := TX8) (N := 11) rfl wq_407 wq_409 wq_2 wq_45 wq_410 ⟨by decide +kernel, by decide +kernel, by decide +kernel⟩
theorem mv_X8_109 : fl_mv RX8 109 0 yX0_places cX0_places 1 (some .int) 0 := fl_mv_of (T := TX0) (N := 13) rfl wq_475 wq_400 wq_401 wq_47 wq_402 ⟨by decide +kernel, by decide +kernel, by decide +kernel⟩
theorem mv_X8_112 : fl_mv RX8 112 0 yX0_hasPlace cX0_hasPlace 2 (some .boolean) 1 := fl_mv_of (T := TX0) (N := 13) rfl wq_480 wq_396 wq_397 wq_47 wq_398 ⟨by decide +kernel, by decide +kernel, by decide +kernel⟩
theorem mv_X8_116 : fl_mv RX8 116 0 yX0_steps cX0_steps 4 (some .int) 2 := fl_mv_of (T := TX0) (N := 13) rfl wq_481 wq_482 wq_483 wq_47 wq_484 ⟨by decide +kernel, by decide +kernel, by decide +kernel⟩
theorem mv_X8_120 : fl_mv RX8 120 0 yX0_hasCab cX0_hasCab 2 (some .boolean) 1 := fl_mv_of (T := TX0) (N := 13) rfl wq_493 wq_494 wq_495 wq_47 wq_496 ⟨by decide +kernel, by decide +kernel, by decide +kernel⟩
theorem mv_X8_136 : fl_mv RX8 136 0 yX0_hasFare cX0_hasFare 2 (some .boolean) 1 := fl_mv_of (T := TX0) (N := 13) rfl wq_501 wq_502 wq_503 wq_47 wq_504 ⟨by decide +kernel, by decide +kernel, by decide +kernel⟩
theorem mv_X8_154 : fl_mv RX8 154 5 yX5_isTaken cX5_isTaken 2 (some .boolean) 1 := fl_mv_of (T := TX5) (N := 6) rfl wq_505 wq_506 wq_507 wq_49 wq_508 ⟨by decide +kernel, by decide +kernel, by decide +kernel⟩
theorem mv_X8_163 : fl_mv RX8 163 4 yX4_put cX4_put 2 none 1 := fl_mv_of (T := TX4) (N := 3) rfl wq_513 wq_514 wq_515 wq_50 wq_516 ⟨by decide +kernel, by decide +kernel, by decide +kernel⟩
theorem mv_X8_167 : fl_mv RX8 167 0 yX0_drive cX0_drive 5 (some .boolean) 3 := fl_mv_of (T := TX0) (N := 13) rfl wq_524 wq_525 wq_526 wq_47 wq_527 ⟨by decide +kernel, by decide +kernel, by decide +kernel⟩
theorem mv_X8_171 : fl_mv RX8 171 0 yX0_move cX0_move 4 none 3 := fl_mv_of (T := TX0) (N := 13) rfl wq_545 wq_546 wq_547 wq_47 wq_548 ⟨by decide +kernel, by decide +kernel, by decide +kernel⟩
theorem mv_X8_178 : fl_mv RX8 178 4 yX4_giveBack cX4_giveBack 2 (some .boolean) 1 := fl_mv_of (T := TX4) (N := 3) rfl wq_557 wq_558 wq_559 wq_50 wq_560 ⟨by decide +kernel, by decide +kernel, by decide +kernel⟩
theorem mv_X8_185 : fl_mv RX8 185 0 yX0_reckon cX0_reckon 4 none 3 := fl_mv_of (T := TX0) (N := 13) rfl wq_565 wq_529 wq_530 wq_47 wq_531 ⟨by decide +kernel, by decide +kernel, by decide +kernel⟩
theorem mv_X8_205 : fl_mv RX8 205 0 yX0_nearest cX0_nearest 6 (some .int) 2 := fl_mv_of (T := TX0) (N := 13) rfl wq_570 wq_571 wq_572 wq_47 wq_573 ⟨by decide +kernel, by decide +kernel, by decide +kernel⟩
theorem mv_X8_209 : fl_mv RX8 209 2 yX2_search cX2_search 5 none 2 := fl_mv_of (T := TX2) (N := 5) rfl wq_578 wq_579 wq_580 wq_53 wq_581 ⟨by decide +kernel, by decide +kernel, by decide +kernel⟩
theorem mv_X8_220 : fl_mv RX8 220 8 yX8_lateFrom cX8_lateFrom 5 (some .int) 2 := fl_mv_of (T := TX8) (N := 11) rfl wq_605 wq_607 wq_4 wq_45 wq_608 ⟨by decide +kernel, by decide +kernel, by decide +kernel⟩
theorem mv_X8_223 : fl_mv RX8 223 5 yX5_copy cX5_copy 2 none 1 := fl_mv_of (T := TX5) (N := 6) rfl wq_609 wq_518 wq_519 wq_49 wq_520 ⟨by decide +kernel, by decide +kernel, by decide +kernel⟩
theorem mv_X8_226 : fl_mv RX8 226 5 yX5_cabsAsNumber cX5_cabsAsNumber 4 (some .long) 0 := fl_mv_of (T := TX5) (N := 6) rfl wq_614 wq_615 wq_616 wq_49 wq_617 ⟨by decide +kernel, by decide +kernel, by decide +kernel⟩
theorem mv_X8_230 : fl_mv RX8 230 8 yX8_liveOneDay cX8_liveOneDay 2 none 0 := fl_mv_of (T := TX8) (N := 11) rfl wq_620 wq_622 wq_5 wq_45 wq_623 ⟨by decide +kernel, by decide +kernel, by decide +kernel⟩
theorem mv_X8_233 : fl_mv RX8 233 8 yX8_dayLike cX8_dayLike 3 (some .int) 1 := fl_mv_of (T := TX8) (N := 11) rfl wq_626 wq_628 wq_6 wq_45 wq_629 ⟨by decide +kernel, by decide +kernel, by decide +kernel⟩
theorem mv_X8_237 : fl_mv RX8 237 8 yX8_tearsOfOthers cX8_tearsOfOthers 4 (some .int) 1 := fl_mv_of (T := TX8) (N := 11) rfl wq_634 wq_636 wq_7 wq_45 wq_637 ⟨by decide +kernel, by decide +kernel, by decide +kernel⟩
theorem mv_X8_240 : fl_mv RX8 240 0 yX0_driveSoonest cX0_driveSoonest 3 (some .boolean) 2 := fl_mv_of (T := TX0) (N := 13) rfl wq_625 wq_596 wq_597 wq_47 wq_598 ⟨by decide +kernel, by decide +kernel, by decide +kernel⟩
theorem mv_X8_244 : fl_mv RX8 244 1 yX1_fight cX1_fight 6 none 5 := fl_mv_of (T := TX1) (N := 6) rfl wq_642 wq_643 wq_644 wq_54 wq_645 ⟨by decide +kernel, by decide +kernel, by decide +kernel⟩
theorem mv_X8_254 : fl_mv RX8 254 3 yX3_add cX3_add 4 (some .boolean) 3 := fl_mv_of (T := TX3) (N := 4) rfl wq_658 wq_659 wq_660 wq_52 wq_661 ⟨by decide +kernel, by decide +kernel, by decide +kernel⟩
theorem mv_X8_257 : fl_mv RX8 257 8 yX8_fitsSeen cX8_fitsSeen 5 (some .boolean) 3 := fl_mv_of (T := TX8) (N := 11) rfl wq_670 wq_672 wq_8 wq_45 wq_673 ⟨by decide +kernel, by decide +kernel, by decide +kernel⟩
theorem mv_X8_272 : fl_mv RX8 272 8 yX8_lateAmong cX8_lateAmong 6 (some .int) 1 := fl_mv_of (T := TX8) (N := 11) rfl wq_693 wq_695 wq_9 wq_45 wq_696 ⟨by decide +kernel, by decide +kernel, by decide +kernel⟩
theorem mv_X8_289 : fl_mv RX8 289 8 yX8_howManyWept cX8_howManyWept 3 (some .int) 0 := fl_mv_of (T := TX8) (N := 11) rfl wq_724 wq_726 wq_10 wq_45 wq_727 ⟨by decide +kernel, by decide +kernel, by decide +kernel⟩
theorem mv_X8_292 : fl_mv RX8 292 5 yX5_begin cX5_begin 2 none 1 := fl_mv_of (T := TX5) (N := 6) rfl wq_411 wq_412 wq_413 wq_49 wq_414 ⟨by decide +kernel, by decide +kernel, by decide +kernel⟩
theorem mv_X8_295 : fl_mv RX8 295 5 yX5_dawn cX5_dawn 2 none 0 := fl_mv_of (T := TX5) (N := 6) rfl wq_624 wq_419 wq_420 wq_49 wq_421 ⟨by decide +kernel, by decide +kernel, by decide +kernel⟩
theorem mv_X8_304 : fl_mv RX8 304 0 yX0_reckonAs cX0_reckonAs 9 none 5 := fl_mv_of (T := TX0) (N := 13) rfl wq_674 wq_533 wq_534 wq_47 wq_535 ⟨by decide +kernel, by decide +kernel, by decide +kernel⟩
theorem mv_X8_311 : fl_mv RX8 311 0 yX0_settle cX0_settle 5 none 4 := fl_mv_of (T := TX0) (N := 13) rfl wq_697 wq_538 wq_539 wq_47 wq_540 ⟨by decide +kernel, by decide +kernel, by decide +kernel⟩
theorem mv_X0_60 : fl_mv RX0 60 0 yX0_hasPlace cX0_hasPlace 2 (some .boolean) 1 := fl_mv_of (T := TX0) (N := 13) rfl wq_395 wq_396 wq_397 wq_47 wq_398 ⟨by decide +kernel, by decide +kernel, by decide +kernel⟩
theorem mv_X0_64 : fl_mv RX0 64 0 yX0_places cX0_places 1 (some .int) 0 := fl_mv_of (T := TX0) (N := 13) rfl wq_399 wq_400 wq_401 wq_47 wq_402 ⟨by decide +kernel, by decide +kernel, by decide +kernel⟩
theorem mv_X0_83 : fl_mv RX0 83 0 yX0_reckonAs cX0_reckonAs 9 none 5 := fl_mv_of (T := TX0) (N := 13) rfl wq_532 wq_533 wq_534 wq_47 wq_535 ⟨by decide +kernel, by decide +kernel, by decide +kernel⟩
theorem mv_X0_93 : fl_mv RX0 93 0 yX0_steps cX0_steps 4 (some .int) 2 := fl_mv_of (T := TX0) (N := 13) rfl wq_536 wq_482 wq_483 wq_47 wq_484 ⟨by decide +kernel, by decide +kernel, by decide +kernel⟩
theorem mv_X0_116 : fl_mv RX0 116 0 yX0_reckon cX0_reckon 4 none 3 := fl_mv_of (T := TX0) (N := 13) rfl wq_528 wq_529 wq_530 wq_47 wq_531 ⟨by decide +kernel, by decide +kernel, by decide +kernel⟩
theorem mv_X0_120 : fl_mv RX0 120 0 yX0_settle cX0_settle 5 none 4 := fl_mv_of (T := TX0) (N := 13) rfl wq_537 wq_538 wq_539 wq_47 wq_540 ⟨by decide +kernel, by decide +kernel, by decide +kernel⟩
theorem mv_X0_124 : fl_mv RX0 124 0 yX0_nearest cX0_nearest 6 (some .int) 2 := fl_mv_of (T := TX0) (N := 13) rfl wq_599 wq_571 wq_572 wq_47 wq_573 ⟨by decide +kernel, by decide +kernel, by decide +kernel⟩
theorem mv_X0_128 : fl_mv RX0 128 0 yX0_drive cX0_drive 5 (some .boolean) 3 := fl_mv_of (T := TX0) (N := 13) rfl wq_600 wq_525 wq_526 wq_47 wq_527 ⟨by decide +kernel, by decide +kernel, by decide +kernel⟩
theorem mv_X1_18 : fl_mv RX1 18 5 yX5_copy cX5_copy 2 none 1 := fl_mv_of (T := TX5) (N := 6) rfl wq_646 wq_518 wq_519 wq_49 wq_520 ⟨by decide +kernel, by decide +kernel, by decide +kernel⟩
theorem mv_X1_57 : fl_mv RX1 57 5 yX5_isTaken cX5_isTaken 2 (some .boolean) 1 := fl_mv_of (T := TX5) (N := 6) rfl wq_652 wq_506 wq_507 wq_49 wq_508 ⟨by decide +kernel, by decide +kernel, by decide +kernel⟩
theorem mv_X1_61 : fl_mv RX1 61 0 yX0_drive cX0_drive 5 (some .boolean) 3 := fl_mv_of (T := TX0) (N := 13) rfl wq_653 wq_525 wq_526 wq_47 wq_527 ⟨by decide +kernel, by decide +kernel, by decide +kernel⟩
theorem mv_X2_25 : fl_mv RX2 25 5 yX5_copy cX5_copy 2 none 1 := fl_mv_of (T := TX5) (N := 6) rfl wq_582 wq_518 wq_519 wq_49 wq_520 ⟨by decide +kernel, by decide +kernel, by decide +kernel⟩
theorem mv_X2_48 : fl_mv RX2 48 5 yX5_isTaken cX5_isTaken 2 (some .boolean) 1 := fl_mv_of (T := TX5) (N := 6) rfl wq_586 wq_506 wq_507 wq_49 wq_508 ⟨by decide +kernel, by decide +kernel, by decide +kernel⟩
theorem mv_X2_56 : fl_mv RX2 56 2 yX2_keepIfFewer cX2_keepIfFewer 2 none 1 := fl_mv_of (T := TX2) (N := 5) rfl wq_590 wq_592 wq_3 wq_53 wq_593 ⟨by decide +kernel, by decide +kernel, by decide +kernel⟩
theorem mv_X2_60 : fl_mv RX2 60 0 yX0_driveSoonest cX0_driveSoonest 3 (some .boolean) 2 := fl_mv_of (T := TX0) (N := 13) rfl wq_595 wq_596 wq_597 wq_47 wq_598 ⟨by decide +kernel, by decide +kernel, by decide +kernel⟩
theorem mv_X4_26 : fl_mv RX4 26 5 yX5_copy cX5_copy 2 none 1 := fl_mv_of (T := TX5) (N := 6) rfl wq_517 wq_518 wq_519 wq_49 wq_520 ⟨by decide +kernel, by decide +kernel, by decide +kernel⟩
theorem mv_X5_41 : fl_mv RX5 41 5 yX5_dawn cX5_dawn 2 none 0 := fl_mv_of (T := TX5) (N := 6) rfl wq_418 wq_419 wq_420 wq_49 wq_421 ⟨by decide +kernel, by decide +kernel, by decide +kernel⟩
theorem mv_X6_23 : fl_mv RX6 23 0 yX0_clear cX0_clear 1 none 0 := fl_mv_of (T := TX0) (N := 13) rfl wq_372 wq_373 wq_374 wq_47 wq_375 ⟨by decide +kernel, by decide +kernel, by decide +kernel⟩
theorem mv_X6_28 : fl_mv RX6 28 6 yX6_readNumbers cX6_readNumbers 7 (some .boolean) 2 := fl_mv_of (T := TX6) (N := 4) rfl wq_376 wq_378 wq_0 wq_46 wq_379 ⟨by decide +kernel, by decide +kernel, by decide +kernel⟩
theorem mv_X6_32 : fl_mv RX6 32 6 yX6_tell cX6_tell 3 (some .boolean) 2 := fl_mv_of (T := TX6) (N := 4) rfl wq_380 wq_382 wq_1 wq_46 wq_383 ⟨by decide +kernel, by decide +kernel, by decide +kernel⟩
theorem mv_X6_39 : fl_mv RX6 39 0 yX0_build cX0_build 3 (some .boolean) 2 := fl_mv_of (T := TX0) (N := 13) rfl wq_384 wq_385 wq_386 wq_47 wq_387 ⟨by decide +kernel, by decide +kernel, by decide +kernel⟩
theorem mv_X6_42 : fl_mv RX6 42 0 yX0_addCab cX0_addCab 4 (some .boolean) 3 := fl_mv_of (T := TX0) (N := 13) rfl wq_391 wq_392 wq_393 wq_47 wq_394 ⟨by decide +kernel, by decide +kernel, by decide +kernel⟩
theorem mv_X6_46 : fl_mv RX6 46 0 yX0_addFare cX0_addFare 3 (some .boolean) 1 := fl_mv_of (T := TX0) (N := 13) rfl wq_403 wq_404 wq_405 wq_47 wq_406 ⟨by decide +kernel, by decide +kernel, by decide +kernel⟩
theorem mv_X9_71 : fl_mv RX9 71 9 yX9_addsCab cX9_addsCab 4 none 3 := fl_mv_of (T := TX9) (N := 32) rfl wq_734 wq_736 wq_11 wq_60 wq_737 ⟨by decide +kernel, by decide +kernel, by decide +kernel⟩
theorem mv_X9_75 : fl_mv RX9 75 9 yX9_addsFare cX9_addsFare 6 none 5 := fl_mv_of (T := TX9) (N := 32) rfl wq_738 wq_740 wq_12 wq_60 wq_741 ⟨by decide +kernel, by decide +kernel, by decide +kernel⟩
theorem mv_X9_79 : fl_mv RX9 79 9 yX9_begins cX9_begins 3 none 0 := fl_mv_of (T := TX9) (N := 32) rfl wq_742 wq_744 wq_13 wq_60 wq_745 ⟨by decide +kernel, by decide +kernel, by decide +kernel⟩
theorem mv_X9_88 : fl_mv RX9 88 9 yX9_places cX9_places 1 (some .int) 0 := fl_mv_of (T := TX9) (N := 32) rfl wq_894 wq_896 wq_21 wq_60 wq_897 ⟨by decide +kernel, by decide +kernel, by decide +kernel⟩
theorem mv_X9_130 : fl_mv RX9 130 9 yX9_letterAt cX9_letterAt 2 (some .int) 1 := fl_mv_of (T := TX9) (N := 32) rfl wq_868 wq_870 wq_16 wq_60 wq_871 ⟨by decide +kernel, by decide +kernel, by decide +kernel⟩
theorem mv_X9_138 : fl_mv RX9 138 9 yX9_takesNumber cX9_takesNumber 5 (some .boolean) 3 := fl_mv_of (T := TX9) (N := 32) rfl wq_876 wq_878 wq_18 wq_60 wq_879 ⟨by decide +kernel, by decide +kernel, by decide +kernel⟩
theorem mv_X9_142 : fl_mv RX9 142 9 yX9_takesRows cX9_takesRows 2 (some .boolean) 0 := fl_mv_of (T := TX9) (N := 32) rfl wq_872 wq_874 wq_17 wq_60 wq_875 ⟨by decide +kernel, by decide +kernel, by decide +kernel⟩
theorem mv_X9_146 : fl_mv RX9 146 9 yX9_takesCab cX9_takesCab 4 (some .boolean) 0 := fl_mv_of (T := TX9) (N := 32) rfl wq_882 wq_884 wq_19 wq_60 wq_885 ⟨by decide +kernel, by decide +kernel, by decide +kernel⟩
theorem mv_X9_149 : fl_mv RX9 149 9 yX9_takesFare cX9_takesFare 6 (some .boolean) 0 := fl_mv_of (T := TX9) (N := 32) rfl wq_886 wq_888 wq_20 wq_60 wq_889 ⟨by decide +kernel, by decide +kernel, by decide +kernel⟩
theorem mv_X9_152 : fl_mv RX9 152 9 yX9_takesItem cX9_takesItem 2 (some .boolean) 0 := fl_mv_of (T := TX9) (N := 32) rfl wq_864 wq_866 wq_15 wq_60 wq_867 ⟨by decide +kernel, by decide +kernel, by decide +kernel⟩
theorem mv_X9_155 : fl_mv RX9 155 9 yX9_faultOf cX9_faultOf 2 (some .int) 0 := fl_mv_of (T := TX9) (N := 32) rfl wq_860 wq_862 wq_14 wq_60 wq_863 ⟨by decide +kernel, by decide +kernel, by decide +kernel⟩
theorem mv_X9_158 : fl_mv RX9 158 9 yX9_isPlace cX9_isPlace 2 (some .boolean) 1 := fl_mv_of (T := TX9) (N := 32) rfl wq_902 wq_904 wq_22 wq_60 wq_905 ⟨by decide +kernel, by decide +kernel, by decide +kernel⟩
theorem mv_X9_162 : fl_mv RX9 162 9 yX9_farOf cX9_farOf 5 (some .int) 2 := fl_mv_of (T := TX9) (N := 32) rfl wq_906 wq_908 wq_23 wq_60 wq_909 ⟨by decide +kernel, by decide +kernel, by decide +kernel⟩
theorem mv_X9_166 : fl_mv RX9 166 9 yX9_isCab cX9_isCab 2 (some .boolean) 1 := fl_mv_of (T := TX9) (N := 32) rfl wq_914 wq_916 wq_24 wq_60 wq_917 ⟨by decide +kernel, by decide +kernel, by decide +kernel⟩
theorem mv_X9_169 : fl_mv RX9 169 9 yX9_isFare cX9_isFare 2 (some .boolean) 1 := fl_mv_of (T := TX9) (N := 32) rfl wq_922 wq_924 wq_25 wq_60 wq_925 ⟨by decide +kernel, by decide +kernel, by decide +kernel⟩
theorem mv_X9_172 : fl_mv RX9 172 9 yX9_setsOut cX9_setsOut 3 (some .int) 2 := fl_mv_of (T := TX9) (N := 32) rfl wq_953 wq_955 wq_31 wq_60 wq_956 ⟨by decide +kernel, by decide +kernel, by decide +kernel⟩
theorem mv_X9_175 : fl_mv RX9 175 9 yX9_goesBy cX9_goesBy 5 (some .boolean) 3 := fl_mv_of (T := TX9) (N := 32) rfl wq_957 wq_959 wq_32 wq_60 wq_960 ⟨by decide +kernel, by decide +kernel, by decide +kernel⟩
theorem mv_X9_178 : fl_mv RX9 178 9 yX9_freeBy cX9_freeBy 7 (some .int) 3 := fl_mv_of (T := TX9) (N := 32) rfl wq_949 wq_951 wq_30 wq_60 wq_952 ⟨by decide +kernel, by decide +kernel, by decide +kernel⟩
theorem mv_X9_182 : fl_mv RX9 182 9 yX9_lateBy cX9_lateBy 4 (some .int) 3 := fl_mv_of (T := TX9) (N := 32) rfl wq_945 wq_947 wq_29 wq_60 wq_948 ⟨by decide +kernel, by decide +kernel, by decide +kernel⟩
theorem mv_X9_185 : fl_mv RX9 185 9 yX9_weeps cX9_weeps 3 (some .boolean) 2 := fl_mv_of (T := TX9) (N := 32) rfl wq_961 wq_963 wq_33 wq_60 wq_964 ⟨by decide +kernel, by decide +kernel, by decide +kernel⟩
theorem mv_X9_189 : fl_mv RX9 189 9 yX9_rides cX9_rides 7 none 4 := fl_mv_of (T := TX9) (N := 32) rfl wq_965 wq_967 wq_34 wq_60 wq_968 ⟨by decide +kernel, by decide +kernel, by decide +kernel⟩
theorem mv_X9_193 : fl_mv RX9 193 9 yX9_copy cX9_copy 4 none 2 := fl_mv_of (T := TX9) (N := 32) rfl wq_937 wq_939 wq_27 wq_60 wq_940 ⟨by decide +kernel, by decide +kernel, by decide +kernel⟩
theorem mv_X9_200 : fl_mv RX9 200 9 yX9_minds cX9_minds 2 none 0 := fl_mv_of (T := TX9) (N := 32) rfl wq_933 wq_935 wq_26 wq_60 wq_936 ⟨by decide +kernel, by decide +kernel, by decide +kernel⟩
theorem mv_X9_203 : fl_mv RX9 203 9 yX9_ridesAsOneDoes cX9_ridesAsOneDoes 5 (some .boolean) 3 := fl_mv_of (T := TX9) (N := 32) rfl wq_941 wq_943 wq_28 wq_60 wq_944 ⟨by decide +kernel, by decide +kernel, by decide +kernel⟩
theorem mv_X9_206 : fl_mv RX9 206 9 yX9_sends cX9_sends 4 none 3 := fl_mv_of (T := TX9) (N := 32) rfl wq_973 wq_975 wq_35 wq_60 wq_976 ⟨by decide +kernel, by decide +kernel, by decide +kernel⟩
theorem mv_X9_211 : fl_mv RX9 211 9 yX9_soonestIn cX9_soonestIn 5 (some .int) 2 := fl_mv_of (T := TX9) (N := 32) rfl wq_994 wq_996 wq_36 wq_60 wq_997 ⟨by decide +kernel, by decide +kernel, by decide +kernel⟩
theorem mv_X9_214 : fl_mv RX9 214 9 yX9_rest cX9_rest 1 (some .int) 0 := fl_mv_of (T := TX9) (N := 32) rfl wq_1007 wq_1009 wq_38 wq_60 wq_1010 ⟨by decide +kernel, by decide +kernel, by decide +kernel⟩
theorem mv_X9_223 : fl_mv RX9 223 9 yX9_ordersRest cX9_ordersRest 8 (some .int) 0 := fl_mv_of (T := TX9) (N := 32) rfl wq_1003 wq_1005 wq_37 wq_60 wq_1006 ⟨by decide +kernel, by decide +kernel, by decide +kernel⟩
theorem mv_X9_226 : fl_mv RX9 226 9 yX9_tries cX9_tries 1 none 0 := fl_mv_of (T := TX9) (N := 32) rfl wq_1019 wq_1021 wq_39 wq_60 wq_1022 ⟨by decide +kernel, by decide +kernel, by decide +kernel⟩
theorem mv_X9_229 : fl_mv RX9 229 9 yX9_laysDay cX9_laysDay 3 none 1 := fl_mv_of (T := TX9) (N := 32) rfl wq_1027 wq_1029 wq_40 wq_60 wq_1030 ⟨by decide +kernel, by decide +kernel, by decide +kernel⟩
theorem mv_X9_233 : fl_mv RX9 233 9 yX9_areLike cX9_areLike 5 (some .boolean) 2 := fl_mv_of (T := TX9) (N := 32) rfl wq_1031 wq_1033 wq_41 wq_60 wq_1034 ⟨by decide +kernel, by decide +kernel, by decide +kernel⟩
theorem mv_X9_236 : fl_mv RX9 236 9 yX9_weepBy cX9_weepBy 6 (some .int) 3 := fl_mv_of (T := TX9) (N := 32) rfl wq_1039 wq_1041 wq_42 wq_60 wq_1042 ⟨by decide +kernel, by decide +kernel, by decide +kernel⟩
theorem mv_X9_244 : fl_mv RX9 244 9 yX9_isSeen cX9_isSeen 4 (some .boolean) 1 := fl_mv_of (T := TX9) (N := 32) rfl wq_1061 wq_1063 wq_43 wq_60 wq_1064 ⟨by decide +kernel, by decide +kernel, by decide +kernel⟩
theorem ms_X8_99 : fl_ms RX8 99 yX8_within cX8_within 3 (some .boolean) 3 := fl_ms_of wq_462 wq_389 wq_45 wq_390 ⟨by decide +kernel, by decide +kernel, by decide +kernel⟩
theorem ms_X8_260 : fl_ms RX8 260 yX8_restOf cX8_restOf 4 (some .int) 2 := fl_ms_of wq_683 wq_584 wq_45 wq_585 ⟨by decide +kernel, by decide +kernel, by decide +kernel⟩
theorem ms_X8_264 : fl_ms RX8 264 yX8_power cX8_power 4 (some .int) 2 := fl_ms_of wq_684 wq_685 wq_45 wq_686 ⟨by decide +kernel, by decide +kernel, by decide +kernel⟩
theorem ms_X8_267 : fl_ms RX8 267 yJ6_bitCount_0f7a4 cJ6_bitCount_0f7a4 1 (some .int) 1 := fl_ms_of wq_687 wq_688 wq_61 wq_689 ⟨by decide +kernel, by decide +kernel, by decide +kernel⟩
theorem ms_X8_275 : fl_ms RX8 275 yX8_commonDivisor cX8_commonDivisor 6 (some .int) 2 := fl_ms_of wq_698 wq_699 wq_45 wq_700 ⟨by decide +kernel, by decide +kernel, by decide +kernel⟩
theorem ms_X8_283 : fl_ms RX8 283 yX8_drawn cX8_drawn 4 (some .int) 2 := fl_ms_of wq_706 wq_707 wq_45 wq_708 ⟨by decide +kernel, by decide +kernel, by decide +kernel⟩
theorem ms_X1_45 : fl_ms RX1 45 yX1_play cX1_play 10 (some .int) 3 := fl_ms_of wq_649 wq_650 wq_54 wq_651 ⟨by decide +kernel, by decide +kernel, by decide +kernel⟩
theorem ms_X2_52 : fl_ms RX2 52 yX2_extend cX2_extend 8 none 4 := fl_ms_of wq_587 wq_588 wq_53 wq_589 ⟨by decide +kernel, by decide +kernel, by decide +kernel⟩
theorem ms_X9_92 : fl_ms RX9 92 yX9_in cX9_in 6 (some .boolean) 3 := fl_ms_of wq_849 wq_850 wq_60 wq_851 ⟨by decide +kernel, by decide +kernel, by decide +kernel⟩
theorem ms_X9_197 : fl_ms RX9 197 yX9_has cX9_has 2 (some .boolean) 2 := fl_ms_of wq_930 wq_931 wq_60 wq_932 ⟨by decide +kernel, by decide +kernel, by decide +kernel⟩
theorem ms_X9_217 : fl_ms RX9 217 yX9_ones cX9_ones 3 (some .int) 1 := fl_ms_of wq_1011 wq_1012 wq_60 wq_1013 ⟨by decide +kernel, by decide +kernel, by decide +kernel⟩
theorem mn_X0_56 : fl_mn RX0 56 yX8_within "CabTears" cX8_within 3 (some .boolean) 3 := fl_mn_of (List.mem_of_getElem? (i := 8) rfl) wq_389 wq_45 wq_390 ⟨by decide +kernel, by decide +kernel, by decide +kernel⟩
theorem mn_X1_35 : fl_mn RX1 35 yX8_restOf "CabTears" cX8_restOf 4 (some .int) 2 := fl_mn_of (List.mem_of_getElem? (i := 10) rfl) wq_584 wq_45 wq_585 ⟨by decide +kernel, by decide +kernel, by decide +kernel⟩
theorem mn_X2_29 : fl_mn RX2 29 yX8_restOf "CabTears" cX8_restOf 4 (some .int) 2 := fl_mn_of (List.mem_of_getElem? (i := 9) rfl) wq_584 wq_45 wq_585 ⟨by decide +kernel, by decide +kernel, by decide +kernel⟩
end
section
theorem dX0_init_0 : decode cX0_init 0 = .ok (.aload_n 0, 1) := by decide +kernel
theorem dX0_init_1 : decode cX0_init 1 = .ok (.invokespecial 3, 3) := by decide +kernel
theorem dX0_init_4 : decode cX0_init 4 = .ok (.aload_n 0, 1) := by decide +kernel
theorem dX0_init_5 : decode cX0_init 5 = .ok (.iconst 3, 1) := by decide +kernel
theorem dX0_init_6 : decode cX0_init 6 = .ok (.newarray .int, 2) := by decide +kernel
theorem dX0_init_8 : decode cX0_init 8 = .ok (.putfield 9, 3) := by decide +kernel
theorem dX0_init_11 : decode cX0_init 11 = .ok (.aload_n 0, 1) := by decide +kernel
theorem dX0_init_12 : decode cX0_init 12 = .ok (.iconst 3, 1) := by decide +kernel
theorem dX0_init_13 : decode cX0_init 13 = .ok (.newarray .int, 2) := by decide +kernel
theorem dX0_init_15 : decode cX0_init 15 = .ok (.putfield 15, 3) := by decide +kernel
theorem dX0_init_18 : decode cX0_init 18 = .ok (.aload_n 0, 1) := by decide +kernel
theorem dX0_init_19 : decode cX0_init 19 = .ok (.iconst 3, 1) := by decide +kernel
theorem dX0_init_20 : decode cX0_init 20 = .ok (.newarray .int, 2) := by decide +kernel
theorem dX0_init_22 : decode cX0_init 22 = .ok (.putfield 18, 3) := by decide +kernel
theorem dX0_init_25 : decode cX0_init 25 = .ok (.aload_n 0, 1) := by decide +kernel
theorem dX0_init_26 : decode cX0_init 26 = .ok (.bipush 7, 2) := by decide +kernel
theorem dX0_init_28 : decode cX0_init 28 = .ok (.newarray .int, 2) := by decide +kernel
theorem dX0_init_30 : decode cX0_init 30 = .ok (.putfield 21, 3) := by decide +kernel
theorem dX0_init_33 : decode cX0_init 33 = .ok (.aload_n 0, 1) := by decide +kernel
theorem dX0_init_34 : decode cX0_init 34 = .ok (.bipush 7, 2) := by decide +kernel
theorem dX0_init_36 : decode cX0_init 36 = .ok (.newarray .int, 2) := by decide +kernel
theorem dX0_init_38 : decode cX0_init 38 = .ok (.putfield 24, 3) := by decide +kernel
theorem dX0_init_41 : decode cX0_init 41 = .ok (.aload_n 0, 1) := by decide +kernel
theorem dX0_init_42 : decode cX0_init 42 = .ok (.bipush 7, 2) := by decide +kernel
theorem dX0_init_44 : decode cX0_init 44 = .ok (.newarray .int, 2) := by decide +kernel
theorem dX0_init_46 : decode cX0_init 46 = .ok (.putfield 27, 3) := by decide +kernel
theorem dX0_init_49 : decode cX0_init 49 = .ok (.aload_n 0, 1) := by decide +kernel
theorem dX0_init_50 : decode cX0_init 50 = .ok (.bipush 7, 2) := by decide +kernel
theorem dX0_init_52 : decode cX0_init 52 = .ok (.newarray .int, 2) := by decide +kernel
theorem dX0_init_54 : decode cX0_init 54 = .ok (.putfield 30, 3) := by decide +kernel
theorem dX0_init_57 : decode cX0_init 57 = .ok (.aload_n 0, 1) := by decide +kernel
theorem dX0_init_58 : decode cX0_init 58 = .ok (.bipush 7, 2) := by decide +kernel
theorem dX0_init_60 : decode cX0_init 60 = .ok (.newarray .int, 2) := by decide +kernel
theorem dX0_init_62 : decode cX0_init 62 = .ok (.putfield 33, 3) := by decide +kernel
theorem dX0_init_65 : decode cX0_init 65 = .ok (.aload_n 0, 1) := by decide +kernel
theorem dX0_init_66 : decode cX0_init 66 = .ok (.new 36, 3) := by decide +kernel
theorem dX0_init_69 : decode cX0_init 69 = .ok (.dup, 1) := by decide +kernel
theorem dX0_init_70 : decode cX0_init 70 = .ok (.invokespecial 38, 3) := by decide +kernel
theorem dX0_init_73 : decode cX0_init 73 = .ok (.putfield 39, 3) := by decide +kernel
theorem dX0_init_76 : decode cX0_init 76 = .ok (.return_, 1) := by decide +kernel
theorem dX0_clear_0 : decode cX0_clear 0 = .ok (.aload_n 0, 1) := by decide +kernel
theorem dX0_clear_1 : decode cX0_clear 1 = .ok (.iconst 4, 1) := by decide +kernel
theorem dX0_clear_2 : decode cX0_clear 2 = .ok (.putfield 43, 3) := by decide +kernel
theorem dX0_clear_5 : decode cX0_clear 5 = .ok (.aload_n 0, 1) := by decide +kernel
theorem dX0_clear_6 : decode cX0_clear 6 = .ok (.iconst 4, 1) := by decide +kernel
theorem dX0_clear_7 : decode cX0_clear 7 = .ok (.putfield 47, 3) := by decide +kernel
theorem dX0_clear_10 : decode cX0_clear 10 = .ok (.aload_n 0, 1) := by decide +kernel
theorem dX0_clear_11 : decode cX0_clear 11 = .ok (.iconst 0, 1) := by decide +kernel
theorem dX0_clear_12 : decode cX0_clear 12 = .ok (.putfield 50, 3) := by decide +kernel
theorem dX0_clear_15 : decode cX0_clear 15 = .ok (.aload_n 0, 1) := by decide +kernel
theorem dX0_clear_16 : decode cX0_clear 16 = .ok (.iconst 0, 1) := by decide +kernel
theorem dX0_clear_17 : decode cX0_clear 17 = .ok (.putfield 53, 3) := by decide +kernel
theorem dX0_clear_20 : decode cX0_clear 20 = .ok (.return_, 1) := by decide +kernel
theorem dX0_build_0 : decode cX0_build 0 = .ok (.aload_n 0, 1) := by decide +kernel
theorem dX0_build_1 : decode cX0_build 1 = .ok (.getfield 50, 3) := by decide +kernel
theorem dX0_build_4 : decode cX0_build 4 = .ok (.ifCond .gt 30, 3) := by decide +kernel
theorem dX0_build_7 : decode cX0_build 7 = .ok (.aload_n 0, 1) := by decide +kernel
theorem dX0_build_8 : decode cX0_build 8 = .ok (.getfield 53, 3) := by decide +kernel
theorem dX0_build_11 : decode cX0_build 11 = .ok (.ifCond .gt 23, 3) := by decide +kernel
theorem dX0_build_14 : decode cX0_build 14 = .ok (.iload_n 1, 1) := by decide +kernel
theorem dX0_build_15 : decode cX0_build 15 = .ok (.iconst 1, 1) := by decide +kernel
theorem dX0_build_16 : decode cX0_build 16 = .ok (.bipush 6, 2) := by decide +kernel
theorem dX0_build_18 : decode cX0_build 18 = .ok (.invokestatic 56, 3) := by decide +kernel
theorem dX0_build_21 : decode cX0_build 21 = .ok (.ifCond .eq 13, 3) := by decide +kernel
theorem dX0_build_24 : decode cX0_build 24 = .ok (.iload_n 2, 1) := by decide +kernel
theorem dX0_build_25 : decode cX0_build 25 = .ok (.iconst 1, 1) := by decide +kernel
theorem dX0_build_26 : decode cX0_build 26 = .ok (.bipush 6, 2) := by decide +kernel
theorem dX0_build_28 : decode cX0_build 28 = .ok (.invokestatic 56, 3) := by decide +kernel
theorem dX0_build_31 : decode cX0_build 31 = .ok (.ifCond .ne 5, 3) := by decide +kernel
theorem dX0_build_34 : decode cX0_build 34 = .ok (.iconst 0, 1) := by decide +kernel
theorem dX0_build_35 : decode cX0_build 35 = .ok (.ireturn, 1) := by decide +kernel
theorem dX0_build_36 : decode cX0_build 36 = .ok (.aload_n 0, 1) := by decide +kernel
theorem dX0_build_37 : decode cX0_build 37 = .ok (.iload_n 1, 1) := by decide +kernel
theorem dX0_build_38 : decode cX0_build 38 = .ok (.putfield 43, 3) := by decide +kernel
theorem dX0_build_41 : decode cX0_build 41 = .ok (.aload_n 0, 1) := by decide +kernel
theorem dX0_build_42 : decode cX0_build 42 = .ok (.iload_n 2, 1) := by decide +kernel
theorem dX0_build_43 : decode cX0_build 43 = .ok (.putfield 47, 3) := by decide +kernel
theorem dX0_build_46 : decode cX0_build 46 = .ok (.iconst 1, 1) := by decide +kernel
theorem dX0_build_47 : decode cX0_build 47 = .ok (.ireturn, 1) := by decide +kernel
theorem dX0_addCab_0 : decode cX0_addCab 0 = .ok (.aload_n 0, 1) := by decide +kernel
theorem dX0_addCab_1 : decode cX0_addCab 1 = .ok (.getfield 50, 3) := by decide +kernel
theorem dX0_addCab_4 : decode cX0_addCab 4 = .ok (.iconst 3, 1) := by decide +kernel
theorem dX0_addCab_5 : decode cX0_addCab 5 = .ok (.if_icmp .ge 28, 3) := by decide +kernel
theorem dX0_addCab_8 : decode cX0_addCab 8 = .ok (.iload_n 1, 1) := by decide +kernel
theorem dX0_addCab_9 : decode cX0_addCab 9 = .ok (.iconst 0, 1) := by decide +kernel
theorem dX0_addCab_10 : decode cX0_addCab 10 = .ok (.iconst 2, 1) := by decide +kernel
theorem dX0_addCab_11 : decode cX0_addCab 11 = .ok (.invokestatic 56, 3) := by decide +kernel
theorem dX0_addCab_14 : decode cX0_addCab 14 = .ok (.ifCond .eq 19, 3) := by decide +kernel
theorem dX0_addCab_17 : decode cX0_addCab 17 = .ok (.aload_n 0, 1) := by decide +kernel
theorem dX0_addCab_18 : decode cX0_addCab 18 = .ok (.iload_n 2, 1) := by decide +kernel
theorem dX0_addCab_19 : decode cX0_addCab 19 = .ok (.invokevirtual 60, 3) := by decide +kernel
theorem dX0_addCab_22 : decode cX0_addCab 22 = .ok (.ifCond .eq 11, 3) := by decide +kernel
theorem dX0_addCab_25 : decode cX0_addCab 25 = .ok (.aload_n 0, 1) := by decide +kernel
theorem dX0_addCab_26 : decode cX0_addCab 26 = .ok (.iload_n 3, 1) := by decide +kernel
theorem dX0_addCab_27 : decode cX0_addCab 27 = .ok (.invokevirtual 60, 3) := by decide +kernel
theorem dX0_addCab_30 : decode cX0_addCab 30 = .ok (.ifCond .ne 5, 3) := by decide +kernel
theorem dX0_addCab_33 : decode cX0_addCab 33 = .ok (.iconst 0, 1) := by decide +kernel
theorem dX0_addCab_34 : decode cX0_addCab 34 = .ok (.ireturn, 1) := by decide +kernel
theorem dX0_addCab_35 : decode cX0_addCab 35 = .ok (.aload_n 0, 1) := by decide +kernel
theorem dX0_addCab_36 : decode cX0_addCab 36 = .ok (.getfield 9, 3) := by decide +kernel
theorem dX0_addCab_39 : decode cX0_addCab 39 = .ok (.aload_n 0, 1) := by decide +kernel
theorem dX0_addCab_40 : decode cX0_addCab 40 = .ok (.getfield 50, 3) := by decide +kernel
theorem dX0_addCab_43 : decode cX0_addCab 43 = .ok (.iload_n 1, 1) := by decide +kernel
theorem dX0_addCab_44 : decode cX0_addCab 44 = .ok (.iastore, 1) := by decide +kernel
theorem dX0_addCab_45 : decode cX0_addCab 45 = .ok (.aload_n 0, 1) := by decide +kernel
theorem dX0_addCab_46 : decode cX0_addCab 46 = .ok (.getfield 15, 3) := by decide +kernel
theorem dX0_addCab_49 : decode cX0_addCab 49 = .ok (.aload_n 0, 1) := by decide +kernel
theorem dX0_addCab_50 : decode cX0_addCab 50 = .ok (.getfield 50, 3) := by decide +kernel
theorem dX0_addCab_53 : decode cX0_addCab 53 = .ok (.iload_n 2, 1) := by decide +kernel
theorem dX0_addCab_54 : decode cX0_addCab 54 = .ok (.iastore, 1) := by decide +kernel
theorem dX0_addCab_55 : decode cX0_addCab 55 = .ok (.aload_n 0, 1) := by decide +kernel
theorem dX0_addCab_56 : decode cX0_addCab 56 = .ok (.getfield 18, 3) := by decide +kernel
theorem dX0_addCab_59 : decode cX0_addCab 59 = .ok (.aload_n 0, 1) := by decide +kernel
theorem dX0_addCab_60 : decode cX0_addCab 60 = .ok (.getfield 50, 3) := by decide +kernel
theorem dX0_addCab_63 : decode cX0_addCab 63 = .ok (.iload_n 3, 1) := by decide +kernel
theorem dX0_addCab_64 : decode cX0_addCab 64 = .ok (.iload_n 2, 1) := by decide +kernel
theorem dX0_addCab_65 : decode cX0_addCab 65 = .ok (.if_icmp .ne 8, 3) := by decide +kernel
theorem dX0_addCab_68 : decode cX0_addCab 68 = .ok (.bipush (-4), 2) := by decide +kernel
theorem dX0_addCab_70 : decode cX0_addCab 70 = .ok (.goto 4, 3) := by decide +kernel
theorem dX0_addCab_73 : decode cX0_addCab 73 = .ok (.iload_n 3, 1) := by decide +kernel
theorem dX0_addCab_74 : decode cX0_addCab 74 = .ok (.iastore, 1) := by decide +kernel
theorem dX0_addCab_75 : decode cX0_addCab 75 = .ok (.aload_n 0, 1) := by decide +kernel
theorem dX0_addCab_76 : decode cX0_addCab 76 = .ok (.dup, 1) := by decide +kernel
theorem dX0_addCab_77 : decode cX0_addCab 77 = .ok (.getfield 50, 3) := by decide +kernel
theorem dX0_addCab_80 : decode cX0_addCab 80 = .ok (.iconst 1, 1) := by decide +kernel
theorem dX0_addCab_81 : decode cX0_addCab 81 = .ok (.iadd, 1) := by decide +kernel
theorem dX0_addCab_82 : decode cX0_addCab 82 = .ok (.putfield 50, 3) := by decide +kernel
theorem dX0_addCab_85 : decode cX0_addCab 85 = .ok (.iconst 1, 1) := by decide +kernel
theorem dX0_addCab_86 : decode cX0_addCab 86 = .ok (.ireturn, 1) := by decide +kernel
theorem dX0_addFare_0 : decode cX0_addFare 0 = .ok (.aload_n 0, 1) := by decide +kernel
theorem dX0_addFare_1 : decode cX0_addFare 1 = .ok (.getfield 53, 3) := by decide +kernel
theorem dX0_addFare_4 : decode cX0_addFare 4 = .ok (.bipush 7, 2) := by decide +kernel
theorem dX0_addFare_6 : decode cX0_addFare 6 = .ok (.if_icmp .ge 9, 3) := by decide +kernel
theorem dX0_addFare_9 : decode cX0_addFare 9 = .ok (.aload_n 1, 1) := by decide +kernel
theorem dX0_addFare_10 : decode cX0_addFare 10 = .ok (.arraylength, 1) := by decide +kernel
theorem dX0_addFare_11 : decode cX0_addFare 11 = .ok (.iconst 5, 1) := by decide +kernel
theorem dX0_addFare_12 : decode cX0_addFare 12 = .ok (.if_icmp .ge 5, 3) := by decide +kernel
theorem dX0_addFare_15 : decode cX0_addFare 15 = .ok (.iconst 0, 1) := by decide +kernel
theorem dX0_addFare_16 : decode cX0_addFare 16 = .ok (.ireturn, 1) := by decide +kernel
theorem dX0_addFare_17 : decode cX0_addFare 17 = .ok (.aload_n 1, 1) := by decide +kernel
theorem dX0_addFare_18 : decode cX0_addFare 18 = .ok (.iconst 0, 1) := by decide +kernel
theorem dX0_addFare_19 : decode cX0_addFare 19 = .ok (.iaload, 1) := by decide +kernel
theorem dX0_addFare_20 : decode cX0_addFare 20 = .ok (.iconst 0, 1) := by decide +kernel
theorem dX0_addFare_21 : decode cX0_addFare 21 = .ok (.iconst 3, 1) := by decide +kernel
theorem dX0_addFare_22 : decode cX0_addFare 22 = .ok (.invokestatic 56, 3) := by decide +kernel
theorem dX0_addFare_25 : decode cX0_addFare 25 = .ok (.ifCond .eq 27, 3) := by decide +kernel
theorem dX0_addFare_28 : decode cX0_addFare 28 = .ok (.aload_n 0, 1) := by decide +kernel
theorem dX0_addFare_29 : decode cX0_addFare 29 = .ok (.aload_n 1, 1) := by decide +kernel
theorem dX0_addFare_30 : decode cX0_addFare 30 = .ok (.iconst 1, 1) := by decide +kernel
theorem dX0_addFare_31 : decode cX0_addFare 31 = .ok (.iaload, 1) := by decide +kernel
theorem dX0_addFare_32 : decode cX0_addFare 32 = .ok (.invokevirtual 60, 3) := by decide +kernel
theorem dX0_addFare_35 : decode cX0_addFare 35 = .ok (.ifCond .eq 17, 3) := by decide +kernel
theorem dX0_addFare_38 : decode cX0_addFare 38 = .ok (.aload_n 0, 1) := by decide +kernel
theorem dX0_addFare_39 : decode cX0_addFare 39 = .ok (.aload_n 1, 1) := by decide +kernel
theorem dX0_addFare_40 : decode cX0_addFare 40 = .ok (.iconst 2, 1) := by decide +kernel
theorem dX0_addFare_41 : decode cX0_addFare 41 = .ok (.iaload, 1) := by decide +kernel
theorem dX0_addFare_42 : decode cX0_addFare 42 = .ok (.invokevirtual 60, 3) := by decide +kernel
theorem dX0_addFare_45 : decode cX0_addFare 45 = .ok (.ifCond .eq 7, 3) := by decide +kernel
theorem dX0_addFare_48 : decode cX0_addFare 48 = .ok (.iconst 1, 1) := by decide +kernel
theorem dX0_addFare_49 : decode cX0_addFare 49 = .ok (.goto 4, 3) := by decide +kernel
theorem dX0_addFare_52 : decode cX0_addFare 52 = .ok (.iconst 0, 1) := by decide +kernel
theorem dX0_addFare_53 : decode cX0_addFare 53 = .ok (.istore_n 2, 1) := by decide +kernel
theorem dX0_addFare_54 : decode cX0_addFare 54 = .ok (.iload_n 2, 1) := by decide +kernel
theorem dX0_addFare_55 : decode cX0_addFare 55 = .ok (.ifCond .eq 27, 3) := by decide +kernel
theorem dX0_addFare_58 : decode cX0_addFare 58 = .ok (.aload_n 1, 1) := by decide +kernel
theorem dX0_addFare_59 : decode cX0_addFare 59 = .ok (.iconst 3, 1) := by decide +kernel
theorem dX0_addFare_60 : decode cX0_addFare 60 = .ok (.iaload, 1) := by decide +kernel
theorem dX0_addFare_61 : decode cX0_addFare 61 = .ok (.iconst 0, 1) := by decide +kernel
theorem dX0_addFare_62 : decode cX0_addFare 62 = .ok (.bipush 99, 2) := by decide +kernel
theorem dX0_addFare_64 : decode cX0_addFare 64 = .ok (.invokestatic 56, 3) := by decide +kernel
theorem dX0_addFare_67 : decode cX0_addFare 67 = .ok (.ifCond .eq 15, 3) := by decide +kernel
theorem dX0_addFare_70 : decode cX0_addFare 70 = .ok (.aload_n 1, 1) := by decide +kernel
theorem dX0_addFare_71 : decode cX0_addFare 71 = .ok (.iconst 4, 1) := by decide +kernel
theorem dX0_addFare_72 : decode cX0_addFare 72 = .ok (.iaload, 1) := by decide +kernel
theorem dX0_addFare_73 : decode cX0_addFare 73 = .ok (.iconst 0, 1) := by decide +kernel
theorem dX0_addFare_74 : decode cX0_addFare 74 = .ok (.bipush 60, 2) := by decide +kernel
theorem dX0_addFare_76 : decode cX0_addFare 76 = .ok (.invokestatic 56, 3) := by decide +kernel
theorem dX0_addFare_79 : decode cX0_addFare 79 = .ok (.ifCond .ne 5, 3) := by decide +kernel
theorem dX0_addFare_82 : decode cX0_addFare 82 = .ok (.iconst 0, 1) := by decide +kernel
theorem dX0_addFare_83 : decode cX0_addFare 83 = .ok (.ireturn, 1) := by decide +kernel
theorem dX0_addFare_84 : decode cX0_addFare 84 = .ok (.aload_n 0, 1) := by decide +kernel
theorem dX0_addFare_85 : decode cX0_addFare 85 = .ok (.getfield 21, 3) := by decide +kernel
theorem dX0_addFare_88 : decode cX0_addFare 88 = .ok (.aload_n 0, 1) := by decide +kernel
theorem dX0_addFare_89 : decode cX0_addFare 89 = .ok (.getfield 53, 3) := by decide +kernel
theorem dX0_addFare_92 : decode cX0_addFare 92 = .ok (.aload_n 1, 1) := by decide +kernel
theorem dX0_addFare_93 : decode cX0_addFare 93 = .ok (.iconst 0, 1) := by decide +kernel
theorem dX0_addFare_94 : decode cX0_addFare 94 = .ok (.iaload, 1) := by decide +kernel
theorem dX0_addFare_95 : decode cX0_addFare 95 = .ok (.iastore, 1) := by decide +kernel
theorem dX0_addFare_96 : decode cX0_addFare 96 = .ok (.aload_n 0, 1) := by decide +kernel
theorem dX0_addFare_97 : decode cX0_addFare 97 = .ok (.getfield 24, 3) := by decide +kernel
theorem dX0_addFare_100 : decode cX0_addFare 100 = .ok (.aload_n 0, 1) := by decide +kernel
theorem dX0_addFare_101 : decode cX0_addFare 101 = .ok (.getfield 53, 3) := by decide +kernel
theorem dX0_addFare_104 : decode cX0_addFare 104 = .ok (.aload_n 1, 1) := by decide +kernel
theorem dX0_addFare_105 : decode cX0_addFare 105 = .ok (.iconst 1, 1) := by decide +kernel
theorem dX0_addFare_106 : decode cX0_addFare 106 = .ok (.iaload, 1) := by decide +kernel
theorem dX0_addFare_107 : decode cX0_addFare 107 = .ok (.iastore, 1) := by decide +kernel
theorem dX0_addFare_108 : decode cX0_addFare 108 = .ok (.aload_n 0, 1) := by decide +kernel
theorem dX0_addFare_109 : decode cX0_addFare 109 = .ok (.getfield 27, 3) := by decide +kernel
theorem dX0_addFare_112 : decode cX0_addFare 112 = .ok (.aload_n 0, 1) := by decide +kernel
theorem dX0_addFare_113 : decode cX0_addFare 113 = .ok (.getfield 53, 3) := by decide +kernel
theorem dX0_addFare_116 : decode cX0_addFare 116 = .ok (.aload_n 1, 1) := by decide +kernel
theorem dX0_addFare_117 : decode cX0_addFare 117 = .ok (.iconst 2, 1) := by decide +kernel
theorem dX0_addFare_118 : decode cX0_addFare 118 = .ok (.iaload, 1) := by decide +kernel
theorem dX0_addFare_119 : decode cX0_addFare 119 = .ok (.iastore, 1) := by decide +kernel
theorem dX0_addFare_120 : decode cX0_addFare 120 = .ok (.aload_n 0, 1) := by decide +kernel
theorem dX0_addFare_121 : decode cX0_addFare 121 = .ok (.getfield 30, 3) := by decide +kernel
theorem dX0_addFare_124 : decode cX0_addFare 124 = .ok (.aload_n 0, 1) := by decide +kernel
theorem dX0_addFare_125 : decode cX0_addFare 125 = .ok (.getfield 53, 3) := by decide +kernel
theorem dX0_addFare_128 : decode cX0_addFare 128 = .ok (.aload_n 1, 1) := by decide +kernel
theorem dX0_addFare_129 : decode cX0_addFare 129 = .ok (.iconst 3, 1) := by decide +kernel
theorem dX0_addFare_130 : decode cX0_addFare 130 = .ok (.iaload, 1) := by decide +kernel
theorem dX0_addFare_131 : decode cX0_addFare 131 = .ok (.iastore, 1) := by decide +kernel
theorem dX0_addFare_132 : decode cX0_addFare 132 = .ok (.aload_n 0, 1) := by decide +kernel
theorem dX0_addFare_133 : decode cX0_addFare 133 = .ok (.getfield 33, 3) := by decide +kernel
theorem dX0_addFare_136 : decode cX0_addFare 136 = .ok (.aload_n 0, 1) := by decide +kernel
theorem dX0_addFare_137 : decode cX0_addFare 137 = .ok (.getfield 53, 3) := by decide +kernel
theorem dX0_addFare_140 : decode cX0_addFare 140 = .ok (.aload_n 1, 1) := by decide +kernel
theorem dX0_addFare_141 : decode cX0_addFare 141 = .ok (.iconst 4, 1) := by decide +kernel
theorem dX0_addFare_142 : decode cX0_addFare 142 = .ok (.iaload, 1) := by decide +kernel
theorem dX0_addFare_143 : decode cX0_addFare 143 = .ok (.iastore, 1) := by decide +kernel
theorem dX0_addFare_144 : decode cX0_addFare 144 = .ok (.aload_n 0, 1) := by decide +kernel
theorem dX0_addFare_145 : decode cX0_addFare 145 = .ok (.dup, 1) := by decide +kernel
theorem dX0_addFare_146 : decode cX0_addFare 146 = .ok (.getfield 53, 3) := by decide +kernel
theorem dX0_addFare_149 : decode cX0_addFare 149 = .ok (.iconst 1, 1) := by decide +kernel
theorem dX0_addFare_150 : decode cX0_addFare 150 = .ok (.iadd, 1) := by decide +kernel
theorem dX0_addFare_151 : decode cX0_addFare 151 = .ok (.putfield 53, 3) := by decide +kernel
theorem dX0_addFare_154 : decode cX0_addFare 154 = .ok (.iconst 1, 1) := by decide +kernel
theorem dX0_addFare_155 : decode cX0_addFare 155 = .ok (.ireturn, 1) := by decide +kernel
theorem dX0_places_0 : decode cX0_places 0 = .ok (.aload_n 0, 1) := by decide +kernel
theorem dX0_places_1 : decode cX0_places 1 = .ok (.getfield 43, 3) := by decide +kernel
theorem dX0_places_4 : decode cX0_places 4 = .ok (.aload_n 0, 1) := by decide +kernel
theorem dX0_places_5 : decode cX0_places 5 = .ok (.getfield 47, 3) := by decide +kernel
theorem dX0_places_8 : decode cX0_places 8 = .ok (.imul, 1) := by decide +kernel
theorem dX0_places_9 : decode cX0_places 9 = .ok (.ireturn, 1) := by decide +kernel
theorem dX0_hasPlace_0 : decode cX0_hasPlace 0 = .ok (.iload_n 1, 1) := by decide +kernel
theorem dX0_hasPlace_1 : decode cX0_hasPlace 1 = .ok (.iconst 0, 1) := by decide +kernel
theorem dX0_hasPlace_2 : decode cX0_hasPlace 2 = .ok (.aload_n 0, 1) := by decide +kernel
theorem dX0_hasPlace_3 : decode cX0_hasPlace 3 = .ok (.invokevirtual 64, 3) := by decide +kernel
theorem dX0_hasPlace_6 : decode cX0_hasPlace 6 = .ok (.iconst 1, 1) := by decide +kernel
theorem dX0_hasPlace_7 : decode cX0_hasPlace 7 = .ok (.isub, 1) := by decide +kernel
theorem dX0_hasPlace_8 : decode cX0_hasPlace 8 = .ok (.invokestatic 56, 3) := by decide +kernel
theorem dX0_hasPlace_11 : decode cX0_hasPlace 11 = .ok (.ireturn, 1) := by decide +kernel
theorem dX0_hasCab_0 : decode cX0_hasCab 0 = .ok (.iload_n 1, 1) := by decide +kernel
theorem dX0_hasCab_1 : decode cX0_hasCab 1 = .ok (.iconst 0, 1) := by decide +kernel
theorem dX0_hasCab_2 : decode cX0_hasCab 2 = .ok (.aload_n 0, 1) := by decide +kernel
theorem dX0_hasCab_3 : decode cX0_hasCab 3 = .ok (.getfield 50, 3) := by decide +kernel
theorem dX0_hasCab_6 : decode cX0_hasCab 6 = .ok (.iconst 1, 1) := by decide +kernel
theorem dX0_hasCab_7 : decode cX0_hasCab 7 = .ok (.isub, 1) := by decide +kernel
theorem dX0_hasCab_8 : decode cX0_hasCab 8 = .ok (.invokestatic 56, 3) := by decide +kernel
theorem dX0_hasCab_11 : decode cX0_hasCab 11 = .ok (.ireturn, 1) := by decide +kernel
theorem dX0_hasFare_0 : decode cX0_hasFare 0 = .ok (.iload_n 1, 1) := by decide +kernel
theorem dX0_hasFare_1 : decode cX0_hasFare 1 = .ok (.iconst 0, 1) := by decide +kernel
theorem dX0_hasFare_2 : decode cX0_hasFare 2 = .ok (.aload_n 0, 1) := by decide +kernel
theorem dX0_hasFare_3 : decode cX0_hasFare 3 = .ok (.getfield 53, 3) := by decide +kernel
theorem dX0_hasFare_6 : decode cX0_hasFare 6 = .ok (.iconst 1, 1) := by decide +kernel
theorem dX0_hasFare_7 : decode cX0_hasFare 7 = .ok (.isub, 1) := by decide +kernel
theorem dX0_hasFare_8 : decode cX0_hasFare 8 = .ok (.invokestatic 56, 3) := by decide +kernel
theorem dX0_hasFare_11 : decode cX0_hasFare 11 = .ok (.ireturn, 1) := by decide +kernel
theorem dX0_steps_0 : decode cX0_steps 0 = .ok (.iconst 1, 1) := by decide +kernel
theorem dX0_steps_1 : decode cX0_steps 1 = .ok (.aload_n 0, 1) := by decide +kernel
theorem dX0_steps_2 : decode cX0_steps 2 = .ok (.getfield 47, 3) := by decide +kernel
theorem dX0_steps_5 : decode cX0_steps 5 = .ok (.invokestatic 68, 3) := by decide +kernel
theorem dX0_steps_8 : decode cX0_steps 8 = .ok (.istore_n 3, 1) := by decide +kernel
theorem dX0_steps_9 : decode cX0_steps 9 = .ok (.iload_n 1, 1) := by decide +kernel
theorem dX0_steps_10 : decode cX0_steps 10 = .ok (.iload_n 3, 1) := by decide +kernel
theorem dX0_steps_11 : decode cX0_steps 11 = .ok (.idiv, 1) := by decide +kernel
theorem dX0_steps_12 : decode cX0_steps 12 = .ok (.iload_n 2, 1) := by decide +kernel
theorem dX0_steps_13 : decode cX0_steps 13 = .ok (.iload_n 3, 1) := by decide +kernel
theorem dX0_steps_14 : decode cX0_steps 14 = .ok (.idiv, 1) := by decide +kernel
theorem dX0_steps_15 : decode cX0_steps 15 = .ok (.isub, 1) := by decide +kernel
theorem dX0_steps_16 : decode cX0_steps 16 = .ok (.invokestatic 74, 3) := by decide +kernel
theorem dX0_steps_19 : decode cX0_steps 19 = .ok (.iload_n 1, 1) := by decide +kernel
theorem dX0_steps_20 : decode cX0_steps 20 = .ok (.iload_n 3, 1) := by decide +kernel
theorem dX0_steps_21 : decode cX0_steps 21 = .ok (.irem, 1) := by decide +kernel
theorem dX0_steps_22 : decode cX0_steps 22 = .ok (.iload_n 2, 1) := by decide +kernel
theorem dX0_steps_23 : decode cX0_steps 23 = .ok (.iload_n 3, 1) := by decide +kernel
theorem dX0_steps_24 : decode cX0_steps 24 = .ok (.irem, 1) := by decide +kernel
theorem dX0_steps_25 : decode cX0_steps 25 = .ok (.isub, 1) := by decide +kernel
theorem dX0_steps_26 : decode cX0_steps 26 = .ok (.invokestatic 74, 3) := by decide +kernel
theorem dX0_steps_29 : decode cX0_steps 29 = .ok (.iadd, 1) := by decide +kernel
theorem dX0_steps_30 : decode cX0_steps 30 = .ok (.ireturn, 1) := by decide +kernel
theorem dX0_reckon_0 : decode cX0_reckon 0 = .ok (.aload_n 0, 1) := by decide +kernel
theorem dX0_reckon_1 : decode cX0_reckon 1 = .ok (.aload_n 1, 1) := by decide +kernel
theorem dX0_reckon_2 : decode cX0_reckon 2 = .ok (.iload_n 2, 1) := by decide +kernel
theorem dX0_reckon_3 : decode cX0_reckon 3 = .ok (.iload_n 3, 1) := by decide +kernel
theorem dX0_reckon_4 : decode cX0_reckon 4 = .ok (.aload_n 0, 1) := by decide +kernel
theorem dX0_reckon_5 : decode cX0_reckon 5 = .ok (.getfield 9, 3) := by decide +kernel
theorem dX0_reckon_8 : decode cX0_reckon 8 = .ok (.iload_n 2, 1) := by decide +kernel
theorem dX0_reckon_9 : decode cX0_reckon 9 = .ok (.iaload, 1) := by decide +kernel
theorem dX0_reckon_10 : decode cX0_reckon 10 = .ok (.aload_n 1, 1) := by decide +kernel
theorem dX0_reckon_11 : decode cX0_reckon 11 = .ok (.getfield 78, 3) := by decide +kernel
theorem dX0_reckon_14 : decode cX0_reckon 14 = .ok (.iload_n 2, 1) := by decide +kernel
theorem dX0_reckon_15 : decode cX0_reckon 15 = .ok (.iaload, 1) := by decide +kernel
theorem dX0_reckon_16 : decode cX0_reckon 16 = .ok (.invokevirtual 83, 3) := by decide +kernel
theorem dX0_reckon_19 : decode cX0_reckon 19 = .ok (.return_, 1) := by decide +kernel
theorem dX0_reckonAs_0 : decode cX0_reckonAs 0 = .ok (.aload_n 1, 1) := by decide +kernel
theorem dX0_reckonAs_1 : decode cX0_reckonAs 1 = .ok (.getfield 87, 3) := by decide +kernel
theorem dX0_reckonAs_4 : decode cX0_reckonAs 4 = .ok (.aload_n 1, 1) := by decide +kernel
theorem dX0_reckonAs_5 : decode cX0_reckonAs 5 = .ok (.getfield 90, 3) := by decide +kernel
theorem dX0_reckonAs_8 : decode cX0_reckonAs 8 = .ok (.iload_n 2, 1) := by decide +kernel
theorem dX0_reckonAs_9 : decode cX0_reckonAs 9 = .ok (.iaload, 1) := by decide +kernel
theorem dX0_reckonAs_10 : decode cX0_reckonAs 10 = .ok (.invokestatic 68, 3) := by decide +kernel
theorem dX0_reckonAs_13 : decode cX0_reckonAs 13 = .ok (.aload_n 0, 1) := by decide +kernel
theorem dX0_reckonAs_14 : decode cX0_reckonAs 14 = .ok (.getfield 30, 3) := by decide +kernel
theorem dX0_reckonAs_17 : decode cX0_reckonAs 17 = .ok (.iload_n 3, 1) := by decide +kernel
theorem dX0_reckonAs_18 : decode cX0_reckonAs 18 = .ok (.iaload, 1) := by decide +kernel
theorem dX0_reckonAs_19 : decode cX0_reckonAs 19 = .ok (.invokestatic 68, 3) := by decide +kernel
theorem dX0_reckonAs_22 : decode cX0_reckonAs 22 = .ok (.istore 6, 2) := by decide +kernel
theorem dX0_reckonAs_24 : decode cX0_reckonAs 24 = .ok (.aload_n 0, 1) := by decide +kernel
theorem dX0_reckonAs_25 : decode cX0_reckonAs 25 = .ok (.getfield 39, 3) := by decide +kernel
theorem dX0_reckonAs_28 : decode cX0_reckonAs 28 = .ok (.iload 5, 2) := by decide +kernel
theorem dX0_reckonAs_30 : decode cX0_reckonAs 30 = .ok (.bipush (-4), 2) := by decide +kernel
theorem dX0_reckonAs_32 : decode cX0_reckonAs 32 = .ok (.if_icmp .eq 29, 3) := by decide +kernel
theorem dX0_reckonAs_35 : decode cX0_reckonAs 35 = .ok (.iload 4, 2) := by decide +kernel
theorem dX0_reckonAs_37 : decode cX0_reckonAs 37 = .ok (.iconst 2, 1) := by decide +kernel
theorem dX0_reckonAs_38 : decode cX0_reckonAs 38 = .ok (.if_icmp .ne 19, 3) := by decide +kernel
theorem dX0_reckonAs_41 : decode cX0_reckonAs 41 = .ok (.aload_n 0, 1) := by decide +kernel
theorem dX0_reckonAs_42 : decode cX0_reckonAs 42 = .ok (.aload_n 0, 1) := by decide +kernel
theorem dX0_reckonAs_43 : decode cX0_reckonAs 43 = .ok (.getfield 24, 3) := by decide +kernel
theorem dX0_reckonAs_46 : decode cX0_reckonAs 46 = .ok (.iload_n 3, 1) := by decide +kernel
theorem dX0_reckonAs_47 : decode cX0_reckonAs 47 = .ok (.iaload, 1) := by decide +kernel
theorem dX0_reckonAs_48 : decode cX0_reckonAs 48 = .ok (.iload 5, 2) := by decide +kernel
theorem dX0_reckonAs_50 : decode cX0_reckonAs 50 = .ok (.invokevirtual 93, 3) := by decide +kernel
theorem dX0_reckonAs_53 : decode cX0_reckonAs 53 = .ok (.iconst 3, 1) := by decide +kernel
theorem dX0_reckonAs_54 : decode cX0_reckonAs 54 = .ok (.if_icmp .gt 7, 3) := by decide +kernel
theorem dX0_reckonAs_57 : decode cX0_reckonAs 57 = .ok (.iconst 1, 1) := by decide +kernel
theorem dX0_reckonAs_58 : decode cX0_reckonAs 58 = .ok (.goto 4, 3) := by decide +kernel
theorem dX0_reckonAs_61 : decode cX0_reckonAs 61 = .ok (.iconst 0, 1) := by decide +kernel
theorem dX0_reckonAs_62 : decode cX0_reckonAs 62 = .ok (.putfield 96, 3) := by decide +kernel
theorem dX0_reckonAs_65 : decode cX0_reckonAs 65 = .ok (.aload_n 0, 1) := by decide +kernel
theorem dX0_reckonAs_66 : decode cX0_reckonAs 66 = .ok (.aload_n 0, 1) := by decide +kernel
theorem dX0_reckonAs_67 : decode cX0_reckonAs 67 = .ok (.getfield 24, 3) := by decide +kernel
theorem dX0_reckonAs_70 : decode cX0_reckonAs 70 = .ok (.iload_n 3, 1) := by decide +kernel
theorem dX0_reckonAs_71 : decode cX0_reckonAs 71 = .ok (.iaload, 1) := by decide +kernel
theorem dX0_reckonAs_72 : decode cX0_reckonAs 72 = .ok (.aload_n 0, 1) := by decide +kernel
theorem dX0_reckonAs_73 : decode cX0_reckonAs 73 = .ok (.getfield 27, 3) := by decide +kernel
theorem dX0_reckonAs_76 : decode cX0_reckonAs 76 = .ok (.iload_n 3, 1) := by decide +kernel
theorem dX0_reckonAs_77 : decode cX0_reckonAs 77 = .ok (.iaload, 1) := by decide +kernel
theorem dX0_reckonAs_78 : decode cX0_reckonAs 78 = .ok (.invokevirtual 93, 3) := by decide +kernel
theorem dX0_reckonAs_81 : decode cX0_reckonAs 81 = .ok (.istore 7, 2) := by decide +kernel
theorem dX0_reckonAs_83 : decode cX0_reckonAs 83 = .ok (.aload_n 0, 1) := by decide +kernel
theorem dX0_reckonAs_84 : decode cX0_reckonAs 84 = .ok (.getfield 39, 3) := by decide +kernel
theorem dX0_reckonAs_87 : decode cX0_reckonAs 87 = .ok (.getfield 96, 3) := by decide +kernel
theorem dX0_reckonAs_90 : decode cX0_reckonAs 90 = .ok (.ifCond .eq 46, 3) := by decide +kernel
theorem dX0_reckonAs_93 : decode cX0_reckonAs 93 = .ok (.iload 4, 2) := by decide +kernel
theorem dX0_reckonAs_95 : decode cX0_reckonAs 95 = .ok (.iconst 1, 1) := by decide +kernel
theorem dX0_reckonAs_96 : decode cX0_reckonAs 96 = .ok (.if_icmp .ne 7, 3) := by decide +kernel
theorem dX0_reckonAs_99 : decode cX0_reckonAs 99 = .ok (.iconst 3, 1) := by decide +kernel
theorem dX0_reckonAs_100 : decode cX0_reckonAs 100 = .ok (.goto 4, 3) := by decide +kernel
theorem dX0_reckonAs_103 : decode cX0_reckonAs 103 = .ok (.iconst 1, 1) := by decide +kernel
theorem dX0_reckonAs_104 : decode cX0_reckonAs 104 = .ok (.istore 8, 2) := by decide +kernel
theorem dX0_reckonAs_106 : decode cX0_reckonAs 106 = .ok (.aload_n 0, 1) := by decide +kernel
theorem dX0_reckonAs_107 : decode cX0_reckonAs 107 = .ok (.aload_n 0, 1) := by decide +kernel
theorem dX0_reckonAs_108 : decode cX0_reckonAs 108 = .ok (.getfield 24, 3) := by decide +kernel
theorem dX0_reckonAs_111 : decode cX0_reckonAs 111 = .ok (.iload_n 3, 1) := by decide +kernel
theorem dX0_reckonAs_112 : decode cX0_reckonAs 112 = .ok (.iaload, 1) := by decide +kernel
theorem dX0_reckonAs_113 : decode cX0_reckonAs 113 = .ok (.iload 5, 2) := by decide +kernel
theorem dX0_reckonAs_115 : decode cX0_reckonAs 115 = .ok (.invokevirtual 93, 3) := by decide +kernel
theorem dX0_reckonAs_118 : decode cX0_reckonAs 118 = .ok (.iload 8, 2) := by decide +kernel
theorem dX0_reckonAs_120 : decode cX0_reckonAs 120 = .ok (.iadd, 1) := by decide +kernel
theorem dX0_reckonAs_121 : decode cX0_reckonAs 121 = .ok (.aload_n 0, 1) := by decide +kernel
theorem dX0_reckonAs_122 : decode cX0_reckonAs 122 = .ok (.iload 5, 2) := by decide +kernel
theorem dX0_reckonAs_124 : decode cX0_reckonAs 124 = .ok (.aload_n 0, 1) := by decide +kernel
theorem dX0_reckonAs_125 : decode cX0_reckonAs 125 = .ok (.getfield 27, 3) := by decide +kernel
theorem dX0_reckonAs_128 : decode cX0_reckonAs 128 = .ok (.iload_n 3, 1) := by decide +kernel
theorem dX0_reckonAs_129 : decode cX0_reckonAs 129 = .ok (.iaload, 1) := by decide +kernel
theorem dX0_reckonAs_130 : decode cX0_reckonAs 130 = .ok (.invokevirtual 93, 3) := by decide +kernel
theorem dX0_reckonAs_133 : decode cX0_reckonAs 133 = .ok (.iadd, 1) := by decide +kernel
theorem dX0_reckonAs_134 : decode cX0_reckonAs 134 = .ok (.istore 7, 2) := by decide +kernel
theorem dX0_reckonAs_136 : decode cX0_reckonAs 136 = .ok (.aload_n 0, 1) := by decide +kernel
theorem dX0_reckonAs_137 : decode cX0_reckonAs 137 = .ok (.getfield 39, 3) := by decide +kernel
theorem dX0_reckonAs_140 : decode cX0_reckonAs 140 = .ok (.iload 6, 2) := by decide +kernel
theorem dX0_reckonAs_142 : decode cX0_reckonAs 142 = .ok (.aload_n 0, 1) := by decide +kernel
theorem dX0_reckonAs_143 : decode cX0_reckonAs 143 = .ok (.aload_n 1, 1) := by decide +kernel
theorem dX0_reckonAs_144 : decode cX0_reckonAs 144 = .ok (.getfield 100, 3) := by decide +kernel
theorem dX0_reckonAs_147 : decode cX0_reckonAs 147 = .ok (.iload_n 2, 1) := by decide +kernel
theorem dX0_reckonAs_148 : decode cX0_reckonAs 148 = .ok (.iaload, 1) := by decide +kernel
theorem dX0_reckonAs_149 : decode cX0_reckonAs 149 = .ok (.aload_n 0, 1) := by decide +kernel
theorem dX0_reckonAs_150 : decode cX0_reckonAs 150 = .ok (.getfield 24, 3) := by decide +kernel
theorem dX0_reckonAs_153 : decode cX0_reckonAs 153 = .ok (.iload_n 3, 1) := by decide +kernel
theorem dX0_reckonAs_154 : decode cX0_reckonAs 154 = .ok (.iaload, 1) := by decide +kernel
theorem dX0_reckonAs_155 : decode cX0_reckonAs 155 = .ok (.invokevirtual 93, 3) := by decide +kernel
theorem dX0_reckonAs_158 : decode cX0_reckonAs 158 = .ok (.iadd, 1) := by decide +kernel
theorem dX0_reckonAs_159 : decode cX0_reckonAs 159 = .ok (.iload 7, 2) := by decide +kernel
theorem dX0_reckonAs_161 : decode cX0_reckonAs 161 = .ok (.iadd, 1) := by decide +kernel
theorem dX0_reckonAs_162 : decode cX0_reckonAs 162 = .ok (.putfield 103, 3) := by decide +kernel
theorem dX0_reckonAs_165 : decode cX0_reckonAs 165 = .ok (.aload_n 0, 1) := by decide +kernel
theorem dX0_reckonAs_166 : decode cX0_reckonAs 166 = .ok (.getfield 39, 3) := by decide +kernel
theorem dX0_reckonAs_169 : decode cX0_reckonAs 169 = .ok (.aload_n 0, 1) := by decide +kernel
theorem dX0_reckonAs_170 : decode cX0_reckonAs 170 = .ok (.getfield 39, 3) := by decide +kernel
theorem dX0_reckonAs_173 : decode cX0_reckonAs 173 = .ok (.getfield 103, 3) := by decide +kernel
theorem dX0_reckonAs_176 : decode cX0_reckonAs 176 = .ok (.aload_n 0, 1) := by decide +kernel
theorem dX0_reckonAs_177 : decode cX0_reckonAs 177 = .ok (.getfield 30, 3) := by decide +kernel
theorem dX0_reckonAs_180 : decode cX0_reckonAs 180 = .ok (.iload_n 3, 1) := by decide +kernel
theorem dX0_reckonAs_181 : decode cX0_reckonAs 181 = .ok (.iaload, 1) := by decide +kernel
theorem dX0_reckonAs_182 : decode cX0_reckonAs 182 = .ok (.isub, 1) := by decide +kernel
theorem dX0_reckonAs_183 : decode cX0_reckonAs 183 = .ok (.putfield 105, 3) := by decide +kernel
theorem dX0_reckonAs_186 : decode cX0_reckonAs 186 = .ok (.aload_n 0, 1) := by decide +kernel
theorem dX0_reckonAs_187 : decode cX0_reckonAs 187 = .ok (.getfield 39, 3) := by decide +kernel
theorem dX0_reckonAs_190 : decode cX0_reckonAs 190 = .ok (.aload_n 0, 1) := by decide +kernel
theorem dX0_reckonAs_191 : decode cX0_reckonAs 191 = .ok (.getfield 21, 3) := by decide +kernel
theorem dX0_reckonAs_194 : decode cX0_reckonAs 194 = .ok (.iload_n 3, 1) := by decide +kernel
theorem dX0_reckonAs_195 : decode cX0_reckonAs 195 = .ok (.iaload, 1) := by decide +kernel
theorem dX0_reckonAs_196 : decode cX0_reckonAs 196 = .ok (.iconst 1, 1) := by decide +kernel
theorem dX0_reckonAs_197 : decode cX0_reckonAs 197 = .ok (.if_icmp .eq 28, 3) := by decide +kernel
theorem dX0_reckonAs_200 : decode cX0_reckonAs 200 = .ok (.aload_n 0, 1) := by decide +kernel
theorem dX0_reckonAs_201 : decode cX0_reckonAs 201 = .ok (.getfield 21, 3) := by decide +kernel
theorem dX0_reckonAs_204 : decode cX0_reckonAs 204 = .ok (.iload_n 3, 1) := by decide +kernel
theorem dX0_reckonAs_205 : decode cX0_reckonAs 205 = .ok (.iaload, 1) := by decide +kernel
theorem dX0_reckonAs_206 : decode cX0_reckonAs 206 = .ok (.ifCond .ne 23, 3) := by decide +kernel
theorem dX0_reckonAs_209 : decode cX0_reckonAs 209 = .ok (.aload_n 0, 1) := by decide +kernel
theorem dX0_reckonAs_210 : decode cX0_reckonAs 210 = .ok (.getfield 39, 3) := by decide +kernel
theorem dX0_reckonAs_213 : decode cX0_reckonAs 213 = .ok (.getfield 105, 3) := by decide +kernel
theorem dX0_reckonAs_216 : decode cX0_reckonAs 216 = .ok (.aload_n 0, 1) := by decide +kernel
theorem dX0_reckonAs_217 : decode cX0_reckonAs 217 = .ok (.getfield 33, 3) := by decide +kernel
theorem dX0_reckonAs_220 : decode cX0_reckonAs 220 = .ok (.iload_n 3, 1) := by decide +kernel
theorem dX0_reckonAs_221 : decode cX0_reckonAs 221 = .ok (.iaload, 1) := by decide +kernel
theorem dX0_reckonAs_222 : decode cX0_reckonAs 222 = .ok (.if_icmp .le 7, 3) := by decide +kernel
theorem dX0_reckonAs_225 : decode cX0_reckonAs 225 = .ok (.iconst 1, 1) := by decide +kernel
theorem dX0_reckonAs_226 : decode cX0_reckonAs 226 = .ok (.goto 4, 3) := by decide +kernel
theorem dX0_reckonAs_229 : decode cX0_reckonAs 229 = .ok (.iconst 0, 1) := by decide +kernel
theorem dX0_reckonAs_230 : decode cX0_reckonAs 230 = .ok (.putfield 108, 3) := by decide +kernel
theorem dX0_reckonAs_233 : decode cX0_reckonAs 233 = .ok (.return_, 1) := by decide +kernel
theorem dX0_nearest_0 : decode cX0_nearest 0 = .ok (.iconst 0, 1) := by decide +kernel
theorem dX0_nearest_1 : decode cX0_nearest 1 = .ok (.istore_n 3, 1) := by decide +kernel
theorem dX0_nearest_2 : decode cX0_nearest 2 = .ok (.iconst 0, 1) := by decide +kernel
theorem dX0_nearest_3 : decode cX0_nearest 3 = .ok (.istore 4, 2) := by decide +kernel
theorem dX0_nearest_5 : decode cX0_nearest 5 = .ok (.iconst 0, 1) := by decide +kernel
theorem dX0_nearest_6 : decode cX0_nearest 6 = .ok (.istore 5, 2) := by decide +kernel
theorem dX0_nearest_8 : decode cX0_nearest 8 = .ok (.iload 5, 2) := by decide +kernel
theorem dX0_nearest_10 : decode cX0_nearest 10 = .ok (.aload_n 0, 1) := by decide +kernel
theorem dX0_nearest_11 : decode cX0_nearest 11 = .ok (.getfield 50, 3) := by decide +kernel
theorem dX0_nearest_14 : decode cX0_nearest 14 = .ok (.if_icmp .ge 60, 3) := by decide +kernel
theorem dX0_nearest_17 : decode cX0_nearest 17 = .ok (.aload_n 0, 1) := by decide +kernel
theorem dX0_nearest_18 : decode cX0_nearest 18 = .ok (.aload_n 1, 1) := by decide +kernel
theorem dX0_nearest_19 : decode cX0_nearest 19 = .ok (.iload 5, 2) := by decide +kernel
theorem dX0_nearest_21 : decode cX0_nearest 21 = .ok (.iload_n 2, 1) := by decide +kernel
theorem dX0_nearest_22 : decode cX0_nearest 22 = .ok (.aload_n 0, 1) := by decide +kernel
theorem dX0_nearest_23 : decode cX0_nearest 23 = .ok (.getfield 9, 3) := by decide +kernel
theorem dX0_nearest_26 : decode cX0_nearest 26 = .ok (.iload 5, 2) := by decide +kernel
theorem dX0_nearest_28 : decode cX0_nearest 28 = .ok (.iaload, 1) := by decide +kernel
theorem dX0_nearest_29 : decode cX0_nearest 29 = .ok (.aload_n 1, 1) := by decide +kernel
theorem dX0_nearest_30 : decode cX0_nearest 30 = .ok (.getfield 78, 3) := by decide +kernel
theorem dX0_nearest_33 : decode cX0_nearest 33 = .ok (.iload 5, 2) := by decide +kernel
theorem dX0_nearest_35 : decode cX0_nearest 35 = .ok (.iaload, 1) := by decide +kernel
theorem dX0_nearest_36 : decode cX0_nearest 36 = .ok (.invokevirtual 83, 3) := by decide +kernel
theorem dX0_nearest_39 : decode cX0_nearest 39 = .ok (.iload 5, 2) := by decide +kernel
theorem dX0_nearest_41 : decode cX0_nearest 41 = .ok (.ifCond .eq 15, 3) := by decide +kernel
theorem dX0_nearest_44 : decode cX0_nearest 44 = .ok (.aload_n 0, 1) := by decide +kernel
theorem dX0_nearest_45 : decode cX0_nearest 45 = .ok (.getfield 39, 3) := by decide +kernel
theorem dX0_nearest_48 : decode cX0_nearest 48 = .ok (.getfield 105, 3) := by decide +kernel
theorem dX0_nearest_51 : decode cX0_nearest 51 = .ok (.iload 4, 2) := by decide +kernel
theorem dX0_nearest_53 : decode cX0_nearest 53 = .ok (.if_icmp .ge 15, 3) := by decide +kernel
theorem dX0_nearest_56 : decode cX0_nearest 56 = .ok (.iload 5, 2) := by decide +kernel
theorem dX0_nearest_58 : decode cX0_nearest 58 = .ok (.istore_n 3, 1) := by decide +kernel
theorem dX0_nearest_59 : decode cX0_nearest 59 = .ok (.aload_n 0, 1) := by decide +kernel
theorem dX0_nearest_60 : decode cX0_nearest 60 = .ok (.getfield 39, 3) := by decide +kernel
theorem dX0_nearest_63 : decode cX0_nearest 63 = .ok (.getfield 105, 3) := by decide +kernel
theorem dX0_nearest_66 : decode cX0_nearest 66 = .ok (.istore 4, 2) := by decide +kernel
theorem dX0_nearest_68 : decode cX0_nearest 68 = .ok (.iinc 5 1, 3) := by decide +kernel
theorem dX0_nearest_71 : decode cX0_nearest 71 = .ok (.goto (-63), 3) := by decide +kernel
theorem dX0_nearest_74 : decode cX0_nearest 74 = .ok (.iload_n 3, 1) := by decide +kernel
theorem dX0_nearest_75 : decode cX0_nearest 75 = .ok (.ireturn, 1) := by decide +kernel
theorem dX0_settle_0 : decode cX0_settle 0 = .ok (.aload_n 1, 1) := by decide +kernel
theorem dX0_settle_1 : decode cX0_settle 1 = .ok (.getfield 100, 3) := by decide +kernel
theorem dX0_settle_4 : decode cX0_settle 4 = .ok (.iload_n 2, 1) := by decide +kernel
theorem dX0_settle_5 : decode cX0_settle 5 = .ok (.aload_n 0, 1) := by decide +kernel
theorem dX0_settle_6 : decode cX0_settle 6 = .ok (.getfield 27, 3) := by decide +kernel
theorem dX0_settle_9 : decode cX0_settle 9 = .ok (.iload_n 3, 1) := by decide +kernel
theorem dX0_settle_10 : decode cX0_settle 10 = .ok (.iaload, 1) := by decide +kernel
theorem dX0_settle_11 : decode cX0_settle 11 = .ok (.iastore, 1) := by decide +kernel
theorem dX0_settle_12 : decode cX0_settle 12 = .ok (.aload_n 1, 1) := by decide +kernel
theorem dX0_settle_13 : decode cX0_settle 13 = .ok (.getfield 90, 3) := by decide +kernel
theorem dX0_settle_16 : decode cX0_settle 16 = .ok (.iload_n 2, 1) := by decide +kernel
theorem dX0_settle_17 : decode cX0_settle 17 = .ok (.aload_n 0, 1) := by decide +kernel
theorem dX0_settle_18 : decode cX0_settle 18 = .ok (.getfield 39, 3) := by decide +kernel
theorem dX0_settle_21 : decode cX0_settle 21 = .ok (.getfield 103, 3) := by decide +kernel
theorem dX0_settle_24 : decode cX0_settle 24 = .ok (.iastore, 1) := by decide +kernel
theorem dX0_settle_25 : decode cX0_settle 25 = .ok (.aload_n 1, 1) := by decide +kernel
theorem dX0_settle_26 : decode cX0_settle 26 = .ok (.getfield 111, 3) := by decide +kernel
theorem dX0_settle_29 : decode cX0_settle 29 = .ok (.iload_n 3, 1) := by decide +kernel
theorem dX0_settle_30 : decode cX0_settle 30 = .ok (.aload_n 0, 1) := by decide +kernel
theorem dX0_settle_31 : decode cX0_settle 31 = .ok (.getfield 39, 3) := by decide +kernel
theorem dX0_settle_34 : decode cX0_settle 34 = .ok (.getfield 105, 3) := by decide +kernel
theorem dX0_settle_37 : decode cX0_settle 37 = .ok (.iastore, 1) := by decide +kernel
theorem dX0_settle_38 : decode cX0_settle 38 = .ok (.aload_n 1, 1) := by decide +kernel
theorem dX0_settle_39 : decode cX0_settle 39 = .ok (.getfield 113, 3) := by decide +kernel
theorem dX0_settle_42 : decode cX0_settle 42 = .ok (.iload_n 3, 1) := by decide +kernel
theorem dX0_settle_43 : decode cX0_settle 43 = .ok (.iload 4, 2) := by decide +kernel
theorem dX0_settle_45 : decode cX0_settle 45 = .ok (.ifCond .eq 7, 3) := by decide +kernel
theorem dX0_settle_48 : decode cX0_settle 48 = .ok (.iconst 1, 1) := by decide +kernel
theorem dX0_settle_49 : decode cX0_settle 49 = .ok (.goto 4, 3) := by decide +kernel
theorem dX0_settle_52 : decode cX0_settle 52 = .ok (.iconst 0, 1) := by decide +kernel
theorem dX0_settle_53 : decode cX0_settle 53 = .ok (.iastore, 1) := by decide +kernel
theorem dX0_settle_54 : decode cX0_settle 54 = .ok (.aload_n 0, 1) := by decide +kernel
theorem dX0_settle_55 : decode cX0_settle 55 = .ok (.getfield 21, 3) := by decide +kernel
theorem dX0_settle_58 : decode cX0_settle 58 = .ok (.iload_n 3, 1) := by decide +kernel
theorem dX0_settle_59 : decode cX0_settle 59 = .ok (.iaload, 1) := by decide +kernel
theorem dX0_settle_60 : decode cX0_settle 60 = .ok (.iconst 3, 1) := by decide +kernel
theorem dX0_settle_61 : decode cX0_settle 61 = .ok (.if_icmp .ne 24, 3) := by decide +kernel
theorem dX0_settle_64 : decode cX0_settle 64 = .ok (.aload_n 0, 1) := by decide +kernel
theorem dX0_settle_65 : decode cX0_settle 65 = .ok (.getfield 39, 3) := by decide +kernel
theorem dX0_settle_68 : decode cX0_settle 68 = .ok (.getfield 96, 3) := by decide +kernel
theorem dX0_settle_71 : decode cX0_settle 71 = .ok (.ifCond .eq 14, 3) := by decide +kernel
theorem dX0_settle_74 : decode cX0_settle 74 = .ok (.aload_n 1, 1) := by decide +kernel
theorem dX0_settle_75 : decode cX0_settle 75 = .ok (.getfield 78, 3) := by decide +kernel
theorem dX0_settle_78 : decode cX0_settle 78 = .ok (.iload_n 2, 1) := by decide +kernel
theorem dX0_settle_79 : decode cX0_settle 79 = .ok (.bipush (-4), 2) := by decide +kernel
theorem dX0_settle_81 : decode cX0_settle 81 = .ok (.iastore, 1) := by decide +kernel
theorem dX0_settle_82 : decode cX0_settle 82 = .ok (.goto 20, 3) := by decide +kernel
theorem dX0_settle_85 : decode cX0_settle 85 = .ok (.iload 4, 2) := by decide +kernel
theorem dX0_settle_87 : decode cX0_settle 87 = .ok (.ifCond .eq 15, 3) := by decide +kernel
theorem dX0_settle_90 : decode cX0_settle 90 = .ok (.aload_n 1, 1) := by decide +kernel
theorem dX0_settle_91 : decode cX0_settle 91 = .ok (.getfield 78, 3) := by decide +kernel
theorem dX0_settle_94 : decode cX0_settle 94 = .ok (.iload_n 2, 1) := by decide +kernel
theorem dX0_settle_95 : decode cX0_settle 95 = .ok (.aload_n 0, 1) := by decide +kernel
theorem dX0_settle_96 : decode cX0_settle 96 = .ok (.getfield 27, 3) := by decide +kernel
theorem dX0_settle_99 : decode cX0_settle 99 = .ok (.iload_n 3, 1) := by decide +kernel
theorem dX0_settle_100 : decode cX0_settle 100 = .ok (.iaload, 1) := by decide +kernel
theorem dX0_settle_101 : decode cX0_settle 101 = .ok (.iastore, 1) := by decide +kernel
theorem dX0_settle_102 : decode cX0_settle 102 = .ok (.return_, 1) := by decide +kernel
theorem dX0_drive_0 : decode cX0_drive 0 = .ok (.aload_n 0, 1) := by decide +kernel
theorem dX0_drive_1 : decode cX0_drive 1 = .ok (.aload_n 1, 1) := by decide +kernel
theorem dX0_drive_2 : decode cX0_drive 2 = .ok (.iload_n 2, 1) := by decide +kernel
theorem dX0_drive_3 : decode cX0_drive 3 = .ok (.iload_n 3, 1) := by decide +kernel
theorem dX0_drive_4 : decode cX0_drive 4 = .ok (.invokevirtual 116, 3) := by decide +kernel
theorem dX0_drive_7 : decode cX0_drive 7 = .ok (.aload_n 0, 1) := by decide +kernel
theorem dX0_drive_8 : decode cX0_drive 8 = .ok (.getfield 39, 3) := by decide +kernel
theorem dX0_drive_11 : decode cX0_drive 11 = .ok (.getfield 108, 3) := by decide +kernel
theorem dX0_drive_14 : decode cX0_drive 14 = .ok (.istore 4, 2) := by decide +kernel
theorem dX0_drive_16 : decode cX0_drive 16 = .ok (.aload_n 0, 1) := by decide +kernel
theorem dX0_drive_17 : decode cX0_drive 17 = .ok (.aload_n 1, 1) := by decide +kernel
theorem dX0_drive_18 : decode cX0_drive 18 = .ok (.iload_n 2, 1) := by decide +kernel
theorem dX0_drive_19 : decode cX0_drive 19 = .ok (.iload_n 3, 1) := by decide +kernel
theorem dX0_drive_20 : decode cX0_drive 20 = .ok (.iload 4, 2) := by decide +kernel
theorem dX0_drive_22 : decode cX0_drive 22 = .ok (.invokevirtual 120, 3) := by decide +kernel
theorem dX0_drive_25 : decode cX0_drive 25 = .ok (.iload 4, 2) := by decide +kernel
theorem dX0_drive_27 : decode cX0_drive 27 = .ok (.ireturn, 1) := by decide +kernel
theorem dX0_driveSoonest_0 : decode cX0_driveSoonest 0 = .ok (.aload_n 0, 1) := by decide +kernel
theorem dX0_driveSoonest_1 : decode cX0_driveSoonest 1 = .ok (.aload_n 1, 1) := by decide +kernel
theorem dX0_driveSoonest_2 : decode cX0_driveSoonest 2 = .ok (.aload_n 0, 1) := by decide +kernel
theorem dX0_driveSoonest_3 : decode cX0_driveSoonest 3 = .ok (.aload_n 1, 1) := by decide +kernel
theorem dX0_driveSoonest_4 : decode cX0_driveSoonest 4 = .ok (.iload_n 2, 1) := by decide +kernel
theorem dX0_driveSoonest_5 : decode cX0_driveSoonest 5 = .ok (.invokevirtual 124, 3) := by decide +kernel
theorem dX0_driveSoonest_8 : decode cX0_driveSoonest 8 = .ok (.iload_n 2, 1) := by decide +kernel
theorem dX0_driveSoonest_9 : decode cX0_driveSoonest 9 = .ok (.invokevirtual 128, 3) := by decide +kernel
theorem dX0_driveSoonest_12 : decode cX0_driveSoonest 12 = .ok (.ireturn, 1) := by decide +kernel
theorem dX0_move_0 : decode cX0_move 0 = .ok (.aload_n 1, 1) := by decide +kernel
theorem dX0_move_1 : decode cX0_move 1 = .ok (.getfield 90, 3) := by decide +kernel
theorem dX0_move_4 : decode cX0_move 4 = .ok (.iload_n 2, 1) := by decide +kernel
theorem dX0_move_5 : decode cX0_move 5 = .ok (.aload_n 1, 1) := by decide +kernel
theorem dX0_move_6 : decode cX0_move 6 = .ok (.getfield 87, 3) := by decide +kernel
theorem dX0_move_9 : decode cX0_move 9 = .ok (.aload_n 1, 1) := by decide +kernel
theorem dX0_move_10 : decode cX0_move 10 = .ok (.getfield 90, 3) := by decide +kernel
theorem dX0_move_13 : decode cX0_move 13 = .ok (.iload_n 2, 1) := by decide +kernel
theorem dX0_move_14 : decode cX0_move 14 = .ok (.iaload, 1) := by decide +kernel
theorem dX0_move_15 : decode cX0_move 15 = .ok (.invokestatic 68, 3) := by decide +kernel
theorem dX0_move_18 : decode cX0_move 18 = .ok (.aload_n 0, 1) := by decide +kernel
theorem dX0_move_19 : decode cX0_move 19 = .ok (.aload_n 1, 1) := by decide +kernel
theorem dX0_move_20 : decode cX0_move 20 = .ok (.getfield 100, 3) := by decide +kernel
theorem dX0_move_23 : decode cX0_move 23 = .ok (.iload_n 2, 1) := by decide +kernel
theorem dX0_move_24 : decode cX0_move 24 = .ok (.iaload, 1) := by decide +kernel
theorem dX0_move_25 : decode cX0_move 25 = .ok (.iload_n 3, 1) := by decide +kernel
theorem dX0_move_26 : decode cX0_move 26 = .ok (.invokevirtual 93, 3) := by decide +kernel
theorem dX0_move_29 : decode cX0_move 29 = .ok (.iadd, 1) := by decide +kernel
theorem dX0_move_30 : decode cX0_move 30 = .ok (.iastore, 1) := by decide +kernel
theorem dX0_move_31 : decode cX0_move 31 = .ok (.aload_n 1, 1) := by decide +kernel
theorem dX0_move_32 : decode cX0_move 32 = .ok (.getfield 100, 3) := by decide +kernel
theorem dX0_move_35 : decode cX0_move 35 = .ok (.iload_n 2, 1) := by decide +kernel
theorem dX0_move_36 : decode cX0_move 36 = .ok (.iload_n 3, 1) := by decide +kernel
theorem dX0_move_37 : decode cX0_move 37 = .ok (.iastore, 1) := by decide +kernel
theorem dX0_move_38 : decode cX0_move 38 = .ok (.return_, 1) := by decide +kernel
theorem dX1_init_0 : decode cX1_init 0 = .ok (.aload_n 0, 1) := by decide +kernel
theorem dX1_init_1 : decode cX1_init 1 = .ok (.invokespecial 3, 3) := by decide +kernel
theorem dX1_init_4 : decode cX1_init 4 = .ok (.aload_n 0, 1) := by decide +kernel
theorem dX1_init_5 : decode cX1_init 5 = .ok (.iconst 5, 1) := by decide +kernel
theorem dX1_init_6 : decode cX1_init 6 = .ok (.anewarray 9, 3) := by decide +kernel
theorem dX1_init_9 : decode cX1_init 9 = .ok (.putfield 11, 3) := by decide +kernel
theorem dX1_init_12 : decode cX1_init 12 = .ok (.iconst 0, 1) := by decide +kernel
theorem dX1_init_13 : decode cX1_init 13 = .ok (.istore_n 1, 1) := by decide +kernel
theorem dX1_init_14 : decode cX1_init 14 = .ok (.iload_n 1, 1) := by decide +kernel
theorem dX1_init_15 : decode cX1_init 15 = .ok (.aload_n 0, 1) := by decide +kernel
theorem dX1_init_16 : decode cX1_init 16 = .ok (.getfield 11, 3) := by decide +kernel
theorem dX1_init_19 : decode cX1_init 19 = .ok (.arraylength, 1) := by decide +kernel
theorem dX1_init_20 : decode cX1_init 20 = .ok (.if_icmp .ge 22, 3) := by decide +kernel
theorem dX1_init_23 : decode cX1_init 23 = .ok (.aload_n 0, 1) := by decide +kernel
theorem dX1_init_24 : decode cX1_init 24 = .ok (.getfield 11, 3) := by decide +kernel
theorem dX1_init_27 : decode cX1_init 27 = .ok (.iload_n 1, 1) := by decide +kernel
theorem dX1_init_28 : decode cX1_init 28 = .ok (.new 9, 3) := by decide +kernel
theorem dX1_init_31 : decode cX1_init 31 = .ok (.dup, 1) := by decide +kernel
theorem dX1_init_32 : decode cX1_init 32 = .ok (.invokespecial 17, 3) := by decide +kernel
theorem dX1_init_35 : decode cX1_init 35 = .ok (.aastore, 1) := by decide +kernel
theorem dX1_init_36 : decode cX1_init 36 = .ok (.iinc 1 1, 3) := by decide +kernel
theorem dX1_init_39 : decode cX1_init 39 = .ok (.goto (-25), 3) := by decide +kernel
theorem dX1_init_42 : decode cX1_init 42 = .ok (.return_, 1) := by decide +kernel
theorem dX1_fight_0 : decode cX1_fight 0 = .ok (.aload_n 0, 1) := by decide +kernel
theorem dX1_fight_1 : decode cX1_fight 1 = .ok (.getfield 11, 3) := by decide +kernel
theorem dX1_fight_4 : decode cX1_fight 4 = .ok (.iconst 0, 1) := by decide +kernel
theorem dX1_fight_5 : decode cX1_fight 5 = .ok (.aaload, 1) := by decide +kernel
theorem dX1_fight_6 : decode cX1_fight 6 = .ok (.aload_n 2, 1) := by decide +kernel
theorem dX1_fight_7 : decode cX1_fight 7 = .ok (.invokevirtual 18, 3) := by decide +kernel
theorem dX1_fight_10 : decode cX1_fight 10 = .ok (.aload_n 0, 1) := by decide +kernel
theorem dX1_fight_11 : decode cX1_fight 11 = .ok (.iload_n 3, 1) := by decide +kernel
theorem dX1_fight_12 : decode cX1_fight 12 = .ok (.putfield 22, 3) := by decide +kernel
theorem dX1_fight_15 : decode cX1_fight 15 = .ok (.aload_n 0, 1) := by decide +kernel
theorem dX1_fight_16 : decode cX1_fight 16 = .ok (.iload 4, 2) := by decide +kernel
theorem dX1_fight_18 : decode cX1_fight 18 = .ok (.putfield 26, 3) := by decide +kernel
theorem dX1_fight_21 : decode cX1_fight 21 = .ok (.aload_n 0, 1) := by decide +kernel
theorem dX1_fight_22 : decode cX1_fight 22 = .ok (.iload 5, 2) := by decide +kernel
theorem dX1_fight_24 : decode cX1_fight 24 = .ok (.iconst 4, 1) := by decide +kernel
theorem dX1_fight_25 : decode cX1_fight 25 = .ok (.invokestatic 29, 3) := by decide +kernel
theorem dX1_fight_28 : decode cX1_fight 28 = .ok (.aload_n 1, 1) := by decide +kernel
theorem dX1_fight_29 : decode cX1_fight 29 = .ok (.aload_n 2, 1) := by decide +kernel
theorem dX1_fight_30 : decode cX1_fight 30 = .ok (.invokestatic 35, 3) := by decide +kernel
theorem dX1_fight_33 : decode cX1_fight 33 = .ok (.invokestatic 29, 3) := by decide +kernel
theorem dX1_fight_36 : decode cX1_fight 36 = .ok (.putfield 39, 3) := by decide +kernel
theorem dX1_fight_39 : decode cX1_fight 39 = .ok (.aload_n 0, 1) := by decide +kernel
theorem dX1_fight_40 : decode cX1_fight 40 = .ok (.bipush (-4), 2) := by decide +kernel
theorem dX1_fight_42 : decode cX1_fight 42 = .ok (.putfield 42, 3) := by decide +kernel
theorem dX1_fight_45 : decode cX1_fight 45 = .ok (.aload_n 0, 1) := by decide +kernel
theorem dX1_fight_46 : decode cX1_fight 46 = .ok (.aload_n 0, 1) := by decide +kernel
theorem dX1_fight_47 : decode cX1_fight 47 = .ok (.aload_n 1, 1) := by decide +kernel
theorem dX1_fight_48 : decode cX1_fight 48 = .ok (.iconst 0, 1) := by decide +kernel
theorem dX1_fight_49 : decode cX1_fight 49 = .ok (.invokestatic 45, 3) := by decide +kernel
theorem dX1_fight_52 : decode cX1_fight 52 = .ok (.putfield 49, 3) := by decide +kernel
theorem dX1_fight_55 : decode cX1_fight 55 = .ok (.return_, 1) := by decide +kernel
theorem dX1_play_0 : decode cX1_play 0 = .ok (.iload_n 2, 1) := by decide +kernel
theorem dX1_play_1 : decode cX1_play 1 = .ok (.aload_n 0, 1) := by decide +kernel
theorem dX1_play_2 : decode cX1_play 2 = .ok (.getfield 39, 3) := by decide +kernel
theorem dX1_play_5 : decode cX1_play 5 = .ok (.if_icmp .ge 8, 3) := by decide +kernel
theorem dX1_play_8 : decode cX1_play 8 = .ok (.iload_n 2, 1) := by decide +kernel
theorem dX1_play_9 : decode cX1_play 9 = .ok (.iconst 4, 1) := by decide +kernel
theorem dX1_play_10 : decode cX1_play 10 = .ok (.if_icmp .lt 5, 3) := by decide +kernel
theorem dX1_play_13 : decode cX1_play 13 = .ok (.iconst 0, 1) := by decide +kernel
theorem dX1_play_14 : decode cX1_play 14 = .ok (.ireturn, 1) := by decide +kernel
theorem dX1_play_15 : decode cX1_play 15 = .ok (.iload_n 2, 1) := by decide +kernel
theorem dX1_play_16 : decode cX1_play 16 = .ok (.iconst 2, 1) := by decide +kernel
theorem dX1_play_17 : decode cX1_play 17 = .ok (.irem, 1) := by decide +kernel
theorem dX1_play_18 : decode cX1_play 18 = .ok (.ifCond .ne 7, 3) := by decide +kernel
theorem dX1_play_21 : decode cX1_play 21 = .ok (.iconst 1, 1) := by decide +kernel
theorem dX1_play_22 : decode cX1_play 22 = .ok (.goto 4, 3) := by decide +kernel
theorem dX1_play_25 : decode cX1_play 25 = .ok (.iconst 0, 1) := by decide +kernel
theorem dX1_play_26 : decode cX1_play 26 = .ok (.istore_n 3, 1) := by decide +kernel
theorem dX1_play_27 : decode cX1_play 27 = .ok (.iload_n 3, 1) := by decide +kernel
theorem dX1_play_28 : decode cX1_play 28 = .ok (.ifCond .eq 7, 3) := by decide +kernel
theorem dX1_play_31 : decode cX1_play 31 = .ok (.iconst 1, 1) := by decide +kernel
theorem dX1_play_32 : decode cX1_play 32 = .ok (.goto 4, 3) := by decide +kernel
theorem dX1_play_35 : decode cX1_play 35 = .ok (.iconst (-1), 1) := by decide +kernel
theorem dX1_play_36 : decode cX1_play 36 = .ok (.istore 4, 2) := by decide +kernel
theorem dX1_play_38 : decode cX1_play 38 = .ok (.bipush (-4), 2) := by decide +kernel
theorem dX1_play_40 : decode cX1_play 40 = .ok (.istore 5, 2) := by decide +kernel
theorem dX1_play_42 : decode cX1_play 42 = .ok (.iconst 0, 1) := by decide +kernel
theorem dX1_play_43 : decode cX1_play 43 = .ok (.istore 6, 2) := by decide +kernel
theorem dX1_play_45 : decode cX1_play 45 = .ok (.iconst 0, 1) := by decide +kernel
theorem dX1_play_46 : decode cX1_play 46 = .ok (.istore 7, 2) := by decide +kernel
theorem dX1_play_48 : decode cX1_play 48 = .ok (.iload 7, 2) := by decide +kernel
theorem dX1_play_50 : decode cX1_play 50 = .ok (.aload_n 1, 1) := by decide +kernel
theorem dX1_play_51 : decode cX1_play 51 = .ok (.getfield 52, 3) := by decide +kernel
theorem dX1_play_54 : decode cX1_play 54 = .ok (.if_icmp .ge 121, 3) := by decide +kernel
theorem dX1_play_57 : decode cX1_play 57 = .ok (.aload_n 0, 1) := by decide +kernel
theorem dX1_play_58 : decode cX1_play 58 = .ok (.getfield 11, 3) := by decide +kernel
theorem dX1_play_61 : decode cX1_play 61 = .ok (.iload_n 2, 1) := by decide +kernel
theorem dX1_play_62 : decode cX1_play 62 = .ok (.aaload, 1) := by decide +kernel
theorem dX1_play_63 : decode cX1_play 63 = .ok (.iload 7, 2) := by decide +kernel
theorem dX1_play_65 : decode cX1_play 65 = .ok (.invokevirtual 57, 3) := by decide +kernel
theorem dX1_play_68 : decode cX1_play 68 = .ok (.ifCond .ne 101, 3) := by decide +kernel
theorem dX1_play_71 : decode cX1_play 71 = .ok (.aload_n 0, 1) := by decide +kernel
theorem dX1_play_72 : decode cX1_play 72 = .ok (.getfield 11, 3) := by decide +kernel
theorem dX1_play_75 : decode cX1_play 75 = .ok (.iload_n 2, 1) := by decide +kernel
theorem dX1_play_76 : decode cX1_play 76 = .ok (.iconst 1, 1) := by decide +kernel
theorem dX1_play_77 : decode cX1_play 77 = .ok (.iadd, 1) := by decide +kernel
theorem dX1_play_78 : decode cX1_play 78 = .ok (.aaload, 1) := by decide +kernel
theorem dX1_play_79 : decode cX1_play 79 = .ok (.aload_n 0, 1) := by decide +kernel
theorem dX1_play_80 : decode cX1_play 80 = .ok (.getfield 11, 3) := by decide +kernel
theorem dX1_play_83 : decode cX1_play 83 = .ok (.iload_n 2, 1) := by decide +kernel
theorem dX1_play_84 : decode cX1_play 84 = .ok (.aaload, 1) := by decide +kernel
theorem dX1_play_85 : decode cX1_play 85 = .ok (.invokevirtual 18, 3) := by decide +kernel
theorem dX1_play_88 : decode cX1_play 88 = .ok (.aload_n 1, 1) := by decide +kernel
theorem dX1_play_89 : decode cX1_play 89 = .ok (.aload_n 0, 1) := by decide +kernel
theorem dX1_play_90 : decode cX1_play 90 = .ok (.getfield 11, 3) := by decide +kernel
theorem dX1_play_93 : decode cX1_play 93 = .ok (.iload_n 2, 1) := by decide +kernel
theorem dX1_play_94 : decode cX1_play 94 = .ok (.iconst 1, 1) := by decide +kernel
theorem dX1_play_95 : decode cX1_play 95 = .ok (.iadd, 1) := by decide +kernel
theorem dX1_play_96 : decode cX1_play 96 = .ok (.aaload, 1) := by decide +kernel
theorem dX1_play_97 : decode cX1_play 97 = .ok (.iload_n 3, 1) := by decide +kernel
theorem dX1_play_98 : decode cX1_play 98 = .ok (.ifCond .eq 10, 3) := by decide +kernel
theorem dX1_play_101 : decode cX1_play 101 = .ok (.aload_n 0, 1) := by decide +kernel
theorem dX1_play_102 : decode cX1_play 102 = .ok (.getfield 22, 3) := by decide +kernel
theorem dX1_play_105 : decode cX1_play 105 = .ok (.goto 7, 3) := by decide +kernel
theorem dX1_play_108 : decode cX1_play 108 = .ok (.aload_n 0, 1) := by decide +kernel
theorem dX1_play_109 : decode cX1_play 109 = .ok (.getfield 26, 3) := by decide +kernel
theorem dX1_play_112 : decode cX1_play 112 = .ok (.iload 7, 2) := by decide +kernel
theorem dX1_play_114 : decode cX1_play 114 = .ok (.invokevirtual 61, 3) := by decide +kernel
theorem dX1_play_117 : decode cX1_play 117 = .ok (.istore 8, 2) := by decide +kernel
theorem dX1_play_119 : decode cX1_play 119 = .ok (.aload_n 0, 1) := by decide +kernel
theorem dX1_play_120 : decode cX1_play 120 = .ok (.aload_n 1, 1) := by decide +kernel
theorem dX1_play_121 : decode cX1_play 121 = .ok (.iload_n 2, 1) := by decide +kernel
theorem dX1_play_122 : decode cX1_play 122 = .ok (.iconst 1, 1) := by decide +kernel
theorem dX1_play_123 : decode cX1_play 123 = .ok (.iadd, 1) := by decide +kernel
theorem dX1_play_124 : decode cX1_play 124 = .ok (.invokestatic 45, 3) := by decide +kernel
theorem dX1_play_127 : decode cX1_play 127 = .ok (.iload 8, 2) := by decide +kernel
theorem dX1_play_129 : decode cX1_play 129 = .ok (.ifCond .eq 8, 3) := by decide +kernel
theorem dX1_play_132 : decode cX1_play 132 = .ok (.iload 4, 2) := by decide +kernel
theorem dX1_play_134 : decode cX1_play 134 = .ok (.goto 4, 3) := by decide +kernel
theorem dX1_play_137 : decode cX1_play 137 = .ok (.iconst 0, 1) := by decide +kernel
theorem dX1_play_138 : decode cX1_play 138 = .ok (.iadd, 1) := by decide +kernel
theorem dX1_play_139 : decode cX1_play 139 = .ok (.istore 9, 2) := by decide +kernel
theorem dX1_play_141 : decode cX1_play 141 = .ok (.iload 5, 2) := by decide +kernel
theorem dX1_play_143 : decode cX1_play 143 = .ok (.bipush (-4), 2) := by decide +kernel
theorem dX1_play_145 : decode cX1_play 145 = .ok (.if_icmp .eq 16, 3) := by decide +kernel
theorem dX1_play_148 : decode cX1_play 148 = .ok (.iload 9, 2) := by decide +kernel
theorem dX1_play_150 : decode cX1_play 150 = .ok (.iload 4, 2) := by decide +kernel
theorem dX1_play_152 : decode cX1_play 152 = .ok (.imul, 1) := by decide +kernel
theorem dX1_play_153 : decode cX1_play 153 = .ok (.iload 6, 2) := by decide +kernel
theorem dX1_play_155 : decode cX1_play 155 = .ok (.iload 4, 2) := by decide +kernel
theorem dX1_play_157 : decode cX1_play 157 = .ok (.imul, 1) := by decide +kernel
theorem dX1_play_158 : decode cX1_play 158 = .ok (.if_icmp .ge 11, 3) := by decide +kernel
theorem dX1_play_161 : decode cX1_play 161 = .ok (.iload 7, 2) := by decide +kernel
theorem dX1_play_163 : decode cX1_play 163 = .ok (.istore 5, 2) := by decide +kernel
theorem dX1_play_165 : decode cX1_play 165 = .ok (.iload 9, 2) := by decide +kernel
theorem dX1_play_167 : decode cX1_play 167 = .ok (.istore 6, 2) := by decide +kernel
theorem dX1_play_169 : decode cX1_play 169 = .ok (.iinc 7 1, 3) := by decide +kernel
theorem dX1_play_172 : decode cX1_play 172 = .ok (.goto (-124), 3) := by decide +kernel
theorem dX1_play_175 : decode cX1_play 175 = .ok (.aload_n 0, 1) := by decide +kernel
theorem dX1_play_176 : decode cX1_play 176 = .ok (.iload_n 2, 1) := by decide +kernel
theorem dX1_play_177 : decode cX1_play 177 = .ok (.ifCond .ne 8, 3) := by decide +kernel
theorem dX1_play_180 : decode cX1_play 180 = .ok (.iload 5, 2) := by decide +kernel
theorem dX1_play_182 : decode cX1_play 182 = .ok (.goto 7, 3) := by decide +kernel
theorem dX1_play_185 : decode cX1_play 185 = .ok (.aload_n 0, 1) := by decide +kernel
theorem dX1_play_186 : decode cX1_play 186 = .ok (.getfield 42, 3) := by decide +kernel
theorem dX1_play_189 : decode cX1_play 189 = .ok (.putfield 42, 3) := by decide +kernel
theorem dX1_play_192 : decode cX1_play 192 = .ok (.iload 6, 2) := by decide +kernel
theorem dX1_play_194 : decode cX1_play 194 = .ok (.ireturn, 1) := by decide +kernel
theorem dX2_init_0 : decode cX2_init 0 = .ok (.aload_n 0, 1) := by decide +kernel
theorem dX2_init_1 : decode cX2_init 1 = .ok (.invokespecial 3, 3) := by decide +kernel
theorem dX2_init_4 : decode cX2_init 4 = .ok (.aload_n 0, 1) := by decide +kernel
theorem dX2_init_5 : decode cX2_init 5 = .ok (.bipush 8, 2) := by decide +kernel
theorem dX2_init_7 : decode cX2_init 7 = .ok (.anewarray 9, 3) := by decide +kernel
theorem dX2_init_10 : decode cX2_init 10 = .ok (.putfield 11, 3) := by decide +kernel
theorem dX2_init_13 : decode cX2_init 13 = .ok (.aload_n 0, 1) := by decide +kernel
theorem dX2_init_14 : decode cX2_init 14 = .ok (.bipush 7, 2) := by decide +kernel
theorem dX2_init_16 : decode cX2_init 16 = .ok (.newarray .int, 2) := by decide +kernel
theorem dX2_init_18 : decode cX2_init 18 = .ok (.putfield 17, 3) := by decide +kernel
theorem dX2_init_21 : decode cX2_init 21 = .ok (.aload_n 0, 1) := by decide +kernel
theorem dX2_init_22 : decode cX2_init 22 = .ok (.bipush 7, 2) := by decide +kernel
theorem dX2_init_24 : decode cX2_init 24 = .ok (.newarray .int, 2) := by decide +kernel
theorem dX2_init_26 : decode cX2_init 26 = .ok (.putfield 21, 3) := by decide +kernel
theorem dX2_init_29 : decode cX2_init 29 = .ok (.iconst 0, 1) := by decide +kernel
theorem dX2_init_30 : decode cX2_init 30 = .ok (.istore_n 1, 1) := by decide +kernel
theorem dX2_init_31 : decode cX2_init 31 = .ok (.iload_n 1, 1) := by decide +kernel
theorem dX2_init_32 : decode cX2_init 32 = .ok (.aload_n 0, 1) := by decide +kernel
theorem dX2_init_33 : decode cX2_init 33 = .ok (.getfield 11, 3) := by decide +kernel
theorem dX2_init_36 : decode cX2_init 36 = .ok (.arraylength, 1) := by decide +kernel
theorem dX2_init_37 : decode cX2_init 37 = .ok (.if_icmp .ge 22, 3) := by decide +kernel
theorem dX2_init_40 : decode cX2_init 40 = .ok (.aload_n 0, 1) := by decide +kernel
theorem dX2_init_41 : decode cX2_init 41 = .ok (.getfield 11, 3) := by decide +kernel
theorem dX2_init_44 : decode cX2_init 44 = .ok (.iload_n 1, 1) := by decide +kernel
theorem dX2_init_45 : decode cX2_init 45 = .ok (.new 9, 3) := by decide +kernel
theorem dX2_init_48 : decode cX2_init 48 = .ok (.dup, 1) := by decide +kernel
theorem dX2_init_49 : decode cX2_init 49 = .ok (.invokespecial 24, 3) := by decide +kernel
theorem dX2_init_52 : decode cX2_init 52 = .ok (.aastore, 1) := by decide +kernel
theorem dX2_init_53 : decode cX2_init 53 = .ok (.iinc 1 1, 3) := by decide +kernel
theorem dX2_init_56 : decode cX2_init 56 = .ok (.goto (-25), 3) := by decide +kernel
theorem dX2_init_59 : decode cX2_init 59 = .ok (.return_, 1) := by decide +kernel
theorem dX2_search_0 : decode cX2_search 0 = .ok (.aload_n 0, 1) := by decide +kernel
theorem dX2_search_1 : decode cX2_search 1 = .ok (.getfield 11, 3) := by decide +kernel
theorem dX2_search_4 : decode cX2_search 4 = .ok (.iconst 0, 1) := by decide +kernel
theorem dX2_search_5 : decode cX2_search 5 = .ok (.aaload, 1) := by decide +kernel
theorem dX2_search_6 : decode cX2_search 6 = .ok (.aload_n 2, 1) := by decide +kernel
theorem dX2_search_7 : decode cX2_search 7 = .ok (.invokevirtual 25, 3) := by decide +kernel
theorem dX2_search_10 : decode cX2_search 10 = .ok (.aload_n 0, 1) := by decide +kernel
theorem dX2_search_11 : decode cX2_search 11 = .ok (.aload_n 1, 1) := by decide +kernel
theorem dX2_search_12 : decode cX2_search 12 = .ok (.aload_n 2, 1) := by decide +kernel
theorem dX2_search_13 : decode cX2_search 13 = .ok (.invokestatic 29, 3) := by decide +kernel
theorem dX2_search_16 : decode cX2_search 16 = .ok (.putfield 33, 3) := by decide +kernel
theorem dX2_search_19 : decode cX2_search 19 = .ok (.aload_n 0, 1) := by decide +kernel
theorem dX2_search_20 : decode cX2_search 20 = .ok (.aload_n 0, 1) := by decide +kernel
theorem dX2_search_21 : decode cX2_search 21 = .ok (.getfield 33, 3) := by decide +kernel
theorem dX2_search_24 : decode cX2_search 24 = .ok (.iconst 1, 1) := by decide +kernel
theorem dX2_search_25 : decode cX2_search 25 = .ok (.iadd, 1) := by decide +kernel
theorem dX2_search_26 : decode cX2_search 26 = .ok (.putfield 37, 3) := by decide +kernel
theorem dX2_search_29 : decode cX2_search 29 = .ok (.iconst 0, 1) := by decide +kernel
theorem dX2_search_30 : decode cX2_search 30 = .ok (.istore_n 3, 1) := by decide +kernel
theorem dX2_search_31 : decode cX2_search 31 = .ok (.iconst 0, 1) := by decide +kernel
theorem dX2_search_32 : decode cX2_search 32 = .ok (.istore 4, 2) := by decide +kernel
theorem dX2_search_34 : decode cX2_search 34 = .ok (.iload 4, 2) := by decide +kernel
theorem dX2_search_36 : decode cX2_search 36 = .ok (.aload_n 1, 1) := by decide +kernel
theorem dX2_search_37 : decode cX2_search 37 = .ok (.getfield 40, 3) := by decide +kernel
theorem dX2_search_40 : decode cX2_search 40 = .ok (.if_icmp .ge 37, 3) := by decide +kernel
theorem dX2_search_43 : decode cX2_search 43 = .ok (.iload_n 3, 1) := by decide +kernel
theorem dX2_search_44 : decode cX2_search 44 = .ok (.aload_n 1, 1) := by decide +kernel
theorem dX2_search_45 : decode cX2_search 45 = .ok (.getfield 45, 3) := by decide +kernel
theorem dX2_search_48 : decode cX2_search 48 = .ok (.iload 4, 2) := by decide +kernel
theorem dX2_search_50 : decode cX2_search 50 = .ok (.iaload, 1) := by decide +kernel
theorem dX2_search_51 : decode cX2_search 51 = .ok (.iconst 1, 1) := by decide +kernel
theorem dX2_search_52 : decode cX2_search 52 = .ok (.if_icmp .ne 16, 3) := by decide +kernel
theorem dX2_search_55 : decode cX2_search 55 = .ok (.aload_n 2, 1) := by decide +kernel
theorem dX2_search_56 : decode cX2_search 56 = .ok (.iload 4, 2) := by decide +kernel
theorem dX2_search_58 : decode cX2_search 58 = .ok (.invokevirtual 48, 3) := by decide +kernel
theorem dX2_search_61 : decode cX2_search 61 = .ok (.ifCond .ne 7, 3) := by decide +kernel
theorem dX2_search_64 : decode cX2_search 64 = .ok (.iconst 1, 1) := by decide +kernel
theorem dX2_search_65 : decode cX2_search 65 = .ok (.goto 4, 3) := by decide +kernel
theorem dX2_search_68 : decode cX2_search 68 = .ok (.iconst 0, 1) := by decide +kernel
theorem dX2_search_69 : decode cX2_search 69 = .ok (.iadd, 1) := by decide +kernel
theorem dX2_search_70 : decode cX2_search 70 = .ok (.istore_n 3, 1) := by decide +kernel
theorem dX2_search_71 : decode cX2_search 71 = .ok (.iinc 4 1, 3) := by decide +kernel
theorem dX2_search_74 : decode cX2_search 74 = .ok (.goto (-40), 3) := by decide +kernel
theorem dX2_search_77 : decode cX2_search 77 = .ok (.aload_n 0, 1) := by decide +kernel
theorem dX2_search_78 : decode cX2_search 78 = .ok (.aload_n 1, 1) := by decide +kernel
theorem dX2_search_79 : decode cX2_search 79 = .ok (.iconst 0, 1) := by decide +kernel
theorem dX2_search_80 : decode cX2_search 80 = .ok (.iload_n 3, 1) := by decide +kernel
theorem dX2_search_81 : decode cX2_search 81 = .ok (.invokestatic 52, 3) := by decide +kernel
theorem dX2_search_84 : decode cX2_search 84 = .ok (.return_, 1) := by decide +kernel
theorem dX2_extend_0 : decode cX2_extend 0 = .ok (.iload_n 2, 1) := by decide +kernel
theorem dX2_extend_1 : decode cX2_extend 1 = .ok (.aload_n 0, 1) := by decide +kernel
theorem dX2_extend_2 : decode cX2_extend 2 = .ok (.getfield 33, 3) := by decide +kernel
theorem dX2_extend_5 : decode cX2_extend 5 = .ok (.if_icmp .ge 9, 3) := by decide +kernel
theorem dX2_extend_8 : decode cX2_extend 8 = .ok (.iload_n 2, 1) := by decide +kernel
theorem dX2_extend_9 : decode cX2_extend 9 = .ok (.bipush 7, 2) := by decide +kernel
theorem dX2_extend_11 : decode cX2_extend 11 = .ok (.if_icmp .lt 9, 3) := by decide +kernel
theorem dX2_extend_14 : decode cX2_extend 14 = .ok (.aload_n 0, 1) := by decide +kernel
theorem dX2_extend_15 : decode cX2_extend 15 = .ok (.iload_n 3, 1) := by decide +kernel
theorem dX2_extend_16 : decode cX2_extend 16 = .ok (.invokevirtual 56, 3) := by decide +kernel
theorem dX2_extend_19 : decode cX2_extend 19 = .ok (.return_, 1) := by decide +kernel
theorem dX2_extend_20 : decode cX2_extend 20 = .ok (.aload_n 0, 1) := by decide +kernel
theorem dX2_extend_21 : decode cX2_extend 21 = .ok (.getfield 11, 3) := by decide +kernel
theorem dX2_extend_24 : decode cX2_extend 24 = .ok (.iload_n 2, 1) := by decide +kernel
theorem dX2_extend_25 : decode cX2_extend 25 = .ok (.aaload, 1) := by decide +kernel
theorem dX2_extend_26 : decode cX2_extend 26 = .ok (.astore 4, 2) := by decide +kernel
theorem dX2_extend_28 : decode cX2_extend 28 = .ok (.aload_n 0, 1) := by decide +kernel
theorem dX2_extend_29 : decode cX2_extend 29 = .ok (.getfield 11, 3) := by decide +kernel
theorem dX2_extend_32 : decode cX2_extend 32 = .ok (.iload_n 2, 1) := by decide +kernel
theorem dX2_extend_33 : decode cX2_extend 33 = .ok (.iconst 1, 1) := by decide +kernel
theorem dX2_extend_34 : decode cX2_extend 34 = .ok (.iadd, 1) := by decide +kernel
theorem dX2_extend_35 : decode cX2_extend 35 = .ok (.aaload, 1) := by decide +kernel
theorem dX2_extend_36 : decode cX2_extend 36 = .ok (.astore 5, 2) := by decide +kernel
theorem dX2_extend_38 : decode cX2_extend 38 = .ok (.iconst 0, 1) := by decide +kernel
theorem dX2_extend_39 : decode cX2_extend 39 = .ok (.istore 6, 2) := by decide +kernel
theorem dX2_extend_41 : decode cX2_extend 41 = .ok (.iload 6, 2) := by decide +kernel
theorem dX2_extend_43 : decode cX2_extend 43 = .ok (.aload_n 1, 1) := by decide +kernel
theorem dX2_extend_44 : decode cX2_extend 44 = .ok (.getfield 40, 3) := by decide +kernel
theorem dX2_extend_47 : decode cX2_extend 47 = .ok (.if_icmp .ge 91, 3) := by decide +kernel
theorem dX2_extend_50 : decode cX2_extend 50 = .ok (.iload_n 3, 1) := by decide +kernel
theorem dX2_extend_51 : decode cX2_extend 51 = .ok (.aload_n 0, 1) := by decide +kernel
theorem dX2_extend_52 : decode cX2_extend 52 = .ok (.getfield 37, 3) := by decide +kernel
theorem dX2_extend_55 : decode cX2_extend 55 = .ok (.if_icmp .ge 83, 3) := by decide +kernel
theorem dX2_extend_58 : decode cX2_extend 58 = .ok (.aload 4, 2) := by decide +kernel
theorem dX2_extend_60 : decode cX2_extend 60 = .ok (.iload 6, 2) := by decide +kernel
theorem dX2_extend_62 : decode cX2_extend 62 = .ok (.invokevirtual 48, 3) := by decide +kernel
theorem dX2_extend_65 : decode cX2_extend 65 = .ok (.ifCond .ne 67, 3) := by decide +kernel
theorem dX2_extend_68 : decode cX2_extend 68 = .ok (.aload 5, 2) := by decide +kernel
theorem dX2_extend_70 : decode cX2_extend 70 = .ok (.aload 4, 2) := by decide +kernel
theorem dX2_extend_72 : decode cX2_extend 72 = .ok (.invokevirtual 25, 3) := by decide +kernel
theorem dX2_extend_75 : decode cX2_extend 75 = .ok (.aload_n 0, 1) := by decide +kernel
theorem dX2_extend_76 : decode cX2_extend 76 = .ok (.getfield 17, 3) := by decide +kernel
theorem dX2_extend_79 : decode cX2_extend 79 = .ok (.iload_n 2, 1) := by decide +kernel
theorem dX2_extend_80 : decode cX2_extend 80 = .ok (.iload 6, 2) := by decide +kernel
theorem dX2_extend_82 : decode cX2_extend 82 = .ok (.iastore, 1) := by decide +kernel
theorem dX2_extend_83 : decode cX2_extend 83 = .ok (.aload_n 1, 1) := by decide +kernel
theorem dX2_extend_84 : decode cX2_extend 84 = .ok (.aload 5, 2) := by decide +kernel
theorem dX2_extend_86 : decode cX2_extend 86 = .ok (.iload 6, 2) := by decide +kernel
theorem dX2_extend_88 : decode cX2_extend 88 = .ok (.invokevirtual 60, 3) := by decide +kernel
theorem dX2_extend_91 : decode cX2_extend 91 = .ok (.ifCond .eq 18, 3) := by decide +kernel
theorem dX2_extend_94 : decode cX2_extend 94 = .ok (.aload_n 1, 1) := by decide +kernel
theorem dX2_extend_95 : decode cX2_extend 95 = .ok (.getfield 45, 3) := by decide +kernel
theorem dX2_extend_98 : decode cX2_extend 98 = .ok (.iload 6, 2) := by decide +kernel
theorem dX2_extend_100 : decode cX2_extend 100 = .ok (.iaload, 1) := by decide +kernel
theorem dX2_extend_101 : decode cX2_extend 101 = .ok (.iconst 1, 1) := by decide +kernel
theorem dX2_extend_102 : decode cX2_extend 102 = .ok (.if_icmp .eq 7, 3) := by decide +kernel
theorem dX2_extend_105 : decode cX2_extend 105 = .ok (.iconst 1, 1) := by decide +kernel
theorem dX2_extend_106 : decode cX2_extend 106 = .ok (.goto 4, 3) := by decide +kernel
theorem dX2_extend_109 : decode cX2_extend 109 = .ok (.iconst 0, 1) := by decide +kernel
theorem dX2_extend_110 : decode cX2_extend 110 = .ok (.istore 7, 2) := by decide +kernel
theorem dX2_extend_112 : decode cX2_extend 112 = .ok (.aload_n 0, 1) := by decide +kernel
theorem dX2_extend_113 : decode cX2_extend 113 = .ok (.aload_n 1, 1) := by decide +kernel
theorem dX2_extend_114 : decode cX2_extend 114 = .ok (.iload_n 2, 1) := by decide +kernel
theorem dX2_extend_115 : decode cX2_extend 115 = .ok (.iconst 1, 1) := by decide +kernel
theorem dX2_extend_116 : decode cX2_extend 116 = .ok (.iadd, 1) := by decide +kernel
theorem dX2_extend_117 : decode cX2_extend 117 = .ok (.iload 7, 2) := by decide +kernel
theorem dX2_extend_119 : decode cX2_extend 119 = .ok (.ifCond .eq 9, 3) := by decide +kernel
theorem dX2_extend_122 : decode cX2_extend 122 = .ok (.iload_n 3, 1) := by decide +kernel
theorem dX2_extend_123 : decode cX2_extend 123 = .ok (.iconst 1, 1) := by decide +kernel
theorem dX2_extend_124 : decode cX2_extend 124 = .ok (.iadd, 1) := by decide +kernel
theorem dX2_extend_125 : decode cX2_extend 125 = .ok (.goto 4, 3) := by decide +kernel
theorem dX2_extend_128 : decode cX2_extend 128 = .ok (.iload_n 3, 1) := by decide +kernel
theorem dX2_extend_129 : decode cX2_extend 129 = .ok (.invokestatic 52, 3) := by decide +kernel
theorem dX2_extend_132 : decode cX2_extend 132 = .ok (.iinc 6 1, 3) := by decide +kernel
theorem dX2_extend_135 : decode cX2_extend 135 = .ok (.goto (-94), 3) := by decide +kernel
theorem dX2_extend_138 : decode cX2_extend 138 = .ok (.return_, 1) := by decide +kernel
theorem dX2_keepIfFewer_0 : decode cX2_keepIfFewer 0 = .ok (.iload_n 1, 1) := by decide +kernel
theorem dX2_keepIfFewer_1 : decode cX2_keepIfFewer 1 = .ok (.aload_n 0, 1) := by decide +kernel
theorem dX2_keepIfFewer_2 : decode cX2_keepIfFewer 2 = .ok (.getfield 37, 3) := by decide +kernel
theorem dX2_keepIfFewer_5 : decode cX2_keepIfFewer 5 = .ok (.if_icmp .ge 23, 3) := by decide +kernel
theorem dX2_keepIfFewer_8 : decode cX2_keepIfFewer 8 = .ok (.aload_n 0, 1) := by decide +kernel
theorem dX2_keepIfFewer_9 : decode cX2_keepIfFewer 9 = .ok (.iload_n 1, 1) := by decide +kernel
theorem dX2_keepIfFewer_10 : decode cX2_keepIfFewer 10 = .ok (.putfield 37, 3) := by decide +kernel
theorem dX2_keepIfFewer_13 : decode cX2_keepIfFewer 13 = .ok (.aload_n 0, 1) := by decide +kernel
theorem dX2_keepIfFewer_14 : decode cX2_keepIfFewer 14 = .ok (.getfield 17, 3) := by decide +kernel
theorem dX2_keepIfFewer_17 : decode cX2_keepIfFewer 17 = .ok (.iconst 0, 1) := by decide +kernel
theorem dX2_keepIfFewer_18 : decode cX2_keepIfFewer 18 = .ok (.aload_n 0, 1) := by decide +kernel
theorem dX2_keepIfFewer_19 : decode cX2_keepIfFewer 19 = .ok (.getfield 21, 3) := by decide +kernel
theorem dX2_keepIfFewer_22 : decode cX2_keepIfFewer 22 = .ok (.iconst 0, 1) := by decide +kernel
theorem dX2_keepIfFewer_23 : decode cX2_keepIfFewer 23 = .ok (.bipush 7, 2) := by decide +kernel
theorem dX2_keepIfFewer_25 : decode cX2_keepIfFewer 25 = .ok (.invokestatic 64, 3) := by decide +kernel
theorem dX2_keepIfFewer_28 : decode cX2_keepIfFewer 28 = .ok (.return_, 1) := by decide +kernel
theorem dX3_init_0 : decode cX3_init 0 = .ok (.aload_n 0, 1) := by decide +kernel
theorem dX3_init_1 : decode cX3_init 1 = .ok (.invokespecial 3, 3) := by decide +kernel
theorem dX3_init_4 : decode cX3_init 4 = .ok (.aload_n 0, 1) := by decide +kernel
theorem dX3_init_5 : decode cX3_init 5 = .ok (.bipush 6, 2) := by decide +kernel
theorem dX3_init_7 : decode cX3_init 7 = .ok (.newarray .int, 2) := by decide +kernel
theorem dX3_init_9 : decode cX3_init 9 = .ok (.putfield 9, 3) := by decide +kernel
theorem dX3_init_12 : decode cX3_init 12 = .ok (.aload_n 0, 1) := by decide +kernel
theorem dX3_init_13 : decode cX3_init 13 = .ok (.bipush 6, 2) := by decide +kernel
theorem dX3_init_15 : decode cX3_init 15 = .ok (.newarray .int, 2) := by decide +kernel
theorem dX3_init_17 : decode cX3_init 17 = .ok (.putfield 15, 3) := by decide +kernel
theorem dX3_init_20 : decode cX3_init 20 = .ok (.aload_n 0, 1) := by decide +kernel
theorem dX3_init_21 : decode cX3_init 21 = .ok (.bipush 6, 2) := by decide +kernel
theorem dX3_init_23 : decode cX3_init 23 = .ok (.newarray .int, 2) := by decide +kernel
theorem dX3_init_25 : decode cX3_init 25 = .ok (.putfield 18, 3) := by decide +kernel
theorem dX3_init_28 : decode cX3_init 28 = .ok (.return_, 1) := by decide +kernel
theorem dX3_add_0 : decode cX3_add 0 = .ok (.aload_n 0, 1) := by decide +kernel
theorem dX3_add_1 : decode cX3_add 1 = .ok (.getfield 21, 3) := by decide +kernel
theorem dX3_add_4 : decode cX3_add 4 = .ok (.bipush 6, 2) := by decide +kernel
theorem dX3_add_6 : decode cX3_add 6 = .ok (.if_icmp .lt 5, 3) := by decide +kernel
theorem dX3_add_9 : decode cX3_add 9 = .ok (.iconst 0, 1) := by decide +kernel
theorem dX3_add_10 : decode cX3_add 10 = .ok (.ireturn, 1) := by decide +kernel
theorem dX3_add_11 : decode cX3_add 11 = .ok (.aload_n 0, 1) := by decide +kernel
theorem dX3_add_12 : decode cX3_add 12 = .ok (.getfield 9, 3) := by decide +kernel
theorem dX3_add_15 : decode cX3_add 15 = .ok (.aload_n 0, 1) := by decide +kernel
theorem dX3_add_16 : decode cX3_add 16 = .ok (.getfield 21, 3) := by decide +kernel
theorem dX3_add_19 : decode cX3_add 19 = .ok (.iload_n 1, 1) := by decide +kernel
theorem dX3_add_20 : decode cX3_add 20 = .ok (.iastore, 1) := by decide +kernel
theorem dX3_add_21 : decode cX3_add 21 = .ok (.aload_n 0, 1) := by decide +kernel
theorem dX3_add_22 : decode cX3_add 22 = .ok (.getfield 15, 3) := by decide +kernel
theorem dX3_add_25 : decode cX3_add 25 = .ok (.aload_n 0, 1) := by decide +kernel
theorem dX3_add_26 : decode cX3_add 26 = .ok (.getfield 21, 3) := by decide +kernel
theorem dX3_add_29 : decode cX3_add 29 = .ok (.iload_n 2, 1) := by decide +kernel
theorem dX3_add_30 : decode cX3_add 30 = .ok (.iastore, 1) := by decide +kernel
theorem dX3_add_31 : decode cX3_add 31 = .ok (.aload_n 0, 1) := by decide +kernel
theorem dX3_add_32 : decode cX3_add 32 = .ok (.getfield 18, 3) := by decide +kernel
theorem dX3_add_35 : decode cX3_add 35 = .ok (.aload_n 0, 1) := by decide +kernel
theorem dX3_add_36 : decode cX3_add 36 = .ok (.getfield 21, 3) := by decide +kernel
theorem dX3_add_39 : decode cX3_add 39 = .ok (.iload_n 3, 1) := by decide +kernel
theorem dX3_add_40 : decode cX3_add 40 = .ok (.iastore, 1) := by decide +kernel
theorem dX3_add_41 : decode cX3_add 41 = .ok (.aload_n 0, 1) := by decide +kernel
theorem dX3_add_42 : decode cX3_add 42 = .ok (.dup, 1) := by decide +kernel
theorem dX3_add_43 : decode cX3_add 43 = .ok (.getfield 21, 3) := by decide +kernel
theorem dX3_add_46 : decode cX3_add 46 = .ok (.iconst 1, 1) := by decide +kernel
theorem dX3_add_47 : decode cX3_add 47 = .ok (.iadd, 1) := by decide +kernel
theorem dX3_add_48 : decode cX3_add 48 = .ok (.putfield 21, 3) := by decide +kernel
theorem dX3_add_51 : decode cX3_add 51 = .ok (.iconst 1, 1) := by decide +kernel
theorem dX3_add_52 : decode cX3_add 52 = .ok (.ireturn, 1) := by decide +kernel
theorem dX4_init_0 : decode cX4_init 0 = .ok (.aload_n 0, 1) := by decide +kernel
theorem dX4_init_1 : decode cX4_init 1 = .ok (.invokespecial 1, 3) := by decide +kernel
theorem dX4_init_4 : decode cX4_init 4 = .ok (.aload_n 0, 1) := by decide +kernel
theorem dX4_init_5 : decode cX4_init 5 = .ok (.iconst 1, 1) := by decide +kernel
theorem dX4_init_6 : decode cX4_init 6 = .ok (.iload_n 1, 1) := by decide +kernel
theorem dX4_init_7 : decode cX4_init 7 = .ok (.invokestatic 7, 3) := by decide +kernel
theorem dX4_init_10 : decode cX4_init 10 = .ok (.anewarray 13, 3) := by decide +kernel
theorem dX4_init_13 : decode cX4_init 13 = .ok (.putfield 15, 3) := by decide +kernel
theorem dX4_init_16 : decode cX4_init 16 = .ok (.iconst 0, 1) := by decide +kernel
theorem dX4_init_17 : decode cX4_init 17 = .ok (.istore_n 2, 1) := by decide +kernel
theorem dX4_init_18 : decode cX4_init 18 = .ok (.iload_n 2, 1) := by decide +kernel
theorem dX4_init_19 : decode cX4_init 19 = .ok (.aload_n 0, 1) := by decide +kernel
theorem dX4_init_20 : decode cX4_init 20 = .ok (.getfield 15, 3) := by decide +kernel
theorem dX4_init_23 : decode cX4_init 23 = .ok (.arraylength, 1) := by decide +kernel
theorem dX4_init_24 : decode cX4_init 24 = .ok (.if_icmp .ge 22, 3) := by decide +kernel
theorem dX4_init_27 : decode cX4_init 27 = .ok (.aload_n 0, 1) := by decide +kernel
theorem dX4_init_28 : decode cX4_init 28 = .ok (.getfield 15, 3) := by decide +kernel
theorem dX4_init_31 : decode cX4_init 31 = .ok (.iload_n 2, 1) := by decide +kernel
theorem dX4_init_32 : decode cX4_init 32 = .ok (.new 13, 3) := by decide +kernel
theorem dX4_init_35 : decode cX4_init 35 = .ok (.dup, 1) := by decide +kernel
theorem dX4_init_36 : decode cX4_init 36 = .ok (.invokespecial 21, 3) := by decide +kernel
theorem dX4_init_39 : decode cX4_init 39 = .ok (.aastore, 1) := by decide +kernel
theorem dX4_init_40 : decode cX4_init 40 = .ok (.iinc 2 1, 3) := by decide +kernel
theorem dX4_init_43 : decode cX4_init 43 = .ok (.goto (-25), 3) := by decide +kernel
theorem dX4_init_46 : decode cX4_init 46 = .ok (.return_, 1) := by decide +kernel
theorem dX4_put_0 : decode cX4_put 0 = .ok (.aload_n 0, 1) := by decide +kernel
theorem dX4_put_1 : decode cX4_put 1 = .ok (.getfield 15, 3) := by decide +kernel
theorem dX4_put_4 : decode cX4_put 4 = .ok (.aload_n 0, 1) := by decide +kernel
theorem dX4_put_5 : decode cX4_put 5 = .ok (.getfield 22, 3) := by decide +kernel
theorem dX4_put_8 : decode cX4_put 8 = .ok (.aaload, 1) := by decide +kernel
theorem dX4_put_9 : decode cX4_put 9 = .ok (.aload_n 1, 1) := by decide +kernel
theorem dX4_put_10 : decode cX4_put 10 = .ok (.invokevirtual 26, 3) := by decide +kernel
theorem dX4_put_13 : decode cX4_put 13 = .ok (.aload_n 0, 1) := by decide +kernel
theorem dX4_put_14 : decode cX4_put 14 = .ok (.aload_n 0, 1) := by decide +kernel
theorem dX4_put_15 : decode cX4_put 15 = .ok (.getfield 22, 3) := by decide +kernel
theorem dX4_put_18 : decode cX4_put 18 = .ok (.iconst 1, 1) := by decide +kernel
theorem dX4_put_19 : decode cX4_put 19 = .ok (.iadd, 1) := by decide +kernel
theorem dX4_put_20 : decode cX4_put 20 = .ok (.aload_n 0, 1) := by decide +kernel
theorem dX4_put_21 : decode cX4_put 21 = .ok (.getfield 15, 3) := by decide +kernel
theorem dX4_put_24 : decode cX4_put 24 = .ok (.arraylength, 1) := by decide +kernel
theorem dX4_put_25 : decode cX4_put 25 = .ok (.if_icmp .ge 12, 3) := by decide +kernel
theorem dX4_put_28 : decode cX4_put 28 = .ok (.aload_n 0, 1) := by decide +kernel
theorem dX4_put_29 : decode cX4_put 29 = .ok (.getfield 22, 3) := by decide +kernel
theorem dX4_put_32 : decode cX4_put 32 = .ok (.iconst 1, 1) := by decide +kernel
theorem dX4_put_33 : decode cX4_put 33 = .ok (.iadd, 1) := by decide +kernel
theorem dX4_put_34 : decode cX4_put 34 = .ok (.goto 4, 3) := by decide +kernel
theorem dX4_put_37 : decode cX4_put 37 = .ok (.iconst 0, 1) := by decide +kernel
theorem dX4_put_38 : decode cX4_put 38 = .ok (.putfield 22, 3) := by decide +kernel
theorem dX4_put_41 : decode cX4_put 41 = .ok (.aload_n 0, 1) := by decide +kernel
theorem dX4_put_42 : decode cX4_put 42 = .ok (.aload_n 0, 1) := by decide +kernel
theorem dX4_put_43 : decode cX4_put 43 = .ok (.getfield 30, 3) := by decide +kernel
theorem dX4_put_46 : decode cX4_put 46 = .ok (.iconst 1, 1) := by decide +kernel
theorem dX4_put_47 : decode cX4_put 47 = .ok (.iadd, 1) := by decide +kernel
theorem dX4_put_48 : decode cX4_put 48 = .ok (.aload_n 0, 1) := by decide +kernel
theorem dX4_put_49 : decode cX4_put 49 = .ok (.getfield 15, 3) := by decide +kernel
theorem dX4_put_52 : decode cX4_put 52 = .ok (.arraylength, 1) := by decide +kernel
theorem dX4_put_53 : decode cX4_put 53 = .ok (.invokestatic 33, 3) := by decide +kernel
theorem dX4_put_56 : decode cX4_put 56 = .ok (.putfield 30, 3) := by decide +kernel
theorem dX4_put_59 : decode cX4_put 59 = .ok (.return_, 1) := by decide +kernel
theorem dX4_giveBack_0 : decode cX4_giveBack 0 = .ok (.aload_n 0, 1) := by decide +kernel
theorem dX4_giveBack_1 : decode cX4_giveBack 1 = .ok (.getfield 30, 3) := by decide +kernel
theorem dX4_giveBack_4 : decode cX4_giveBack 4 = .ok (.ifCond .ne 5, 3) := by decide +kernel
theorem dX4_giveBack_7 : decode cX4_giveBack 7 = .ok (.iconst 0, 1) := by decide +kernel
theorem dX4_giveBack_8 : decode cX4_giveBack 8 = .ok (.ireturn, 1) := by decide +kernel
theorem dX4_giveBack_9 : decode cX4_giveBack 9 = .ok (.aload_n 0, 1) := by decide +kernel
theorem dX4_giveBack_10 : decode cX4_giveBack 10 = .ok (.aload_n 0, 1) := by decide +kernel
theorem dX4_giveBack_11 : decode cX4_giveBack 11 = .ok (.getfield 22, 3) := by decide +kernel
theorem dX4_giveBack_14 : decode cX4_giveBack 14 = .ok (.ifCond .le 12, 3) := by decide +kernel
theorem dX4_giveBack_17 : decode cX4_giveBack 17 = .ok (.aload_n 0, 1) := by decide +kernel
theorem dX4_giveBack_18 : decode cX4_giveBack 18 = .ok (.getfield 22, 3) := by decide +kernel
theorem dX4_giveBack_21 : decode cX4_giveBack 21 = .ok (.iconst 1, 1) := by decide +kernel
theorem dX4_giveBack_22 : decode cX4_giveBack 22 = .ok (.isub, 1) := by decide +kernel
theorem dX4_giveBack_23 : decode cX4_giveBack 23 = .ok (.goto 10, 3) := by decide +kernel
theorem dX4_giveBack_26 : decode cX4_giveBack 26 = .ok (.aload_n 0, 1) := by decide +kernel
theorem dX4_giveBack_27 : decode cX4_giveBack 27 = .ok (.getfield 15, 3) := by decide +kernel
theorem dX4_giveBack_30 : decode cX4_giveBack 30 = .ok (.arraylength, 1) := by decide +kernel
theorem dX4_giveBack_31 : decode cX4_giveBack 31 = .ok (.iconst 1, 1) := by decide +kernel
theorem dX4_giveBack_32 : decode cX4_giveBack 32 = .ok (.isub, 1) := by decide +kernel
theorem dX4_giveBack_33 : decode cX4_giveBack 33 = .ok (.putfield 22, 3) := by decide +kernel
theorem dX4_giveBack_36 : decode cX4_giveBack 36 = .ok (.aload_n 0, 1) := by decide +kernel
theorem dX4_giveBack_37 : decode cX4_giveBack 37 = .ok (.dup, 1) := by decide +kernel
theorem dX4_giveBack_38 : decode cX4_giveBack 38 = .ok (.getfield 30, 3) := by decide +kernel
theorem dX4_giveBack_41 : decode cX4_giveBack 41 = .ok (.iconst 1, 1) := by decide +kernel
theorem dX4_giveBack_42 : decode cX4_giveBack 42 = .ok (.isub, 1) := by decide +kernel
theorem dX4_giveBack_43 : decode cX4_giveBack 43 = .ok (.putfield 30, 3) := by decide +kernel
theorem dX4_giveBack_46 : decode cX4_giveBack 46 = .ok (.aload_n 1, 1) := by decide +kernel
theorem dX4_giveBack_47 : decode cX4_giveBack 47 = .ok (.aload_n 0, 1) := by decide +kernel
theorem dX4_giveBack_48 : decode cX4_giveBack 48 = .ok (.getfield 15, 3) := by decide +kernel
theorem dX4_giveBack_51 : decode cX4_giveBack 51 = .ok (.aload_n 0, 1) := by decide +kernel
theorem dX4_giveBack_52 : decode cX4_giveBack 52 = .ok (.getfield 22, 3) := by decide +kernel
theorem dX4_giveBack_55 : decode cX4_giveBack 55 = .ok (.aaload, 1) := by decide +kernel
theorem dX4_giveBack_56 : decode cX4_giveBack 56 = .ok (.invokevirtual 26, 3) := by decide +kernel
theorem dX4_giveBack_59 : decode cX4_giveBack 59 = .ok (.iconst 1, 1) := by decide +kernel
theorem dX4_giveBack_60 : decode cX4_giveBack 60 = .ok (.ireturn, 1) := by decide +kernel
theorem dX5_init_0 : decode cX5_init 0 = .ok (.aload_n 0, 1) := by decide +kernel
theorem dX5_init_1 : decode cX5_init 1 = .ok (.invokespecial 3, 3) := by decide +kernel
theorem dX5_init_4 : decode cX5_init 4 = .ok (.aload_n 0, 1) := by decide +kernel
theorem dX5_init_5 : decode cX5_init 5 = .ok (.iconst 3, 1) := by decide +kernel
theorem dX5_init_6 : decode cX5_init 6 = .ok (.newarray .int, 2) := by decide +kernel
theorem dX5_init_8 : decode cX5_init 8 = .ok (.putfield 9, 3) := by decide +kernel
theorem dX5_init_11 : decode cX5_init 11 = .ok (.aload_n 0, 1) := by decide +kernel
theorem dX5_init_12 : decode cX5_init 12 = .ok (.iconst 3, 1) := by decide +kernel
theorem dX5_init_13 : decode cX5_init 13 = .ok (.newarray .int, 2) := by decide +kernel
theorem dX5_init_15 : decode cX5_init 15 = .ok (.putfield 15, 3) := by decide +kernel
theorem dX5_init_18 : decode cX5_init 18 = .ok (.aload_n 0, 1) := by decide +kernel
theorem dX5_init_19 : decode cX5_init 19 = .ok (.iconst 3, 1) := by decide +kernel
theorem dX5_init_20 : decode cX5_init 20 = .ok (.newarray .int, 2) := by decide +kernel
theorem dX5_init_22 : decode cX5_init 22 = .ok (.putfield 18, 3) := by decide +kernel
theorem dX5_init_25 : decode cX5_init 25 = .ok (.aload_n 0, 1) := by decide +kernel
theorem dX5_init_26 : decode cX5_init 26 = .ok (.bipush 7, 2) := by decide +kernel
theorem dX5_init_28 : decode cX5_init 28 = .ok (.newarray .int, 2) := by decide +kernel
theorem dX5_init_30 : decode cX5_init 30 = .ok (.putfield 21, 3) := by decide +kernel
theorem dX5_init_33 : decode cX5_init 33 = .ok (.aload_n 0, 1) := by decide +kernel
theorem dX5_init_34 : decode cX5_init 34 = .ok (.bipush 7, 2) := by decide +kernel
theorem dX5_init_36 : decode cX5_init 36 = .ok (.newarray .int, 2) := by decide +kernel
theorem dX5_init_38 : decode cX5_init 38 = .ok (.putfield 24, 3) := by decide +kernel
theorem dX5_init_41 : decode cX5_init 41 = .ok (.return_, 1) := by decide +kernel
theorem dX5_begin_0 : decode cX5_begin 0 = .ok (.aload_n 1, 1) := by decide +kernel
theorem dX5_begin_1 : decode cX5_begin 1 = .ok (.getfield 27, 3) := by decide +kernel
theorem dX5_begin_4 : decode cX5_begin 4 = .ok (.iconst 0, 1) := by decide +kernel
theorem dX5_begin_5 : decode cX5_begin 5 = .ok (.aload_n 0, 1) := by decide +kernel
theorem dX5_begin_6 : decode cX5_begin 6 = .ok (.getfield 9, 3) := by decide +kernel
theorem dX5_begin_9 : decode cX5_begin 9 = .ok (.iconst 0, 1) := by decide +kernel
theorem dX5_begin_10 : decode cX5_begin 10 = .ok (.iconst 3, 1) := by decide +kernel
theorem dX5_begin_11 : decode cX5_begin 11 = .ok (.invokestatic 32, 3) := by decide +kernel
theorem dX5_begin_14 : decode cX5_begin 14 = .ok (.aload_n 1, 1) := by decide +kernel
theorem dX5_begin_15 : decode cX5_begin 15 = .ok (.getfield 38, 3) := by decide +kernel
theorem dX5_begin_18 : decode cX5_begin 18 = .ok (.iconst 0, 1) := by decide +kernel
theorem dX5_begin_19 : decode cX5_begin 19 = .ok (.aload_n 0, 1) := by decide +kernel
theorem dX5_begin_20 : decode cX5_begin 20 = .ok (.getfield 18, 3) := by decide +kernel
theorem dX5_begin_23 : decode cX5_begin 23 = .ok (.iconst 0, 1) := by decide +kernel
theorem dX5_begin_24 : decode cX5_begin 24 = .ok (.iconst 3, 1) := by decide +kernel
theorem dX5_begin_25 : decode cX5_begin 25 = .ok (.invokestatic 32, 3) := by decide +kernel
theorem dX5_begin_28 : decode cX5_begin 28 = .ok (.aload_n 0, 1) := by decide +kernel
theorem dX5_begin_29 : decode cX5_begin 29 = .ok (.invokevirtual 41, 3) := by decide +kernel
theorem dX5_begin_32 : decode cX5_begin 32 = .ok (.return_, 1) := by decide +kernel
theorem dX5_dawn_0 : decode cX5_dawn 0 = .ok (.aload_n 0, 1) := by decide +kernel
theorem dX5_dawn_1 : decode cX5_dawn 1 = .ok (.iconst 0, 1) := by decide +kernel
theorem dX5_dawn_2 : decode cX5_dawn 2 = .ok (.putfield 44, 3) := by decide +kernel
theorem dX5_dawn_5 : decode cX5_dawn 5 = .ok (.iconst 0, 1) := by decide +kernel
theorem dX5_dawn_6 : decode cX5_dawn 6 = .ok (.istore_n 1, 1) := by decide +kernel
theorem dX5_dawn_7 : decode cX5_dawn 7 = .ok (.iload_n 1, 1) := by decide +kernel
theorem dX5_dawn_8 : decode cX5_dawn 8 = .ok (.iconst 3, 1) := by decide +kernel
theorem dX5_dawn_9 : decode cX5_dawn 9 = .ok (.if_icmp .ge 16, 3) := by decide +kernel
theorem dX5_dawn_12 : decode cX5_dawn 12 = .ok (.aload_n 0, 1) := by decide +kernel
theorem dX5_dawn_13 : decode cX5_dawn 13 = .ok (.getfield 15, 3) := by decide +kernel
theorem dX5_dawn_16 : decode cX5_dawn 16 = .ok (.iload_n 1, 1) := by decide +kernel
theorem dX5_dawn_17 : decode cX5_dawn 17 = .ok (.iconst 0, 1) := by decide +kernel
theorem dX5_dawn_18 : decode cX5_dawn 18 = .ok (.iastore, 1) := by decide +kernel
theorem dX5_dawn_19 : decode cX5_dawn 19 = .ok (.iinc 1 1, 3) := by decide +kernel
theorem dX5_dawn_22 : decode cX5_dawn 22 = .ok (.goto (-15), 3) := by decide +kernel
theorem dX5_dawn_25 : decode cX5_dawn 25 = .ok (.iconst 0, 1) := by decide +kernel
theorem dX5_dawn_26 : decode cX5_dawn 26 = .ok (.istore_n 1, 1) := by decide +kernel
theorem dX5_dawn_27 : decode cX5_dawn 27 = .ok (.iload_n 1, 1) := by decide +kernel
theorem dX5_dawn_28 : decode cX5_dawn 28 = .ok (.bipush 7, 2) := by decide +kernel
theorem dX5_dawn_30 : decode cX5_dawn 30 = .ok (.if_icmp .ge 24, 3) := by decide +kernel
theorem dX5_dawn_33 : decode cX5_dawn 33 = .ok (.aload_n 0, 1) := by decide +kernel
theorem dX5_dawn_34 : decode cX5_dawn 34 = .ok (.getfield 21, 3) := by decide +kernel
theorem dX5_dawn_37 : decode cX5_dawn 37 = .ok (.iload_n 1, 1) := by decide +kernel
theorem dX5_dawn_38 : decode cX5_dawn 38 = .ok (.bipush (-4), 2) := by decide +kernel
theorem dX5_dawn_40 : decode cX5_dawn 40 = .ok (.iastore, 1) := by decide +kernel
theorem dX5_dawn_41 : decode cX5_dawn 41 = .ok (.aload_n 0, 1) := by decide +kernel
theorem dX5_dawn_42 : decode cX5_dawn 42 = .ok (.getfield 24, 3) := by decide +kernel
theorem dX5_dawn_45 : decode cX5_dawn 45 = .ok (.iload_n 1, 1) := by decide +kernel
theorem dX5_dawn_46 : decode cX5_dawn 46 = .ok (.iconst 0, 1) := by decide +kernel
theorem dX5_dawn_47 : decode cX5_dawn 47 = .ok (.iastore, 1) := by decide +kernel
theorem dX5_dawn_48 : decode cX5_dawn 48 = .ok (.iinc 1 1, 3) := by decide +kernel
theorem dX5_dawn_51 : decode cX5_dawn 51 = .ok (.goto (-24), 3) := by decide +kernel
theorem dX5_dawn_54 : decode cX5_dawn 54 = .ok (.return_, 1) := by decide +kernel
theorem dX5_isTaken_0 : decode cX5_isTaken 0 = .ok (.aload_n 0, 1) := by decide +kernel
theorem dX5_isTaken_1 : decode cX5_isTaken 1 = .ok (.getfield 21, 3) := by decide +kernel
theorem dX5_isTaken_4 : decode cX5_isTaken 4 = .ok (.iload_n 1, 1) := by decide +kernel
theorem dX5_isTaken_5 : decode cX5_isTaken 5 = .ok (.iaload, 1) := by decide +kernel
theorem dX5_isTaken_6 : decode cX5_isTaken 6 = .ok (.bipush (-4), 2) := by decide +kernel
theorem dX5_isTaken_8 : decode cX5_isTaken 8 = .ok (.if_icmp .eq 7, 3) := by decide +kernel
theorem dX5_isTaken_11 : decode cX5_isTaken 11 = .ok (.iconst 1, 1) := by decide +kernel
theorem dX5_isTaken_12 : decode cX5_isTaken 12 = .ok (.goto 4, 3) := by decide +kernel
theorem dX5_isTaken_15 : decode cX5_isTaken 15 = .ok (.iconst 0, 1) := by decide +kernel
theorem dX5_isTaken_16 : decode cX5_isTaken 16 = .ok (.ireturn, 1) := by decide +kernel
theorem dX5_copy_0 : decode cX5_copy 0 = .ok (.aload_n 0, 1) := by decide +kernel
theorem dX5_copy_1 : decode cX5_copy 1 = .ok (.aload_n 1, 1) := by decide +kernel
theorem dX5_copy_2 : decode cX5_copy 2 = .ok (.getfield 44, 3) := by decide +kernel
theorem dX5_copy_5 : decode cX5_copy 5 = .ok (.putfield 44, 3) := by decide +kernel
theorem dX5_copy_8 : decode cX5_copy 8 = .ok (.aload_n 1, 1) := by decide +kernel
theorem dX5_copy_9 : decode cX5_copy 9 = .ok (.getfield 9, 3) := by decide +kernel
theorem dX5_copy_12 : decode cX5_copy 12 = .ok (.iconst 0, 1) := by decide +kernel
theorem dX5_copy_13 : decode cX5_copy 13 = .ok (.aload_n 0, 1) := by decide +kernel
theorem dX5_copy_14 : decode cX5_copy 14 = .ok (.getfield 9, 3) := by decide +kernel
theorem dX5_copy_17 : decode cX5_copy 17 = .ok (.iconst 0, 1) := by decide +kernel
theorem dX5_copy_18 : decode cX5_copy 18 = .ok (.iconst 3, 1) := by decide +kernel
theorem dX5_copy_19 : decode cX5_copy 19 = .ok (.invokestatic 32, 3) := by decide +kernel
theorem dX5_copy_22 : decode cX5_copy 22 = .ok (.aload_n 1, 1) := by decide +kernel
theorem dX5_copy_23 : decode cX5_copy 23 = .ok (.getfield 15, 3) := by decide +kernel
theorem dX5_copy_26 : decode cX5_copy 26 = .ok (.iconst 0, 1) := by decide +kernel
theorem dX5_copy_27 : decode cX5_copy 27 = .ok (.aload_n 0, 1) := by decide +kernel
theorem dX5_copy_28 : decode cX5_copy 28 = .ok (.getfield 15, 3) := by decide +kernel
theorem dX5_copy_31 : decode cX5_copy 31 = .ok (.iconst 0, 1) := by decide +kernel
theorem dX5_copy_32 : decode cX5_copy 32 = .ok (.iconst 3, 1) := by decide +kernel
theorem dX5_copy_33 : decode cX5_copy 33 = .ok (.invokestatic 32, 3) := by decide +kernel
theorem dX5_copy_36 : decode cX5_copy 36 = .ok (.aload_n 1, 1) := by decide +kernel
theorem dX5_copy_37 : decode cX5_copy 37 = .ok (.getfield 18, 3) := by decide +kernel
theorem dX5_copy_40 : decode cX5_copy 40 = .ok (.iconst 0, 1) := by decide +kernel
theorem dX5_copy_41 : decode cX5_copy 41 = .ok (.aload_n 0, 1) := by decide +kernel
theorem dX5_copy_42 : decode cX5_copy 42 = .ok (.getfield 18, 3) := by decide +kernel
theorem dX5_copy_45 : decode cX5_copy 45 = .ok (.iconst 0, 1) := by decide +kernel
theorem dX5_copy_46 : decode cX5_copy 46 = .ok (.iconst 3, 1) := by decide +kernel
theorem dX5_copy_47 : decode cX5_copy 47 = .ok (.invokestatic 32, 3) := by decide +kernel
theorem dX5_copy_50 : decode cX5_copy 50 = .ok (.aload_n 1, 1) := by decide +kernel
theorem dX5_copy_51 : decode cX5_copy 51 = .ok (.getfield 21, 3) := by decide +kernel
theorem dX5_copy_54 : decode cX5_copy 54 = .ok (.iconst 0, 1) := by decide +kernel
theorem dX5_copy_55 : decode cX5_copy 55 = .ok (.aload_n 0, 1) := by decide +kernel
theorem dX5_copy_56 : decode cX5_copy 56 = .ok (.getfield 21, 3) := by decide +kernel
theorem dX5_copy_59 : decode cX5_copy 59 = .ok (.iconst 0, 1) := by decide +kernel
theorem dX5_copy_60 : decode cX5_copy 60 = .ok (.bipush 7, 2) := by decide +kernel
theorem dX5_copy_62 : decode cX5_copy 62 = .ok (.invokestatic 32, 3) := by decide +kernel
theorem dX5_copy_65 : decode cX5_copy 65 = .ok (.aload_n 1, 1) := by decide +kernel
theorem dX5_copy_66 : decode cX5_copy 66 = .ok (.getfield 24, 3) := by decide +kernel
theorem dX5_copy_69 : decode cX5_copy 69 = .ok (.iconst 0, 1) := by decide +kernel
theorem dX5_copy_70 : decode cX5_copy 70 = .ok (.aload_n 0, 1) := by decide +kernel
theorem dX5_copy_71 : decode cX5_copy 71 = .ok (.getfield 24, 3) := by decide +kernel
theorem dX5_copy_74 : decode cX5_copy 74 = .ok (.iconst 0, 1) := by decide +kernel
theorem dX5_copy_75 : decode cX5_copy 75 = .ok (.bipush 7, 2) := by decide +kernel
theorem dX5_copy_77 : decode cX5_copy 77 = .ok (.invokestatic 32, 3) := by decide +kernel
theorem dX5_copy_80 : decode cX5_copy 80 = .ok (.return_, 1) := by decide +kernel
theorem dX5_cabsAsNumber_0 : decode cX5_cabsAsNumber 0 = .ok (.lconst 0, 1) := by decide +kernel
theorem dX5_cabsAsNumber_1 : decode cX5_cabsAsNumber 1 = .ok (.lstore_n 1, 1) := by decide +kernel
theorem dX5_cabsAsNumber_2 : decode cX5_cabsAsNumber 2 = .ok (.iconst 0, 1) := by decide +kernel
theorem dX5_cabsAsNumber_3 : decode cX5_cabsAsNumber 3 = .ok (.istore_n 3, 1) := by decide +kernel
theorem dX5_cabsAsNumber_4 : decode cX5_cabsAsNumber 4 = .ok (.iload_n 3, 1) := by decide +kernel
theorem dX5_cabsAsNumber_5 : decode cX5_cabsAsNumber 5 = .ok (.iconst 3, 1) := by decide +kernel
theorem dX5_cabsAsNumber_6 : decode cX5_cabsAsNumber 6 = .ok (.if_icmp .ge 39, 3) := by decide +kernel
theorem dX5_cabsAsNumber_9 : decode cX5_cabsAsNumber 9 = .ok (.lload_n 1, 1) := by decide +kernel
theorem dX5_cabsAsNumber_10 : decode cX5_cabsAsNumber 10 = .ok (.ldc2_w 48, 3) := by decide +kernel
theorem dX5_cabsAsNumber_13 : decode cX5_cabsAsNumber 13 = .ok (.lmul, 1) := by decide +kernel
theorem dX5_cabsAsNumber_14 : decode cX5_cabsAsNumber 14 = .ok (.aload_n 0, 1) := by decide +kernel
theorem dX5_cabsAsNumber_15 : decode cX5_cabsAsNumber 15 = .ok (.getfield 9, 3) := by decide +kernel
theorem dX5_cabsAsNumber_18 : decode cX5_cabsAsNumber 18 = .ok (.iload_n 3, 1) := by decide +kernel
theorem dX5_cabsAsNumber_19 : decode cX5_cabsAsNumber 19 = .ok (.iaload, 1) := by decide +kernel
theorem dX5_cabsAsNumber_20 : decode cX5_cabsAsNumber 20 = .ok (.i2l, 1) := by decide +kernel
theorem dX5_cabsAsNumber_21 : decode cX5_cabsAsNumber 21 = .ok (.ladd, 1) := by decide +kernel
theorem dX5_cabsAsNumber_22 : decode cX5_cabsAsNumber 22 = .ok (.ldc2_w 48, 3) := by decide +kernel
theorem dX5_cabsAsNumber_25 : decode cX5_cabsAsNumber 25 = .ok (.lmul, 1) := by decide +kernel
theorem dX5_cabsAsNumber_26 : decode cX5_cabsAsNumber 26 = .ok (.aload_n 0, 1) := by decide +kernel
theorem dX5_cabsAsNumber_27 : decode cX5_cabsAsNumber 27 = .ok (.getfield 18, 3) := by decide +kernel
theorem dX5_cabsAsNumber_30 : decode cX5_cabsAsNumber 30 = .ok (.iload_n 3, 1) := by decide +kernel
theorem dX5_cabsAsNumber_31 : decode cX5_cabsAsNumber 31 = .ok (.iaload, 1) := by decide +kernel
theorem dX5_cabsAsNumber_32 : decode cX5_cabsAsNumber 32 = .ok (.i2l, 1) := by decide +kernel
theorem dX5_cabsAsNumber_33 : decode cX5_cabsAsNumber 33 = .ok (.ladd, 1) := by decide +kernel
theorem dX5_cabsAsNumber_34 : decode cX5_cabsAsNumber 34 = .ok (.ldc2_w 50, 3) := by decide +kernel
theorem dX5_cabsAsNumber_37 : decode cX5_cabsAsNumber 37 = .ok (.lsub, 1) := by decide +kernel
theorem dX5_cabsAsNumber_38 : decode cX5_cabsAsNumber 38 = .ok (.lstore_n 1, 1) := by decide +kernel
theorem dX5_cabsAsNumber_39 : decode cX5_cabsAsNumber 39 = .ok (.iinc 3 1, 3) := by decide +kernel
theorem dX5_cabsAsNumber_42 : decode cX5_cabsAsNumber 42 = .ok (.goto (-38), 3) := by decide +kernel
theorem dX5_cabsAsNumber_45 : decode cX5_cabsAsNumber 45 = .ok (.lload_n 1, 1) := by decide +kernel
theorem dX5_cabsAsNumber_46 : decode cX5_cabsAsNumber 46 = .ok (.lreturn, 1) := by decide +kernel
theorem dX6_init_0 : decode cX6_init 0 = .ok (.aload_n 0, 1) := by decide +kernel
theorem dX6_init_1 : decode cX6_init 1 = .ok (.invokespecial 3, 3) := by decide +kernel
theorem dX6_init_4 : decode cX6_init 4 = .ok (.aload_n 0, 1) := by decide +kernel
theorem dX6_init_5 : decode cX6_init 5 = .ok (.sipush 200, 3) := by decide +kernel
theorem dX6_init_8 : decode cX6_init 8 = .ok (.newarray .char, 2) := by decide +kernel
theorem dX6_init_10 : decode cX6_init 10 = .ok (.putfield 9, 3) := by decide +kernel
theorem dX6_init_13 : decode cX6_init 13 = .ok (.aload_n 0, 1) := by decide +kernel
theorem dX6_init_14 : decode cX6_init 14 = .ok (.iconst 5, 1) := by decide +kernel
theorem dX6_init_15 : decode cX6_init 15 = .ok (.newarray .int, 2) := by decide +kernel
theorem dX6_init_17 : decode cX6_init 17 = .ok (.putfield 15, 3) := by decide +kernel
theorem dX6_init_20 : decode cX6_init 20 = .ok (.return_, 1) := by decide +kernel
theorem dX6_add_0 : decode cX6_add 0 = .ok (.aload_n 0, 1) := by decide +kernel
theorem dX6_add_1 : decode cX6_add 1 = .ok (.getfield 19, 3) := by decide +kernel
theorem dX6_add_4 : decode cX6_add 4 = .ok (.sipush 200, 3) := by decide +kernel
theorem dX6_add_7 : decode cX6_add 7 = .ok (.if_icmp .lt 5, 3) := by decide +kernel
theorem dX6_add_10 : decode cX6_add 10 = .ok (.iconst 0, 1) := by decide +kernel
theorem dX6_add_11 : decode cX6_add 11 = .ok (.ireturn, 1) := by decide +kernel
theorem dX6_add_12 : decode cX6_add 12 = .ok (.aload_n 0, 1) := by decide +kernel
theorem dX6_add_13 : decode cX6_add 13 = .ok (.getfield 9, 3) := by decide +kernel
theorem dX6_add_16 : decode cX6_add 16 = .ok (.aload_n 0, 1) := by decide +kernel
theorem dX6_add_17 : decode cX6_add 17 = .ok (.getfield 19, 3) := by decide +kernel
theorem dX6_add_20 : decode cX6_add 20 = .ok (.iload_n 1, 1) := by decide +kernel
theorem dX6_add_21 : decode cX6_add 21 = .ok (.castore, 1) := by decide +kernel
theorem dX6_add_22 : decode cX6_add 22 = .ok (.aload_n 0, 1) := by decide +kernel
theorem dX6_add_23 : decode cX6_add 23 = .ok (.dup, 1) := by decide +kernel
theorem dX6_add_24 : decode cX6_add 24 = .ok (.getfield 19, 3) := by decide +kernel
theorem dX6_add_27 : decode cX6_add 27 = .ok (.iconst 1, 1) := by decide +kernel
theorem dX6_add_28 : decode cX6_add 28 = .ok (.iadd, 1) := by decide +kernel
theorem dX6_add_29 : decode cX6_add 29 = .ok (.putfield 19, 3) := by decide +kernel
theorem dX6_add_32 : decode cX6_add 32 = .ok (.iconst 1, 1) := by decide +kernel
theorem dX6_add_33 : decode cX6_add 33 = .ok (.ireturn, 1) := by decide +kernel
theorem dX6_readInto_0 : decode cX6_readInto 0 = .ok (.aload_n 1, 1) := by decide +kernel
theorem dX6_readInto_1 : decode cX6_readInto 1 = .ok (.invokevirtual 23, 3) := by decide +kernel
theorem dX6_readInto_4 : decode cX6_readInto 4 = .ok (.iconst 0, 1) := by decide +kernel
theorem dX6_readInto_5 : decode cX6_readInto 5 = .ok (.istore_n 2, 1) := by decide +kernel
theorem dX6_readInto_6 : decode cX6_readInto 6 = .ok (.iconst 0, 1) := by decide +kernel
theorem dX6_readInto_7 : decode cX6_readInto 7 = .ok (.istore_n 3, 1) := by decide +kernel
theorem dX6_readInto_8 : decode cX6_readInto 8 = .ok (.iload_n 3, 1) := by decide +kernel
theorem dX6_readInto_9 : decode cX6_readInto 9 = .ok (.aload_n 0, 1) := by decide +kernel
theorem dX6_readInto_10 : decode cX6_readInto 10 = .ok (.getfield 19, 3) := by decide +kernel
theorem dX6_readInto_13 : decode cX6_readInto 13 = .ok (.if_icmp .ge 49, 3) := by decide +kernel
theorem dX6_readInto_16 : decode cX6_readInto 16 = .ok (.aload_n 0, 1) := by decide +kernel
theorem dX6_readInto_17 : decode cX6_readInto 17 = .ok (.getfield 9, 3) := by decide +kernel
theorem dX6_readInto_20 : decode cX6_readInto 20 = .ok (.iload_n 3, 1) := by decide +kernel
theorem dX6_readInto_21 : decode cX6_readInto 21 = .ok (.caload, 1) := by decide +kernel
theorem dX6_readInto_22 : decode cX6_readInto 22 = .ok (.bipush 59, 2) := by decide +kernel
theorem dX6_readInto_24 : decode cX6_readInto 24 = .ok (.if_icmp .ne 32, 3) := by decide +kernel
theorem dX6_readInto_27 : decode cX6_readInto 27 = .ok (.aload_n 0, 1) := by decide +kernel
theorem dX6_readInto_28 : decode cX6_readInto 28 = .ok (.iload_n 2, 1) := by decide +kernel
theorem dX6_readInto_29 : decode cX6_readInto 29 = .ok (.iload_n 3, 1) := by decide +kernel
theorem dX6_readInto_30 : decode cX6_readInto 30 = .ok (.invokevirtual 28, 3) := by decide +kernel
theorem dX6_readInto_33 : decode cX6_readInto 33 = .ok (.ifCond .eq 17, 3) := by decide +kernel
theorem dX6_readInto_36 : decode cX6_readInto 36 = .ok (.aload_n 0, 1) := by decide +kernel
theorem dX6_readInto_37 : decode cX6_readInto 37 = .ok (.aload_n 1, 1) := by decide +kernel
theorem dX6_readInto_38 : decode cX6_readInto 38 = .ok (.aload_n 0, 1) := by decide +kernel
theorem dX6_readInto_39 : decode cX6_readInto 39 = .ok (.getfield 9, 3) := by decide +kernel
theorem dX6_readInto_42 : decode cX6_readInto 42 = .ok (.iload_n 2, 1) := by decide +kernel
theorem dX6_readInto_43 : decode cX6_readInto 43 = .ok (.caload, 1) := by decide +kernel
theorem dX6_readInto_44 : decode cX6_readInto 44 = .ok (.invokevirtual 32, 3) := by decide +kernel
theorem dX6_readInto_47 : decode cX6_readInto 47 = .ok (.ifCond .ne 5, 3) := by decide +kernel
theorem dX6_readInto_50 : decode cX6_readInto 50 = .ok (.iload_n 2, 1) := by decide +kernel
theorem dX6_readInto_51 : decode cX6_readInto 51 = .ok (.ireturn, 1) := by decide +kernel
theorem dX6_readInto_52 : decode cX6_readInto 52 = .ok (.iload_n 3, 1) := by decide +kernel
theorem dX6_readInto_53 : decode cX6_readInto 53 = .ok (.iconst 1, 1) := by decide +kernel
theorem dX6_readInto_54 : decode cX6_readInto 54 = .ok (.iadd, 1) := by decide +kernel
theorem dX6_readInto_55 : decode cX6_readInto 55 = .ok (.istore_n 2, 1) := by decide +kernel
theorem dX6_readInto_56 : decode cX6_readInto 56 = .ok (.iinc 3 1, 3) := by decide +kernel
theorem dX6_readInto_59 : decode cX6_readInto 59 = .ok (.goto (-51), 3) := by decide +kernel
theorem dX6_readInto_62 : decode cX6_readInto 62 = .ok (.iload_n 2, 1) := by decide +kernel
theorem dX6_readInto_63 : decode cX6_readInto 63 = .ok (.aload_n 0, 1) := by decide +kernel
theorem dX6_readInto_64 : decode cX6_readInto 64 = .ok (.getfield 19, 3) := by decide +kernel
theorem dX6_readInto_67 : decode cX6_readInto 67 = .ok (.if_icmp .ge 7, 3) := by decide +kernel
theorem dX6_readInto_70 : decode cX6_readInto 70 = .ok (.iload_n 2, 1) := by decide +kernel
theorem dX6_readInto_71 : decode cX6_readInto 71 = .ok (.goto 5, 3) := by decide +kernel
theorem dX6_readInto_74 : decode cX6_readInto 74 = .ok (.bipush (-4), 2) := by decide +kernel
theorem dX6_readInto_76 : decode cX6_readInto 76 = .ok (.ireturn, 1) := by decide +kernel
theorem dX6_readNumbers_0 : decode cX6_readNumbers 0 = .ok (.aload_n 0, 1) := by decide +kernel
theorem dX6_readNumbers_1 : decode cX6_readNumbers 1 = .ok (.iconst 0, 1) := by decide +kernel
theorem dX6_readNumbers_2 : decode cX6_readNumbers 2 = .ok (.putfield 36, 3) := by decide +kernel
theorem dX6_readNumbers_5 : decode cX6_readNumbers 5 = .ok (.iconst 0, 1) := by decide +kernel
theorem dX6_readNumbers_6 : decode cX6_readNumbers 6 = .ok (.istore_n 3, 1) := by decide +kernel
theorem dX6_readNumbers_7 : decode cX6_readNumbers 7 = .ok (.iconst 0, 1) := by decide +kernel
theorem dX6_readNumbers_8 : decode cX6_readNumbers 8 = .ok (.istore 4, 2) := by decide +kernel
theorem dX6_readNumbers_10 : decode cX6_readNumbers 10 = .ok (.iload_n 1, 1) := by decide +kernel
theorem dX6_readNumbers_11 : decode cX6_readNumbers 11 = .ok (.iconst 1, 1) := by decide +kernel
theorem dX6_readNumbers_12 : decode cX6_readNumbers 12 = .ok (.iadd, 1) := by decide +kernel
theorem dX6_readNumbers_13 : decode cX6_readNumbers 13 = .ok (.istore 5, 2) := by decide +kernel
theorem dX6_readNumbers_15 : decode cX6_readNumbers 15 = .ok (.iload 5, 2) := by decide +kernel
theorem dX6_readNumbers_17 : decode cX6_readNumbers 17 = .ok (.iload_n 2, 1) := by decide +kernel
theorem dX6_readNumbers_18 : decode cX6_readNumbers 18 = .ok (.if_icmp .gt 113, 3) := by decide +kernel
theorem dX6_readNumbers_21 : decode cX6_readNumbers 21 = .ok (.aload_n 0, 1) := by decide +kernel
theorem dX6_readNumbers_22 : decode cX6_readNumbers 22 = .ok (.getfield 9, 3) := by decide +kernel
theorem dX6_readNumbers_25 : decode cX6_readNumbers 25 = .ok (.iload 5, 2) := by decide +kernel
theorem dX6_readNumbers_27 : decode cX6_readNumbers 27 = .ok (.caload, 1) := by decide +kernel
theorem dX6_readNumbers_28 : decode cX6_readNumbers 28 = .ok (.istore 6, 2) := by decide +kernel
theorem dX6_readNumbers_30 : decode cX6_readNumbers 30 = .ok (.iload 6, 2) := by decide +kernel
theorem dX6_readNumbers_32 : decode cX6_readNumbers 32 = .ok (.bipush 48, 2) := by decide +kernel
theorem dX6_readNumbers_34 : decode cX6_readNumbers 34 = .ok (.if_icmp .lt 34, 3) := by decide +kernel
theorem dX6_readNumbers_37 : decode cX6_readNumbers 37 = .ok (.iload 6, 2) := by decide +kernel
theorem dX6_readNumbers_39 : decode cX6_readNumbers 39 = .ok (.bipush 57, 2) := by decide +kernel
theorem dX6_readNumbers_41 : decode cX6_readNumbers 41 = .ok (.if_icmp .gt 27, 3) := by decide +kernel
theorem dX6_readNumbers_44 : decode cX6_readNumbers 44 = .ok (.iload_n 3, 1) := by decide +kernel
theorem dX6_readNumbers_45 : decode cX6_readNumbers 45 = .ok (.iconst 2, 1) := by decide +kernel
theorem dX6_readNumbers_46 : decode cX6_readNumbers 46 = .ok (.if_icmp .ge 22, 3) := by decide +kernel
theorem dX6_readNumbers_49 : decode cX6_readNumbers 49 = .ok (.iload 4, 2) := by decide +kernel
theorem dX6_readNumbers_51 : decode cX6_readNumbers 51 = .ok (.bipush 10, 2) := by decide +kernel
theorem dX6_readNumbers_53 : decode cX6_readNumbers 53 = .ok (.imul, 1) := by decide +kernel
theorem dX6_readNumbers_54 : decode cX6_readNumbers 54 = .ok (.iload 6, 2) := by decide +kernel
theorem dX6_readNumbers_56 : decode cX6_readNumbers 56 = .ok (.iadd, 1) := by decide +kernel
theorem dX6_readNumbers_57 : decode cX6_readNumbers 57 = .ok (.bipush 48, 2) := by decide +kernel
theorem dX6_readNumbers_59 : decode cX6_readNumbers 59 = .ok (.isub, 1) := by decide +kernel
theorem dX6_readNumbers_60 : decode cX6_readNumbers 60 = .ok (.istore 4, 2) := by decide +kernel
theorem dX6_readNumbers_62 : decode cX6_readNumbers 62 = .ok (.iinc 3 1, 3) := by decide +kernel
theorem dX6_readNumbers_65 : decode cX6_readNumbers 65 = .ok (.goto 60, 3) := by decide +kernel
theorem dX6_readNumbers_68 : decode cX6_readNumbers 68 = .ok (.iload 6, 2) := by decide +kernel
theorem dX6_readNumbers_70 : decode cX6_readNumbers 70 = .ok (.bipush 44, 2) := by decide +kernel
theorem dX6_readNumbers_72 : decode cX6_readNumbers 72 = .ok (.if_icmp .eq 10, 3) := by decide +kernel
theorem dX6_readNumbers_75 : decode cX6_readNumbers 75 = .ok (.iload 6, 2) := by decide +kernel
theorem dX6_readNumbers_77 : decode cX6_readNumbers 77 = .ok (.bipush 59, 2) := by decide +kernel
theorem dX6_readNumbers_79 : decode cX6_readNumbers 79 = .ok (.if_icmp .ne 44, 3) := by decide +kernel
theorem dX6_readNumbers_82 : decode cX6_readNumbers 82 = .ok (.iload_n 3, 1) := by decide +kernel
theorem dX6_readNumbers_83 : decode cX6_readNumbers 83 = .ok (.ifCond .le 40, 3) := by decide +kernel
theorem dX6_readNumbers_86 : decode cX6_readNumbers 86 = .ok (.aload_n 0, 1) := by decide +kernel
theorem dX6_readNumbers_87 : decode cX6_readNumbers 87 = .ok (.getfield 36, 3) := by decide +kernel
theorem dX6_readNumbers_90 : decode cX6_readNumbers 90 = .ok (.iconst 5, 1) := by decide +kernel
theorem dX6_readNumbers_91 : decode cX6_readNumbers 91 = .ok (.if_icmp .ge 32, 3) := by decide +kernel
theorem dX6_readNumbers_94 : decode cX6_readNumbers 94 = .ok (.aload_n 0, 1) := by decide +kernel
theorem dX6_readNumbers_95 : decode cX6_readNumbers 95 = .ok (.getfield 15, 3) := by decide +kernel
theorem dX6_readNumbers_98 : decode cX6_readNumbers 98 = .ok (.aload_n 0, 1) := by decide +kernel
theorem dX6_readNumbers_99 : decode cX6_readNumbers 99 = .ok (.getfield 36, 3) := by decide +kernel
theorem dX6_readNumbers_102 : decode cX6_readNumbers 102 = .ok (.iload 4, 2) := by decide +kernel
theorem dX6_readNumbers_104 : decode cX6_readNumbers 104 = .ok (.iastore, 1) := by decide +kernel
theorem dX6_readNumbers_105 : decode cX6_readNumbers 105 = .ok (.aload_n 0, 1) := by decide +kernel
theorem dX6_readNumbers_106 : decode cX6_readNumbers 106 = .ok (.dup, 1) := by decide +kernel
theorem dX6_readNumbers_107 : decode cX6_readNumbers 107 = .ok (.getfield 36, 3) := by decide +kernel
theorem dX6_readNumbers_110 : decode cX6_readNumbers 110 = .ok (.iconst 1, 1) := by decide +kernel
theorem dX6_readNumbers_111 : decode cX6_readNumbers 111 = .ok (.iadd, 1) := by decide +kernel
theorem dX6_readNumbers_112 : decode cX6_readNumbers 112 = .ok (.putfield 36, 3) := by decide +kernel
theorem dX6_readNumbers_115 : decode cX6_readNumbers 115 = .ok (.iconst 0, 1) := by decide +kernel
theorem dX6_readNumbers_116 : decode cX6_readNumbers 116 = .ok (.istore_n 3, 1) := by decide +kernel
theorem dX6_readNumbers_117 : decode cX6_readNumbers 117 = .ok (.iconst 0, 1) := by decide +kernel
theorem dX6_readNumbers_118 : decode cX6_readNumbers 118 = .ok (.istore 4, 2) := by decide +kernel
theorem dX6_readNumbers_120 : decode cX6_readNumbers 120 = .ok (.goto 5, 3) := by decide +kernel
theorem dX6_readNumbers_123 : decode cX6_readNumbers 123 = .ok (.iconst 0, 1) := by decide +kernel
theorem dX6_readNumbers_124 : decode cX6_readNumbers 124 = .ok (.ireturn, 1) := by decide +kernel
theorem dX6_readNumbers_125 : decode cX6_readNumbers 125 = .ok (.iinc 5 1, 3) := by decide +kernel
theorem dX6_readNumbers_128 : decode cX6_readNumbers 128 = .ok (.goto (-113), 3) := by decide +kernel
theorem dX6_readNumbers_131 : decode cX6_readNumbers 131 = .ok (.iconst 1, 1) := by decide +kernel
theorem dX6_readNumbers_132 : decode cX6_readNumbers 132 = .ok (.ireturn, 1) := by decide +kernel
theorem dX6_tell_0 : decode cX6_tell 0 = .ok (.iload_n 2, 1) := by decide +kernel
theorem dX6_tell_1 : decode cX6_tell 1 = .ok (.bipush 103, 2) := by decide +kernel
theorem dX6_tell_3 : decode cX6_tell 3 = .ok (.if_icmp .ne 36, 3) := by decide +kernel
theorem dX6_tell_6 : decode cX6_tell 6 = .ok (.aload_n 0, 1) := by decide +kernel
theorem dX6_tell_7 : decode cX6_tell 7 = .ok (.getfield 36, 3) := by decide +kernel
theorem dX6_tell_10 : decode cX6_tell 10 = .ok (.iconst 2, 1) := by decide +kernel
theorem dX6_tell_11 : decode cX6_tell 11 = .ok (.if_icmp .ne 26, 3) := by decide +kernel
theorem dX6_tell_14 : decode cX6_tell 14 = .ok (.aload_n 1, 1) := by decide +kernel
theorem dX6_tell_15 : decode cX6_tell 15 = .ok (.aload_n 0, 1) := by decide +kernel
theorem dX6_tell_16 : decode cX6_tell 16 = .ok (.getfield 15, 3) := by decide +kernel
theorem dX6_tell_19 : decode cX6_tell 19 = .ok (.iconst 0, 1) := by decide +kernel
theorem dX6_tell_20 : decode cX6_tell 20 = .ok (.iaload, 1) := by decide +kernel
theorem dX6_tell_21 : decode cX6_tell 21 = .ok (.aload_n 0, 1) := by decide +kernel
theorem dX6_tell_22 : decode cX6_tell 22 = .ok (.getfield 15, 3) := by decide +kernel
theorem dX6_tell_25 : decode cX6_tell 25 = .ok (.iconst 1, 1) := by decide +kernel
theorem dX6_tell_26 : decode cX6_tell 26 = .ok (.iaload, 1) := by decide +kernel
theorem dX6_tell_27 : decode cX6_tell 27 = .ok (.invokevirtual 39, 3) := by decide +kernel
theorem dX6_tell_30 : decode cX6_tell 30 = .ok (.ifCond .eq 7, 3) := by decide +kernel
theorem dX6_tell_33 : decode cX6_tell 33 = .ok (.iconst 1, 1) := by decide +kernel
theorem dX6_tell_34 : decode cX6_tell 34 = .ok (.goto 4, 3) := by decide +kernel
theorem dX6_tell_37 : decode cX6_tell 37 = .ok (.iconst 0, 1) := by decide +kernel
theorem dX6_tell_38 : decode cX6_tell 38 = .ok (.ireturn, 1) := by decide +kernel
theorem dX6_tell_39 : decode cX6_tell 39 = .ok (.iload_n 2, 1) := by decide +kernel
theorem dX6_tell_40 : decode cX6_tell 40 = .ok (.bipush 99, 2) := by decide +kernel
theorem dX6_tell_42 : decode cX6_tell 42 = .ok (.if_icmp .ne 42, 3) := by decide +kernel
theorem dX6_tell_45 : decode cX6_tell 45 = .ok (.aload_n 0, 1) := by decide +kernel
theorem dX6_tell_46 : decode cX6_tell 46 = .ok (.getfield 36, 3) := by decide +kernel
theorem dX6_tell_49 : decode cX6_tell 49 = .ok (.iconst 3, 1) := by decide +kernel
theorem dX6_tell_50 : decode cX6_tell 50 = .ok (.if_icmp .ne 32, 3) := by decide +kernel
theorem dX6_tell_53 : decode cX6_tell 53 = .ok (.aload_n 1, 1) := by decide +kernel
theorem dX6_tell_54 : decode cX6_tell 54 = .ok (.aload_n 0, 1) := by decide +kernel
theorem dX6_tell_55 : decode cX6_tell 55 = .ok (.getfield 15, 3) := by decide +kernel
theorem dX6_tell_58 : decode cX6_tell 58 = .ok (.iconst 0, 1) := by decide +kernel
theorem dX6_tell_59 : decode cX6_tell 59 = .ok (.iaload, 1) := by decide +kernel
theorem dX6_tell_60 : decode cX6_tell 60 = .ok (.aload_n 0, 1) := by decide +kernel
theorem dX6_tell_61 : decode cX6_tell 61 = .ok (.getfield 15, 3) := by decide +kernel
theorem dX6_tell_64 : decode cX6_tell 64 = .ok (.iconst 1, 1) := by decide +kernel
theorem dX6_tell_65 : decode cX6_tell 65 = .ok (.iaload, 1) := by decide +kernel
theorem dX6_tell_66 : decode cX6_tell 66 = .ok (.aload_n 0, 1) := by decide +kernel
theorem dX6_tell_67 : decode cX6_tell 67 = .ok (.getfield 15, 3) := by decide +kernel
theorem dX6_tell_70 : decode cX6_tell 70 = .ok (.iconst 2, 1) := by decide +kernel
theorem dX6_tell_71 : decode cX6_tell 71 = .ok (.iaload, 1) := by decide +kernel
theorem dX6_tell_72 : decode cX6_tell 72 = .ok (.invokevirtual 42, 3) := by decide +kernel
theorem dX6_tell_75 : decode cX6_tell 75 = .ok (.ifCond .eq 7, 3) := by decide +kernel
theorem dX6_tell_78 : decode cX6_tell 78 = .ok (.iconst 1, 1) := by decide +kernel
theorem dX6_tell_79 : decode cX6_tell 79 = .ok (.goto 4, 3) := by decide +kernel
theorem dX6_tell_82 : decode cX6_tell 82 = .ok (.iconst 0, 1) := by decide +kernel
theorem dX6_tell_83 : decode cX6_tell 83 = .ok (.ireturn, 1) := by decide +kernel
theorem dX6_tell_84 : decode cX6_tell 84 = .ok (.iload_n 2, 1) := by decide +kernel
theorem dX6_tell_85 : decode cX6_tell 85 = .ok (.bipush 102, 2) := by decide +kernel
theorem dX6_tell_87 : decode cX6_tell 87 = .ok (.if_icmp .ne 26, 3) := by decide +kernel
theorem dX6_tell_90 : decode cX6_tell 90 = .ok (.aload_n 0, 1) := by decide +kernel
theorem dX6_tell_91 : decode cX6_tell 91 = .ok (.getfield 36, 3) := by decide +kernel
theorem dX6_tell_94 : decode cX6_tell 94 = .ok (.iconst 5, 1) := by decide +kernel
theorem dX6_tell_95 : decode cX6_tell 95 = .ok (.if_icmp .ne 18, 3) := by decide +kernel
theorem dX6_tell_98 : decode cX6_tell 98 = .ok (.aload_n 1, 1) := by decide +kernel
theorem dX6_tell_99 : decode cX6_tell 99 = .ok (.aload_n 0, 1) := by decide +kernel
theorem dX6_tell_100 : decode cX6_tell 100 = .ok (.getfield 15, 3) := by decide +kernel
theorem dX6_tell_103 : decode cX6_tell 103 = .ok (.invokevirtual 46, 3) := by decide +kernel
theorem dX6_tell_106 : decode cX6_tell 106 = .ok (.ifCond .eq 7, 3) := by decide +kernel
theorem dX6_tell_109 : decode cX6_tell 109 = .ok (.iconst 1, 1) := by decide +kernel
theorem dX6_tell_110 : decode cX6_tell 110 = .ok (.goto 4, 3) := by decide +kernel
theorem dX6_tell_113 : decode cX6_tell 113 = .ok (.iconst 0, 1) := by decide +kernel
theorem dX6_tell_114 : decode cX6_tell 114 = .ok (.ireturn, 1) := by decide +kernel
theorem dX7_init_0 : decode cX7_init 0 = .ok (.aload_n 0, 1) := by decide +kernel
theorem dX7_init_1 : decode cX7_init 1 = .ok (.invokespecial 1, 3) := by decide +kernel
theorem dX7_init_4 : decode cX7_init 4 = .ok (.return_, 1) := by decide +kernel
theorem dJ6_bitCount_0f7a4_0 : decode cJ6_bitCount_0f7a4 0 = .ok (.iload_n 0, 1) := by decide +kernel
theorem dJ6_bitCount_0f7a4_1 : decode cJ6_bitCount_0f7a4 1 = .ok (.iload_n 0, 1) := by decide +kernel
theorem dJ6_bitCount_0f7a4_2 : decode cJ6_bitCount_0f7a4 2 = .ok (.iconst 1, 1) := by decide +kernel
theorem dJ6_bitCount_0f7a4_3 : decode cJ6_bitCount_0f7a4 3 = .ok (.iushr, 1) := by decide +kernel
theorem dJ6_bitCount_0f7a4_4 : decode cJ6_bitCount_0f7a4 4 = .ok (.ldc_w 265, 3) := by decide +kernel
theorem dJ6_bitCount_0f7a4_7 : decode cJ6_bitCount_0f7a4 7 = .ok (.iand, 1) := by decide +kernel
theorem dJ6_bitCount_0f7a4_8 : decode cJ6_bitCount_0f7a4 8 = .ok (.isub, 1) := by decide +kernel
theorem dJ6_bitCount_0f7a4_9 : decode cJ6_bitCount_0f7a4 9 = .ok (.istore_n 0, 1) := by decide +kernel
theorem dJ6_bitCount_0f7a4_10 : decode cJ6_bitCount_0f7a4 10 = .ok (.iload_n 0, 1) := by decide +kernel
theorem dJ6_bitCount_0f7a4_11 : decode cJ6_bitCount_0f7a4 11 = .ok (.ldc_w 266, 3) := by decide +kernel
theorem dJ6_bitCount_0f7a4_14 : decode cJ6_bitCount_0f7a4 14 = .ok (.iand, 1) := by decide +kernel
theorem dJ6_bitCount_0f7a4_15 : decode cJ6_bitCount_0f7a4 15 = .ok (.iload_n 0, 1) := by decide +kernel
theorem dJ6_bitCount_0f7a4_16 : decode cJ6_bitCount_0f7a4 16 = .ok (.iconst 2, 1) := by decide +kernel
theorem dJ6_bitCount_0f7a4_17 : decode cJ6_bitCount_0f7a4 17 = .ok (.iushr, 1) := by decide +kernel
theorem dJ6_bitCount_0f7a4_18 : decode cJ6_bitCount_0f7a4 18 = .ok (.ldc_w 266, 3) := by decide +kernel
theorem dJ6_bitCount_0f7a4_21 : decode cJ6_bitCount_0f7a4 21 = .ok (.iand, 1) := by decide +kernel
theorem dJ6_bitCount_0f7a4_22 : decode cJ6_bitCount_0f7a4 22 = .ok (.iadd, 1) := by decide +kernel
theorem dJ6_bitCount_0f7a4_23 : decode cJ6_bitCount_0f7a4 23 = .ok (.istore_n 0, 1) := by decide +kernel
theorem dJ6_bitCount_0f7a4_24 : decode cJ6_bitCount_0f7a4 24 = .ok (.iload_n 0, 1) := by decide +kernel
theorem dJ6_bitCount_0f7a4_25 : decode cJ6_bitCount_0f7a4 25 = .ok (.iload_n 0, 1) := by decide +kernel
theorem dJ6_bitCount_0f7a4_26 : decode cJ6_bitCount_0f7a4 26 = .ok (.iconst 4, 1) := by decide +kernel
theorem dJ6_bitCount_0f7a4_27 : decode cJ6_bitCount_0f7a4 27 = .ok (.iushr, 1) := by decide +kernel
theorem dJ6_bitCount_0f7a4_28 : decode cJ6_bitCount_0f7a4 28 = .ok (.iadd, 1) := by decide +kernel
theorem dJ6_bitCount_0f7a4_29 : decode cJ6_bitCount_0f7a4 29 = .ok (.ldc_w 267, 3) := by decide +kernel
theorem dJ6_bitCount_0f7a4_32 : decode cJ6_bitCount_0f7a4 32 = .ok (.iand, 1) := by decide +kernel
theorem dJ6_bitCount_0f7a4_33 : decode cJ6_bitCount_0f7a4 33 = .ok (.istore_n 0, 1) := by decide +kernel
theorem dJ6_bitCount_0f7a4_34 : decode cJ6_bitCount_0f7a4 34 = .ok (.iload_n 0, 1) := by decide +kernel
theorem dJ6_bitCount_0f7a4_35 : decode cJ6_bitCount_0f7a4 35 = .ok (.iload_n 0, 1) := by decide +kernel
theorem dJ6_bitCount_0f7a4_36 : decode cJ6_bitCount_0f7a4 36 = .ok (.bipush 8, 2) := by decide +kernel
theorem dJ6_bitCount_0f7a4_38 : decode cJ6_bitCount_0f7a4 38 = .ok (.iushr, 1) := by decide +kernel
theorem dJ6_bitCount_0f7a4_39 : decode cJ6_bitCount_0f7a4 39 = .ok (.iadd, 1) := by decide +kernel
theorem dJ6_bitCount_0f7a4_40 : decode cJ6_bitCount_0f7a4 40 = .ok (.istore_n 0, 1) := by decide +kernel
theorem dJ6_bitCount_0f7a4_41 : decode cJ6_bitCount_0f7a4 41 = .ok (.iload_n 0, 1) := by decide +kernel
theorem dJ6_bitCount_0f7a4_42 : decode cJ6_bitCount_0f7a4 42 = .ok (.iload_n 0, 1) := by decide +kernel
theorem dJ6_bitCount_0f7a4_43 : decode cJ6_bitCount_0f7a4 43 = .ok (.bipush 16, 2) := by decide +kernel
theorem dJ6_bitCount_0f7a4_45 : decode cJ6_bitCount_0f7a4 45 = .ok (.iushr, 1) := by decide +kernel
theorem dJ6_bitCount_0f7a4_46 : decode cJ6_bitCount_0f7a4 46 = .ok (.iadd, 1) := by decide +kernel
theorem dJ6_bitCount_0f7a4_47 : decode cJ6_bitCount_0f7a4 47 = .ok (.istore_n 0, 1) := by decide +kernel
theorem dJ6_bitCount_0f7a4_48 : decode cJ6_bitCount_0f7a4 48 = .ok (.iload_n 0, 1) := by decide +kernel
theorem dJ6_bitCount_0f7a4_49 : decode cJ6_bitCount_0f7a4 49 = .ok (.bipush 63, 2) := by decide +kernel
theorem dJ6_bitCount_0f7a4_51 : decode cJ6_bitCount_0f7a4 51 = .ok (.iand, 1) := by decide +kernel
theorem dJ6_bitCount_0f7a4_52 : decode cJ6_bitCount_0f7a4 52 = .ok (.ireturn, 1) := by decide +kernel
theorem dJ9_abs_0f7a4_0 : decode cJ9_abs_0f7a4 0 = .ok (.iload_n 0, 1) := by decide +kernel
theorem dJ9_abs_0f7a4_1 : decode cJ9_abs_0f7a4 1 = .ok (.ifCond .ge 8, 3) := by decide +kernel
theorem dJ9_abs_0f7a4_4 : decode cJ9_abs_0f7a4 4 = .ok (.iload_n 0, 1) := by decide +kernel
theorem dJ9_abs_0f7a4_5 : decode cJ9_abs_0f7a4 5 = .ok (.ineg, 1) := by decide +kernel
theorem dJ9_abs_0f7a4_6 : decode cJ9_abs_0f7a4 6 = .ok (.goto 4, 3) := by decide +kernel
theorem dJ9_abs_0f7a4_9 : decode cJ9_abs_0f7a4 9 = .ok (.iload_n 0, 1) := by decide +kernel
theorem dJ9_abs_0f7a4_10 : decode cJ9_abs_0f7a4 10 = .ok (.ireturn, 1) := by decide +kernel
theorem dJ9_max_7cf53_0 : decode cJ9_max_7cf53 0 = .ok (.iload_n 0, 1) := by decide +kernel
theorem dJ9_max_7cf53_1 : decode cJ9_max_7cf53 1 = .ok (.iload_n 1, 1) := by decide +kernel
theorem dJ9_max_7cf53_2 : decode cJ9_max_7cf53 2 = .ok (.if_icmp .lt 7, 3) := by decide +kernel
theorem dJ9_max_7cf53_5 : decode cJ9_max_7cf53 5 = .ok (.iload_n 0, 1) := by decide +kernel
theorem dJ9_max_7cf53_6 : decode cJ9_max_7cf53 6 = .ok (.goto 4, 3) := by decide +kernel
theorem dJ9_max_7cf53_9 : decode cJ9_max_7cf53 9 = .ok (.iload_n 1, 1) := by decide +kernel
theorem dJ9_max_7cf53_10 : decode cJ9_max_7cf53 10 = .ok (.ireturn, 1) := by decide +kernel
theorem dJ9_min_7cf53_0 : decode cJ9_min_7cf53 0 = .ok (.iload_n 0, 1) := by decide +kernel
theorem dJ9_min_7cf53_1 : decode cJ9_min_7cf53 1 = .ok (.iload_n 1, 1) := by decide +kernel
theorem dJ9_min_7cf53_2 : decode cJ9_min_7cf53 2 = .ok (.if_icmp .gt 7, 3) := by decide +kernel
theorem dJ9_min_7cf53_5 : decode cJ9_min_7cf53 5 = .ok (.iload_n 0, 1) := by decide +kernel
theorem dJ9_min_7cf53_6 : decode cJ9_min_7cf53 6 = .ok (.goto 4, 3) := by decide +kernel
theorem dJ9_min_7cf53_9 : decode cJ9_min_7cf53 9 = .ok (.iload_n 1, 1) := by decide +kernel
theorem dJ9_min_7cf53_10 : decode cJ9_min_7cf53 10 = .ok (.ireturn, 1) := by decide +kernel
theorem dJ0_length_8abf5_0 : decode cJ0_length_8abf5 0 = .ok (.aload_n 0, 1) := by decide +kernel
theorem dJ0_length_8abf5_1 : decode cJ0_length_8abf5 1 = .ok (.getfield 9, 3) := by decide +kernel
theorem dJ0_length_8abf5_4 : decode cJ0_length_8abf5 4 = .ok (.arraylength, 1) := by decide +kernel
theorem dJ0_length_8abf5_5 : decode cJ0_length_8abf5 5 = .ok (.aload_n 0, 1) := by decide +kernel
theorem dJ0_length_8abf5_6 : decode cJ0_length_8abf5 6 = .ok (.invokevirtual 335, 3) := by decide +kernel
theorem dJ0_length_8abf5_9 : decode cJ0_length_8abf5 9 = .ok (.ishr, 1) := by decide +kernel
theorem dJ0_length_8abf5_10 : decode cJ0_length_8abf5 10 = .ok (.ireturn, 1) := by decide +kernel
theorem dJ0_charAt_5068e_0 : decode cJ0_charAt_5068e 0 = .ok (.aload_n 0, 1) := by decide +kernel
theorem dJ0_charAt_5068e_1 : decode cJ0_charAt_5068e 1 = .ok (.invokevirtual 492, 3) := by decide +kernel
theorem dJ0_charAt_5068e_4 : decode cJ0_charAt_5068e 4 = .ok (.ifCond .eq 12, 3) := by decide +kernel
theorem dJ0_charAt_5068e_7 : decode cJ0_charAt_5068e 7 = .ok (.aload_n 0, 1) := by decide +kernel
theorem dJ0_charAt_5068e_8 : decode cJ0_charAt_5068e 8 = .ok (.getfield 9, 3) := by decide +kernel
theorem dJ0_charAt_5068e_11 : decode cJ0_charAt_5068e 11 = .ok (.iload_n 1, 1) := by decide +kernel
theorem dJ0_charAt_5068e_12 : decode cJ0_charAt_5068e 12 = .ok (.invokestatic 495, 3) := by decide +kernel
theorem dJ0_charAt_5068e_15 : decode cJ0_charAt_5068e 15 = .ok (.ireturn, 1) := by decide +kernel
theorem dJ0_charAt_5068e_16 : decode cJ0_charAt_5068e 16 = .ok (.aload_n 0, 1) := by decide +kernel
theorem dJ0_charAt_5068e_17 : decode cJ0_charAt_5068e 17 = .ok (.getfield 9, 3) := by decide +kernel
theorem dJ0_charAt_5068e_20 : decode cJ0_charAt_5068e 20 = .ok (.iload_n 1, 1) := by decide +kernel
theorem dJ0_charAt_5068e_21 : decode cJ0_charAt_5068e 21 = .ok (.invokestatic 498, 3) := by decide +kernel
theorem dJ0_charAt_5068e_24 : decode cJ0_charAt_5068e 24 = .ok (.ireturn, 1) := by decide +kernel
theorem dJ0_coder_7d493_0 : decode cJ0_coder_7d493 0 = .ok (.getstatic 38, 3) := by decide +kernel
theorem dJ0_coder_7d493_3 : decode cJ0_coder_7d493 3 = .ok (.ifCond .eq 10, 3) := by decide +kernel
theorem dJ0_coder_7d493_6 : decode cJ0_coder_7d493 6 = .ok (.aload_n 0, 1) := by decide +kernel
theorem dJ0_coder_7d493_7 : decode cJ0_coder_7d493 7 = .ok (.getfield 15, 3) := by decide +kernel
theorem dJ0_coder_7d493_10 : decode cJ0_coder_7d493 10 = .ok (.goto 4, 3) := by decide +kernel
theorem dJ0_coder_7d493_13 : decode cJ0_coder_7d493 13 = .ok (.iconst 1, 1) := by decide +kernel
theorem dJ0_coder_7d493_14 : decode cJ0_coder_7d493 14 = .ok (.ireturn, 1) := by decide +kernel
theorem dJ0_isLatin1_aae02_0 : decode cJ0_isLatin1_aae02 0 = .ok (.getstatic 38, 3) := by decide +kernel
theorem dJ0_isLatin1_aae02_3 : decode cJ0_isLatin1_aae02 3 = .ok (.ifCond .eq 14, 3) := by decide +kernel
theorem dJ0_isLatin1_aae02_6 : decode cJ0_isLatin1_aae02 6 = .ok (.aload_n 0, 1) := by decide +kernel
theorem dJ0_isLatin1_aae02_7 : decode cJ0_isLatin1_aae02 7 = .ok (.getfield 15, 3) := by decide +kernel
theorem dJ0_isLatin1_aae02_10 : decode cJ0_isLatin1_aae02 10 = .ok (.ifCond .ne 7, 3) := by decide +kernel
theorem dJ0_isLatin1_aae02_13 : decode cJ0_isLatin1_aae02 13 = .ok (.iconst 1, 1) := by decide +kernel
theorem dJ0_isLatin1_aae02_14 : decode cJ0_isLatin1_aae02 14 = .ok (.goto 4, 3) := by decide +kernel
theorem dJ0_isLatin1_aae02_17 : decode cJ0_isLatin1_aae02 17 = .ok (.iconst 0, 1) := by decide +kernel
theorem dJ0_isLatin1_aae02_18 : decode cJ0_isLatin1_aae02 18 = .ok (.ireturn, 1) := by decide +kernel
theorem dJ0_checkIndex_df160_0 : decode cJ0_checkIndex_df160 0 = .ok (.iload_n 0, 1) := by decide +kernel
theorem dJ0_checkIndex_df160_1 : decode cJ0_checkIndex_df160 1 = .ok (.iload_n 1, 1) := by decide +kernel
theorem dJ0_checkIndex_df160_2 : decode cJ0_checkIndex_df160 2 = .ok (.getstatic 1053, 3) := by decide +kernel
theorem dJ0_checkIndex_df160_5 : decode cJ0_checkIndex_df160 5 = .ok (.invokestatic 1059, 3) := by decide +kernel
theorem dJ0_checkIndex_df160_8 : decode cJ0_checkIndex_df160 8 = .ok (.pop, 1) := by decide +kernel
theorem dJ0_checkIndex_df160_9 : decode cJ0_checkIndex_df160 9 = .ok (.return_, 1) := by decide +kernel
theorem dJ1_charAt_3b067_0 : decode cJ1_charAt_3b067 0 = .ok (.iload_n 1, 1) := by decide +kernel
theorem dJ1_charAt_3b067_1 : decode cJ1_charAt_3b067 1 = .ok (.aload_n 0, 1) := by decide +kernel
theorem dJ1_charAt_3b067_2 : decode cJ1_charAt_3b067 2 = .ok (.arraylength, 1) := by decide +kernel
theorem dJ1_charAt_3b067_3 : decode cJ1_charAt_3b067 3 = .ok (.invokestatic 9, 3) := by decide +kernel
theorem dJ1_charAt_3b067_6 : decode cJ1_charAt_3b067 6 = .ok (.aload_n 0, 1) := by decide +kernel
theorem dJ1_charAt_3b067_7 : decode cJ1_charAt_3b067 7 = .ok (.iload_n 1, 1) := by decide +kernel
theorem dJ1_charAt_3b067_8 : decode cJ1_charAt_3b067 8 = .ok (.baload, 1) := by decide +kernel
theorem dJ1_charAt_3b067_9 : decode cJ1_charAt_3b067 9 = .ok (.sipush 255, 3) := by decide +kernel
theorem dJ1_charAt_3b067_12 : decode cJ1_charAt_3b067 12 = .ok (.iand, 1) := by decide +kernel
theorem dJ1_charAt_3b067_13 : decode cJ1_charAt_3b067 13 = .ok (.i2c, 1) := by decide +kernel
theorem dJ1_charAt_3b067_14 : decode cJ1_charAt_3b067 14 = .ok (.ireturn, 1) := by decide +kernel
theorem dJ2_getChar_3b067_0 : decode cJ2_getChar_3b067 0 = .ok (.getstatic 44, 3) := by decide +kernel
theorem dJ2_getChar_3b067_3 : decode cJ2_getChar_3b067 3 = .ok (.ifCond .ne 25, 3) := by decide +kernel
theorem dJ2_getChar_3b067_6 : decode cJ2_getChar_3b067 6 = .ok (.iload_n 1, 1) := by decide +kernel
theorem dJ2_getChar_3b067_7 : decode cJ2_getChar_3b067 7 = .ok (.ifCond .lt 11, 3) := by decide +kernel
theorem dJ2_getChar_3b067_10 : decode cJ2_getChar_3b067 10 = .ok (.iload_n 1, 1) := by decide +kernel
theorem dJ2_getChar_3b067_11 : decode cJ2_getChar_3b067 11 = .ok (.aload_n 0, 1) := by decide +kernel
theorem dJ2_getChar_3b067_12 : decode cJ2_getChar_3b067 12 = .ok (.invokestatic 48, 3) := by decide +kernel
theorem dJ2_getChar_3b067_15 : decode cJ2_getChar_3b067 15 = .ok (.if_icmp .lt 13, 3) := by decide +kernel
theorem dJ2_getChar_3b067_18 : decode cJ2_getChar_3b067 18 = .ok (.new 52, 3) := by decide +kernel
theorem dJ2_getChar_3b067_21 : decode cJ2_getChar_3b067 21 = .ok (.dup, 1) := by decide +kernel
theorem dJ2_getChar_3b067_22 : decode cJ2_getChar_3b067 22 = .ok (.ldc 54, 2) := by decide +kernel
theorem dJ2_getChar_3b067_24 : decode cJ2_getChar_3b067 24 = .ok (.invokespecial 56, 3) := by decide +kernel
theorem dJ2_getChar_3b067_27 : decode cJ2_getChar_3b067 27 = .ok (.athrow, 1) := by decide +kernel
theorem dJ2_getChar_3b067_28 : decode cJ2_getChar_3b067 28 = .ok (.iload_n 1, 1) := by decide +kernel
theorem dJ2_getChar_3b067_29 : decode cJ2_getChar_3b067 29 = .ok (.iconst 1, 1) := by decide +kernel
theorem dJ2_getChar_3b067_30 : decode cJ2_getChar_3b067 30 = .ok (.ishl, 1) := by decide +kernel
theorem dJ2_getChar_3b067_31 : decode cJ2_getChar_3b067 31 = .ok (.istore_n 1, 1) := by decide +kernel
theorem dJ2_getChar_3b067_32 : decode cJ2_getChar_3b067 32 = .ok (.aload_n 0, 1) := by decide +kernel
theorem dJ2_getChar_3b067_33 : decode cJ2_getChar_3b067 33 = .ok (.iload_n 1, 1) := by decide +kernel
theorem dJ2_getChar_3b067_34 : decode cJ2_getChar_3b067 34 = .ok (.iinc 1 1, 3) := by decide +kernel
theorem dJ2_getChar_3b067_37 : decode cJ2_getChar_3b067 37 = .ok (.baload, 1) := by decide +kernel
theorem dJ2_getChar_3b067_38 : decode cJ2_getChar_3b067 38 = .ok (.sipush 255, 3) := by decide +kernel
theorem dJ2_getChar_3b067_41 : decode cJ2_getChar_3b067 41 = .ok (.iand, 1) := by decide +kernel
theorem dJ2_getChar_3b067_42 : decode cJ2_getChar_3b067 42 = .ok (.getstatic 59, 3) := by decide +kernel
theorem dJ2_getChar_3b067_45 : decode cJ2_getChar_3b067 45 = .ok (.ishl, 1) := by decide +kernel
theorem dJ2_getChar_3b067_46 : decode cJ2_getChar_3b067 46 = .ok (.aload_n 0, 1) := by decide +kernel
theorem dJ2_getChar_3b067_47 : decode cJ2_getChar_3b067 47 = .ok (.iload_n 1, 1) := by decide +kernel
theorem dJ2_getChar_3b067_48 : decode cJ2_getChar_3b067 48 = .ok (.baload, 1) := by decide +kernel
theorem dJ2_getChar_3b067_49 : decode cJ2_getChar_3b067 49 = .ok (.sipush 255, 3) := by decide +kernel
theorem dJ2_getChar_3b067_52 : decode cJ2_getChar_3b067 52 = .ok (.iand, 1) := by decide +kernel
theorem dJ2_getChar_3b067_53 : decode cJ2_getChar_3b067 53 = .ok (.getstatic 63, 3) := by decide +kernel
theorem dJ2_getChar_3b067_56 : decode cJ2_getChar_3b067 56 = .ok (.ishl, 1) := by decide +kernel
theorem dJ2_getChar_3b067_57 : decode cJ2_getChar_3b067 57 = .ok (.ior, 1) := by decide +kernel
theorem dJ2_getChar_3b067_58 : decode cJ2_getChar_3b067 58 = .ok (.i2c, 1) := by decide +kernel
theorem dJ2_getChar_3b067_59 : decode cJ2_getChar_3b067 59 = .ok (.ireturn, 1) := by decide +kernel
theorem dJ2_length_9d52b_0 : decode cJ2_length_9d52b 0 = .ok (.aload_n 0, 1) := by decide +kernel
theorem dJ2_length_9d52b_1 : decode cJ2_length_9d52b 1 = .ok (.arraylength, 1) := by decide +kernel
theorem dJ2_length_9d52b_2 : decode cJ2_length_9d52b 2 = .ok (.iconst 1, 1) := by decide +kernel
theorem dJ2_length_9d52b_3 : decode cJ2_length_9d52b 3 = .ok (.ishr, 1) := by decide +kernel
theorem dJ2_length_9d52b_4 : decode cJ2_length_9d52b 4 = .ok (.ireturn, 1) := by decide +kernel
theorem dJ2_charAt_3b067_0 : decode cJ2_charAt_3b067 0 = .ok (.iload_n 1, 1) := by decide +kernel
theorem dJ2_charAt_3b067_1 : decode cJ2_charAt_3b067 1 = .ok (.aload_n 0, 1) := by decide +kernel
theorem dJ2_charAt_3b067_2 : decode cJ2_charAt_3b067 2 = .ok (.invokestatic 67, 3) := by decide +kernel
theorem dJ2_charAt_3b067_5 : decode cJ2_charAt_3b067 5 = .ok (.aload_n 0, 1) := by decide +kernel
theorem dJ2_charAt_3b067_6 : decode cJ2_charAt_3b067 6 = .ok (.iload_n 1, 1) := by decide +kernel
theorem dJ2_charAt_3b067_7 : decode cJ2_charAt_3b067 7 = .ok (.invokestatic 71, 3) := by decide +kernel
theorem dJ2_charAt_3b067_10 : decode cJ2_charAt_3b067 10 = .ok (.ireturn, 1) := by decide +kernel
theorem dJ2_checkIndex_2214a_0 : decode cJ2_checkIndex_2214a 0 = .ok (.iload_n 0, 1) := by decide +kernel
theorem dJ2_checkIndex_2214a_1 : decode cJ2_checkIndex_2214a 1 = .ok (.aload_n 1, 1) := by decide +kernel
theorem dJ2_checkIndex_2214a_2 : decode cJ2_checkIndex_2214a 2 = .ok (.invokestatic 48, 3) := by decide +kernel
theorem dJ2_checkIndex_2214a_5 : decode cJ2_checkIndex_2214a 5 = .ok (.invokestatic 414, 3) := by decide +kernel
theorem dJ2_checkIndex_2214a_8 : decode cJ2_checkIndex_2214a 8 = .ok (.return_, 1) := by decide +kernel
theorem dJ3_checkIndex_8e157_0 : decode cJ3_checkIndex_8e157 0 = .ok (.iload_n 0, 1) := by decide +kernel
theorem dJ3_checkIndex_8e157_1 : decode cJ3_checkIndex_8e157 1 = .ok (.ifCond .lt 8, 3) := by decide +kernel
theorem dJ3_checkIndex_8e157_4 : decode cJ3_checkIndex_8e157 4 = .ok (.iload_n 0, 1) := by decide +kernel
theorem dJ3_checkIndex_8e157_5 : decode cJ3_checkIndex_8e157 5 = .ok (.iload_n 1, 1) := by decide +kernel
theorem dJ3_checkIndex_8e157_6 : decode cJ3_checkIndex_8e157 6 = .ok (.if_icmp .lt 10, 3) := by decide +kernel
theorem dJ3_checkIndex_8e157_9 : decode cJ3_checkIndex_8e157 9 = .ok (.aload_n 2, 1) := by decide +kernel
theorem dJ3_checkIndex_8e157_10 : decode cJ3_checkIndex_8e157 10 = .ok (.iload_n 0, 1) := by decide +kernel
theorem dJ3_checkIndex_8e157_11 : decode cJ3_checkIndex_8e157 11 = .ok (.iload_n 1, 1) := by decide +kernel
theorem dJ3_checkIndex_8e157_12 : decode cJ3_checkIndex_8e157 12 = .ok (.invokestatic 95, 3) := by decide +kernel
theorem dJ3_checkIndex_8e157_15 : decode cJ3_checkIndex_8e157 15 = .ok (.athrow, 1) := by decide +kernel
theorem dJ3_checkIndex_8e157_16 : decode cJ3_checkIndex_8e157 16 = .ok (.iload_n 0, 1) := by decide +kernel
theorem dJ3_checkIndex_8e157_17 : decode cJ3_checkIndex_8e157 17 = .ok (.ireturn, 1) := by decide +kernel
end
section
theorem dX8_init_0 : decode cX8_init 0 = .ok (.aload_n 0, 1) := by decide +kernel
theorem dX8_init_1 : decode cX8_init 1 = .ok (.invokespecial 3, 3) := by decide +kernel
theorem dX8_init_4 : decode cX8_init 4 = .ok (.aload_n 0, 1) := by decide +kernel
theorem dX8_init_5 : decode cX8_init 5 = .ok (.new 9, 3) := by decide +kernel
theorem dX8_init_8 : decode cX8_init 8 = .ok (.dup, 1) := by decide +kernel
theorem dX8_init_9 : decode cX8_init 9 = .ok (.invokespecial 11, 3) := by decide +kernel
theorem dX8_init_12 : decode cX8_init 12 = .ok (.putfield 12, 3) := by decide +kernel
theorem dX8_init_15 : decode cX8_init 15 = .ok (.aload_n 0, 1) := by decide +kernel
theorem dX8_init_16 : decode cX8_init 16 = .ok (.new 16, 3) := by decide +kernel
theorem dX8_init_19 : decode cX8_init 19 = .ok (.dup, 1) := by decide +kernel
theorem dX8_init_20 : decode cX8_init 20 = .ok (.invokespecial 18, 3) := by decide +kernel
theorem dX8_init_23 : decode cX8_init 23 = .ok (.putfield 19, 3) := by decide +kernel
theorem dX8_init_26 : decode cX8_init 26 = .ok (.aload_n 0, 1) := by decide +kernel
theorem dX8_init_27 : decode cX8_init 27 = .ok (.new 16, 3) := by decide +kernel
theorem dX8_init_30 : decode cX8_init 30 = .ok (.dup, 1) := by decide +kernel
theorem dX8_init_31 : decode cX8_init 31 = .ok (.invokespecial 18, 3) := by decide +kernel
theorem dX8_init_34 : decode cX8_init 34 = .ok (.putfield 23, 3) := by decide +kernel
theorem dX8_init_37 : decode cX8_init 37 = .ok (.aload_n 0, 1) := by decide +kernel
theorem dX8_init_38 : decode cX8_init 38 = .ok (.new 26, 3) := by decide +kernel
theorem dX8_init_41 : decode cX8_init 41 = .ok (.dup, 1) := by decide +kernel
theorem dX8_init_42 : decode cX8_init 42 = .ok (.invokespecial 28, 3) := by decide +kernel
theorem dX8_init_45 : decode cX8_init 45 = .ok (.putfield 29, 3) := by decide +kernel
theorem dX8_init_48 : decode cX8_init 48 = .ok (.aload_n 0, 1) := by decide +kernel
theorem dX8_init_49 : decode cX8_init 49 = .ok (.new 26, 3) := by decide +kernel
theorem dX8_init_52 : decode cX8_init 52 = .ok (.dup, 1) := by decide +kernel
theorem dX8_init_53 : decode cX8_init 53 = .ok (.invokespecial 28, 3) := by decide +kernel
theorem dX8_init_56 : decode cX8_init 56 = .ok (.putfield 33, 3) := by decide +kernel
theorem dX8_init_59 : decode cX8_init 59 = .ok (.aload_n 0, 1) := by decide +kernel
theorem dX8_init_60 : decode cX8_init 60 = .ok (.new 36, 3) := by decide +kernel
theorem dX8_init_63 : decode cX8_init 63 = .ok (.dup, 1) := by decide +kernel
theorem dX8_init_64 : decode cX8_init 64 = .ok (.bipush 8, 2) := by decide +kernel
theorem dX8_init_66 : decode cX8_init 66 = .ok (.invokespecial 38, 3) := by decide +kernel
theorem dX8_init_69 : decode cX8_init 69 = .ok (.putfield 41, 3) := by decide +kernel
theorem dX8_init_72 : decode cX8_init 72 = .ok (.aload_n 0, 1) := by decide +kernel
theorem dX8_init_73 : decode cX8_init 73 = .ok (.new 36, 3) := by decide +kernel
theorem dX8_init_76 : decode cX8_init 76 = .ok (.dup, 1) := by decide +kernel
theorem dX8_init_77 : decode cX8_init 77 = .ok (.iconst 2, 1) := by decide +kernel
theorem dX8_init_78 : decode cX8_init 78 = .ok (.invokespecial 38, 3) := by decide +kernel
theorem dX8_init_81 : decode cX8_init 81 = .ok (.putfield 45, 3) := by decide +kernel
theorem dX8_init_84 : decode cX8_init 84 = .ok (.aload_n 0, 1) := by decide +kernel
theorem dX8_init_85 : decode cX8_init 85 = .ok (.new 48, 3) := by decide +kernel
theorem dX8_init_88 : decode cX8_init 88 = .ok (.dup, 1) := by decide +kernel
theorem dX8_init_89 : decode cX8_init 89 = .ok (.invokespecial 50, 3) := by decide +kernel
theorem dX8_init_92 : decode cX8_init 92 = .ok (.putfield 51, 3) := by decide +kernel
theorem dX8_init_95 : decode cX8_init 95 = .ok (.aload_n 0, 1) := by decide +kernel
theorem dX8_init_96 : decode cX8_init 96 = .ok (.new 55, 3) := by decide +kernel
theorem dX8_init_99 : decode cX8_init 99 = .ok (.dup, 1) := by decide +kernel
theorem dX8_init_100 : decode cX8_init 100 = .ok (.invokespecial 57, 3) := by decide +kernel
theorem dX8_init_103 : decode cX8_init 103 = .ok (.putfield 58, 3) := by decide +kernel
theorem dX8_init_106 : decode cX8_init 106 = .ok (.aload_n 0, 1) := by decide +kernel
theorem dX8_init_107 : decode cX8_init 107 = .ok (.new 62, 3) := by decide +kernel
theorem dX8_init_110 : decode cX8_init 110 = .ok (.dup, 1) := by decide +kernel
theorem dX8_init_111 : decode cX8_init 111 = .ok (.invokespecial 64, 3) := by decide +kernel
theorem dX8_init_114 : decode cX8_init 114 = .ok (.putfield 65, 3) := by decide +kernel
theorem dX8_init_117 : decode cX8_init 117 = .ok (.aload_n 0, 1) := by decide +kernel
theorem dX8_init_118 : decode cX8_init 118 = .ok (.bipush 41, 2) := by decide +kernel
theorem dX8_init_120 : decode cX8_init 120 = .ok (.newarray .long, 2) := by decide +kernel
theorem dX8_init_122 : decode cX8_init 122 = .ok (.putfield 69, 3) := by decide +kernel
theorem dX8_init_125 : decode cX8_init 125 = .ok (.iconst 0, 1) := by decide +kernel
theorem dX8_init_126 : decode cX8_init 126 = .ok (.istore_n 1, 1) := by decide +kernel
theorem dX8_init_127 : decode cX8_init 127 = .ok (.iload_n 1, 1) := by decide +kernel
theorem dX8_init_128 : decode cX8_init 128 = .ok (.ldc 73, 2) := by decide +kernel
theorem dX8_init_130 : decode cX8_init 130 = .ok (.invokevirtual 75, 3) := by decide +kernel
theorem dX8_init_133 : decode cX8_init 133 = .ok (.if_icmp .ge 23, 3) := by decide +kernel
theorem dX8_init_136 : decode cX8_init 136 = .ok (.aload_n 0, 1) := by decide +kernel
theorem dX8_init_137 : decode cX8_init 137 = .ok (.getfield 12, 3) := by decide +kernel
theorem dX8_init_140 : decode cX8_init 140 = .ok (.ldc 73, 2) := by decide +kernel
theorem dX8_init_142 : decode cX8_init 142 = .ok (.iload_n 1, 1) := by decide +kernel
theorem dX8_init_143 : decode cX8_init 143 = .ok (.invokevirtual 81, 3) := by decide +kernel
theorem dX8_init_146 : decode cX8_init 146 = .ok (.invokevirtual 85, 3) := by decide +kernel
theorem dX8_init_149 : decode cX8_init 149 = .ok (.pop, 1) := by decide +kernel
theorem dX8_init_150 : decode cX8_init 150 = .ok (.iinc 1 1, 3) := by decide +kernel
theorem dX8_init_153 : decode cX8_init 153 = .ok (.goto (-26), 3) := by decide +kernel
theorem dX8_init_156 : decode cX8_init 156 = .ok (.aload_n 0, 1) := by decide +kernel
theorem dX8_init_157 : decode cX8_init 157 = .ok (.getfield 12, 3) := by decide +kernel
theorem dX8_init_160 : decode cX8_init 160 = .ok (.aload_n 0, 1) := by decide +kernel
theorem dX8_init_161 : decode cX8_init 161 = .ok (.getfield 19, 3) := by decide +kernel
theorem dX8_init_164 : decode cX8_init 164 = .ok (.invokevirtual 89, 3) := by decide +kernel
theorem dX8_init_167 : decode cX8_init 167 = .ok (.pop, 1) := by decide +kernel
theorem dX8_init_168 : decode cX8_init 168 = .ok (.aload_n 0, 1) := by decide +kernel
theorem dX8_init_169 : decode cX8_init 169 = .ok (.getfield 12, 3) := by decide +kernel
theorem dX8_init_172 : decode cX8_init 172 = .ok (.iconst 0, 1) := by decide +kernel
theorem dX8_init_173 : decode cX8_init 173 = .ok (.putfield 93, 3) := by decide +kernel
theorem dX8_init_176 : decode cX8_init 176 = .ok (.aload_n 0, 1) := by decide +kernel
theorem dX8_init_177 : decode cX8_init 177 = .ok (.invokevirtual 96, 3) := by decide +kernel
theorem dX8_init_180 : decode cX8_init 180 = .ok (.return_, 1) := by decide +kernel
theorem dX8_write_0 : decode cX8_write 0 = .ok (.iload_n 1, 1) := by decide +kernel
theorem dX8_write_1 : decode cX8_write 1 = .ok (.bipush 32, 2) := by decide +kernel
theorem dX8_write_3 : decode cX8_write 3 = .ok (.bipush 126, 2) := by decide +kernel
theorem dX8_write_5 : decode cX8_write 5 = .ok (.invokestatic 99, 3) := by decide +kernel
theorem dX8_write_8 : decode cX8_write 8 = .ok (.ifCond .ne 5, 3) := by decide +kernel
theorem dX8_write_11 : decode cX8_write 11 = .ok (.iconst (-1), 1) := by decide +kernel
theorem dX8_write_12 : decode cX8_write 12 = .ok (.ireturn, 1) := by decide +kernel
theorem dX8_write_13 : decode cX8_write 13 = .ok (.aload_n 0, 1) := by decide +kernel
theorem dX8_write_14 : decode cX8_write 14 = .ok (.getfield 12, 3) := by decide +kernel
theorem dX8_write_17 : decode cX8_write 17 = .ok (.iload_n 1, 1) := by decide +kernel
theorem dX8_write_18 : decode cX8_write 18 = .ok (.i2c, 1) := by decide +kernel
theorem dX8_write_19 : decode cX8_write 19 = .ok (.invokevirtual 85, 3) := by decide +kernel
theorem dX8_write_22 : decode cX8_write 22 = .ok (.ifCond .eq 13, 3) := by decide +kernel
theorem dX8_write_25 : decode cX8_write 25 = .ok (.aload_n 0, 1) := by decide +kernel
theorem dX8_write_26 : decode cX8_write 26 = .ok (.getfield 12, 3) := by decide +kernel
theorem dX8_write_29 : decode cX8_write 29 = .ok (.getfield 93, 3) := by decide +kernel
theorem dX8_write_32 : decode cX8_write 32 = .ok (.goto 5, 3) := by decide +kernel
theorem dX8_write_35 : decode cX8_write 35 = .ok (.bipush (-3), 2) := by decide +kernel
theorem dX8_write_37 : decode cX8_write 37 = .ok (.ireturn, 1) := by decide +kernel
theorem dX8_wipe_0 : decode cX8_wipe 0 = .ok (.aload_n 0, 1) := by decide +kernel
theorem dX8_wipe_1 : decode cX8_wipe 1 = .ok (.getfield 12, 3) := by decide +kernel
theorem dX8_wipe_4 : decode cX8_wipe 4 = .ok (.getfield 93, 3) := by decide +kernel
theorem dX8_wipe_7 : decode cX8_wipe 7 = .ok (.istore_n 1, 1) := by decide +kernel
theorem dX8_wipe_8 : decode cX8_wipe 8 = .ok (.aload_n 0, 1) := by decide +kernel
theorem dX8_wipe_9 : decode cX8_wipe 9 = .ok (.getfield 12, 3) := by decide +kernel
theorem dX8_wipe_12 : decode cX8_wipe 12 = .ok (.iconst 0, 1) := by decide +kernel
theorem dX8_wipe_13 : decode cX8_wipe 13 = .ok (.putfield 93, 3) := by decide +kernel
theorem dX8_wipe_16 : decode cX8_wipe 16 = .ok (.iload_n 1, 1) := by decide +kernel
theorem dX8_wipe_17 : decode cX8_wipe 17 = .ok (.ireturn, 1) := by decide +kernel
theorem dX8_fault_0 : decode cX8_fault 0 = .ok (.aload_n 0, 1) := by decide +kernel
theorem dX8_fault_1 : decode cX8_fault 1 = .ok (.getfield 12, 3) := by decide +kernel
theorem dX8_fault_4 : decode cX8_fault 4 = .ok (.aload_n 0, 1) := by decide +kernel
theorem dX8_fault_5 : decode cX8_fault 5 = .ok (.getfield 23, 3) := by decide +kernel
theorem dX8_fault_8 : decode cX8_fault 8 = .ok (.invokevirtual 89, 3) := by decide +kernel
theorem dX8_fault_11 : decode cX8_fault 11 = .ok (.ireturn, 1) := by decide +kernel
theorem dX8_lay_0 : decode cX8_lay 0 = .ok (.aload_n 0, 1) := by decide +kernel
theorem dX8_lay_1 : decode cX8_lay 1 = .ok (.getfield 12, 3) := by decide +kernel
theorem dX8_lay_4 : decode cX8_lay 4 = .ok (.aload_n 0, 1) := by decide +kernel
theorem dX8_lay_5 : decode cX8_lay 5 = .ok (.getfield 23, 3) := by decide +kernel
theorem dX8_lay_8 : decode cX8_lay 8 = .ok (.invokevirtual 89, 3) := by decide +kernel
theorem dX8_lay_11 : decode cX8_lay 11 = .ok (.bipush (-4), 2) := by decide +kernel
theorem dX8_lay_13 : decode cX8_lay 13 = .ok (.if_icmp .ne 23, 3) := by decide +kernel
theorem dX8_lay_16 : decode cX8_lay 16 = .ok (.aload_n 0, 1) := by decide +kernel
theorem dX8_lay_17 : decode cX8_lay 17 = .ok (.getfield 23, 3) := by decide +kernel
theorem dX8_lay_20 : decode cX8_lay 20 = .ok (.getfield 103, 3) := by decide +kernel
theorem dX8_lay_23 : decode cX8_lay 23 = .ok (.ifCond .eq 13, 3) := by decide +kernel
theorem dX8_lay_26 : decode cX8_lay 26 = .ok (.aload_n 0, 1) := by decide +kernel
theorem dX8_lay_27 : decode cX8_lay 27 = .ok (.getfield 23, 3) := by decide +kernel
theorem dX8_lay_30 : decode cX8_lay 30 = .ok (.getfield 106, 3) := by decide +kernel
theorem dX8_lay_33 : decode cX8_lay 33 = .ok (.ifCond .ne 6, 3) := by decide +kernel
theorem dX8_lay_36 : decode cX8_lay 36 = .ok (.bipush (-2), 2) := by decide +kernel
theorem dX8_lay_38 : decode cX8_lay 38 = .ok (.ireturn, 1) := by decide +kernel
theorem dX8_lay_39 : decode cX8_lay 39 = .ok (.aload_n 0, 1) := by decide +kernel
theorem dX8_lay_40 : decode cX8_lay 40 = .ok (.getfield 12, 3) := by decide +kernel
theorem dX8_lay_43 : decode cX8_lay 43 = .ok (.aload_n 0, 1) := by decide +kernel
theorem dX8_lay_44 : decode cX8_lay 44 = .ok (.getfield 19, 3) := by decide +kernel
theorem dX8_lay_47 : decode cX8_lay 47 = .ok (.invokevirtual 89, 3) := by decide +kernel
theorem dX8_lay_50 : decode cX8_lay 50 = .ok (.pop, 1) := by decide +kernel
theorem dX8_lay_51 : decode cX8_lay 51 = .ok (.aload_n 0, 1) := by decide +kernel
theorem dX8_lay_52 : decode cX8_lay 52 = .ok (.invokevirtual 96, 3) := by decide +kernel
theorem dX8_lay_55 : decode cX8_lay 55 = .ok (.aload_n 0, 1) := by decide +kernel
theorem dX8_lay_56 : decode cX8_lay 56 = .ok (.getfield 19, 3) := by decide +kernel
theorem dX8_lay_59 : decode cX8_lay 59 = .ok (.invokevirtual 109, 3) := by decide +kernel
theorem dX8_lay_62 : decode cX8_lay 62 = .ok (.ireturn, 1) := by decide +kernel
theorem dX8_far_0 : decode cX8_far 0 = .ok (.aload_n 0, 1) := by decide +kernel
theorem dX8_far_1 : decode cX8_far 1 = .ok (.getfield 19, 3) := by decide +kernel
theorem dX8_far_4 : decode cX8_far 4 = .ok (.iload_n 1, 1) := by decide +kernel
theorem dX8_far_5 : decode cX8_far 5 = .ok (.invokevirtual 112, 3) := by decide +kernel
theorem dX8_far_8 : decode cX8_far 8 = .ok (.ifCond .eq 26, 3) := by decide +kernel
theorem dX8_far_11 : decode cX8_far 11 = .ok (.aload_n 0, 1) := by decide +kernel
theorem dX8_far_12 : decode cX8_far 12 = .ok (.getfield 19, 3) := by decide +kernel
theorem dX8_far_15 : decode cX8_far 15 = .ok (.iload_n 2, 1) := by decide +kernel
theorem dX8_far_16 : decode cX8_far 16 = .ok (.invokevirtual 112, 3) := by decide +kernel
theorem dX8_far_19 : decode cX8_far 19 = .ok (.ifCond .eq 15, 3) := by decide +kernel
theorem dX8_far_22 : decode cX8_far 22 = .ok (.aload_n 0, 1) := by decide +kernel
theorem dX8_far_23 : decode cX8_far 23 = .ok (.getfield 19, 3) := by decide +kernel
theorem dX8_far_26 : decode cX8_far 26 = .ok (.iload_n 1, 1) := by decide +kernel
theorem dX8_far_27 : decode cX8_far 27 = .ok (.iload_n 2, 1) := by decide +kernel
theorem dX8_far_28 : decode cX8_far 28 = .ok (.invokevirtual 116, 3) := by decide +kernel
theorem dX8_far_31 : decode cX8_far 31 = .ok (.goto 4, 3) := by decide +kernel
theorem dX8_far_34 : decode cX8_far 34 = .ok (.iconst (-1), 1) := by decide +kernel
theorem dX8_far_35 : decode cX8_far 35 = .ok (.ireturn, 1) := by decide +kernel
theorem dX8_cab_0 : decode cX8_cab 0 = .ok (.aload_n 0, 1) := by decide +kernel
theorem dX8_cab_1 : decode cX8_cab 1 = .ok (.getfield 19, 3) := by decide +kernel
theorem dX8_cab_4 : decode cX8_cab 4 = .ok (.iload_n 1, 1) := by decide +kernel
theorem dX8_cab_5 : decode cX8_cab 5 = .ok (.invokevirtual 120, 3) := by decide +kernel
theorem dX8_cab_8 : decode cX8_cab 8 = .ok (.ifCond .ne 5, 3) := by decide +kernel
theorem dX8_cab_11 : decode cX8_cab 11 = .ok (.iconst (-1), 1) := by decide +kernel
theorem dX8_cab_12 : decode cX8_cab 12 = .ok (.ireturn, 1) := by decide +kernel
theorem dX8_cab_13 : decode cX8_cab 13 = .ok (.iload_n 2, 1) := by decide +kernel
theorem dX8_cab_14 : decode cX8_cab 14 = .ok (.tableswitch 70 0 3 #[30, 40, 50, 60], 30) := by decide +kernel
theorem dX8_cab_44 : decode cX8_cab 44 = .ok (.aload_n 0, 1) := by decide +kernel
theorem dX8_cab_45 : decode cX8_cab 45 = .ok (.getfield 19, 3) := by decide +kernel
theorem dX8_cab_48 : decode cX8_cab 48 = .ok (.getfield 123, 3) := by decide +kernel
theorem dX8_cab_51 : decode cX8_cab 51 = .ok (.iload_n 1, 1) := by decide +kernel
theorem dX8_cab_52 : decode cX8_cab 52 = .ok (.iaload, 1) := by decide +kernel
theorem dX8_cab_53 : decode cX8_cab 53 = .ok (.ireturn, 1) := by decide +kernel
theorem dX8_cab_54 : decode cX8_cab 54 = .ok (.aload_n 0, 1) := by decide +kernel
theorem dX8_cab_55 : decode cX8_cab 55 = .ok (.getfield 29, 3) := by decide +kernel
theorem dX8_cab_58 : decode cX8_cab 58 = .ok (.getfield 127, 3) := by decide +kernel
theorem dX8_cab_61 : decode cX8_cab 61 = .ok (.iload_n 1, 1) := by decide +kernel
theorem dX8_cab_62 : decode cX8_cab 62 = .ok (.iaload, 1) := by decide +kernel
theorem dX8_cab_63 : decode cX8_cab 63 = .ok (.ireturn, 1) := by decide +kernel
theorem dX8_cab_64 : decode cX8_cab 64 = .ok (.aload_n 0, 1) := by decide +kernel
theorem dX8_cab_65 : decode cX8_cab 65 = .ok (.getfield 29, 3) := by decide +kernel
theorem dX8_cab_68 : decode cX8_cab 68 = .ok (.getfield 130, 3) := by decide +kernel
theorem dX8_cab_71 : decode cX8_cab 71 = .ok (.iload_n 1, 1) := by decide +kernel
theorem dX8_cab_72 : decode cX8_cab 72 = .ok (.iaload, 1) := by decide +kernel
theorem dX8_cab_73 : decode cX8_cab 73 = .ok (.ireturn, 1) := by decide +kernel
theorem dX8_cab_74 : decode cX8_cab 74 = .ok (.aload_n 0, 1) := by decide +kernel
theorem dX8_cab_75 : decode cX8_cab 75 = .ok (.getfield 29, 3) := by decide +kernel
theorem dX8_cab_78 : decode cX8_cab 78 = .ok (.getfield 133, 3) := by decide +kernel
theorem dX8_cab_81 : decode cX8_cab 81 = .ok (.iload_n 1, 1) := by decide +kernel
theorem dX8_cab_82 : decode cX8_cab 82 = .ok (.iaload, 1) := by decide +kernel
theorem dX8_cab_83 : decode cX8_cab 83 = .ok (.ireturn, 1) := by decide +kernel
theorem dX8_cab_84 : decode cX8_cab 84 = .ok (.iconst (-1), 1) := by decide +kernel
theorem dX8_cab_85 : decode cX8_cab 85 = .ok (.ireturn, 1) := by decide +kernel
theorem dX8_fare_0 : decode cX8_fare 0 = .ok (.aload_n 0, 1) := by decide +kernel
theorem dX8_fare_1 : decode cX8_fare 1 = .ok (.getfield 19, 3) := by decide +kernel
theorem dX8_fare_4 : decode cX8_fare 4 = .ok (.iload_n 1, 1) := by decide +kernel
theorem dX8_fare_5 : decode cX8_fare 5 = .ok (.invokevirtual 136, 3) := by decide +kernel
theorem dX8_fare_8 : decode cX8_fare 8 = .ok (.ifCond .ne 5, 3) := by decide +kernel
theorem dX8_fare_11 : decode cX8_fare 11 = .ok (.iconst (-1), 1) := by decide +kernel
theorem dX8_fare_12 : decode cX8_fare 12 = .ok (.ireturn, 1) := by decide +kernel
theorem dX8_fare_13 : decode cX8_fare 13 = .ok (.iload_n 2, 1) := by decide +kernel
theorem dX8_fare_14 : decode cX8_fare 14 = .ok (.tableswitch 133 0 7 #[46, 56, 66, 76, 86, 96, 113, 123], 46) := by decide +kernel
theorem dX8_fare_60 : decode cX8_fare 60 = .ok (.aload_n 0, 1) := by decide +kernel
theorem dX8_fare_61 : decode cX8_fare 61 = .ok (.getfield 19, 3) := by decide +kernel
theorem dX8_fare_64 : decode cX8_fare 64 = .ok (.getfield 139, 3) := by decide +kernel
theorem dX8_fare_67 : decode cX8_fare 67 = .ok (.iload_n 1, 1) := by decide +kernel
theorem dX8_fare_68 : decode cX8_fare 68 = .ok (.iaload, 1) := by decide +kernel
theorem dX8_fare_69 : decode cX8_fare 69 = .ok (.ireturn, 1) := by decide +kernel
theorem dX8_fare_70 : decode cX8_fare 70 = .ok (.aload_n 0, 1) := by decide +kernel
theorem dX8_fare_71 : decode cX8_fare 71 = .ok (.getfield 19, 3) := by decide +kernel
theorem dX8_fare_74 : decode cX8_fare 74 = .ok (.getfield 142, 3) := by decide +kernel
theorem dX8_fare_77 : decode cX8_fare 77 = .ok (.iload_n 1, 1) := by decide +kernel
theorem dX8_fare_78 : decode cX8_fare 78 = .ok (.iaload, 1) := by decide +kernel
theorem dX8_fare_79 : decode cX8_fare 79 = .ok (.ireturn, 1) := by decide +kernel
theorem dX8_fare_80 : decode cX8_fare 80 = .ok (.aload_n 0, 1) := by decide +kernel
theorem dX8_fare_81 : decode cX8_fare 81 = .ok (.getfield 19, 3) := by decide +kernel
theorem dX8_fare_84 : decode cX8_fare 84 = .ok (.getfield 145, 3) := by decide +kernel
theorem dX8_fare_87 : decode cX8_fare 87 = .ok (.iload_n 1, 1) := by decide +kernel
theorem dX8_fare_88 : decode cX8_fare 88 = .ok (.iaload, 1) := by decide +kernel
theorem dX8_fare_89 : decode cX8_fare 89 = .ok (.ireturn, 1) := by decide +kernel
theorem dX8_fare_90 : decode cX8_fare 90 = .ok (.aload_n 0, 1) := by decide +kernel
theorem dX8_fare_91 : decode cX8_fare 91 = .ok (.getfield 19, 3) := by decide +kernel
theorem dX8_fare_94 : decode cX8_fare 94 = .ok (.getfield 148, 3) := by decide +kernel
theorem dX8_fare_97 : decode cX8_fare 97 = .ok (.iload_n 1, 1) := by decide +kernel
theorem dX8_fare_98 : decode cX8_fare 98 = .ok (.iaload, 1) := by decide +kernel
theorem dX8_fare_99 : decode cX8_fare 99 = .ok (.ireturn, 1) := by decide +kernel
theorem dX8_fare_100 : decode cX8_fare 100 = .ok (.aload_n 0, 1) := by decide +kernel
theorem dX8_fare_101 : decode cX8_fare 101 = .ok (.getfield 19, 3) := by decide +kernel
theorem dX8_fare_104 : decode cX8_fare 104 = .ok (.getfield 151, 3) := by decide +kernel
theorem dX8_fare_107 : decode cX8_fare 107 = .ok (.iload_n 1, 1) := by decide +kernel
theorem dX8_fare_108 : decode cX8_fare 108 = .ok (.iaload, 1) := by decide +kernel
theorem dX8_fare_109 : decode cX8_fare 109 = .ok (.ireturn, 1) := by decide +kernel
theorem dX8_fare_110 : decode cX8_fare 110 = .ok (.aload_n 0, 1) := by decide +kernel
theorem dX8_fare_111 : decode cX8_fare 111 = .ok (.getfield 29, 3) := by decide +kernel
theorem dX8_fare_114 : decode cX8_fare 114 = .ok (.iload_n 1, 1) := by decide +kernel
theorem dX8_fare_115 : decode cX8_fare 115 = .ok (.invokevirtual 154, 3) := by decide +kernel
theorem dX8_fare_118 : decode cX8_fare 118 = .ok (.ifCond .eq 7, 3) := by decide +kernel
theorem dX8_fare_121 : decode cX8_fare 121 = .ok (.iconst 1, 1) := by decide +kernel
theorem dX8_fare_122 : decode cX8_fare 122 = .ok (.goto 4, 3) := by decide +kernel
theorem dX8_fare_125 : decode cX8_fare 125 = .ok (.iconst 0, 1) := by decide +kernel
theorem dX8_fare_126 : decode cX8_fare 126 = .ok (.ireturn, 1) := by decide +kernel
theorem dX8_fare_127 : decode cX8_fare 127 = .ok (.aload_n 0, 1) := by decide +kernel
theorem dX8_fare_128 : decode cX8_fare 128 = .ok (.getfield 29, 3) := by decide +kernel
theorem dX8_fare_131 : decode cX8_fare 131 = .ok (.getfield 157, 3) := by decide +kernel
theorem dX8_fare_134 : decode cX8_fare 134 = .ok (.iload_n 1, 1) := by decide +kernel
theorem dX8_fare_135 : decode cX8_fare 135 = .ok (.iaload, 1) := by decide +kernel
theorem dX8_fare_136 : decode cX8_fare 136 = .ok (.ireturn, 1) := by decide +kernel
theorem dX8_fare_137 : decode cX8_fare 137 = .ok (.aload_n 0, 1) := by decide +kernel
theorem dX8_fare_138 : decode cX8_fare 138 = .ok (.getfield 29, 3) := by decide +kernel
theorem dX8_fare_141 : decode cX8_fare 141 = .ok (.getfield 160, 3) := by decide +kernel
theorem dX8_fare_144 : decode cX8_fare 144 = .ok (.iload_n 1, 1) := by decide +kernel
theorem dX8_fare_145 : decode cX8_fare 145 = .ok (.iaload, 1) := by decide +kernel
theorem dX8_fare_146 : decode cX8_fare 146 = .ok (.ireturn, 1) := by decide +kernel
theorem dX8_fare_147 : decode cX8_fare 147 = .ok (.iconst (-1), 1) := by decide +kernel
theorem dX8_fare_148 : decode cX8_fare 148 = .ok (.ireturn, 1) := by decide +kernel
theorem dX8_take_0 : decode cX8_take 0 = .ok (.aload_n 0, 1) := by decide +kernel
theorem dX8_take_1 : decode cX8_take 1 = .ok (.getfield 19, 3) := by decide +kernel
theorem dX8_take_4 : decode cX8_take 4 = .ok (.iload_n 1, 1) := by decide +kernel
theorem dX8_take_5 : decode cX8_take 5 = .ok (.invokevirtual 120, 3) := by decide +kernel
theorem dX8_take_8 : decode cX8_take 8 = .ok (.ifCond .eq 14, 3) := by decide +kernel
theorem dX8_take_11 : decode cX8_take 11 = .ok (.aload_n 0, 1) := by decide +kernel
theorem dX8_take_12 : decode cX8_take 12 = .ok (.getfield 19, 3) := by decide +kernel
theorem dX8_take_15 : decode cX8_take 15 = .ok (.iload_n 2, 1) := by decide +kernel
theorem dX8_take_16 : decode cX8_take 16 = .ok (.invokevirtual 136, 3) := by decide +kernel
theorem dX8_take_19 : decode cX8_take 19 = .ok (.ifCond .ne 5, 3) := by decide +kernel
theorem dX8_take_22 : decode cX8_take 22 = .ok (.iconst (-1), 1) := by decide +kernel
theorem dX8_take_23 : decode cX8_take 23 = .ok (.ireturn, 1) := by decide +kernel
theorem dX8_take_24 : decode cX8_take 24 = .ok (.aload_n 0, 1) := by decide +kernel
theorem dX8_take_25 : decode cX8_take 25 = .ok (.getfield 29, 3) := by decide +kernel
theorem dX8_take_28 : decode cX8_take 28 = .ok (.iload_n 2, 1) := by decide +kernel
theorem dX8_take_29 : decode cX8_take 29 = .ok (.invokevirtual 154, 3) := by decide +kernel
theorem dX8_take_32 : decode cX8_take 32 = .ok (.ifCond .eq 6, 3) := by decide +kernel
theorem dX8_take_35 : decode cX8_take 35 = .ok (.bipush (-2), 2) := by decide +kernel
theorem dX8_take_37 : decode cX8_take 37 = .ok (.ireturn, 1) := by decide +kernel
theorem dX8_take_38 : decode cX8_take 38 = .ok (.aload_n 0, 1) := by decide +kernel
theorem dX8_take_39 : decode cX8_take 39 = .ok (.getfield 41, 3) := by decide +kernel
theorem dX8_take_42 : decode cX8_take 42 = .ok (.aload_n 0, 1) := by decide +kernel
theorem dX8_take_43 : decode cX8_take 43 = .ok (.getfield 29, 3) := by decide +kernel
theorem dX8_take_46 : decode cX8_take 46 = .ok (.invokevirtual 163, 3) := by decide +kernel
theorem dX8_take_49 : decode cX8_take 49 = .ok (.aload_n 0, 1) := by decide +kernel
theorem dX8_take_50 : decode cX8_take 50 = .ok (.getfield 19, 3) := by decide +kernel
theorem dX8_take_53 : decode cX8_take 53 = .ok (.aload_n 0, 1) := by decide +kernel
theorem dX8_take_54 : decode cX8_take 54 = .ok (.getfield 29, 3) := by decide +kernel
theorem dX8_take_57 : decode cX8_take 57 = .ok (.iload_n 1, 1) := by decide +kernel
theorem dX8_take_58 : decode cX8_take 58 = .ok (.iload_n 2, 1) := by decide +kernel
theorem dX8_take_59 : decode cX8_take 59 = .ok (.invokevirtual 167, 3) := by decide +kernel
theorem dX8_take_62 : decode cX8_take 62 = .ok (.pop, 1) := by decide +kernel
theorem dX8_take_63 : decode cX8_take 63 = .ok (.aload_n 0, 1) := by decide +kernel
theorem dX8_take_64 : decode cX8_take 64 = .ok (.getfield 29, 3) := by decide +kernel
theorem dX8_take_67 : decode cX8_take 67 = .ok (.getfield 157, 3) := by decide +kernel
theorem dX8_take_70 : decode cX8_take 70 = .ok (.iload_n 2, 1) := by decide +kernel
theorem dX8_take_71 : decode cX8_take 71 = .ok (.iaload, 1) := by decide +kernel
theorem dX8_take_72 : decode cX8_take 72 = .ok (.ireturn, 1) := by decide +kernel
theorem dX8_send_0 : decode cX8_send 0 = .ok (.aload_n 0, 1) := by decide +kernel
theorem dX8_send_1 : decode cX8_send 1 = .ok (.getfield 19, 3) := by decide +kernel
theorem dX8_send_4 : decode cX8_send 4 = .ok (.iload_n 1, 1) := by decide +kernel
theorem dX8_send_5 : decode cX8_send 5 = .ok (.invokevirtual 120, 3) := by decide +kernel
theorem dX8_send_8 : decode cX8_send 8 = .ok (.ifCond .eq 14, 3) := by decide +kernel
theorem dX8_send_11 : decode cX8_send 11 = .ok (.aload_n 0, 1) := by decide +kernel
theorem dX8_send_12 : decode cX8_send 12 = .ok (.getfield 19, 3) := by decide +kernel
theorem dX8_send_15 : decode cX8_send 15 = .ok (.iload_n 2, 1) := by decide +kernel
theorem dX8_send_16 : decode cX8_send 16 = .ok (.invokevirtual 112, 3) := by decide +kernel
theorem dX8_send_19 : decode cX8_send 19 = .ok (.ifCond .ne 5, 3) := by decide +kernel
theorem dX8_send_22 : decode cX8_send 22 = .ok (.iconst (-1), 1) := by decide +kernel
theorem dX8_send_23 : decode cX8_send 23 = .ok (.ireturn, 1) := by decide +kernel
theorem dX8_send_24 : decode cX8_send 24 = .ok (.aload_n 0, 1) := by decide +kernel
theorem dX8_send_25 : decode cX8_send 25 = .ok (.getfield 41, 3) := by decide +kernel
theorem dX8_send_28 : decode cX8_send 28 = .ok (.aload_n 0, 1) := by decide +kernel
theorem dX8_send_29 : decode cX8_send 29 = .ok (.getfield 29, 3) := by decide +kernel
theorem dX8_send_32 : decode cX8_send 32 = .ok (.invokevirtual 163, 3) := by decide +kernel
theorem dX8_send_35 : decode cX8_send 35 = .ok (.aload_n 0, 1) := by decide +kernel
theorem dX8_send_36 : decode cX8_send 36 = .ok (.getfield 19, 3) := by decide +kernel
theorem dX8_send_39 : decode cX8_send 39 = .ok (.aload_n 0, 1) := by decide +kernel
theorem dX8_send_40 : decode cX8_send 40 = .ok (.getfield 29, 3) := by decide +kernel
theorem dX8_send_43 : decode cX8_send 43 = .ok (.iload_n 1, 1) := by decide +kernel
theorem dX8_send_44 : decode cX8_send 44 = .ok (.iload_n 2, 1) := by decide +kernel
theorem dX8_send_45 : decode cX8_send 45 = .ok (.invokevirtual 171, 3) := by decide +kernel
theorem dX8_send_48 : decode cX8_send 48 = .ok (.aload_n 0, 1) := by decide +kernel
theorem dX8_send_49 : decode cX8_send 49 = .ok (.getfield 29, 3) := by decide +kernel
theorem dX8_send_52 : decode cX8_send 52 = .ok (.getfield 130, 3) := by decide +kernel
theorem dX8_send_55 : decode cX8_send 55 = .ok (.iload_n 1, 1) := by decide +kernel
theorem dX8_send_56 : decode cX8_send 56 = .ok (.iaload, 1) := by decide +kernel
theorem dX8_send_57 : decode cX8_send 57 = .ok (.ireturn, 1) := by decide +kernel
theorem dX8_pass_0 : decode cX8_pass 0 = .ok (.iload_n 1, 1) := by decide +kernel
theorem dX8_pass_1 : decode cX8_pass 1 = .ok (.iconst 1, 1) := by decide +kernel
theorem dX8_pass_2 : decode cX8_pass 2 = .ok (.bipush 60, 2) := by decide +kernel
theorem dX8_pass_4 : decode cX8_pass 4 = .ok (.invokestatic 99, 3) := by decide +kernel
theorem dX8_pass_7 : decode cX8_pass 7 = .ok (.ifCond .ne 5, 3) := by decide +kernel
theorem dX8_pass_10 : decode cX8_pass 10 = .ok (.iconst (-1), 1) := by decide +kernel
theorem dX8_pass_11 : decode cX8_pass 11 = .ok (.ireturn, 1) := by decide +kernel
theorem dX8_pass_12 : decode cX8_pass 12 = .ok (.aload_n 0, 1) := by decide +kernel
theorem dX8_pass_13 : decode cX8_pass 13 = .ok (.getfield 41, 3) := by decide +kernel
theorem dX8_pass_16 : decode cX8_pass 16 = .ok (.aload_n 0, 1) := by decide +kernel
theorem dX8_pass_17 : decode cX8_pass 17 = .ok (.getfield 29, 3) := by decide +kernel
theorem dX8_pass_20 : decode cX8_pass 20 = .ok (.invokevirtual 163, 3) := by decide +kernel
theorem dX8_pass_23 : decode cX8_pass 23 = .ok (.aload_n 0, 1) := by decide +kernel
theorem dX8_pass_24 : decode cX8_pass 24 = .ok (.getfield 29, 3) := by decide +kernel
theorem dX8_pass_27 : decode cX8_pass 27 = .ok (.dup, 1) := by decide +kernel
theorem dX8_pass_28 : decode cX8_pass 28 = .ok (.getfield 175, 3) := by decide +kernel
theorem dX8_pass_31 : decode cX8_pass 31 = .ok (.iload_n 1, 1) := by decide +kernel
theorem dX8_pass_32 : decode cX8_pass 32 = .ok (.iadd, 1) := by decide +kernel
theorem dX8_pass_33 : decode cX8_pass 33 = .ok (.putfield 175, 3) := by decide +kernel
theorem dX8_pass_36 : decode cX8_pass 36 = .ok (.aload_n 0, 1) := by decide +kernel
theorem dX8_pass_37 : decode cX8_pass 37 = .ok (.getfield 29, 3) := by decide +kernel
theorem dX8_pass_40 : decode cX8_pass 40 = .ok (.getfield 175, 3) := by decide +kernel
theorem dX8_pass_43 : decode cX8_pass 43 = .ok (.ireturn, 1) := by decide +kernel
theorem dX8_undo_0 : decode cX8_undo 0 = .ok (.aload_n 0, 1) := by decide +kernel
theorem dX8_undo_1 : decode cX8_undo 1 = .ok (.getfield 41, 3) := by decide +kernel
theorem dX8_undo_4 : decode cX8_undo 4 = .ok (.aload_n 0, 1) := by decide +kernel
theorem dX8_undo_5 : decode cX8_undo 5 = .ok (.getfield 29, 3) := by decide +kernel
theorem dX8_undo_8 : decode cX8_undo 8 = .ok (.invokevirtual 178, 3) := by decide +kernel
theorem dX8_undo_11 : decode cX8_undo 11 = .ok (.ifCond .eq 13, 3) := by decide +kernel
theorem dX8_undo_14 : decode cX8_undo 14 = .ok (.aload_n 0, 1) := by decide +kernel
theorem dX8_undo_15 : decode cX8_undo 15 = .ok (.getfield 41, 3) := by decide +kernel
theorem dX8_undo_18 : decode cX8_undo 18 = .ok (.getfield 182, 3) := by decide +kernel
theorem dX8_undo_21 : decode cX8_undo 21 = .ok (.goto 5, 3) := by decide +kernel
theorem dX8_undo_24 : decode cX8_undo 24 = .ok (.bipush (-2), 2) := by decide +kernel
theorem dX8_undo_26 : decode cX8_undo 26 = .ok (.ireturn, 1) := by decide +kernel
theorem dX8_ride_0 : decode cX8_ride 0 = .ok (.aload_n 0, 1) := by decide +kernel
theorem dX8_ride_1 : decode cX8_ride 1 = .ok (.getfield 19, 3) := by decide +kernel
theorem dX8_ride_4 : decode cX8_ride 4 = .ok (.iload_n 1, 1) := by decide +kernel
theorem dX8_ride_5 : decode cX8_ride 5 = .ok (.invokevirtual 120, 3) := by decide +kernel
theorem dX8_ride_8 : decode cX8_ride 8 = .ok (.ifCond .eq 14, 3) := by decide +kernel
theorem dX8_ride_11 : decode cX8_ride 11 = .ok (.aload_n 0, 1) := by decide +kernel
theorem dX8_ride_12 : decode cX8_ride 12 = .ok (.getfield 19, 3) := by decide +kernel
theorem dX8_ride_15 : decode cX8_ride 15 = .ok (.iload_n 2, 1) := by decide +kernel
theorem dX8_ride_16 : decode cX8_ride 16 = .ok (.invokevirtual 136, 3) := by decide +kernel
theorem dX8_ride_19 : decode cX8_ride 19 = .ok (.ifCond .ne 5, 3) := by decide +kernel
theorem dX8_ride_22 : decode cX8_ride 22 = .ok (.iconst (-1), 1) := by decide +kernel
theorem dX8_ride_23 : decode cX8_ride 23 = .ok (.ireturn, 1) := by decide +kernel
theorem dX8_ride_24 : decode cX8_ride 24 = .ok (.aload_n 0, 1) := by decide +kernel
theorem dX8_ride_25 : decode cX8_ride 25 = .ok (.getfield 19, 3) := by decide +kernel
theorem dX8_ride_28 : decode cX8_ride 28 = .ok (.aload_n 0, 1) := by decide +kernel
theorem dX8_ride_29 : decode cX8_ride 29 = .ok (.getfield 29, 3) := by decide +kernel
theorem dX8_ride_32 : decode cX8_ride 32 = .ok (.iload_n 1, 1) := by decide +kernel
theorem dX8_ride_33 : decode cX8_ride 33 = .ok (.iload_n 2, 1) := by decide +kernel
theorem dX8_ride_34 : decode cX8_ride 34 = .ok (.invokevirtual 185, 3) := by decide +kernel
theorem dX8_ride_37 : decode cX8_ride 37 = .ok (.iload_n 3, 1) := by decide +kernel
theorem dX8_ride_38 : decode cX8_ride 38 = .ok (.tableswitch 90 0 3 #[30, 41, 52, 71], 30) := by decide +kernel
theorem dX8_ride_68 : decode cX8_ride 68 = .ok (.aload_n 0, 1) := by decide +kernel
theorem dX8_ride_69 : decode cX8_ride 69 = .ok (.getfield 19, 3) := by decide +kernel
theorem dX8_ride_72 : decode cX8_ride 72 = .ok (.getfield 188, 3) := by decide +kernel
theorem dX8_ride_75 : decode cX8_ride 75 = .ok (.getfield 192, 3) := by decide +kernel
theorem dX8_ride_78 : decode cX8_ride 78 = .ok (.ireturn, 1) := by decide +kernel
theorem dX8_ride_79 : decode cX8_ride 79 = .ok (.aload_n 0, 1) := by decide +kernel
theorem dX8_ride_80 : decode cX8_ride 80 = .ok (.getfield 19, 3) := by decide +kernel
theorem dX8_ride_83 : decode cX8_ride 83 = .ok (.getfield 188, 3) := by decide +kernel
theorem dX8_ride_86 : decode cX8_ride 86 = .ok (.getfield 196, 3) := by decide +kernel
theorem dX8_ride_89 : decode cX8_ride 89 = .ok (.ireturn, 1) := by decide +kernel
theorem dX8_ride_90 : decode cX8_ride 90 = .ok (.aload_n 0, 1) := by decide +kernel
theorem dX8_ride_91 : decode cX8_ride 91 = .ok (.getfield 19, 3) := by decide +kernel
theorem dX8_ride_94 : decode cX8_ride 94 = .ok (.getfield 188, 3) := by decide +kernel
theorem dX8_ride_97 : decode cX8_ride 97 = .ok (.getfield 198, 3) := by decide +kernel
theorem dX8_ride_100 : decode cX8_ride 100 = .ok (.ifCond .eq 7, 3) := by decide +kernel
theorem dX8_ride_103 : decode cX8_ride 103 = .ok (.iconst 1, 1) := by decide +kernel
theorem dX8_ride_104 : decode cX8_ride 104 = .ok (.goto 4, 3) := by decide +kernel
theorem dX8_ride_107 : decode cX8_ride 107 = .ok (.iconst 0, 1) := by decide +kernel
theorem dX8_ride_108 : decode cX8_ride 108 = .ok (.ireturn, 1) := by decide +kernel
theorem dX8_ride_109 : decode cX8_ride 109 = .ok (.aload_n 0, 1) := by decide +kernel
theorem dX8_ride_110 : decode cX8_ride 110 = .ok (.getfield 19, 3) := by decide +kernel
theorem dX8_ride_113 : decode cX8_ride 113 = .ok (.getfield 188, 3) := by decide +kernel
theorem dX8_ride_116 : decode cX8_ride 116 = .ok (.getfield 202, 3) := by decide +kernel
theorem dX8_ride_119 : decode cX8_ride 119 = .ok (.ifCond .eq 7, 3) := by decide +kernel
theorem dX8_ride_122 : decode cX8_ride 122 = .ok (.iconst 1, 1) := by decide +kernel
theorem dX8_ride_123 : decode cX8_ride 123 = .ok (.goto 4, 3) := by decide +kernel
theorem dX8_ride_126 : decode cX8_ride 126 = .ok (.iconst 0, 1) := by decide +kernel
theorem dX8_ride_127 : decode cX8_ride 127 = .ok (.ireturn, 1) := by decide +kernel
theorem dX8_ride_128 : decode cX8_ride 128 = .ok (.iconst (-1), 1) := by decide +kernel
theorem dX8_ride_129 : decode cX8_ride 129 = .ok (.ireturn, 1) := by decide +kernel
theorem dX8_soonest_0 : decode cX8_soonest 0 = .ok (.aload_n 0, 1) := by decide +kernel
theorem dX8_soonest_1 : decode cX8_soonest 1 = .ok (.getfield 19, 3) := by decide +kernel
theorem dX8_soonest_4 : decode cX8_soonest 4 = .ok (.iload_n 1, 1) := by decide +kernel
theorem dX8_soonest_5 : decode cX8_soonest 5 = .ok (.invokevirtual 136, 3) := by decide +kernel
theorem dX8_soonest_8 : decode cX8_soonest 8 = .ok (.ifCond .eq 18, 3) := by decide +kernel
theorem dX8_soonest_11 : decode cX8_soonest 11 = .ok (.aload_n 0, 1) := by decide +kernel
theorem dX8_soonest_12 : decode cX8_soonest 12 = .ok (.getfield 19, 3) := by decide +kernel
theorem dX8_soonest_15 : decode cX8_soonest 15 = .ok (.aload_n 0, 1) := by decide +kernel
theorem dX8_soonest_16 : decode cX8_soonest 16 = .ok (.getfield 29, 3) := by decide +kernel
theorem dX8_soonest_19 : decode cX8_soonest 19 = .ok (.iload_n 1, 1) := by decide +kernel
theorem dX8_soonest_20 : decode cX8_soonest 20 = .ok (.invokevirtual 205, 3) := by decide +kernel
theorem dX8_soonest_23 : decode cX8_soonest 23 = .ok (.goto 4, 3) := by decide +kernel
theorem dX8_soonest_26 : decode cX8_soonest 26 = .ok (.iconst (-1), 1) := by decide +kernel
theorem dX8_soonest_27 : decode cX8_soonest 27 = .ok (.ireturn, 1) := by decide +kernel
theorem dX8_order_0 : decode cX8_order 0 = .ok (.iload_n 1, 1) := by decide +kernel
theorem dX8_order_1 : decode cX8_order 1 = .ok (.iconst 0, 1) := by decide +kernel
theorem dX8_order_2 : decode cX8_order 2 = .ok (.bipush 7, 2) := by decide +kernel
theorem dX8_order_4 : decode cX8_order 4 = .ok (.invokestatic 99, 3) := by decide +kernel
theorem dX8_order_7 : decode cX8_order 7 = .ok (.ifCond .ne 5, 3) := by decide +kernel
theorem dX8_order_10 : decode cX8_order 10 = .ok (.iconst (-1), 1) := by decide +kernel
theorem dX8_order_11 : decode cX8_order 11 = .ok (.ireturn, 1) := by decide +kernel
theorem dX8_order_12 : decode cX8_order 12 = .ok (.aload_n 0, 1) := by decide +kernel
theorem dX8_order_13 : decode cX8_order 13 = .ok (.getfield 58, 3) := by decide +kernel
theorem dX8_order_16 : decode cX8_order 16 = .ok (.aload_n 0, 1) := by decide +kernel
theorem dX8_order_17 : decode cX8_order 17 = .ok (.getfield 19, 3) := by decide +kernel
theorem dX8_order_20 : decode cX8_order 20 = .ok (.aload_n 0, 1) := by decide +kernel
theorem dX8_order_21 : decode cX8_order 21 = .ok (.getfield 29, 3) := by decide +kernel
theorem dX8_order_24 : decode cX8_order 24 = .ok (.invokevirtual 209, 3) := by decide +kernel
theorem dX8_order_27 : decode cX8_order 27 = .ok (.iload_n 1, 1) := by decide +kernel
theorem dX8_order_28 : decode cX8_order 28 = .ok (.ifCond .ne 11, 3) := by decide +kernel
theorem dX8_order_31 : decode cX8_order 31 = .ok (.aload_n 0, 1) := by decide +kernel
theorem dX8_order_32 : decode cX8_order 32 = .ok (.getfield 58, 3) := by decide +kernel
theorem dX8_order_35 : decode cX8_order 35 = .ok (.getfield 213, 3) := by decide +kernel
theorem dX8_order_38 : decode cX8_order 38 = .ok (.ireturn, 1) := by decide +kernel
theorem dX8_order_39 : decode cX8_order 39 = .ok (.iload_n 1, 1) := by decide +kernel
theorem dX8_order_40 : decode cX8_order 40 = .ok (.aload_n 0, 1) := by decide +kernel
theorem dX8_order_41 : decode cX8_order 41 = .ok (.getfield 58, 3) := by decide +kernel
theorem dX8_order_44 : decode cX8_order 44 = .ok (.getfield 216, 3) := by decide +kernel
theorem dX8_order_47 : decode cX8_order 47 = .ok (.if_icmp .gt 17, 3) := by decide +kernel
theorem dX8_order_50 : decode cX8_order 50 = .ok (.aload_n 0, 1) := by decide +kernel
theorem dX8_order_51 : decode cX8_order 51 = .ok (.getfield 58, 3) := by decide +kernel
theorem dX8_order_54 : decode cX8_order 54 = .ok (.getfield 217, 3) := by decide +kernel
theorem dX8_order_57 : decode cX8_order 57 = .ok (.iload_n 1, 1) := by decide +kernel
theorem dX8_order_58 : decode cX8_order 58 = .ok (.iconst 1, 1) := by decide +kernel
theorem dX8_order_59 : decode cX8_order 59 = .ok (.isub, 1) := by decide +kernel
theorem dX8_order_60 : decode cX8_order 60 = .ok (.iaload, 1) := by decide +kernel
theorem dX8_order_61 : decode cX8_order 61 = .ok (.goto 5, 3) := by decide +kernel
theorem dX8_order_64 : decode cX8_order 64 = .ok (.bipush (-4), 2) := by decide +kernel
theorem dX8_order_66 : decode cX8_order 66 = .ok (.ireturn, 1) := by decide +kernel
theorem dX8_waiting_0 : decode cX8_waiting 0 = .ok (.aload_n 0, 1) := by decide +kernel
theorem dX8_waiting_1 : decode cX8_waiting 1 = .ok (.getfield 19, 3) := by decide +kernel
theorem dX8_waiting_4 : decode cX8_waiting 4 = .ok (.iload_n 1, 1) := by decide +kernel
theorem dX8_waiting_5 : decode cX8_waiting 5 = .ok (.invokevirtual 120, 3) := by decide +kernel
theorem dX8_waiting_8 : decode cX8_waiting 8 = .ok (.ifCond .eq 12, 3) := by decide +kernel
theorem dX8_waiting_11 : decode cX8_waiting 11 = .ok (.iload_n 2, 1) := by decide +kernel
theorem dX8_waiting_12 : decode cX8_waiting 12 = .ok (.iconst 0, 1) := by decide +kernel
theorem dX8_waiting_13 : decode cX8_waiting 13 = .ok (.iconst 1, 1) := by decide +kernel
theorem dX8_waiting_14 : decode cX8_waiting 14 = .ok (.invokestatic 99, 3) := by decide +kernel
theorem dX8_waiting_17 : decode cX8_waiting 17 = .ok (.ifCond .ne 5, 3) := by decide +kernel
theorem dX8_waiting_20 : decode cX8_waiting 20 = .ok (.iconst (-1), 1) := by decide +kernel
theorem dX8_waiting_21 : decode cX8_waiting 21 = .ok (.ireturn, 1) := by decide +kernel
theorem dX8_waiting_22 : decode cX8_waiting 22 = .ok (.iconst 0, 1) := by decide +kernel
theorem dX8_waiting_23 : decode cX8_waiting 23 = .ok (.istore_n 3, 1) := by decide +kernel
theorem dX8_waiting_24 : decode cX8_waiting 24 = .ok (.aload_n 0, 1) := by decide +kernel
theorem dX8_waiting_25 : decode cX8_waiting 25 = .ok (.iload_n 1, 1) := by decide +kernel
theorem dX8_waiting_26 : decode cX8_waiting 26 = .ok (.iconst 0, 1) := by decide +kernel
theorem dX8_waiting_27 : decode cX8_waiting 27 = .ok (.invokevirtual 220, 3) := by decide +kernel
theorem dX8_waiting_30 : decode cX8_waiting 30 = .ok (.istore 4, 2) := by decide +kernel
theorem dX8_waiting_32 : decode cX8_waiting 32 = .ok (.iconst 1, 1) := by decide +kernel
theorem dX8_waiting_33 : decode cX8_waiting 33 = .ok (.istore 5, 2) := by decide +kernel
theorem dX8_waiting_35 : decode cX8_waiting 35 = .ok (.iload 5, 2) := by decide +kernel
theorem dX8_waiting_37 : decode cX8_waiting 37 = .ok (.aload_n 0, 1) := by decide +kernel
theorem dX8_waiting_38 : decode cX8_waiting 38 = .ok (.getfield 19, 3) := by decide +kernel
theorem dX8_waiting_41 : decode cX8_waiting 41 = .ok (.invokevirtual 109, 3) := by decide +kernel
theorem dX8_waiting_44 : decode cX8_waiting 44 = .ok (.if_icmp .ge 32, 3) := by decide +kernel
theorem dX8_waiting_47 : decode cX8_waiting 47 = .ok (.aload_n 0, 1) := by decide +kernel
theorem dX8_waiting_48 : decode cX8_waiting 48 = .ok (.iload_n 1, 1) := by decide +kernel
theorem dX8_waiting_49 : decode cX8_waiting 49 = .ok (.iload 5, 2) := by decide +kernel
theorem dX8_waiting_51 : decode cX8_waiting 51 = .ok (.invokevirtual 220, 3) := by decide +kernel
theorem dX8_waiting_54 : decode cX8_waiting 54 = .ok (.istore 6, 2) := by decide +kernel
theorem dX8_waiting_56 : decode cX8_waiting 56 = .ok (.iload 6, 2) := by decide +kernel
theorem dX8_waiting_58 : decode cX8_waiting 58 = .ok (.iload 4, 2) := by decide +kernel
theorem dX8_waiting_60 : decode cX8_waiting 60 = .ok (.if_icmp .ge 10, 3) := by decide +kernel
theorem dX8_waiting_63 : decode cX8_waiting 63 = .ok (.iload 6, 2) := by decide +kernel
theorem dX8_waiting_65 : decode cX8_waiting 65 = .ok (.istore 4, 2) := by decide +kernel
theorem dX8_waiting_67 : decode cX8_waiting 67 = .ok (.iload 5, 2) := by decide +kernel
theorem dX8_waiting_69 : decode cX8_waiting 69 = .ok (.istore_n 3, 1) := by decide +kernel
theorem dX8_waiting_70 : decode cX8_waiting 70 = .ok (.iinc 5 1, 3) := by decide +kernel
theorem dX8_waiting_73 : decode cX8_waiting 73 = .ok (.goto (-38), 3) := by decide +kernel
theorem dX8_waiting_76 : decode cX8_waiting 76 = .ok (.iload_n 2, 1) := by decide +kernel
theorem dX8_waiting_77 : decode cX8_waiting 77 = .ok (.ifCond .ne 7, 3) := by decide +kernel
theorem dX8_waiting_80 : decode cX8_waiting 80 = .ok (.iload_n 3, 1) := by decide +kernel
theorem dX8_waiting_81 : decode cX8_waiting 81 = .ok (.goto 5, 3) := by decide +kernel
theorem dX8_waiting_84 : decode cX8_waiting 84 = .ok (.iload 4, 2) := by decide +kernel
theorem dX8_waiting_86 : decode cX8_waiting 86 = .ok (.ireturn, 1) := by decide +kernel
theorem dX8_round_0 : decode cX8_round 0 = .ok (.iload_n 1, 1) := by decide +kernel
theorem dX8_round_1 : decode cX8_round 1 = .ok (.iconst 0, 1) := by decide +kernel
theorem dX8_round_2 : decode cX8_round 2 = .ok (.iconst 1, 1) := by decide +kernel
theorem dX8_round_3 : decode cX8_round 3 = .ok (.invokestatic 99, 3) := by decide +kernel
theorem dX8_round_6 : decode cX8_round 6 = .ok (.ifCond .ne 5, 3) := by decide +kernel
theorem dX8_round_9 : decode cX8_round 9 = .ok (.iconst (-1), 1) := by decide +kernel
theorem dX8_round_10 : decode cX8_round 10 = .ok (.ireturn, 1) := by decide +kernel
theorem dX8_round_11 : decode cX8_round 11 = .ok (.aload_n 0, 1) := by decide +kernel
theorem dX8_round_12 : decode cX8_round 12 = .ok (.getfield 33, 3) := by decide +kernel
theorem dX8_round_15 : decode cX8_round 15 = .ok (.aload_n 0, 1) := by decide +kernel
theorem dX8_round_16 : decode cX8_round 16 = .ok (.getfield 29, 3) := by decide +kernel
theorem dX8_round_19 : decode cX8_round 19 = .ok (.invokevirtual 223, 3) := by decide +kernel
theorem dX8_round_22 : decode cX8_round 22 = .ok (.aload_n 0, 1) := by decide +kernel
theorem dX8_round_23 : decode cX8_round 23 = .ok (.getfield 69, 3) := by decide +kernel
theorem dX8_round_26 : decode cX8_round 26 = .ok (.iconst 0, 1) := by decide +kernel
theorem dX8_round_27 : decode cX8_round 27 = .ok (.aload_n 0, 1) := by decide +kernel
theorem dX8_round_28 : decode cX8_round 28 = .ok (.getfield 33, 3) := by decide +kernel
theorem dX8_round_31 : decode cX8_round 31 = .ok (.invokevirtual 226, 3) := by decide +kernel
theorem dX8_round_34 : decode cX8_round 34 = .ok (.lastore, 1) := by decide +kernel
theorem dX8_round_35 : decode cX8_round 35 = .ok (.iconst 1, 1) := by decide +kernel
theorem dX8_round_36 : decode cX8_round 36 = .ok (.istore_n 2, 1) := by decide +kernel
theorem dX8_round_37 : decode cX8_round 37 = .ok (.iload_n 2, 1) := by decide +kernel
theorem dX8_round_38 : decode cX8_round 38 = .ok (.bipush 40, 2) := by decide +kernel
theorem dX8_round_40 : decode cX8_round 40 = .ok (.if_icmp .gt 47, 3) := by decide +kernel
theorem dX8_round_43 : decode cX8_round 43 = .ok (.aload_n 0, 1) := by decide +kernel
theorem dX8_round_44 : decode cX8_round 44 = .ok (.invokevirtual 230, 3) := by decide +kernel
theorem dX8_round_47 : decode cX8_round 47 = .ok (.aload_n 0, 1) := by decide +kernel
theorem dX8_round_48 : decode cX8_round 48 = .ok (.getfield 69, 3) := by decide +kernel
theorem dX8_round_51 : decode cX8_round 51 = .ok (.iload_n 2, 1) := by decide +kernel
theorem dX8_round_52 : decode cX8_round 52 = .ok (.aload_n 0, 1) := by decide +kernel
theorem dX8_round_53 : decode cX8_round 53 = .ok (.getfield 33, 3) := by decide +kernel
theorem dX8_round_56 : decode cX8_round 56 = .ok (.invokevirtual 226, 3) := by decide +kernel
theorem dX8_round_59 : decode cX8_round 59 = .ok (.lastore, 1) := by decide +kernel
theorem dX8_round_60 : decode cX8_round 60 = .ok (.aload_n 0, 1) := by decide +kernel
theorem dX8_round_61 : decode cX8_round 61 = .ok (.iload_n 2, 1) := by decide +kernel
theorem dX8_round_62 : decode cX8_round 62 = .ok (.invokevirtual 233, 3) := by decide +kernel
theorem dX8_round_65 : decode cX8_round 65 = .ok (.istore_n 3, 1) := by decide +kernel
theorem dX8_round_66 : decode cX8_round 66 = .ok (.iload_n 3, 1) := by decide +kernel
theorem dX8_round_67 : decode cX8_round 67 = .ok (.iload_n 2, 1) := by decide +kernel
theorem dX8_round_68 : decode cX8_round 68 = .ok (.if_icmp .ge 13, 3) := by decide +kernel
theorem dX8_round_71 : decode cX8_round 71 = .ok (.iload_n 1, 1) := by decide +kernel
theorem dX8_round_72 : decode cX8_round 72 = .ok (.ifCond .ne 7, 3) := by decide +kernel
theorem dX8_round_75 : decode cX8_round 75 = .ok (.iload_n 2, 1) := by decide +kernel
theorem dX8_round_76 : decode cX8_round 76 = .ok (.goto 4, 3) := by decide +kernel
theorem dX8_round_79 : decode cX8_round 79 = .ok (.iload_n 3, 1) := by decide +kernel
theorem dX8_round_80 : decode cX8_round 80 = .ok (.ireturn, 1) := by decide +kernel
theorem dX8_round_81 : decode cX8_round 81 = .ok (.iinc 2 1, 3) := by decide +kernel
theorem dX8_round_84 : decode cX8_round 84 = .ok (.goto (-47), 3) := by decide +kernel
theorem dX8_round_87 : decode cX8_round 87 = .ok (.bipush (-4), 2) := by decide +kernel
theorem dX8_round_89 : decode cX8_round 89 = .ok (.ireturn, 1) := by decide +kernel
theorem dX8_mends_0 : decode cX8_mends 0 = .ok (.aload_n 0, 1) := by decide +kernel
theorem dX8_mends_1 : decode cX8_mends 1 = .ok (.getfield 19, 3) := by decide +kernel
theorem dX8_mends_4 : decode cX8_mends 4 = .ok (.iload_n 1, 1) := by decide +kernel
theorem dX8_mends_5 : decode cX8_mends 5 = .ok (.invokevirtual 136, 3) := by decide +kernel
theorem dX8_mends_8 : decode cX8_mends 8 = .ok (.ifCond .ne 5, 3) := by decide +kernel
theorem dX8_mends_11 : decode cX8_mends 11 = .ok (.iconst (-1), 1) := by decide +kernel
theorem dX8_mends_12 : decode cX8_mends 12 = .ok (.ireturn, 1) := by decide +kernel
theorem dX8_mends_13 : decode cX8_mends 13 = .ok (.aload_n 0, 1) := by decide +kernel
theorem dX8_mends_14 : decode cX8_mends 14 = .ok (.getfield 29, 3) := by decide +kernel
theorem dX8_mends_17 : decode cX8_mends 17 = .ok (.iload_n 1, 1) := by decide +kernel
theorem dX8_mends_18 : decode cX8_mends 18 = .ok (.invokevirtual 154, 3) := by decide +kernel
theorem dX8_mends_21 : decode cX8_mends 21 = .ok (.ifCond .ne 16, 3) := by decide +kernel
theorem dX8_mends_24 : decode cX8_mends 24 = .ok (.aload_n 0, 1) := by decide +kernel
theorem dX8_mends_25 : decode cX8_mends 25 = .ok (.getfield 19, 3) := by decide +kernel
theorem dX8_mends_28 : decode cX8_mends 28 = .ok (.getfield 139, 3) := by decide +kernel
theorem dX8_mends_31 : decode cX8_mends 31 = .ok (.iload_n 1, 1) := by decide +kernel
theorem dX8_mends_32 : decode cX8_mends 32 = .ok (.iaload, 1) := by decide +kernel
theorem dX8_mends_33 : decode cX8_mends 33 = .ok (.iconst 3, 1) := by decide +kernel
theorem dX8_mends_34 : decode cX8_mends 34 = .ok (.if_icmp .eq 6, 3) := by decide +kernel
theorem dX8_mends_37 : decode cX8_mends 37 = .ok (.bipush (-2), 2) := by decide +kernel
theorem dX8_mends_39 : decode cX8_mends 39 = .ok (.ireturn, 1) := by decide +kernel
theorem dX8_mends_40 : decode cX8_mends 40 = .ok (.aload_n 0, 1) := by decide +kernel
theorem dX8_mends_41 : decode cX8_mends 41 = .ok (.getfield 33, 3) := by decide +kernel
theorem dX8_mends_44 : decode cX8_mends 44 = .ok (.aload_n 0, 1) := by decide +kernel
theorem dX8_mends_45 : decode cX8_mends 45 = .ok (.getfield 29, 3) := by decide +kernel
theorem dX8_mends_48 : decode cX8_mends 48 = .ok (.invokevirtual 223, 3) := by decide +kernel
theorem dX8_mends_51 : decode cX8_mends 51 = .ok (.aload_n 0, 1) := by decide +kernel
theorem dX8_mends_52 : decode cX8_mends 52 = .ok (.iload_n 1, 1) := by decide +kernel
theorem dX8_mends_53 : decode cX8_mends 53 = .ok (.invokevirtual 237, 3) := by decide +kernel
theorem dX8_mends_56 : decode cX8_mends 56 = .ok (.istore_n 2, 1) := by decide +kernel
theorem dX8_mends_57 : decode cX8_mends 57 = .ok (.aload_n 0, 1) := by decide +kernel
theorem dX8_mends_58 : decode cX8_mends 58 = .ok (.getfield 33, 3) := by decide +kernel
theorem dX8_mends_61 : decode cX8_mends 61 = .ok (.aload_n 0, 1) := by decide +kernel
theorem dX8_mends_62 : decode cX8_mends 62 = .ok (.getfield 29, 3) := by decide +kernel
theorem dX8_mends_65 : decode cX8_mends 65 = .ok (.invokevirtual 223, 3) := by decide +kernel
theorem dX8_mends_68 : decode cX8_mends 68 = .ok (.aload_n 0, 1) := by decide +kernel
theorem dX8_mends_69 : decode cX8_mends 69 = .ok (.getfield 19, 3) := by decide +kernel
theorem dX8_mends_72 : decode cX8_mends 72 = .ok (.aload_n 0, 1) := by decide +kernel
theorem dX8_mends_73 : decode cX8_mends 73 = .ok (.getfield 33, 3) := by decide +kernel
theorem dX8_mends_76 : decode cX8_mends 76 = .ok (.iload_n 1, 1) := by decide +kernel
theorem dX8_mends_77 : decode cX8_mends 77 = .ok (.invokevirtual 240, 3) := by decide +kernel
theorem dX8_mends_80 : decode cX8_mends 80 = .ok (.pop, 1) := by decide +kernel
theorem dX8_mends_81 : decode cX8_mends 81 = .ok (.iload_n 2, 1) := by decide +kernel
theorem dX8_mends_82 : decode cX8_mends 82 = .ok (.aload_n 0, 1) := by decide +kernel
theorem dX8_mends_83 : decode cX8_mends 83 = .ok (.iload_n 1, 1) := by decide +kernel
theorem dX8_mends_84 : decode cX8_mends 84 = .ok (.invokevirtual 237, 3) := by decide +kernel
theorem dX8_mends_87 : decode cX8_mends 87 = .ok (.isub, 1) := by decide +kernel
theorem dX8_mends_88 : decode cX8_mends 88 = .ok (.bipush 10, 2) := by decide +kernel
theorem dX8_mends_90 : decode cX8_mends 90 = .ok (.iadd, 1) := by decide +kernel
theorem dX8_mends_91 : decode cX8_mends 91 = .ok (.ireturn, 1) := by decide +kernel
theorem dX8_rivals_0 : decode cX8_rivals 0 = .ok (.aload_n 0, 1) := by decide +kernel
theorem dX8_rivals_1 : decode cX8_rivals 1 = .ok (.getfield 19, 3) := by decide +kernel
theorem dX8_rivals_4 : decode cX8_rivals 4 = .ok (.iload_n 1, 1) := by decide +kernel
theorem dX8_rivals_5 : decode cX8_rivals 5 = .ok (.invokevirtual 120, 3) := by decide +kernel
theorem dX8_rivals_8 : decode cX8_rivals 8 = .ok (.ifCond .eq 23, 3) := by decide +kernel
theorem dX8_rivals_11 : decode cX8_rivals 11 = .ok (.aload_n 0, 1) := by decide +kernel
theorem dX8_rivals_12 : decode cX8_rivals 12 = .ok (.getfield 19, 3) := by decide +kernel
theorem dX8_rivals_15 : decode cX8_rivals 15 = .ok (.iload_n 2, 1) := by decide +kernel
theorem dX8_rivals_16 : decode cX8_rivals 16 = .ok (.invokevirtual 120, 3) := by decide +kernel
theorem dX8_rivals_19 : decode cX8_rivals 19 = .ok (.ifCond .eq 12, 3) := by decide +kernel
theorem dX8_rivals_22 : decode cX8_rivals 22 = .ok (.iload_n 1, 1) := by decide +kernel
theorem dX8_rivals_23 : decode cX8_rivals 23 = .ok (.iload_n 2, 1) := by decide +kernel
theorem dX8_rivals_24 : decode cX8_rivals 24 = .ok (.if_icmp .eq 7, 3) := by decide +kernel
theorem dX8_rivals_27 : decode cX8_rivals 27 = .ok (.iconst 1, 1) := by decide +kernel
theorem dX8_rivals_28 : decode cX8_rivals 28 = .ok (.goto 4, 3) := by decide +kernel
theorem dX8_rivals_31 : decode cX8_rivals 31 = .ok (.iconst 0, 1) := by decide +kernel
theorem dX8_rivals_32 : decode cX8_rivals 32 = .ok (.istore 5, 2) := by decide +kernel
theorem dX8_rivals_34 : decode cX8_rivals 34 = .ok (.iload 5, 2) := by decide +kernel
theorem dX8_rivals_36 : decode cX8_rivals 36 = .ok (.ifCond .eq 22, 3) := by decide +kernel
theorem dX8_rivals_39 : decode cX8_rivals 39 = .ok (.iload_n 3, 1) := by decide +kernel
theorem dX8_rivals_40 : decode cX8_rivals 40 = .ok (.iconst 1, 1) := by decide +kernel
theorem dX8_rivals_41 : decode cX8_rivals 41 = .ok (.iconst 4, 1) := by decide +kernel
theorem dX8_rivals_42 : decode cX8_rivals 42 = .ok (.invokestatic 99, 3) := by decide +kernel
theorem dX8_rivals_45 : decode cX8_rivals 45 = .ok (.ifCond .eq 13, 3) := by decide +kernel
theorem dX8_rivals_48 : decode cX8_rivals 48 = .ok (.iload 4, 2) := by decide +kernel
theorem dX8_rivals_50 : decode cX8_rivals 50 = .ok (.iconst 0, 1) := by decide +kernel
theorem dX8_rivals_51 : decode cX8_rivals 51 = .ok (.iconst 1, 1) := by decide +kernel
theorem dX8_rivals_52 : decode cX8_rivals 52 = .ok (.invokestatic 99, 3) := by decide +kernel
theorem dX8_rivals_55 : decode cX8_rivals 55 = .ok (.ifCond .ne 5, 3) := by decide +kernel
theorem dX8_rivals_58 : decode cX8_rivals 58 = .ok (.iconst (-1), 1) := by decide +kernel
theorem dX8_rivals_59 : decode cX8_rivals 59 = .ok (.ireturn, 1) := by decide +kernel
theorem dX8_rivals_60 : decode cX8_rivals 60 = .ok (.aload_n 0, 1) := by decide +kernel
theorem dX8_rivals_61 : decode cX8_rivals 61 = .ok (.getfield 65, 3) := by decide +kernel
theorem dX8_rivals_64 : decode cX8_rivals 64 = .ok (.aload_n 0, 1) := by decide +kernel
theorem dX8_rivals_65 : decode cX8_rivals 65 = .ok (.getfield 19, 3) := by decide +kernel
theorem dX8_rivals_68 : decode cX8_rivals 68 = .ok (.aload_n 0, 1) := by decide +kernel
theorem dX8_rivals_69 : decode cX8_rivals 69 = .ok (.getfield 29, 3) := by decide +kernel
theorem dX8_rivals_72 : decode cX8_rivals 72 = .ok (.iload_n 1, 1) := by decide +kernel
theorem dX8_rivals_73 : decode cX8_rivals 73 = .ok (.iload_n 2, 1) := by decide +kernel
theorem dX8_rivals_74 : decode cX8_rivals 74 = .ok (.iload_n 3, 1) := by decide +kernel
theorem dX8_rivals_75 : decode cX8_rivals 75 = .ok (.invokevirtual 244, 3) := by decide +kernel
theorem dX8_rivals_78 : decode cX8_rivals 78 = .ok (.iload 4, 2) := by decide +kernel
theorem dX8_rivals_80 : decode cX8_rivals 80 = .ok (.ifCond .ne 16, 3) := by decide +kernel
theorem dX8_rivals_83 : decode cX8_rivals 83 = .ok (.aload_n 0, 1) := by decide +kernel
theorem dX8_rivals_84 : decode cX8_rivals 84 = .ok (.getfield 65, 3) := by decide +kernel
theorem dX8_rivals_87 : decode cX8_rivals 87 = .ok (.getfield 248, 3) := by decide +kernel
theorem dX8_rivals_90 : decode cX8_rivals 90 = .ok (.bipush 10, 2) := by decide +kernel
theorem dX8_rivals_92 : decode cX8_rivals 92 = .ok (.iadd, 1) := by decide +kernel
theorem dX8_rivals_93 : decode cX8_rivals 93 = .ok (.goto 10, 3) := by decide +kernel
theorem dX8_rivals_96 : decode cX8_rivals 96 = .ok (.aload_n 0, 1) := by decide +kernel
theorem dX8_rivals_97 : decode cX8_rivals 97 = .ok (.getfield 65, 3) := by decide +kernel
theorem dX8_rivals_100 : decode cX8_rivals 100 = .ok (.getfield 251, 3) := by decide +kernel
theorem dX8_rivals_103 : decode cX8_rivals 103 = .ok (.ireturn, 1) := by decide +kernel
theorem dX8_see_0 : decode cX8_see 0 = .ok (.aload_n 0, 1) := by decide +kernel
theorem dX8_see_1 : decode cX8_see 1 = .ok (.getfield 19, 3) := by decide +kernel
theorem dX8_see_4 : decode cX8_see 4 = .ok (.iload_n 1, 1) := by decide +kernel
theorem dX8_see_5 : decode cX8_see 5 = .ok (.invokevirtual 120, 3) := by decide +kernel
theorem dX8_see_8 : decode cX8_see 8 = .ok (.ifCond .eq 25, 3) := by decide +kernel
theorem dX8_see_11 : decode cX8_see 11 = .ok (.aload_n 0, 1) := by decide +kernel
theorem dX8_see_12 : decode cX8_see 12 = .ok (.getfield 19, 3) := by decide +kernel
theorem dX8_see_15 : decode cX8_see 15 = .ok (.iload_n 2, 1) := by decide +kernel
theorem dX8_see_16 : decode cX8_see 16 = .ok (.invokevirtual 136, 3) := by decide +kernel
theorem dX8_see_19 : decode cX8_see 19 = .ok (.ifCond .eq 14, 3) := by decide +kernel
theorem dX8_see_22 : decode cX8_see 22 = .ok (.iload_n 3, 1) := by decide +kernel
theorem dX8_see_23 : decode cX8_see 23 = .ok (.iconst 0, 1) := by decide +kernel
theorem dX8_see_24 : decode cX8_see 24 = .ok (.sipush 400, 3) := by decide +kernel
theorem dX8_see_27 : decode cX8_see 27 = .ok (.invokestatic 99, 3) := by decide +kernel
theorem dX8_see_30 : decode cX8_see 30 = .ok (.ifCond .ne 5, 3) := by decide +kernel
theorem dX8_see_33 : decode cX8_see 33 = .ok (.iconst (-1), 1) := by decide +kernel
theorem dX8_see_34 : decode cX8_see 34 = .ok (.ireturn, 1) := by decide +kernel
theorem dX8_see_35 : decode cX8_see 35 = .ok (.aload_n 0, 1) := by decide +kernel
theorem dX8_see_36 : decode cX8_see 36 = .ok (.getfield 51, 3) := by decide +kernel
theorem dX8_see_39 : decode cX8_see 39 = .ok (.iload_n 1, 1) := by decide +kernel
theorem dX8_see_40 : decode cX8_see 40 = .ok (.iload_n 2, 1) := by decide +kernel
theorem dX8_see_41 : decode cX8_see 41 = .ok (.iload_n 3, 1) := by decide +kernel
theorem dX8_see_42 : decode cX8_see 42 = .ok (.invokevirtual 254, 3) := by decide +kernel
theorem dX8_see_45 : decode cX8_see 45 = .ok (.ifCond .eq 13, 3) := by decide +kernel
theorem dX8_see_48 : decode cX8_see 48 = .ok (.aload_n 0, 1) := by decide +kernel
theorem dX8_see_49 : decode cX8_see 49 = .ok (.getfield 51, 3) := by decide +kernel
theorem dX8_see_52 : decode cX8_see 52 = .ok (.getfield 256, 3) := by decide +kernel
theorem dX8_see_55 : decode cX8_see 55 = .ok (.goto 5, 3) := by decide +kernel
theorem dX8_see_58 : decode cX8_see 58 = .ok (.bipush (-3), 2) := by decide +kernel
theorem dX8_see_60 : decode cX8_see 60 = .ok (.ireturn, 1) := by decide +kernel
theorem dX8_forget_0 : decode cX8_forget 0 = .ok (.aload_n 0, 1) := by decide +kernel
theorem dX8_forget_1 : decode cX8_forget 1 = .ok (.getfield 51, 3) := by decide +kernel
theorem dX8_forget_4 : decode cX8_forget 4 = .ok (.getfield 256, 3) := by decide +kernel
theorem dX8_forget_7 : decode cX8_forget 7 = .ok (.istore_n 1, 1) := by decide +kernel
theorem dX8_forget_8 : decode cX8_forget 8 = .ok (.aload_n 0, 1) := by decide +kernel
theorem dX8_forget_9 : decode cX8_forget 9 = .ok (.getfield 51, 3) := by decide +kernel
theorem dX8_forget_12 : decode cX8_forget 12 = .ok (.iconst 0, 1) := by decide +kernel
theorem dX8_forget_13 : decode cX8_forget 13 = .ok (.putfield 256, 3) := by decide +kernel
theorem dX8_forget_16 : decode cX8_forget 16 = .ok (.iload_n 1, 1) := by decide +kernel
theorem dX8_forget_17 : decode cX8_forget 17 = .ok (.ireturn, 1) := by decide +kernel
theorem dX8_wept_0 : decode cX8_wept 0 = .ok (.aload_n 0, 1) := by decide +kernel
theorem dX8_wept_1 : decode cX8_wept 1 = .ok (.getfield 19, 3) := by decide +kernel
theorem dX8_wept_4 : decode cX8_wept 4 = .ok (.iload_n 1, 1) := by decide +kernel
theorem dX8_wept_5 : decode cX8_wept 5 = .ok (.invokevirtual 120, 3) := by decide +kernel
theorem dX8_wept_8 : decode cX8_wept 8 = .ok (.ifCond .eq 12, 3) := by decide +kernel
theorem dX8_wept_11 : decode cX8_wept 11 = .ok (.iload_n 2, 1) := by decide +kernel
theorem dX8_wept_12 : decode cX8_wept 12 = .ok (.iconst 0, 1) := by decide +kernel
theorem dX8_wept_13 : decode cX8_wept 13 = .ok (.iconst 1, 1) := by decide +kernel
theorem dX8_wept_14 : decode cX8_wept 14 = .ok (.invokestatic 99, 3) := by decide +kernel
theorem dX8_wept_17 : decode cX8_wept 17 = .ok (.ifCond .ne 5, 3) := by decide +kernel
theorem dX8_wept_20 : decode cX8_wept 20 = .ok (.iconst (-1), 1) := by decide +kernel
theorem dX8_wept_21 : decode cX8_wept 21 = .ok (.ireturn, 1) := by decide +kernel
theorem dX8_wept_22 : decode cX8_wept 22 = .ok (.aload_n 0, 1) := by decide +kernel
theorem dX8_wept_23 : decode cX8_wept 23 = .ok (.iload_n 1, 1) := by decide +kernel
theorem dX8_wept_24 : decode cX8_wept 24 = .ok (.aload_n 0, 1) := by decide +kernel
theorem dX8_wept_25 : decode cX8_wept 25 = .ok (.getfield 19, 3) := by decide +kernel
theorem dX8_wept_28 : decode cX8_wept 28 = .ok (.getfield 123, 3) := by decide +kernel
theorem dX8_wept_31 : decode cX8_wept 31 = .ok (.iload_n 1, 1) := by decide +kernel
theorem dX8_wept_32 : decode cX8_wept 32 = .ok (.iaload, 1) := by decide +kernel
theorem dX8_wept_33 : decode cX8_wept 33 = .ok (.bipush (-4), 2) := by decide +kernel
theorem dX8_wept_35 : decode cX8_wept 35 = .ok (.invokevirtual 257, 3) := by decide +kernel
theorem dX8_wept_38 : decode cX8_wept 38 = .ok (.ifCond .eq 7, 3) := by decide +kernel
theorem dX8_wept_41 : decode cX8_wept 41 = .ok (.iconst 1, 1) := by decide +kernel
theorem dX8_wept_42 : decode cX8_wept 42 = .ok (.goto 4, 3) := by decide +kernel
theorem dX8_wept_45 : decode cX8_wept 45 = .ok (.iconst 0, 1) := by decide +kernel
theorem dX8_wept_46 : decode cX8_wept 46 = .ok (.istore_n 3, 1) := by decide +kernel
theorem dX8_wept_47 : decode cX8_wept 47 = .ok (.iload_n 3, 1) := by decide +kernel
theorem dX8_wept_48 : decode cX8_wept 48 = .ok (.iconst 1, 1) := by decide +kernel
theorem dX8_wept_49 : decode cX8_wept 49 = .ok (.if_icmp .ne 8, 3) := by decide +kernel
theorem dX8_wept_52 : decode cX8_wept 52 = .ok (.bipush 99, 2) := by decide +kernel
theorem dX8_wept_54 : decode cX8_wept 54 = .ok (.goto 5, 3) := by decide +kernel
theorem dX8_wept_57 : decode cX8_wept 57 = .ok (.bipush (-4), 2) := by decide +kernel
theorem dX8_wept_59 : decode cX8_wept 59 = .ok (.istore 4, 2) := by decide +kernel
theorem dX8_wept_61 : decode cX8_wept 61 = .ok (.aload_n 0, 1) := by decide +kernel
theorem dX8_wept_62 : decode cX8_wept 62 = .ok (.getfield 19, 3) := by decide +kernel
theorem dX8_wept_65 : decode cX8_wept 65 = .ok (.invokevirtual 109, 3) := by decide +kernel
theorem dX8_wept_68 : decode cX8_wept 68 = .ok (.iconst 1, 1) := by decide +kernel
theorem dX8_wept_69 : decode cX8_wept 69 = .ok (.isub, 1) := by decide +kernel
theorem dX8_wept_70 : decode cX8_wept 70 = .ok (.istore 5, 2) := by decide +kernel
theorem dX8_wept_72 : decode cX8_wept 72 = .ok (.iload 5, 2) := by decide +kernel
theorem dX8_wept_74 : decode cX8_wept 74 = .ok (.ifCond .lt 35, 3) := by decide +kernel
theorem dX8_wept_77 : decode cX8_wept 77 = .ok (.aload_n 0, 1) := by decide +kernel
theorem dX8_wept_78 : decode cX8_wept 78 = .ok (.iload_n 1, 1) := by decide +kernel
theorem dX8_wept_79 : decode cX8_wept 79 = .ok (.aload_n 0, 1) := by decide +kernel
theorem dX8_wept_80 : decode cX8_wept 80 = .ok (.getfield 19, 3) := by decide +kernel
theorem dX8_wept_83 : decode cX8_wept 83 = .ok (.getfield 123, 3) := by decide +kernel
theorem dX8_wept_86 : decode cX8_wept 86 = .ok (.iload_n 1, 1) := by decide +kernel
theorem dX8_wept_87 : decode cX8_wept 87 = .ok (.iaload, 1) := by decide +kernel
theorem dX8_wept_88 : decode cX8_wept 88 = .ok (.iload 5, 2) := by decide +kernel
theorem dX8_wept_90 : decode cX8_wept 90 = .ok (.invokevirtual 257, 3) := by decide +kernel
theorem dX8_wept_93 : decode cX8_wept 93 = .ok (.ifCond .eq 10, 3) := by decide +kernel
theorem dX8_wept_96 : decode cX8_wept 96 = .ok (.iinc 3 1, 3) := by decide +kernel
theorem dX8_wept_99 : decode cX8_wept 99 = .ok (.iload 5, 2) := by decide +kernel
theorem dX8_wept_101 : decode cX8_wept 101 = .ok (.istore 4, 2) := by decide +kernel
theorem dX8_wept_103 : decode cX8_wept 103 = .ok (.iinc 5 (-1), 3) := by decide +kernel
theorem dX8_wept_106 : decode cX8_wept 106 = .ok (.goto (-34), 3) := by decide +kernel
theorem dX8_wept_109 : decode cX8_wept 109 = .ok (.iload_n 2, 1) := by decide +kernel
theorem dX8_wept_110 : decode cX8_wept 110 = .ok (.ifCond .ne 7, 3) := by decide +kernel
theorem dX8_wept_113 : decode cX8_wept 113 = .ok (.iload_n 3, 1) := by decide +kernel
theorem dX8_wept_114 : decode cX8_wept 114 = .ok (.goto 5, 3) := by decide +kernel
theorem dX8_wept_117 : decode cX8_wept 117 = .ok (.iload 4, 2) := by decide +kernel
theorem dX8_wept_119 : decode cX8_wept 119 = .ok (.ireturn, 1) := by decide +kernel
theorem dX8_kinds_0 : decode cX8_kinds 0 = .ok (.aload_n 0, 1) := by decide +kernel
theorem dX8_kinds_1 : decode cX8_kinds 1 = .ok (.getfield 19, 3) := by decide +kernel
theorem dX8_kinds_4 : decode cX8_kinds 4 = .ok (.iload_n 1, 1) := by decide +kernel
theorem dX8_kinds_5 : decode cX8_kinds 5 = .ok (.invokevirtual 120, 3) := by decide +kernel
theorem dX8_kinds_8 : decode cX8_kinds 8 = .ok (.ifCond .ne 5, 3) := by decide +kernel
theorem dX8_kinds_11 : decode cX8_kinds 11 = .ok (.iconst (-1), 1) := by decide +kernel
theorem dX8_kinds_12 : decode cX8_kinds 12 = .ok (.ireturn, 1) := by decide +kernel
theorem dX8_kinds_13 : decode cX8_kinds 13 = .ok (.iconst 0, 1) := by decide +kernel
theorem dX8_kinds_14 : decode cX8_kinds 14 = .ok (.istore_n 2, 1) := by decide +kernel
theorem dX8_kinds_15 : decode cX8_kinds 15 = .ok (.iconst 0, 1) := by decide +kernel
theorem dX8_kinds_16 : decode cX8_kinds 16 = .ok (.istore_n 3, 1) := by decide +kernel
theorem dX8_kinds_17 : decode cX8_kinds 17 = .ok (.iload_n 3, 1) := by decide +kernel
theorem dX8_kinds_18 : decode cX8_kinds 18 = .ok (.iconst 3, 1) := by decide +kernel
theorem dX8_kinds_19 : decode cX8_kinds 19 = .ok (.if_icmp .ge 33, 3) := by decide +kernel
theorem dX8_kinds_22 : decode cX8_kinds 22 = .ok (.aload_n 0, 1) := by decide +kernel
theorem dX8_kinds_23 : decode cX8_kinds 23 = .ok (.iload_n 1, 1) := by decide +kernel
theorem dX8_kinds_24 : decode cX8_kinds 24 = .ok (.iload_n 3, 1) := by decide +kernel
theorem dX8_kinds_25 : decode cX8_kinds 25 = .ok (.aload_n 0, 1) := by decide +kernel
theorem dX8_kinds_26 : decode cX8_kinds 26 = .ok (.getfield 29, 3) := by decide +kernel
theorem dX8_kinds_29 : decode cX8_kinds 29 = .ok (.getfield 133, 3) := by decide +kernel
theorem dX8_kinds_32 : decode cX8_kinds 32 = .ok (.iload_n 1, 1) := by decide +kernel
theorem dX8_kinds_33 : decode cX8_kinds 33 = .ok (.iaload, 1) := by decide +kernel
theorem dX8_kinds_34 : decode cX8_kinds 34 = .ok (.invokevirtual 257, 3) := by decide +kernel
theorem dX8_kinds_37 : decode cX8_kinds 37 = .ok (.ifCond .eq 9, 3) := by decide +kernel
theorem dX8_kinds_40 : decode cX8_kinds 40 = .ok (.iload_n 2, 1) := by decide +kernel
theorem dX8_kinds_41 : decode cX8_kinds 41 = .ok (.iconst 1, 1) := by decide +kernel
theorem dX8_kinds_42 : decode cX8_kinds 42 = .ok (.iload_n 3, 1) := by decide +kernel
theorem dX8_kinds_43 : decode cX8_kinds 43 = .ok (.ishl, 1) := by decide +kernel
theorem dX8_kinds_44 : decode cX8_kinds 44 = .ok (.ior, 1) := by decide +kernel
theorem dX8_kinds_45 : decode cX8_kinds 45 = .ok (.istore_n 2, 1) := by decide +kernel
theorem dX8_kinds_46 : decode cX8_kinds 46 = .ok (.iinc 3 1, 3) := by decide +kernel
theorem dX8_kinds_49 : decode cX8_kinds 49 = .ok (.goto (-32), 3) := by decide +kernel
theorem dX8_kinds_52 : decode cX8_kinds 52 = .ok (.iload_n 2, 1) := by decide +kernel
theorem dX8_kinds_53 : decode cX8_kinds 53 = .ok (.ireturn, 1) := by decide +kernel
theorem dX8_tears_0 : decode cX8_tears 0 = .ok (.iload_n 1, 1) := by decide +kernel
theorem dX8_tears_1 : decode cX8_tears 1 = .ok (.iconst 0, 1) := by decide +kernel
theorem dX8_tears_2 : decode cX8_tears 2 = .ok (.bipush 7, 2) := by decide +kernel
theorem dX8_tears_4 : decode cX8_tears 4 = .ok (.invokestatic 99, 3) := by decide +kernel
theorem dX8_tears_7 : decode cX8_tears 7 = .ok (.ifCond .eq 22, 3) := by decide +kernel
theorem dX8_tears_10 : decode cX8_tears 10 = .ok (.iload_n 2, 1) := by decide +kernel
theorem dX8_tears_11 : decode cX8_tears 11 = .ok (.iconst 0, 1) := by decide +kernel
theorem dX8_tears_12 : decode cX8_tears 12 = .ok (.bipush 10, 2) := by decide +kernel
theorem dX8_tears_14 : decode cX8_tears 14 = .ok (.invokestatic 99, 3) := by decide +kernel
theorem dX8_tears_17 : decode cX8_tears 17 = .ok (.ifCond .eq 12, 3) := by decide +kernel
theorem dX8_tears_20 : decode cX8_tears 20 = .ok (.iload_n 3, 1) := by decide +kernel
theorem dX8_tears_21 : decode cX8_tears 21 = .ok (.iconst 0, 1) := by decide +kernel
theorem dX8_tears_22 : decode cX8_tears 22 = .ok (.iconst 1, 1) := by decide +kernel
theorem dX8_tears_23 : decode cX8_tears 23 = .ok (.invokestatic 99, 3) := by decide +kernel
theorem dX8_tears_26 : decode cX8_tears 26 = .ok (.ifCond .ne 5, 3) := by decide +kernel
theorem dX8_tears_29 : decode cX8_tears 29 = .ok (.iconst (-1), 1) := by decide +kernel
theorem dX8_tears_30 : decode cX8_tears 30 = .ok (.ireturn, 1) := by decide +kernel
theorem dX8_tears_31 : decode cX8_tears 31 = .ok (.aload_n 0, 1) := by decide +kernel
theorem dX8_tears_32 : decode cX8_tears 32 = .ok (.getfield 19, 3) := by decide +kernel
theorem dX8_tears_35 : decode cX8_tears 35 = .ok (.aload_n 0, 1) := by decide +kernel
theorem dX8_tears_36 : decode cX8_tears 36 = .ok (.getfield 29, 3) := by decide +kernel
theorem dX8_tears_39 : decode cX8_tears 39 = .ok (.invokestatic 260, 3) := by decide +kernel
theorem dX8_tears_42 : decode cX8_tears 42 = .ok (.istore 4, 2) := by decide +kernel
theorem dX8_tears_44 : decode cX8_tears 44 = .ok (.bipush 10, 2) := by decide +kernel
theorem dX8_tears_46 : decode cX8_tears 46 = .ok (.iload 4, 2) := by decide +kernel
theorem dX8_tears_48 : decode cX8_tears 48 = .ok (.invokestatic 264, 3) := by decide +kernel
theorem dX8_tears_51 : decode cX8_tears 51 = .ok (.istore 5, 2) := by decide +kernel
theorem dX8_tears_53 : decode cX8_tears 53 = .ok (.iconst 0, 1) := by decide +kernel
theorem dX8_tears_54 : decode cX8_tears 54 = .ok (.istore 6, 2) := by decide +kernel
theorem dX8_tears_56 : decode cX8_tears 56 = .ok (.iconst 0, 1) := by decide +kernel
theorem dX8_tears_57 : decode cX8_tears 57 = .ok (.istore 7, 2) := by decide +kernel
theorem dX8_tears_59 : decode cX8_tears 59 = .ok (.iload 7, 2) := by decide +kernel
theorem dX8_tears_61 : decode cX8_tears 61 = .ok (.iconst 1, 1) := by decide +kernel
theorem dX8_tears_62 : decode cX8_tears 62 = .ok (.iload 4, 2) := by decide +kernel
theorem dX8_tears_64 : decode cX8_tears 64 = .ok (.ishl, 1) := by decide +kernel
theorem dX8_tears_65 : decode cX8_tears 65 = .ok (.if_icmp .ge 59, 3) := by decide +kernel
theorem dX8_tears_68 : decode cX8_tears 68 = .ok (.iload 7, 2) := by decide +kernel
theorem dX8_tears_70 : decode cX8_tears 70 = .ok (.invokestatic 267, 3) := by decide +kernel
theorem dX8_tears_73 : decode cX8_tears 73 = .ok (.istore 8, 2) := by decide +kernel
theorem dX8_tears_75 : decode cX8_tears 75 = .ok (.iload_n 2, 1) := by decide +kernel
theorem dX8_tears_76 : decode cX8_tears 76 = .ok (.iload 8, 2) := by decide +kernel
theorem dX8_tears_78 : decode cX8_tears 78 = .ok (.invokestatic 264, 3) := by decide +kernel
theorem dX8_tears_81 : decode cX8_tears 81 = .ok (.bipush 10, 2) := by decide +kernel
theorem dX8_tears_83 : decode cX8_tears 83 = .ok (.iload_n 2, 1) := by decide +kernel
theorem dX8_tears_84 : decode cX8_tears 84 = .ok (.isub, 1) := by decide +kernel
theorem dX8_tears_85 : decode cX8_tears 85 = .ok (.iload 4, 2) := by decide +kernel
theorem dX8_tears_87 : decode cX8_tears 87 = .ok (.iload 8, 2) := by decide +kernel
theorem dX8_tears_89 : decode cX8_tears 89 = .ok (.isub, 1) := by decide +kernel
theorem dX8_tears_90 : decode cX8_tears 90 = .ok (.invokestatic 264, 3) := by decide +kernel
theorem dX8_tears_93 : decode cX8_tears 93 = .ok (.imul, 1) := by decide +kernel
theorem dX8_tears_94 : decode cX8_tears 94 = .ok (.istore 9, 2) := by decide +kernel
theorem dX8_tears_96 : decode cX8_tears 96 = .ok (.iload 9, 2) := by decide +kernel
theorem dX8_tears_98 : decode cX8_tears 98 = .ok (.ifCond .le 20, 3) := by decide +kernel
theorem dX8_tears_101 : decode cX8_tears 101 = .ok (.aload_n 0, 1) := by decide +kernel
theorem dX8_tears_102 : decode cX8_tears 102 = .ok (.iload 7, 2) := by decide +kernel
theorem dX8_tears_104 : decode cX8_tears 104 = .ok (.invokevirtual 272, 3) := by decide +kernel
theorem dX8_tears_107 : decode cX8_tears 107 = .ok (.iload_n 1, 1) := by decide +kernel
theorem dX8_tears_108 : decode cX8_tears 108 = .ok (.if_icmp .lt 10, 3) := by decide +kernel
theorem dX8_tears_111 : decode cX8_tears 111 = .ok (.iload 6, 2) := by decide +kernel
theorem dX8_tears_113 : decode cX8_tears 113 = .ok (.iload 9, 2) := by decide +kernel
theorem dX8_tears_115 : decode cX8_tears 115 = .ok (.iadd, 1) := by decide +kernel
theorem dX8_tears_116 : decode cX8_tears 116 = .ok (.istore 6, 2) := by decide +kernel
theorem dX8_tears_118 : decode cX8_tears 118 = .ok (.iinc 7 1, 3) := by decide +kernel
theorem dX8_tears_121 : decode cX8_tears 121 = .ok (.goto (-62), 3) := by decide +kernel
theorem dX8_tears_124 : decode cX8_tears 124 = .ok (.iload 6, 2) := by decide +kernel
theorem dX8_tears_126 : decode cX8_tears 126 = .ok (.iload 5, 2) := by decide +kernel
theorem dX8_tears_128 : decode cX8_tears 128 = .ok (.invokestatic 275, 3) := by decide +kernel
theorem dX8_tears_131 : decode cX8_tears 131 = .ok (.istore 7, 2) := by decide +kernel
theorem dX8_tears_133 : decode cX8_tears 133 = .ok (.iload_n 3, 1) := by decide +kernel
theorem dX8_tears_134 : decode cX8_tears 134 = .ok (.ifCond .ne 8, 3) := by decide +kernel
theorem dX8_tears_137 : decode cX8_tears 137 = .ok (.iload 6, 2) := by decide +kernel
theorem dX8_tears_139 : decode cX8_tears 139 = .ok (.goto 5, 3) := by decide +kernel
theorem dX8_tears_142 : decode cX8_tears 142 = .ok (.iload 5, 2) := by decide +kernel
theorem dX8_tears_144 : decode cX8_tears 144 = .ok (.iconst 1, 1) := by decide +kernel
theorem dX8_tears_145 : decode cX8_tears 145 = .ok (.iload 7, 2) := by decide +kernel
theorem dX8_tears_147 : decode cX8_tears 147 = .ok (.invokestatic 278, 3) := by decide +kernel
theorem dX8_tears_150 : decode cX8_tears 150 = .ok (.idiv, 1) := by decide +kernel
theorem dX8_tears_151 : decode cX8_tears 151 = .ok (.ireturn, 1) := by decide +kernel
theorem dX8_year_0 : decode cX8_year 0 = .ok (.iload_n 1, 1) := by decide +kernel
theorem dX8_year_1 : decode cX8_year 1 = .ok (.iconst 0, 1) := by decide +kernel
theorem dX8_year_2 : decode cX8_year 2 = .ok (.sipush 9999, 3) := by decide +kernel
theorem dX8_year_5 : decode cX8_year 5 = .ok (.invokestatic 99, 3) := by decide +kernel
theorem dX8_year_8 : decode cX8_year 8 = .ok (.ifCond .eq 22, 3) := by decide +kernel
theorem dX8_year_11 : decode cX8_year 11 = .ok (.iload_n 2, 1) := by decide +kernel
theorem dX8_year_12 : decode cX8_year 12 = .ok (.iconst 1, 1) := by decide +kernel
theorem dX8_year_13 : decode cX8_year 13 = .ok (.bipush 40, 2) := by decide +kernel
theorem dX8_year_15 : decode cX8_year 15 = .ok (.invokestatic 99, 3) := by decide +kernel
theorem dX8_year_18 : decode cX8_year 18 = .ok (.ifCond .eq 12, 3) := by decide +kernel
theorem dX8_year_21 : decode cX8_year 21 = .ok (.iload_n 3, 1) := by decide +kernel
theorem dX8_year_22 : decode cX8_year 22 = .ok (.iconst 0, 1) := by decide +kernel
theorem dX8_year_23 : decode cX8_year 23 = .ok (.iconst 1, 1) := by decide +kernel
theorem dX8_year_24 : decode cX8_year 24 = .ok (.invokestatic 99, 3) := by decide +kernel
theorem dX8_year_27 : decode cX8_year 27 = .ok (.ifCond .ne 5, 3) := by decide +kernel
theorem dX8_year_30 : decode cX8_year 30 = .ok (.iconst (-1), 1) := by decide +kernel
theorem dX8_year_31 : decode cX8_year 31 = .ok (.ireturn, 1) := by decide +kernel
theorem dX8_year_32 : decode cX8_year 32 = .ok (.aload_n 0, 1) := by decide +kernel
theorem dX8_year_33 : decode cX8_year 33 = .ok (.getfield 33, 3) := by decide +kernel
theorem dX8_year_36 : decode cX8_year 36 = .ok (.aload_n 0, 1) := by decide +kernel
theorem dX8_year_37 : decode cX8_year 37 = .ok (.getfield 29, 3) := by decide +kernel
theorem dX8_year_40 : decode cX8_year 40 = .ok (.invokevirtual 223, 3) := by decide +kernel
theorem dX8_year_43 : decode cX8_year 43 = .ok (.iconst 0, 1) := by decide +kernel
theorem dX8_year_44 : decode cX8_year 44 = .ok (.istore 4, 2) := by decide +kernel
theorem dX8_year_46 : decode cX8_year 46 = .ok (.iconst 0, 1) := by decide +kernel
theorem dX8_year_47 : decode cX8_year 47 = .ok (.istore 5, 2) := by decide +kernel
theorem dX8_year_49 : decode cX8_year 49 = .ok (.iconst 0, 1) := by decide +kernel
theorem dX8_year_50 : decode cX8_year 50 = .ok (.istore 6, 2) := by decide +kernel
theorem dX8_year_52 : decode cX8_year 52 = .ok (.iload 6, 2) := by decide +kernel
theorem dX8_year_54 : decode cX8_year 54 = .ok (.iload_n 2, 1) := by decide +kernel
theorem dX8_year_55 : decode cX8_year 55 = .ok (.if_icmp .ge 114, 3) := by decide +kernel
theorem dX8_year_58 : decode cX8_year 58 = .ok (.iload_n 1, 1) := by decide +kernel
theorem dX8_year_59 : decode cX8_year 59 = .ok (.iload 6, 2) := by decide +kernel
theorem dX8_year_61 : decode cX8_year 61 = .ok (.invokestatic 283, 3) := by decide +kernel
theorem dX8_year_64 : decode cX8_year 64 = .ok (.istore 7, 2) := by decide +kernel
theorem dX8_year_66 : decode cX8_year 66 = .ok (.iload 7, 2) := by decide +kernel
theorem dX8_year_68 : decode cX8_year 68 = .ok (.iconst 4, 1) := by decide +kernel
theorem dX8_year_69 : decode cX8_year 69 = .ok (.idiv, 1) := by decide +kernel
theorem dX8_year_70 : decode cX8_year 70 = .ok (.iconst 1, 1) := by decide +kernel
theorem dX8_year_71 : decode cX8_year 71 = .ok (.aload_n 0, 1) := by decide +kernel
theorem dX8_year_72 : decode cX8_year 72 = .ok (.getfield 19, 3) := by decide +kernel
theorem dX8_year_75 : decode cX8_year 75 = .ok (.getfield 106, 3) := by decide +kernel
theorem dX8_year_78 : decode cX8_year 78 = .ok (.invokestatic 278, 3) := by decide +kernel
theorem dX8_year_81 : decode cX8_year 81 = .ok (.irem, 1) := by decide +kernel
theorem dX8_year_82 : decode cX8_year 82 = .ok (.istore 8, 2) := by decide +kernel
theorem dX8_year_84 : decode cX8_year 84 = .ok (.iload 7, 2) := by decide +kernel
theorem dX8_year_86 : decode cX8_year 86 = .ok (.iconst 1, 1) := by decide +kernel
theorem dX8_year_87 : decode cX8_year 87 = .ok (.aload_n 0, 1) := by decide +kernel
theorem dX8_year_88 : decode cX8_year 88 = .ok (.getfield 19, 3) := by decide +kernel
theorem dX8_year_91 : decode cX8_year 91 = .ok (.getfield 103, 3) := by decide +kernel
theorem dX8_year_94 : decode cX8_year 94 = .ok (.invokestatic 278, 3) := by decide +kernel
theorem dX8_year_97 : decode cX8_year 97 = .ok (.irem, 1) := by decide +kernel
theorem dX8_year_98 : decode cX8_year 98 = .ok (.istore 9, 2) := by decide +kernel
theorem dX8_year_100 : decode cX8_year 100 = .ok (.iload 4, 2) := by decide +kernel
theorem dX8_year_102 : decode cX8_year 102 = .ok (.aload_n 0, 1) := by decide +kernel
theorem dX8_year_103 : decode cX8_year 103 = .ok (.getfield 19, 3) := by decide +kernel
theorem dX8_year_106 : decode cX8_year 106 = .ok (.aload_n 0, 1) := by decide +kernel
theorem dX8_year_107 : decode cX8_year 107 = .ok (.getfield 33, 3) := by decide +kernel
theorem dX8_year_110 : decode cX8_year 110 = .ok (.iload 9, 2) := by decide +kernel
theorem dX8_year_112 : decode cX8_year 112 = .ok (.iload 8, 2) := by decide +kernel
theorem dX8_year_114 : decode cX8_year 114 = .ok (.invokevirtual 167, 3) := by decide +kernel
theorem dX8_year_117 : decode cX8_year 117 = .ok (.ifCond .eq 7, 3) := by decide +kernel
theorem dX8_year_120 : decode cX8_year 120 = .ok (.iconst 1, 1) := by decide +kernel
theorem dX8_year_121 : decode cX8_year 121 = .ok (.goto 4, 3) := by decide +kernel
theorem dX8_year_124 : decode cX8_year 124 = .ok (.iconst 0, 1) := by decide +kernel
theorem dX8_year_125 : decode cX8_year 125 = .ok (.iadd, 1) := by decide +kernel
theorem dX8_year_126 : decode cX8_year 126 = .ok (.istore 4, 2) := by decide +kernel
theorem dX8_year_128 : decode cX8_year 128 = .ok (.iload 5, 2) := by decide +kernel
theorem dX8_year_130 : decode cX8_year 130 = .ok (.aload_n 0, 1) := by decide +kernel
theorem dX8_year_131 : decode cX8_year 131 = .ok (.getfield 33, 3) := by decide +kernel
theorem dX8_year_134 : decode cX8_year 134 = .ok (.getfield 157, 3) := by decide +kernel
theorem dX8_year_137 : decode cX8_year 137 = .ok (.iload 8, 2) := by decide +kernel
theorem dX8_year_139 : decode cX8_year 139 = .ok (.iaload, 1) := by decide +kernel
theorem dX8_year_140 : decode cX8_year 140 = .ok (.iadd, 1) := by decide +kernel
theorem dX8_year_141 : decode cX8_year 141 = .ok (.istore 5, 2) := by decide +kernel
theorem dX8_year_143 : decode cX8_year 143 = .ok (.aload_n 0, 1) := by decide +kernel
theorem dX8_year_144 : decode cX8_year 144 = .ok (.getfield 33, 3) := by decide +kernel
theorem dX8_year_147 : decode cX8_year 147 = .ok (.dup, 1) := by decide +kernel
theorem dX8_year_148 : decode cX8_year 148 = .ok (.getfield 175, 3) := by decide +kernel
theorem dX8_year_151 : decode cX8_year 151 = .ok (.iload 7, 2) := by decide +kernel
theorem dX8_year_153 : decode cX8_year 153 = .ok (.bipush 64, 2) := by decide +kernel
theorem dX8_year_155 : decode cX8_year 155 = .ok (.idiv, 1) := by decide +kernel
theorem dX8_year_156 : decode cX8_year 156 = .ok (.bipush 8, 2) := by decide +kernel
theorem dX8_year_158 : decode cX8_year 158 = .ok (.irem, 1) := by decide +kernel
theorem dX8_year_159 : decode cX8_year 159 = .ok (.iadd, 1) := by decide +kernel
theorem dX8_year_160 : decode cX8_year 160 = .ok (.putfield 175, 3) := by decide +kernel
theorem dX8_year_163 : decode cX8_year 163 = .ok (.iinc 6 1, 3) := by decide +kernel
theorem dX8_year_166 : decode cX8_year 166 = .ok (.goto (-114), 3) := by decide +kernel
theorem dX8_year_169 : decode cX8_year 169 = .ok (.iload_n 3, 1) := by decide +kernel
theorem dX8_year_170 : decode cX8_year 170 = .ok (.ifCond .ne 8, 3) := by decide +kernel
theorem dX8_year_173 : decode cX8_year 173 = .ok (.iload 4, 2) := by decide +kernel
theorem dX8_year_175 : decode cX8_year 175 = .ok (.goto 5, 3) := by decide +kernel
theorem dX8_year_178 : decode cX8_year 178 = .ok (.iload 5, 2) := by decide +kernel
theorem dX8_year_180 : decode cX8_year 180 = .ok (.ireturn, 1) := by decide +kernel
theorem dX8_keep_0 : decode cX8_keep 0 = .ok (.aload_n 0, 1) := by decide +kernel
theorem dX8_keep_1 : decode cX8_keep 1 = .ok (.getfield 45, 3) := by decide +kernel
theorem dX8_keep_4 : decode cX8_keep 4 = .ok (.getfield 182, 3) := by decide +kernel
theorem dX8_keep_7 : decode cX8_keep 7 = .ok (.iconst 2, 1) := by decide +kernel
theorem dX8_keep_8 : decode cX8_keep 8 = .ok (.if_icmp .ne 6, 3) := by decide +kernel
theorem dX8_keep_11 : decode cX8_keep 11 = .ok (.bipush (-3), 2) := by decide +kernel
theorem dX8_keep_13 : decode cX8_keep 13 = .ok (.ireturn, 1) := by decide +kernel
theorem dX8_keep_14 : decode cX8_keep 14 = .ok (.aload_n 0, 1) := by decide +kernel
theorem dX8_keep_15 : decode cX8_keep 15 = .ok (.getfield 45, 3) := by decide +kernel
theorem dX8_keep_18 : decode cX8_keep 18 = .ok (.aload_n 0, 1) := by decide +kernel
theorem dX8_keep_19 : decode cX8_keep 19 = .ok (.getfield 29, 3) := by decide +kernel
theorem dX8_keep_22 : decode cX8_keep 22 = .ok (.invokevirtual 163, 3) := by decide +kernel
theorem dX8_keep_25 : decode cX8_keep 25 = .ok (.aload_n 0, 1) := by decide +kernel
theorem dX8_keep_26 : decode cX8_keep 26 = .ok (.getfield 45, 3) := by decide +kernel
theorem dX8_keep_29 : decode cX8_keep 29 = .ok (.getfield 182, 3) := by decide +kernel
theorem dX8_keep_32 : decode cX8_keep 32 = .ok (.ireturn, 1) := by decide +kernel
theorem dX8_back_0 : decode cX8_back 0 = .ok (.aload_n 0, 1) := by decide +kernel
theorem dX8_back_1 : decode cX8_back 1 = .ok (.getfield 45, 3) := by decide +kernel
theorem dX8_back_4 : decode cX8_back 4 = .ok (.aload_n 0, 1) := by decide +kernel
theorem dX8_back_5 : decode cX8_back 5 = .ok (.getfield 29, 3) := by decide +kernel
theorem dX8_back_8 : decode cX8_back 8 = .ok (.invokevirtual 178, 3) := by decide +kernel
theorem dX8_back_11 : decode cX8_back 11 = .ok (.ifCond .ne 6, 3) := by decide +kernel
theorem dX8_back_14 : decode cX8_back 14 = .ok (.bipush (-2), 2) := by decide +kernel
theorem dX8_back_16 : decode cX8_back 16 = .ok (.ireturn, 1) := by decide +kernel
theorem dX8_back_17 : decode cX8_back 17 = .ok (.aload_n 0, 1) := by decide +kernel
theorem dX8_back_18 : decode cX8_back 18 = .ok (.getfield 41, 3) := by decide +kernel
theorem dX8_back_21 : decode cX8_back 21 = .ok (.iconst 0, 1) := by decide +kernel
theorem dX8_back_22 : decode cX8_back 22 = .ok (.putfield 182, 3) := by decide +kernel
theorem dX8_back_25 : decode cX8_back 25 = .ok (.aload_n 0, 1) := by decide +kernel
theorem dX8_back_26 : decode cX8_back 26 = .ok (.getfield 45, 3) := by decide +kernel
theorem dX8_back_29 : decode cX8_back 29 = .ok (.getfield 182, 3) := by decide +kernel
theorem dX8_back_32 : decode cX8_back 32 = .ok (.ireturn, 1) := by decide +kernel
theorem dX8_count_0 : decode cX8_count 0 = .ok (.iload_n 1, 1) := by decide +kernel
theorem dX8_count_1 : decode cX8_count 1 = .ok (.tableswitch 156 0 10 #[59, 67, 75, 83, 91, 99, 119, 124, 132, 140, 148], 59) := by decide +kernel
theorem dX8_count_60 : decode cX8_count 60 = .ok (.aload_n 0, 1) := by decide +kernel
theorem dX8_count_61 : decode cX8_count 61 = .ok (.getfield 19, 3) := by decide +kernel
theorem dX8_count_64 : decode cX8_count 64 = .ok (.invokevirtual 109, 3) := by decide +kernel
theorem dX8_count_67 : decode cX8_count 67 = .ok (.ireturn, 1) := by decide +kernel
theorem dX8_count_68 : decode cX8_count 68 = .ok (.aload_n 0, 1) := by decide +kernel
theorem dX8_count_69 : decode cX8_count 69 = .ok (.getfield 19, 3) := by decide +kernel
theorem dX8_count_72 : decode cX8_count 72 = .ok (.getfield 286, 3) := by decide +kernel
theorem dX8_count_75 : decode cX8_count 75 = .ok (.ireturn, 1) := by decide +kernel
theorem dX8_count_76 : decode cX8_count 76 = .ok (.aload_n 0, 1) := by decide +kernel
theorem dX8_count_77 : decode cX8_count 77 = .ok (.getfield 19, 3) := by decide +kernel
theorem dX8_count_80 : decode cX8_count 80 = .ok (.getfield 103, 3) := by decide +kernel
theorem dX8_count_83 : decode cX8_count 83 = .ok (.ireturn, 1) := by decide +kernel
theorem dX8_count_84 : decode cX8_count 84 = .ok (.aload_n 0, 1) := by decide +kernel
theorem dX8_count_85 : decode cX8_count 85 = .ok (.getfield 19, 3) := by decide +kernel
theorem dX8_count_88 : decode cX8_count 88 = .ok (.getfield 106, 3) := by decide +kernel
theorem dX8_count_91 : decode cX8_count 91 = .ok (.ireturn, 1) := by decide +kernel
theorem dX8_count_92 : decode cX8_count 92 = .ok (.aload_n 0, 1) := by decide +kernel
theorem dX8_count_93 : decode cX8_count 93 = .ok (.getfield 29, 3) := by decide +kernel
theorem dX8_count_96 : decode cX8_count 96 = .ok (.getfield 175, 3) := by decide +kernel
theorem dX8_count_99 : decode cX8_count 99 = .ok (.ireturn, 1) := by decide +kernel
theorem dX8_count_100 : decode cX8_count 100 = .ok (.aload_n 0, 1) := by decide +kernel
theorem dX8_count_101 : decode cX8_count 101 = .ok (.getfield 19, 3) := by decide +kernel
theorem dX8_count_104 : decode cX8_count 104 = .ok (.getfield 106, 3) := by decide +kernel
theorem dX8_count_107 : decode cX8_count 107 = .ok (.aload_n 0, 1) := by decide +kernel
theorem dX8_count_108 : decode cX8_count 108 = .ok (.getfield 19, 3) := by decide +kernel
theorem dX8_count_111 : decode cX8_count 111 = .ok (.aload_n 0, 1) := by decide +kernel
theorem dX8_count_112 : decode cX8_count 112 = .ok (.getfield 29, 3) := by decide +kernel
theorem dX8_count_115 : decode cX8_count 115 = .ok (.invokestatic 260, 3) := by decide +kernel
theorem dX8_count_118 : decode cX8_count 118 = .ok (.isub, 1) := by decide +kernel
theorem dX8_count_119 : decode cX8_count 119 = .ok (.ireturn, 1) := by decide +kernel
theorem dX8_count_120 : decode cX8_count 120 = .ok (.aload_n 0, 1) := by decide +kernel
theorem dX8_count_121 : decode cX8_count 121 = .ok (.invokevirtual 289, 3) := by decide +kernel
theorem dX8_count_124 : decode cX8_count 124 = .ok (.ireturn, 1) := by decide +kernel
theorem dX8_count_125 : decode cX8_count 125 = .ok (.aload_n 0, 1) := by decide +kernel
theorem dX8_count_126 : decode cX8_count 126 = .ok (.getfield 51, 3) := by decide +kernel
theorem dX8_count_129 : decode cX8_count 129 = .ok (.getfield 256, 3) := by decide +kernel
theorem dX8_count_132 : decode cX8_count 132 = .ok (.ireturn, 1) := by decide +kernel
theorem dX8_count_133 : decode cX8_count 133 = .ok (.aload_n 0, 1) := by decide +kernel
theorem dX8_count_134 : decode cX8_count 134 = .ok (.getfield 41, 3) := by decide +kernel
theorem dX8_count_137 : decode cX8_count 137 = .ok (.getfield 182, 3) := by decide +kernel
theorem dX8_count_140 : decode cX8_count 140 = .ok (.ireturn, 1) := by decide +kernel
theorem dX8_count_141 : decode cX8_count 141 = .ok (.aload_n 0, 1) := by decide +kernel
theorem dX8_count_142 : decode cX8_count 142 = .ok (.getfield 45, 3) := by decide +kernel
theorem dX8_count_145 : decode cX8_count 145 = .ok (.getfield 182, 3) := by decide +kernel
theorem dX8_count_148 : decode cX8_count 148 = .ok (.ireturn, 1) := by decide +kernel
theorem dX8_count_149 : decode cX8_count 149 = .ok (.aload_n 0, 1) := by decide +kernel
theorem dX8_count_150 : decode cX8_count 150 = .ok (.getfield 12, 3) := by decide +kernel
theorem dX8_count_153 : decode cX8_count 153 = .ok (.getfield 93, 3) := by decide +kernel
theorem dX8_count_156 : decode cX8_count 156 = .ok (.ireturn, 1) := by decide +kernel
theorem dX8_count_157 : decode cX8_count 157 = .ok (.iconst (-1), 1) := by decide +kernel
theorem dX8_count_158 : decode cX8_count 158 = .ok (.ireturn, 1) := by decide +kernel
theorem dX8_within_0 : decode cX8_within 0 = .ok (.iload_n 0, 1) := by decide +kernel
theorem dX8_within_1 : decode cX8_within 1 = .ok (.iload_n 1, 1) := by decide +kernel
theorem dX8_within_2 : decode cX8_within 2 = .ok (.if_icmp .lt 12, 3) := by decide +kernel
theorem dX8_within_5 : decode cX8_within 5 = .ok (.iload_n 0, 1) := by decide +kernel
theorem dX8_within_6 : decode cX8_within 6 = .ok (.iload_n 2, 1) := by decide +kernel
theorem dX8_within_7 : decode cX8_within 7 = .ok (.if_icmp .gt 7, 3) := by decide +kernel
theorem dX8_within_10 : decode cX8_within 10 = .ok (.iconst 1, 1) := by decide +kernel
theorem dX8_within_11 : decode cX8_within 11 = .ok (.goto 4, 3) := by decide +kernel
theorem dX8_within_14 : decode cX8_within 14 = .ok (.iconst 0, 1) := by decide +kernel
theorem dX8_within_15 : decode cX8_within 15 = .ok (.ireturn, 1) := by decide +kernel
theorem dX8_begin_0 : decode cX8_begin 0 = .ok (.aload_n 0, 1) := by decide +kernel
theorem dX8_begin_1 : decode cX8_begin 1 = .ok (.getfield 29, 3) := by decide +kernel
theorem dX8_begin_4 : decode cX8_begin 4 = .ok (.aload_n 0, 1) := by decide +kernel
theorem dX8_begin_5 : decode cX8_begin 5 = .ok (.getfield 19, 3) := by decide +kernel
theorem dX8_begin_8 : decode cX8_begin 8 = .ok (.invokevirtual 292, 3) := by decide +kernel
theorem dX8_begin_11 : decode cX8_begin 11 = .ok (.aload_n 0, 1) := by decide +kernel
theorem dX8_begin_12 : decode cX8_begin 12 = .ok (.getfield 41, 3) := by decide +kernel
theorem dX8_begin_15 : decode cX8_begin 15 = .ok (.iconst 0, 1) := by decide +kernel
theorem dX8_begin_16 : decode cX8_begin 16 = .ok (.putfield 182, 3) := by decide +kernel
theorem dX8_begin_19 : decode cX8_begin 19 = .ok (.aload_n 0, 1) := by decide +kernel
theorem dX8_begin_20 : decode cX8_begin 20 = .ok (.getfield 45, 3) := by decide +kernel
theorem dX8_begin_23 : decode cX8_begin 23 = .ok (.iconst 0, 1) := by decide +kernel
theorem dX8_begin_24 : decode cX8_begin 24 = .ok (.putfield 182, 3) := by decide +kernel
theorem dX8_begin_27 : decode cX8_begin 27 = .ok (.aload_n 0, 1) := by decide +kernel
theorem dX8_begin_28 : decode cX8_begin 28 = .ok (.getfield 51, 3) := by decide +kernel
theorem dX8_begin_31 : decode cX8_begin 31 = .ok (.iconst 0, 1) := by decide +kernel
theorem dX8_begin_32 : decode cX8_begin 32 = .ok (.putfield 256, 3) := by decide +kernel
theorem dX8_begin_35 : decode cX8_begin 35 = .ok (.return_, 1) := by decide +kernel
theorem dX8_restOf_0 : decode cX8_restOf 0 = .ok (.iconst 0, 1) := by decide +kernel
theorem dX8_restOf_1 : decode cX8_restOf 1 = .ok (.istore_n 2, 1) := by decide +kernel
theorem dX8_restOf_2 : decode cX8_restOf 2 = .ok (.iconst 0, 1) := by decide +kernel
theorem dX8_restOf_3 : decode cX8_restOf 3 = .ok (.istore_n 3, 1) := by decide +kernel
theorem dX8_restOf_4 : decode cX8_restOf 4 = .ok (.iload_n 3, 1) := by decide +kernel
theorem dX8_restOf_5 : decode cX8_restOf 5 = .ok (.aload_n 0, 1) := by decide +kernel
theorem dX8_restOf_6 : decode cX8_restOf 6 = .ok (.getfield 106, 3) := by decide +kernel
theorem dX8_restOf_9 : decode cX8_restOf 9 = .ok (.if_icmp .ge 25, 3) := by decide +kernel
theorem dX8_restOf_12 : decode cX8_restOf 12 = .ok (.iload_n 2, 1) := by decide +kernel
theorem dX8_restOf_13 : decode cX8_restOf 13 = .ok (.aload_n 1, 1) := by decide +kernel
theorem dX8_restOf_14 : decode cX8_restOf 14 = .ok (.iload_n 3, 1) := by decide +kernel
theorem dX8_restOf_15 : decode cX8_restOf 15 = .ok (.invokevirtual 154, 3) := by decide +kernel
theorem dX8_restOf_18 : decode cX8_restOf 18 = .ok (.ifCond .eq 7, 3) := by decide +kernel
theorem dX8_restOf_21 : decode cX8_restOf 21 = .ok (.iconst 0, 1) := by decide +kernel
theorem dX8_restOf_22 : decode cX8_restOf 22 = .ok (.goto 4, 3) := by decide +kernel
theorem dX8_restOf_25 : decode cX8_restOf 25 = .ok (.iconst 1, 1) := by decide +kernel
theorem dX8_restOf_26 : decode cX8_restOf 26 = .ok (.iadd, 1) := by decide +kernel
theorem dX8_restOf_27 : decode cX8_restOf 27 = .ok (.istore_n 2, 1) := by decide +kernel
theorem dX8_restOf_28 : decode cX8_restOf 28 = .ok (.iinc 3 1, 3) := by decide +kernel
theorem dX8_restOf_31 : decode cX8_restOf 31 = .ok (.goto (-27), 3) := by decide +kernel
theorem dX8_restOf_34 : decode cX8_restOf 34 = .ok (.iload_n 2, 1) := by decide +kernel
theorem dX8_restOf_35 : decode cX8_restOf 35 = .ok (.ireturn, 1) := by decide +kernel
theorem dX8_howManyWept_0 : decode cX8_howManyWept 0 = .ok (.iconst 0, 1) := by decide +kernel
theorem dX8_howManyWept_1 : decode cX8_howManyWept 1 = .ok (.istore_n 1, 1) := by decide +kernel
theorem dX8_howManyWept_2 : decode cX8_howManyWept 2 = .ok (.iconst 0, 1) := by decide +kernel
theorem dX8_howManyWept_3 : decode cX8_howManyWept 3 = .ok (.istore_n 2, 1) := by decide +kernel
theorem dX8_howManyWept_4 : decode cX8_howManyWept 4 = .ok (.iload_n 2, 1) := by decide +kernel
theorem dX8_howManyWept_5 : decode cX8_howManyWept 5 = .ok (.aload_n 0, 1) := by decide +kernel
theorem dX8_howManyWept_6 : decode cX8_howManyWept 6 = .ok (.getfield 19, 3) := by decide +kernel
theorem dX8_howManyWept_9 : decode cX8_howManyWept 9 = .ok (.getfield 106, 3) := by decide +kernel
theorem dX8_howManyWept_12 : decode cX8_howManyWept 12 = .ok (.if_icmp .ge 21, 3) := by decide +kernel
theorem dX8_howManyWept_15 : decode cX8_howManyWept 15 = .ok (.iload_n 1, 1) := by decide +kernel
theorem dX8_howManyWept_16 : decode cX8_howManyWept 16 = .ok (.aload_n 0, 1) := by decide +kernel
theorem dX8_howManyWept_17 : decode cX8_howManyWept 17 = .ok (.getfield 29, 3) := by decide +kernel
theorem dX8_howManyWept_20 : decode cX8_howManyWept 20 = .ok (.getfield 160, 3) := by decide +kernel
theorem dX8_howManyWept_23 : decode cX8_howManyWept 23 = .ok (.iload_n 2, 1) := by decide +kernel
theorem dX8_howManyWept_24 : decode cX8_howManyWept 24 = .ok (.iaload, 1) := by decide +kernel
theorem dX8_howManyWept_25 : decode cX8_howManyWept 25 = .ok (.iadd, 1) := by decide +kernel
theorem dX8_howManyWept_26 : decode cX8_howManyWept 26 = .ok (.istore_n 1, 1) := by decide +kernel
theorem dX8_howManyWept_27 : decode cX8_howManyWept 27 = .ok (.iinc 2 1, 3) := by decide +kernel
theorem dX8_howManyWept_30 : decode cX8_howManyWept 30 = .ok (.goto (-26), 3) := by decide +kernel
theorem dX8_howManyWept_33 : decode cX8_howManyWept 33 = .ok (.iload_n 1, 1) := by decide +kernel
theorem dX8_howManyWept_34 : decode cX8_howManyWept 34 = .ok (.ireturn, 1) := by decide +kernel
theorem dX8_lateFrom_0 : decode cX8_lateFrom 0 = .ok (.aload_n 0, 1) := by decide +kernel
theorem dX8_lateFrom_1 : decode cX8_lateFrom 1 = .ok (.getfield 33, 3) := by decide +kernel
theorem dX8_lateFrom_4 : decode cX8_lateFrom 4 = .ok (.aload_n 0, 1) := by decide +kernel
theorem dX8_lateFrom_5 : decode cX8_lateFrom 5 = .ok (.getfield 29, 3) := by decide +kernel
theorem dX8_lateFrom_8 : decode cX8_lateFrom 8 = .ok (.invokevirtual 223, 3) := by decide +kernel
theorem dX8_lateFrom_11 : decode cX8_lateFrom 11 = .ok (.aload_n 0, 1) := by decide +kernel
theorem dX8_lateFrom_12 : decode cX8_lateFrom 12 = .ok (.getfield 19, 3) := by decide +kernel
theorem dX8_lateFrom_15 : decode cX8_lateFrom 15 = .ok (.aload_n 0, 1) := by decide +kernel
theorem dX8_lateFrom_16 : decode cX8_lateFrom 16 = .ok (.getfield 33, 3) := by decide +kernel
theorem dX8_lateFrom_19 : decode cX8_lateFrom 19 = .ok (.iload_n 1, 1) := by decide +kernel
theorem dX8_lateFrom_20 : decode cX8_lateFrom 20 = .ok (.iload_n 2, 1) := by decide +kernel
theorem dX8_lateFrom_21 : decode cX8_lateFrom 21 = .ok (.invokevirtual 171, 3) := by decide +kernel
theorem dX8_lateFrom_24 : decode cX8_lateFrom 24 = .ok (.iconst 0, 1) := by decide +kernel
theorem dX8_lateFrom_25 : decode cX8_lateFrom 25 = .ok (.istore_n 3, 1) := by decide +kernel
theorem dX8_lateFrom_26 : decode cX8_lateFrom 26 = .ok (.iconst 0, 1) := by decide +kernel
theorem dX8_lateFrom_27 : decode cX8_lateFrom 27 = .ok (.istore 4, 2) := by decide +kernel
theorem dX8_lateFrom_29 : decode cX8_lateFrom 29 = .ok (.iload 4, 2) := by decide +kernel
theorem dX8_lateFrom_31 : decode cX8_lateFrom 31 = .ok (.aload_n 0, 1) := by decide +kernel
theorem dX8_lateFrom_32 : decode cX8_lateFrom 32 = .ok (.getfield 19, 3) := by decide +kernel
theorem dX8_lateFrom_35 : decode cX8_lateFrom 35 = .ok (.getfield 106, 3) := by decide +kernel
theorem dX8_lateFrom_38 : decode cX8_lateFrom 38 = .ok (.if_icmp .ge 48, 3) := by decide +kernel
theorem dX8_lateFrom_41 : decode cX8_lateFrom 41 = .ok (.aload_n 0, 1) := by decide +kernel
theorem dX8_lateFrom_42 : decode cX8_lateFrom 42 = .ok (.getfield 33, 3) := by decide +kernel
theorem dX8_lateFrom_45 : decode cX8_lateFrom 45 = .ok (.iload 4, 2) := by decide +kernel
theorem dX8_lateFrom_47 : decode cX8_lateFrom 47 = .ok (.invokevirtual 154, 3) := by decide +kernel
theorem dX8_lateFrom_50 : decode cX8_lateFrom 50 = .ok (.ifCond .ne 30, 3) := by decide +kernel
theorem dX8_lateFrom_53 : decode cX8_lateFrom 53 = .ok (.aload_n 0, 1) := by decide +kernel
theorem dX8_lateFrom_54 : decode cX8_lateFrom 54 = .ok (.getfield 19, 3) := by decide +kernel
theorem dX8_lateFrom_57 : decode cX8_lateFrom 57 = .ok (.aload_n 0, 1) := by decide +kernel
theorem dX8_lateFrom_58 : decode cX8_lateFrom 58 = .ok (.getfield 33, 3) := by decide +kernel
theorem dX8_lateFrom_61 : decode cX8_lateFrom 61 = .ok (.iload_n 1, 1) := by decide +kernel
theorem dX8_lateFrom_62 : decode cX8_lateFrom 62 = .ok (.iload 4, 2) := by decide +kernel
theorem dX8_lateFrom_64 : decode cX8_lateFrom 64 = .ok (.invokevirtual 185, 3) := by decide +kernel
theorem dX8_lateFrom_67 : decode cX8_lateFrom 67 = .ok (.iload_n 3, 1) := by decide +kernel
theorem dX8_lateFrom_68 : decode cX8_lateFrom 68 = .ok (.aload_n 0, 1) := by decide +kernel
theorem dX8_lateFrom_69 : decode cX8_lateFrom 69 = .ok (.getfield 19, 3) := by decide +kernel
theorem dX8_lateFrom_72 : decode cX8_lateFrom 72 = .ok (.getfield 188, 3) := by decide +kernel
theorem dX8_lateFrom_75 : decode cX8_lateFrom 75 = .ok (.getfield 196, 3) := by decide +kernel
theorem dX8_lateFrom_78 : decode cX8_lateFrom 78 = .ok (.iadd, 1) := by decide +kernel
theorem dX8_lateFrom_79 : decode cX8_lateFrom 79 = .ok (.istore_n 3, 1) := by decide +kernel
theorem dX8_lateFrom_80 : decode cX8_lateFrom 80 = .ok (.iinc 4 1, 3) := by decide +kernel
theorem dX8_lateFrom_83 : decode cX8_lateFrom 83 = .ok (.goto (-54), 3) := by decide +kernel
theorem dX8_lateFrom_86 : decode cX8_lateFrom 86 = .ok (.iload_n 3, 1) := by decide +kernel
theorem dX8_lateFrom_87 : decode cX8_lateFrom 87 = .ok (.ireturn, 1) := by decide +kernel
theorem dX8_liveOneDay_0 : decode cX8_liveOneDay 0 = .ok (.aload_n 0, 1) := by decide +kernel
theorem dX8_liveOneDay_1 : decode cX8_liveOneDay 1 = .ok (.getfield 33, 3) := by decide +kernel
theorem dX8_liveOneDay_4 : decode cX8_liveOneDay 4 = .ok (.invokevirtual 295, 3) := by decide +kernel
theorem dX8_liveOneDay_7 : decode cX8_liveOneDay 7 = .ok (.iconst 0, 1) := by decide +kernel
theorem dX8_liveOneDay_8 : decode cX8_liveOneDay 8 = .ok (.istore_n 1, 1) := by decide +kernel
theorem dX8_liveOneDay_9 : decode cX8_liveOneDay 9 = .ok (.iload_n 1, 1) := by decide +kernel
theorem dX8_liveOneDay_10 : decode cX8_liveOneDay 10 = .ok (.aload_n 0, 1) := by decide +kernel
theorem dX8_liveOneDay_11 : decode cX8_liveOneDay 11 = .ok (.getfield 19, 3) := by decide +kernel
theorem dX8_liveOneDay_14 : decode cX8_liveOneDay 14 = .ok (.getfield 106, 3) := by decide +kernel
theorem dX8_liveOneDay_17 : decode cX8_liveOneDay 17 = .ok (.if_icmp .ge 22, 3) := by decide +kernel
theorem dX8_liveOneDay_20 : decode cX8_liveOneDay 20 = .ok (.aload_n 0, 1) := by decide +kernel
theorem dX8_liveOneDay_21 : decode cX8_liveOneDay 21 = .ok (.getfield 19, 3) := by decide +kernel
theorem dX8_liveOneDay_24 : decode cX8_liveOneDay 24 = .ok (.aload_n 0, 1) := by decide +kernel
theorem dX8_liveOneDay_25 : decode cX8_liveOneDay 25 = .ok (.getfield 33, 3) := by decide +kernel
theorem dX8_liveOneDay_28 : decode cX8_liveOneDay 28 = .ok (.iload_n 1, 1) := by decide +kernel
theorem dX8_liveOneDay_29 : decode cX8_liveOneDay 29 = .ok (.invokevirtual 240, 3) := by decide +kernel
theorem dX8_liveOneDay_32 : decode cX8_liveOneDay 32 = .ok (.pop, 1) := by decide +kernel
theorem dX8_liveOneDay_33 : decode cX8_liveOneDay 33 = .ok (.iinc 1 1, 3) := by decide +kernel
theorem dX8_liveOneDay_36 : decode cX8_liveOneDay 36 = .ok (.goto (-27), 3) := by decide +kernel
theorem dX8_liveOneDay_39 : decode cX8_liveOneDay 39 = .ok (.return_, 1) := by decide +kernel
theorem dX8_dayLike_0 : decode cX8_dayLike 0 = .ok (.iconst 0, 1) := by decide +kernel
theorem dX8_dayLike_1 : decode cX8_dayLike 1 = .ok (.istore_n 2, 1) := by decide +kernel
theorem dX8_dayLike_2 : decode cX8_dayLike 2 = .ok (.iload_n 2, 1) := by decide +kernel
theorem dX8_dayLike_3 : decode cX8_dayLike 3 = .ok (.iload_n 1, 1) := by decide +kernel
theorem dX8_dayLike_4 : decode cX8_dayLike 4 = .ok (.if_icmp .ge 27, 3) := by decide +kernel
theorem dX8_dayLike_7 : decode cX8_dayLike 7 = .ok (.aload_n 0, 1) := by decide +kernel
theorem dX8_dayLike_8 : decode cX8_dayLike 8 = .ok (.getfield 69, 3) := by decide +kernel
theorem dX8_dayLike_11 : decode cX8_dayLike 11 = .ok (.iload_n 2, 1) := by decide +kernel
theorem dX8_dayLike_12 : decode cX8_dayLike 12 = .ok (.laload, 1) := by decide +kernel
theorem dX8_dayLike_13 : decode cX8_dayLike 13 = .ok (.aload_n 0, 1) := by decide +kernel
theorem dX8_dayLike_14 : decode cX8_dayLike 14 = .ok (.getfield 69, 3) := by decide +kernel
theorem dX8_dayLike_17 : decode cX8_dayLike 17 = .ok (.iload_n 1, 1) := by decide +kernel
theorem dX8_dayLike_18 : decode cX8_dayLike 18 = .ok (.laload, 1) := by decide +kernel
theorem dX8_dayLike_19 : decode cX8_dayLike 19 = .ok (.lcmp, 1) := by decide +kernel
theorem dX8_dayLike_20 : decode cX8_dayLike 20 = .ok (.ifCond .ne 5, 3) := by decide +kernel
theorem dX8_dayLike_23 : decode cX8_dayLike 23 = .ok (.iload_n 2, 1) := by decide +kernel
theorem dX8_dayLike_24 : decode cX8_dayLike 24 = .ok (.ireturn, 1) := by decide +kernel
theorem dX8_dayLike_25 : decode cX8_dayLike 25 = .ok (.iinc 2 1, 3) := by decide +kernel
theorem dX8_dayLike_28 : decode cX8_dayLike 28 = .ok (.goto (-26), 3) := by decide +kernel
theorem dX8_dayLike_31 : decode cX8_dayLike 31 = .ok (.iload_n 1, 1) := by decide +kernel
theorem dX8_dayLike_32 : decode cX8_dayLike 32 = .ok (.ireturn, 1) := by decide +kernel
theorem dX8_tearsOfOthers_0 : decode cX8_tearsOfOthers 0 = .ok (.iconst 0, 1) := by decide +kernel
theorem dX8_tearsOfOthers_1 : decode cX8_tearsOfOthers 1 = .ok (.istore_n 2, 1) := by decide +kernel
theorem dX8_tearsOfOthers_2 : decode cX8_tearsOfOthers 2 = .ok (.iconst 0, 1) := by decide +kernel
theorem dX8_tearsOfOthers_3 : decode cX8_tearsOfOthers 3 = .ok (.istore_n 3, 1) := by decide +kernel
theorem dX8_tearsOfOthers_4 : decode cX8_tearsOfOthers 4 = .ok (.iload_n 3, 1) := by decide +kernel
theorem dX8_tearsOfOthers_5 : decode cX8_tearsOfOthers 5 = .ok (.aload_n 0, 1) := by decide +kernel
theorem dX8_tearsOfOthers_6 : decode cX8_tearsOfOthers 6 = .ok (.getfield 19, 3) := by decide +kernel
theorem dX8_tearsOfOthers_9 : decode cX8_tearsOfOthers 9 = .ok (.getfield 106, 3) := by decide +kernel
theorem dX8_tearsOfOthers_12 : decode cX8_tearsOfOthers 12 = .ok (.if_icmp .ge 48, 3) := by decide +kernel
theorem dX8_tearsOfOthers_15 : decode cX8_tearsOfOthers 15 = .ok (.iload_n 3, 1) := by decide +kernel
theorem dX8_tearsOfOthers_16 : decode cX8_tearsOfOthers 16 = .ok (.iload_n 1, 1) := by decide +kernel
theorem dX8_tearsOfOthers_17 : decode cX8_tearsOfOthers 17 = .ok (.if_icmp .eq 37, 3) := by decide +kernel
theorem dX8_tearsOfOthers_20 : decode cX8_tearsOfOthers 20 = .ok (.aload_n 0, 1) := by decide +kernel
theorem dX8_tearsOfOthers_21 : decode cX8_tearsOfOthers 21 = .ok (.getfield 33, 3) := by decide +kernel
theorem dX8_tearsOfOthers_24 : decode cX8_tearsOfOthers 24 = .ok (.iload_n 3, 1) := by decide +kernel
theorem dX8_tearsOfOthers_25 : decode cX8_tearsOfOthers 25 = .ok (.invokevirtual 154, 3) := by decide +kernel
theorem dX8_tearsOfOthers_28 : decode cX8_tearsOfOthers 28 = .ok (.ifCond .ne 26, 3) := by decide +kernel
theorem dX8_tearsOfOthers_31 : decode cX8_tearsOfOthers 31 = .ok (.iload_n 2, 1) := by decide +kernel
theorem dX8_tearsOfOthers_32 : decode cX8_tearsOfOthers 32 = .ok (.aload_n 0, 1) := by decide +kernel
theorem dX8_tearsOfOthers_33 : decode cX8_tearsOfOthers 33 = .ok (.getfield 19, 3) := by decide +kernel
theorem dX8_tearsOfOthers_36 : decode cX8_tearsOfOthers 36 = .ok (.aload_n 0, 1) := by decide +kernel
theorem dX8_tearsOfOthers_37 : decode cX8_tearsOfOthers 37 = .ok (.getfield 33, 3) := by decide +kernel
theorem dX8_tearsOfOthers_40 : decode cX8_tearsOfOthers 40 = .ok (.iload_n 3, 1) := by decide +kernel
theorem dX8_tearsOfOthers_41 : decode cX8_tearsOfOthers 41 = .ok (.invokevirtual 240, 3) := by decide +kernel
theorem dX8_tearsOfOthers_44 : decode cX8_tearsOfOthers 44 = .ok (.ifCond .eq 7, 3) := by decide +kernel
theorem dX8_tearsOfOthers_47 : decode cX8_tearsOfOthers 47 = .ok (.iconst 1, 1) := by decide +kernel
theorem dX8_tearsOfOthers_48 : decode cX8_tearsOfOthers 48 = .ok (.goto 4, 3) := by decide +kernel
theorem dX8_tearsOfOthers_51 : decode cX8_tearsOfOthers 51 = .ok (.iconst 0, 1) := by decide +kernel
theorem dX8_tearsOfOthers_52 : decode cX8_tearsOfOthers 52 = .ok (.iadd, 1) := by decide +kernel
theorem dX8_tearsOfOthers_53 : decode cX8_tearsOfOthers 53 = .ok (.istore_n 2, 1) := by decide +kernel
theorem dX8_tearsOfOthers_54 : decode cX8_tearsOfOthers 54 = .ok (.iinc 3 1, 3) := by decide +kernel
theorem dX8_tearsOfOthers_57 : decode cX8_tearsOfOthers 57 = .ok (.goto (-53), 3) := by decide +kernel
theorem dX8_tearsOfOthers_60 : decode cX8_tearsOfOthers 60 = .ok (.iload_n 2, 1) := by decide +kernel
theorem dX8_tearsOfOthers_61 : decode cX8_tearsOfOthers 61 = .ok (.ireturn, 1) := by decide +kernel
theorem dX8_fitsSeen_0 : decode cX8_fitsSeen 0 = .ok (.iconst 0, 1) := by decide +kernel
theorem dX8_fitsSeen_1 : decode cX8_fitsSeen 1 = .ok (.istore 4, 2) := by decide +kernel
theorem dX8_fitsSeen_3 : decode cX8_fitsSeen 3 = .ok (.iload 4, 2) := by decide +kernel
theorem dX8_fitsSeen_5 : decode cX8_fitsSeen 5 = .ok (.aload_n 0, 1) := by decide +kernel
theorem dX8_fitsSeen_6 : decode cX8_fitsSeen 6 = .ok (.getfield 51, 3) := by decide +kernel
theorem dX8_fitsSeen_9 : decode cX8_fitsSeen 9 = .ok (.getfield 256, 3) := by decide +kernel
theorem dX8_fitsSeen_12 : decode cX8_fitsSeen 12 = .ok (.if_icmp .ge 72, 3) := by decide +kernel
theorem dX8_fitsSeen_15 : decode cX8_fitsSeen 15 = .ok (.aload_n 0, 1) := by decide +kernel
theorem dX8_fitsSeen_16 : decode cX8_fitsSeen 16 = .ok (.getfield 51, 3) := by decide +kernel
theorem dX8_fitsSeen_19 : decode cX8_fitsSeen 19 = .ok (.getfield 298, 3) := by decide +kernel
theorem dX8_fitsSeen_22 : decode cX8_fitsSeen 22 = .ok (.iload 4, 2) := by decide +kernel
theorem dX8_fitsSeen_24 : decode cX8_fitsSeen 24 = .ok (.iaload, 1) := by decide +kernel
theorem dX8_fitsSeen_25 : decode cX8_fitsSeen 25 = .ok (.iload_n 1, 1) := by decide +kernel
theorem dX8_fitsSeen_26 : decode cX8_fitsSeen 26 = .ok (.if_icmp .ne 52, 3) := by decide +kernel
theorem dX8_fitsSeen_29 : decode cX8_fitsSeen 29 = .ok (.aload_n 0, 1) := by decide +kernel
theorem dX8_fitsSeen_30 : decode cX8_fitsSeen 30 = .ok (.getfield 19, 3) := by decide +kernel
theorem dX8_fitsSeen_33 : decode cX8_fitsSeen 33 = .ok (.aload_n 0, 1) := by decide +kernel
theorem dX8_fitsSeen_34 : decode cX8_fitsSeen 34 = .ok (.getfield 29, 3) := by decide +kernel
theorem dX8_fitsSeen_37 : decode cX8_fitsSeen 37 = .ok (.iload_n 1, 1) := by decide +kernel
theorem dX8_fitsSeen_38 : decode cX8_fitsSeen 38 = .ok (.aload_n 0, 1) := by decide +kernel
theorem dX8_fitsSeen_39 : decode cX8_fitsSeen 39 = .ok (.getfield 51, 3) := by decide +kernel
theorem dX8_fitsSeen_42 : decode cX8_fitsSeen 42 = .ok (.getfield 301, 3) := by decide +kernel
theorem dX8_fitsSeen_45 : decode cX8_fitsSeen 45 = .ok (.iload 4, 2) := by decide +kernel
theorem dX8_fitsSeen_47 : decode cX8_fitsSeen 47 = .ok (.iaload, 1) := by decide +kernel
theorem dX8_fitsSeen_48 : decode cX8_fitsSeen 48 = .ok (.iload_n 2, 1) := by decide +kernel
theorem dX8_fitsSeen_49 : decode cX8_fitsSeen 49 = .ok (.iload_n 3, 1) := by decide +kernel
theorem dX8_fitsSeen_50 : decode cX8_fitsSeen 50 = .ok (.invokevirtual 304, 3) := by decide +kernel
theorem dX8_fitsSeen_53 : decode cX8_fitsSeen 53 = .ok (.aload_n 0, 1) := by decide +kernel
theorem dX8_fitsSeen_54 : decode cX8_fitsSeen 54 = .ok (.getfield 19, 3) := by decide +kernel
theorem dX8_fitsSeen_57 : decode cX8_fitsSeen 57 = .ok (.getfield 188, 3) := by decide +kernel
theorem dX8_fitsSeen_60 : decode cX8_fitsSeen 60 = .ok (.getfield 192, 3) := by decide +kernel
theorem dX8_fitsSeen_63 : decode cX8_fitsSeen 63 = .ok (.aload_n 0, 1) := by decide +kernel
theorem dX8_fitsSeen_64 : decode cX8_fitsSeen 64 = .ok (.getfield 51, 3) := by decide +kernel
theorem dX8_fitsSeen_67 : decode cX8_fitsSeen 67 = .ok (.getfield 308, 3) := by decide +kernel
theorem dX8_fitsSeen_70 : decode cX8_fitsSeen 70 = .ok (.iload 4, 2) := by decide +kernel
theorem dX8_fitsSeen_72 : decode cX8_fitsSeen 72 = .ok (.iaload, 1) := by decide +kernel
theorem dX8_fitsSeen_73 : decode cX8_fitsSeen 73 = .ok (.if_icmp .eq 5, 3) := by decide +kernel
theorem dX8_fitsSeen_76 : decode cX8_fitsSeen 76 = .ok (.iconst 0, 1) := by decide +kernel
theorem dX8_fitsSeen_77 : decode cX8_fitsSeen 77 = .ok (.ireturn, 1) := by decide +kernel
theorem dX8_fitsSeen_78 : decode cX8_fitsSeen 78 = .ok (.iinc 4 1, 3) := by decide +kernel
theorem dX8_fitsSeen_81 : decode cX8_fitsSeen 81 = .ok (.goto (-78), 3) := by decide +kernel
theorem dX8_fitsSeen_84 : decode cX8_fitsSeen 84 = .ok (.iconst 1, 1) := by decide +kernel
theorem dX8_fitsSeen_85 : decode cX8_fitsSeen 85 = .ok (.ireturn, 1) := by decide +kernel
theorem dX8_lateAmong_0 : decode cX8_lateAmong 0 = .ok (.aload_n 0, 1) := by decide +kernel
theorem dX8_lateAmong_1 : decode cX8_lateAmong 1 = .ok (.getfield 33, 3) := by decide +kernel
theorem dX8_lateAmong_4 : decode cX8_lateAmong 4 = .ok (.aload_n 0, 1) := by decide +kernel
theorem dX8_lateAmong_5 : decode cX8_lateAmong 5 = .ok (.getfield 29, 3) := by decide +kernel
theorem dX8_lateAmong_8 : decode cX8_lateAmong 8 = .ok (.invokevirtual 223, 3) := by decide +kernel
theorem dX8_lateAmong_11 : decode cX8_lateAmong 11 = .ok (.iconst 0, 1) := by decide +kernel
theorem dX8_lateAmong_12 : decode cX8_lateAmong 12 = .ok (.istore_n 2, 1) := by decide +kernel
theorem dX8_lateAmong_13 : decode cX8_lateAmong 13 = .ok (.iload_n 1, 1) := by decide +kernel
theorem dX8_lateAmong_14 : decode cX8_lateAmong 14 = .ok (.istore_n 3, 1) := by decide +kernel
theorem dX8_lateAmong_15 : decode cX8_lateAmong 15 = .ok (.iconst 0, 1) := by decide +kernel
theorem dX8_lateAmong_16 : decode cX8_lateAmong 16 = .ok (.istore 4, 2) := by decide +kernel
theorem dX8_lateAmong_18 : decode cX8_lateAmong 18 = .ok (.iload 4, 2) := by decide +kernel
theorem dX8_lateAmong_20 : decode cX8_lateAmong 20 = .ok (.aload_n 0, 1) := by decide +kernel
theorem dX8_lateAmong_21 : decode cX8_lateAmong 21 = .ok (.getfield 19, 3) := by decide +kernel
theorem dX8_lateAmong_24 : decode cX8_lateAmong 24 = .ok (.getfield 106, 3) := by decide +kernel
theorem dX8_lateAmong_27 : decode cX8_lateAmong 27 = .ok (.if_icmp .ge 113, 3) := by decide +kernel
theorem dX8_lateAmong_30 : decode cX8_lateAmong 30 = .ok (.aload_n 0, 1) := by decide +kernel
theorem dX8_lateAmong_31 : decode cX8_lateAmong 31 = .ok (.getfield 33, 3) := by decide +kernel
theorem dX8_lateAmong_34 : decode cX8_lateAmong 34 = .ok (.iload 4, 2) := by decide +kernel
theorem dX8_lateAmong_36 : decode cX8_lateAmong 36 = .ok (.invokevirtual 154, 3) := by decide +kernel
theorem dX8_lateAmong_39 : decode cX8_lateAmong 39 = .ok (.ifCond .ne 95, 3) := by decide +kernel
theorem dX8_lateAmong_42 : decode cX8_lateAmong 42 = .ok (.aload_n 0, 1) := by decide +kernel
theorem dX8_lateAmong_43 : decode cX8_lateAmong 43 = .ok (.getfield 19, 3) := by decide +kernel
theorem dX8_lateAmong_46 : decode cX8_lateAmong 46 = .ok (.aload_n 0, 1) := by decide +kernel
theorem dX8_lateAmong_47 : decode cX8_lateAmong 47 = .ok (.getfield 33, 3) := by decide +kernel
theorem dX8_lateAmong_50 : decode cX8_lateAmong 50 = .ok (.iload 4, 2) := by decide +kernel
theorem dX8_lateAmong_52 : decode cX8_lateAmong 52 = .ok (.invokevirtual 205, 3) := by decide +kernel
theorem dX8_lateAmong_55 : decode cX8_lateAmong 55 = .ok (.istore 5, 2) := by decide +kernel
theorem dX8_lateAmong_57 : decode cX8_lateAmong 57 = .ok (.aload_n 0, 1) := by decide +kernel
theorem dX8_lateAmong_58 : decode cX8_lateAmong 58 = .ok (.getfield 19, 3) := by decide +kernel
theorem dX8_lateAmong_61 : decode cX8_lateAmong 61 = .ok (.aload_n 0, 1) := by decide +kernel
theorem dX8_lateAmong_62 : decode cX8_lateAmong 62 = .ok (.getfield 33, 3) := by decide +kernel
theorem dX8_lateAmong_65 : decode cX8_lateAmong 65 = .ok (.iload 5, 2) := by decide +kernel
theorem dX8_lateAmong_67 : decode cX8_lateAmong 67 = .ok (.iload 4, 2) := by decide +kernel
theorem dX8_lateAmong_69 : decode cX8_lateAmong 69 = .ok (.invokevirtual 185, 3) := by decide +kernel
theorem dX8_lateAmong_72 : decode cX8_lateAmong 72 = .ok (.iload_n 2, 1) := by decide +kernel
theorem dX8_lateAmong_73 : decode cX8_lateAmong 73 = .ok (.aload_n 0, 1) := by decide +kernel
theorem dX8_lateAmong_74 : decode cX8_lateAmong 74 = .ok (.getfield 19, 3) := by decide +kernel
theorem dX8_lateAmong_77 : decode cX8_lateAmong 77 = .ok (.getfield 188, 3) := by decide +kernel
theorem dX8_lateAmong_80 : decode cX8_lateAmong 80 = .ok (.getfield 196, 3) := by decide +kernel
theorem dX8_lateAmong_83 : decode cX8_lateAmong 83 = .ok (.aload_n 0, 1) := by decide +kernel
theorem dX8_lateAmong_84 : decode cX8_lateAmong 84 = .ok (.getfield 19, 3) := by decide +kernel
theorem dX8_lateAmong_87 : decode cX8_lateAmong 87 = .ok (.getfield 151, 3) := by decide +kernel
theorem dX8_lateAmong_90 : decode cX8_lateAmong 90 = .ok (.iload 4, 2) := by decide +kernel
theorem dX8_lateAmong_92 : decode cX8_lateAmong 92 = .ok (.iaload, 1) := by decide +kernel
theorem dX8_lateAmong_93 : decode cX8_lateAmong 93 = .ok (.if_icmp .le 7, 3) := by decide +kernel
theorem dX8_lateAmong_96 : decode cX8_lateAmong 96 = .ok (.iconst 1, 1) := by decide +kernel
theorem dX8_lateAmong_97 : decode cX8_lateAmong 97 = .ok (.goto 4, 3) := by decide +kernel
theorem dX8_lateAmong_100 : decode cX8_lateAmong 100 = .ok (.iconst 0, 1) := by decide +kernel
theorem dX8_lateAmong_101 : decode cX8_lateAmong 101 = .ok (.iadd, 1) := by decide +kernel
theorem dX8_lateAmong_102 : decode cX8_lateAmong 102 = .ok (.istore_n 2, 1) := by decide +kernel
theorem dX8_lateAmong_103 : decode cX8_lateAmong 103 = .ok (.aload_n 0, 1) := by decide +kernel
theorem dX8_lateAmong_104 : decode cX8_lateAmong 104 = .ok (.getfield 19, 3) := by decide +kernel
theorem dX8_lateAmong_107 : decode cX8_lateAmong 107 = .ok (.aload_n 0, 1) := by decide +kernel
theorem dX8_lateAmong_108 : decode cX8_lateAmong 108 = .ok (.getfield 33, 3) := by decide +kernel
theorem dX8_lateAmong_111 : decode cX8_lateAmong 111 = .ok (.iload 5, 2) := by decide +kernel
theorem dX8_lateAmong_113 : decode cX8_lateAmong 113 = .ok (.iload 4, 2) := by decide +kernel
theorem dX8_lateAmong_115 : decode cX8_lateAmong 115 = .ok (.iload_n 3, 1) := by decide +kernel
theorem dX8_lateAmong_116 : decode cX8_lateAmong 116 = .ok (.iconst 1, 1) := by decide +kernel
theorem dX8_lateAmong_117 : decode cX8_lateAmong 117 = .ok (.iand, 1) := by decide +kernel
theorem dX8_lateAmong_118 : decode cX8_lateAmong 118 = .ok (.iconst 1, 1) := by decide +kernel
theorem dX8_lateAmong_119 : decode cX8_lateAmong 119 = .ok (.if_icmp .ne 7, 3) := by decide +kernel
theorem dX8_lateAmong_122 : decode cX8_lateAmong 122 = .ok (.iconst 1, 1) := by decide +kernel
theorem dX8_lateAmong_123 : decode cX8_lateAmong 123 = .ok (.goto 4, 3) := by decide +kernel
theorem dX8_lateAmong_126 : decode cX8_lateAmong 126 = .ok (.iconst 0, 1) := by decide +kernel
theorem dX8_lateAmong_127 : decode cX8_lateAmong 127 = .ok (.invokevirtual 311, 3) := by decide +kernel
theorem dX8_lateAmong_130 : decode cX8_lateAmong 130 = .ok (.iload_n 3, 1) := by decide +kernel
theorem dX8_lateAmong_131 : decode cX8_lateAmong 131 = .ok (.iconst 1, 1) := by decide +kernel
theorem dX8_lateAmong_132 : decode cX8_lateAmong 132 = .ok (.ishr, 1) := by decide +kernel
theorem dX8_lateAmong_133 : decode cX8_lateAmong 133 = .ok (.istore_n 3, 1) := by decide +kernel
theorem dX8_lateAmong_134 : decode cX8_lateAmong 134 = .ok (.iinc 4 1, 3) := by decide +kernel
theorem dX8_lateAmong_137 : decode cX8_lateAmong 137 = .ok (.goto (-119), 3) := by decide +kernel
theorem dX8_lateAmong_140 : decode cX8_lateAmong 140 = .ok (.iload_n 2, 1) := by decide +kernel
theorem dX8_lateAmong_141 : decode cX8_lateAmong 141 = .ok (.ireturn, 1) := by decide +kernel
theorem dX8_drawn_0 : decode cX8_drawn 0 = .ok (.ldc2_w 315, 3) := by decide +kernel
theorem dX8_drawn_3 : decode cX8_drawn 3 = .ok (.iload_n 0, 1) := by decide +kernel
theorem dX8_drawn_4 : decode cX8_drawn 4 = .ok (.i2l, 1) := by decide +kernel
theorem dX8_drawn_5 : decode cX8_drawn 5 = .ok (.lmul, 1) := by decide +kernel
theorem dX8_drawn_6 : decode cX8_drawn 6 = .ok (.ldc2_w 317, 3) := by decide +kernel
theorem dX8_drawn_9 : decode cX8_drawn 9 = .ok (.iload_n 1, 1) := by decide +kernel
theorem dX8_drawn_10 : decode cX8_drawn 10 = .ok (.i2l, 1) := by decide +kernel
theorem dX8_drawn_11 : decode cX8_drawn 11 = .ok (.lmul, 1) := by decide +kernel
theorem dX8_drawn_12 : decode cX8_drawn 12 = .ok (.ladd, 1) := by decide +kernel
theorem dX8_drawn_13 : decode cX8_drawn 13 = .ok (.lconst 1, 1) := by decide +kernel
theorem dX8_drawn_14 : decode cX8_drawn 14 = .ok (.ladd, 1) := by decide +kernel
theorem dX8_drawn_15 : decode cX8_drawn 15 = .ok (.lstore_n 2, 1) := by decide +kernel
theorem dX8_drawn_16 : decode cX8_drawn 16 = .ok (.lload_n 2, 1) := by decide +kernel
theorem dX8_drawn_17 : decode cX8_drawn 17 = .ok (.lload_n 2, 1) := by decide +kernel
theorem dX8_drawn_18 : decode cX8_drawn 18 = .ok (.lmul, 1) := by decide +kernel
theorem dX8_drawn_19 : decode cX8_drawn 19 = .ok (.ldc2_w 319, 3) := by decide +kernel
theorem dX8_drawn_22 : decode cX8_drawn 22 = .ok (.lrem, 1) := by decide +kernel
theorem dX8_drawn_23 : decode cX8_drawn 23 = .ok (.l2i, 1) := by decide +kernel
theorem dX8_drawn_24 : decode cX8_drawn 24 = .ok (.ireturn, 1) := by decide +kernel
theorem dX8_power_0 : decode cX8_power 0 = .ok (.iconst 1, 1) := by decide +kernel
theorem dX8_power_1 : decode cX8_power 1 = .ok (.istore_n 2, 1) := by decide +kernel
theorem dX8_power_2 : decode cX8_power 2 = .ok (.iconst 0, 1) := by decide +kernel
theorem dX8_power_3 : decode cX8_power 3 = .ok (.istore_n 3, 1) := by decide +kernel
theorem dX8_power_4 : decode cX8_power 4 = .ok (.iload_n 3, 1) := by decide +kernel
theorem dX8_power_5 : decode cX8_power 5 = .ok (.iload_n 1, 1) := by decide +kernel
theorem dX8_power_6 : decode cX8_power 6 = .ok (.if_icmp .ge 13, 3) := by decide +kernel
theorem dX8_power_9 : decode cX8_power 9 = .ok (.iload_n 2, 1) := by decide +kernel
theorem dX8_power_10 : decode cX8_power 10 = .ok (.iload_n 0, 1) := by decide +kernel
theorem dX8_power_11 : decode cX8_power 11 = .ok (.imul, 1) := by decide +kernel
theorem dX8_power_12 : decode cX8_power 12 = .ok (.istore_n 2, 1) := by decide +kernel
theorem dX8_power_13 : decode cX8_power 13 = .ok (.iinc 3 1, 3) := by decide +kernel
theorem dX8_power_16 : decode cX8_power 16 = .ok (.goto (-12), 3) := by decide +kernel
theorem dX8_power_19 : decode cX8_power 19 = .ok (.iload_n 2, 1) := by decide +kernel
theorem dX8_power_20 : decode cX8_power 20 = .ok (.ireturn, 1) := by decide +kernel
theorem dX8_commonDivisor_0 : decode cX8_commonDivisor 0 = .ok (.iload_n 0, 1) := by decide +kernel
theorem dX8_commonDivisor_1 : decode cX8_commonDivisor 1 = .ok (.istore_n 2, 1) := by decide +kernel
theorem dX8_commonDivisor_2 : decode cX8_commonDivisor 2 = .ok (.iload_n 1, 1) := by decide +kernel
theorem dX8_commonDivisor_3 : decode cX8_commonDivisor 3 = .ok (.istore_n 3, 1) := by decide +kernel
theorem dX8_commonDivisor_4 : decode cX8_commonDivisor 4 = .ok (.iconst 0, 1) := by decide +kernel
theorem dX8_commonDivisor_5 : decode cX8_commonDivisor 5 = .ok (.istore 4, 2) := by decide +kernel
theorem dX8_commonDivisor_7 : decode cX8_commonDivisor 7 = .ok (.iload 4, 2) := by decide +kernel
theorem dX8_commonDivisor_9 : decode cX8_commonDivisor 9 = .ok (.bipush 64, 2) := by decide +kernel
theorem dX8_commonDivisor_11 : decode cX8_commonDivisor 11 = .ok (.if_icmp .ge 23, 3) := by decide +kernel
theorem dX8_commonDivisor_14 : decode cX8_commonDivisor 14 = .ok (.iload_n 3, 1) := by decide +kernel
theorem dX8_commonDivisor_15 : decode cX8_commonDivisor 15 = .ok (.ifCond .eq 19, 3) := by decide +kernel
theorem dX8_commonDivisor_18 : decode cX8_commonDivisor 18 = .ok (.iload_n 2, 1) := by decide +kernel
theorem dX8_commonDivisor_19 : decode cX8_commonDivisor 19 = .ok (.iload_n 3, 1) := by decide +kernel
theorem dX8_commonDivisor_20 : decode cX8_commonDivisor 20 = .ok (.irem, 1) := by decide +kernel
theorem dX8_commonDivisor_21 : decode cX8_commonDivisor 21 = .ok (.istore 5, 2) := by decide +kernel
theorem dX8_commonDivisor_23 : decode cX8_commonDivisor 23 = .ok (.iload_n 3, 1) := by decide +kernel
theorem dX8_commonDivisor_24 : decode cX8_commonDivisor 24 = .ok (.istore_n 2, 1) := by decide +kernel
theorem dX8_commonDivisor_25 : decode cX8_commonDivisor 25 = .ok (.iload 5, 2) := by decide +kernel
theorem dX8_commonDivisor_27 : decode cX8_commonDivisor 27 = .ok (.istore_n 3, 1) := by decide +kernel
theorem dX8_commonDivisor_28 : decode cX8_commonDivisor 28 = .ok (.iinc 4 1, 3) := by decide +kernel
theorem dX8_commonDivisor_31 : decode cX8_commonDivisor 31 = .ok (.goto (-24), 3) := by decide +kernel
theorem dX8_commonDivisor_34 : decode cX8_commonDivisor 34 = .ok (.iload_n 2, 1) := by decide +kernel
theorem dX8_commonDivisor_35 : decode cX8_commonDivisor 35 = .ok (.ireturn, 1) := by decide +kernel
end
section
theorem dX9_init_0 : decode cX9_init 0 = .ok (.aload_n 0, 1) := by decide +kernel
theorem dX9_init_1 : decode cX9_init 1 = .ok (.invokespecial 1, 3) := by decide +kernel
theorem dX9_init_4 : decode cX9_init 4 = .ok (.aload_n 0, 1) := by decide +kernel
theorem dX9_init_5 : decode cX9_init 5 = .ok (.sipush 380, 3) := by decide +kernel
theorem dX9_init_8 : decode cX9_init 8 = .ok (.newarray .int, 2) := by decide +kernel
theorem dX9_init_10 : decode cX9_init 10 = .ok (.putfield 7, 3) := by decide +kernel
theorem dX9_init_13 : decode cX9_init 13 = .ok (.aload_n 0, 1) := by decide +kernel
theorem dX9_init_14 : decode cX9_init 14 = .ok (.iconst 3, 1) := by decide +kernel
theorem dX9_init_15 : decode cX9_init 15 = .ok (.newarray .int, 2) := by decide +kernel
theorem dX9_init_17 : decode cX9_init 17 = .ok (.putfield 13, 3) := by decide +kernel
theorem dX9_init_20 : decode cX9_init 20 = .ok (.aload_n 0, 1) := by decide +kernel
theorem dX9_init_21 : decode cX9_init 21 = .ok (.bipush 7, 2) := by decide +kernel
theorem dX9_init_23 : decode cX9_init 23 = .ok (.newarray .int, 2) := by decide +kernel
theorem dX9_init_25 : decode cX9_init 25 = .ok (.putfield 16, 3) := by decide +kernel
theorem dX9_init_28 : decode cX9_init 28 = .ok (.aload_n 0, 1) := by decide +kernel
theorem dX9_init_29 : decode cX9_init 29 = .ok (.bipush 7, 2) := by decide +kernel
theorem dX9_init_31 : decode cX9_init 31 = .ok (.newarray .int, 2) := by decide +kernel
theorem dX9_init_33 : decode cX9_init 33 = .ok (.putfield 19, 3) := by decide +kernel
theorem dX9_init_36 : decode cX9_init 36 = .ok (.aload_n 0, 1) := by decide +kernel
theorem dX9_init_37 : decode cX9_init 37 = .ok (.bipush 7, 2) := by decide +kernel
theorem dX9_init_39 : decode cX9_init 39 = .ok (.newarray .int, 2) := by decide +kernel
theorem dX9_init_41 : decode cX9_init 41 = .ok (.putfield 22, 3) := by decide +kernel
theorem dX9_init_44 : decode cX9_init 44 = .ok (.aload_n 0, 1) := by decide +kernel
theorem dX9_init_45 : decode cX9_init 45 = .ok (.bipush 7, 2) := by decide +kernel
theorem dX9_init_47 : decode cX9_init 47 = .ok (.newarray .int, 2) := by decide +kernel
theorem dX9_init_49 : decode cX9_init 49 = .ok (.putfield 25, 3) := by decide +kernel
theorem dX9_init_52 : decode cX9_init 52 = .ok (.aload_n 0, 1) := by decide +kernel
theorem dX9_init_53 : decode cX9_init 53 = .ok (.bipush 7, 2) := by decide +kernel
theorem dX9_init_55 : decode cX9_init 55 = .ok (.newarray .int, 2) := by decide +kernel
theorem dX9_init_57 : decode cX9_init 57 = .ok (.putfield 28, 3) := by decide +kernel
theorem dX9_init_60 : decode cX9_init 60 = .ok (.aload_n 0, 1) := by decide +kernel
theorem dX9_init_61 : decode cX9_init 61 = .ok (.bipush 6, 2) := by decide +kernel
theorem dX9_init_63 : decode cX9_init 63 = .ok (.newarray .int, 2) := by decide +kernel
theorem dX9_init_65 : decode cX9_init 65 = .ok (.putfield 31, 3) := by decide +kernel
theorem dX9_init_68 : decode cX9_init 68 = .ok (.aload_n 0, 1) := by decide +kernel
theorem dX9_init_69 : decode cX9_init 69 = .ok (.bipush 6, 2) := by decide +kernel
theorem dX9_init_71 : decode cX9_init 71 = .ok (.newarray .int, 2) := by decide +kernel
theorem dX9_init_73 : decode cX9_init 73 = .ok (.putfield 34, 3) := by decide +kernel
theorem dX9_init_76 : decode cX9_init 76 = .ok (.aload_n 0, 1) := by decide +kernel
theorem dX9_init_77 : decode cX9_init 77 = .ok (.bipush 6, 2) := by decide +kernel
theorem dX9_init_79 : decode cX9_init 79 = .ok (.newarray .int, 2) := by decide +kernel
theorem dX9_init_81 : decode cX9_init 81 = .ok (.putfield 37, 3) := by decide +kernel
theorem dX9_init_84 : decode cX9_init 84 = .ok (.aload_n 0, 1) := by decide +kernel
theorem dX9_init_85 : decode cX9_init 85 = .ok (.sipush 200, 3) := by decide +kernel
theorem dX9_init_88 : decode cX9_init 88 = .ok (.newarray .int, 2) := by decide +kernel
theorem dX9_init_90 : decode cX9_init 90 = .ok (.putfield 40, 3) := by decide +kernel
theorem dX9_init_93 : decode cX9_init 93 = .ok (.aload_n 0, 1) := by decide +kernel
theorem dX9_init_94 : decode cX9_init 94 = .ok (.bipush 9, 2) := by decide +kernel
theorem dX9_init_96 : decode cX9_init 96 = .ok (.newarray .int, 2) := by decide +kernel
theorem dX9_init_98 : decode cX9_init 98 = .ok (.putfield 43, 3) := by decide +kernel
theorem dX9_init_101 : decode cX9_init 101 = .ok (.aload_n 0, 1) := by decide +kernel
theorem dX9_init_102 : decode cX9_init 102 = .ok (.bipush 35, 2) := by decide +kernel
theorem dX9_init_104 : decode cX9_init 104 = .ok (.newarray .int, 2) := by decide +kernel
theorem dX9_init_106 : decode cX9_init 106 = .ok (.putfield 46, 3) := by decide +kernel
theorem dX9_init_109 : decode cX9_init 109 = .ok (.aload_n 0, 1) := by decide +kernel
theorem dX9_init_110 : decode cX9_init 110 = .ok (.bipush 8, 2) := by decide +kernel
theorem dX9_init_112 : decode cX9_init 112 = .ok (.newarray .int, 2) := by decide +kernel
theorem dX9_init_114 : decode cX9_init 114 = .ok (.putfield 49, 3) := by decide +kernel
theorem dX9_init_117 : decode cX9_init 117 = .ok (.aload_n 0, 1) := by decide +kernel
theorem dX9_init_118 : decode cX9_init 118 = .ok (.bipush 8, 2) := by decide +kernel
theorem dX9_init_120 : decode cX9_init 120 = .ok (.newarray .int, 2) := by decide +kernel
theorem dX9_init_122 : decode cX9_init 122 = .ok (.putfield 52, 3) := by decide +kernel
theorem dX9_init_125 : decode cX9_init 125 = .ok (.aload_n 0, 1) := by decide +kernel
theorem dX9_init_126 : decode cX9_init 126 = .ok (.bipush 7, 2) := by decide +kernel
theorem dX9_init_128 : decode cX9_init 128 = .ok (.newarray .int, 2) := by decide +kernel
theorem dX9_init_130 : decode cX9_init 130 = .ok (.putfield 55, 3) := by decide +kernel
theorem dX9_init_133 : decode cX9_init 133 = .ok (.aload_n 0, 1) := by decide +kernel
theorem dX9_init_134 : decode cX9_init 134 = .ok (.sipush 246, 3) := by decide +kernel
theorem dX9_init_137 : decode cX9_init 137 = .ok (.newarray .int, 2) := by decide +kernel
theorem dX9_init_139 : decode cX9_init 139 = .ok (.putfield 58, 3) := by decide +kernel
theorem dX9_init_142 : decode cX9_init 142 = .ok (.aload_n 0, 1) := by decide +kernel
theorem dX9_init_143 : decode cX9_init 143 = .ok (.sipush 2401, 3) := by decide +kernel
theorem dX9_init_146 : decode cX9_init 146 = .ok (.newarray .int, 2) := by decide +kernel
theorem dX9_init_148 : decode cX9_init 148 = .ok (.putfield 61, 3) := by decide +kernel
theorem dX9_init_151 : decode cX9_init 151 = .ok (.aload_n 0, 1) := by decide +kernel
theorem dX9_init_152 : decode cX9_init 152 = .ok (.iconst 4, 1) := by decide +kernel
theorem dX9_init_153 : decode cX9_init 153 = .ok (.putfield 64, 3) := by decide +kernel
theorem dX9_init_156 : decode cX9_init 156 = .ok (.aload_n 0, 1) := by decide +kernel
theorem dX9_init_157 : decode cX9_init 157 = .ok (.iconst 4, 1) := by decide +kernel
theorem dX9_init_158 : decode cX9_init 158 = .ok (.putfield 68, 3) := by decide +kernel
theorem dX9_init_161 : decode cX9_init 161 = .ok (.aload_n 0, 1) := by decide +kernel
theorem dX9_init_162 : decode cX9_init 162 = .ok (.iconst 0, 1) := by decide +kernel
theorem dX9_init_163 : decode cX9_init 163 = .ok (.iconst 0, 1) := by decide +kernel
theorem dX9_init_164 : decode cX9_init 164 = .ok (.bipush 10, 2) := by decide +kernel
theorem dX9_init_166 : decode cX9_init 166 = .ok (.invokevirtual 71, 3) := by decide +kernel
theorem dX9_init_169 : decode cX9_init 169 = .ok (.aload_n 0, 1) := by decide +kernel
theorem dX9_init_170 : decode cX9_init 170 = .ok (.iconst 1, 1) := by decide +kernel
theorem dX9_init_171 : decode cX9_init 171 = .ok (.bipush 15, 2) := by decide +kernel
theorem dX9_init_173 : decode cX9_init 173 = .ok (.bipush 15, 2) := by decide +kernel
theorem dX9_init_175 : decode cX9_init 175 = .ok (.invokevirtual 71, 3) := by decide +kernel
theorem dX9_init_178 : decode cX9_init 178 = .ok (.aload_n 0, 1) := by decide +kernel
theorem dX9_init_179 : decode cX9_init 179 = .ok (.iconst 2, 1) := by decide +kernel
theorem dX9_init_180 : decode cX9_init 180 = .ok (.iconst 5, 1) := by decide +kernel
theorem dX9_init_181 : decode cX9_init 181 = .ok (.iconst 2, 1) := by decide +kernel
theorem dX9_init_182 : decode cX9_init 182 = .ok (.invokevirtual 71, 3) := by decide +kernel
theorem dX9_init_185 : decode cX9_init 185 = .ok (.aload_n 0, 1) := by decide +kernel
theorem dX9_init_186 : decode cX9_init 186 = .ok (.iconst 0, 1) := by decide +kernel
theorem dX9_init_187 : decode cX9_init 187 = .ok (.iconst 1, 1) := by decide +kernel
theorem dX9_init_188 : decode cX9_init 188 = .ok (.bipush 14, 2) := by decide +kernel
theorem dX9_init_190 : decode cX9_init 190 = .ok (.iconst 0, 1) := by decide +kernel
theorem dX9_init_191 : decode cX9_init 191 = .ok (.bipush 9, 2) := by decide +kernel
theorem dX9_init_193 : decode cX9_init 193 = .ok (.invokevirtual 75, 3) := by decide +kernel
theorem dX9_init_196 : decode cX9_init 196 = .ok (.aload_n 0, 1) := by decide +kernel
theorem dX9_init_197 : decode cX9_init 197 = .ok (.iconst 1, 1) := by decide +kernel
theorem dX9_init_198 : decode cX9_init 198 = .ok (.iconst 4, 1) := by decide +kernel
theorem dX9_init_199 : decode cX9_init 199 = .ok (.bipush 7, 2) := by decide +kernel
theorem dX9_init_201 : decode cX9_init 201 = .ok (.iconst 2, 1) := by decide +kernel
theorem dX9_init_202 : decode cX9_init 202 = .ok (.bipush 20, 2) := by decide +kernel
theorem dX9_init_204 : decode cX9_init 204 = .ok (.invokevirtual 75, 3) := by decide +kernel
theorem dX9_init_207 : decode cX9_init 207 = .ok (.aload_n 0, 1) := by decide +kernel
theorem dX9_init_208 : decode cX9_init 208 = .ok (.iconst 2, 1) := by decide +kernel
theorem dX9_init_209 : decode cX9_init 209 = .ok (.bipush 12, 2) := by decide +kernel
theorem dX9_init_211 : decode cX9_init 211 = .ok (.iconst 3, 1) := by decide +kernel
theorem dX9_init_212 : decode cX9_init 212 = .ok (.iconst 3, 1) := by decide +kernel
theorem dX9_init_213 : decode cX9_init 213 = .ok (.bipush 12, 2) := by decide +kernel
theorem dX9_init_215 : decode cX9_init 215 = .ok (.invokevirtual 75, 3) := by decide +kernel
theorem dX9_init_218 : decode cX9_init 218 = .ok (.aload_n 0, 1) := by decide +kernel
theorem dX9_init_219 : decode cX9_init 219 = .ok (.iconst 3, 1) := by decide +kernel
theorem dX9_init_220 : decode cX9_init 220 = .ok (.bipush 9, 2) := by decide +kernel
theorem dX9_init_222 : decode cX9_init 222 = .ok (.iconst 2, 1) := by decide +kernel
theorem dX9_init_223 : decode cX9_init 223 = .ok (.iconst 5, 1) := by decide +kernel
theorem dX9_init_224 : decode cX9_init 224 = .ok (.bipush 15, 2) := by decide +kernel
theorem dX9_init_226 : decode cX9_init 226 = .ok (.invokevirtual 75, 3) := by decide +kernel
theorem dX9_init_229 : decode cX9_init 229 = .ok (.aload_n 0, 1) := by decide +kernel
theorem dX9_init_230 : decode cX9_init 230 = .ok (.iconst 0, 1) := by decide +kernel
theorem dX9_init_231 : decode cX9_init 231 = .ok (.bipush 6, 2) := by decide +kernel
theorem dX9_init_233 : decode cX9_init 233 = .ok (.bipush 11, 2) := by decide +kernel
theorem dX9_init_235 : decode cX9_init 235 = .ok (.bipush 6, 2) := by decide +kernel
theorem dX9_init_237 : decode cX9_init 237 = .ok (.bipush 6, 2) := by decide +kernel
theorem dX9_init_239 : decode cX9_init 239 = .ok (.invokevirtual 75, 3) := by decide +kernel
theorem dX9_init_242 : decode cX9_init 242 = .ok (.aload_n 0, 1) := by decide +kernel
theorem dX9_init_243 : decode cX9_init 243 = .ok (.iconst 1, 1) := by decide +kernel
theorem dX9_init_244 : decode cX9_init 244 = .ok (.bipush 13, 2) := by decide +kernel
theorem dX9_init_246 : decode cX9_init 246 = .ok (.iconst 0, 1) := by decide +kernel
theorem dX9_init_247 : decode cX9_init 247 = .ok (.bipush 9, 2) := by decide +kernel
theorem dX9_init_249 : decode cX9_init 249 = .ok (.bipush 30, 2) := by decide +kernel
theorem dX9_init_251 : decode cX9_init 251 = .ok (.invokevirtual 75, 3) := by decide +kernel
theorem dX9_init_254 : decode cX9_init 254 = .ok (.aload_n 0, 1) := by decide +kernel
theorem dX9_init_255 : decode cX9_init 255 = .ok (.invokevirtual 79, 3) := by decide +kernel
theorem dX9_init_258 : decode cX9_init 258 = .ok (.return_, 1) := by decide +kernel
theorem dX9_in_0 : decode cX9_in 0 = .ok (.lload_n 0, 1) := by decide +kernel
theorem dX9_in_1 : decode cX9_in 1 = .ok (.lload_n 2, 1) := by decide +kernel
theorem dX9_in_2 : decode cX9_in 2 = .ok (.lcmp, 1) := by decide +kernel
theorem dX9_in_3 : decode cX9_in 3 = .ok (.ifCond .lt 14, 3) := by decide +kernel
theorem dX9_in_6 : decode cX9_in 6 = .ok (.lload_n 0, 1) := by decide +kernel
theorem dX9_in_7 : decode cX9_in 7 = .ok (.lload 4, 2) := by decide +kernel
theorem dX9_in_9 : decode cX9_in 9 = .ok (.lcmp, 1) := by decide +kernel
theorem dX9_in_10 : decode cX9_in 10 = .ok (.ifCond .gt 7, 3) := by decide +kernel
theorem dX9_in_13 : decode cX9_in 13 = .ok (.iconst 1, 1) := by decide +kernel
theorem dX9_in_14 : decode cX9_in 14 = .ok (.goto 4, 3) := by decide +kernel
theorem dX9_in_17 : decode cX9_in 17 = .ok (.iconst 0, 1) := by decide +kernel
theorem dX9_in_18 : decode cX9_in 18 = .ok (.ireturn, 1) := by decide +kernel
theorem dX9_has_0 : decode cX9_has 0 = .ok (.iload_n 0, 1) := by decide +kernel
theorem dX9_has_1 : decode cX9_has 1 = .ok (.iload_n 1, 1) := by decide +kernel
theorem dX9_has_2 : decode cX9_has 2 = .ok (.ishr, 1) := by decide +kernel
theorem dX9_has_3 : decode cX9_has 3 = .ok (.iconst 1, 1) := by decide +kernel
theorem dX9_has_4 : decode cX9_has 4 = .ok (.iand, 1) := by decide +kernel
theorem dX9_has_5 : decode cX9_has 5 = .ok (.iconst 1, 1) := by decide +kernel
theorem dX9_has_6 : decode cX9_has 6 = .ok (.if_icmp .ne 7, 3) := by decide +kernel
theorem dX9_has_9 : decode cX9_has 9 = .ok (.iconst 1, 1) := by decide +kernel
theorem dX9_has_10 : decode cX9_has 10 = .ok (.goto 4, 3) := by decide +kernel
theorem dX9_has_13 : decode cX9_has 13 = .ok (.iconst 0, 1) := by decide +kernel
theorem dX9_has_14 : decode cX9_has 14 = .ok (.ireturn, 1) := by decide +kernel
theorem dX9_ones_0 : decode cX9_ones 0 = .ok (.iconst 0, 1) := by decide +kernel
theorem dX9_ones_1 : decode cX9_ones 1 = .ok (.istore_n 1, 1) := by decide +kernel
theorem dX9_ones_2 : decode cX9_ones 2 = .ok (.iconst 0, 1) := by decide +kernel
theorem dX9_ones_3 : decode cX9_ones 3 = .ok (.istore_n 2, 1) := by decide +kernel
theorem dX9_ones_4 : decode cX9_ones 4 = .ok (.iload_n 2, 1) := by decide +kernel
theorem dX9_ones_5 : decode cX9_ones 5 = .ok (.bipush 7, 2) := by decide +kernel
theorem dX9_ones_7 : decode cX9_ones 7 = .ok (.if_icmp .ge 17, 3) := by decide +kernel
theorem dX9_ones_10 : decode cX9_ones 10 = .ok (.iload_n 1, 1) := by decide +kernel
theorem dX9_ones_11 : decode cX9_ones 11 = .ok (.iload_n 0, 1) := by decide +kernel
theorem dX9_ones_12 : decode cX9_ones 12 = .ok (.iload_n 2, 1) := by decide +kernel
theorem dX9_ones_13 : decode cX9_ones 13 = .ok (.ishr, 1) := by decide +kernel
theorem dX9_ones_14 : decode cX9_ones 14 = .ok (.iconst 1, 1) := by decide +kernel
theorem dX9_ones_15 : decode cX9_ones 15 = .ok (.iand, 1) := by decide +kernel
theorem dX9_ones_16 : decode cX9_ones 16 = .ok (.iadd, 1) := by decide +kernel
theorem dX9_ones_17 : decode cX9_ones 17 = .ok (.istore_n 1, 1) := by decide +kernel
theorem dX9_ones_18 : decode cX9_ones 18 = .ok (.iinc 2 1, 3) := by decide +kernel
theorem dX9_ones_21 : decode cX9_ones 21 = .ok (.goto (-17), 3) := by decide +kernel
theorem dX9_ones_24 : decode cX9_ones 24 = .ok (.iload_n 1, 1) := by decide +kernel
theorem dX9_ones_25 : decode cX9_ones 25 = .ok (.ireturn, 1) := by decide +kernel
theorem dX9_copy_0 : decode cX9_copy 0 = .ok (.iconst 0, 1) := by decide +kernel
theorem dX9_copy_1 : decode cX9_copy 1 = .ok (.istore_n 3, 1) := by decide +kernel
theorem dX9_copy_2 : decode cX9_copy 2 = .ok (.iload_n 3, 1) := by decide +kernel
theorem dX9_copy_3 : decode cX9_copy 3 = .ok (.bipush 19, 2) := by decide +kernel
theorem dX9_copy_5 : decode cX9_copy 5 = .ok (.if_icmp .ge 25, 3) := by decide +kernel
theorem dX9_copy_8 : decode cX9_copy 8 = .ok (.aload_n 0, 1) := by decide +kernel
theorem dX9_copy_9 : decode cX9_copy 9 = .ok (.getfield 7, 3) := by decide +kernel
theorem dX9_copy_12 : decode cX9_copy 12 = .ok (.iload_n 2, 1) := by decide +kernel
theorem dX9_copy_13 : decode cX9_copy 13 = .ok (.iload_n 3, 1) := by decide +kernel
theorem dX9_copy_14 : decode cX9_copy 14 = .ok (.iadd, 1) := by decide +kernel
theorem dX9_copy_15 : decode cX9_copy 15 = .ok (.aload_n 0, 1) := by decide +kernel
theorem dX9_copy_16 : decode cX9_copy 16 = .ok (.getfield 7, 3) := by decide +kernel
theorem dX9_copy_19 : decode cX9_copy 19 = .ok (.iload_n 1, 1) := by decide +kernel
theorem dX9_copy_20 : decode cX9_copy 20 = .ok (.iload_n 3, 1) := by decide +kernel
theorem dX9_copy_21 : decode cX9_copy 21 = .ok (.iadd, 1) := by decide +kernel
theorem dX9_copy_22 : decode cX9_copy 22 = .ok (.iaload, 1) := by decide +kernel
theorem dX9_copy_23 : decode cX9_copy 23 = .ok (.iastore, 1) := by decide +kernel
theorem dX9_copy_24 : decode cX9_copy 24 = .ok (.iinc 3 1, 3) := by decide +kernel
theorem dX9_copy_27 : decode cX9_copy 27 = .ok (.goto (-25), 3) := by decide +kernel
theorem dX9_copy_30 : decode cX9_copy 30 = .ok (.return_, 1) := by decide +kernel
theorem dX9_places_0 : decode cX9_places 0 = .ok (.aload_n 0, 1) := by decide +kernel
theorem dX9_places_1 : decode cX9_places 1 = .ok (.getfield 82, 3) := by decide +kernel
theorem dX9_places_4 : decode cX9_places 4 = .ok (.aload_n 0, 1) := by decide +kernel
theorem dX9_places_5 : decode cX9_places 5 = .ok (.getfield 85, 3) := by decide +kernel
theorem dX9_places_8 : decode cX9_places 8 = .ok (.imul, 1) := by decide +kernel
theorem dX9_places_9 : decode cX9_places 9 = .ok (.ireturn, 1) := by decide +kernel
theorem dX9_isPlace_0 : decode cX9_isPlace 0 = .ok (.iload_n 1, 1) := by decide +kernel
theorem dX9_isPlace_1 : decode cX9_isPlace 1 = .ok (.i2l, 1) := by decide +kernel
theorem dX9_isPlace_2 : decode cX9_isPlace 2 = .ok (.lconst 0, 1) := by decide +kernel
theorem dX9_isPlace_3 : decode cX9_isPlace 3 = .ok (.aload_n 0, 1) := by decide +kernel
theorem dX9_isPlace_4 : decode cX9_isPlace 4 = .ok (.invokevirtual 88, 3) := by decide +kernel
theorem dX9_isPlace_7 : decode cX9_isPlace 7 = .ok (.iconst 1, 1) := by decide +kernel
theorem dX9_isPlace_8 : decode cX9_isPlace 8 = .ok (.isub, 1) := by decide +kernel
theorem dX9_isPlace_9 : decode cX9_isPlace 9 = .ok (.i2l, 1) := by decide +kernel
theorem dX9_isPlace_10 : decode cX9_isPlace 10 = .ok (.invokestatic 92, 3) := by decide +kernel
theorem dX9_isPlace_13 : decode cX9_isPlace 13 = .ok (.ireturn, 1) := by decide +kernel
theorem dX9_isCab_0 : decode cX9_isCab 0 = .ok (.iload_n 1, 1) := by decide +kernel
theorem dX9_isCab_1 : decode cX9_isCab 1 = .ok (.i2l, 1) := by decide +kernel
theorem dX9_isCab_2 : decode cX9_isCab 2 = .ok (.lconst 0, 1) := by decide +kernel
theorem dX9_isCab_3 : decode cX9_isCab 3 = .ok (.aload_n 0, 1) := by decide +kernel
theorem dX9_isCab_4 : decode cX9_isCab 4 = .ok (.getfield 96, 3) := by decide +kernel
theorem dX9_isCab_7 : decode cX9_isCab 7 = .ok (.iconst 1, 1) := by decide +kernel
theorem dX9_isCab_8 : decode cX9_isCab 8 = .ok (.isub, 1) := by decide +kernel
theorem dX9_isCab_9 : decode cX9_isCab 9 = .ok (.i2l, 1) := by decide +kernel
theorem dX9_isCab_10 : decode cX9_isCab 10 = .ok (.invokestatic 92, 3) := by decide +kernel
theorem dX9_isCab_13 : decode cX9_isCab 13 = .ok (.ireturn, 1) := by decide +kernel
theorem dX9_isFare_0 : decode cX9_isFare 0 = .ok (.iload_n 1, 1) := by decide +kernel
theorem dX9_isFare_1 : decode cX9_isFare 1 = .ok (.i2l, 1) := by decide +kernel
theorem dX9_isFare_2 : decode cX9_isFare 2 = .ok (.lconst 0, 1) := by decide +kernel
theorem dX9_isFare_3 : decode cX9_isFare 3 = .ok (.aload_n 0, 1) := by decide +kernel
theorem dX9_isFare_4 : decode cX9_isFare 4 = .ok (.getfield 99, 3) := by decide +kernel
theorem dX9_isFare_7 : decode cX9_isFare 7 = .ok (.iconst 1, 1) := by decide +kernel
theorem dX9_isFare_8 : decode cX9_isFare 8 = .ok (.isub, 1) := by decide +kernel
theorem dX9_isFare_9 : decode cX9_isFare 9 = .ok (.i2l, 1) := by decide +kernel
theorem dX9_isFare_10 : decode cX9_isFare 10 = .ok (.invokestatic 92, 3) := by decide +kernel
theorem dX9_isFare_13 : decode cX9_isFare 13 = .ok (.ireturn, 1) := by decide +kernel
theorem dX9_addsCab_0 : decode cX9_addsCab 0 = .ok (.aload_n 0, 1) := by decide +kernel
theorem dX9_addsCab_1 : decode cX9_addsCab 1 = .ok (.getfield 43, 3) := by decide +kernel
theorem dX9_addsCab_4 : decode cX9_addsCab 4 = .ok (.iconst 3, 1) := by decide +kernel
theorem dX9_addsCab_5 : decode cX9_addsCab 5 = .ok (.aload_n 0, 1) := by decide +kernel
theorem dX9_addsCab_6 : decode cX9_addsCab 6 = .ok (.getfield 102, 3) := by decide +kernel
theorem dX9_addsCab_9 : decode cX9_addsCab 9 = .ok (.imul, 1) := by decide +kernel
theorem dX9_addsCab_10 : decode cX9_addsCab 10 = .ok (.iload_n 1, 1) := by decide +kernel
theorem dX9_addsCab_11 : decode cX9_addsCab 11 = .ok (.iastore, 1) := by decide +kernel
theorem dX9_addsCab_12 : decode cX9_addsCab 12 = .ok (.aload_n 0, 1) := by decide +kernel
theorem dX9_addsCab_13 : decode cX9_addsCab 13 = .ok (.getfield 43, 3) := by decide +kernel
theorem dX9_addsCab_16 : decode cX9_addsCab 16 = .ok (.iconst 3, 1) := by decide +kernel
theorem dX9_addsCab_17 : decode cX9_addsCab 17 = .ok (.aload_n 0, 1) := by decide +kernel
theorem dX9_addsCab_18 : decode cX9_addsCab 18 = .ok (.getfield 102, 3) := by decide +kernel
theorem dX9_addsCab_21 : decode cX9_addsCab 21 = .ok (.imul, 1) := by decide +kernel
theorem dX9_addsCab_22 : decode cX9_addsCab 22 = .ok (.iconst 1, 1) := by decide +kernel
theorem dX9_addsCab_23 : decode cX9_addsCab 23 = .ok (.iadd, 1) := by decide +kernel
theorem dX9_addsCab_24 : decode cX9_addsCab 24 = .ok (.iload_n 2, 1) := by decide +kernel
theorem dX9_addsCab_25 : decode cX9_addsCab 25 = .ok (.iastore, 1) := by decide +kernel
theorem dX9_addsCab_26 : decode cX9_addsCab 26 = .ok (.aload_n 0, 1) := by decide +kernel
theorem dX9_addsCab_27 : decode cX9_addsCab 27 = .ok (.getfield 43, 3) := by decide +kernel
theorem dX9_addsCab_30 : decode cX9_addsCab 30 = .ok (.iconst 3, 1) := by decide +kernel
theorem dX9_addsCab_31 : decode cX9_addsCab 31 = .ok (.aload_n 0, 1) := by decide +kernel
theorem dX9_addsCab_32 : decode cX9_addsCab 32 = .ok (.getfield 102, 3) := by decide +kernel
theorem dX9_addsCab_35 : decode cX9_addsCab 35 = .ok (.imul, 1) := by decide +kernel
theorem dX9_addsCab_36 : decode cX9_addsCab 36 = .ok (.iconst 2, 1) := by decide +kernel
theorem dX9_addsCab_37 : decode cX9_addsCab 37 = .ok (.iadd, 1) := by decide +kernel
theorem dX9_addsCab_38 : decode cX9_addsCab 38 = .ok (.iload_n 3, 1) := by decide +kernel
theorem dX9_addsCab_39 : decode cX9_addsCab 39 = .ok (.iastore, 1) := by decide +kernel
theorem dX9_addsCab_40 : decode cX9_addsCab 40 = .ok (.aload_n 0, 1) := by decide +kernel
theorem dX9_addsCab_41 : decode cX9_addsCab 41 = .ok (.dup, 1) := by decide +kernel
theorem dX9_addsCab_42 : decode cX9_addsCab 42 = .ok (.getfield 102, 3) := by decide +kernel
theorem dX9_addsCab_45 : decode cX9_addsCab 45 = .ok (.iconst 1, 1) := by decide +kernel
theorem dX9_addsCab_46 : decode cX9_addsCab 46 = .ok (.iadd, 1) := by decide +kernel
theorem dX9_addsCab_47 : decode cX9_addsCab 47 = .ok (.putfield 102, 3) := by decide +kernel
theorem dX9_addsCab_50 : decode cX9_addsCab 50 = .ok (.return_, 1) := by decide +kernel
theorem dX9_addsFare_0 : decode cX9_addsFare 0 = .ok (.aload_n 0, 1) := by decide +kernel
theorem dX9_addsFare_1 : decode cX9_addsFare 1 = .ok (.getfield 46, 3) := by decide +kernel
theorem dX9_addsFare_4 : decode cX9_addsFare 4 = .ok (.iconst 5, 1) := by decide +kernel
theorem dX9_addsFare_5 : decode cX9_addsFare 5 = .ok (.aload_n 0, 1) := by decide +kernel
theorem dX9_addsFare_6 : decode cX9_addsFare 6 = .ok (.getfield 105, 3) := by decide +kernel
theorem dX9_addsFare_9 : decode cX9_addsFare 9 = .ok (.imul, 1) := by decide +kernel
theorem dX9_addsFare_10 : decode cX9_addsFare 10 = .ok (.iload_n 1, 1) := by decide +kernel
theorem dX9_addsFare_11 : decode cX9_addsFare 11 = .ok (.iastore, 1) := by decide +kernel
theorem dX9_addsFare_12 : decode cX9_addsFare 12 = .ok (.aload_n 0, 1) := by decide +kernel
theorem dX9_addsFare_13 : decode cX9_addsFare 13 = .ok (.getfield 46, 3) := by decide +kernel
theorem dX9_addsFare_16 : decode cX9_addsFare 16 = .ok (.iconst 5, 1) := by decide +kernel
theorem dX9_addsFare_17 : decode cX9_addsFare 17 = .ok (.aload_n 0, 1) := by decide +kernel
theorem dX9_addsFare_18 : decode cX9_addsFare 18 = .ok (.getfield 105, 3) := by decide +kernel
theorem dX9_addsFare_21 : decode cX9_addsFare 21 = .ok (.imul, 1) := by decide +kernel
theorem dX9_addsFare_22 : decode cX9_addsFare 22 = .ok (.iconst 1, 1) := by decide +kernel
theorem dX9_addsFare_23 : decode cX9_addsFare 23 = .ok (.iadd, 1) := by decide +kernel
theorem dX9_addsFare_24 : decode cX9_addsFare 24 = .ok (.iload_n 2, 1) := by decide +kernel
theorem dX9_addsFare_25 : decode cX9_addsFare 25 = .ok (.iastore, 1) := by decide +kernel
theorem dX9_addsFare_26 : decode cX9_addsFare 26 = .ok (.aload_n 0, 1) := by decide +kernel
theorem dX9_addsFare_27 : decode cX9_addsFare 27 = .ok (.getfield 46, 3) := by decide +kernel
theorem dX9_addsFare_30 : decode cX9_addsFare 30 = .ok (.iconst 5, 1) := by decide +kernel
theorem dX9_addsFare_31 : decode cX9_addsFare 31 = .ok (.aload_n 0, 1) := by decide +kernel
theorem dX9_addsFare_32 : decode cX9_addsFare 32 = .ok (.getfield 105, 3) := by decide +kernel
theorem dX9_addsFare_35 : decode cX9_addsFare 35 = .ok (.imul, 1) := by decide +kernel
theorem dX9_addsFare_36 : decode cX9_addsFare 36 = .ok (.iconst 2, 1) := by decide +kernel
theorem dX9_addsFare_37 : decode cX9_addsFare 37 = .ok (.iadd, 1) := by decide +kernel
theorem dX9_addsFare_38 : decode cX9_addsFare 38 = .ok (.iload_n 3, 1) := by decide +kernel
theorem dX9_addsFare_39 : decode cX9_addsFare 39 = .ok (.iastore, 1) := by decide +kernel
theorem dX9_addsFare_40 : decode cX9_addsFare 40 = .ok (.aload_n 0, 1) := by decide +kernel
theorem dX9_addsFare_41 : decode cX9_addsFare 41 = .ok (.getfield 46, 3) := by decide +kernel
theorem dX9_addsFare_44 : decode cX9_addsFare 44 = .ok (.iconst 5, 1) := by decide +kernel
theorem dX9_addsFare_45 : decode cX9_addsFare 45 = .ok (.aload_n 0, 1) := by decide +kernel
theorem dX9_addsFare_46 : decode cX9_addsFare 46 = .ok (.getfield 105, 3) := by decide +kernel
theorem dX9_addsFare_49 : decode cX9_addsFare 49 = .ok (.imul, 1) := by decide +kernel
theorem dX9_addsFare_50 : decode cX9_addsFare 50 = .ok (.iconst 3, 1) := by decide +kernel
theorem dX9_addsFare_51 : decode cX9_addsFare 51 = .ok (.iadd, 1) := by decide +kernel
theorem dX9_addsFare_52 : decode cX9_addsFare 52 = .ok (.iload 4, 2) := by decide +kernel
theorem dX9_addsFare_54 : decode cX9_addsFare 54 = .ok (.iastore, 1) := by decide +kernel
theorem dX9_addsFare_55 : decode cX9_addsFare 55 = .ok (.aload_n 0, 1) := by decide +kernel
theorem dX9_addsFare_56 : decode cX9_addsFare 56 = .ok (.getfield 46, 3) := by decide +kernel
theorem dX9_addsFare_59 : decode cX9_addsFare 59 = .ok (.iconst 5, 1) := by decide +kernel
theorem dX9_addsFare_60 : decode cX9_addsFare 60 = .ok (.aload_n 0, 1) := by decide +kernel
theorem dX9_addsFare_61 : decode cX9_addsFare 61 = .ok (.getfield 105, 3) := by decide +kernel
theorem dX9_addsFare_64 : decode cX9_addsFare 64 = .ok (.imul, 1) := by decide +kernel
theorem dX9_addsFare_65 : decode cX9_addsFare 65 = .ok (.iconst 4, 1) := by decide +kernel
theorem dX9_addsFare_66 : decode cX9_addsFare 66 = .ok (.iadd, 1) := by decide +kernel
theorem dX9_addsFare_67 : decode cX9_addsFare 67 = .ok (.iload 5, 2) := by decide +kernel
theorem dX9_addsFare_69 : decode cX9_addsFare 69 = .ok (.iastore, 1) := by decide +kernel
theorem dX9_addsFare_70 : decode cX9_addsFare 70 = .ok (.aload_n 0, 1) := by decide +kernel
theorem dX9_addsFare_71 : decode cX9_addsFare 71 = .ok (.dup, 1) := by decide +kernel
theorem dX9_addsFare_72 : decode cX9_addsFare 72 = .ok (.getfield 105, 3) := by decide +kernel
theorem dX9_addsFare_75 : decode cX9_addsFare 75 = .ok (.iconst 1, 1) := by decide +kernel
theorem dX9_addsFare_76 : decode cX9_addsFare 76 = .ok (.iadd, 1) := by decide +kernel
theorem dX9_addsFare_77 : decode cX9_addsFare 77 = .ok (.putfield 105, 3) := by decide +kernel
theorem dX9_addsFare_80 : decode cX9_addsFare 80 = .ok (.return_, 1) := by decide +kernel
theorem dX9_begins_0 : decode cX9_begins 0 = .ok (.aload_n 0, 1) := by decide +kernel
theorem dX9_begins_1 : decode cX9_begins 1 = .ok (.aload_n 0, 1) := by decide +kernel
theorem dX9_begins_2 : decode cX9_begins 2 = .ok (.getfield 64, 3) := by decide +kernel
theorem dX9_begins_5 : decode cX9_begins 5 = .ok (.putfield 82, 3) := by decide +kernel
theorem dX9_begins_8 : decode cX9_begins 8 = .ok (.aload_n 0, 1) := by decide +kernel
theorem dX9_begins_9 : decode cX9_begins 9 = .ok (.aload_n 0, 1) := by decide +kernel
theorem dX9_begins_10 : decode cX9_begins 10 = .ok (.getfield 68, 3) := by decide +kernel
theorem dX9_begins_13 : decode cX9_begins 13 = .ok (.putfield 85, 3) := by decide +kernel
theorem dX9_begins_16 : decode cX9_begins 16 = .ok (.aload_n 0, 1) := by decide +kernel
theorem dX9_begins_17 : decode cX9_begins 17 = .ok (.aload_n 0, 1) := by decide +kernel
theorem dX9_begins_18 : decode cX9_begins 18 = .ok (.getfield 102, 3) := by decide +kernel
theorem dX9_begins_21 : decode cX9_begins 21 = .ok (.putfield 96, 3) := by decide +kernel
theorem dX9_begins_24 : decode cX9_begins 24 = .ok (.aload_n 0, 1) := by decide +kernel
theorem dX9_begins_25 : decode cX9_begins 25 = .ok (.aload_n 0, 1) := by decide +kernel
theorem dX9_begins_26 : decode cX9_begins 26 = .ok (.getfield 105, 3) := by decide +kernel
theorem dX9_begins_29 : decode cX9_begins 29 = .ok (.putfield 99, 3) := by decide +kernel
theorem dX9_begins_32 : decode cX9_begins 32 = .ok (.iconst 0, 1) := by decide +kernel
theorem dX9_begins_33 : decode cX9_begins 33 = .ok (.istore_n 1, 1) := by decide +kernel
theorem dX9_begins_34 : decode cX9_begins 34 = .ok (.iload_n 1, 1) := by decide +kernel
theorem dX9_begins_35 : decode cX9_begins 35 = .ok (.bipush 19, 2) := by decide +kernel
theorem dX9_begins_37 : decode cX9_begins 37 = .ok (.if_icmp .ge 16, 3) := by decide +kernel
theorem dX9_begins_40 : decode cX9_begins 40 = .ok (.aload_n 0, 1) := by decide +kernel
theorem dX9_begins_41 : decode cX9_begins 41 = .ok (.getfield 7, 3) := by decide +kernel
theorem dX9_begins_44 : decode cX9_begins 44 = .ok (.iload_n 1, 1) := by decide +kernel
theorem dX9_begins_45 : decode cX9_begins 45 = .ok (.iconst 0, 1) := by decide +kernel
theorem dX9_begins_46 : decode cX9_begins 46 = .ok (.iastore, 1) := by decide +kernel
theorem dX9_begins_47 : decode cX9_begins 47 = .ok (.iinc 1 1, 3) := by decide +kernel
theorem dX9_begins_50 : decode cX9_begins 50 = .ok (.goto (-16), 3) := by decide +kernel
theorem dX9_begins_53 : decode cX9_begins 53 = .ok (.iconst 0, 1) := by decide +kernel
theorem dX9_begins_54 : decode cX9_begins 54 = .ok (.istore_n 1, 1) := by decide +kernel
theorem dX9_begins_55 : decode cX9_begins 55 = .ok (.iload_n 1, 1) := by decide +kernel
theorem dX9_begins_56 : decode cX9_begins 56 = .ok (.aload_n 0, 1) := by decide +kernel
theorem dX9_begins_57 : decode cX9_begins 57 = .ok (.getfield 96, 3) := by decide +kernel
theorem dX9_begins_60 : decode cX9_begins 60 = .ok (.if_icmp .ge 79, 3) := by decide +kernel
theorem dX9_begins_63 : decode cX9_begins 63 = .ok (.aload_n 0, 1) := by decide +kernel
theorem dX9_begins_64 : decode cX9_begins 64 = .ok (.getfield 43, 3) := by decide +kernel
theorem dX9_begins_67 : decode cX9_begins 67 = .ok (.iconst 3, 1) := by decide +kernel
theorem dX9_begins_68 : decode cX9_begins 68 = .ok (.iload_n 1, 1) := by decide +kernel
theorem dX9_begins_69 : decode cX9_begins 69 = .ok (.imul, 1) := by decide +kernel
theorem dX9_begins_70 : decode cX9_begins 70 = .ok (.iconst 2, 1) := by decide +kernel
theorem dX9_begins_71 : decode cX9_begins 71 = .ok (.iadd, 1) := by decide +kernel
theorem dX9_begins_72 : decode cX9_begins 72 = .ok (.iaload, 1) := by decide +kernel
theorem dX9_begins_73 : decode cX9_begins 73 = .ok (.istore_n 2, 1) := by decide +kernel
theorem dX9_begins_74 : decode cX9_begins 74 = .ok (.aload_n 0, 1) := by decide +kernel
theorem dX9_begins_75 : decode cX9_begins 75 = .ok (.getfield 13, 3) := by decide +kernel
theorem dX9_begins_78 : decode cX9_begins 78 = .ok (.iload_n 1, 1) := by decide +kernel
theorem dX9_begins_79 : decode cX9_begins 79 = .ok (.aload_n 0, 1) := by decide +kernel
theorem dX9_begins_80 : decode cX9_begins 80 = .ok (.getfield 43, 3) := by decide +kernel
theorem dX9_begins_83 : decode cX9_begins 83 = .ok (.iconst 3, 1) := by decide +kernel
theorem dX9_begins_84 : decode cX9_begins 84 = .ok (.iload_n 1, 1) := by decide +kernel
theorem dX9_begins_85 : decode cX9_begins 85 = .ok (.imul, 1) := by decide +kernel
theorem dX9_begins_86 : decode cX9_begins 86 = .ok (.iaload, 1) := by decide +kernel
theorem dX9_begins_87 : decode cX9_begins 87 = .ok (.iastore, 1) := by decide +kernel
theorem dX9_begins_88 : decode cX9_begins 88 = .ok (.aload_n 0, 1) := by decide +kernel
theorem dX9_begins_89 : decode cX9_begins 89 = .ok (.getfield 7, 3) := by decide +kernel
theorem dX9_begins_92 : decode cX9_begins 92 = .ok (.iconst 1, 1) := by decide +kernel
theorem dX9_begins_93 : decode cX9_begins 93 = .ok (.iload_n 1, 1) := by decide +kernel
theorem dX9_begins_94 : decode cX9_begins 94 = .ok (.iadd, 1) := by decide +kernel
theorem dX9_begins_95 : decode cX9_begins 95 = .ok (.aload_n 0, 1) := by decide +kernel
theorem dX9_begins_96 : decode cX9_begins 96 = .ok (.getfield 43, 3) := by decide +kernel
theorem dX9_begins_99 : decode cX9_begins 99 = .ok (.iconst 3, 1) := by decide +kernel
theorem dX9_begins_100 : decode cX9_begins 100 = .ok (.iload_n 1, 1) := by decide +kernel
theorem dX9_begins_101 : decode cX9_begins 101 = .ok (.imul, 1) := by decide +kernel
theorem dX9_begins_102 : decode cX9_begins 102 = .ok (.iconst 1, 1) := by decide +kernel
theorem dX9_begins_103 : decode cX9_begins 103 = .ok (.iadd, 1) := by decide +kernel
theorem dX9_begins_104 : decode cX9_begins 104 = .ok (.iaload, 1) := by decide +kernel
theorem dX9_begins_105 : decode cX9_begins 105 = .ok (.iastore, 1) := by decide +kernel
theorem dX9_begins_106 : decode cX9_begins 106 = .ok (.aload_n 0, 1) := by decide +kernel
theorem dX9_begins_107 : decode cX9_begins 107 = .ok (.getfield 7, 3) := by decide +kernel
theorem dX9_begins_110 : decode cX9_begins 110 = .ok (.bipush 7, 2) := by decide +kernel
theorem dX9_begins_112 : decode cX9_begins 112 = .ok (.iload_n 1, 1) := by decide +kernel
theorem dX9_begins_113 : decode cX9_begins 113 = .ok (.iadd, 1) := by decide +kernel
theorem dX9_begins_114 : decode cX9_begins 114 = .ok (.iload_n 2, 1) := by decide +kernel
theorem dX9_begins_115 : decode cX9_begins 115 = .ok (.aload_n 0, 1) := by decide +kernel
theorem dX9_begins_116 : decode cX9_begins 116 = .ok (.getfield 7, 3) := by decide +kernel
theorem dX9_begins_119 : decode cX9_begins 119 = .ok (.iconst 1, 1) := by decide +kernel
theorem dX9_begins_120 : decode cX9_begins 120 = .ok (.iload_n 1, 1) := by decide +kernel
theorem dX9_begins_121 : decode cX9_begins 121 = .ok (.iadd, 1) := by decide +kernel
theorem dX9_begins_122 : decode cX9_begins 122 = .ok (.iaload, 1) := by decide +kernel
theorem dX9_begins_123 : decode cX9_begins 123 = .ok (.if_icmp .ne 8, 3) := by decide +kernel
theorem dX9_begins_126 : decode cX9_begins 126 = .ok (.bipush (-4), 2) := by decide +kernel
theorem dX9_begins_128 : decode cX9_begins 128 = .ok (.goto 4, 3) := by decide +kernel
theorem dX9_begins_131 : decode cX9_begins 131 = .ok (.iload_n 2, 1) := by decide +kernel
theorem dX9_begins_132 : decode cX9_begins 132 = .ok (.iastore, 1) := by decide +kernel
theorem dX9_begins_133 : decode cX9_begins 133 = .ok (.iinc 1 1, 3) := by decide +kernel
theorem dX9_begins_136 : decode cX9_begins 136 = .ok (.goto (-81), 3) := by decide +kernel
theorem dX9_begins_139 : decode cX9_begins 139 = .ok (.iconst 0, 1) := by decide +kernel
theorem dX9_begins_140 : decode cX9_begins 140 = .ok (.istore_n 1, 1) := by decide +kernel
theorem dX9_begins_141 : decode cX9_begins 141 = .ok (.iload_n 1, 1) := by decide +kernel
theorem dX9_begins_142 : decode cX9_begins 142 = .ok (.aload_n 0, 1) := by decide +kernel
theorem dX9_begins_143 : decode cX9_begins 143 = .ok (.getfield 99, 3) := by decide +kernel
theorem dX9_begins_146 : decode cX9_begins 146 = .ok (.if_icmp .ge 98, 3) := by decide +kernel
theorem dX9_begins_149 : decode cX9_begins 149 = .ok (.aload_n 0, 1) := by decide +kernel
theorem dX9_begins_150 : decode cX9_begins 150 = .ok (.getfield 16, 3) := by decide +kernel
theorem dX9_begins_153 : decode cX9_begins 153 = .ok (.iload_n 1, 1) := by decide +kernel
theorem dX9_begins_154 : decode cX9_begins 154 = .ok (.aload_n 0, 1) := by decide +kernel
theorem dX9_begins_155 : decode cX9_begins 155 = .ok (.getfield 46, 3) := by decide +kernel
theorem dX9_begins_158 : decode cX9_begins 158 = .ok (.iconst 5, 1) := by decide +kernel
theorem dX9_begins_159 : decode cX9_begins 159 = .ok (.iload_n 1, 1) := by decide +kernel
theorem dX9_begins_160 : decode cX9_begins 160 = .ok (.imul, 1) := by decide +kernel
theorem dX9_begins_161 : decode cX9_begins 161 = .ok (.iaload, 1) := by decide +kernel
theorem dX9_begins_162 : decode cX9_begins 162 = .ok (.iastore, 1) := by decide +kernel
theorem dX9_begins_163 : decode cX9_begins 163 = .ok (.aload_n 0, 1) := by decide +kernel
theorem dX9_begins_164 : decode cX9_begins 164 = .ok (.getfield 19, 3) := by decide +kernel
theorem dX9_begins_167 : decode cX9_begins 167 = .ok (.iload_n 1, 1) := by decide +kernel
theorem dX9_begins_168 : decode cX9_begins 168 = .ok (.aload_n 0, 1) := by decide +kernel
theorem dX9_begins_169 : decode cX9_begins 169 = .ok (.getfield 46, 3) := by decide +kernel
theorem dX9_begins_172 : decode cX9_begins 172 = .ok (.iconst 5, 1) := by decide +kernel
theorem dX9_begins_173 : decode cX9_begins 173 = .ok (.iload_n 1, 1) := by decide +kernel
theorem dX9_begins_174 : decode cX9_begins 174 = .ok (.imul, 1) := by decide +kernel
theorem dX9_begins_175 : decode cX9_begins 175 = .ok (.iconst 1, 1) := by decide +kernel
theorem dX9_begins_176 : decode cX9_begins 176 = .ok (.iadd, 1) := by decide +kernel
theorem dX9_begins_177 : decode cX9_begins 177 = .ok (.iaload, 1) := by decide +kernel
theorem dX9_begins_178 : decode cX9_begins 178 = .ok (.iastore, 1) := by decide +kernel
theorem dX9_begins_179 : decode cX9_begins 179 = .ok (.aload_n 0, 1) := by decide +kernel
theorem dX9_begins_180 : decode cX9_begins 180 = .ok (.getfield 22, 3) := by decide +kernel
theorem dX9_begins_183 : decode cX9_begins 183 = .ok (.iload_n 1, 1) := by decide +kernel
theorem dX9_begins_184 : decode cX9_begins 184 = .ok (.aload_n 0, 1) := by decide +kernel
theorem dX9_begins_185 : decode cX9_begins 185 = .ok (.getfield 46, 3) := by decide +kernel
theorem dX9_begins_188 : decode cX9_begins 188 = .ok (.iconst 5, 1) := by decide +kernel
theorem dX9_begins_189 : decode cX9_begins 189 = .ok (.iload_n 1, 1) := by decide +kernel
theorem dX9_begins_190 : decode cX9_begins 190 = .ok (.imul, 1) := by decide +kernel
theorem dX9_begins_191 : decode cX9_begins 191 = .ok (.iconst 2, 1) := by decide +kernel
theorem dX9_begins_192 : decode cX9_begins 192 = .ok (.iadd, 1) := by decide +kernel
theorem dX9_begins_193 : decode cX9_begins 193 = .ok (.iaload, 1) := by decide +kernel
theorem dX9_begins_194 : decode cX9_begins 194 = .ok (.iastore, 1) := by decide +kernel
theorem dX9_begins_195 : decode cX9_begins 195 = .ok (.aload_n 0, 1) := by decide +kernel
theorem dX9_begins_196 : decode cX9_begins 196 = .ok (.getfield 25, 3) := by decide +kernel
theorem dX9_begins_199 : decode cX9_begins 199 = .ok (.iload_n 1, 1) := by decide +kernel
theorem dX9_begins_200 : decode cX9_begins 200 = .ok (.aload_n 0, 1) := by decide +kernel
theorem dX9_begins_201 : decode cX9_begins 201 = .ok (.getfield 46, 3) := by decide +kernel
theorem dX9_begins_204 : decode cX9_begins 204 = .ok (.iconst 5, 1) := by decide +kernel
theorem dX9_begins_205 : decode cX9_begins 205 = .ok (.iload_n 1, 1) := by decide +kernel
theorem dX9_begins_206 : decode cX9_begins 206 = .ok (.imul, 1) := by decide +kernel
theorem dX9_begins_207 : decode cX9_begins 207 = .ok (.iconst 3, 1) := by decide +kernel
theorem dX9_begins_208 : decode cX9_begins 208 = .ok (.iadd, 1) := by decide +kernel
theorem dX9_begins_209 : decode cX9_begins 209 = .ok (.iaload, 1) := by decide +kernel
theorem dX9_begins_210 : decode cX9_begins 210 = .ok (.iastore, 1) := by decide +kernel
theorem dX9_begins_211 : decode cX9_begins 211 = .ok (.aload_n 0, 1) := by decide +kernel
theorem dX9_begins_212 : decode cX9_begins 212 = .ok (.getfield 28, 3) := by decide +kernel
theorem dX9_begins_215 : decode cX9_begins 215 = .ok (.iload_n 1, 1) := by decide +kernel
theorem dX9_begins_216 : decode cX9_begins 216 = .ok (.aload_n 0, 1) := by decide +kernel
theorem dX9_begins_217 : decode cX9_begins 217 = .ok (.getfield 46, 3) := by decide +kernel
theorem dX9_begins_220 : decode cX9_begins 220 = .ok (.iconst 5, 1) := by decide +kernel
theorem dX9_begins_221 : decode cX9_begins 221 = .ok (.iload_n 1, 1) := by decide +kernel
theorem dX9_begins_222 : decode cX9_begins 222 = .ok (.imul, 1) := by decide +kernel
theorem dX9_begins_223 : decode cX9_begins 223 = .ok (.iconst 4, 1) := by decide +kernel
theorem dX9_begins_224 : decode cX9_begins 224 = .ok (.iadd, 1) := by decide +kernel
theorem dX9_begins_225 : decode cX9_begins 225 = .ok (.iaload, 1) := by decide +kernel
theorem dX9_begins_226 : decode cX9_begins 226 = .ok (.iastore, 1) := by decide +kernel
theorem dX9_begins_227 : decode cX9_begins 227 = .ok (.aload_n 0, 1) := by decide +kernel
theorem dX9_begins_228 : decode cX9_begins 228 = .ok (.getfield 7, 3) := by decide +kernel
theorem dX9_begins_231 : decode cX9_begins 231 = .ok (.bipush 11, 2) := by decide +kernel
theorem dX9_begins_233 : decode cX9_begins 233 = .ok (.iload_n 1, 1) := by decide +kernel
theorem dX9_begins_234 : decode cX9_begins 234 = .ok (.iadd, 1) := by decide +kernel
theorem dX9_begins_235 : decode cX9_begins 235 = .ok (.bipush (-4), 2) := by decide +kernel
theorem dX9_begins_237 : decode cX9_begins 237 = .ok (.iastore, 1) := by decide +kernel
theorem dX9_begins_238 : decode cX9_begins 238 = .ok (.iinc 1 1, 3) := by decide +kernel
theorem dX9_begins_241 : decode cX9_begins 241 = .ok (.goto (-100), 3) := by decide +kernel
theorem dX9_begins_244 : decode cX9_begins 244 = .ok (.aload_n 0, 1) := by decide +kernel
theorem dX9_begins_245 : decode cX9_begins 245 = .ok (.iconst 0, 1) := by decide +kernel
theorem dX9_begins_246 : decode cX9_begins 246 = .ok (.putfield 108, 3) := by decide +kernel
theorem dX9_begins_249 : decode cX9_begins 249 = .ok (.aload_n 0, 1) := by decide +kernel
theorem dX9_begins_250 : decode cX9_begins 250 = .ok (.iconst 0, 1) := by decide +kernel
theorem dX9_begins_251 : decode cX9_begins 251 = .ok (.putfield 111, 3) := by decide +kernel
theorem dX9_begins_254 : decode cX9_begins 254 = .ok (.aload_n 0, 1) := by decide +kernel
theorem dX9_begins_255 : decode cX9_begins 255 = .ok (.iconst 0, 1) := by decide +kernel
theorem dX9_begins_256 : decode cX9_begins 256 = .ok (.putfield 114, 3) := by decide +kernel
theorem dX9_begins_259 : decode cX9_begins 259 = .ok (.return_, 1) := by decide +kernel
theorem dX9_write_0 : decode cX9_write 0 = .ok (.iload_n 1, 1) := by decide +kernel
theorem dX9_write_1 : decode cX9_write 1 = .ok (.i2l, 1) := by decide +kernel
theorem dX9_write_2 : decode cX9_write 2 = .ok (.ldc2_w 117, 3) := by decide +kernel
theorem dX9_write_5 : decode cX9_write 5 = .ok (.ldc2_w 119, 3) := by decide +kernel
theorem dX9_write_8 : decode cX9_write 8 = .ok (.invokestatic 92, 3) := by decide +kernel
theorem dX9_write_11 : decode cX9_write 11 = .ok (.ifCond .ne 5, 3) := by decide +kernel
theorem dX9_write_14 : decode cX9_write 14 = .ok (.iconst (-1), 1) := by decide +kernel
theorem dX9_write_15 : decode cX9_write 15 = .ok (.ireturn, 1) := by decide +kernel
theorem dX9_write_16 : decode cX9_write 16 = .ok (.aload_n 0, 1) := by decide +kernel
theorem dX9_write_17 : decode cX9_write 17 = .ok (.getfield 121, 3) := by decide +kernel
theorem dX9_write_20 : decode cX9_write 20 = .ok (.sipush 200, 3) := by decide +kernel
theorem dX9_write_23 : decode cX9_write 23 = .ok (.if_icmp .ne 6, 3) := by decide +kernel
theorem dX9_write_26 : decode cX9_write 26 = .ok (.bipush (-3), 2) := by decide +kernel
theorem dX9_write_28 : decode cX9_write 28 = .ok (.ireturn, 1) := by decide +kernel
theorem dX9_write_29 : decode cX9_write 29 = .ok (.aload_n 0, 1) := by decide +kernel
theorem dX9_write_30 : decode cX9_write 30 = .ok (.getfield 40, 3) := by decide +kernel
theorem dX9_write_33 : decode cX9_write 33 = .ok (.aload_n 0, 1) := by decide +kernel
theorem dX9_write_34 : decode cX9_write 34 = .ok (.getfield 121, 3) := by decide +kernel
theorem dX9_write_37 : decode cX9_write 37 = .ok (.iload_n 1, 1) := by decide +kernel
theorem dX9_write_38 : decode cX9_write 38 = .ok (.iastore, 1) := by decide +kernel
theorem dX9_write_39 : decode cX9_write 39 = .ok (.aload_n 0, 1) := by decide +kernel
theorem dX9_write_40 : decode cX9_write 40 = .ok (.dup, 1) := by decide +kernel
theorem dX9_write_41 : decode cX9_write 41 = .ok (.getfield 121, 3) := by decide +kernel
theorem dX9_write_44 : decode cX9_write 44 = .ok (.iconst 1, 1) := by decide +kernel
theorem dX9_write_45 : decode cX9_write 45 = .ok (.iadd, 1) := by decide +kernel
theorem dX9_write_46 : decode cX9_write 46 = .ok (.putfield 121, 3) := by decide +kernel
theorem dX9_write_49 : decode cX9_write 49 = .ok (.aload_n 0, 1) := by decide +kernel
theorem dX9_write_50 : decode cX9_write 50 = .ok (.getfield 121, 3) := by decide +kernel
theorem dX9_write_53 : decode cX9_write 53 = .ok (.ireturn, 1) := by decide +kernel
theorem dX9_wipe_0 : decode cX9_wipe 0 = .ok (.aload_n 0, 1) := by decide +kernel
theorem dX9_wipe_1 : decode cX9_wipe 1 = .ok (.getfield 121, 3) := by decide +kernel
theorem dX9_wipe_4 : decode cX9_wipe 4 = .ok (.istore_n 1, 1) := by decide +kernel
theorem dX9_wipe_5 : decode cX9_wipe 5 = .ok (.aload_n 0, 1) := by decide +kernel
theorem dX9_wipe_6 : decode cX9_wipe 6 = .ok (.iconst 0, 1) := by decide +kernel
theorem dX9_wipe_7 : decode cX9_wipe 7 = .ok (.putfield 121, 3) := by decide +kernel
theorem dX9_wipe_10 : decode cX9_wipe 10 = .ok (.iload_n 1, 1) := by decide +kernel
theorem dX9_wipe_11 : decode cX9_wipe 11 = .ok (.ireturn, 1) := by decide +kernel
theorem dX9_letterAt_0 : decode cX9_letterAt 0 = .ok (.iload_n 1, 1) := by decide +kernel
theorem dX9_letterAt_1 : decode cX9_letterAt 1 = .ok (.aload_n 0, 1) := by decide +kernel
theorem dX9_letterAt_2 : decode cX9_letterAt 2 = .ok (.getfield 121, 3) := by decide +kernel
theorem dX9_letterAt_5 : decode cX9_letterAt 5 = .ok (.if_icmp .ge 12, 3) := by decide +kernel
theorem dX9_letterAt_8 : decode cX9_letterAt 8 = .ok (.aload_n 0, 1) := by decide +kernel
theorem dX9_letterAt_9 : decode cX9_letterAt 9 = .ok (.getfield 40, 3) := by decide +kernel
theorem dX9_letterAt_12 : decode cX9_letterAt 12 = .ok (.iload_n 1, 1) := by decide +kernel
theorem dX9_letterAt_13 : decode cX9_letterAt 13 = .ok (.iaload, 1) := by decide +kernel
theorem dX9_letterAt_14 : decode cX9_letterAt 14 = .ok (.goto 4, 3) := by decide +kernel
theorem dX9_letterAt_17 : decode cX9_letterAt 17 = .ok (.iconst (-1), 1) := by decide +kernel
theorem dX9_letterAt_18 : decode cX9_letterAt 18 = .ok (.ireturn, 1) := by decide +kernel
theorem dX9_takesNumber_0 : decode cX9_takesNumber 0 = .ok (.aload_n 0, 1) := by decide +kernel
theorem dX9_takesNumber_1 : decode cX9_takesNumber 1 = .ok (.getfield 124, 3) := by decide +kernel
theorem dX9_takesNumber_4 : decode cX9_takesNumber 4 = .ok (.istore 4, 2) := by decide +kernel
theorem dX9_takesNumber_6 : decode cX9_takesNumber 6 = .ok (.aload_n 0, 1) := by decide +kernel
theorem dX9_takesNumber_7 : decode cX9_takesNumber 7 = .ok (.iconst 0, 1) := by decide +kernel
theorem dX9_takesNumber_8 : decode cX9_takesNumber 8 = .ok (.putfield 127, 3) := by decide +kernel
theorem dX9_takesNumber_11 : decode cX9_takesNumber 11 = .ok (.aload_n 0, 1) := by decide +kernel
theorem dX9_takesNumber_12 : decode cX9_takesNumber 12 = .ok (.getfield 124, 3) := by decide +kernel
theorem dX9_takesNumber_15 : decode cX9_takesNumber 15 = .ok (.iload 4, 2) := by decide +kernel
theorem dX9_takesNumber_17 : decode cX9_takesNumber 17 = .ok (.isub, 1) := by decide +kernel
theorem dX9_takesNumber_18 : decode cX9_takesNumber 18 = .ok (.iconst 2, 1) := by decide +kernel
theorem dX9_takesNumber_19 : decode cX9_takesNumber 19 = .ok (.if_icmp .ge 60, 3) := by decide +kernel
theorem dX9_takesNumber_22 : decode cX9_takesNumber 22 = .ok (.aload_n 0, 1) := by decide +kernel
theorem dX9_takesNumber_23 : decode cX9_takesNumber 23 = .ok (.aload_n 0, 1) := by decide +kernel
theorem dX9_takesNumber_24 : decode cX9_takesNumber 24 = .ok (.getfield 124, 3) := by decide +kernel
theorem dX9_takesNumber_27 : decode cX9_takesNumber 27 = .ok (.invokevirtual 130, 3) := by decide +kernel
theorem dX9_takesNumber_30 : decode cX9_takesNumber 30 = .ok (.i2l, 1) := by decide +kernel
theorem dX9_takesNumber_31 : decode cX9_takesNumber 31 = .ok (.ldc2_w 134, 3) := by decide +kernel
theorem dX9_takesNumber_34 : decode cX9_takesNumber 34 = .ok (.ldc2_w 136, 3) := by decide +kernel
theorem dX9_takesNumber_37 : decode cX9_takesNumber 37 = .ok (.invokestatic 92, 3) := by decide +kernel
theorem dX9_takesNumber_40 : decode cX9_takesNumber 40 = .ok (.ifCond .eq 39, 3) := by decide +kernel
theorem dX9_takesNumber_43 : decode cX9_takesNumber 43 = .ok (.aload_n 0, 1) := by decide +kernel
theorem dX9_takesNumber_44 : decode cX9_takesNumber 44 = .ok (.bipush 10, 2) := by decide +kernel
theorem dX9_takesNumber_46 : decode cX9_takesNumber 46 = .ok (.aload_n 0, 1) := by decide +kernel
theorem dX9_takesNumber_47 : decode cX9_takesNumber 47 = .ok (.getfield 127, 3) := by decide +kernel
theorem dX9_takesNumber_50 : decode cX9_takesNumber 50 = .ok (.imul, 1) := by decide +kernel
theorem dX9_takesNumber_51 : decode cX9_takesNumber 51 = .ok (.aload_n 0, 1) := by decide +kernel
theorem dX9_takesNumber_52 : decode cX9_takesNumber 52 = .ok (.aload_n 0, 1) := by decide +kernel
theorem dX9_takesNumber_53 : decode cX9_takesNumber 53 = .ok (.getfield 124, 3) := by decide +kernel
theorem dX9_takesNumber_56 : decode cX9_takesNumber 56 = .ok (.invokevirtual 130, 3) := by decide +kernel
theorem dX9_takesNumber_59 : decode cX9_takesNumber 59 = .ok (.iadd, 1) := by decide +kernel
theorem dX9_takesNumber_60 : decode cX9_takesNumber 60 = .ok (.bipush 48, 2) := by decide +kernel
theorem dX9_takesNumber_62 : decode cX9_takesNumber 62 = .ok (.isub, 1) := by decide +kernel
theorem dX9_takesNumber_63 : decode cX9_takesNumber 63 = .ok (.putfield 127, 3) := by decide +kernel
theorem dX9_takesNumber_66 : decode cX9_takesNumber 66 = .ok (.aload_n 0, 1) := by decide +kernel
theorem dX9_takesNumber_67 : decode cX9_takesNumber 67 = .ok (.dup, 1) := by decide +kernel
theorem dX9_takesNumber_68 : decode cX9_takesNumber 68 = .ok (.getfield 124, 3) := by decide +kernel
theorem dX9_takesNumber_71 : decode cX9_takesNumber 71 = .ok (.iconst 1, 1) := by decide +kernel
theorem dX9_takesNumber_72 : decode cX9_takesNumber 72 = .ok (.iadd, 1) := by decide +kernel
theorem dX9_takesNumber_73 : decode cX9_takesNumber 73 = .ok (.putfield 124, 3) := by decide +kernel
theorem dX9_takesNumber_76 : decode cX9_takesNumber 76 = .ok (.goto (-65), 3) := by decide +kernel
theorem dX9_takesNumber_79 : decode cX9_takesNumber 79 = .ok (.aload_n 0, 1) := by decide +kernel
theorem dX9_takesNumber_80 : decode cX9_takesNumber 80 = .ok (.getfield 124, 3) := by decide +kernel
theorem dX9_takesNumber_83 : decode cX9_takesNumber 83 = .ok (.iload 4, 2) := by decide +kernel
theorem dX9_takesNumber_85 : decode cX9_takesNumber 85 = .ok (.if_icmp .eq 30, 3) := by decide +kernel
theorem dX9_takesNumber_88 : decode cX9_takesNumber 88 = .ok (.aload_n 0, 1) := by decide +kernel
theorem dX9_takesNumber_89 : decode cX9_takesNumber 89 = .ok (.getfield 127, 3) := by decide +kernel
theorem dX9_takesNumber_92 : decode cX9_takesNumber 92 = .ok (.i2l, 1) := by decide +kernel
theorem dX9_takesNumber_93 : decode cX9_takesNumber 93 = .ok (.iload_n 1, 1) := by decide +kernel
theorem dX9_takesNumber_94 : decode cX9_takesNumber 94 = .ok (.i2l, 1) := by decide +kernel
theorem dX9_takesNumber_95 : decode cX9_takesNumber 95 = .ok (.iload_n 2, 1) := by decide +kernel
theorem dX9_takesNumber_96 : decode cX9_takesNumber 96 = .ok (.i2l, 1) := by decide +kernel
theorem dX9_takesNumber_97 : decode cX9_takesNumber 97 = .ok (.invokestatic 92, 3) := by decide +kernel
theorem dX9_takesNumber_100 : decode cX9_takesNumber 100 = .ok (.ifCond .eq 15, 3) := by decide +kernel
theorem dX9_takesNumber_103 : decode cX9_takesNumber 103 = .ok (.aload_n 0, 1) := by decide +kernel
theorem dX9_takesNumber_104 : decode cX9_takesNumber 104 = .ok (.aload_n 0, 1) := by decide +kernel
theorem dX9_takesNumber_105 : decode cX9_takesNumber 105 = .ok (.getfield 124, 3) := by decide +kernel
theorem dX9_takesNumber_108 : decode cX9_takesNumber 108 = .ok (.invokevirtual 130, 3) := by decide +kernel
theorem dX9_takesNumber_111 : decode cX9_takesNumber 111 = .ok (.iload_n 3, 1) := by decide +kernel
theorem dX9_takesNumber_112 : decode cX9_takesNumber 112 = .ok (.if_icmp .eq 5, 3) := by decide +kernel
theorem dX9_takesNumber_115 : decode cX9_takesNumber 115 = .ok (.iconst 0, 1) := by decide +kernel
theorem dX9_takesNumber_116 : decode cX9_takesNumber 116 = .ok (.ireturn, 1) := by decide +kernel
theorem dX9_takesNumber_117 : decode cX9_takesNumber 117 = .ok (.aload_n 0, 1) := by decide +kernel
theorem dX9_takesNumber_118 : decode cX9_takesNumber 118 = .ok (.dup, 1) := by decide +kernel
theorem dX9_takesNumber_119 : decode cX9_takesNumber 119 = .ok (.getfield 124, 3) := by decide +kernel
theorem dX9_takesNumber_122 : decode cX9_takesNumber 122 = .ok (.iconst 1, 1) := by decide +kernel
theorem dX9_takesNumber_123 : decode cX9_takesNumber 123 = .ok (.iadd, 1) := by decide +kernel
theorem dX9_takesNumber_124 : decode cX9_takesNumber 124 = .ok (.putfield 124, 3) := by decide +kernel
theorem dX9_takesNumber_127 : decode cX9_takesNumber 127 = .ok (.iconst 1, 1) := by decide +kernel
theorem dX9_takesNumber_128 : decode cX9_takesNumber 128 = .ok (.ireturn, 1) := by decide +kernel
theorem dX9_takesRows_0 : decode cX9_takesRows 0 = .ok (.aload_n 0, 1) := by decide +kernel
theorem dX9_takesRows_1 : decode cX9_takesRows 1 = .ok (.getfield 102, 3) := by decide +kernel
theorem dX9_takesRows_4 : decode cX9_takesRows 4 = .ok (.aload_n 0, 1) := by decide +kernel
theorem dX9_takesRows_5 : decode cX9_takesRows 5 = .ok (.getfield 105, 3) := by decide +kernel
theorem dX9_takesRows_8 : decode cX9_takesRows 8 = .ok (.iadd, 1) := by decide +kernel
theorem dX9_takesRows_9 : decode cX9_takesRows 9 = .ok (.ifCond .gt 15, 3) := by decide +kernel
theorem dX9_takesRows_12 : decode cX9_takesRows 12 = .ok (.aload_n 0, 1) := by decide +kernel
theorem dX9_takesRows_13 : decode cX9_takesRows 13 = .ok (.iconst 1, 1) := by decide +kernel
theorem dX9_takesRows_14 : decode cX9_takesRows 14 = .ok (.bipush 6, 2) := by decide +kernel
theorem dX9_takesRows_16 : decode cX9_takesRows 16 = .ok (.bipush 44, 2) := by decide +kernel
theorem dX9_takesRows_18 : decode cX9_takesRows 18 = .ok (.invokevirtual 138, 3) := by decide +kernel
theorem dX9_takesRows_21 : decode cX9_takesRows 21 = .ok (.ifCond .ne 5, 3) := by decide +kernel
theorem dX9_takesRows_24 : decode cX9_takesRows 24 = .ok (.iconst 0, 1) := by decide +kernel
theorem dX9_takesRows_25 : decode cX9_takesRows 25 = .ok (.ireturn, 1) := by decide +kernel
theorem dX9_takesRows_26 : decode cX9_takesRows 26 = .ok (.aload_n 0, 1) := by decide +kernel
theorem dX9_takesRows_27 : decode cX9_takesRows 27 = .ok (.getfield 127, 3) := by decide +kernel
theorem dX9_takesRows_30 : decode cX9_takesRows 30 = .ok (.istore_n 1, 1) := by decide +kernel
theorem dX9_takesRows_31 : decode cX9_takesRows 31 = .ok (.aload_n 0, 1) := by decide +kernel
theorem dX9_takesRows_32 : decode cX9_takesRows 32 = .ok (.iconst 1, 1) := by decide +kernel
theorem dX9_takesRows_33 : decode cX9_takesRows 33 = .ok (.bipush 6, 2) := by decide +kernel
theorem dX9_takesRows_35 : decode cX9_takesRows 35 = .ok (.bipush 59, 2) := by decide +kernel
theorem dX9_takesRows_37 : decode cX9_takesRows 37 = .ok (.invokevirtual 138, 3) := by decide +kernel
theorem dX9_takesRows_40 : decode cX9_takesRows 40 = .ok (.ifCond .ne 5, 3) := by decide +kernel
theorem dX9_takesRows_43 : decode cX9_takesRows 43 = .ok (.iconst 0, 1) := by decide +kernel
theorem dX9_takesRows_44 : decode cX9_takesRows 44 = .ok (.ireturn, 1) := by decide +kernel
theorem dX9_takesRows_45 : decode cX9_takesRows 45 = .ok (.aload_n 0, 1) := by decide +kernel
theorem dX9_takesRows_46 : decode cX9_takesRows 46 = .ok (.iload_n 1, 1) := by decide +kernel
theorem dX9_takesRows_47 : decode cX9_takesRows 47 = .ok (.putfield 64, 3) := by decide +kernel
theorem dX9_takesRows_50 : decode cX9_takesRows 50 = .ok (.aload_n 0, 1) := by decide +kernel
theorem dX9_takesRows_51 : decode cX9_takesRows 51 = .ok (.aload_n 0, 1) := by decide +kernel
theorem dX9_takesRows_52 : decode cX9_takesRows 52 = .ok (.getfield 127, 3) := by decide +kernel
theorem dX9_takesRows_55 : decode cX9_takesRows 55 = .ok (.putfield 68, 3) := by decide +kernel
theorem dX9_takesRows_58 : decode cX9_takesRows 58 = .ok (.iconst 1, 1) := by decide +kernel
theorem dX9_takesRows_59 : decode cX9_takesRows 59 = .ok (.ireturn, 1) := by decide +kernel
theorem dX9_takesCab_0 : decode cX9_takesCab 0 = .ok (.aload_n 0, 1) := by decide +kernel
theorem dX9_takesCab_1 : decode cX9_takesCab 1 = .ok (.getfield 64, 3) := by decide +kernel
theorem dX9_takesCab_4 : decode cX9_takesCab 4 = .ok (.aload_n 0, 1) := by decide +kernel
theorem dX9_takesCab_5 : decode cX9_takesCab 5 = .ok (.getfield 68, 3) := by decide +kernel
theorem dX9_takesCab_8 : decode cX9_takesCab 8 = .ok (.imul, 1) := by decide +kernel
theorem dX9_takesCab_9 : decode cX9_takesCab 9 = .ok (.iconst 1, 1) := by decide +kernel
theorem dX9_takesCab_10 : decode cX9_takesCab 10 = .ok (.isub, 1) := by decide +kernel
theorem dX9_takesCab_11 : decode cX9_takesCab 11 = .ok (.istore_n 1, 1) := by decide +kernel
theorem dX9_takesCab_12 : decode cX9_takesCab 12 = .ok (.aload_n 0, 1) := by decide +kernel
theorem dX9_takesCab_13 : decode cX9_takesCab 13 = .ok (.getfield 102, 3) := by decide +kernel
theorem dX9_takesCab_16 : decode cX9_takesCab 16 = .ok (.iconst 3, 1) := by decide +kernel
theorem dX9_takesCab_17 : decode cX9_takesCab 17 = .ok (.if_icmp .eq 14, 3) := by decide +kernel
theorem dX9_takesCab_20 : decode cX9_takesCab 20 = .ok (.aload_n 0, 1) := by decide +kernel
theorem dX9_takesCab_21 : decode cX9_takesCab 21 = .ok (.iconst 0, 1) := by decide +kernel
theorem dX9_takesCab_22 : decode cX9_takesCab 22 = .ok (.iconst 2, 1) := by decide +kernel
theorem dX9_takesCab_23 : decode cX9_takesCab 23 = .ok (.bipush 44, 2) := by decide +kernel
theorem dX9_takesCab_25 : decode cX9_takesCab 25 = .ok (.invokevirtual 138, 3) := by decide +kernel
theorem dX9_takesCab_28 : decode cX9_takesCab 28 = .ok (.ifCond .ne 5, 3) := by decide +kernel
theorem dX9_takesCab_31 : decode cX9_takesCab 31 = .ok (.iconst 0, 1) := by decide +kernel
theorem dX9_takesCab_32 : decode cX9_takesCab 32 = .ok (.ireturn, 1) := by decide +kernel
theorem dX9_takesCab_33 : decode cX9_takesCab 33 = .ok (.aload_n 0, 1) := by decide +kernel
theorem dX9_takesCab_34 : decode cX9_takesCab 34 = .ok (.getfield 127, 3) := by decide +kernel
theorem dX9_takesCab_37 : decode cX9_takesCab 37 = .ok (.istore_n 2, 1) := by decide +kernel
theorem dX9_takesCab_38 : decode cX9_takesCab 38 = .ok (.aload_n 0, 1) := by decide +kernel
theorem dX9_takesCab_39 : decode cX9_takesCab 39 = .ok (.iconst 0, 1) := by decide +kernel
theorem dX9_takesCab_40 : decode cX9_takesCab 40 = .ok (.iload_n 1, 1) := by decide +kernel
theorem dX9_takesCab_41 : decode cX9_takesCab 41 = .ok (.bipush 44, 2) := by decide +kernel
theorem dX9_takesCab_43 : decode cX9_takesCab 43 = .ok (.invokevirtual 138, 3) := by decide +kernel
theorem dX9_takesCab_46 : decode cX9_takesCab 46 = .ok (.ifCond .ne 5, 3) := by decide +kernel
theorem dX9_takesCab_49 : decode cX9_takesCab 49 = .ok (.iconst 0, 1) := by decide +kernel
theorem dX9_takesCab_50 : decode cX9_takesCab 50 = .ok (.ireturn, 1) := by decide +kernel
theorem dX9_takesCab_51 : decode cX9_takesCab 51 = .ok (.aload_n 0, 1) := by decide +kernel
theorem dX9_takesCab_52 : decode cX9_takesCab 52 = .ok (.getfield 127, 3) := by decide +kernel
theorem dX9_takesCab_55 : decode cX9_takesCab 55 = .ok (.istore_n 3, 1) := by decide +kernel
theorem dX9_takesCab_56 : decode cX9_takesCab 56 = .ok (.aload_n 0, 1) := by decide +kernel
theorem dX9_takesCab_57 : decode cX9_takesCab 57 = .ok (.iconst 0, 1) := by decide +kernel
theorem dX9_takesCab_58 : decode cX9_takesCab 58 = .ok (.iload_n 1, 1) := by decide +kernel
theorem dX9_takesCab_59 : decode cX9_takesCab 59 = .ok (.bipush 59, 2) := by decide +kernel
theorem dX9_takesCab_61 : decode cX9_takesCab 61 = .ok (.invokevirtual 138, 3) := by decide +kernel
theorem dX9_takesCab_64 : decode cX9_takesCab 64 = .ok (.ifCond .ne 5, 3) := by decide +kernel
theorem dX9_takesCab_67 : decode cX9_takesCab 67 = .ok (.iconst 0, 1) := by decide +kernel
theorem dX9_takesCab_68 : decode cX9_takesCab 68 = .ok (.ireturn, 1) := by decide +kernel
theorem dX9_takesCab_69 : decode cX9_takesCab 69 = .ok (.aload_n 0, 1) := by decide +kernel
theorem dX9_takesCab_70 : decode cX9_takesCab 70 = .ok (.iload_n 2, 1) := by decide +kernel
theorem dX9_takesCab_71 : decode cX9_takesCab 71 = .ok (.iload_n 3, 1) := by decide +kernel
theorem dX9_takesCab_72 : decode cX9_takesCab 72 = .ok (.aload_n 0, 1) := by decide +kernel
theorem dX9_takesCab_73 : decode cX9_takesCab 73 = .ok (.getfield 127, 3) := by decide +kernel
theorem dX9_takesCab_76 : decode cX9_takesCab 76 = .ok (.invokevirtual 71, 3) := by decide +kernel
theorem dX9_takesCab_79 : decode cX9_takesCab 79 = .ok (.iconst 1, 1) := by decide +kernel
theorem dX9_takesCab_80 : decode cX9_takesCab 80 = .ok (.ireturn, 1) := by decide +kernel
theorem dX9_takesFare_0 : decode cX9_takesFare 0 = .ok (.aload_n 0, 1) := by decide +kernel
theorem dX9_takesFare_1 : decode cX9_takesFare 1 = .ok (.getfield 64, 3) := by decide +kernel
theorem dX9_takesFare_4 : decode cX9_takesFare 4 = .ok (.aload_n 0, 1) := by decide +kernel
theorem dX9_takesFare_5 : decode cX9_takesFare 5 = .ok (.getfield 68, 3) := by decide +kernel
theorem dX9_takesFare_8 : decode cX9_takesFare 8 = .ok (.imul, 1) := by decide +kernel
theorem dX9_takesFare_9 : decode cX9_takesFare 9 = .ok (.iconst 1, 1) := by decide +kernel
theorem dX9_takesFare_10 : decode cX9_takesFare 10 = .ok (.isub, 1) := by decide +kernel
theorem dX9_takesFare_11 : decode cX9_takesFare 11 = .ok (.istore_n 1, 1) := by decide +kernel
theorem dX9_takesFare_12 : decode cX9_takesFare 12 = .ok (.aload_n 0, 1) := by decide +kernel
theorem dX9_takesFare_13 : decode cX9_takesFare 13 = .ok (.getfield 105, 3) := by decide +kernel
theorem dX9_takesFare_16 : decode cX9_takesFare 16 = .ok (.bipush 7, 2) := by decide +kernel
theorem dX9_takesFare_18 : decode cX9_takesFare 18 = .ok (.if_icmp .eq 14, 3) := by decide +kernel
theorem dX9_takesFare_21 : decode cX9_takesFare 21 = .ok (.aload_n 0, 1) := by decide +kernel
theorem dX9_takesFare_22 : decode cX9_takesFare 22 = .ok (.iconst 0, 1) := by decide +kernel
theorem dX9_takesFare_23 : decode cX9_takesFare 23 = .ok (.iconst 3, 1) := by decide +kernel
theorem dX9_takesFare_24 : decode cX9_takesFare 24 = .ok (.bipush 44, 2) := by decide +kernel
theorem dX9_takesFare_26 : decode cX9_takesFare 26 = .ok (.invokevirtual 138, 3) := by decide +kernel
theorem dX9_takesFare_29 : decode cX9_takesFare 29 = .ok (.ifCond .ne 5, 3) := by decide +kernel
theorem dX9_takesFare_32 : decode cX9_takesFare 32 = .ok (.iconst 0, 1) := by decide +kernel
theorem dX9_takesFare_33 : decode cX9_takesFare 33 = .ok (.ireturn, 1) := by decide +kernel
theorem dX9_takesFare_34 : decode cX9_takesFare 34 = .ok (.aload_n 0, 1) := by decide +kernel
theorem dX9_takesFare_35 : decode cX9_takesFare 35 = .ok (.getfield 127, 3) := by decide +kernel
theorem dX9_takesFare_38 : decode cX9_takesFare 38 = .ok (.istore_n 2, 1) := by decide +kernel
theorem dX9_takesFare_39 : decode cX9_takesFare 39 = .ok (.aload_n 0, 1) := by decide +kernel
theorem dX9_takesFare_40 : decode cX9_takesFare 40 = .ok (.iconst 0, 1) := by decide +kernel
theorem dX9_takesFare_41 : decode cX9_takesFare 41 = .ok (.iload_n 1, 1) := by decide +kernel
theorem dX9_takesFare_42 : decode cX9_takesFare 42 = .ok (.bipush 44, 2) := by decide +kernel
theorem dX9_takesFare_44 : decode cX9_takesFare 44 = .ok (.invokevirtual 138, 3) := by decide +kernel
theorem dX9_takesFare_47 : decode cX9_takesFare 47 = .ok (.ifCond .ne 5, 3) := by decide +kernel
theorem dX9_takesFare_50 : decode cX9_takesFare 50 = .ok (.iconst 0, 1) := by decide +kernel
theorem dX9_takesFare_51 : decode cX9_takesFare 51 = .ok (.ireturn, 1) := by decide +kernel
theorem dX9_takesFare_52 : decode cX9_takesFare 52 = .ok (.aload_n 0, 1) := by decide +kernel
theorem dX9_takesFare_53 : decode cX9_takesFare 53 = .ok (.getfield 127, 3) := by decide +kernel
theorem dX9_takesFare_56 : decode cX9_takesFare 56 = .ok (.istore_n 3, 1) := by decide +kernel
theorem dX9_takesFare_57 : decode cX9_takesFare 57 = .ok (.aload_n 0, 1) := by decide +kernel
theorem dX9_takesFare_58 : decode cX9_takesFare 58 = .ok (.iconst 0, 1) := by decide +kernel
theorem dX9_takesFare_59 : decode cX9_takesFare 59 = .ok (.iload_n 1, 1) := by decide +kernel
theorem dX9_takesFare_60 : decode cX9_takesFare 60 = .ok (.bipush 44, 2) := by decide +kernel
theorem dX9_takesFare_62 : decode cX9_takesFare 62 = .ok (.invokevirtual 138, 3) := by decide +kernel
theorem dX9_takesFare_65 : decode cX9_takesFare 65 = .ok (.ifCond .ne 5, 3) := by decide +kernel
theorem dX9_takesFare_68 : decode cX9_takesFare 68 = .ok (.iconst 0, 1) := by decide +kernel
theorem dX9_takesFare_69 : decode cX9_takesFare 69 = .ok (.ireturn, 1) := by decide +kernel
theorem dX9_takesFare_70 : decode cX9_takesFare 70 = .ok (.aload_n 0, 1) := by decide +kernel
theorem dX9_takesFare_71 : decode cX9_takesFare 71 = .ok (.getfield 127, 3) := by decide +kernel
theorem dX9_takesFare_74 : decode cX9_takesFare 74 = .ok (.istore 4, 2) := by decide +kernel
theorem dX9_takesFare_76 : decode cX9_takesFare 76 = .ok (.aload_n 0, 1) := by decide +kernel
theorem dX9_takesFare_77 : decode cX9_takesFare 77 = .ok (.iconst 0, 1) := by decide +kernel
theorem dX9_takesFare_78 : decode cX9_takesFare 78 = .ok (.bipush 99, 2) := by decide +kernel
theorem dX9_takesFare_80 : decode cX9_takesFare 80 = .ok (.bipush 44, 2) := by decide +kernel
theorem dX9_takesFare_82 : decode cX9_takesFare 82 = .ok (.invokevirtual 138, 3) := by decide +kernel
theorem dX9_takesFare_85 : decode cX9_takesFare 85 = .ok (.ifCond .ne 5, 3) := by decide +kernel
theorem dX9_takesFare_88 : decode cX9_takesFare 88 = .ok (.iconst 0, 1) := by decide +kernel
theorem dX9_takesFare_89 : decode cX9_takesFare 89 = .ok (.ireturn, 1) := by decide +kernel
theorem dX9_takesFare_90 : decode cX9_takesFare 90 = .ok (.aload_n 0, 1) := by decide +kernel
theorem dX9_takesFare_91 : decode cX9_takesFare 91 = .ok (.getfield 127, 3) := by decide +kernel
theorem dX9_takesFare_94 : decode cX9_takesFare 94 = .ok (.istore 5, 2) := by decide +kernel
theorem dX9_takesFare_96 : decode cX9_takesFare 96 = .ok (.aload_n 0, 1) := by decide +kernel
theorem dX9_takesFare_97 : decode cX9_takesFare 97 = .ok (.iconst 0, 1) := by decide +kernel
theorem dX9_takesFare_98 : decode cX9_takesFare 98 = .ok (.bipush 60, 2) := by decide +kernel
theorem dX9_takesFare_100 : decode cX9_takesFare 100 = .ok (.bipush 59, 2) := by decide +kernel
theorem dX9_takesFare_102 : decode cX9_takesFare 102 = .ok (.invokevirtual 138, 3) := by decide +kernel
theorem dX9_takesFare_105 : decode cX9_takesFare 105 = .ok (.ifCond .ne 5, 3) := by decide +kernel
theorem dX9_takesFare_108 : decode cX9_takesFare 108 = .ok (.iconst 0, 1) := by decide +kernel
theorem dX9_takesFare_109 : decode cX9_takesFare 109 = .ok (.ireturn, 1) := by decide +kernel
theorem dX9_takesFare_110 : decode cX9_takesFare 110 = .ok (.aload_n 0, 1) := by decide +kernel
theorem dX9_takesFare_111 : decode cX9_takesFare 111 = .ok (.iload_n 2, 1) := by decide +kernel
theorem dX9_takesFare_112 : decode cX9_takesFare 112 = .ok (.iload_n 3, 1) := by decide +kernel
theorem dX9_takesFare_113 : decode cX9_takesFare 113 = .ok (.iload 4, 2) := by decide +kernel
theorem dX9_takesFare_115 : decode cX9_takesFare 115 = .ok (.iload 5, 2) := by decide +kernel
theorem dX9_takesFare_117 : decode cX9_takesFare 117 = .ok (.aload_n 0, 1) := by decide +kernel
theorem dX9_takesFare_118 : decode cX9_takesFare 118 = .ok (.getfield 127, 3) := by decide +kernel
theorem dX9_takesFare_121 : decode cX9_takesFare 121 = .ok (.invokevirtual 75, 3) := by decide +kernel
theorem dX9_takesFare_124 : decode cX9_takesFare 124 = .ok (.iconst 1, 1) := by decide +kernel
theorem dX9_takesFare_125 : decode cX9_takesFare 125 = .ok (.ireturn, 1) := by decide +kernel
theorem dX9_takesItem_0 : decode cX9_takesItem 0 = .ok (.aload_n 0, 1) := by decide +kernel
theorem dX9_takesItem_1 : decode cX9_takesItem 1 = .ok (.aload_n 0, 1) := by decide +kernel
theorem dX9_takesItem_2 : decode cX9_takesItem 2 = .ok (.getfield 124, 3) := by decide +kernel
theorem dX9_takesItem_5 : decode cX9_takesItem 5 = .ok (.invokevirtual 130, 3) := by decide +kernel
theorem dX9_takesItem_8 : decode cX9_takesItem 8 = .ok (.istore_n 1, 1) := by decide +kernel
theorem dX9_takesItem_9 : decode cX9_takesItem 9 = .ok (.aload_n 0, 1) := by decide +kernel
theorem dX9_takesItem_10 : decode cX9_takesItem 10 = .ok (.dup, 1) := by decide +kernel
theorem dX9_takesItem_11 : decode cX9_takesItem 11 = .ok (.getfield 124, 3) := by decide +kernel
theorem dX9_takesItem_14 : decode cX9_takesItem 14 = .ok (.iconst 1, 1) := by decide +kernel
theorem dX9_takesItem_15 : decode cX9_takesItem 15 = .ok (.iadd, 1) := by decide +kernel
theorem dX9_takesItem_16 : decode cX9_takesItem 16 = .ok (.putfield 124, 3) := by decide +kernel
theorem dX9_takesItem_19 : decode cX9_takesItem 19 = .ok (.iload_n 1, 1) := by decide +kernel
theorem dX9_takesItem_20 : decode cX9_takesItem 20 = .ok (.bipush 103, 2) := by decide +kernel
theorem dX9_takesItem_22 : decode cX9_takesItem 22 = .ok (.if_icmp .ne 10, 3) := by decide +kernel
theorem dX9_takesItem_25 : decode cX9_takesItem 25 = .ok (.aload_n 0, 1) := by decide +kernel
theorem dX9_takesItem_26 : decode cX9_takesItem 26 = .ok (.invokevirtual 142, 3) := by decide +kernel
theorem dX9_takesItem_29 : decode cX9_takesItem 29 = .ok (.goto 34, 3) := by decide +kernel
theorem dX9_takesItem_32 : decode cX9_takesItem 32 = .ok (.iload_n 1, 1) := by decide +kernel
theorem dX9_takesItem_33 : decode cX9_takesItem 33 = .ok (.bipush 99, 2) := by decide +kernel
theorem dX9_takesItem_35 : decode cX9_takesItem 35 = .ok (.if_icmp .ne 10, 3) := by decide +kernel
theorem dX9_takesItem_38 : decode cX9_takesItem 38 = .ok (.aload_n 0, 1) := by decide +kernel
theorem dX9_takesItem_39 : decode cX9_takesItem 39 = .ok (.invokevirtual 146, 3) := by decide +kernel
theorem dX9_takesItem_42 : decode cX9_takesItem 42 = .ok (.goto 21, 3) := by decide +kernel
theorem dX9_takesItem_45 : decode cX9_takesItem 45 = .ok (.iload_n 1, 1) := by decide +kernel
theorem dX9_takesItem_46 : decode cX9_takesItem 46 = .ok (.bipush 102, 2) := by decide +kernel
theorem dX9_takesItem_48 : decode cX9_takesItem 48 = .ok (.if_icmp .ne 14, 3) := by decide +kernel
theorem dX9_takesItem_51 : decode cX9_takesItem 51 = .ok (.aload_n 0, 1) := by decide +kernel
theorem dX9_takesItem_52 : decode cX9_takesItem 52 = .ok (.invokevirtual 149, 3) := by decide +kernel
theorem dX9_takesItem_55 : decode cX9_takesItem 55 = .ok (.ifCond .eq 7, 3) := by decide +kernel
theorem dX9_takesItem_58 : decode cX9_takesItem 58 = .ok (.iconst 1, 1) := by decide +kernel
theorem dX9_takesItem_59 : decode cX9_takesItem 59 = .ok (.goto 4, 3) := by decide +kernel
theorem dX9_takesItem_62 : decode cX9_takesItem 62 = .ok (.iconst 0, 1) := by decide +kernel
theorem dX9_takesItem_63 : decode cX9_takesItem 63 = .ok (.ireturn, 1) := by decide +kernel
theorem dX9_faultOf_0 : decode cX9_faultOf 0 = .ok (.aload_n 0, 1) := by decide +kernel
theorem dX9_faultOf_1 : decode cX9_faultOf 1 = .ok (.iconst 4, 1) := by decide +kernel
theorem dX9_faultOf_2 : decode cX9_faultOf 2 = .ok (.putfield 64, 3) := by decide +kernel
theorem dX9_faultOf_5 : decode cX9_faultOf 5 = .ok (.aload_n 0, 1) := by decide +kernel
theorem dX9_faultOf_6 : decode cX9_faultOf 6 = .ok (.iconst 4, 1) := by decide +kernel
theorem dX9_faultOf_7 : decode cX9_faultOf 7 = .ok (.putfield 68, 3) := by decide +kernel
theorem dX9_faultOf_10 : decode cX9_faultOf 10 = .ok (.aload_n 0, 1) := by decide +kernel
theorem dX9_faultOf_11 : decode cX9_faultOf 11 = .ok (.iconst 0, 1) := by decide +kernel
theorem dX9_faultOf_12 : decode cX9_faultOf 12 = .ok (.putfield 102, 3) := by decide +kernel
theorem dX9_faultOf_15 : decode cX9_faultOf 15 = .ok (.aload_n 0, 1) := by decide +kernel
theorem dX9_faultOf_16 : decode cX9_faultOf 16 = .ok (.iconst 0, 1) := by decide +kernel
theorem dX9_faultOf_17 : decode cX9_faultOf 17 = .ok (.putfield 105, 3) := by decide +kernel
theorem dX9_faultOf_20 : decode cX9_faultOf 20 = .ok (.aload_n 0, 1) := by decide +kernel
theorem dX9_faultOf_21 : decode cX9_faultOf 21 = .ok (.iconst 0, 1) := by decide +kernel
theorem dX9_faultOf_22 : decode cX9_faultOf 22 = .ok (.putfield 124, 3) := by decide +kernel
theorem dX9_faultOf_25 : decode cX9_faultOf 25 = .ok (.aload_n 0, 1) := by decide +kernel
theorem dX9_faultOf_26 : decode cX9_faultOf 26 = .ok (.getfield 124, 3) := by decide +kernel
theorem dX9_faultOf_29 : decode cX9_faultOf 29 = .ok (.aload_n 0, 1) := by decide +kernel
theorem dX9_faultOf_30 : decode cX9_faultOf 30 = .ok (.getfield 121, 3) := by decide +kernel
theorem dX9_faultOf_33 : decode cX9_faultOf 33 = .ok (.if_icmp .ge 20, 3) := by decide +kernel
theorem dX9_faultOf_36 : decode cX9_faultOf 36 = .ok (.aload_n 0, 1) := by decide +kernel
theorem dX9_faultOf_37 : decode cX9_faultOf 37 = .ok (.getfield 124, 3) := by decide +kernel
theorem dX9_faultOf_40 : decode cX9_faultOf 40 = .ok (.istore_n 1, 1) := by decide +kernel
theorem dX9_faultOf_41 : decode cX9_faultOf 41 = .ok (.aload_n 0, 1) := by decide +kernel
theorem dX9_faultOf_42 : decode cX9_faultOf 42 = .ok (.invokevirtual 152, 3) := by decide +kernel
theorem dX9_faultOf_45 : decode cX9_faultOf 45 = .ok (.ifCond .ne 5, 3) := by decide +kernel
theorem dX9_faultOf_48 : decode cX9_faultOf 48 = .ok (.iload_n 1, 1) := by decide +kernel
theorem dX9_faultOf_49 : decode cX9_faultOf 49 = .ok (.ireturn, 1) := by decide +kernel
theorem dX9_faultOf_50 : decode cX9_faultOf 50 = .ok (.goto (-25), 3) := by decide +kernel
theorem dX9_faultOf_53 : decode cX9_faultOf 53 = .ok (.bipush (-4), 2) := by decide +kernel
theorem dX9_faultOf_55 : decode cX9_faultOf 55 = .ok (.ireturn, 1) := by decide +kernel
theorem dX9_fault_0 : decode cX9_fault 0 = .ok (.aload_n 0, 1) := by decide +kernel
theorem dX9_fault_1 : decode cX9_fault 1 = .ok (.invokevirtual 155, 3) := by decide +kernel
theorem dX9_fault_4 : decode cX9_fault 4 = .ok (.ireturn, 1) := by decide +kernel
theorem dX9_lay_0 : decode cX9_lay 0 = .ok (.aload_n 0, 1) := by decide +kernel
theorem dX9_lay_1 : decode cX9_lay 1 = .ok (.invokevirtual 155, 3) := by decide +kernel
theorem dX9_lay_4 : decode cX9_lay 4 = .ok (.bipush (-4), 2) := by decide +kernel
theorem dX9_lay_6 : decode cX9_lay 6 = .ok (.if_icmp .ne 17, 3) := by decide +kernel
theorem dX9_lay_9 : decode cX9_lay 9 = .ok (.aload_n 0, 1) := by decide +kernel
theorem dX9_lay_10 : decode cX9_lay 10 = .ok (.getfield 102, 3) := by decide +kernel
theorem dX9_lay_13 : decode cX9_lay 13 = .ok (.ifCond .eq 10, 3) := by decide +kernel
theorem dX9_lay_16 : decode cX9_lay 16 = .ok (.aload_n 0, 1) := by decide +kernel
theorem dX9_lay_17 : decode cX9_lay 17 = .ok (.getfield 105, 3) := by decide +kernel
theorem dX9_lay_20 : decode cX9_lay 20 = .ok (.ifCond .ne 6, 3) := by decide +kernel
theorem dX9_lay_23 : decode cX9_lay 23 = .ok (.bipush (-2), 2) := by decide +kernel
theorem dX9_lay_25 : decode cX9_lay 25 = .ok (.ireturn, 1) := by decide +kernel
theorem dX9_lay_26 : decode cX9_lay 26 = .ok (.aload_n 0, 1) := by decide +kernel
theorem dX9_lay_27 : decode cX9_lay 27 = .ok (.invokevirtual 79, 3) := by decide +kernel
theorem dX9_lay_30 : decode cX9_lay 30 = .ok (.aload_n 0, 1) := by decide +kernel
theorem dX9_lay_31 : decode cX9_lay 31 = .ok (.invokevirtual 88, 3) := by decide +kernel
theorem dX9_lay_34 : decode cX9_lay 34 = .ok (.ireturn, 1) := by decide +kernel
theorem dX9_farOf_0 : decode cX9_farOf 0 = .ok (.iload_n 1, 1) := by decide +kernel
theorem dX9_farOf_1 : decode cX9_farOf 1 = .ok (.aload_n 0, 1) := by decide +kernel
theorem dX9_farOf_2 : decode cX9_farOf 2 = .ok (.getfield 85, 3) := by decide +kernel
theorem dX9_farOf_5 : decode cX9_farOf 5 = .ok (.idiv, 1) := by decide +kernel
theorem dX9_farOf_6 : decode cX9_farOf 6 = .ok (.iload_n 2, 1) := by decide +kernel
theorem dX9_farOf_7 : decode cX9_farOf 7 = .ok (.aload_n 0, 1) := by decide +kernel
theorem dX9_farOf_8 : decode cX9_farOf 8 = .ok (.getfield 85, 3) := by decide +kernel
theorem dX9_farOf_11 : decode cX9_farOf 11 = .ok (.idiv, 1) := by decide +kernel
theorem dX9_farOf_12 : decode cX9_farOf 12 = .ok (.isub, 1) := by decide +kernel
theorem dX9_farOf_13 : decode cX9_farOf 13 = .ok (.istore_n 3, 1) := by decide +kernel
theorem dX9_farOf_14 : decode cX9_farOf 14 = .ok (.iload_n 1, 1) := by decide +kernel
theorem dX9_farOf_15 : decode cX9_farOf 15 = .ok (.aload_n 0, 1) := by decide +kernel
theorem dX9_farOf_16 : decode cX9_farOf 16 = .ok (.getfield 85, 3) := by decide +kernel
theorem dX9_farOf_19 : decode cX9_farOf 19 = .ok (.irem, 1) := by decide +kernel
theorem dX9_farOf_20 : decode cX9_farOf 20 = .ok (.iload_n 2, 1) := by decide +kernel
theorem dX9_farOf_21 : decode cX9_farOf 21 = .ok (.aload_n 0, 1) := by decide +kernel
theorem dX9_farOf_22 : decode cX9_farOf 22 = .ok (.getfield 85, 3) := by decide +kernel
theorem dX9_farOf_25 : decode cX9_farOf 25 = .ok (.irem, 1) := by decide +kernel
theorem dX9_farOf_26 : decode cX9_farOf 26 = .ok (.isub, 1) := by decide +kernel
theorem dX9_farOf_27 : decode cX9_farOf 27 = .ok (.istore 4, 2) := by decide +kernel
theorem dX9_farOf_29 : decode cX9_farOf 29 = .ok (.iload_n 3, 1) := by decide +kernel
theorem dX9_farOf_30 : decode cX9_farOf 30 = .ok (.ifCond .ge 8, 3) := by decide +kernel
theorem dX9_farOf_33 : decode cX9_farOf 33 = .ok (.iload_n 3, 1) := by decide +kernel
theorem dX9_farOf_34 : decode cX9_farOf 34 = .ok (.ineg, 1) := by decide +kernel
theorem dX9_farOf_35 : decode cX9_farOf 35 = .ok (.goto 4, 3) := by decide +kernel
theorem dX9_farOf_38 : decode cX9_farOf 38 = .ok (.iload_n 3, 1) := by decide +kernel
theorem dX9_farOf_39 : decode cX9_farOf 39 = .ok (.iload 4, 2) := by decide +kernel
theorem dX9_farOf_41 : decode cX9_farOf 41 = .ok (.ifCond .ge 9, 3) := by decide +kernel
theorem dX9_farOf_44 : decode cX9_farOf 44 = .ok (.iload 4, 2) := by decide +kernel
theorem dX9_farOf_46 : decode cX9_farOf 46 = .ok (.ineg, 1) := by decide +kernel
theorem dX9_farOf_47 : decode cX9_farOf 47 = .ok (.goto 5, 3) := by decide +kernel
theorem dX9_farOf_50 : decode cX9_farOf 50 = .ok (.iload 4, 2) := by decide +kernel
theorem dX9_farOf_52 : decode cX9_farOf 52 = .ok (.iadd, 1) := by decide +kernel
theorem dX9_farOf_53 : decode cX9_farOf 53 = .ok (.ireturn, 1) := by decide +kernel
theorem dX9_far_0 : decode cX9_far 0 = .ok (.aload_n 0, 1) := by decide +kernel
theorem dX9_far_1 : decode cX9_far 1 = .ok (.iload_n 1, 1) := by decide +kernel
theorem dX9_far_2 : decode cX9_far 2 = .ok (.invokevirtual 158, 3) := by decide +kernel
theorem dX9_far_5 : decode cX9_far 5 = .ok (.ifCond .eq 20, 3) := by decide +kernel
theorem dX9_far_8 : decode cX9_far 8 = .ok (.aload_n 0, 1) := by decide +kernel
theorem dX9_far_9 : decode cX9_far 9 = .ok (.iload_n 2, 1) := by decide +kernel
theorem dX9_far_10 : decode cX9_far 10 = .ok (.invokevirtual 158, 3) := by decide +kernel
theorem dX9_far_13 : decode cX9_far 13 = .ok (.ifCond .eq 12, 3) := by decide +kernel
theorem dX9_far_16 : decode cX9_far 16 = .ok (.aload_n 0, 1) := by decide +kernel
theorem dX9_far_17 : decode cX9_far 17 = .ok (.iload_n 1, 1) := by decide +kernel
theorem dX9_far_18 : decode cX9_far 18 = .ok (.iload_n 2, 1) := by decide +kernel
theorem dX9_far_19 : decode cX9_far 19 = .ok (.invokevirtual 162, 3) := by decide +kernel
theorem dX9_far_22 : decode cX9_far 22 = .ok (.goto 4, 3) := by decide +kernel
theorem dX9_far_25 : decode cX9_far 25 = .ok (.iconst (-1), 1) := by decide +kernel
theorem dX9_far_26 : decode cX9_far 26 = .ok (.ireturn, 1) := by decide +kernel
theorem dX9_cab_0 : decode cX9_cab 0 = .ok (.aload_n 0, 1) := by decide +kernel
theorem dX9_cab_1 : decode cX9_cab 1 = .ok (.iload_n 1, 1) := by decide +kernel
theorem dX9_cab_2 : decode cX9_cab 2 = .ok (.invokevirtual 166, 3) := by decide +kernel
theorem dX9_cab_5 : decode cX9_cab 5 = .ok (.ifCond .ne 5, 3) := by decide +kernel
theorem dX9_cab_8 : decode cX9_cab 8 = .ok (.iconst (-1), 1) := by decide +kernel
theorem dX9_cab_9 : decode cX9_cab 9 = .ok (.ireturn, 1) := by decide +kernel
theorem dX9_cab_10 : decode cX9_cab 10 = .ok (.iload_n 2, 1) := by decide +kernel
theorem dX9_cab_11 : decode cX9_cab 11 = .ok (.tableswitch 64 0 3 #[29, 36, 45, 54], 29) := by decide +kernel
theorem dX9_cab_40 : decode cX9_cab 40 = .ok (.aload_n 0, 1) := by decide +kernel
theorem dX9_cab_41 : decode cX9_cab 41 = .ok (.getfield 13, 3) := by decide +kernel
theorem dX9_cab_44 : decode cX9_cab 44 = .ok (.iload_n 1, 1) := by decide +kernel
theorem dX9_cab_45 : decode cX9_cab 45 = .ok (.iaload, 1) := by decide +kernel
theorem dX9_cab_46 : decode cX9_cab 46 = .ok (.ireturn, 1) := by decide +kernel
theorem dX9_cab_47 : decode cX9_cab 47 = .ok (.aload_n 0, 1) := by decide +kernel
theorem dX9_cab_48 : decode cX9_cab 48 = .ok (.getfield 7, 3) := by decide +kernel
theorem dX9_cab_51 : decode cX9_cab 51 = .ok (.iconst 1, 1) := by decide +kernel
theorem dX9_cab_52 : decode cX9_cab 52 = .ok (.iload_n 1, 1) := by decide +kernel
theorem dX9_cab_53 : decode cX9_cab 53 = .ok (.iadd, 1) := by decide +kernel
theorem dX9_cab_54 : decode cX9_cab 54 = .ok (.iaload, 1) := by decide +kernel
theorem dX9_cab_55 : decode cX9_cab 55 = .ok (.ireturn, 1) := by decide +kernel
theorem dX9_cab_56 : decode cX9_cab 56 = .ok (.aload_n 0, 1) := by decide +kernel
theorem dX9_cab_57 : decode cX9_cab 57 = .ok (.getfield 7, 3) := by decide +kernel
theorem dX9_cab_60 : decode cX9_cab 60 = .ok (.iconst 4, 1) := by decide +kernel
theorem dX9_cab_61 : decode cX9_cab 61 = .ok (.iload_n 1, 1) := by decide +kernel
theorem dX9_cab_62 : decode cX9_cab 62 = .ok (.iadd, 1) := by decide +kernel
theorem dX9_cab_63 : decode cX9_cab 63 = .ok (.iaload, 1) := by decide +kernel
theorem dX9_cab_64 : decode cX9_cab 64 = .ok (.ireturn, 1) := by decide +kernel
theorem dX9_cab_65 : decode cX9_cab 65 = .ok (.aload_n 0, 1) := by decide +kernel
theorem dX9_cab_66 : decode cX9_cab 66 = .ok (.getfield 7, 3) := by decide +kernel
theorem dX9_cab_69 : decode cX9_cab 69 = .ok (.bipush 7, 2) := by decide +kernel
theorem dX9_cab_71 : decode cX9_cab 71 = .ok (.iload_n 1, 1) := by decide +kernel
theorem dX9_cab_72 : decode cX9_cab 72 = .ok (.iadd, 1) := by decide +kernel
theorem dX9_cab_73 : decode cX9_cab 73 = .ok (.iaload, 1) := by decide +kernel
theorem dX9_cab_74 : decode cX9_cab 74 = .ok (.ireturn, 1) := by decide +kernel
theorem dX9_cab_75 : decode cX9_cab 75 = .ok (.iconst (-1), 1) := by decide +kernel
theorem dX9_cab_76 : decode cX9_cab 76 = .ok (.ireturn, 1) := by decide +kernel
theorem dX9_fare_0 : decode cX9_fare 0 = .ok (.aload_n 0, 1) := by decide +kernel
theorem dX9_fare_1 : decode cX9_fare 1 = .ok (.iload_n 1, 1) := by decide +kernel
theorem dX9_fare_2 : decode cX9_fare 2 = .ok (.invokevirtual 169, 3) := by decide +kernel
theorem dX9_fare_5 : decode cX9_fare 5 = .ok (.ifCond .ne 5, 3) := by decide +kernel
theorem dX9_fare_8 : decode cX9_fare 8 = .ok (.iconst (-1), 1) := by decide +kernel
theorem dX9_fare_9 : decode cX9_fare 9 = .ok (.ireturn, 1) := by decide +kernel
theorem dX9_fare_10 : decode cX9_fare 10 = .ok (.iload_n 2, 1) := by decide +kernel
theorem dX9_fare_11 : decode cX9_fare 11 = .ok (.tableswitch 114 0 7 #[45, 52, 59, 66, 73, 80, 92, 102], 45) := by decide +kernel
theorem dX9_fare_56 : decode cX9_fare 56 = .ok (.aload_n 0, 1) := by decide +kernel
theorem dX9_fare_57 : decode cX9_fare 57 = .ok (.getfield 16, 3) := by decide +kernel
theorem dX9_fare_60 : decode cX9_fare 60 = .ok (.iload_n 1, 1) := by decide +kernel
theorem dX9_fare_61 : decode cX9_fare 61 = .ok (.iaload, 1) := by decide +kernel
theorem dX9_fare_62 : decode cX9_fare 62 = .ok (.ireturn, 1) := by decide +kernel
theorem dX9_fare_63 : decode cX9_fare 63 = .ok (.aload_n 0, 1) := by decide +kernel
theorem dX9_fare_64 : decode cX9_fare 64 = .ok (.getfield 19, 3) := by decide +kernel
theorem dX9_fare_67 : decode cX9_fare 67 = .ok (.iload_n 1, 1) := by decide +kernel
theorem dX9_fare_68 : decode cX9_fare 68 = .ok (.iaload, 1) := by decide +kernel
theorem dX9_fare_69 : decode cX9_fare 69 = .ok (.ireturn, 1) := by decide +kernel
theorem dX9_fare_70 : decode cX9_fare 70 = .ok (.aload_n 0, 1) := by decide +kernel
theorem dX9_fare_71 : decode cX9_fare 71 = .ok (.getfield 22, 3) := by decide +kernel
theorem dX9_fare_74 : decode cX9_fare 74 = .ok (.iload_n 1, 1) := by decide +kernel
theorem dX9_fare_75 : decode cX9_fare 75 = .ok (.iaload, 1) := by decide +kernel
theorem dX9_fare_76 : decode cX9_fare 76 = .ok (.ireturn, 1) := by decide +kernel
theorem dX9_fare_77 : decode cX9_fare 77 = .ok (.aload_n 0, 1) := by decide +kernel
theorem dX9_fare_78 : decode cX9_fare 78 = .ok (.getfield 25, 3) := by decide +kernel
theorem dX9_fare_81 : decode cX9_fare 81 = .ok (.iload_n 1, 1) := by decide +kernel
theorem dX9_fare_82 : decode cX9_fare 82 = .ok (.iaload, 1) := by decide +kernel
theorem dX9_fare_83 : decode cX9_fare 83 = .ok (.ireturn, 1) := by decide +kernel
theorem dX9_fare_84 : decode cX9_fare 84 = .ok (.aload_n 0, 1) := by decide +kernel
theorem dX9_fare_85 : decode cX9_fare 85 = .ok (.getfield 28, 3) := by decide +kernel
theorem dX9_fare_88 : decode cX9_fare 88 = .ok (.iload_n 1, 1) := by decide +kernel
theorem dX9_fare_89 : decode cX9_fare 89 = .ok (.iaload, 1) := by decide +kernel
theorem dX9_fare_90 : decode cX9_fare 90 = .ok (.ireturn, 1) := by decide +kernel
theorem dX9_fare_91 : decode cX9_fare 91 = .ok (.aload_n 0, 1) := by decide +kernel
theorem dX9_fare_92 : decode cX9_fare 92 = .ok (.getfield 7, 3) := by decide +kernel
theorem dX9_fare_95 : decode cX9_fare 95 = .ok (.bipush 10, 2) := by decide +kernel
theorem dX9_fare_97 : decode cX9_fare 97 = .ok (.iaload, 1) := by decide +kernel
theorem dX9_fare_98 : decode cX9_fare 98 = .ok (.iload_n 1, 1) := by decide +kernel
theorem dX9_fare_99 : decode cX9_fare 99 = .ok (.ishr, 1) := by decide +kernel
theorem dX9_fare_100 : decode cX9_fare 100 = .ok (.iconst 1, 1) := by decide +kernel
theorem dX9_fare_101 : decode cX9_fare 101 = .ok (.iand, 1) := by decide +kernel
theorem dX9_fare_102 : decode cX9_fare 102 = .ok (.ireturn, 1) := by decide +kernel
theorem dX9_fare_103 : decode cX9_fare 103 = .ok (.aload_n 0, 1) := by decide +kernel
theorem dX9_fare_104 : decode cX9_fare 104 = .ok (.getfield 7, 3) := by decide +kernel
theorem dX9_fare_107 : decode cX9_fare 107 = .ok (.bipush 11, 2) := by decide +kernel
theorem dX9_fare_109 : decode cX9_fare 109 = .ok (.iload_n 1, 1) := by decide +kernel
theorem dX9_fare_110 : decode cX9_fare 110 = .ok (.iadd, 1) := by decide +kernel
theorem dX9_fare_111 : decode cX9_fare 111 = .ok (.iaload, 1) := by decide +kernel
theorem dX9_fare_112 : decode cX9_fare 112 = .ok (.ireturn, 1) := by decide +kernel
theorem dX9_fare_113 : decode cX9_fare 113 = .ok (.aload_n 0, 1) := by decide +kernel
theorem dX9_fare_114 : decode cX9_fare 114 = .ok (.getfield 7, 3) := by decide +kernel
theorem dX9_fare_117 : decode cX9_fare 117 = .ok (.bipush 18, 2) := by decide +kernel
theorem dX9_fare_119 : decode cX9_fare 119 = .ok (.iaload, 1) := by decide +kernel
theorem dX9_fare_120 : decode cX9_fare 120 = .ok (.iload_n 1, 1) := by decide +kernel
theorem dX9_fare_121 : decode cX9_fare 121 = .ok (.ishr, 1) := by decide +kernel
theorem dX9_fare_122 : decode cX9_fare 122 = .ok (.iconst 1, 1) := by decide +kernel
theorem dX9_fare_123 : decode cX9_fare 123 = .ok (.iand, 1) := by decide +kernel
theorem dX9_fare_124 : decode cX9_fare 124 = .ok (.ireturn, 1) := by decide +kernel
theorem dX9_fare_125 : decode cX9_fare 125 = .ok (.iconst (-1), 1) := by decide +kernel
theorem dX9_fare_126 : decode cX9_fare 126 = .ok (.ireturn, 1) := by decide +kernel
theorem dX9_goesBy_0 : decode cX9_goesBy 0 = .ok (.aload_n 0, 1) := by decide +kernel
theorem dX9_goesBy_1 : decode cX9_goesBy 1 = .ok (.getfield 7, 3) := by decide +kernel
theorem dX9_goesBy_4 : decode cX9_goesBy 4 = .ok (.iload_n 1, 1) := by decide +kernel
theorem dX9_goesBy_5 : decode cX9_goesBy 5 = .ok (.bipush 7, 2) := by decide +kernel
theorem dX9_goesBy_7 : decode cX9_goesBy 7 = .ok (.iadd, 1) := by decide +kernel
theorem dX9_goesBy_8 : decode cX9_goesBy 8 = .ok (.iload_n 2, 1) := by decide +kernel
theorem dX9_goesBy_9 : decode cX9_goesBy 9 = .ok (.iadd, 1) := by decide +kernel
theorem dX9_goesBy_10 : decode cX9_goesBy 10 = .ok (.iaload, 1) := by decide +kernel
theorem dX9_goesBy_11 : decode cX9_goesBy 11 = .ok (.istore 4, 2) := by decide +kernel
theorem dX9_goesBy_13 : decode cX9_goesBy 13 = .ok (.iload 4, 2) := by decide +kernel
theorem dX9_goesBy_15 : decode cX9_goesBy 15 = .ok (.bipush (-4), 2) := by decide +kernel
theorem dX9_goesBy_17 : decode cX9_goesBy 17 = .ok (.if_icmp .eq 33, 3) := by decide +kernel
theorem dX9_goesBy_20 : decode cX9_goesBy 20 = .ok (.aload_n 0, 1) := by decide +kernel
theorem dX9_goesBy_21 : decode cX9_goesBy 21 = .ok (.getfield 13, 3) := by decide +kernel
theorem dX9_goesBy_24 : decode cX9_goesBy 24 = .ok (.iload_n 2, 1) := by decide +kernel
theorem dX9_goesBy_25 : decode cX9_goesBy 25 = .ok (.iaload, 1) := by decide +kernel
theorem dX9_goesBy_26 : decode cX9_goesBy 26 = .ok (.iconst 2, 1) := by decide +kernel
theorem dX9_goesBy_27 : decode cX9_goesBy 27 = .ok (.if_icmp .ne 19, 3) := by decide +kernel
theorem dX9_goesBy_30 : decode cX9_goesBy 30 = .ok (.aload_n 0, 1) := by decide +kernel
theorem dX9_goesBy_31 : decode cX9_goesBy 31 = .ok (.iload 4, 2) := by decide +kernel
theorem dX9_goesBy_33 : decode cX9_goesBy 33 = .ok (.aload_n 0, 1) := by decide +kernel
theorem dX9_goesBy_34 : decode cX9_goesBy 34 = .ok (.getfield 19, 3) := by decide +kernel
theorem dX9_goesBy_37 : decode cX9_goesBy 37 = .ok (.iload_n 3, 1) := by decide +kernel
theorem dX9_goesBy_38 : decode cX9_goesBy 38 = .ok (.iaload, 1) := by decide +kernel
theorem dX9_goesBy_39 : decode cX9_goesBy 39 = .ok (.invokevirtual 162, 3) := by decide +kernel
theorem dX9_goesBy_42 : decode cX9_goesBy 42 = .ok (.iconst 3, 1) := by decide +kernel
theorem dX9_goesBy_43 : decode cX9_goesBy 43 = .ok (.if_icmp .gt 7, 3) := by decide +kernel
theorem dX9_goesBy_46 : decode cX9_goesBy 46 = .ok (.iconst 1, 1) := by decide +kernel
theorem dX9_goesBy_47 : decode cX9_goesBy 47 = .ok (.goto 4, 3) := by decide +kernel
theorem dX9_goesBy_50 : decode cX9_goesBy 50 = .ok (.iconst 0, 1) := by decide +kernel
theorem dX9_goesBy_51 : decode cX9_goesBy 51 = .ok (.ireturn, 1) := by decide +kernel
theorem dX9_setsOut_0 : decode cX9_setsOut 0 = .ok (.aload_n 0, 1) := by decide +kernel
theorem dX9_setsOut_1 : decode cX9_setsOut 1 = .ok (.getfield 7, 3) := by decide +kernel
theorem dX9_setsOut_4 : decode cX9_setsOut 4 = .ok (.iload_n 1, 1) := by decide +kernel
theorem dX9_setsOut_5 : decode cX9_setsOut 5 = .ok (.iconst 0, 1) := by decide +kernel
theorem dX9_setsOut_6 : decode cX9_setsOut 6 = .ok (.iadd, 1) := by decide +kernel
theorem dX9_setsOut_7 : decode cX9_setsOut 7 = .ok (.iaload, 1) := by decide +kernel
theorem dX9_setsOut_8 : decode cX9_setsOut 8 = .ok (.aload_n 0, 1) := by decide +kernel
theorem dX9_setsOut_9 : decode cX9_setsOut 9 = .ok (.getfield 7, 3) := by decide +kernel
theorem dX9_setsOut_12 : decode cX9_setsOut 12 = .ok (.iload_n 1, 1) := by decide +kernel
theorem dX9_setsOut_13 : decode cX9_setsOut 13 = .ok (.iconst 4, 1) := by decide +kernel
theorem dX9_setsOut_14 : decode cX9_setsOut 14 = .ok (.iadd, 1) := by decide +kernel
theorem dX9_setsOut_15 : decode cX9_setsOut 15 = .ok (.iload_n 2, 1) := by decide +kernel
theorem dX9_setsOut_16 : decode cX9_setsOut 16 = .ok (.iadd, 1) := by decide +kernel
theorem dX9_setsOut_17 : decode cX9_setsOut 17 = .ok (.iaload, 1) := by decide +kernel
theorem dX9_setsOut_18 : decode cX9_setsOut 18 = .ok (.if_icmp .le 14, 3) := by decide +kernel
theorem dX9_setsOut_21 : decode cX9_setsOut 21 = .ok (.aload_n 0, 1) := by decide +kernel
theorem dX9_setsOut_22 : decode cX9_setsOut 22 = .ok (.getfield 7, 3) := by decide +kernel
theorem dX9_setsOut_25 : decode cX9_setsOut 25 = .ok (.iload_n 1, 1) := by decide +kernel
theorem dX9_setsOut_26 : decode cX9_setsOut 26 = .ok (.iconst 0, 1) := by decide +kernel
theorem dX9_setsOut_27 : decode cX9_setsOut 27 = .ok (.iadd, 1) := by decide +kernel
theorem dX9_setsOut_28 : decode cX9_setsOut 28 = .ok (.iaload, 1) := by decide +kernel
theorem dX9_setsOut_29 : decode cX9_setsOut 29 = .ok (.goto 13, 3) := by decide +kernel
theorem dX9_setsOut_32 : decode cX9_setsOut 32 = .ok (.aload_n 0, 1) := by decide +kernel
theorem dX9_setsOut_33 : decode cX9_setsOut 33 = .ok (.getfield 7, 3) := by decide +kernel
theorem dX9_setsOut_36 : decode cX9_setsOut 36 = .ok (.iload_n 1, 1) := by decide +kernel
theorem dX9_setsOut_37 : decode cX9_setsOut 37 = .ok (.iconst 4, 1) := by decide +kernel
theorem dX9_setsOut_38 : decode cX9_setsOut 38 = .ok (.iadd, 1) := by decide +kernel
theorem dX9_setsOut_39 : decode cX9_setsOut 39 = .ok (.iload_n 2, 1) := by decide +kernel
theorem dX9_setsOut_40 : decode cX9_setsOut 40 = .ok (.iadd, 1) := by decide +kernel
theorem dX9_setsOut_41 : decode cX9_setsOut 41 = .ok (.iaload, 1) := by decide +kernel
theorem dX9_setsOut_42 : decode cX9_setsOut 42 = .ok (.ireturn, 1) := by decide +kernel
theorem dX9_freeBy_0 : decode cX9_freeBy 0 = .ok (.aload_n 0, 1) := by decide +kernel
theorem dX9_freeBy_1 : decode cX9_freeBy 1 = .ok (.iload_n 1, 1) := by decide +kernel
theorem dX9_freeBy_2 : decode cX9_freeBy 2 = .ok (.iload_n 2, 1) := by decide +kernel
theorem dX9_freeBy_3 : decode cX9_freeBy 3 = .ok (.invokevirtual 172, 3) := by decide +kernel
theorem dX9_freeBy_6 : decode cX9_freeBy 6 = .ok (.aload_n 0, 1) := by decide +kernel
theorem dX9_freeBy_7 : decode cX9_freeBy 7 = .ok (.getfield 25, 3) := by decide +kernel
theorem dX9_freeBy_10 : decode cX9_freeBy 10 = .ok (.iload_n 3, 1) := by decide +kernel
theorem dX9_freeBy_11 : decode cX9_freeBy 11 = .ok (.iaload, 1) := by decide +kernel
theorem dX9_freeBy_12 : decode cX9_freeBy 12 = .ok (.if_icmp .le 12, 3) := by decide +kernel
theorem dX9_freeBy_15 : decode cX9_freeBy 15 = .ok (.aload_n 0, 1) := by decide +kernel
theorem dX9_freeBy_16 : decode cX9_freeBy 16 = .ok (.iload_n 1, 1) := by decide +kernel
theorem dX9_freeBy_17 : decode cX9_freeBy 17 = .ok (.iload_n 2, 1) := by decide +kernel
theorem dX9_freeBy_18 : decode cX9_freeBy 18 = .ok (.invokevirtual 172, 3) := by decide +kernel
theorem dX9_freeBy_21 : decode cX9_freeBy 21 = .ok (.goto 9, 3) := by decide +kernel
theorem dX9_freeBy_24 : decode cX9_freeBy 24 = .ok (.aload_n 0, 1) := by decide +kernel
theorem dX9_freeBy_25 : decode cX9_freeBy 25 = .ok (.getfield 25, 3) := by decide +kernel
theorem dX9_freeBy_28 : decode cX9_freeBy 28 = .ok (.iload_n 3, 1) := by decide +kernel
theorem dX9_freeBy_29 : decode cX9_freeBy 29 = .ok (.iaload, 1) := by decide +kernel
theorem dX9_freeBy_30 : decode cX9_freeBy 30 = .ok (.istore 4, 2) := by decide +kernel
theorem dX9_freeBy_32 : decode cX9_freeBy 32 = .ok (.aload_n 0, 1) := by decide +kernel
theorem dX9_freeBy_33 : decode cX9_freeBy 33 = .ok (.getfield 7, 3) := by decide +kernel
theorem dX9_freeBy_36 : decode cX9_freeBy 36 = .ok (.iload_n 1, 1) := by decide +kernel
theorem dX9_freeBy_37 : decode cX9_freeBy 37 = .ok (.bipush 7, 2) := by decide +kernel
theorem dX9_freeBy_39 : decode cX9_freeBy 39 = .ok (.iadd, 1) := by decide +kernel
theorem dX9_freeBy_40 : decode cX9_freeBy 40 = .ok (.iload_n 2, 1) := by decide +kernel
theorem dX9_freeBy_41 : decode cX9_freeBy 41 = .ok (.iadd, 1) := by decide +kernel
theorem dX9_freeBy_42 : decode cX9_freeBy 42 = .ok (.iaload, 1) := by decide +kernel
theorem dX9_freeBy_43 : decode cX9_freeBy 43 = .ok (.istore 5, 2) := by decide +kernel
theorem dX9_freeBy_45 : decode cX9_freeBy 45 = .ok (.aload_n 0, 1) := by decide +kernel
theorem dX9_freeBy_46 : decode cX9_freeBy 46 = .ok (.iload_n 1, 1) := by decide +kernel
theorem dX9_freeBy_47 : decode cX9_freeBy 47 = .ok (.iload_n 2, 1) := by decide +kernel
theorem dX9_freeBy_48 : decode cX9_freeBy 48 = .ok (.iload_n 3, 1) := by decide +kernel
theorem dX9_freeBy_49 : decode cX9_freeBy 49 = .ok (.invokevirtual 175, 3) := by decide +kernel
theorem dX9_freeBy_52 : decode cX9_freeBy 52 = .ok (.ifCond .eq 47, 3) := by decide +kernel
theorem dX9_freeBy_55 : decode cX9_freeBy 55 = .ok (.aload_n 0, 1) := by decide +kernel
theorem dX9_freeBy_56 : decode cX9_freeBy 56 = .ok (.aload_n 0, 1) := by decide +kernel
theorem dX9_freeBy_57 : decode cX9_freeBy 57 = .ok (.getfield 19, 3) := by decide +kernel
theorem dX9_freeBy_60 : decode cX9_freeBy 60 = .ok (.iload_n 3, 1) := by decide +kernel
theorem dX9_freeBy_61 : decode cX9_freeBy 61 = .ok (.iaload, 1) := by decide +kernel
theorem dX9_freeBy_62 : decode cX9_freeBy 62 = .ok (.iload 5, 2) := by decide +kernel
theorem dX9_freeBy_64 : decode cX9_freeBy 64 = .ok (.invokevirtual 162, 3) := by decide +kernel
theorem dX9_freeBy_67 : decode cX9_freeBy 67 = .ok (.aload_n 0, 1) := by decide +kernel
theorem dX9_freeBy_68 : decode cX9_freeBy 68 = .ok (.getfield 13, 3) := by decide +kernel
theorem dX9_freeBy_71 : decode cX9_freeBy 71 = .ok (.iload_n 2, 1) := by decide +kernel
theorem dX9_freeBy_72 : decode cX9_freeBy 72 = .ok (.iaload, 1) := by decide +kernel
theorem dX9_freeBy_73 : decode cX9_freeBy 73 = .ok (.iconst 1, 1) := by decide +kernel
theorem dX9_freeBy_74 : decode cX9_freeBy 74 = .ok (.if_icmp .ne 7, 3) := by decide +kernel
theorem dX9_freeBy_77 : decode cX9_freeBy 77 = .ok (.iconst 3, 1) := by decide +kernel
theorem dX9_freeBy_78 : decode cX9_freeBy 78 = .ok (.goto 4, 3) := by decide +kernel
theorem dX9_freeBy_81 : decode cX9_freeBy 81 = .ok (.iconst 1, 1) := by decide +kernel
theorem dX9_freeBy_82 : decode cX9_freeBy 82 = .ok (.iadd, 1) := by decide +kernel
theorem dX9_freeBy_83 : decode cX9_freeBy 83 = .ok (.aload_n 0, 1) := by decide +kernel
theorem dX9_freeBy_84 : decode cX9_freeBy 84 = .ok (.iload 5, 2) := by decide +kernel
theorem dX9_freeBy_86 : decode cX9_freeBy 86 = .ok (.aload_n 0, 1) := by decide +kernel
theorem dX9_freeBy_87 : decode cX9_freeBy 87 = .ok (.getfield 22, 3) := by decide +kernel
theorem dX9_freeBy_90 : decode cX9_freeBy 90 = .ok (.iload_n 3, 1) := by decide +kernel
theorem dX9_freeBy_91 : decode cX9_freeBy 91 = .ok (.iaload, 1) := by decide +kernel
theorem dX9_freeBy_92 : decode cX9_freeBy 92 = .ok (.invokevirtual 162, 3) := by decide +kernel
theorem dX9_freeBy_95 : decode cX9_freeBy 95 = .ok (.iadd, 1) := by decide +kernel
theorem dX9_freeBy_96 : decode cX9_freeBy 96 = .ok (.goto 19, 3) := by decide +kernel
theorem dX9_freeBy_99 : decode cX9_freeBy 99 = .ok (.aload_n 0, 1) := by decide +kernel
theorem dX9_freeBy_100 : decode cX9_freeBy 100 = .ok (.aload_n 0, 1) := by decide +kernel
theorem dX9_freeBy_101 : decode cX9_freeBy 101 = .ok (.getfield 19, 3) := by decide +kernel
theorem dX9_freeBy_104 : decode cX9_freeBy 104 = .ok (.iload_n 3, 1) := by decide +kernel
theorem dX9_freeBy_105 : decode cX9_freeBy 105 = .ok (.iaload, 1) := by decide +kernel
theorem dX9_freeBy_106 : decode cX9_freeBy 106 = .ok (.aload_n 0, 1) := by decide +kernel
theorem dX9_freeBy_107 : decode cX9_freeBy 107 = .ok (.getfield 22, 3) := by decide +kernel
theorem dX9_freeBy_110 : decode cX9_freeBy 110 = .ok (.iload_n 3, 1) := by decide +kernel
theorem dX9_freeBy_111 : decode cX9_freeBy 111 = .ok (.iaload, 1) := by decide +kernel
theorem dX9_freeBy_112 : decode cX9_freeBy 112 = .ok (.invokevirtual 162, 3) := by decide +kernel
theorem dX9_freeBy_115 : decode cX9_freeBy 115 = .ok (.istore 6, 2) := by decide +kernel
theorem dX9_freeBy_117 : decode cX9_freeBy 117 = .ok (.iload 4, 2) := by decide +kernel
theorem dX9_freeBy_119 : decode cX9_freeBy 119 = .ok (.aload_n 0, 1) := by decide +kernel
theorem dX9_freeBy_120 : decode cX9_freeBy 120 = .ok (.aload_n 0, 1) := by decide +kernel
theorem dX9_freeBy_121 : decode cX9_freeBy 121 = .ok (.getfield 7, 3) := by decide +kernel
theorem dX9_freeBy_124 : decode cX9_freeBy 124 = .ok (.iload_n 1, 1) := by decide +kernel
theorem dX9_freeBy_125 : decode cX9_freeBy 125 = .ok (.iconst 1, 1) := by decide +kernel
theorem dX9_freeBy_126 : decode cX9_freeBy 126 = .ok (.iadd, 1) := by decide +kernel
theorem dX9_freeBy_127 : decode cX9_freeBy 127 = .ok (.iload_n 2, 1) := by decide +kernel
theorem dX9_freeBy_128 : decode cX9_freeBy 128 = .ok (.iadd, 1) := by decide +kernel
theorem dX9_freeBy_129 : decode cX9_freeBy 129 = .ok (.iaload, 1) := by decide +kernel
theorem dX9_freeBy_130 : decode cX9_freeBy 130 = .ok (.aload_n 0, 1) := by decide +kernel
theorem dX9_freeBy_131 : decode cX9_freeBy 131 = .ok (.getfield 19, 3) := by decide +kernel
theorem dX9_freeBy_134 : decode cX9_freeBy 134 = .ok (.iload_n 3, 1) := by decide +kernel
theorem dX9_freeBy_135 : decode cX9_freeBy 135 = .ok (.iaload, 1) := by decide +kernel
theorem dX9_freeBy_136 : decode cX9_freeBy 136 = .ok (.invokevirtual 162, 3) := by decide +kernel
theorem dX9_freeBy_139 : decode cX9_freeBy 139 = .ok (.iadd, 1) := by decide +kernel
theorem dX9_freeBy_140 : decode cX9_freeBy 140 = .ok (.iload 6, 2) := by decide +kernel
theorem dX9_freeBy_142 : decode cX9_freeBy 142 = .ok (.iadd, 1) := by decide +kernel
theorem dX9_freeBy_143 : decode cX9_freeBy 143 = .ok (.ireturn, 1) := by decide +kernel
theorem dX9_lateBy_0 : decode cX9_lateBy 0 = .ok (.aload_n 0, 1) := by decide +kernel
theorem dX9_lateBy_1 : decode cX9_lateBy 1 = .ok (.iload_n 1, 1) := by decide +kernel
theorem dX9_lateBy_2 : decode cX9_lateBy 2 = .ok (.iload_n 2, 1) := by decide +kernel
theorem dX9_lateBy_3 : decode cX9_lateBy 3 = .ok (.iload_n 3, 1) := by decide +kernel
theorem dX9_lateBy_4 : decode cX9_lateBy 4 = .ok (.invokevirtual 178, 3) := by decide +kernel
theorem dX9_lateBy_7 : decode cX9_lateBy 7 = .ok (.aload_n 0, 1) := by decide +kernel
theorem dX9_lateBy_8 : decode cX9_lateBy 8 = .ok (.getfield 25, 3) := by decide +kernel
theorem dX9_lateBy_11 : decode cX9_lateBy 11 = .ok (.iload_n 3, 1) := by decide +kernel
theorem dX9_lateBy_12 : decode cX9_lateBy 12 = .ok (.iaload, 1) := by decide +kernel
theorem dX9_lateBy_13 : decode cX9_lateBy 13 = .ok (.isub, 1) := by decide +kernel
theorem dX9_lateBy_14 : decode cX9_lateBy 14 = .ok (.ireturn, 1) := by decide +kernel
theorem dX9_weeps_0 : decode cX9_weeps 0 = .ok (.aload_n 0, 1) := by decide +kernel
theorem dX9_weeps_1 : decode cX9_weeps 1 = .ok (.getfield 16, 3) := by decide +kernel
theorem dX9_weeps_4 : decode cX9_weeps 4 = .ok (.iload_n 1, 1) := by decide +kernel
theorem dX9_weeps_5 : decode cX9_weeps 5 = .ok (.iaload, 1) := by decide +kernel
theorem dX9_weeps_6 : decode cX9_weeps 6 = .ok (.iconst 1, 1) := by decide +kernel
theorem dX9_weeps_7 : decode cX9_weeps 7 = .ok (.if_icmp .eq 22, 3) := by decide +kernel
theorem dX9_weeps_10 : decode cX9_weeps 10 = .ok (.aload_n 0, 1) := by decide +kernel
theorem dX9_weeps_11 : decode cX9_weeps 11 = .ok (.getfield 16, 3) := by decide +kernel
theorem dX9_weeps_14 : decode cX9_weeps 14 = .ok (.iload_n 1, 1) := by decide +kernel
theorem dX9_weeps_15 : decode cX9_weeps 15 = .ok (.iaload, 1) := by decide +kernel
theorem dX9_weeps_16 : decode cX9_weeps 16 = .ok (.ifCond .ne 17, 3) := by decide +kernel
theorem dX9_weeps_19 : decode cX9_weeps 19 = .ok (.iload_n 2, 1) := by decide +kernel
theorem dX9_weeps_20 : decode cX9_weeps 20 = .ok (.aload_n 0, 1) := by decide +kernel
theorem dX9_weeps_21 : decode cX9_weeps 21 = .ok (.getfield 28, 3) := by decide +kernel
theorem dX9_weeps_24 : decode cX9_weeps 24 = .ok (.iload_n 1, 1) := by decide +kernel
theorem dX9_weeps_25 : decode cX9_weeps 25 = .ok (.iaload, 1) := by decide +kernel
theorem dX9_weeps_26 : decode cX9_weeps 26 = .ok (.if_icmp .le 7, 3) := by decide +kernel
theorem dX9_weeps_29 : decode cX9_weeps 29 = .ok (.iconst 1, 1) := by decide +kernel
theorem dX9_weeps_30 : decode cX9_weeps 30 = .ok (.goto 4, 3) := by decide +kernel
theorem dX9_weeps_33 : decode cX9_weeps 33 = .ok (.iconst 0, 1) := by decide +kernel
theorem dX9_weeps_34 : decode cX9_weeps 34 = .ok (.ireturn, 1) := by decide +kernel
theorem dX9_rides_0 : decode cX9_rides 0 = .ok (.aload_n 0, 1) := by decide +kernel
theorem dX9_rides_1 : decode cX9_rides 1 = .ok (.iload_n 1, 1) := by decide +kernel
theorem dX9_rides_2 : decode cX9_rides 2 = .ok (.iload_n 2, 1) := by decide +kernel
theorem dX9_rides_3 : decode cX9_rides 3 = .ok (.iload_n 3, 1) := by decide +kernel
theorem dX9_rides_4 : decode cX9_rides 4 = .ok (.invokevirtual 175, 3) := by decide +kernel
theorem dX9_rides_7 : decode cX9_rides 7 = .ok (.istore 5, 2) := by decide +kernel
theorem dX9_rides_9 : decode cX9_rides 9 = .ok (.aload_n 0, 1) := by decide +kernel
theorem dX9_rides_10 : decode cX9_rides 10 = .ok (.iload_n 1, 1) := by decide +kernel
theorem dX9_rides_11 : decode cX9_rides 11 = .ok (.iload_n 2, 1) := by decide +kernel
theorem dX9_rides_12 : decode cX9_rides 12 = .ok (.iload_n 3, 1) := by decide +kernel
theorem dX9_rides_13 : decode cX9_rides 13 = .ok (.invokevirtual 178, 3) := by decide +kernel
theorem dX9_rides_16 : decode cX9_rides 16 = .ok (.istore 6, 2) := by decide +kernel
theorem dX9_rides_18 : decode cX9_rides 18 = .ok (.aload_n 0, 1) := by decide +kernel
theorem dX9_rides_19 : decode cX9_rides 19 = .ok (.getfield 7, 3) := by decide +kernel
theorem dX9_rides_22 : decode cX9_rides 22 = .ok (.iload_n 1, 1) := by decide +kernel
theorem dX9_rides_23 : decode cX9_rides 23 = .ok (.bipush 11, 2) := by decide +kernel
theorem dX9_rides_25 : decode cX9_rides 25 = .ok (.iadd, 1) := by decide +kernel
theorem dX9_rides_26 : decode cX9_rides 26 = .ok (.iload_n 3, 1) := by decide +kernel
theorem dX9_rides_27 : decode cX9_rides 27 = .ok (.iadd, 1) := by decide +kernel
theorem dX9_rides_28 : decode cX9_rides 28 = .ok (.iload 6, 2) := by decide +kernel
theorem dX9_rides_30 : decode cX9_rides 30 = .ok (.aload_n 0, 1) := by decide +kernel
theorem dX9_rides_31 : decode cX9_rides 31 = .ok (.getfield 25, 3) := by decide +kernel
theorem dX9_rides_34 : decode cX9_rides 34 = .ok (.iload_n 3, 1) := by decide +kernel
theorem dX9_rides_35 : decode cX9_rides 35 = .ok (.iaload, 1) := by decide +kernel
theorem dX9_rides_36 : decode cX9_rides 36 = .ok (.isub, 1) := by decide +kernel
theorem dX9_rides_37 : decode cX9_rides 37 = .ok (.iastore, 1) := by decide +kernel
theorem dX9_rides_38 : decode cX9_rides 38 = .ok (.aload_n 0, 1) := by decide +kernel
theorem dX9_rides_39 : decode cX9_rides 39 = .ok (.getfield 7, 3) := by decide +kernel
theorem dX9_rides_42 : decode cX9_rides 42 = .ok (.iload_n 1, 1) := by decide +kernel
theorem dX9_rides_43 : decode cX9_rides 43 = .ok (.bipush 10, 2) := by decide +kernel
theorem dX9_rides_45 : decode cX9_rides 45 = .ok (.iadd, 1) := by decide +kernel
theorem dX9_rides_46 : decode cX9_rides 46 = .ok (.dup2, 1) := by decide +kernel
theorem dX9_rides_47 : decode cX9_rides 47 = .ok (.iaload, 1) := by decide +kernel
theorem dX9_rides_48 : decode cX9_rides 48 = .ok (.iconst 1, 1) := by decide +kernel
theorem dX9_rides_49 : decode cX9_rides 49 = .ok (.iload_n 3, 1) := by decide +kernel
theorem dX9_rides_50 : decode cX9_rides 50 = .ok (.ishl, 1) := by decide +kernel
theorem dX9_rides_51 : decode cX9_rides 51 = .ok (.ior, 1) := by decide +kernel
theorem dX9_rides_52 : decode cX9_rides 52 = .ok (.iastore, 1) := by decide +kernel
theorem dX9_rides_53 : decode cX9_rides 53 = .ok (.aload_n 0, 1) := by decide +kernel
theorem dX9_rides_54 : decode cX9_rides 54 = .ok (.getfield 7, 3) := by decide +kernel
theorem dX9_rides_57 : decode cX9_rides 57 = .ok (.iload_n 1, 1) := by decide +kernel
theorem dX9_rides_58 : decode cX9_rides 58 = .ok (.bipush 18, 2) := by decide +kernel
theorem dX9_rides_60 : decode cX9_rides 60 = .ok (.iadd, 1) := by decide +kernel
theorem dX9_rides_61 : decode cX9_rides 61 = .ok (.dup2, 1) := by decide +kernel
theorem dX9_rides_62 : decode cX9_rides 62 = .ok (.iaload, 1) := by decide +kernel
theorem dX9_rides_63 : decode cX9_rides 63 = .ok (.iload 4, 2) := by decide +kernel
theorem dX9_rides_65 : decode cX9_rides 65 = .ok (.ifCond .eq 9, 3) := by decide +kernel
theorem dX9_rides_68 : decode cX9_rides 68 = .ok (.iconst 1, 1) := by decide +kernel
theorem dX9_rides_69 : decode cX9_rides 69 = .ok (.iload_n 3, 1) := by decide +kernel
theorem dX9_rides_70 : decode cX9_rides 70 = .ok (.ishl, 1) := by decide +kernel
theorem dX9_rides_71 : decode cX9_rides 71 = .ok (.goto 4, 3) := by decide +kernel
theorem dX9_rides_74 : decode cX9_rides 74 = .ok (.iconst 0, 1) := by decide +kernel
theorem dX9_rides_75 : decode cX9_rides 75 = .ok (.ior, 1) := by decide +kernel
theorem dX9_rides_76 : decode cX9_rides 76 = .ok (.iastore, 1) := by decide +kernel
theorem dX9_rides_77 : decode cX9_rides 77 = .ok (.aload_n 0, 1) := by decide +kernel
theorem dX9_rides_78 : decode cX9_rides 78 = .ok (.getfield 7, 3) := by decide +kernel
theorem dX9_rides_81 : decode cX9_rides 81 = .ok (.iload_n 1, 1) := by decide +kernel
theorem dX9_rides_82 : decode cX9_rides 82 = .ok (.bipush 7, 2) := by decide +kernel
theorem dX9_rides_84 : decode cX9_rides 84 = .ok (.iadd, 1) := by decide +kernel
theorem dX9_rides_85 : decode cX9_rides 85 = .ok (.iload_n 2, 1) := by decide +kernel
theorem dX9_rides_86 : decode cX9_rides 86 = .ok (.iadd, 1) := by decide +kernel
theorem dX9_rides_87 : decode cX9_rides 87 = .ok (.aload_n 0, 1) := by decide +kernel
theorem dX9_rides_88 : decode cX9_rides 88 = .ok (.getfield 16, 3) := by decide +kernel
theorem dX9_rides_91 : decode cX9_rides 91 = .ok (.iload_n 3, 1) := by decide +kernel
theorem dX9_rides_92 : decode cX9_rides 92 = .ok (.iaload, 1) := by decide +kernel
theorem dX9_rides_93 : decode cX9_rides 93 = .ok (.iconst 3, 1) := by decide +kernel
theorem dX9_rides_94 : decode cX9_rides 94 = .ok (.if_icmp .ne 13, 3) := by decide +kernel
theorem dX9_rides_97 : decode cX9_rides 97 = .ok (.iload 5, 2) := by decide +kernel
theorem dX9_rides_99 : decode cX9_rides 99 = .ok (.ifCond .eq 8, 3) := by decide +kernel
theorem dX9_rides_102 : decode cX9_rides 102 = .ok (.bipush (-4), 2) := by decide +kernel
theorem dX9_rides_104 : decode cX9_rides 104 = .ok (.goto 28, 3) := by decide +kernel
theorem dX9_rides_107 : decode cX9_rides 107 = .ok (.iload 4, 2) := by decide +kernel
theorem dX9_rides_109 : decode cX9_rides 109 = .ok (.ifCond .eq 12, 3) := by decide +kernel
theorem dX9_rides_112 : decode cX9_rides 112 = .ok (.aload_n 0, 1) := by decide +kernel
theorem dX9_rides_113 : decode cX9_rides 113 = .ok (.getfield 22, 3) := by decide +kernel
theorem dX9_rides_116 : decode cX9_rides 116 = .ok (.iload_n 3, 1) := by decide +kernel
theorem dX9_rides_117 : decode cX9_rides 117 = .ok (.iaload, 1) := by decide +kernel
theorem dX9_rides_118 : decode cX9_rides 118 = .ok (.goto 14, 3) := by decide +kernel
theorem dX9_rides_121 : decode cX9_rides 121 = .ok (.aload_n 0, 1) := by decide +kernel
theorem dX9_rides_122 : decode cX9_rides 122 = .ok (.getfield 7, 3) := by decide +kernel
theorem dX9_rides_125 : decode cX9_rides 125 = .ok (.iload_n 1, 1) := by decide +kernel
theorem dX9_rides_126 : decode cX9_rides 126 = .ok (.bipush 7, 2) := by decide +kernel
theorem dX9_rides_128 : decode cX9_rides 128 = .ok (.iadd, 1) := by decide +kernel
theorem dX9_rides_129 : decode cX9_rides 129 = .ok (.iload_n 2, 1) := by decide +kernel
theorem dX9_rides_130 : decode cX9_rides 130 = .ok (.iadd, 1) := by decide +kernel
theorem dX9_rides_131 : decode cX9_rides 131 = .ok (.iaload, 1) := by decide +kernel
theorem dX9_rides_132 : decode cX9_rides 132 = .ok (.iastore, 1) := by decide +kernel
theorem dX9_rides_133 : decode cX9_rides 133 = .ok (.aload_n 0, 1) := by decide +kernel
theorem dX9_rides_134 : decode cX9_rides 134 = .ok (.getfield 7, 3) := by decide +kernel
theorem dX9_rides_137 : decode cX9_rides 137 = .ok (.iload_n 1, 1) := by decide +kernel
theorem dX9_rides_138 : decode cX9_rides 138 = .ok (.iconst 1, 1) := by decide +kernel
theorem dX9_rides_139 : decode cX9_rides 139 = .ok (.iadd, 1) := by decide +kernel
theorem dX9_rides_140 : decode cX9_rides 140 = .ok (.iload_n 2, 1) := by decide +kernel
theorem dX9_rides_141 : decode cX9_rides 141 = .ok (.iadd, 1) := by decide +kernel
theorem dX9_rides_142 : decode cX9_rides 142 = .ok (.aload_n 0, 1) := by decide +kernel
theorem dX9_rides_143 : decode cX9_rides 143 = .ok (.getfield 22, 3) := by decide +kernel
theorem dX9_rides_146 : decode cX9_rides 146 = .ok (.iload_n 3, 1) := by decide +kernel
theorem dX9_rides_147 : decode cX9_rides 147 = .ok (.iaload, 1) := by decide +kernel
theorem dX9_rides_148 : decode cX9_rides 148 = .ok (.iastore, 1) := by decide +kernel
theorem dX9_rides_149 : decode cX9_rides 149 = .ok (.aload_n 0, 1) := by decide +kernel
theorem dX9_rides_150 : decode cX9_rides 150 = .ok (.getfield 7, 3) := by decide +kernel
theorem dX9_rides_153 : decode cX9_rides 153 = .ok (.iload_n 1, 1) := by decide +kernel
theorem dX9_rides_154 : decode cX9_rides 154 = .ok (.iconst 4, 1) := by decide +kernel
theorem dX9_rides_155 : decode cX9_rides 155 = .ok (.iadd, 1) := by decide +kernel
theorem dX9_rides_156 : decode cX9_rides 156 = .ok (.iload_n 2, 1) := by decide +kernel
theorem dX9_rides_157 : decode cX9_rides 157 = .ok (.iadd, 1) := by decide +kernel
theorem dX9_rides_158 : decode cX9_rides 158 = .ok (.iload 6, 2) := by decide +kernel
theorem dX9_rides_160 : decode cX9_rides 160 = .ok (.iastore, 1) := by decide +kernel
theorem dX9_rides_161 : decode cX9_rides 161 = .ok (.return_, 1) := by decide +kernel
theorem dX9_ridesAsOneDoes_0 : decode cX9_ridesAsOneDoes 0 = .ok (.aload_n 0, 1) := by decide +kernel
theorem dX9_ridesAsOneDoes_1 : decode cX9_ridesAsOneDoes 1 = .ok (.iload_n 3, 1) := by decide +kernel
theorem dX9_ridesAsOneDoes_2 : decode cX9_ridesAsOneDoes 2 = .ok (.aload_n 0, 1) := by decide +kernel
theorem dX9_ridesAsOneDoes_3 : decode cX9_ridesAsOneDoes 3 = .ok (.iload_n 1, 1) := by decide +kernel
theorem dX9_ridesAsOneDoes_4 : decode cX9_ridesAsOneDoes 4 = .ok (.iload_n 2, 1) := by decide +kernel
theorem dX9_ridesAsOneDoes_5 : decode cX9_ridesAsOneDoes 5 = .ok (.iload_n 3, 1) := by decide +kernel
theorem dX9_ridesAsOneDoes_6 : decode cX9_ridesAsOneDoes 6 = .ok (.invokevirtual 182, 3) := by decide +kernel
theorem dX9_ridesAsOneDoes_9 : decode cX9_ridesAsOneDoes 9 = .ok (.invokevirtual 185, 3) := by decide +kernel
theorem dX9_ridesAsOneDoes_12 : decode cX9_ridesAsOneDoes 12 = .ok (.istore 4, 2) := by decide +kernel
theorem dX9_ridesAsOneDoes_14 : decode cX9_ridesAsOneDoes 14 = .ok (.aload_n 0, 1) := by decide +kernel
theorem dX9_ridesAsOneDoes_15 : decode cX9_ridesAsOneDoes 15 = .ok (.iload_n 1, 1) := by decide +kernel
theorem dX9_ridesAsOneDoes_16 : decode cX9_ridesAsOneDoes 16 = .ok (.iload_n 2, 1) := by decide +kernel
theorem dX9_ridesAsOneDoes_17 : decode cX9_ridesAsOneDoes 17 = .ok (.iload_n 3, 1) := by decide +kernel
theorem dX9_ridesAsOneDoes_18 : decode cX9_ridesAsOneDoes 18 = .ok (.iload 4, 2) := by decide +kernel
theorem dX9_ridesAsOneDoes_20 : decode cX9_ridesAsOneDoes 20 = .ok (.invokevirtual 189, 3) := by decide +kernel
theorem dX9_ridesAsOneDoes_23 : decode cX9_ridesAsOneDoes 23 = .ok (.iload 4, 2) := by decide +kernel
theorem dX9_ridesAsOneDoes_25 : decode cX9_ridesAsOneDoes 25 = .ok (.ireturn, 1) := by decide +kernel
theorem dX9_soonestIn_0 : decode cX9_soonestIn 0 = .ok (.iconst 0, 1) := by decide +kernel
theorem dX9_soonestIn_1 : decode cX9_soonestIn 1 = .ok (.istore_n 3, 1) := by decide +kernel
theorem dX9_soonestIn_2 : decode cX9_soonestIn 2 = .ok (.iconst 1, 1) := by decide +kernel
theorem dX9_soonestIn_3 : decode cX9_soonestIn 3 = .ok (.istore 4, 2) := by decide +kernel
theorem dX9_soonestIn_5 : decode cX9_soonestIn 5 = .ok (.iload 4, 2) := by decide +kernel
theorem dX9_soonestIn_7 : decode cX9_soonestIn 7 = .ok (.aload_n 0, 1) := by decide +kernel
theorem dX9_soonestIn_8 : decode cX9_soonestIn 8 = .ok (.getfield 96, 3) := by decide +kernel
theorem dX9_soonestIn_11 : decode cX9_soonestIn 11 = .ok (.if_icmp .ge 34, 3) := by decide +kernel
theorem dX9_soonestIn_14 : decode cX9_soonestIn 14 = .ok (.aload_n 0, 1) := by decide +kernel
theorem dX9_soonestIn_15 : decode cX9_soonestIn 15 = .ok (.iload_n 1, 1) := by decide +kernel
theorem dX9_soonestIn_16 : decode cX9_soonestIn 16 = .ok (.iload 4, 2) := by decide +kernel
theorem dX9_soonestIn_18 : decode cX9_soonestIn 18 = .ok (.iload_n 2, 1) := by decide +kernel
theorem dX9_soonestIn_19 : decode cX9_soonestIn 19 = .ok (.invokevirtual 182, 3) := by decide +kernel
theorem dX9_soonestIn_22 : decode cX9_soonestIn 22 = .ok (.aload_n 0, 1) := by decide +kernel
theorem dX9_soonestIn_23 : decode cX9_soonestIn 23 = .ok (.iload_n 1, 1) := by decide +kernel
theorem dX9_soonestIn_24 : decode cX9_soonestIn 24 = .ok (.iload_n 3, 1) := by decide +kernel
theorem dX9_soonestIn_25 : decode cX9_soonestIn 25 = .ok (.iload_n 2, 1) := by decide +kernel
theorem dX9_soonestIn_26 : decode cX9_soonestIn 26 = .ok (.invokevirtual 182, 3) := by decide +kernel
theorem dX9_soonestIn_29 : decode cX9_soonestIn 29 = .ok (.if_icmp .ge 8, 3) := by decide +kernel
theorem dX9_soonestIn_32 : decode cX9_soonestIn 32 = .ok (.iload 4, 2) := by decide +kernel
theorem dX9_soonestIn_34 : decode cX9_soonestIn 34 = .ok (.goto 4, 3) := by decide +kernel
theorem dX9_soonestIn_37 : decode cX9_soonestIn 37 = .ok (.iload_n 3, 1) := by decide +kernel
theorem dX9_soonestIn_38 : decode cX9_soonestIn 38 = .ok (.istore_n 3, 1) := by decide +kernel
theorem dX9_soonestIn_39 : decode cX9_soonestIn 39 = .ok (.iinc 4 1, 3) := by decide +kernel
theorem dX9_soonestIn_42 : decode cX9_soonestIn 42 = .ok (.goto (-37), 3) := by decide +kernel
theorem dX9_soonestIn_45 : decode cX9_soonestIn 45 = .ok (.iload_n 3, 1) := by decide +kernel
theorem dX9_soonestIn_46 : decode cX9_soonestIn 46 = .ok (.ireturn, 1) := by decide +kernel
theorem dX9_minds_0 : decode cX9_minds 0 = .ok (.aload_n 0, 1) := by decide +kernel
theorem dX9_minds_1 : decode cX9_minds 1 = .ok (.getfield 108, 3) := by decide +kernel
theorem dX9_minds_4 : decode cX9_minds 4 = .ok (.bipush 8, 2) := by decide +kernel
theorem dX9_minds_6 : decode cX9_minds 6 = .ok (.if_icmp .ne 49, 3) := by decide +kernel
theorem dX9_minds_9 : decode cX9_minds 9 = .ok (.iconst 0, 1) := by decide +kernel
theorem dX9_minds_10 : decode cX9_minds 10 = .ok (.istore_n 1, 1) := by decide +kernel
theorem dX9_minds_11 : decode cX9_minds 11 = .ok (.iload_n 1, 1) := by decide +kernel
theorem dX9_minds_12 : decode cX9_minds 12 = .ok (.sipush 133, 3) := by decide +kernel
theorem dX9_minds_15 : decode cX9_minds 15 = .ok (.if_icmp .ge 30, 3) := by decide +kernel
theorem dX9_minds_18 : decode cX9_minds 18 = .ok (.aload_n 0, 1) := by decide +kernel
theorem dX9_minds_19 : decode cX9_minds 19 = .ok (.getfield 7, 3) := by decide +kernel
theorem dX9_minds_22 : decode cX9_minds 22 = .ok (.bipush 76, 2) := by decide +kernel
theorem dX9_minds_24 : decode cX9_minds 24 = .ok (.iload_n 1, 1) := by decide +kernel
theorem dX9_minds_25 : decode cX9_minds 25 = .ok (.iadd, 1) := by decide +kernel
theorem dX9_minds_26 : decode cX9_minds 26 = .ok (.aload_n 0, 1) := by decide +kernel
theorem dX9_minds_27 : decode cX9_minds 27 = .ok (.getfield 7, 3) := by decide +kernel
theorem dX9_minds_30 : decode cX9_minds 30 = .ok (.bipush 76, 2) := by decide +kernel
theorem dX9_minds_32 : decode cX9_minds 32 = .ok (.iload_n 1, 1) := by decide +kernel
theorem dX9_minds_33 : decode cX9_minds 33 = .ok (.iadd, 1) := by decide +kernel
theorem dX9_minds_34 : decode cX9_minds 34 = .ok (.bipush 19, 2) := by decide +kernel
theorem dX9_minds_36 : decode cX9_minds 36 = .ok (.iadd, 1) := by decide +kernel
theorem dX9_minds_37 : decode cX9_minds 37 = .ok (.iaload, 1) := by decide +kernel
theorem dX9_minds_38 : decode cX9_minds 38 = .ok (.iastore, 1) := by decide +kernel
theorem dX9_minds_39 : decode cX9_minds 39 = .ok (.iinc 1 1, 3) := by decide +kernel
theorem dX9_minds_42 : decode cX9_minds 42 = .ok (.goto (-31), 3) := by decide +kernel
theorem dX9_minds_45 : decode cX9_minds 45 = .ok (.aload_n 0, 1) := by decide +kernel
theorem dX9_minds_46 : decode cX9_minds 46 = .ok (.dup, 1) := by decide +kernel
theorem dX9_minds_47 : decode cX9_minds 47 = .ok (.getfield 108, 3) := by decide +kernel
theorem dX9_minds_50 : decode cX9_minds 50 = .ok (.iconst 1, 1) := by decide +kernel
theorem dX9_minds_51 : decode cX9_minds 51 = .ok (.isub, 1) := by decide +kernel
theorem dX9_minds_52 : decode cX9_minds 52 = .ok (.putfield 108, 3) := by decide +kernel
theorem dX9_minds_55 : decode cX9_minds 55 = .ok (.aload_n 0, 1) := by decide +kernel
theorem dX9_minds_56 : decode cX9_minds 56 = .ok (.iconst 0, 1) := by decide +kernel
theorem dX9_minds_57 : decode cX9_minds 57 = .ok (.bipush 76, 2) := by decide +kernel
theorem dX9_minds_59 : decode cX9_minds 59 = .ok (.bipush 19, 2) := by decide +kernel
theorem dX9_minds_61 : decode cX9_minds 61 = .ok (.aload_n 0, 1) := by decide +kernel
theorem dX9_minds_62 : decode cX9_minds 62 = .ok (.getfield 108, 3) := by decide +kernel
theorem dX9_minds_65 : decode cX9_minds 65 = .ok (.imul, 1) := by decide +kernel
theorem dX9_minds_66 : decode cX9_minds 66 = .ok (.iadd, 1) := by decide +kernel
theorem dX9_minds_67 : decode cX9_minds 67 = .ok (.invokevirtual 193, 3) := by decide +kernel
theorem dX9_minds_70 : decode cX9_minds 70 = .ok (.aload_n 0, 1) := by decide +kernel
theorem dX9_minds_71 : decode cX9_minds 71 = .ok (.dup, 1) := by decide +kernel
theorem dX9_minds_72 : decode cX9_minds 72 = .ok (.getfield 108, 3) := by decide +kernel
theorem dX9_minds_75 : decode cX9_minds 75 = .ok (.iconst 1, 1) := by decide +kernel
theorem dX9_minds_76 : decode cX9_minds 76 = .ok (.iadd, 1) := by decide +kernel
theorem dX9_minds_77 : decode cX9_minds 77 = .ok (.putfield 108, 3) := by decide +kernel
theorem dX9_minds_80 : decode cX9_minds 80 = .ok (.return_, 1) := by decide +kernel
theorem dX9_take_0 : decode cX9_take 0 = .ok (.aload_n 0, 1) := by decide +kernel
theorem dX9_take_1 : decode cX9_take 1 = .ok (.iload_n 1, 1) := by decide +kernel
theorem dX9_take_2 : decode cX9_take 2 = .ok (.invokevirtual 166, 3) := by decide +kernel
theorem dX9_take_5 : decode cX9_take 5 = .ok (.ifCond .eq 11, 3) := by decide +kernel
theorem dX9_take_8 : decode cX9_take 8 = .ok (.aload_n 0, 1) := by decide +kernel
theorem dX9_take_9 : decode cX9_take 9 = .ok (.iload_n 2, 1) := by decide +kernel
theorem dX9_take_10 : decode cX9_take 10 = .ok (.invokevirtual 169, 3) := by decide +kernel
theorem dX9_take_13 : decode cX9_take 13 = .ok (.ifCond .ne 5, 3) := by decide +kernel
theorem dX9_take_16 : decode cX9_take 16 = .ok (.iconst (-1), 1) := by decide +kernel
theorem dX9_take_17 : decode cX9_take 17 = .ok (.ireturn, 1) := by decide +kernel
theorem dX9_take_18 : decode cX9_take 18 = .ok (.aload_n 0, 1) := by decide +kernel
theorem dX9_take_19 : decode cX9_take 19 = .ok (.getfield 7, 3) := by decide +kernel
theorem dX9_take_22 : decode cX9_take 22 = .ok (.bipush 10, 2) := by decide +kernel
theorem dX9_take_24 : decode cX9_take 24 = .ok (.iaload, 1) := by decide +kernel
theorem dX9_take_25 : decode cX9_take 25 = .ok (.iload_n 2, 1) := by decide +kernel
theorem dX9_take_26 : decode cX9_take 26 = .ok (.invokestatic 197, 3) := by decide +kernel
theorem dX9_take_29 : decode cX9_take 29 = .ok (.ifCond .eq 6, 3) := by decide +kernel
theorem dX9_take_32 : decode cX9_take 32 = .ok (.bipush (-2), 2) := by decide +kernel
theorem dX9_take_34 : decode cX9_take 34 = .ok (.ireturn, 1) := by decide +kernel
theorem dX9_take_35 : decode cX9_take 35 = .ok (.aload_n 0, 1) := by decide +kernel
theorem dX9_take_36 : decode cX9_take 36 = .ok (.invokevirtual 200, 3) := by decide +kernel
theorem dX9_take_39 : decode cX9_take 39 = .ok (.aload_n 0, 1) := by decide +kernel
theorem dX9_take_40 : decode cX9_take 40 = .ok (.iconst 0, 1) := by decide +kernel
theorem dX9_take_41 : decode cX9_take 41 = .ok (.iload_n 1, 1) := by decide +kernel
theorem dX9_take_42 : decode cX9_take 42 = .ok (.iload_n 2, 1) := by decide +kernel
theorem dX9_take_43 : decode cX9_take 43 = .ok (.invokevirtual 203, 3) := by decide +kernel
theorem dX9_take_46 : decode cX9_take 46 = .ok (.pop, 1) := by decide +kernel
theorem dX9_take_47 : decode cX9_take 47 = .ok (.aload_n 0, 1) := by decide +kernel
theorem dX9_take_48 : decode cX9_take 48 = .ok (.getfield 7, 3) := by decide +kernel
theorem dX9_take_51 : decode cX9_take 51 = .ok (.bipush 11, 2) := by decide +kernel
theorem dX9_take_53 : decode cX9_take 53 = .ok (.iload_n 2, 1) := by decide +kernel
theorem dX9_take_54 : decode cX9_take 54 = .ok (.iadd, 1) := by decide +kernel
theorem dX9_take_55 : decode cX9_take 55 = .ok (.iaload, 1) := by decide +kernel
theorem dX9_take_56 : decode cX9_take 56 = .ok (.ireturn, 1) := by decide +kernel
theorem dX9_sends_0 : decode cX9_sends 0 = .ok (.aload_n 0, 1) := by decide +kernel
theorem dX9_sends_1 : decode cX9_sends 1 = .ok (.getfield 7, 3) := by decide +kernel
theorem dX9_sends_4 : decode cX9_sends 4 = .ok (.iload_n 1, 1) := by decide +kernel
theorem dX9_sends_5 : decode cX9_sends 5 = .ok (.iconst 4, 1) := by decide +kernel
theorem dX9_sends_6 : decode cX9_sends 6 = .ok (.iadd, 1) := by decide +kernel
theorem dX9_sends_7 : decode cX9_sends 7 = .ok (.iload_n 2, 1) := by decide +kernel
theorem dX9_sends_8 : decode cX9_sends 8 = .ok (.iadd, 1) := by decide +kernel
theorem dX9_sends_9 : decode cX9_sends 9 = .ok (.aload_n 0, 1) := by decide +kernel
theorem dX9_sends_10 : decode cX9_sends 10 = .ok (.iload_n 1, 1) := by decide +kernel
theorem dX9_sends_11 : decode cX9_sends 11 = .ok (.iload_n 2, 1) := by decide +kernel
theorem dX9_sends_12 : decode cX9_sends 12 = .ok (.invokevirtual 172, 3) := by decide +kernel
theorem dX9_sends_15 : decode cX9_sends 15 = .ok (.aload_n 0, 1) := by decide +kernel
theorem dX9_sends_16 : decode cX9_sends 16 = .ok (.aload_n 0, 1) := by decide +kernel
theorem dX9_sends_17 : decode cX9_sends 17 = .ok (.getfield 7, 3) := by decide +kernel
theorem dX9_sends_20 : decode cX9_sends 20 = .ok (.iload_n 1, 1) := by decide +kernel
theorem dX9_sends_21 : decode cX9_sends 21 = .ok (.iconst 1, 1) := by decide +kernel
theorem dX9_sends_22 : decode cX9_sends 22 = .ok (.iadd, 1) := by decide +kernel
theorem dX9_sends_23 : decode cX9_sends 23 = .ok (.iload_n 2, 1) := by decide +kernel
theorem dX9_sends_24 : decode cX9_sends 24 = .ok (.iadd, 1) := by decide +kernel
theorem dX9_sends_25 : decode cX9_sends 25 = .ok (.iaload, 1) := by decide +kernel
theorem dX9_sends_26 : decode cX9_sends 26 = .ok (.iload_n 3, 1) := by decide +kernel
theorem dX9_sends_27 : decode cX9_sends 27 = .ok (.invokevirtual 162, 3) := by decide +kernel
theorem dX9_sends_30 : decode cX9_sends 30 = .ok (.iadd, 1) := by decide +kernel
theorem dX9_sends_31 : decode cX9_sends 31 = .ok (.iastore, 1) := by decide +kernel
theorem dX9_sends_32 : decode cX9_sends 32 = .ok (.aload_n 0, 1) := by decide +kernel
theorem dX9_sends_33 : decode cX9_sends 33 = .ok (.getfield 7, 3) := by decide +kernel
theorem dX9_sends_36 : decode cX9_sends 36 = .ok (.iload_n 1, 1) := by decide +kernel
theorem dX9_sends_37 : decode cX9_sends 37 = .ok (.iconst 1, 1) := by decide +kernel
theorem dX9_sends_38 : decode cX9_sends 38 = .ok (.iadd, 1) := by decide +kernel
theorem dX9_sends_39 : decode cX9_sends 39 = .ok (.iload_n 2, 1) := by decide +kernel
theorem dX9_sends_40 : decode cX9_sends 40 = .ok (.iadd, 1) := by decide +kernel
theorem dX9_sends_41 : decode cX9_sends 41 = .ok (.iload_n 3, 1) := by decide +kernel
theorem dX9_sends_42 : decode cX9_sends 42 = .ok (.iastore, 1) := by decide +kernel
theorem dX9_sends_43 : decode cX9_sends 43 = .ok (.return_, 1) := by decide +kernel
theorem dX9_send_0 : decode cX9_send 0 = .ok (.aload_n 0, 1) := by decide +kernel
theorem dX9_send_1 : decode cX9_send 1 = .ok (.iload_n 1, 1) := by decide +kernel
theorem dX9_send_2 : decode cX9_send 2 = .ok (.invokevirtual 166, 3) := by decide +kernel
theorem dX9_send_5 : decode cX9_send 5 = .ok (.ifCond .eq 11, 3) := by decide +kernel
theorem dX9_send_8 : decode cX9_send 8 = .ok (.aload_n 0, 1) := by decide +kernel
theorem dX9_send_9 : decode cX9_send 9 = .ok (.iload_n 2, 1) := by decide +kernel
theorem dX9_send_10 : decode cX9_send 10 = .ok (.invokevirtual 158, 3) := by decide +kernel
theorem dX9_send_13 : decode cX9_send 13 = .ok (.ifCond .ne 5, 3) := by decide +kernel
theorem dX9_send_16 : decode cX9_send 16 = .ok (.iconst (-1), 1) := by decide +kernel
theorem dX9_send_17 : decode cX9_send 17 = .ok (.ireturn, 1) := by decide +kernel
theorem dX9_send_18 : decode cX9_send 18 = .ok (.aload_n 0, 1) := by decide +kernel
theorem dX9_send_19 : decode cX9_send 19 = .ok (.invokevirtual 200, 3) := by decide +kernel
theorem dX9_send_22 : decode cX9_send 22 = .ok (.aload_n 0, 1) := by decide +kernel
theorem dX9_send_23 : decode cX9_send 23 = .ok (.iconst 0, 1) := by decide +kernel
theorem dX9_send_24 : decode cX9_send 24 = .ok (.iload_n 1, 1) := by decide +kernel
theorem dX9_send_25 : decode cX9_send 25 = .ok (.iload_n 2, 1) := by decide +kernel
theorem dX9_send_26 : decode cX9_send 26 = .ok (.invokevirtual 206, 3) := by decide +kernel
theorem dX9_send_29 : decode cX9_send 29 = .ok (.aload_n 0, 1) := by decide +kernel
theorem dX9_send_30 : decode cX9_send 30 = .ok (.getfield 7, 3) := by decide +kernel
theorem dX9_send_33 : decode cX9_send 33 = .ok (.iconst 4, 1) := by decide +kernel
theorem dX9_send_34 : decode cX9_send 34 = .ok (.iload_n 1, 1) := by decide +kernel
theorem dX9_send_35 : decode cX9_send 35 = .ok (.iadd, 1) := by decide +kernel
theorem dX9_send_36 : decode cX9_send 36 = .ok (.iaload, 1) := by decide +kernel
theorem dX9_send_37 : decode cX9_send 37 = .ok (.ireturn, 1) := by decide +kernel
theorem dX9_pass_0 : decode cX9_pass 0 = .ok (.iload_n 1, 1) := by decide +kernel
theorem dX9_pass_1 : decode cX9_pass 1 = .ok (.i2l, 1) := by decide +kernel
theorem dX9_pass_2 : decode cX9_pass 2 = .ok (.lconst 1, 1) := by decide +kernel
theorem dX9_pass_3 : decode cX9_pass 3 = .ok (.ldc2_w 209, 3) := by decide +kernel
theorem dX9_pass_6 : decode cX9_pass 6 = .ok (.invokestatic 92, 3) := by decide +kernel
theorem dX9_pass_9 : decode cX9_pass 9 = .ok (.ifCond .ne 5, 3) := by decide +kernel
theorem dX9_pass_12 : decode cX9_pass 12 = .ok (.iconst (-1), 1) := by decide +kernel
theorem dX9_pass_13 : decode cX9_pass 13 = .ok (.ireturn, 1) := by decide +kernel
theorem dX9_pass_14 : decode cX9_pass 14 = .ok (.aload_n 0, 1) := by decide +kernel
theorem dX9_pass_15 : decode cX9_pass 15 = .ok (.invokevirtual 200, 3) := by decide +kernel
theorem dX9_pass_18 : decode cX9_pass 18 = .ok (.aload_n 0, 1) := by decide +kernel
theorem dX9_pass_19 : decode cX9_pass 19 = .ok (.getfield 7, 3) := by decide +kernel
theorem dX9_pass_22 : decode cX9_pass 22 = .ok (.iconst 0, 1) := by decide +kernel
theorem dX9_pass_23 : decode cX9_pass 23 = .ok (.dup2, 1) := by decide +kernel
theorem dX9_pass_24 : decode cX9_pass 24 = .ok (.iaload, 1) := by decide +kernel
theorem dX9_pass_25 : decode cX9_pass 25 = .ok (.iload_n 1, 1) := by decide +kernel
theorem dX9_pass_26 : decode cX9_pass 26 = .ok (.iadd, 1) := by decide +kernel
theorem dX9_pass_27 : decode cX9_pass 27 = .ok (.iastore, 1) := by decide +kernel
theorem dX9_pass_28 : decode cX9_pass 28 = .ok (.aload_n 0, 1) := by decide +kernel
theorem dX9_pass_29 : decode cX9_pass 29 = .ok (.getfield 7, 3) := by decide +kernel
theorem dX9_pass_32 : decode cX9_pass 32 = .ok (.iconst 0, 1) := by decide +kernel
theorem dX9_pass_33 : decode cX9_pass 33 = .ok (.iaload, 1) := by decide +kernel
theorem dX9_pass_34 : decode cX9_pass 34 = .ok (.ireturn, 1) := by decide +kernel
theorem dX9_undo_0 : decode cX9_undo 0 = .ok (.aload_n 0, 1) := by decide +kernel
theorem dX9_undo_1 : decode cX9_undo 1 = .ok (.getfield 108, 3) := by decide +kernel
theorem dX9_undo_4 : decode cX9_undo 4 = .ok (.ifCond .ne 6, 3) := by decide +kernel
theorem dX9_undo_7 : decode cX9_undo 7 = .ok (.bipush (-2), 2) := by decide +kernel
theorem dX9_undo_9 : decode cX9_undo 9 = .ok (.ireturn, 1) := by decide +kernel
theorem dX9_undo_10 : decode cX9_undo 10 = .ok (.aload_n 0, 1) := by decide +kernel
theorem dX9_undo_11 : decode cX9_undo 11 = .ok (.dup, 1) := by decide +kernel
theorem dX9_undo_12 : decode cX9_undo 12 = .ok (.getfield 108, 3) := by decide +kernel
theorem dX9_undo_15 : decode cX9_undo 15 = .ok (.iconst 1, 1) := by decide +kernel
theorem dX9_undo_16 : decode cX9_undo 16 = .ok (.isub, 1) := by decide +kernel
theorem dX9_undo_17 : decode cX9_undo 17 = .ok (.putfield 108, 3) := by decide +kernel
theorem dX9_undo_20 : decode cX9_undo 20 = .ok (.aload_n 0, 1) := by decide +kernel
theorem dX9_undo_21 : decode cX9_undo 21 = .ok (.bipush 76, 2) := by decide +kernel
theorem dX9_undo_23 : decode cX9_undo 23 = .ok (.bipush 19, 2) := by decide +kernel
theorem dX9_undo_25 : decode cX9_undo 25 = .ok (.aload_n 0, 1) := by decide +kernel
theorem dX9_undo_26 : decode cX9_undo 26 = .ok (.getfield 108, 3) := by decide +kernel
theorem dX9_undo_29 : decode cX9_undo 29 = .ok (.imul, 1) := by decide +kernel
theorem dX9_undo_30 : decode cX9_undo 30 = .ok (.iadd, 1) := by decide +kernel
theorem dX9_undo_31 : decode cX9_undo 31 = .ok (.iconst 0, 1) := by decide +kernel
theorem dX9_undo_32 : decode cX9_undo 32 = .ok (.invokevirtual 193, 3) := by decide +kernel
theorem dX9_undo_35 : decode cX9_undo 35 = .ok (.aload_n 0, 1) := by decide +kernel
theorem dX9_undo_36 : decode cX9_undo 36 = .ok (.getfield 108, 3) := by decide +kernel
theorem dX9_undo_39 : decode cX9_undo 39 = .ok (.ireturn, 1) := by decide +kernel
theorem dX9_tries_0 : decode cX9_tries 0 = .ok (.aload_n 0, 1) := by decide +kernel
theorem dX9_tries_1 : decode cX9_tries 1 = .ok (.iconst 0, 1) := by decide +kernel
theorem dX9_tries_2 : decode cX9_tries 2 = .ok (.bipush 19, 2) := by decide +kernel
theorem dX9_tries_4 : decode cX9_tries 4 = .ok (.invokevirtual 193, 3) := by decide +kernel
theorem dX9_tries_7 : decode cX9_tries 7 = .ok (.return_, 1) := by decide +kernel
theorem dX9_ride_0 : decode cX9_ride 0 = .ok (.aload_n 0, 1) := by decide +kernel
theorem dX9_ride_1 : decode cX9_ride 1 = .ok (.iload_n 1, 1) := by decide +kernel
theorem dX9_ride_2 : decode cX9_ride 2 = .ok (.invokevirtual 166, 3) := by decide +kernel
theorem dX9_ride_5 : decode cX9_ride 5 = .ok (.ifCond .eq 11, 3) := by decide +kernel
theorem dX9_ride_8 : decode cX9_ride 8 = .ok (.aload_n 0, 1) := by decide +kernel
theorem dX9_ride_9 : decode cX9_ride 9 = .ok (.iload_n 2, 1) := by decide +kernel
theorem dX9_ride_10 : decode cX9_ride 10 = .ok (.invokevirtual 169, 3) := by decide +kernel
theorem dX9_ride_13 : decode cX9_ride 13 = .ok (.ifCond .ne 5, 3) := by decide +kernel
theorem dX9_ride_16 : decode cX9_ride 16 = .ok (.iconst (-1), 1) := by decide +kernel
theorem dX9_ride_17 : decode cX9_ride 17 = .ok (.ireturn, 1) := by decide +kernel
theorem dX9_ride_18 : decode cX9_ride 18 = .ok (.aload_n 0, 1) := by decide +kernel
theorem dX9_ride_19 : decode cX9_ride 19 = .ok (.iconst 0, 1) := by decide +kernel
theorem dX9_ride_20 : decode cX9_ride 20 = .ok (.iload_n 1, 1) := by decide +kernel
theorem dX9_ride_21 : decode cX9_ride 21 = .ok (.iload_n 2, 1) := by decide +kernel
theorem dX9_ride_22 : decode cX9_ride 22 = .ok (.invokevirtual 182, 3) := by decide +kernel
theorem dX9_ride_25 : decode cX9_ride 25 = .ok (.istore 4, 2) := by decide +kernel
theorem dX9_ride_27 : decode cX9_ride 27 = .ok (.iload_n 3, 1) := by decide +kernel
theorem dX9_ride_28 : decode cX9_ride 28 = .ok (.tableswitch 75 0 3 #[32, 40, 43, 59], 32) := by decide +kernel
theorem dX9_ride_60 : decode cX9_ride 60 = .ok (.aload_n 0, 1) := by decide +kernel
theorem dX9_ride_61 : decode cX9_ride 61 = .ok (.iconst 0, 1) := by decide +kernel
theorem dX9_ride_62 : decode cX9_ride 62 = .ok (.iload_n 1, 1) := by decide +kernel
theorem dX9_ride_63 : decode cX9_ride 63 = .ok (.iload_n 2, 1) := by decide +kernel
theorem dX9_ride_64 : decode cX9_ride 64 = .ok (.invokevirtual 178, 3) := by decide +kernel
theorem dX9_ride_67 : decode cX9_ride 67 = .ok (.ireturn, 1) := by decide +kernel
theorem dX9_ride_68 : decode cX9_ride 68 = .ok (.iload 4, 2) := by decide +kernel
theorem dX9_ride_70 : decode cX9_ride 70 = .ok (.ireturn, 1) := by decide +kernel
theorem dX9_ride_71 : decode cX9_ride 71 = .ok (.aload_n 0, 1) := by decide +kernel
theorem dX9_ride_72 : decode cX9_ride 72 = .ok (.iload_n 2, 1) := by decide +kernel
theorem dX9_ride_73 : decode cX9_ride 73 = .ok (.iload 4, 2) := by decide +kernel
theorem dX9_ride_75 : decode cX9_ride 75 = .ok (.invokevirtual 185, 3) := by decide +kernel
theorem dX9_ride_78 : decode cX9_ride 78 = .ok (.ifCond .eq 7, 3) := by decide +kernel
theorem dX9_ride_81 : decode cX9_ride 81 = .ok (.iconst 1, 1) := by decide +kernel
theorem dX9_ride_82 : decode cX9_ride 82 = .ok (.goto 4, 3) := by decide +kernel
theorem dX9_ride_85 : decode cX9_ride 85 = .ok (.iconst 0, 1) := by decide +kernel
theorem dX9_ride_86 : decode cX9_ride 86 = .ok (.ireturn, 1) := by decide +kernel
theorem dX9_ride_87 : decode cX9_ride 87 = .ok (.aload_n 0, 1) := by decide +kernel
theorem dX9_ride_88 : decode cX9_ride 88 = .ok (.iconst 0, 1) := by decide +kernel
theorem dX9_ride_89 : decode cX9_ride 89 = .ok (.iload_n 1, 1) := by decide +kernel
theorem dX9_ride_90 : decode cX9_ride 90 = .ok (.iload_n 2, 1) := by decide +kernel
theorem dX9_ride_91 : decode cX9_ride 91 = .ok (.invokevirtual 175, 3) := by decide +kernel
theorem dX9_ride_94 : decode cX9_ride 94 = .ok (.ifCond .eq 7, 3) := by decide +kernel
theorem dX9_ride_97 : decode cX9_ride 97 = .ok (.iconst 1, 1) := by decide +kernel
theorem dX9_ride_98 : decode cX9_ride 98 = .ok (.goto 4, 3) := by decide +kernel
theorem dX9_ride_101 : decode cX9_ride 101 = .ok (.iconst 0, 1) := by decide +kernel
theorem dX9_ride_102 : decode cX9_ride 102 = .ok (.ireturn, 1) := by decide +kernel
theorem dX9_ride_103 : decode cX9_ride 103 = .ok (.iconst (-1), 1) := by decide +kernel
theorem dX9_ride_104 : decode cX9_ride 104 = .ok (.ireturn, 1) := by decide +kernel
theorem dX9_soonest_0 : decode cX9_soonest 0 = .ok (.aload_n 0, 1) := by decide +kernel
theorem dX9_soonest_1 : decode cX9_soonest 1 = .ok (.iload_n 1, 1) := by decide +kernel
theorem dX9_soonest_2 : decode cX9_soonest 2 = .ok (.invokevirtual 169, 3) := by decide +kernel
theorem dX9_soonest_5 : decode cX9_soonest 5 = .ok (.ifCond .eq 12, 3) := by decide +kernel
theorem dX9_soonest_8 : decode cX9_soonest 8 = .ok (.aload_n 0, 1) := by decide +kernel
theorem dX9_soonest_9 : decode cX9_soonest 9 = .ok (.iconst 0, 1) := by decide +kernel
theorem dX9_soonest_10 : decode cX9_soonest 10 = .ok (.iload_n 1, 1) := by decide +kernel
theorem dX9_soonest_11 : decode cX9_soonest 11 = .ok (.invokevirtual 211, 3) := by decide +kernel
theorem dX9_soonest_14 : decode cX9_soonest 14 = .ok (.goto 4, 3) := by decide +kernel
theorem dX9_soonest_17 : decode cX9_soonest 17 = .ok (.iconst (-1), 1) := by decide +kernel
theorem dX9_soonest_18 : decode cX9_soonest 18 = .ok (.ireturn, 1) := by decide +kernel
theorem dX9_rest_0 : decode cX9_rest 0 = .ok (.iconst 1, 1) := by decide +kernel
theorem dX9_rest_1 : decode cX9_rest 1 = .ok (.aload_n 0, 1) := by decide +kernel
theorem dX9_rest_2 : decode cX9_rest 2 = .ok (.getfield 99, 3) := by decide +kernel
theorem dX9_rest_5 : decode cX9_rest 5 = .ok (.ishl, 1) := by decide +kernel
theorem dX9_rest_6 : decode cX9_rest 6 = .ok (.iconst 1, 1) := by decide +kernel
theorem dX9_rest_7 : decode cX9_rest 7 = .ok (.isub, 1) := by decide +kernel
theorem dX9_rest_8 : decode cX9_rest 8 = .ok (.aload_n 0, 1) := by decide +kernel
theorem dX9_rest_9 : decode cX9_rest 9 = .ok (.getfield 7, 3) := by decide +kernel
theorem dX9_rest_12 : decode cX9_rest 12 = .ok (.bipush 10, 2) := by decide +kernel
theorem dX9_rest_14 : decode cX9_rest 14 = .ok (.iaload, 1) := by decide +kernel
theorem dX9_rest_15 : decode cX9_rest 15 = .ok (.iconst (-1), 1) := by decide +kernel
theorem dX9_rest_16 : decode cX9_rest 16 = .ok (.ixor, 1) := by decide +kernel
theorem dX9_rest_17 : decode cX9_rest 17 = .ok (.iand, 1) := by decide +kernel
theorem dX9_rest_18 : decode cX9_rest 18 = .ok (.ireturn, 1) := by decide +kernel
theorem dX9_ordersRest_0 : decode cX9_ordersRest 0 = .ok (.aload_n 0, 1) := by decide +kernel
theorem dX9_ordersRest_1 : decode cX9_ordersRest 1 = .ok (.invokevirtual 214, 3) := by decide +kernel
theorem dX9_ordersRest_4 : decode cX9_ordersRest 4 = .ok (.istore_n 1, 1) := by decide +kernel
theorem dX9_ordersRest_5 : decode cX9_ordersRest 5 = .ok (.iload_n 1, 1) := by decide +kernel
theorem dX9_ordersRest_6 : decode cX9_ordersRest 6 = .ok (.invokestatic 217, 3) := by decide +kernel
theorem dX9_ordersRest_9 : decode cX9_ordersRest 9 = .ok (.istore_n 2, 1) := by decide +kernel
theorem dX9_ordersRest_10 : decode cX9_ordersRest 10 = .ok (.ldc 220, 2) := by decide +kernel
theorem dX9_ordersRest_12 : decode cX9_ordersRest 12 = .ok (.istore_n 3, 1) := by decide +kernel
theorem dX9_ordersRest_13 : decode cX9_ordersRest 13 = .ok (.iconst 0, 1) := by decide +kernel
theorem dX9_ordersRest_14 : decode cX9_ordersRest 14 = .ok (.istore 4, 2) := by decide +kernel
theorem dX9_ordersRest_16 : decode cX9_ordersRest 16 = .ok (.aload_n 0, 1) := by decide +kernel
theorem dX9_ordersRest_17 : decode cX9_ordersRest 17 = .ok (.iconst 0, 1) := by decide +kernel
theorem dX9_ordersRest_18 : decode cX9_ordersRest 18 = .ok (.sipush 228, 3) := by decide +kernel
theorem dX9_ordersRest_21 : decode cX9_ordersRest 21 = .ok (.invokevirtual 193, 3) := by decide +kernel
theorem dX9_ordersRest_24 : decode cX9_ordersRest 24 = .ok (.aload_n 0, 1) := by decide +kernel
theorem dX9_ordersRest_25 : decode cX9_ordersRest 25 = .ok (.getfield 49, 3) := by decide +kernel
theorem dX9_ordersRest_28 : decode cX9_ordersRest 28 = .ok (.iconst 0, 1) := by decide +kernel
theorem dX9_ordersRest_29 : decode cX9_ordersRest 29 = .ok (.iconst (-1), 1) := by decide +kernel
theorem dX9_ordersRest_30 : decode cX9_ordersRest 30 = .ok (.iastore, 1) := by decide +kernel
theorem dX9_ordersRest_31 : decode cX9_ordersRest 31 = .ok (.aload_n 0, 1) := by decide +kernel
theorem dX9_ordersRest_32 : decode cX9_ordersRest 32 = .ok (.getfield 52, 3) := by decide +kernel
theorem dX9_ordersRest_35 : decode cX9_ordersRest 35 = .ok (.iconst 0, 1) := by decide +kernel
theorem dX9_ordersRest_36 : decode cX9_ordersRest 36 = .ok (.iconst 0, 1) := by decide +kernel
theorem dX9_ordersRest_37 : decode cX9_ordersRest 37 = .ok (.iastore, 1) := by decide +kernel
theorem dX9_ordersRest_38 : decode cX9_ordersRest 38 = .ok (.iload 4, 2) := by decide +kernel
theorem dX9_ordersRest_40 : decode cX9_ordersRest 40 = .ok (.ifCond .lt 238, 3) := by decide +kernel
theorem dX9_ordersRest_43 : decode cX9_ordersRest 43 = .ok (.sipush 228, 3) := by decide +kernel
theorem dX9_ordersRest_46 : decode cX9_ordersRest 46 = .ok (.bipush 19, 2) := by decide +kernel
theorem dX9_ordersRest_48 : decode cX9_ordersRest 48 = .ok (.iload 4, 2) := by decide +kernel
theorem dX9_ordersRest_50 : decode cX9_ordersRest 50 = .ok (.imul, 1) := by decide +kernel
theorem dX9_ordersRest_51 : decode cX9_ordersRest 51 = .ok (.iadd, 1) := by decide +kernel
theorem dX9_ordersRest_52 : decode cX9_ordersRest 52 = .ok (.istore 5, 2) := by decide +kernel
theorem dX9_ordersRest_54 : decode cX9_ordersRest 54 = .ok (.aload_n 0, 1) := by decide +kernel
theorem dX9_ordersRest_55 : decode cX9_ordersRest 55 = .ok (.getfield 49, 3) := by decide +kernel
theorem dX9_ordersRest_58 : decode cX9_ordersRest 58 = .ok (.iload 4, 2) := by decide +kernel
theorem dX9_ordersRest_60 : decode cX9_ordersRest 60 = .ok (.iaload, 1) := by decide +kernel
theorem dX9_ordersRest_61 : decode cX9_ordersRest 61 = .ok (.iconst 1, 1) := by decide +kernel
theorem dX9_ordersRest_62 : decode cX9_ordersRest 62 = .ok (.iadd, 1) := by decide +kernel
theorem dX9_ordersRest_63 : decode cX9_ordersRest 63 = .ok (.istore 6, 2) := by decide +kernel
theorem dX9_ordersRest_65 : decode cX9_ordersRest 65 = .ok (.iload 6, 2) := by decide +kernel
theorem dX9_ordersRest_67 : decode cX9_ordersRest 67 = .ok (.aload_n 0, 1) := by decide +kernel
theorem dX9_ordersRest_68 : decode cX9_ordersRest 68 = .ok (.getfield 99, 3) := by decide +kernel
theorem dX9_ordersRest_71 : decode cX9_ordersRest 71 = .ok (.if_icmp .ge 36, 3) := by decide +kernel
theorem dX9_ordersRest_74 : decode cX9_ordersRest 74 = .ok (.iload_n 1, 1) := by decide +kernel
theorem dX9_ordersRest_75 : decode cX9_ordersRest 75 = .ok (.iload 6, 2) := by decide +kernel
theorem dX9_ordersRest_77 : decode cX9_ordersRest 77 = .ok (.invokestatic 197, 3) := by decide +kernel
theorem dX9_ordersRest_80 : decode cX9_ordersRest 80 = .ok (.ifCond .eq 21, 3) := by decide +kernel
theorem dX9_ordersRest_83 : decode cX9_ordersRest 83 = .ok (.aload_n 0, 1) := by decide +kernel
theorem dX9_ordersRest_84 : decode cX9_ordersRest 84 = .ok (.getfield 7, 3) := by decide +kernel
theorem dX9_ordersRest_87 : decode cX9_ordersRest 87 = .ok (.iload 5, 2) := by decide +kernel
theorem dX9_ordersRest_89 : decode cX9_ordersRest 89 = .ok (.bipush 10, 2) := by decide +kernel
theorem dX9_ordersRest_91 : decode cX9_ordersRest 91 = .ok (.iadd, 1) := by decide +kernel
theorem dX9_ordersRest_92 : decode cX9_ordersRest 92 = .ok (.iaload, 1) := by decide +kernel
theorem dX9_ordersRest_93 : decode cX9_ordersRest 93 = .ok (.iload 6, 2) := by decide +kernel
theorem dX9_ordersRest_95 : decode cX9_ordersRest 95 = .ok (.invokestatic 197, 3) := by decide +kernel
theorem dX9_ordersRest_98 : decode cX9_ordersRest 98 = .ok (.ifCond .eq 9, 3) := by decide +kernel
theorem dX9_ordersRest_101 : decode cX9_ordersRest 101 = .ok (.iinc 6 1, 3) := by decide +kernel
theorem dX9_ordersRest_104 : decode cX9_ordersRest 104 = .ok (.goto (-39), 3) := by decide +kernel
theorem dX9_ordersRest_107 : decode cX9_ordersRest 107 = .ok (.iload 4, 2) := by decide +kernel
theorem dX9_ordersRest_109 : decode cX9_ordersRest 109 = .ok (.iload_n 2, 1) := by decide +kernel
theorem dX9_ordersRest_110 : decode cX9_ordersRest 110 = .ok (.if_icmp .eq 23, 3) := by decide +kernel
theorem dX9_ordersRest_113 : decode cX9_ordersRest 113 = .ok (.iload 6, 2) := by decide +kernel
theorem dX9_ordersRest_115 : decode cX9_ordersRest 115 = .ok (.aload_n 0, 1) := by decide +kernel
theorem dX9_ordersRest_116 : decode cX9_ordersRest 116 = .ok (.getfield 99, 3) := by decide +kernel
theorem dX9_ordersRest_119 : decode cX9_ordersRest 119 = .ok (.if_icmp .eq 14, 3) := by decide +kernel
theorem dX9_ordersRest_122 : decode cX9_ordersRest 122 = .ok (.aload_n 0, 1) := by decide +kernel
theorem dX9_ordersRest_123 : decode cX9_ordersRest 123 = .ok (.getfield 52, 3) := by decide +kernel
theorem dX9_ordersRest_126 : decode cX9_ordersRest 126 = .ok (.iload 4, 2) := by decide +kernel
theorem dX9_ordersRest_128 : decode cX9_ordersRest 128 = .ok (.iaload, 1) := by decide +kernel
theorem dX9_ordersRest_129 : decode cX9_ordersRest 129 = .ok (.iload_n 3, 1) := by decide +kernel
theorem dX9_ordersRest_130 : decode cX9_ordersRest 130 = .ok (.if_icmp .lt 63, 3) := by decide +kernel
theorem dX9_ordersRest_133 : decode cX9_ordersRest 133 = .ok (.iload 4, 2) := by decide +kernel
theorem dX9_ordersRest_135 : decode cX9_ordersRest 135 = .ok (.iload_n 2, 1) := by decide +kernel
theorem dX9_ordersRest_136 : decode cX9_ordersRest 136 = .ok (.if_icmp .ne 51, 3) := by decide +kernel
theorem dX9_ordersRest_139 : decode cX9_ordersRest 139 = .ok (.aload_n 0, 1) := by decide +kernel
theorem dX9_ordersRest_140 : decode cX9_ordersRest 140 = .ok (.getfield 52, 3) := by decide +kernel
theorem dX9_ordersRest_143 : decode cX9_ordersRest 143 = .ok (.iload 4, 2) := by decide +kernel
theorem dX9_ordersRest_145 : decode cX9_ordersRest 145 = .ok (.iaload, 1) := by decide +kernel
theorem dX9_ordersRest_146 : decode cX9_ordersRest 146 = .ok (.iload_n 3, 1) := by decide +kernel
theorem dX9_ordersRest_147 : decode cX9_ordersRest 147 = .ok (.if_icmp .ge 40, 3) := by decide +kernel
theorem dX9_ordersRest_150 : decode cX9_ordersRest 150 = .ok (.aload_n 0, 1) := by decide +kernel
theorem dX9_ordersRest_151 : decode cX9_ordersRest 151 = .ok (.getfield 52, 3) := by decide +kernel
theorem dX9_ordersRest_154 : decode cX9_ordersRest 154 = .ok (.iload 4, 2) := by decide +kernel
theorem dX9_ordersRest_156 : decode cX9_ordersRest 156 = .ok (.iaload, 1) := by decide +kernel
theorem dX9_ordersRest_157 : decode cX9_ordersRest 157 = .ok (.istore_n 3, 1) := by decide +kernel
theorem dX9_ordersRest_158 : decode cX9_ordersRest 158 = .ok (.iconst 0, 1) := by decide +kernel
theorem dX9_ordersRest_159 : decode cX9_ordersRest 159 = .ok (.istore 7, 2) := by decide +kernel
theorem dX9_ordersRest_161 : decode cX9_ordersRest 161 = .ok (.iload 7, 2) := by decide +kernel
theorem dX9_ordersRest_163 : decode cX9_ordersRest 163 = .ok (.iload_n 2, 1) := by decide +kernel
theorem dX9_ordersRest_164 : decode cX9_ordersRest 164 = .ok (.if_icmp .ge 23, 3) := by decide +kernel
theorem dX9_ordersRest_167 : decode cX9_ordersRest 167 = .ok (.aload_n 0, 1) := by decide +kernel
theorem dX9_ordersRest_168 : decode cX9_ordersRest 168 = .ok (.getfield 55, 3) := by decide +kernel
theorem dX9_ordersRest_171 : decode cX9_ordersRest 171 = .ok (.iload 7, 2) := by decide +kernel
theorem dX9_ordersRest_173 : decode cX9_ordersRest 173 = .ok (.aload_n 0, 1) := by decide +kernel
theorem dX9_ordersRest_174 : decode cX9_ordersRest 174 = .ok (.getfield 49, 3) := by decide +kernel
theorem dX9_ordersRest_177 : decode cX9_ordersRest 177 = .ok (.iload 7, 2) := by decide +kernel
theorem dX9_ordersRest_179 : decode cX9_ordersRest 179 = .ok (.iaload, 1) := by decide +kernel
theorem dX9_ordersRest_180 : decode cX9_ordersRest 180 = .ok (.iastore, 1) := by decide +kernel
theorem dX9_ordersRest_181 : decode cX9_ordersRest 181 = .ok (.iinc 7 1, 3) := by decide +kernel
theorem dX9_ordersRest_184 : decode cX9_ordersRest 184 = .ok (.goto (-23), 3) := by decide +kernel
theorem dX9_ordersRest_187 : decode cX9_ordersRest 187 = .ok (.iinc 4 (-1), 3) := by decide +kernel
theorem dX9_ordersRest_190 : decode cX9_ordersRest 190 = .ok (.goto 85, 3) := by decide +kernel
theorem dX9_ordersRest_193 : decode cX9_ordersRest 193 = .ok (.aload_n 0, 1) := by decide +kernel
theorem dX9_ordersRest_194 : decode cX9_ordersRest 194 = .ok (.getfield 49, 3) := by decide +kernel
theorem dX9_ordersRest_197 : decode cX9_ordersRest 197 = .ok (.iload 4, 2) := by decide +kernel
theorem dX9_ordersRest_199 : decode cX9_ordersRest 199 = .ok (.iload 6, 2) := by decide +kernel
theorem dX9_ordersRest_201 : decode cX9_ordersRest 201 = .ok (.iastore, 1) := by decide +kernel
theorem dX9_ordersRest_202 : decode cX9_ordersRest 202 = .ok (.aload_n 0, 1) := by decide +kernel
theorem dX9_ordersRest_203 : decode cX9_ordersRest 203 = .ok (.iload 5, 2) := by decide +kernel
theorem dX9_ordersRest_205 : decode cX9_ordersRest 205 = .ok (.iload 5, 2) := by decide +kernel
theorem dX9_ordersRest_207 : decode cX9_ordersRest 207 = .ok (.bipush 19, 2) := by decide +kernel
theorem dX9_ordersRest_209 : decode cX9_ordersRest 209 = .ok (.iadd, 1) := by decide +kernel
theorem dX9_ordersRest_210 : decode cX9_ordersRest 210 = .ok (.invokevirtual 193, 3) := by decide +kernel
theorem dX9_ordersRest_213 : decode cX9_ordersRest 213 = .ok (.aload_n 0, 1) := by decide +kernel
theorem dX9_ordersRest_214 : decode cX9_ordersRest 214 = .ok (.iload 5, 2) := by decide +kernel
theorem dX9_ordersRest_216 : decode cX9_ordersRest 216 = .ok (.bipush 19, 2) := by decide +kernel
theorem dX9_ordersRest_218 : decode cX9_ordersRest 218 = .ok (.iadd, 1) := by decide +kernel
theorem dX9_ordersRest_219 : decode cX9_ordersRest 219 = .ok (.aload_n 0, 1) := by decide +kernel
theorem dX9_ordersRest_220 : decode cX9_ordersRest 220 = .ok (.iload 5, 2) := by decide +kernel
theorem dX9_ordersRest_222 : decode cX9_ordersRest 222 = .ok (.bipush 19, 2) := by decide +kernel
theorem dX9_ordersRest_224 : decode cX9_ordersRest 224 = .ok (.iadd, 1) := by decide +kernel
theorem dX9_ordersRest_225 : decode cX9_ordersRest 225 = .ok (.iload 6, 2) := by decide +kernel
theorem dX9_ordersRest_227 : decode cX9_ordersRest 227 = .ok (.invokevirtual 211, 3) := by decide +kernel
theorem dX9_ordersRest_230 : decode cX9_ordersRest 230 = .ok (.iload 6, 2) := by decide +kernel
theorem dX9_ordersRest_232 : decode cX9_ordersRest 232 = .ok (.invokevirtual 203, 3) := by decide +kernel
theorem dX9_ordersRest_235 : decode cX9_ordersRest 235 = .ok (.istore 7, 2) := by decide +kernel
theorem dX9_ordersRest_237 : decode cX9_ordersRest 237 = .ok (.aload_n 0, 1) := by decide +kernel
theorem dX9_ordersRest_238 : decode cX9_ordersRest 238 = .ok (.getfield 52, 3) := by decide +kernel
theorem dX9_ordersRest_241 : decode cX9_ordersRest 241 = .ok (.iload 4, 2) := by decide +kernel
theorem dX9_ordersRest_243 : decode cX9_ordersRest 243 = .ok (.iconst 1, 1) := by decide +kernel
theorem dX9_ordersRest_244 : decode cX9_ordersRest 244 = .ok (.iadd, 1) := by decide +kernel
theorem dX9_ordersRest_245 : decode cX9_ordersRest 245 = .ok (.aload_n 0, 1) := by decide +kernel
theorem dX9_ordersRest_246 : decode cX9_ordersRest 246 = .ok (.getfield 52, 3) := by decide +kernel
theorem dX9_ordersRest_249 : decode cX9_ordersRest 249 = .ok (.iload 4, 2) := by decide +kernel
theorem dX9_ordersRest_251 : decode cX9_ordersRest 251 = .ok (.iaload, 1) := by decide +kernel
theorem dX9_ordersRest_252 : decode cX9_ordersRest 252 = .ok (.iload 7, 2) := by decide +kernel
theorem dX9_ordersRest_254 : decode cX9_ordersRest 254 = .ok (.ifCond .eq 7, 3) := by decide +kernel
theorem dX9_ordersRest_257 : decode cX9_ordersRest 257 = .ok (.iconst 1, 1) := by decide +kernel
theorem dX9_ordersRest_258 : decode cX9_ordersRest 258 = .ok (.goto 4, 3) := by decide +kernel
theorem dX9_ordersRest_261 : decode cX9_ordersRest 261 = .ok (.iconst 0, 1) := by decide +kernel
theorem dX9_ordersRest_262 : decode cX9_ordersRest 262 = .ok (.iadd, 1) := by decide +kernel
theorem dX9_ordersRest_263 : decode cX9_ordersRest 263 = .ok (.iastore, 1) := by decide +kernel
theorem dX9_ordersRest_264 : decode cX9_ordersRest 264 = .ok (.iinc 4 1, 3) := by decide +kernel
theorem dX9_ordersRest_267 : decode cX9_ordersRest 267 = .ok (.aload_n 0, 1) := by decide +kernel
theorem dX9_ordersRest_268 : decode cX9_ordersRest 268 = .ok (.getfield 49, 3) := by decide +kernel
theorem dX9_ordersRest_271 : decode cX9_ordersRest 271 = .ok (.iload 4, 2) := by decide +kernel
theorem dX9_ordersRest_273 : decode cX9_ordersRest 273 = .ok (.iconst (-1), 1) := by decide +kernel
theorem dX9_ordersRest_274 : decode cX9_ordersRest 274 = .ok (.iastore, 1) := by decide +kernel
theorem dX9_ordersRest_275 : decode cX9_ordersRest 275 = .ok (.goto (-237), 3) := by decide +kernel
theorem dX9_ordersRest_278 : decode cX9_ordersRest 278 = .ok (.iload_n 3, 1) := by decide +kernel
theorem dX9_ordersRest_279 : decode cX9_ordersRest 279 = .ok (.ireturn, 1) := by decide +kernel
theorem dX9_order_0 : decode cX9_order 0 = .ok (.iload_n 1, 1) := by decide +kernel
theorem dX9_order_1 : decode cX9_order 1 = .ok (.i2l, 1) := by decide +kernel
theorem dX9_order_2 : decode cX9_order 2 = .ok (.lconst 0, 1) := by decide +kernel
theorem dX9_order_3 : decode cX9_order 3 = .ok (.ldc2_w 221, 3) := by decide +kernel
theorem dX9_order_6 : decode cX9_order 6 = .ok (.invokestatic 92, 3) := by decide +kernel
theorem dX9_order_9 : decode cX9_order 9 = .ok (.ifCond .ne 5, 3) := by decide +kernel
theorem dX9_order_12 : decode cX9_order 12 = .ok (.iconst (-1), 1) := by decide +kernel
theorem dX9_order_13 : decode cX9_order 13 = .ok (.ireturn, 1) := by decide +kernel
theorem dX9_order_14 : decode cX9_order 14 = .ok (.aload_n 0, 1) := by decide +kernel
theorem dX9_order_15 : decode cX9_order 15 = .ok (.invokevirtual 223, 3) := by decide +kernel
theorem dX9_order_18 : decode cX9_order 18 = .ok (.istore_n 2, 1) := by decide +kernel
theorem dX9_order_19 : decode cX9_order 19 = .ok (.iload_n 1, 1) := by decide +kernel
theorem dX9_order_20 : decode cX9_order 20 = .ok (.ifCond .ne 7, 3) := by decide +kernel
theorem dX9_order_23 : decode cX9_order 23 = .ok (.iload_n 2, 1) := by decide +kernel
theorem dX9_order_24 : decode cX9_order 24 = .ok (.goto 27, 3) := by decide +kernel
theorem dX9_order_27 : decode cX9_order 27 = .ok (.iload_n 1, 1) := by decide +kernel
theorem dX9_order_28 : decode cX9_order 28 = .ok (.aload_n 0, 1) := by decide +kernel
theorem dX9_order_29 : decode cX9_order 29 = .ok (.invokevirtual 214, 3) := by decide +kernel
theorem dX9_order_32 : decode cX9_order 32 = .ok (.invokestatic 217, 3) := by decide +kernel
theorem dX9_order_35 : decode cX9_order 35 = .ok (.if_icmp .gt 14, 3) := by decide +kernel
theorem dX9_order_38 : decode cX9_order 38 = .ok (.aload_n 0, 1) := by decide +kernel
theorem dX9_order_39 : decode cX9_order 39 = .ok (.getfield 55, 3) := by decide +kernel
theorem dX9_order_42 : decode cX9_order 42 = .ok (.iload_n 1, 1) := by decide +kernel
theorem dX9_order_43 : decode cX9_order 43 = .ok (.iconst 1, 1) := by decide +kernel
theorem dX9_order_44 : decode cX9_order 44 = .ok (.isub, 1) := by decide +kernel
theorem dX9_order_45 : decode cX9_order 45 = .ok (.iaload, 1) := by decide +kernel
theorem dX9_order_46 : decode cX9_order 46 = .ok (.goto 5, 3) := by decide +kernel
theorem dX9_order_49 : decode cX9_order 49 = .ok (.bipush (-4), 2) := by decide +kernel
theorem dX9_order_51 : decode cX9_order 51 = .ok (.ireturn, 1) := by decide +kernel
theorem dX9_waiting_0 : decode cX9_waiting 0 = .ok (.aload_n 0, 1) := by decide +kernel
theorem dX9_waiting_1 : decode cX9_waiting 1 = .ok (.iload_n 1, 1) := by decide +kernel
theorem dX9_waiting_2 : decode cX9_waiting 2 = .ok (.invokevirtual 166, 3) := by decide +kernel
theorem dX9_waiting_5 : decode cX9_waiting 5 = .ok (.ifCond .eq 13, 3) := by decide +kernel
theorem dX9_waiting_8 : decode cX9_waiting 8 = .ok (.iload_n 2, 1) := by decide +kernel
theorem dX9_waiting_9 : decode cX9_waiting 9 = .ok (.i2l, 1) := by decide +kernel
theorem dX9_waiting_10 : decode cX9_waiting 10 = .ok (.lconst 0, 1) := by decide +kernel
theorem dX9_waiting_11 : decode cX9_waiting 11 = .ok (.lconst 1, 1) := by decide +kernel
theorem dX9_waiting_12 : decode cX9_waiting 12 = .ok (.invokestatic 92, 3) := by decide +kernel
theorem dX9_waiting_15 : decode cX9_waiting 15 = .ok (.ifCond .ne 5, 3) := by decide +kernel
theorem dX9_waiting_18 : decode cX9_waiting 18 = .ok (.iconst (-1), 1) := by decide +kernel
theorem dX9_waiting_19 : decode cX9_waiting 19 = .ok (.ireturn, 1) := by decide +kernel
theorem dX9_waiting_20 : decode cX9_waiting 20 = .ok (.iconst 0, 1) := by decide +kernel
theorem dX9_waiting_21 : decode cX9_waiting 21 = .ok (.istore_n 3, 1) := by decide +kernel
theorem dX9_waiting_22 : decode cX9_waiting 22 = .ok (.ldc 220, 2) := by decide +kernel
theorem dX9_waiting_24 : decode cX9_waiting 24 = .ok (.istore 4, 2) := by decide +kernel
theorem dX9_waiting_26 : decode cX9_waiting 26 = .ok (.iconst 0, 1) := by decide +kernel
theorem dX9_waiting_27 : decode cX9_waiting 27 = .ok (.istore 5, 2) := by decide +kernel
theorem dX9_waiting_29 : decode cX9_waiting 29 = .ok (.iload 5, 2) := by decide +kernel
theorem dX9_waiting_31 : decode cX9_waiting 31 = .ok (.aload_n 0, 1) := by decide +kernel
theorem dX9_waiting_32 : decode cX9_waiting 32 = .ok (.invokevirtual 88, 3) := by decide +kernel
theorem dX9_waiting_35 : decode cX9_waiting 35 = .ok (.if_icmp .ge 103, 3) := by decide +kernel
theorem dX9_waiting_38 : decode cX9_waiting 38 = .ok (.aload_n 0, 1) := by decide +kernel
theorem dX9_waiting_39 : decode cX9_waiting 39 = .ok (.invokevirtual 226, 3) := by decide +kernel
theorem dX9_waiting_42 : decode cX9_waiting 42 = .ok (.aload_n 0, 1) := by decide +kernel
theorem dX9_waiting_43 : decode cX9_waiting 43 = .ok (.bipush 19, 2) := by decide +kernel
theorem dX9_waiting_45 : decode cX9_waiting 45 = .ok (.iload_n 1, 1) := by decide +kernel
theorem dX9_waiting_46 : decode cX9_waiting 46 = .ok (.iload 5, 2) := by decide +kernel
theorem dX9_waiting_48 : decode cX9_waiting 48 = .ok (.invokevirtual 206, 3) := by decide +kernel
theorem dX9_waiting_51 : decode cX9_waiting 51 = .ok (.iconst 0, 1) := by decide +kernel
theorem dX9_waiting_52 : decode cX9_waiting 52 = .ok (.istore 6, 2) := by decide +kernel
theorem dX9_waiting_54 : decode cX9_waiting 54 = .ok (.iconst 0, 1) := by decide +kernel
theorem dX9_waiting_55 : decode cX9_waiting 55 = .ok (.istore 7, 2) := by decide +kernel
theorem dX9_waiting_57 : decode cX9_waiting 57 = .ok (.iload 7, 2) := by decide +kernel
theorem dX9_waiting_59 : decode cX9_waiting 59 = .ok (.aload_n 0, 1) := by decide +kernel
theorem dX9_waiting_60 : decode cX9_waiting 60 = .ok (.getfield 99, 3) := by decide +kernel
theorem dX9_waiting_63 : decode cX9_waiting 63 = .ok (.if_icmp .ge 39, 3) := by decide +kernel
theorem dX9_waiting_66 : decode cX9_waiting 66 = .ok (.iload 6, 2) := by decide +kernel
theorem dX9_waiting_68 : decode cX9_waiting 68 = .ok (.aload_n 0, 1) := by decide +kernel
theorem dX9_waiting_69 : decode cX9_waiting 69 = .ok (.invokevirtual 214, 3) := by decide +kernel
theorem dX9_waiting_72 : decode cX9_waiting 72 = .ok (.iload 7, 2) := by decide +kernel
theorem dX9_waiting_74 : decode cX9_waiting 74 = .ok (.invokestatic 197, 3) := by decide +kernel
theorem dX9_waiting_77 : decode cX9_waiting 77 = .ok (.ifCond .eq 15, 3) := by decide +kernel
theorem dX9_waiting_80 : decode cX9_waiting 80 = .ok (.aload_n 0, 1) := by decide +kernel
theorem dX9_waiting_81 : decode cX9_waiting 81 = .ok (.bipush 19, 2) := by decide +kernel
theorem dX9_waiting_83 : decode cX9_waiting 83 = .ok (.iload_n 1, 1) := by decide +kernel
theorem dX9_waiting_84 : decode cX9_waiting 84 = .ok (.iload 7, 2) := by decide +kernel
theorem dX9_waiting_86 : decode cX9_waiting 86 = .ok (.invokevirtual 182, 3) := by decide +kernel
theorem dX9_waiting_89 : decode cX9_waiting 89 = .ok (.goto 4, 3) := by decide +kernel
theorem dX9_waiting_92 : decode cX9_waiting 92 = .ok (.iconst 0, 1) := by decide +kernel
theorem dX9_waiting_93 : decode cX9_waiting 93 = .ok (.iadd, 1) := by decide +kernel
theorem dX9_waiting_94 : decode cX9_waiting 94 = .ok (.istore 6, 2) := by decide +kernel
theorem dX9_waiting_96 : decode cX9_waiting 96 = .ok (.iinc 7 1, 3) := by decide +kernel
theorem dX9_waiting_99 : decode cX9_waiting 99 = .ok (.goto (-42), 3) := by decide +kernel
theorem dX9_waiting_102 : decode cX9_waiting 102 = .ok (.iload 6, 2) := by decide +kernel
theorem dX9_waiting_104 : decode cX9_waiting 104 = .ok (.iload 4, 2) := by decide +kernel
theorem dX9_waiting_106 : decode cX9_waiting 106 = .ok (.if_icmp .ge 8, 3) := by decide +kernel
theorem dX9_waiting_109 : decode cX9_waiting 109 = .ok (.iload 5, 2) := by decide +kernel
theorem dX9_waiting_111 : decode cX9_waiting 111 = .ok (.goto 4, 3) := by decide +kernel
theorem dX9_waiting_114 : decode cX9_waiting 114 = .ok (.iload_n 3, 1) := by decide +kernel
theorem dX9_waiting_115 : decode cX9_waiting 115 = .ok (.istore_n 3, 1) := by decide +kernel
theorem dX9_waiting_116 : decode cX9_waiting 116 = .ok (.iload 6, 2) := by decide +kernel
theorem dX9_waiting_118 : decode cX9_waiting 118 = .ok (.iload 4, 2) := by decide +kernel
theorem dX9_waiting_120 : decode cX9_waiting 120 = .ok (.if_icmp .ge 8, 3) := by decide +kernel
theorem dX9_waiting_123 : decode cX9_waiting 123 = .ok (.iload 6, 2) := by decide +kernel
theorem dX9_waiting_125 : decode cX9_waiting 125 = .ok (.goto 5, 3) := by decide +kernel
theorem dX9_waiting_128 : decode cX9_waiting 128 = .ok (.iload 4, 2) := by decide +kernel
theorem dX9_waiting_130 : decode cX9_waiting 130 = .ok (.istore 4, 2) := by decide +kernel
theorem dX9_waiting_132 : decode cX9_waiting 132 = .ok (.iinc 5 1, 3) := by decide +kernel
theorem dX9_waiting_135 : decode cX9_waiting 135 = .ok (.goto (-106), 3) := by decide +kernel
theorem dX9_waiting_138 : decode cX9_waiting 138 = .ok (.iload_n 2, 1) := by decide +kernel
theorem dX9_waiting_139 : decode cX9_waiting 139 = .ok (.ifCond .ne 7, 3) := by decide +kernel
theorem dX9_waiting_142 : decode cX9_waiting 142 = .ok (.iload_n 3, 1) := by decide +kernel
theorem dX9_waiting_143 : decode cX9_waiting 143 = .ok (.goto 5, 3) := by decide +kernel
theorem dX9_waiting_146 : decode cX9_waiting 146 = .ok (.iload 4, 2) := by decide +kernel
theorem dX9_waiting_148 : decode cX9_waiting 148 = .ok (.ireturn, 1) := by decide +kernel
theorem dX9_laysDay_0 : decode cX9_laysDay 0 = .ok (.iconst 0, 1) := by decide +kernel
theorem dX9_laysDay_1 : decode cX9_laysDay 1 = .ok (.istore_n 2, 1) := by decide +kernel
theorem dX9_laysDay_2 : decode cX9_laysDay 2 = .ok (.iload_n 2, 1) := by decide +kernel
theorem dX9_laysDay_3 : decode cX9_laysDay 3 = .ok (.iconst 3, 1) := by decide +kernel
theorem dX9_laysDay_4 : decode cX9_laysDay 4 = .ok (.if_icmp .ge 75, 3) := by decide +kernel
theorem dX9_laysDay_7 : decode cX9_laysDay 7 = .ok (.aload_n 0, 1) := by decide +kernel
theorem dX9_laysDay_8 : decode cX9_laysDay 8 = .ok (.getfield 58, 3) := by decide +kernel
theorem dX9_laysDay_11 : decode cX9_laysDay 11 = .ok (.bipush 6, 2) := by decide +kernel
theorem dX9_laysDay_13 : decode cX9_laysDay 13 = .ok (.iload_n 1, 1) := by decide +kernel
theorem dX9_laysDay_14 : decode cX9_laysDay 14 = .ok (.imul, 1) := by decide +kernel
theorem dX9_laysDay_15 : decode cX9_laysDay 15 = .ok (.iload_n 2, 1) := by decide +kernel
theorem dX9_laysDay_16 : decode cX9_laysDay 16 = .ok (.iadd, 1) := by decide +kernel
theorem dX9_laysDay_17 : decode cX9_laysDay 17 = .ok (.iload_n 2, 1) := by decide +kernel
theorem dX9_laysDay_18 : decode cX9_laysDay 18 = .ok (.aload_n 0, 1) := by decide +kernel
theorem dX9_laysDay_19 : decode cX9_laysDay 19 = .ok (.getfield 96, 3) := by decide +kernel
theorem dX9_laysDay_22 : decode cX9_laysDay 22 = .ok (.if_icmp .ge 15, 3) := by decide +kernel
theorem dX9_laysDay_25 : decode cX9_laysDay 25 = .ok (.aload_n 0, 1) := by decide +kernel
theorem dX9_laysDay_26 : decode cX9_laysDay 26 = .ok (.getfield 7, 3) := by decide +kernel
theorem dX9_laysDay_29 : decode cX9_laysDay 29 = .ok (.bipush 20, 2) := by decide +kernel
theorem dX9_laysDay_31 : decode cX9_laysDay 31 = .ok (.iload_n 2, 1) := by decide +kernel
theorem dX9_laysDay_32 : decode cX9_laysDay 32 = .ok (.iadd, 1) := by decide +kernel
theorem dX9_laysDay_33 : decode cX9_laysDay 33 = .ok (.iaload, 1) := by decide +kernel
theorem dX9_laysDay_34 : decode cX9_laysDay 34 = .ok (.goto 4, 3) := by decide +kernel
theorem dX9_laysDay_37 : decode cX9_laysDay 37 = .ok (.iconst 0, 1) := by decide +kernel
theorem dX9_laysDay_38 : decode cX9_laysDay 38 = .ok (.iastore, 1) := by decide +kernel
theorem dX9_laysDay_39 : decode cX9_laysDay 39 = .ok (.aload_n 0, 1) := by decide +kernel
theorem dX9_laysDay_40 : decode cX9_laysDay 40 = .ok (.getfield 58, 3) := by decide +kernel
theorem dX9_laysDay_43 : decode cX9_laysDay 43 = .ok (.bipush 6, 2) := by decide +kernel
theorem dX9_laysDay_45 : decode cX9_laysDay 45 = .ok (.iload_n 1, 1) := by decide +kernel
theorem dX9_laysDay_46 : decode cX9_laysDay 46 = .ok (.imul, 1) := by decide +kernel
theorem dX9_laysDay_47 : decode cX9_laysDay 47 = .ok (.iconst 3, 1) := by decide +kernel
theorem dX9_laysDay_48 : decode cX9_laysDay 48 = .ok (.iadd, 1) := by decide +kernel
theorem dX9_laysDay_49 : decode cX9_laysDay 49 = .ok (.iload_n 2, 1) := by decide +kernel
theorem dX9_laysDay_50 : decode cX9_laysDay 50 = .ok (.iadd, 1) := by decide +kernel
theorem dX9_laysDay_51 : decode cX9_laysDay 51 = .ok (.iload_n 2, 1) := by decide +kernel
theorem dX9_laysDay_52 : decode cX9_laysDay 52 = .ok (.aload_n 0, 1) := by decide +kernel
theorem dX9_laysDay_53 : decode cX9_laysDay 53 = .ok (.getfield 96, 3) := by decide +kernel
theorem dX9_laysDay_56 : decode cX9_laysDay 56 = .ok (.if_icmp .ge 15, 3) := by decide +kernel
theorem dX9_laysDay_59 : decode cX9_laysDay 59 = .ok (.aload_n 0, 1) := by decide +kernel
theorem dX9_laysDay_60 : decode cX9_laysDay 60 = .ok (.getfield 7, 3) := by decide +kernel
theorem dX9_laysDay_63 : decode cX9_laysDay 63 = .ok (.bipush 26, 2) := by decide +kernel
theorem dX9_laysDay_65 : decode cX9_laysDay 65 = .ok (.iload_n 2, 1) := by decide +kernel
theorem dX9_laysDay_66 : decode cX9_laysDay 66 = .ok (.iadd, 1) := by decide +kernel
theorem dX9_laysDay_67 : decode cX9_laysDay 67 = .ok (.iaload, 1) := by decide +kernel
theorem dX9_laysDay_68 : decode cX9_laysDay 68 = .ok (.goto 4, 3) := by decide +kernel
theorem dX9_laysDay_71 : decode cX9_laysDay 71 = .ok (.iconst 0, 1) := by decide +kernel
theorem dX9_laysDay_72 : decode cX9_laysDay 72 = .ok (.iastore, 1) := by decide +kernel
theorem dX9_laysDay_73 : decode cX9_laysDay 73 = .ok (.iinc 2 1, 3) := by decide +kernel
theorem dX9_laysDay_76 : decode cX9_laysDay 76 = .ok (.goto (-74), 3) := by decide +kernel
theorem dX9_laysDay_79 : decode cX9_laysDay 79 = .ok (.return_, 1) := by decide +kernel
theorem dX9_areLike_0 : decode cX9_areLike 0 = .ok (.iconst 1, 1) := by decide +kernel
theorem dX9_areLike_1 : decode cX9_areLike 1 = .ok (.istore_n 3, 1) := by decide +kernel
theorem dX9_areLike_2 : decode cX9_areLike 2 = .ok (.iconst 0, 1) := by decide +kernel
theorem dX9_areLike_3 : decode cX9_areLike 3 = .ok (.istore 4, 2) := by decide +kernel
theorem dX9_areLike_5 : decode cX9_areLike 5 = .ok (.iload 4, 2) := by decide +kernel
theorem dX9_areLike_7 : decode cX9_areLike 7 = .ok (.bipush 6, 2) := by decide +kernel
theorem dX9_areLike_9 : decode cX9_areLike 9 = .ok (.if_icmp .ge 46, 3) := by decide +kernel
theorem dX9_areLike_12 : decode cX9_areLike 12 = .ok (.iload_n 3, 1) := by decide +kernel
theorem dX9_areLike_13 : decode cX9_areLike 13 = .ok (.ifCond .eq 34, 3) := by decide +kernel
theorem dX9_areLike_16 : decode cX9_areLike 16 = .ok (.aload_n 0, 1) := by decide +kernel
theorem dX9_areLike_17 : decode cX9_areLike 17 = .ok (.getfield 58, 3) := by decide +kernel
theorem dX9_areLike_20 : decode cX9_areLike 20 = .ok (.bipush 6, 2) := by decide +kernel
theorem dX9_areLike_22 : decode cX9_areLike 22 = .ok (.iload_n 1, 1) := by decide +kernel
theorem dX9_areLike_23 : decode cX9_areLike 23 = .ok (.imul, 1) := by decide +kernel
theorem dX9_areLike_24 : decode cX9_areLike 24 = .ok (.iload 4, 2) := by decide +kernel
theorem dX9_areLike_26 : decode cX9_areLike 26 = .ok (.iadd, 1) := by decide +kernel
theorem dX9_areLike_27 : decode cX9_areLike 27 = .ok (.iaload, 1) := by decide +kernel
theorem dX9_areLike_28 : decode cX9_areLike 28 = .ok (.aload_n 0, 1) := by decide +kernel
theorem dX9_areLike_29 : decode cX9_areLike 29 = .ok (.getfield 58, 3) := by decide +kernel
theorem dX9_areLike_32 : decode cX9_areLike 32 = .ok (.bipush 6, 2) := by decide +kernel
theorem dX9_areLike_34 : decode cX9_areLike 34 = .ok (.iload_n 2, 1) := by decide +kernel
theorem dX9_areLike_35 : decode cX9_areLike 35 = .ok (.imul, 1) := by decide +kernel
theorem dX9_areLike_36 : decode cX9_areLike 36 = .ok (.iload 4, 2) := by decide +kernel
theorem dX9_areLike_38 : decode cX9_areLike 38 = .ok (.iadd, 1) := by decide +kernel
theorem dX9_areLike_39 : decode cX9_areLike 39 = .ok (.iaload, 1) := by decide +kernel
theorem dX9_areLike_40 : decode cX9_areLike 40 = .ok (.if_icmp .ne 7, 3) := by decide +kernel
theorem dX9_areLike_43 : decode cX9_areLike 43 = .ok (.iconst 1, 1) := by decide +kernel
theorem dX9_areLike_44 : decode cX9_areLike 44 = .ok (.goto 4, 3) := by decide +kernel
theorem dX9_areLike_47 : decode cX9_areLike 47 = .ok (.iconst 0, 1) := by decide +kernel
theorem dX9_areLike_48 : decode cX9_areLike 48 = .ok (.istore_n 3, 1) := by decide +kernel
theorem dX9_areLike_49 : decode cX9_areLike 49 = .ok (.iinc 4 1, 3) := by decide +kernel
theorem dX9_areLike_52 : decode cX9_areLike 52 = .ok (.goto (-47), 3) := by decide +kernel
theorem dX9_areLike_55 : decode cX9_areLike 55 = .ok (.iload_n 3, 1) := by decide +kernel
theorem dX9_areLike_56 : decode cX9_areLike 56 = .ok (.ireturn, 1) := by decide +kernel
theorem dX9_round_0 : decode cX9_round 0 = .ok (.iload_n 1, 1) := by decide +kernel
theorem dX9_round_1 : decode cX9_round 1 = .ok (.i2l, 1) := by decide +kernel
theorem dX9_round_2 : decode cX9_round 2 = .ok (.lconst 0, 1) := by decide +kernel
theorem dX9_round_3 : decode cX9_round 3 = .ok (.lconst 1, 1) := by decide +kernel
theorem dX9_round_4 : decode cX9_round 4 = .ok (.invokestatic 92, 3) := by decide +kernel
theorem dX9_round_7 : decode cX9_round 7 = .ok (.ifCond .ne 5, 3) := by decide +kernel
theorem dX9_round_10 : decode cX9_round 10 = .ok (.iconst (-1), 1) := by decide +kernel
theorem dX9_round_11 : decode cX9_round 11 = .ok (.ireturn, 1) := by decide +kernel
theorem dX9_round_12 : decode cX9_round 12 = .ok (.aload_n 0, 1) := by decide +kernel
theorem dX9_round_13 : decode cX9_round 13 = .ok (.invokevirtual 226, 3) := by decide +kernel
theorem dX9_round_16 : decode cX9_round 16 = .ok (.aload_n 0, 1) := by decide +kernel
theorem dX9_round_17 : decode cX9_round 17 = .ok (.iconst 0, 1) := by decide +kernel
theorem dX9_round_18 : decode cX9_round 18 = .ok (.invokevirtual 229, 3) := by decide +kernel
theorem dX9_round_21 : decode cX9_round 21 = .ok (.iconst 1, 1) := by decide +kernel
theorem dX9_round_22 : decode cX9_round 22 = .ok (.istore_n 2, 1) := by decide +kernel
theorem dX9_round_23 : decode cX9_round 23 = .ok (.iload_n 2, 1) := by decide +kernel
theorem dX9_round_24 : decode cX9_round 24 = .ok (.bipush 40, 2) := by decide +kernel
theorem dX9_round_26 : decode cX9_round 26 = .ok (.if_icmp .gt 111, 3) := by decide +kernel
theorem dX9_round_29 : decode cX9_round 29 = .ok (.aload_n 0, 1) := by decide +kernel
theorem dX9_round_30 : decode cX9_round 30 = .ok (.getfield 7, 3) := by decide +kernel
theorem dX9_round_33 : decode cX9_round 33 = .ok (.bipush 19, 2) := by decide +kernel
theorem dX9_round_35 : decode cX9_round 35 = .ok (.iconst 0, 1) := by decide +kernel
theorem dX9_round_36 : decode cX9_round 36 = .ok (.iastore, 1) := by decide +kernel
theorem dX9_round_37 : decode cX9_round 37 = .ok (.iconst 0, 1) := by decide +kernel
theorem dX9_round_38 : decode cX9_round 38 = .ok (.istore_n 3, 1) := by decide +kernel
theorem dX9_round_39 : decode cX9_round 39 = .ok (.iload_n 3, 1) := by decide +kernel
theorem dX9_round_40 : decode cX9_round 40 = .ok (.aload_n 0, 1) := by decide +kernel
theorem dX9_round_41 : decode cX9_round 41 = .ok (.getfield 96, 3) := by decide +kernel
theorem dX9_round_44 : decode cX9_round 44 = .ok (.if_icmp .ge 19, 3) := by decide +kernel
theorem dX9_round_47 : decode cX9_round 47 = .ok (.aload_n 0, 1) := by decide +kernel
theorem dX9_round_48 : decode cX9_round 48 = .ok (.getfield 7, 3) := by decide +kernel
theorem dX9_round_51 : decode cX9_round 51 = .ok (.bipush 23, 2) := by decide +kernel
theorem dX9_round_53 : decode cX9_round 53 = .ok (.iload_n 3, 1) := by decide +kernel
theorem dX9_round_54 : decode cX9_round 54 = .ok (.iadd, 1) := by decide +kernel
theorem dX9_round_55 : decode cX9_round 55 = .ok (.iconst 0, 1) := by decide +kernel
theorem dX9_round_56 : decode cX9_round 56 = .ok (.iastore, 1) := by decide +kernel
theorem dX9_round_57 : decode cX9_round 57 = .ok (.iinc 3 1, 3) := by decide +kernel
theorem dX9_round_60 : decode cX9_round 60 = .ok (.goto (-21), 3) := by decide +kernel
theorem dX9_round_63 : decode cX9_round 63 = .ok (.iconst 0, 1) := by decide +kernel
theorem dX9_round_64 : decode cX9_round 64 = .ok (.istore_n 3, 1) := by decide +kernel
theorem dX9_round_65 : decode cX9_round 65 = .ok (.iload_n 3, 1) := by decide +kernel
theorem dX9_round_66 : decode cX9_round 66 = .ok (.aload_n 0, 1) := by decide +kernel
theorem dX9_round_67 : decode cX9_round 67 = .ok (.getfield 99, 3) := by decide +kernel
theorem dX9_round_70 : decode cX9_round 70 = .ok (.if_icmp .ge 24, 3) := by decide +kernel
theorem dX9_round_73 : decode cX9_round 73 = .ok (.aload_n 0, 1) := by decide +kernel
theorem dX9_round_74 : decode cX9_round 74 = .ok (.bipush 19, 2) := by decide +kernel
theorem dX9_round_76 : decode cX9_round 76 = .ok (.aload_n 0, 1) := by decide +kernel
theorem dX9_round_77 : decode cX9_round 77 = .ok (.bipush 19, 2) := by decide +kernel
theorem dX9_round_79 : decode cX9_round 79 = .ok (.iload_n 3, 1) := by decide +kernel
theorem dX9_round_80 : decode cX9_round 80 = .ok (.invokevirtual 211, 3) := by decide +kernel
theorem dX9_round_83 : decode cX9_round 83 = .ok (.iload_n 3, 1) := by decide +kernel
theorem dX9_round_84 : decode cX9_round 84 = .ok (.invokevirtual 203, 3) := by decide +kernel
theorem dX9_round_87 : decode cX9_round 87 = .ok (.pop, 1) := by decide +kernel
theorem dX9_round_88 : decode cX9_round 88 = .ok (.iinc 3 1, 3) := by decide +kernel
theorem dX9_round_91 : decode cX9_round 91 = .ok (.goto (-26), 3) := by decide +kernel
theorem dX9_round_94 : decode cX9_round 94 = .ok (.aload_n 0, 1) := by decide +kernel
theorem dX9_round_95 : decode cX9_round 95 = .ok (.iload_n 2, 1) := by decide +kernel
theorem dX9_round_96 : decode cX9_round 96 = .ok (.invokevirtual 229, 3) := by decide +kernel
theorem dX9_round_99 : decode cX9_round 99 = .ok (.iconst 0, 1) := by decide +kernel
theorem dX9_round_100 : decode cX9_round 100 = .ok (.istore_n 3, 1) := by decide +kernel
theorem dX9_round_101 : decode cX9_round 101 = .ok (.iload_n 3, 1) := by decide +kernel
theorem dX9_round_102 : decode cX9_round 102 = .ok (.iload_n 2, 1) := by decide +kernel
theorem dX9_round_103 : decode cX9_round 103 = .ok (.if_icmp .ge 28, 3) := by decide +kernel
theorem dX9_round_106 : decode cX9_round 106 = .ok (.aload_n 0, 1) := by decide +kernel
theorem dX9_round_107 : decode cX9_round 107 = .ok (.iload_n 3, 1) := by decide +kernel
theorem dX9_round_108 : decode cX9_round 108 = .ok (.iload_n 2, 1) := by decide +kernel
theorem dX9_round_109 : decode cX9_round 109 = .ok (.invokevirtual 233, 3) := by decide +kernel
theorem dX9_round_112 : decode cX9_round 112 = .ok (.ifCond .eq 13, 3) := by decide +kernel
theorem dX9_round_115 : decode cX9_round 115 = .ok (.iload_n 1, 1) := by decide +kernel
theorem dX9_round_116 : decode cX9_round 116 = .ok (.ifCond .ne 7, 3) := by decide +kernel
theorem dX9_round_119 : decode cX9_round 119 = .ok (.iload_n 2, 1) := by decide +kernel
theorem dX9_round_120 : decode cX9_round 120 = .ok (.goto 4, 3) := by decide +kernel
theorem dX9_round_123 : decode cX9_round 123 = .ok (.iload_n 3, 1) := by decide +kernel
theorem dX9_round_124 : decode cX9_round 124 = .ok (.ireturn, 1) := by decide +kernel
theorem dX9_round_125 : decode cX9_round 125 = .ok (.iinc 3 1, 3) := by decide +kernel
theorem dX9_round_128 : decode cX9_round 128 = .ok (.goto (-27), 3) := by decide +kernel
theorem dX9_round_131 : decode cX9_round 131 = .ok (.iinc 2 1, 3) := by decide +kernel
theorem dX9_round_134 : decode cX9_round 134 = .ok (.goto (-111), 3) := by decide +kernel
theorem dX9_round_137 : decode cX9_round 137 = .ok (.bipush (-4), 2) := by decide +kernel
theorem dX9_round_139 : decode cX9_round 139 = .ok (.ireturn, 1) := by decide +kernel
theorem dX9_weepBy_0 : decode cX9_weepBy 0 = .ok (.aload_n 0, 1) := by decide +kernel
theorem dX9_weepBy_1 : decode cX9_weepBy 1 = .ok (.invokevirtual 226, 3) := by decide +kernel
theorem dX9_weepBy_4 : decode cX9_weepBy 4 = .ok (.iconst 0, 1) := by decide +kernel
theorem dX9_weepBy_5 : decode cX9_weepBy 5 = .ok (.istore 4, 2) := by decide +kernel
theorem dX9_weepBy_7 : decode cX9_weepBy 7 = .ok (.iload_n 3, 1) := by decide +kernel
theorem dX9_weepBy_8 : decode cX9_weepBy 8 = .ok (.ifCond .eq 30, 3) := by decide +kernel
theorem dX9_weepBy_11 : decode cX9_weepBy 11 = .ok (.iload 4, 2) := by decide +kernel
theorem dX9_weepBy_13 : decode cX9_weepBy 13 = .ok (.aload_n 0, 1) := by decide +kernel
theorem dX9_weepBy_14 : decode cX9_weepBy 14 = .ok (.bipush 19, 2) := by decide +kernel
theorem dX9_weepBy_16 : decode cX9_weepBy 16 = .ok (.aload_n 0, 1) := by decide +kernel
theorem dX9_weepBy_17 : decode cX9_weepBy 17 = .ok (.bipush 19, 2) := by decide +kernel
theorem dX9_weepBy_19 : decode cX9_weepBy 19 = .ok (.iload_n 2, 1) := by decide +kernel
theorem dX9_weepBy_20 : decode cX9_weepBy 20 = .ok (.invokevirtual 211, 3) := by decide +kernel
theorem dX9_weepBy_23 : decode cX9_weepBy 23 = .ok (.iload_n 2, 1) := by decide +kernel
theorem dX9_weepBy_24 : decode cX9_weepBy 24 = .ok (.invokevirtual 203, 3) := by decide +kernel
theorem dX9_weepBy_27 : decode cX9_weepBy 27 = .ok (.ifCond .eq 7, 3) := by decide +kernel
theorem dX9_weepBy_30 : decode cX9_weepBy 30 = .ok (.iconst 1, 1) := by decide +kernel
theorem dX9_weepBy_31 : decode cX9_weepBy 31 = .ok (.goto 4, 3) := by decide +kernel
theorem dX9_weepBy_34 : decode cX9_weepBy 34 = .ok (.iconst 0, 1) := by decide +kernel
theorem dX9_weepBy_35 : decode cX9_weepBy 35 = .ok (.iadd, 1) := by decide +kernel
theorem dX9_weepBy_36 : decode cX9_weepBy 36 = .ok (.istore 4, 2) := by decide +kernel
theorem dX9_weepBy_38 : decode cX9_weepBy 38 = .ok (.iconst 0, 1) := by decide +kernel
theorem dX9_weepBy_39 : decode cX9_weepBy 39 = .ok (.istore 5, 2) := by decide +kernel
theorem dX9_weepBy_41 : decode cX9_weepBy 41 = .ok (.iload 5, 2) := by decide +kernel
theorem dX9_weepBy_43 : decode cX9_weepBy 43 = .ok (.aload_n 0, 1) := by decide +kernel
theorem dX9_weepBy_44 : decode cX9_weepBy 44 = .ok (.getfield 99, 3) := by decide +kernel
theorem dX9_weepBy_47 : decode cX9_weepBy 47 = .ok (.if_icmp .ge 53, 3) := by decide +kernel
theorem dX9_weepBy_50 : decode cX9_weepBy 50 = .ok (.iload_n 1, 1) := by decide +kernel
theorem dX9_weepBy_51 : decode cX9_weepBy 51 = .ok (.iload 5, 2) := by decide +kernel
theorem dX9_weepBy_53 : decode cX9_weepBy 53 = .ok (.invokestatic 197, 3) := by decide +kernel
theorem dX9_weepBy_56 : decode cX9_weepBy 56 = .ok (.ifCond .eq 38, 3) := by decide +kernel
theorem dX9_weepBy_59 : decode cX9_weepBy 59 = .ok (.iload 5, 2) := by decide +kernel
theorem dX9_weepBy_61 : decode cX9_weepBy 61 = .ok (.iload_n 2, 1) := by decide +kernel
theorem dX9_weepBy_62 : decode cX9_weepBy 62 = .ok (.if_icmp .eq 32, 3) := by decide +kernel
theorem dX9_weepBy_65 : decode cX9_weepBy 65 = .ok (.iload 4, 2) := by decide +kernel
theorem dX9_weepBy_67 : decode cX9_weepBy 67 = .ok (.aload_n 0, 1) := by decide +kernel
theorem dX9_weepBy_68 : decode cX9_weepBy 68 = .ok (.bipush 19, 2) := by decide +kernel
theorem dX9_weepBy_70 : decode cX9_weepBy 70 = .ok (.aload_n 0, 1) := by decide +kernel
theorem dX9_weepBy_71 : decode cX9_weepBy 71 = .ok (.bipush 19, 2) := by decide +kernel
theorem dX9_weepBy_73 : decode cX9_weepBy 73 = .ok (.iload 5, 2) := by decide +kernel
theorem dX9_weepBy_75 : decode cX9_weepBy 75 = .ok (.invokevirtual 211, 3) := by decide +kernel
theorem dX9_weepBy_78 : decode cX9_weepBy 78 = .ok (.iload 5, 2) := by decide +kernel
theorem dX9_weepBy_80 : decode cX9_weepBy 80 = .ok (.invokevirtual 203, 3) := by decide +kernel
theorem dX9_weepBy_83 : decode cX9_weepBy 83 = .ok (.ifCond .eq 7, 3) := by decide +kernel
theorem dX9_weepBy_86 : decode cX9_weepBy 86 = .ok (.iconst 1, 1) := by decide +kernel
theorem dX9_weepBy_87 : decode cX9_weepBy 87 = .ok (.goto 4, 3) := by decide +kernel
theorem dX9_weepBy_90 : decode cX9_weepBy 90 = .ok (.iconst 0, 1) := by decide +kernel
theorem dX9_weepBy_91 : decode cX9_weepBy 91 = .ok (.iadd, 1) := by decide +kernel
theorem dX9_weepBy_92 : decode cX9_weepBy 92 = .ok (.istore 4, 2) := by decide +kernel
theorem dX9_weepBy_94 : decode cX9_weepBy 94 = .ok (.iinc 5 1, 3) := by decide +kernel
theorem dX9_weepBy_97 : decode cX9_weepBy 97 = .ok (.goto (-56), 3) := by decide +kernel
theorem dX9_weepBy_100 : decode cX9_weepBy 100 = .ok (.iload_n 3, 1) := by decide +kernel
theorem dX9_weepBy_101 : decode cX9_weepBy 101 = .ok (.ifCond .ne 30, 3) := by decide +kernel
theorem dX9_weepBy_104 : decode cX9_weepBy 104 = .ok (.iload 4, 2) := by decide +kernel
theorem dX9_weepBy_106 : decode cX9_weepBy 106 = .ok (.aload_n 0, 1) := by decide +kernel
theorem dX9_weepBy_107 : decode cX9_weepBy 107 = .ok (.bipush 19, 2) := by decide +kernel
theorem dX9_weepBy_109 : decode cX9_weepBy 109 = .ok (.aload_n 0, 1) := by decide +kernel
theorem dX9_weepBy_110 : decode cX9_weepBy 110 = .ok (.bipush 19, 2) := by decide +kernel
theorem dX9_weepBy_112 : decode cX9_weepBy 112 = .ok (.iload_n 2, 1) := by decide +kernel
theorem dX9_weepBy_113 : decode cX9_weepBy 113 = .ok (.invokevirtual 211, 3) := by decide +kernel
theorem dX9_weepBy_116 : decode cX9_weepBy 116 = .ok (.iload_n 2, 1) := by decide +kernel
theorem dX9_weepBy_117 : decode cX9_weepBy 117 = .ok (.invokevirtual 203, 3) := by decide +kernel
theorem dX9_weepBy_120 : decode cX9_weepBy 120 = .ok (.ifCond .eq 7, 3) := by decide +kernel
theorem dX9_weepBy_123 : decode cX9_weepBy 123 = .ok (.iconst 1, 1) := by decide +kernel
theorem dX9_weepBy_124 : decode cX9_weepBy 124 = .ok (.goto 4, 3) := by decide +kernel
theorem dX9_weepBy_127 : decode cX9_weepBy 127 = .ok (.iconst 0, 1) := by decide +kernel
theorem dX9_weepBy_128 : decode cX9_weepBy 128 = .ok (.iadd, 1) := by decide +kernel
theorem dX9_weepBy_129 : decode cX9_weepBy 129 = .ok (.istore 4, 2) := by decide +kernel
theorem dX9_weepBy_131 : decode cX9_weepBy 131 = .ok (.iload 4, 2) := by decide +kernel
theorem dX9_weepBy_133 : decode cX9_weepBy 133 = .ok (.ireturn, 1) := by decide +kernel
theorem dX9_mends_0 : decode cX9_mends 0 = .ok (.aload_n 0, 1) := by decide +kernel
theorem dX9_mends_1 : decode cX9_mends 1 = .ok (.iload_n 1, 1) := by decide +kernel
theorem dX9_mends_2 : decode cX9_mends 2 = .ok (.invokevirtual 169, 3) := by decide +kernel
theorem dX9_mends_5 : decode cX9_mends 5 = .ok (.ifCond .ne 5, 3) := by decide +kernel
theorem dX9_mends_8 : decode cX9_mends 8 = .ok (.iconst (-1), 1) := by decide +kernel
theorem dX9_mends_9 : decode cX9_mends 9 = .ok (.ireturn, 1) := by decide +kernel
theorem dX9_mends_10 : decode cX9_mends 10 = .ok (.aload_n 0, 1) := by decide +kernel
theorem dX9_mends_11 : decode cX9_mends 11 = .ok (.getfield 7, 3) := by decide +kernel
theorem dX9_mends_14 : decode cX9_mends 14 = .ok (.bipush 10, 2) := by decide +kernel
theorem dX9_mends_16 : decode cX9_mends 16 = .ok (.iaload, 1) := by decide +kernel
theorem dX9_mends_17 : decode cX9_mends 17 = .ok (.iload_n 1, 1) := by decide +kernel
theorem dX9_mends_18 : decode cX9_mends 18 = .ok (.invokestatic 197, 3) := by decide +kernel
theorem dX9_mends_21 : decode cX9_mends 21 = .ok (.ifCond .ne 13, 3) := by decide +kernel
theorem dX9_mends_24 : decode cX9_mends 24 = .ok (.aload_n 0, 1) := by decide +kernel
theorem dX9_mends_25 : decode cX9_mends 25 = .ok (.getfield 16, 3) := by decide +kernel
theorem dX9_mends_28 : decode cX9_mends 28 = .ok (.iload_n 1, 1) := by decide +kernel
theorem dX9_mends_29 : decode cX9_mends 29 = .ok (.iaload, 1) := by decide +kernel
theorem dX9_mends_30 : decode cX9_mends 30 = .ok (.iconst 3, 1) := by decide +kernel
theorem dX9_mends_31 : decode cX9_mends 31 = .ok (.if_icmp .eq 6, 3) := by decide +kernel
theorem dX9_mends_34 : decode cX9_mends 34 = .ok (.bipush (-2), 2) := by decide +kernel
theorem dX9_mends_36 : decode cX9_mends 36 = .ok (.ireturn, 1) := by decide +kernel
theorem dX9_mends_37 : decode cX9_mends 37 = .ok (.aload_n 0, 1) := by decide +kernel
theorem dX9_mends_38 : decode cX9_mends 38 = .ok (.aload_n 0, 1) := by decide +kernel
theorem dX9_mends_39 : decode cX9_mends 39 = .ok (.invokevirtual 214, 3) := by decide +kernel
theorem dX9_mends_42 : decode cX9_mends 42 = .ok (.iload_n 1, 1) := by decide +kernel
theorem dX9_mends_43 : decode cX9_mends 43 = .ok (.iconst 0, 1) := by decide +kernel
theorem dX9_mends_44 : decode cX9_mends 44 = .ok (.invokevirtual 236, 3) := by decide +kernel
theorem dX9_mends_47 : decode cX9_mends 47 = .ok (.aload_n 0, 1) := by decide +kernel
theorem dX9_mends_48 : decode cX9_mends 48 = .ok (.aload_n 0, 1) := by decide +kernel
theorem dX9_mends_49 : decode cX9_mends 49 = .ok (.invokevirtual 214, 3) := by decide +kernel
theorem dX9_mends_52 : decode cX9_mends 52 = .ok (.iload_n 1, 1) := by decide +kernel
theorem dX9_mends_53 : decode cX9_mends 53 = .ok (.iconst 1, 1) := by decide +kernel
theorem dX9_mends_54 : decode cX9_mends 54 = .ok (.invokevirtual 236, 3) := by decide +kernel
theorem dX9_mends_57 : decode cX9_mends 57 = .ok (.isub, 1) := by decide +kernel
theorem dX9_mends_58 : decode cX9_mends 58 = .ok (.bipush 10, 2) := by decide +kernel
theorem dX9_mends_60 : decode cX9_mends 60 = .ok (.iadd, 1) := by decide +kernel
theorem dX9_mends_61 : decode cX9_mends 61 = .ok (.ireturn, 1) := by decide +kernel
theorem dX9_rivals_0 : decode cX9_rivals 0 = .ok (.aload_n 0, 1) := by decide +kernel
theorem dX9_rivals_1 : decode cX9_rivals 1 = .ok (.iload_n 1, 1) := by decide +kernel
theorem dX9_rivals_2 : decode cX9_rivals 2 = .ok (.invokevirtual 166, 3) := by decide +kernel
theorem dX9_rivals_5 : decode cX9_rivals 5 = .ok (.ifCond .eq 39, 3) := by decide +kernel
theorem dX9_rivals_8 : decode cX9_rivals 8 = .ok (.aload_n 0, 1) := by decide +kernel
theorem dX9_rivals_9 : decode cX9_rivals 9 = .ok (.iload_n 2, 1) := by decide +kernel
theorem dX9_rivals_10 : decode cX9_rivals 10 = .ok (.invokevirtual 166, 3) := by decide +kernel
theorem dX9_rivals_13 : decode cX9_rivals 13 = .ok (.ifCond .eq 31, 3) := by decide +kernel
theorem dX9_rivals_16 : decode cX9_rivals 16 = .ok (.iload_n 1, 1) := by decide +kernel
theorem dX9_rivals_17 : decode cX9_rivals 17 = .ok (.iload_n 2, 1) := by decide +kernel
theorem dX9_rivals_18 : decode cX9_rivals 18 = .ok (.if_icmp .eq 26, 3) := by decide +kernel
theorem dX9_rivals_21 : decode cX9_rivals 21 = .ok (.iload_n 3, 1) := by decide +kernel
theorem dX9_rivals_22 : decode cX9_rivals 22 = .ok (.i2l, 1) := by decide +kernel
theorem dX9_rivals_23 : decode cX9_rivals 23 = .ok (.lconst 1, 1) := by decide +kernel
theorem dX9_rivals_24 : decode cX9_rivals 24 = .ok (.ldc2_w 240, 3) := by decide +kernel
theorem dX9_rivals_27 : decode cX9_rivals 27 = .ok (.invokestatic 92, 3) := by decide +kernel
theorem dX9_rivals_30 : decode cX9_rivals 30 = .ok (.ifCond .eq 14, 3) := by decide +kernel
theorem dX9_rivals_33 : decode cX9_rivals 33 = .ok (.iload 4, 2) := by decide +kernel
theorem dX9_rivals_35 : decode cX9_rivals 35 = .ok (.i2l, 1) := by decide +kernel
theorem dX9_rivals_36 : decode cX9_rivals 36 = .ok (.lconst 0, 1) := by decide +kernel
theorem dX9_rivals_37 : decode cX9_rivals 37 = .ok (.lconst 1, 1) := by decide +kernel
theorem dX9_rivals_38 : decode cX9_rivals 38 = .ok (.invokestatic 92, 3) := by decide +kernel
theorem dX9_rivals_41 : decode cX9_rivals 41 = .ok (.ifCond .ne 5, 3) := by decide +kernel
theorem dX9_rivals_44 : decode cX9_rivals 44 = .ok (.iconst (-1), 1) := by decide +kernel
theorem dX9_rivals_45 : decode cX9_rivals 45 = .ok (.ireturn, 1) := by decide +kernel
theorem dX9_rivals_46 : decode cX9_rivals 46 = .ok (.iload_n 3, 1) := by decide +kernel
theorem dX9_rivals_47 : decode cX9_rivals 47 = .ok (.aload_n 0, 1) := by decide +kernel
theorem dX9_rivals_48 : decode cX9_rivals 48 = .ok (.invokevirtual 214, 3) := by decide +kernel
theorem dX9_rivals_51 : decode cX9_rivals 51 = .ok (.invokestatic 217, 3) := by decide +kernel
theorem dX9_rivals_54 : decode cX9_rivals 54 = .ok (.if_icmp .ge 7, 3) := by decide +kernel
theorem dX9_rivals_57 : decode cX9_rivals 57 = .ok (.iload_n 3, 1) := by decide +kernel
theorem dX9_rivals_58 : decode cX9_rivals 58 = .ok (.goto 10, 3) := by decide +kernel
theorem dX9_rivals_61 : decode cX9_rivals 61 = .ok (.aload_n 0, 1) := by decide +kernel
theorem dX9_rivals_62 : decode cX9_rivals 62 = .ok (.invokevirtual 214, 3) := by decide +kernel
theorem dX9_rivals_65 : decode cX9_rivals 65 = .ok (.invokestatic 217, 3) := by decide +kernel
theorem dX9_rivals_68 : decode cX9_rivals 68 = .ok (.istore 5, 2) := by decide +kernel
theorem dX9_rivals_70 : decode cX9_rivals 70 = .ok (.iconst 1, 1) := by decide +kernel
theorem dX9_rivals_71 : decode cX9_rivals 71 = .ok (.istore 6, 2) := by decide +kernel
theorem dX9_rivals_73 : decode cX9_rivals 73 = .ok (.iconst 0, 1) := by decide +kernel
theorem dX9_rivals_74 : decode cX9_rivals 74 = .ok (.istore 7, 2) := by decide +kernel
theorem dX9_rivals_76 : decode cX9_rivals 76 = .ok (.iload 7, 2) := by decide +kernel
theorem dX9_rivals_78 : decode cX9_rivals 78 = .ok (.iload 5, 2) := by decide +kernel
theorem dX9_rivals_80 : decode cX9_rivals 80 = .ok (.if_icmp .ge 18, 3) := by decide +kernel
theorem dX9_rivals_83 : decode cX9_rivals 83 = .ok (.iload 6, 2) := by decide +kernel
theorem dX9_rivals_85 : decode cX9_rivals 85 = .ok (.aload_n 0, 1) := by decide +kernel
theorem dX9_rivals_86 : decode cX9_rivals 86 = .ok (.getfield 99, 3) := by decide +kernel
theorem dX9_rivals_89 : decode cX9_rivals 89 = .ok (.imul, 1) := by decide +kernel
theorem dX9_rivals_90 : decode cX9_rivals 90 = .ok (.istore 6, 2) := by decide +kernel
theorem dX9_rivals_92 : decode cX9_rivals 92 = .ok (.iinc 7 1, 3) := by decide +kernel
theorem dX9_rivals_95 : decode cX9_rivals 95 = .ok (.goto (-19), 3) := by decide +kernel
theorem dX9_rivals_98 : decode cX9_rivals 98 = .ok (.iconst 0, 1) := by decide +kernel
theorem dX9_rivals_99 : decode cX9_rivals 99 = .ok (.istore 7, 2) := by decide +kernel
theorem dX9_rivals_101 : decode cX9_rivals 101 = .ok (.iload 7, 2) := by decide +kernel
theorem dX9_rivals_103 : decode cX9_rivals 103 = .ok (.iload 6, 2) := by decide +kernel
theorem dX9_rivals_105 : decode cX9_rivals 105 = .ok (.if_icmp .ge 161, 3) := by decide +kernel
theorem dX9_rivals_108 : decode cX9_rivals 108 = .ok (.aload_n 0, 1) := by decide +kernel
theorem dX9_rivals_109 : decode cX9_rivals 109 = .ok (.invokevirtual 226, 3) := by decide +kernel
theorem dX9_rivals_112 : decode cX9_rivals 112 = .ok (.iconst 0, 1) := by decide +kernel
theorem dX9_rivals_113 : decode cX9_rivals 113 = .ok (.istore 8, 2) := by decide +kernel
theorem dX9_rivals_115 : decode cX9_rivals 115 = .ok (.iconst 1, 1) := by decide +kernel
theorem dX9_rivals_116 : decode cX9_rivals 116 = .ok (.istore 9, 2) := by decide +kernel
theorem dX9_rivals_118 : decode cX9_rivals 118 = .ok (.iload 6, 2) := by decide +kernel
theorem dX9_rivals_120 : decode cX9_rivals 120 = .ok (.istore 10, 2) := by decide +kernel
theorem dX9_rivals_122 : decode cX9_rivals 122 = .ok (.iconst 0, 1) := by decide +kernel
theorem dX9_rivals_123 : decode cX9_rivals 123 = .ok (.istore 11, 2) := by decide +kernel
theorem dX9_rivals_125 : decode cX9_rivals 125 = .ok (.iload 11, 2) := by decide +kernel
theorem dX9_rivals_127 : decode cX9_rivals 127 = .ok (.iload 5, 2) := by decide +kernel
theorem dX9_rivals_129 : decode cX9_rivals 129 = .ok (.if_icmp .ge 112, 3) := by decide +kernel
theorem dX9_rivals_132 : decode cX9_rivals 132 = .ok (.iload 9, 2) := by decide +kernel
theorem dX9_rivals_134 : decode cX9_rivals 134 = .ok (.ifCond .eq 107, 3) := by decide +kernel
theorem dX9_rivals_137 : decode cX9_rivals 137 = .ok (.iload 10, 2) := by decide +kernel
theorem dX9_rivals_139 : decode cX9_rivals 139 = .ok (.aload_n 0, 1) := by decide +kernel
theorem dX9_rivals_140 : decode cX9_rivals 140 = .ok (.getfield 99, 3) := by decide +kernel
theorem dX9_rivals_143 : decode cX9_rivals 143 = .ok (.idiv, 1) := by decide +kernel
theorem dX9_rivals_144 : decode cX9_rivals 144 = .ok (.istore 10, 2) := by decide +kernel
theorem dX9_rivals_146 : decode cX9_rivals 146 = .ok (.iload 7, 2) := by decide +kernel
theorem dX9_rivals_148 : decode cX9_rivals 148 = .ok (.iload 10, 2) := by decide +kernel
theorem dX9_rivals_150 : decode cX9_rivals 150 = .ok (.idiv, 1) := by decide +kernel
theorem dX9_rivals_151 : decode cX9_rivals 151 = .ok (.aload_n 0, 1) := by decide +kernel
theorem dX9_rivals_152 : decode cX9_rivals 152 = .ok (.getfield 99, 3) := by decide +kernel
theorem dX9_rivals_155 : decode cX9_rivals 155 = .ok (.irem, 1) := by decide +kernel
theorem dX9_rivals_156 : decode cX9_rivals 156 = .ok (.istore 12, 2) := by decide +kernel
theorem dX9_rivals_158 : decode cX9_rivals 158 = .ok (.aload_n 0, 1) := by decide +kernel
theorem dX9_rivals_159 : decode cX9_rivals 159 = .ok (.getfield 7, 3) := by decide +kernel
theorem dX9_rivals_162 : decode cX9_rivals 162 = .ok (.bipush 29, 2) := by decide +kernel
theorem dX9_rivals_164 : decode cX9_rivals 164 = .ok (.iaload, 1) := by decide +kernel
theorem dX9_rivals_165 : decode cX9_rivals 165 = .ok (.iload 12, 2) := by decide +kernel
theorem dX9_rivals_167 : decode cX9_rivals 167 = .ok (.invokestatic 197, 3) := by decide +kernel
theorem dX9_rivals_170 : decode cX9_rivals 170 = .ok (.ifCond .ne 7, 3) := by decide +kernel
theorem dX9_rivals_173 : decode cX9_rivals 173 = .ok (.iconst 1, 1) := by decide +kernel
theorem dX9_rivals_174 : decode cX9_rivals 174 = .ok (.goto 4, 3) := by decide +kernel
theorem dX9_rivals_177 : decode cX9_rivals 177 = .ok (.iconst 0, 1) := by decide +kernel
theorem dX9_rivals_178 : decode cX9_rivals 178 = .ok (.istore 9, 2) := by decide +kernel
theorem dX9_rivals_180 : decode cX9_rivals 180 = .ok (.iload 9, 2) := by decide +kernel
theorem dX9_rivals_182 : decode cX9_rivals 182 = .ok (.ifCond .eq 53, 3) := by decide +kernel
theorem dX9_rivals_185 : decode cX9_rivals 185 = .ok (.aload_n 0, 1) := by decide +kernel
theorem dX9_rivals_186 : decode cX9_rivals 186 = .ok (.bipush 19, 2) := by decide +kernel
theorem dX9_rivals_188 : decode cX9_rivals 188 = .ok (.iload 11, 2) := by decide +kernel
theorem dX9_rivals_190 : decode cX9_rivals 190 = .ok (.iconst 2, 1) := by decide +kernel
theorem dX9_rivals_191 : decode cX9_rivals 191 = .ok (.irem, 1) := by decide +kernel
theorem dX9_rivals_192 : decode cX9_rivals 192 = .ok (.ifCond .ne 7, 3) := by decide +kernel
theorem dX9_rivals_195 : decode cX9_rivals 195 = .ok (.iload_n 1, 1) := by decide +kernel
theorem dX9_rivals_196 : decode cX9_rivals 196 = .ok (.goto 4, 3) := by decide +kernel
theorem dX9_rivals_199 : decode cX9_rivals 199 = .ok (.iload_n 2, 1) := by decide +kernel
theorem dX9_rivals_200 : decode cX9_rivals 200 = .ok (.iload 12, 2) := by decide +kernel
theorem dX9_rivals_202 : decode cX9_rivals 202 = .ok (.invokevirtual 203, 3) := by decide +kernel
theorem dX9_rivals_205 : decode cX9_rivals 205 = .ok (.ifCond .eq 7, 3) := by decide +kernel
theorem dX9_rivals_208 : decode cX9_rivals 208 = .ok (.iconst 1, 1) := by decide +kernel
theorem dX9_rivals_209 : decode cX9_rivals 209 = .ok (.goto 4, 3) := by decide +kernel
theorem dX9_rivals_212 : decode cX9_rivals 212 = .ok (.iconst 0, 1) := by decide +kernel
theorem dX9_rivals_213 : decode cX9_rivals 213 = .ok (.istore 13, 2) := by decide +kernel
theorem dX9_rivals_215 : decode cX9_rivals 215 = .ok (.iload 8, 2) := by decide +kernel
theorem dX9_rivals_217 : decode cX9_rivals 217 = .ok (.iload 11, 2) := by decide +kernel
theorem dX9_rivals_219 : decode cX9_rivals 219 = .ok (.iconst 2, 1) := by decide +kernel
theorem dX9_rivals_220 : decode cX9_rivals 220 = .ok (.irem, 1) := by decide +kernel
theorem dX9_rivals_221 : decode cX9_rivals 221 = .ok (.ifCond .ne 8, 3) := by decide +kernel
theorem dX9_rivals_224 : decode cX9_rivals 224 = .ok (.iload 13, 2) := by decide +kernel
theorem dX9_rivals_226 : decode cX9_rivals 226 = .ok (.goto 6, 3) := by decide +kernel
theorem dX9_rivals_229 : decode cX9_rivals 229 = .ok (.iload 13, 2) := by decide +kernel
theorem dX9_rivals_231 : decode cX9_rivals 231 = .ok (.ineg, 1) := by decide +kernel
theorem dX9_rivals_232 : decode cX9_rivals 232 = .ok (.iadd, 1) := by decide +kernel
theorem dX9_rivals_233 : decode cX9_rivals 233 = .ok (.istore 8, 2) := by decide +kernel
theorem dX9_rivals_235 : decode cX9_rivals 235 = .ok (.iinc 11 1, 3) := by decide +kernel
theorem dX9_rivals_238 : decode cX9_rivals 238 = .ok (.goto (-113), 3) := by decide +kernel
theorem dX9_rivals_241 : decode cX9_rivals 241 = .ok (.aload_n 0, 1) := by decide +kernel
theorem dX9_rivals_242 : decode cX9_rivals 242 = .ok (.getfield 61, 3) := by decide +kernel
theorem dX9_rivals_245 : decode cX9_rivals 245 = .ok (.iload 7, 2) := by decide +kernel
theorem dX9_rivals_247 : decode cX9_rivals 247 = .ok (.iload 9, 2) := by decide +kernel
theorem dX9_rivals_249 : decode cX9_rivals 249 = .ok (.ifCond .eq 8, 3) := by decide +kernel
theorem dX9_rivals_252 : decode cX9_rivals 252 = .ok (.iload 8, 2) := by decide +kernel
theorem dX9_rivals_254 : decode cX9_rivals 254 = .ok (.goto 5, 3) := by decide +kernel
theorem dX9_rivals_257 : decode cX9_rivals 257 = .ok (.ldc 220, 2) := by decide +kernel
theorem dX9_rivals_259 : decode cX9_rivals 259 = .ok (.iastore, 1) := by decide +kernel
theorem dX9_rivals_260 : decode cX9_rivals 260 = .ok (.iinc 7 1, 3) := by decide +kernel
theorem dX9_rivals_263 : decode cX9_rivals 263 = .ok (.goto (-162), 3) := by decide +kernel
theorem dX9_rivals_266 : decode cX9_rivals 266 = .ok (.bipush (-4), 2) := by decide +kernel
theorem dX9_rivals_268 : decode cX9_rivals 268 = .ok (.istore 7, 2) := by decide +kernel
theorem dX9_rivals_270 : decode cX9_rivals 270 = .ok (.iload 6, 2) := by decide +kernel
theorem dX9_rivals_272 : decode cX9_rivals 272 = .ok (.istore 8, 2) := by decide +kernel
theorem dX9_rivals_274 : decode cX9_rivals 274 = .ok (.iload 5, 2) := by decide +kernel
theorem dX9_rivals_276 : decode cX9_rivals 276 = .ok (.iconst 1, 1) := by decide +kernel
theorem dX9_rivals_277 : decode cX9_rivals 277 = .ok (.isub, 1) := by decide +kernel
theorem dX9_rivals_278 : decode cX9_rivals 278 = .ok (.istore 9, 2) := by decide +kernel
theorem dX9_rivals_280 : decode cX9_rivals 280 = .ok (.iload 9, 2) := by decide +kernel
theorem dX9_rivals_282 : decode cX9_rivals 282 = .ok (.ifCond .lt 155, 3) := by decide +kernel
theorem dX9_rivals_285 : decode cX9_rivals 285 = .ok (.iload 8, 2) := by decide +kernel
theorem dX9_rivals_287 : decode cX9_rivals 287 = .ok (.aload_n 0, 1) := by decide +kernel
theorem dX9_rivals_288 : decode cX9_rivals 288 = .ok (.getfield 99, 3) := by decide +kernel
theorem dX9_rivals_291 : decode cX9_rivals 291 = .ok (.idiv, 1) := by decide +kernel
theorem dX9_rivals_292 : decode cX9_rivals 292 = .ok (.istore 8, 2) := by decide +kernel
theorem dX9_rivals_294 : decode cX9_rivals 294 = .ok (.iconst 0, 1) := by decide +kernel
theorem dX9_rivals_295 : decode cX9_rivals 295 = .ok (.istore 10, 2) := by decide +kernel
theorem dX9_rivals_297 : decode cX9_rivals 297 = .ok (.iload 10, 2) := by decide +kernel
theorem dX9_rivals_299 : decode cX9_rivals 299 = .ok (.iload 8, 2) := by decide +kernel
theorem dX9_rivals_301 : decode cX9_rivals 301 = .ok (.if_icmp .ge 130, 3) := by decide +kernel
theorem dX9_rivals_304 : decode cX9_rivals 304 = .ok (.ldc 220, 2) := by decide +kernel
theorem dX9_rivals_306 : decode cX9_rivals 306 = .ok (.istore 11, 2) := by decide +kernel
theorem dX9_rivals_308 : decode cX9_rivals 308 = .ok (.iconst 0, 1) := by decide +kernel
theorem dX9_rivals_309 : decode cX9_rivals 309 = .ok (.istore 12, 2) := by decide +kernel
theorem dX9_rivals_311 : decode cX9_rivals 311 = .ok (.iload 12, 2) := by decide +kernel
theorem dX9_rivals_313 : decode cX9_rivals 313 = .ok (.aload_n 0, 1) := by decide +kernel
theorem dX9_rivals_314 : decode cX9_rivals 314 = .ok (.getfield 99, 3) := by decide +kernel
theorem dX9_rivals_317 : decode cX9_rivals 317 = .ok (.if_icmp .ge 99, 3) := by decide +kernel
theorem dX9_rivals_320 : decode cX9_rivals 320 = .ok (.aload_n 0, 1) := by decide +kernel
theorem dX9_rivals_321 : decode cX9_rivals 321 = .ok (.getfield 61, 3) := by decide +kernel
theorem dX9_rivals_324 : decode cX9_rivals 324 = .ok (.aload_n 0, 1) := by decide +kernel
theorem dX9_rivals_325 : decode cX9_rivals 325 = .ok (.getfield 99, 3) := by decide +kernel
theorem dX9_rivals_328 : decode cX9_rivals 328 = .ok (.iload 10, 2) := by decide +kernel
theorem dX9_rivals_330 : decode cX9_rivals 330 = .ok (.imul, 1) := by decide +kernel
theorem dX9_rivals_331 : decode cX9_rivals 331 = .ok (.iload 12, 2) := by decide +kernel
theorem dX9_rivals_333 : decode cX9_rivals 333 = .ok (.iadd, 1) := by decide +kernel
theorem dX9_rivals_334 : decode cX9_rivals 334 = .ok (.iaload, 1) := by decide +kernel
theorem dX9_rivals_335 : decode cX9_rivals 335 = .ok (.istore 13, 2) := by decide +kernel
theorem dX9_rivals_337 : decode cX9_rivals 337 = .ok (.iload 13, 2) := by decide +kernel
theorem dX9_rivals_339 : decode cX9_rivals 339 = .ok (.ldc 220, 2) := by decide +kernel
theorem dX9_rivals_341 : decode cX9_rivals 341 = .ok (.if_icmp .eq 38, 3) := by decide +kernel
theorem dX9_rivals_344 : decode cX9_rivals 344 = .ok (.iload 11, 2) := by decide +kernel
theorem dX9_rivals_346 : decode cX9_rivals 346 = .ok (.ldc 220, 2) := by decide +kernel
theorem dX9_rivals_348 : decode cX9_rivals 348 = .ok (.if_icmp .eq 27, 3) := by decide +kernel
theorem dX9_rivals_351 : decode cX9_rivals 351 = .ok (.iload 9, 2) := by decide +kernel
theorem dX9_rivals_353 : decode cX9_rivals 353 = .ok (.iconst 2, 1) := by decide +kernel
theorem dX9_rivals_354 : decode cX9_rivals 354 = .ok (.irem, 1) := by decide +kernel
theorem dX9_rivals_355 : decode cX9_rivals 355 = .ok (.ifCond .ne 13, 3) := by decide +kernel
theorem dX9_rivals_358 : decode cX9_rivals 358 = .ok (.iload 13, 2) := by decide +kernel
theorem dX9_rivals_360 : decode cX9_rivals 360 = .ok (.iload 11, 2) := by decide +kernel
theorem dX9_rivals_362 : decode cX9_rivals 362 = .ok (.if_icmp .ge 17, 3) := by decide +kernel
theorem dX9_rivals_365 : decode cX9_rivals 365 = .ok (.goto 10, 3) := by decide +kernel
theorem dX9_rivals_368 : decode cX9_rivals 368 = .ok (.iload 13, 2) := by decide +kernel
theorem dX9_rivals_370 : decode cX9_rivals 370 = .ok (.iload 11, 2) := by decide +kernel
theorem dX9_rivals_372 : decode cX9_rivals 372 = .ok (.if_icmp .le 7, 3) := by decide +kernel
theorem dX9_rivals_375 : decode cX9_rivals 375 = .ok (.iconst 1, 1) := by decide +kernel
theorem dX9_rivals_376 : decode cX9_rivals 376 = .ok (.goto 4, 3) := by decide +kernel
theorem dX9_rivals_379 : decode cX9_rivals 379 = .ok (.iconst 0, 1) := by decide +kernel
theorem dX9_rivals_380 : decode cX9_rivals 380 = .ok (.istore 14, 2) := by decide +kernel
theorem dX9_rivals_382 : decode cX9_rivals 382 = .ok (.iload 14, 2) := by decide +kernel
theorem dX9_rivals_384 : decode cX9_rivals 384 = .ok (.ifCond .eq 8, 3) := by decide +kernel
theorem dX9_rivals_387 : decode cX9_rivals 387 = .ok (.iload 12, 2) := by decide +kernel
theorem dX9_rivals_389 : decode cX9_rivals 389 = .ok (.goto 5, 3) := by decide +kernel
theorem dX9_rivals_392 : decode cX9_rivals 392 = .ok (.iload 7, 2) := by decide +kernel
theorem dX9_rivals_394 : decode cX9_rivals 394 = .ok (.istore 7, 2) := by decide +kernel
theorem dX9_rivals_396 : decode cX9_rivals 396 = .ok (.iload 14, 2) := by decide +kernel
theorem dX9_rivals_398 : decode cX9_rivals 398 = .ok (.ifCond .eq 8, 3) := by decide +kernel
theorem dX9_rivals_401 : decode cX9_rivals 401 = .ok (.iload 13, 2) := by decide +kernel
theorem dX9_rivals_403 : decode cX9_rivals 403 = .ok (.goto 5, 3) := by decide +kernel
theorem dX9_rivals_406 : decode cX9_rivals 406 = .ok (.iload 11, 2) := by decide +kernel
theorem dX9_rivals_408 : decode cX9_rivals 408 = .ok (.istore 11, 2) := by decide +kernel
theorem dX9_rivals_410 : decode cX9_rivals 410 = .ok (.iinc 12 1, 3) := by decide +kernel
theorem dX9_rivals_413 : decode cX9_rivals 413 = .ok (.goto (-102), 3) := by decide +kernel
theorem dX9_rivals_416 : decode cX9_rivals 416 = .ok (.aload_n 0, 1) := by decide +kernel
theorem dX9_rivals_417 : decode cX9_rivals 417 = .ok (.getfield 61, 3) := by decide +kernel
theorem dX9_rivals_420 : decode cX9_rivals 420 = .ok (.iload 10, 2) := by decide +kernel
theorem dX9_rivals_422 : decode cX9_rivals 422 = .ok (.iload 11, 2) := by decide +kernel
theorem dX9_rivals_424 : decode cX9_rivals 424 = .ok (.iastore, 1) := by decide +kernel
theorem dX9_rivals_425 : decode cX9_rivals 425 = .ok (.iinc 10 1, 3) := by decide +kernel
theorem dX9_rivals_428 : decode cX9_rivals 428 = .ok (.goto (-131), 3) := by decide +kernel
theorem dX9_rivals_431 : decode cX9_rivals 431 = .ok (.iinc 9 (-1), 3) := by decide +kernel
theorem dX9_rivals_434 : decode cX9_rivals 434 = .ok (.goto (-154), 3) := by decide +kernel
theorem dX9_rivals_437 : decode cX9_rivals 437 = .ok (.iload 4, 2) := by decide +kernel
theorem dX9_rivals_439 : decode cX9_rivals 439 = .ok (.ifCond .ne 15, 3) := by decide +kernel
theorem dX9_rivals_442 : decode cX9_rivals 442 = .ok (.aload_n 0, 1) := by decide +kernel
theorem dX9_rivals_443 : decode cX9_rivals 443 = .ok (.getfield 61, 3) := by decide +kernel
theorem dX9_rivals_446 : decode cX9_rivals 446 = .ok (.iconst 0, 1) := by decide +kernel
theorem dX9_rivals_447 : decode cX9_rivals 447 = .ok (.iaload, 1) := by decide +kernel
theorem dX9_rivals_448 : decode cX9_rivals 448 = .ok (.bipush 10, 2) := by decide +kernel
theorem dX9_rivals_450 : decode cX9_rivals 450 = .ok (.iadd, 1) := by decide +kernel
theorem dX9_rivals_451 : decode cX9_rivals 451 = .ok (.goto 5, 3) := by decide +kernel
theorem dX9_rivals_454 : decode cX9_rivals 454 = .ok (.iload 7, 2) := by decide +kernel
theorem dX9_rivals_456 : decode cX9_rivals 456 = .ok (.ireturn, 1) := by decide +kernel
theorem dX9_see_0 : decode cX9_see 0 = .ok (.aload_n 0, 1) := by decide +kernel
theorem dX9_see_1 : decode cX9_see 1 = .ok (.iload_n 1, 1) := by decide +kernel
theorem dX9_see_2 : decode cX9_see 2 = .ok (.invokevirtual 166, 3) := by decide +kernel
theorem dX9_see_5 : decode cX9_see 5 = .ok (.ifCond .eq 23, 3) := by decide +kernel
theorem dX9_see_8 : decode cX9_see 8 = .ok (.aload_n 0, 1) := by decide +kernel
theorem dX9_see_9 : decode cX9_see 9 = .ok (.iload_n 2, 1) := by decide +kernel
theorem dX9_see_10 : decode cX9_see 10 = .ok (.invokevirtual 169, 3) := by decide +kernel
theorem dX9_see_13 : decode cX9_see 13 = .ok (.ifCond .eq 15, 3) := by decide +kernel
theorem dX9_see_16 : decode cX9_see 16 = .ok (.iload_n 3, 1) := by decide +kernel
theorem dX9_see_17 : decode cX9_see 17 = .ok (.i2l, 1) := by decide +kernel
theorem dX9_see_18 : decode cX9_see 18 = .ok (.lconst 0, 1) := by decide +kernel
theorem dX9_see_19 : decode cX9_see 19 = .ok (.ldc2_w 242, 3) := by decide +kernel
theorem dX9_see_22 : decode cX9_see 22 = .ok (.invokestatic 92, 3) := by decide +kernel
theorem dX9_see_25 : decode cX9_see 25 = .ok (.ifCond .ne 5, 3) := by decide +kernel
theorem dX9_see_28 : decode cX9_see 28 = .ok (.iconst (-1), 1) := by decide +kernel
theorem dX9_see_29 : decode cX9_see 29 = .ok (.ireturn, 1) := by decide +kernel
theorem dX9_see_30 : decode cX9_see 30 = .ok (.aload_n 0, 1) := by decide +kernel
theorem dX9_see_31 : decode cX9_see 31 = .ok (.getfield 114, 3) := by decide +kernel
theorem dX9_see_34 : decode cX9_see 34 = .ok (.bipush 6, 2) := by decide +kernel
theorem dX9_see_36 : decode cX9_see 36 = .ok (.if_icmp .ne 6, 3) := by decide +kernel
theorem dX9_see_39 : decode cX9_see 39 = .ok (.bipush (-3), 2) := by decide +kernel
theorem dX9_see_41 : decode cX9_see 41 = .ok (.ireturn, 1) := by decide +kernel
theorem dX9_see_42 : decode cX9_see 42 = .ok (.aload_n 0, 1) := by decide +kernel
theorem dX9_see_43 : decode cX9_see 43 = .ok (.getfield 31, 3) := by decide +kernel
theorem dX9_see_46 : decode cX9_see 46 = .ok (.aload_n 0, 1) := by decide +kernel
theorem dX9_see_47 : decode cX9_see 47 = .ok (.getfield 114, 3) := by decide +kernel
theorem dX9_see_50 : decode cX9_see 50 = .ok (.iload_n 1, 1) := by decide +kernel
theorem dX9_see_51 : decode cX9_see 51 = .ok (.iastore, 1) := by decide +kernel
theorem dX9_see_52 : decode cX9_see 52 = .ok (.aload_n 0, 1) := by decide +kernel
theorem dX9_see_53 : decode cX9_see 53 = .ok (.getfield 34, 3) := by decide +kernel
theorem dX9_see_56 : decode cX9_see 56 = .ok (.aload_n 0, 1) := by decide +kernel
theorem dX9_see_57 : decode cX9_see 57 = .ok (.getfield 114, 3) := by decide +kernel
theorem dX9_see_60 : decode cX9_see 60 = .ok (.iload_n 2, 1) := by decide +kernel
theorem dX9_see_61 : decode cX9_see 61 = .ok (.iastore, 1) := by decide +kernel
theorem dX9_see_62 : decode cX9_see 62 = .ok (.aload_n 0, 1) := by decide +kernel
theorem dX9_see_63 : decode cX9_see 63 = .ok (.getfield 37, 3) := by decide +kernel
theorem dX9_see_66 : decode cX9_see 66 = .ok (.aload_n 0, 1) := by decide +kernel
theorem dX9_see_67 : decode cX9_see 67 = .ok (.getfield 114, 3) := by decide +kernel
theorem dX9_see_70 : decode cX9_see 70 = .ok (.iload_n 3, 1) := by decide +kernel
theorem dX9_see_71 : decode cX9_see 71 = .ok (.iastore, 1) := by decide +kernel
theorem dX9_see_72 : decode cX9_see 72 = .ok (.aload_n 0, 1) := by decide +kernel
theorem dX9_see_73 : decode cX9_see 73 = .ok (.dup, 1) := by decide +kernel
theorem dX9_see_74 : decode cX9_see 74 = .ok (.getfield 114, 3) := by decide +kernel
theorem dX9_see_77 : decode cX9_see 77 = .ok (.iconst 1, 1) := by decide +kernel
theorem dX9_see_78 : decode cX9_see 78 = .ok (.iadd, 1) := by decide +kernel
theorem dX9_see_79 : decode cX9_see 79 = .ok (.putfield 114, 3) := by decide +kernel
theorem dX9_see_82 : decode cX9_see 82 = .ok (.aload_n 0, 1) := by decide +kernel
theorem dX9_see_83 : decode cX9_see 83 = .ok (.getfield 114, 3) := by decide +kernel
theorem dX9_see_86 : decode cX9_see 86 = .ok (.ireturn, 1) := by decide +kernel
theorem dX9_forget_0 : decode cX9_forget 0 = .ok (.aload_n 0, 1) := by decide +kernel
theorem dX9_forget_1 : decode cX9_forget 1 = .ok (.getfield 114, 3) := by decide +kernel
theorem dX9_forget_4 : decode cX9_forget 4 = .ok (.istore_n 1, 1) := by decide +kernel
theorem dX9_forget_5 : decode cX9_forget 5 = .ok (.aload_n 0, 1) := by decide +kernel
theorem dX9_forget_6 : decode cX9_forget 6 = .ok (.iconst 0, 1) := by decide +kernel
theorem dX9_forget_7 : decode cX9_forget 7 = .ok (.putfield 114, 3) := by decide +kernel
theorem dX9_forget_10 : decode cX9_forget 10 = .ok (.iload_n 1, 1) := by decide +kernel
theorem dX9_forget_11 : decode cX9_forget 11 = .ok (.ireturn, 1) := by decide +kernel
theorem dX9_isSeen_0 : decode cX9_isSeen 0 = .ok (.iconst 1, 1) := by decide +kernel
theorem dX9_isSeen_1 : decode cX9_isSeen 1 = .ok (.istore_n 2, 1) := by decide +kernel
theorem dX9_isSeen_2 : decode cX9_isSeen 2 = .ok (.iconst 0, 1) := by decide +kernel
theorem dX9_isSeen_3 : decode cX9_isSeen 3 = .ok (.istore_n 3, 1) := by decide +kernel
theorem dX9_isSeen_4 : decode cX9_isSeen 4 = .ok (.iload_n 3, 1) := by decide +kernel
theorem dX9_isSeen_5 : decode cX9_isSeen 5 = .ok (.aload_n 0, 1) := by decide +kernel
theorem dX9_isSeen_6 : decode cX9_isSeen 6 = .ok (.getfield 114, 3) := by decide +kernel
theorem dX9_isSeen_9 : decode cX9_isSeen 9 = .ok (.if_icmp .ge 51, 3) := by decide +kernel
theorem dX9_isSeen_12 : decode cX9_isSeen 12 = .ok (.iload_n 2, 1) := by decide +kernel
theorem dX9_isSeen_13 : decode cX9_isSeen 13 = .ok (.ifCond .eq 39, 3) := by decide +kernel
theorem dX9_isSeen_16 : decode cX9_isSeen 16 = .ok (.aload_n 0, 1) := by decide +kernel
theorem dX9_isSeen_17 : decode cX9_isSeen 17 = .ok (.getfield 31, 3) := by decide +kernel
theorem dX9_isSeen_20 : decode cX9_isSeen 20 = .ok (.iload_n 3, 1) := by decide +kernel
theorem dX9_isSeen_21 : decode cX9_isSeen 21 = .ok (.iaload, 1) := by decide +kernel
theorem dX9_isSeen_22 : decode cX9_isSeen 22 = .ok (.iload_n 1, 1) := by decide +kernel
theorem dX9_isSeen_23 : decode cX9_isSeen 23 = .ok (.if_icmp .ne 25, 3) := by decide +kernel
theorem dX9_isSeen_26 : decode cX9_isSeen 26 = .ok (.aload_n 0, 1) := by decide +kernel
theorem dX9_isSeen_27 : decode cX9_isSeen 27 = .ok (.bipush 19, 2) := by decide +kernel
theorem dX9_isSeen_29 : decode cX9_isSeen 29 = .ok (.iload_n 1, 1) := by decide +kernel
theorem dX9_isSeen_30 : decode cX9_isSeen 30 = .ok (.aload_n 0, 1) := by decide +kernel
theorem dX9_isSeen_31 : decode cX9_isSeen 31 = .ok (.getfield 34, 3) := by decide +kernel
theorem dX9_isSeen_34 : decode cX9_isSeen 34 = .ok (.iload_n 3, 1) := by decide +kernel
theorem dX9_isSeen_35 : decode cX9_isSeen 35 = .ok (.iaload, 1) := by decide +kernel
theorem dX9_isSeen_36 : decode cX9_isSeen 36 = .ok (.invokevirtual 178, 3) := by decide +kernel
theorem dX9_isSeen_39 : decode cX9_isSeen 39 = .ok (.aload_n 0, 1) := by decide +kernel
theorem dX9_isSeen_40 : decode cX9_isSeen 40 = .ok (.getfield 37, 3) := by decide +kernel
theorem dX9_isSeen_43 : decode cX9_isSeen 43 = .ok (.iload_n 3, 1) := by decide +kernel
theorem dX9_isSeen_44 : decode cX9_isSeen 44 = .ok (.iaload, 1) := by decide +kernel
theorem dX9_isSeen_45 : decode cX9_isSeen 45 = .ok (.if_icmp .ne 7, 3) := by decide +kernel
theorem dX9_isSeen_48 : decode cX9_isSeen 48 = .ok (.iconst 1, 1) := by decide +kernel
theorem dX9_isSeen_49 : decode cX9_isSeen 49 = .ok (.goto 4, 3) := by decide +kernel
theorem dX9_isSeen_52 : decode cX9_isSeen 52 = .ok (.iconst 0, 1) := by decide +kernel
theorem dX9_isSeen_53 : decode cX9_isSeen 53 = .ok (.istore_n 2, 1) := by decide +kernel
theorem dX9_isSeen_54 : decode cX9_isSeen 54 = .ok (.iinc 3 1, 3) := by decide +kernel
theorem dX9_isSeen_57 : decode cX9_isSeen 57 = .ok (.goto (-53), 3) := by decide +kernel
theorem dX9_isSeen_60 : decode cX9_isSeen 60 = .ok (.iload_n 2, 1) := by decide +kernel
theorem dX9_isSeen_61 : decode cX9_isSeen 61 = .ok (.ireturn, 1) := by decide +kernel
theorem dX9_wept_0 : decode cX9_wept 0 = .ok (.aload_n 0, 1) := by decide +kernel
theorem dX9_wept_1 : decode cX9_wept 1 = .ok (.iload_n 1, 1) := by decide +kernel
theorem dX9_wept_2 : decode cX9_wept 2 = .ok (.invokevirtual 166, 3) := by decide +kernel
theorem dX9_wept_5 : decode cX9_wept 5 = .ok (.ifCond .eq 13, 3) := by decide +kernel
theorem dX9_wept_8 : decode cX9_wept 8 = .ok (.iload_n 2, 1) := by decide +kernel
theorem dX9_wept_9 : decode cX9_wept 9 = .ok (.i2l, 1) := by decide +kernel
theorem dX9_wept_10 : decode cX9_wept 10 = .ok (.lconst 0, 1) := by decide +kernel
theorem dX9_wept_11 : decode cX9_wept 11 = .ok (.lconst 1, 1) := by decide +kernel
theorem dX9_wept_12 : decode cX9_wept 12 = .ok (.invokestatic 92, 3) := by decide +kernel
theorem dX9_wept_15 : decode cX9_wept 15 = .ok (.ifCond .ne 5, 3) := by decide +kernel
theorem dX9_wept_18 : decode cX9_wept 18 = .ok (.iconst (-1), 1) := by decide +kernel
theorem dX9_wept_19 : decode cX9_wept 19 = .ok (.ireturn, 1) := by decide +kernel
theorem dX9_wept_20 : decode cX9_wept 20 = .ok (.iconst 0, 1) := by decide +kernel
theorem dX9_wept_21 : decode cX9_wept 21 = .ok (.istore_n 3, 1) := by decide +kernel
theorem dX9_wept_22 : decode cX9_wept 22 = .ok (.bipush (-4), 2) := by decide +kernel
theorem dX9_wept_24 : decode cX9_wept 24 = .ok (.istore 4, 2) := by decide +kernel
theorem dX9_wept_26 : decode cX9_wept 26 = .ok (.aload_n 0, 1) := by decide +kernel
theorem dX9_wept_27 : decode cX9_wept 27 = .ok (.invokevirtual 226, 3) := by decide +kernel
theorem dX9_wept_30 : decode cX9_wept 30 = .ok (.aload_n 0, 1) := by decide +kernel
theorem dX9_wept_31 : decode cX9_wept 31 = .ok (.invokevirtual 88, 3) := by decide +kernel
theorem dX9_wept_34 : decode cX9_wept 34 = .ok (.istore 5, 2) := by decide +kernel
theorem dX9_wept_36 : decode cX9_wept 36 = .ok (.iload 5, 2) := by decide +kernel
theorem dX9_wept_38 : decode cX9_wept 38 = .ok (.ifCond .lt 82, 3) := by decide +kernel
theorem dX9_wept_41 : decode cX9_wept 41 = .ok (.aload_n 0, 1) := by decide +kernel
theorem dX9_wept_42 : decode cX9_wept 42 = .ok (.getfield 7, 3) := by decide +kernel
theorem dX9_wept_45 : decode cX9_wept 45 = .ok (.bipush 26, 2) := by decide +kernel
theorem dX9_wept_47 : decode cX9_wept 47 = .ok (.iload_n 1, 1) := by decide +kernel
theorem dX9_wept_48 : decode cX9_wept 48 = .ok (.iadd, 1) := by decide +kernel
theorem dX9_wept_49 : decode cX9_wept 49 = .ok (.iload 5, 2) := by decide +kernel
theorem dX9_wept_51 : decode cX9_wept 51 = .ok (.aload_n 0, 1) := by decide +kernel
theorem dX9_wept_52 : decode cX9_wept 52 = .ok (.invokevirtual 88, 3) := by decide +kernel
theorem dX9_wept_55 : decode cX9_wept 55 = .ok (.if_icmp .ne 8, 3) := by decide +kernel
theorem dX9_wept_58 : decode cX9_wept 58 = .ok (.bipush (-4), 2) := by decide +kernel
theorem dX9_wept_60 : decode cX9_wept 60 = .ok (.goto 5, 3) := by decide +kernel
theorem dX9_wept_63 : decode cX9_wept 63 = .ok (.iload 5, 2) := by decide +kernel
theorem dX9_wept_65 : decode cX9_wept 65 = .ok (.iastore, 1) := by decide +kernel
theorem dX9_wept_66 : decode cX9_wept 66 = .ok (.aload_n 0, 1) := by decide +kernel
theorem dX9_wept_67 : decode cX9_wept 67 = .ok (.iload_n 1, 1) := by decide +kernel
theorem dX9_wept_68 : decode cX9_wept 68 = .ok (.invokevirtual 244, 3) := by decide +kernel
theorem dX9_wept_71 : decode cX9_wept 71 = .ok (.istore 6, 2) := by decide +kernel
theorem dX9_wept_73 : decode cX9_wept 73 = .ok (.iload_n 3, 1) := by decide +kernel
theorem dX9_wept_74 : decode cX9_wept 74 = .ok (.iload 6, 2) := by decide +kernel
theorem dX9_wept_76 : decode cX9_wept 76 = .ok (.ifCond .eq 7, 3) := by decide +kernel
theorem dX9_wept_79 : decode cX9_wept 79 = .ok (.iconst 1, 1) := by decide +kernel
theorem dX9_wept_80 : decode cX9_wept 80 = .ok (.goto 4, 3) := by decide +kernel
theorem dX9_wept_83 : decode cX9_wept 83 = .ok (.iconst 0, 1) := by decide +kernel
theorem dX9_wept_84 : decode cX9_wept 84 = .ok (.iadd, 1) := by decide +kernel
theorem dX9_wept_85 : decode cX9_wept 85 = .ok (.istore_n 3, 1) := by decide +kernel
theorem dX9_wept_86 : decode cX9_wept 86 = .ok (.iload 6, 2) := by decide +kernel
theorem dX9_wept_88 : decode cX9_wept 88 = .ok (.ifCond .eq 22, 3) := by decide +kernel
theorem dX9_wept_91 : decode cX9_wept 91 = .ok (.iload 5, 2) := by decide +kernel
theorem dX9_wept_93 : decode cX9_wept 93 = .ok (.aload_n 0, 1) := by decide +kernel
theorem dX9_wept_94 : decode cX9_wept 94 = .ok (.invokevirtual 88, 3) := by decide +kernel
theorem dX9_wept_97 : decode cX9_wept 97 = .ok (.if_icmp .ne 8, 3) := by decide +kernel
theorem dX9_wept_100 : decode cX9_wept 100 = .ok (.bipush 99, 2) := by decide +kernel
theorem dX9_wept_102 : decode cX9_wept 102 = .ok (.goto 10, 3) := by decide +kernel
theorem dX9_wept_105 : decode cX9_wept 105 = .ok (.iload 5, 2) := by decide +kernel
theorem dX9_wept_107 : decode cX9_wept 107 = .ok (.goto 5, 3) := by decide +kernel
theorem dX9_wept_110 : decode cX9_wept 110 = .ok (.iload 4, 2) := by decide +kernel
theorem dX9_wept_112 : decode cX9_wept 112 = .ok (.istore 4, 2) := by decide +kernel
theorem dX9_wept_114 : decode cX9_wept 114 = .ok (.iinc 5 (-1), 3) := by decide +kernel
theorem dX9_wept_117 : decode cX9_wept 117 = .ok (.goto (-81), 3) := by decide +kernel
theorem dX9_wept_120 : decode cX9_wept 120 = .ok (.iload_n 2, 1) := by decide +kernel
theorem dX9_wept_121 : decode cX9_wept 121 = .ok (.ifCond .ne 7, 3) := by decide +kernel
theorem dX9_wept_124 : decode cX9_wept 124 = .ok (.iload_n 3, 1) := by decide +kernel
theorem dX9_wept_125 : decode cX9_wept 125 = .ok (.goto 5, 3) := by decide +kernel
theorem dX9_wept_128 : decode cX9_wept 128 = .ok (.iload 4, 2) := by decide +kernel
theorem dX9_wept_130 : decode cX9_wept 130 = .ok (.ireturn, 1) := by decide +kernel
theorem dX9_kinds_0 : decode cX9_kinds 0 = .ok (.aload_n 0, 1) := by decide +kernel
theorem dX9_kinds_1 : decode cX9_kinds 1 = .ok (.iload_n 1, 1) := by decide +kernel
theorem dX9_kinds_2 : decode cX9_kinds 2 = .ok (.invokevirtual 166, 3) := by decide +kernel
theorem dX9_kinds_5 : decode cX9_kinds 5 = .ok (.ifCond .ne 5, 3) := by decide +kernel
theorem dX9_kinds_8 : decode cX9_kinds 8 = .ok (.iconst (-1), 1) := by decide +kernel
theorem dX9_kinds_9 : decode cX9_kinds 9 = .ok (.ireturn, 1) := by decide +kernel
theorem dX9_kinds_10 : decode cX9_kinds 10 = .ok (.iconst 0, 1) := by decide +kernel
theorem dX9_kinds_11 : decode cX9_kinds 11 = .ok (.istore_n 2, 1) := by decide +kernel
theorem dX9_kinds_12 : decode cX9_kinds 12 = .ok (.aload_n 0, 1) := by decide +kernel
theorem dX9_kinds_13 : decode cX9_kinds 13 = .ok (.getfield 13, 3) := by decide +kernel
theorem dX9_kinds_16 : decode cX9_kinds 16 = .ok (.iload_n 1, 1) := by decide +kernel
theorem dX9_kinds_17 : decode cX9_kinds 17 = .ok (.iaload, 1) := by decide +kernel
theorem dX9_kinds_18 : decode cX9_kinds 18 = .ok (.istore_n 3, 1) := by decide +kernel
theorem dX9_kinds_19 : decode cX9_kinds 19 = .ok (.aload_n 0, 1) := by decide +kernel
theorem dX9_kinds_20 : decode cX9_kinds 20 = .ok (.invokevirtual 226, 3) := by decide +kernel
theorem dX9_kinds_23 : decode cX9_kinds 23 = .ok (.iconst 0, 1) := by decide +kernel
theorem dX9_kinds_24 : decode cX9_kinds 24 = .ok (.istore 4, 2) := by decide +kernel
theorem dX9_kinds_26 : decode cX9_kinds 26 = .ok (.iload 4, 2) := by decide +kernel
theorem dX9_kinds_28 : decode cX9_kinds 28 = .ok (.iconst 2, 1) := by decide +kernel
theorem dX9_kinds_29 : decode cX9_kinds 29 = .ok (.if_icmp .gt 36, 3) := by decide +kernel
theorem dX9_kinds_32 : decode cX9_kinds 32 = .ok (.aload_n 0, 1) := by decide +kernel
theorem dX9_kinds_33 : decode cX9_kinds 33 = .ok (.getfield 13, 3) := by decide +kernel
theorem dX9_kinds_36 : decode cX9_kinds 36 = .ok (.iload_n 1, 1) := by decide +kernel
theorem dX9_kinds_37 : decode cX9_kinds 37 = .ok (.iload 4, 2) := by decide +kernel
theorem dX9_kinds_39 : decode cX9_kinds 39 = .ok (.iastore, 1) := by decide +kernel
theorem dX9_kinds_40 : decode cX9_kinds 40 = .ok (.iload_n 2, 1) := by decide +kernel
theorem dX9_kinds_41 : decode cX9_kinds 41 = .ok (.aload_n 0, 1) := by decide +kernel
theorem dX9_kinds_42 : decode cX9_kinds 42 = .ok (.iload_n 1, 1) := by decide +kernel
theorem dX9_kinds_43 : decode cX9_kinds 43 = .ok (.invokevirtual 244, 3) := by decide +kernel
theorem dX9_kinds_46 : decode cX9_kinds 46 = .ok (.ifCond .eq 10, 3) := by decide +kernel
theorem dX9_kinds_49 : decode cX9_kinds 49 = .ok (.iconst 1, 1) := by decide +kernel
theorem dX9_kinds_50 : decode cX9_kinds 50 = .ok (.iload 4, 2) := by decide +kernel
theorem dX9_kinds_52 : decode cX9_kinds 52 = .ok (.ishl, 1) := by decide +kernel
theorem dX9_kinds_53 : decode cX9_kinds 53 = .ok (.goto 4, 3) := by decide +kernel
theorem dX9_kinds_56 : decode cX9_kinds 56 = .ok (.iconst 0, 1) := by decide +kernel
theorem dX9_kinds_57 : decode cX9_kinds 57 = .ok (.ior, 1) := by decide +kernel
theorem dX9_kinds_58 : decode cX9_kinds 58 = .ok (.istore_n 2, 1) := by decide +kernel
theorem dX9_kinds_59 : decode cX9_kinds 59 = .ok (.iinc 4 1, 3) := by decide +kernel
theorem dX9_kinds_62 : decode cX9_kinds 62 = .ok (.goto (-36), 3) := by decide +kernel
theorem dX9_kinds_65 : decode cX9_kinds 65 = .ok (.aload_n 0, 1) := by decide +kernel
theorem dX9_kinds_66 : decode cX9_kinds 66 = .ok (.getfield 13, 3) := by decide +kernel
theorem dX9_kinds_69 : decode cX9_kinds 69 = .ok (.iload_n 1, 1) := by decide +kernel
theorem dX9_kinds_70 : decode cX9_kinds 70 = .ok (.iload_n 3, 1) := by decide +kernel
theorem dX9_kinds_71 : decode cX9_kinds 71 = .ok (.iastore, 1) := by decide +kernel
theorem dX9_kinds_72 : decode cX9_kinds 72 = .ok (.iload_n 2, 1) := by decide +kernel
theorem dX9_kinds_73 : decode cX9_kinds 73 = .ok (.ireturn, 1) := by decide +kernel
theorem dX9_tears_0 : decode cX9_tears 0 = .ok (.iload_n 1, 1) := by decide +kernel
theorem dX9_tears_1 : decode cX9_tears 1 = .ok (.i2l, 1) := by decide +kernel
theorem dX9_tears_2 : decode cX9_tears 2 = .ok (.lconst 0, 1) := by decide +kernel
theorem dX9_tears_3 : decode cX9_tears 3 = .ok (.ldc2_w 221, 3) := by decide +kernel
theorem dX9_tears_6 : decode cX9_tears 6 = .ok (.invokestatic 92, 3) := by decide +kernel
theorem dX9_tears_9 : decode cX9_tears 9 = .ok (.ifCond .eq 25, 3) := by decide +kernel
theorem dX9_tears_12 : decode cX9_tears 12 = .ok (.iload_n 2, 1) := by decide +kernel
theorem dX9_tears_13 : decode cX9_tears 13 = .ok (.i2l, 1) := by decide +kernel
theorem dX9_tears_14 : decode cX9_tears 14 = .ok (.lconst 0, 1) := by decide +kernel
theorem dX9_tears_15 : decode cX9_tears 15 = .ok (.ldc2_w 247, 3) := by decide +kernel
theorem dX9_tears_18 : decode cX9_tears 18 = .ok (.invokestatic 92, 3) := by decide +kernel
theorem dX9_tears_21 : decode cX9_tears 21 = .ok (.ifCond .eq 13, 3) := by decide +kernel
theorem dX9_tears_24 : decode cX9_tears 24 = .ok (.iload_n 3, 1) := by decide +kernel
theorem dX9_tears_25 : decode cX9_tears 25 = .ok (.i2l, 1) := by decide +kernel
theorem dX9_tears_26 : decode cX9_tears 26 = .ok (.lconst 0, 1) := by decide +kernel
theorem dX9_tears_27 : decode cX9_tears 27 = .ok (.lconst 1, 1) := by decide +kernel
theorem dX9_tears_28 : decode cX9_tears 28 = .ok (.invokestatic 92, 3) := by decide +kernel
theorem dX9_tears_31 : decode cX9_tears 31 = .ok (.ifCond .ne 5, 3) := by decide +kernel
theorem dX9_tears_34 : decode cX9_tears 34 = .ok (.iconst (-1), 1) := by decide +kernel
theorem dX9_tears_35 : decode cX9_tears 35 = .ok (.ireturn, 1) := by decide +kernel
theorem dX9_tears_36 : decode cX9_tears 36 = .ok (.aload_n 0, 1) := by decide +kernel
theorem dX9_tears_37 : decode cX9_tears 37 = .ok (.invokevirtual 214, 3) := by decide +kernel
theorem dX9_tears_40 : decode cX9_tears 40 = .ok (.istore 4, 2) := by decide +kernel
theorem dX9_tears_42 : decode cX9_tears 42 = .ok (.iload 4, 2) := by decide +kernel
theorem dX9_tears_44 : decode cX9_tears 44 = .ok (.invokestatic 217, 3) := by decide +kernel
theorem dX9_tears_47 : decode cX9_tears 47 = .ok (.istore 5, 2) := by decide +kernel
theorem dX9_tears_49 : decode cX9_tears 49 = .ok (.iconst 0, 1) := by decide +kernel
theorem dX9_tears_50 : decode cX9_tears 50 = .ok (.istore 6, 2) := by decide +kernel
theorem dX9_tears_52 : decode cX9_tears 52 = .ok (.iconst 1, 1) := by decide +kernel
theorem dX9_tears_53 : decode cX9_tears 53 = .ok (.istore 7, 2) := by decide +kernel
theorem dX9_tears_55 : decode cX9_tears 55 = .ok (.iconst 0, 1) := by decide +kernel
theorem dX9_tears_56 : decode cX9_tears 56 = .ok (.istore 8, 2) := by decide +kernel
theorem dX9_tears_58 : decode cX9_tears 58 = .ok (.iload 8, 2) := by decide +kernel
theorem dX9_tears_60 : decode cX9_tears 60 = .ok (.iload 5, 2) := by decide +kernel
theorem dX9_tears_62 : decode cX9_tears 62 = .ok (.if_icmp .ge 16, 3) := by decide +kernel
theorem dX9_tears_65 : decode cX9_tears 65 = .ok (.iload 7, 2) := by decide +kernel
theorem dX9_tears_67 : decode cX9_tears 67 = .ok (.bipush 10, 2) := by decide +kernel
theorem dX9_tears_69 : decode cX9_tears 69 = .ok (.imul, 1) := by decide +kernel
theorem dX9_tears_70 : decode cX9_tears 70 = .ok (.istore 7, 2) := by decide +kernel
theorem dX9_tears_72 : decode cX9_tears 72 = .ok (.iinc 8 1, 3) := by decide +kernel
theorem dX9_tears_75 : decode cX9_tears 75 = .ok (.goto (-17), 3) := by decide +kernel
theorem dX9_tears_78 : decode cX9_tears 78 = .ok (.iconst 0, 1) := by decide +kernel
theorem dX9_tears_79 : decode cX9_tears 79 = .ok (.istore 8, 2) := by decide +kernel
theorem dX9_tears_81 : decode cX9_tears 81 = .ok (.iload 8, 2) := by decide +kernel
theorem dX9_tears_83 : decode cX9_tears 83 = .ok (.iconst 1, 1) := by decide +kernel
theorem dX9_tears_84 : decode cX9_tears 84 = .ok (.iload 5, 2) := by decide +kernel
theorem dX9_tears_86 : decode cX9_tears 86 = .ok (.ishl, 1) := by decide +kernel
theorem dX9_tears_87 : decode cX9_tears 87 = .ok (.if_icmp .ge 146, 3) := by decide +kernel
theorem dX9_tears_90 : decode cX9_tears 90 = .ok (.iconst 1, 1) := by decide +kernel
theorem dX9_tears_91 : decode cX9_tears 91 = .ok (.istore 9, 2) := by decide +kernel
theorem dX9_tears_93 : decode cX9_tears 93 = .ok (.iconst 0, 1) := by decide +kernel
theorem dX9_tears_94 : decode cX9_tears 94 = .ok (.istore 10, 2) := by decide +kernel
theorem dX9_tears_96 : decode cX9_tears 96 = .ok (.iconst 0, 1) := by decide +kernel
theorem dX9_tears_97 : decode cX9_tears 97 = .ok (.istore 11, 2) := by decide +kernel
theorem dX9_tears_99 : decode cX9_tears 99 = .ok (.aload_n 0, 1) := by decide +kernel
theorem dX9_tears_100 : decode cX9_tears 100 = .ok (.invokevirtual 226, 3) := by decide +kernel
theorem dX9_tears_103 : decode cX9_tears 103 = .ok (.iconst 0, 1) := by decide +kernel
theorem dX9_tears_104 : decode cX9_tears 104 = .ok (.istore 12, 2) := by decide +kernel
theorem dX9_tears_106 : decode cX9_tears 106 = .ok (.iload 12, 2) := by decide +kernel
theorem dX9_tears_108 : decode cX9_tears 108 = .ok (.aload_n 0, 1) := by decide +kernel
theorem dX9_tears_109 : decode cX9_tears 109 = .ok (.getfield 99, 3) := by decide +kernel
theorem dX9_tears_112 : decode cX9_tears 112 = .ok (.if_icmp .ge 98, 3) := by decide +kernel
theorem dX9_tears_115 : decode cX9_tears 115 = .ok (.iload 4, 2) := by decide +kernel
theorem dX9_tears_117 : decode cX9_tears 117 = .ok (.iload 12, 2) := by decide +kernel
theorem dX9_tears_119 : decode cX9_tears 119 = .ok (.invokestatic 197, 3) := by decide +kernel
theorem dX9_tears_122 : decode cX9_tears 122 = .ok (.ifCond .eq 82, 3) := by decide +kernel
theorem dX9_tears_125 : decode cX9_tears 125 = .ok (.iload 9, 2) := by decide +kernel
theorem dX9_tears_127 : decode cX9_tears 127 = .ok (.iload 8, 2) := by decide +kernel
theorem dX9_tears_129 : decode cX9_tears 129 = .ok (.iload 11, 2) := by decide +kernel
theorem dX9_tears_131 : decode cX9_tears 131 = .ok (.invokestatic 197, 3) := by decide +kernel
theorem dX9_tears_134 : decode cX9_tears 134 = .ok (.ifCond .eq 7, 3) := by decide +kernel
theorem dX9_tears_137 : decode cX9_tears 137 = .ok (.iload_n 2, 1) := by decide +kernel
theorem dX9_tears_138 : decode cX9_tears 138 = .ok (.goto 7, 3) := by decide +kernel
theorem dX9_tears_141 : decode cX9_tears 141 = .ok (.bipush 10, 2) := by decide +kernel
theorem dX9_tears_143 : decode cX9_tears 143 = .ok (.iload_n 2, 1) := by decide +kernel
theorem dX9_tears_144 : decode cX9_tears 144 = .ok (.isub, 1) := by decide +kernel
theorem dX9_tears_145 : decode cX9_tears 145 = .ok (.imul, 1) := by decide +kernel
theorem dX9_tears_146 : decode cX9_tears 146 = .ok (.istore 9, 2) := by decide +kernel
theorem dX9_tears_148 : decode cX9_tears 148 = .ok (.aload_n 0, 1) := by decide +kernel
theorem dX9_tears_149 : decode cX9_tears 149 = .ok (.bipush 19, 2) := by decide +kernel
theorem dX9_tears_151 : decode cX9_tears 151 = .ok (.aload_n 0, 1) := by decide +kernel
theorem dX9_tears_152 : decode cX9_tears 152 = .ok (.bipush 19, 2) := by decide +kernel
theorem dX9_tears_154 : decode cX9_tears 154 = .ok (.iload 12, 2) := by decide +kernel
theorem dX9_tears_156 : decode cX9_tears 156 = .ok (.invokevirtual 211, 3) := by decide +kernel
theorem dX9_tears_159 : decode cX9_tears 159 = .ok (.iload 12, 2) := by decide +kernel
theorem dX9_tears_161 : decode cX9_tears 161 = .ok (.iload 8, 2) := by decide +kernel
theorem dX9_tears_163 : decode cX9_tears 163 = .ok (.iload 11, 2) := by decide +kernel
theorem dX9_tears_165 : decode cX9_tears 165 = .ok (.invokestatic 197, 3) := by decide +kernel
theorem dX9_tears_168 : decode cX9_tears 168 = .ok (.invokevirtual 189, 3) := by decide +kernel
theorem dX9_tears_171 : decode cX9_tears 171 = .ok (.iload 10, 2) := by decide +kernel
theorem dX9_tears_173 : decode cX9_tears 173 = .ok (.aload_n 0, 1) := by decide +kernel
theorem dX9_tears_174 : decode cX9_tears 174 = .ok (.getfield 7, 3) := by decide +kernel
theorem dX9_tears_177 : decode cX9_tears 177 = .ok (.bipush 30, 2) := by decide +kernel
theorem dX9_tears_179 : decode cX9_tears 179 = .ok (.iload 12, 2) := by decide +kernel
theorem dX9_tears_181 : decode cX9_tears 181 = .ok (.iadd, 1) := by decide +kernel
theorem dX9_tears_182 : decode cX9_tears 182 = .ok (.iaload, 1) := by decide +kernel
theorem dX9_tears_183 : decode cX9_tears 183 = .ok (.aload_n 0, 1) := by decide +kernel
theorem dX9_tears_184 : decode cX9_tears 184 = .ok (.getfield 28, 3) := by decide +kernel
theorem dX9_tears_187 : decode cX9_tears 187 = .ok (.iload 12, 2) := by decide +kernel
theorem dX9_tears_189 : decode cX9_tears 189 = .ok (.iaload, 1) := by decide +kernel
theorem dX9_tears_190 : decode cX9_tears 190 = .ok (.if_icmp .le 7, 3) := by decide +kernel
theorem dX9_tears_193 : decode cX9_tears 193 = .ok (.iconst 1, 1) := by decide +kernel
theorem dX9_tears_194 : decode cX9_tears 194 = .ok (.goto 4, 3) := by decide +kernel
theorem dX9_tears_197 : decode cX9_tears 197 = .ok (.iconst 0, 1) := by decide +kernel
theorem dX9_tears_198 : decode cX9_tears 198 = .ok (.iadd, 1) := by decide +kernel
theorem dX9_tears_199 : decode cX9_tears 199 = .ok (.istore 10, 2) := by decide +kernel
theorem dX9_tears_201 : decode cX9_tears 201 = .ok (.iinc 11 1, 3) := by decide +kernel
theorem dX9_tears_204 : decode cX9_tears 204 = .ok (.iinc 12 1, 3) := by decide +kernel
theorem dX9_tears_207 : decode cX9_tears 207 = .ok (.goto (-101), 3) := by decide +kernel
theorem dX9_tears_210 : decode cX9_tears 210 = .ok (.iload 6, 2) := by decide +kernel
theorem dX9_tears_212 : decode cX9_tears 212 = .ok (.iload 10, 2) := by decide +kernel
theorem dX9_tears_214 : decode cX9_tears 214 = .ok (.iload_n 1, 1) := by decide +kernel
theorem dX9_tears_215 : decode cX9_tears 215 = .ok (.if_icmp .lt 8, 3) := by decide +kernel
theorem dX9_tears_218 : decode cX9_tears 218 = .ok (.iload 9, 2) := by decide +kernel
theorem dX9_tears_220 : decode cX9_tears 220 = .ok (.goto 4, 3) := by decide +kernel
theorem dX9_tears_223 : decode cX9_tears 223 = .ok (.iconst 0, 1) := by decide +kernel
theorem dX9_tears_224 : decode cX9_tears 224 = .ok (.iadd, 1) := by decide +kernel
theorem dX9_tears_225 : decode cX9_tears 225 = .ok (.istore 6, 2) := by decide +kernel
theorem dX9_tears_227 : decode cX9_tears 227 = .ok (.iinc 8 1, 3) := by decide +kernel
theorem dX9_tears_230 : decode cX9_tears 230 = .ok (.goto (-149), 3) := by decide +kernel
theorem dX9_tears_233 : decode cX9_tears 233 = .ok (.iload 6, 2) := by decide +kernel
theorem dX9_tears_235 : decode cX9_tears 235 = .ok (.istore 8, 2) := by decide +kernel
theorem dX9_tears_237 : decode cX9_tears 237 = .ok (.iload 7, 2) := by decide +kernel
theorem dX9_tears_239 : decode cX9_tears 239 = .ok (.istore 9, 2) := by decide +kernel
theorem dX9_tears_241 : decode cX9_tears 241 = .ok (.iload 9, 2) := by decide +kernel
theorem dX9_tears_243 : decode cX9_tears 243 = .ok (.ifCond .eq 21, 3) := by decide +kernel
theorem dX9_tears_246 : decode cX9_tears 246 = .ok (.iload 8, 2) := by decide +kernel
theorem dX9_tears_248 : decode cX9_tears 248 = .ok (.iload 9, 2) := by decide +kernel
theorem dX9_tears_250 : decode cX9_tears 250 = .ok (.irem, 1) := by decide +kernel
theorem dX9_tears_251 : decode cX9_tears 251 = .ok (.istore 10, 2) := by decide +kernel
theorem dX9_tears_253 : decode cX9_tears 253 = .ok (.iload 9, 2) := by decide +kernel
theorem dX9_tears_255 : decode cX9_tears 255 = .ok (.istore 8, 2) := by decide +kernel
theorem dX9_tears_257 : decode cX9_tears 257 = .ok (.iload 10, 2) := by decide +kernel
theorem dX9_tears_259 : decode cX9_tears 259 = .ok (.istore 9, 2) := by decide +kernel
theorem dX9_tears_261 : decode cX9_tears 261 = .ok (.goto (-20), 3) := by decide +kernel
theorem dX9_tears_264 : decode cX9_tears 264 = .ok (.iload_n 3, 1) := by decide +kernel
theorem dX9_tears_265 : decode cX9_tears 265 = .ok (.ifCond .ne 11, 3) := by decide +kernel
theorem dX9_tears_268 : decode cX9_tears 268 = .ok (.iload 6, 2) := by decide +kernel
theorem dX9_tears_270 : decode cX9_tears 270 = .ok (.iload 8, 2) := by decide +kernel
theorem dX9_tears_272 : decode cX9_tears 272 = .ok (.idiv, 1) := by decide +kernel
theorem dX9_tears_273 : decode cX9_tears 273 = .ok (.goto 8, 3) := by decide +kernel
theorem dX9_tears_276 : decode cX9_tears 276 = .ok (.iload 7, 2) := by decide +kernel
theorem dX9_tears_278 : decode cX9_tears 278 = .ok (.iload 8, 2) := by decide +kernel
theorem dX9_tears_280 : decode cX9_tears 280 = .ok (.idiv, 1) := by decide +kernel
theorem dX9_tears_281 : decode cX9_tears 281 = .ok (.ireturn, 1) := by decide +kernel
theorem dX9_year_0 : decode cX9_year 0 = .ok (.iload_n 1, 1) := by decide +kernel
theorem dX9_year_1 : decode cX9_year 1 = .ok (.i2l, 1) := by decide +kernel
theorem dX9_year_2 : decode cX9_year 2 = .ok (.lconst 0, 1) := by decide +kernel
theorem dX9_year_3 : decode cX9_year 3 = .ok (.ldc2_w 249, 3) := by decide +kernel
theorem dX9_year_6 : decode cX9_year 6 = .ok (.invokestatic 92, 3) := by decide +kernel
theorem dX9_year_9 : decode cX9_year 9 = .ok (.ifCond .eq 25, 3) := by decide +kernel
theorem dX9_year_12 : decode cX9_year 12 = .ok (.iload_n 2, 1) := by decide +kernel
theorem dX9_year_13 : decode cX9_year 13 = .ok (.i2l, 1) := by decide +kernel
theorem dX9_year_14 : decode cX9_year 14 = .ok (.lconst 1, 1) := by decide +kernel
theorem dX9_year_15 : decode cX9_year 15 = .ok (.ldc2_w 251, 3) := by decide +kernel
theorem dX9_year_18 : decode cX9_year 18 = .ok (.invokestatic 92, 3) := by decide +kernel
theorem dX9_year_21 : decode cX9_year 21 = .ok (.ifCond .eq 13, 3) := by decide +kernel
theorem dX9_year_24 : decode cX9_year 24 = .ok (.iload_n 3, 1) := by decide +kernel
theorem dX9_year_25 : decode cX9_year 25 = .ok (.i2l, 1) := by decide +kernel
theorem dX9_year_26 : decode cX9_year 26 = .ok (.lconst 0, 1) := by decide +kernel
theorem dX9_year_27 : decode cX9_year 27 = .ok (.lconst 1, 1) := by decide +kernel
theorem dX9_year_28 : decode cX9_year 28 = .ok (.invokestatic 92, 3) := by decide +kernel
theorem dX9_year_31 : decode cX9_year 31 = .ok (.ifCond .ne 5, 3) := by decide +kernel
theorem dX9_year_34 : decode cX9_year 34 = .ok (.iconst (-1), 1) := by decide +kernel
theorem dX9_year_35 : decode cX9_year 35 = .ok (.ireturn, 1) := by decide +kernel
theorem dX9_year_36 : decode cX9_year 36 = .ok (.aload_n 0, 1) := by decide +kernel
theorem dX9_year_37 : decode cX9_year 37 = .ok (.invokevirtual 226, 3) := by decide +kernel
theorem dX9_year_40 : decode cX9_year 40 = .ok (.iconst 0, 1) := by decide +kernel
theorem dX9_year_41 : decode cX9_year 41 = .ok (.istore 4, 2) := by decide +kernel
theorem dX9_year_43 : decode cX9_year 43 = .ok (.iconst 0, 1) := by decide +kernel
theorem dX9_year_44 : decode cX9_year 44 = .ok (.istore 5, 2) := by decide +kernel
theorem dX9_year_46 : decode cX9_year 46 = .ok (.iconst 0, 1) := by decide +kernel
theorem dX9_year_47 : decode cX9_year 47 = .ok (.istore 6, 2) := by decide +kernel
theorem dX9_year_49 : decode cX9_year 49 = .ok (.iload 6, 2) := by decide +kernel
theorem dX9_year_51 : decode cX9_year 51 = .ok (.iload_n 2, 1) := by decide +kernel
theorem dX9_year_52 : decode cX9_year 52 = .ok (.if_icmp .ge 111, 3) := by decide +kernel
theorem dX9_year_55 : decode cX9_year 55 = .ok (.ldc2_w 253, 3) := by decide +kernel
theorem dX9_year_58 : decode cX9_year 58 = .ok (.iload_n 1, 1) := by decide +kernel
theorem dX9_year_59 : decode cX9_year 59 = .ok (.i2l, 1) := by decide +kernel
theorem dX9_year_60 : decode cX9_year 60 = .ok (.lmul, 1) := by decide +kernel
theorem dX9_year_61 : decode cX9_year 61 = .ok (.ldc2_w 255, 3) := by decide +kernel
theorem dX9_year_64 : decode cX9_year 64 = .ok (.iload 6, 2) := by decide +kernel
theorem dX9_year_66 : decode cX9_year 66 = .ok (.i2l, 1) := by decide +kernel
theorem dX9_year_67 : decode cX9_year 67 = .ok (.lmul, 1) := by decide +kernel
theorem dX9_year_68 : decode cX9_year 68 = .ok (.ladd, 1) := by decide +kernel
theorem dX9_year_69 : decode cX9_year 69 = .ok (.lconst 1, 1) := by decide +kernel
theorem dX9_year_70 : decode cX9_year 70 = .ok (.ladd, 1) := by decide +kernel
theorem dX9_year_71 : decode cX9_year 71 = .ok (.lstore 7, 2) := by decide +kernel
theorem dX9_year_73 : decode cX9_year 73 = .ok (.lload 7, 2) := by decide +kernel
theorem dX9_year_75 : decode cX9_year 75 = .ok (.lload 7, 2) := by decide +kernel
theorem dX9_year_77 : decode cX9_year 77 = .ok (.lmul, 1) := by decide +kernel
theorem dX9_year_78 : decode cX9_year 78 = .ok (.ldc2_w 257, 3) := by decide +kernel
theorem dX9_year_81 : decode cX9_year 81 = .ok (.lrem, 1) := by decide +kernel
theorem dX9_year_82 : decode cX9_year 82 = .ok (.l2i, 1) := by decide +kernel
theorem dX9_year_83 : decode cX9_year 83 = .ok (.istore 9, 2) := by decide +kernel
theorem dX9_year_85 : decode cX9_year 85 = .ok (.iload 9, 2) := by decide +kernel
theorem dX9_year_87 : decode cX9_year 87 = .ok (.iconst 4, 1) := by decide +kernel
theorem dX9_year_88 : decode cX9_year 88 = .ok (.idiv, 1) := by decide +kernel
theorem dX9_year_89 : decode cX9_year 89 = .ok (.aload_n 0, 1) := by decide +kernel
theorem dX9_year_90 : decode cX9_year 90 = .ok (.getfield 99, 3) := by decide +kernel
theorem dX9_year_93 : decode cX9_year 93 = .ok (.irem, 1) := by decide +kernel
theorem dX9_year_94 : decode cX9_year 94 = .ok (.istore 10, 2) := by decide +kernel
theorem dX9_year_96 : decode cX9_year 96 = .ok (.iload 4, 2) := by decide +kernel
theorem dX9_year_98 : decode cX9_year 98 = .ok (.aload_n 0, 1) := by decide +kernel
theorem dX9_year_99 : decode cX9_year 99 = .ok (.bipush 19, 2) := by decide +kernel
theorem dX9_year_101 : decode cX9_year 101 = .ok (.iload 9, 2) := by decide +kernel
theorem dX9_year_103 : decode cX9_year 103 = .ok (.aload_n 0, 1) := by decide +kernel
theorem dX9_year_104 : decode cX9_year 104 = .ok (.getfield 96, 3) := by decide +kernel
theorem dX9_year_107 : decode cX9_year 107 = .ok (.irem, 1) := by decide +kernel
theorem dX9_year_108 : decode cX9_year 108 = .ok (.iload 10, 2) := by decide +kernel
theorem dX9_year_110 : decode cX9_year 110 = .ok (.invokevirtual 203, 3) := by decide +kernel
theorem dX9_year_113 : decode cX9_year 113 = .ok (.ifCond .eq 7, 3) := by decide +kernel
theorem dX9_year_116 : decode cX9_year 116 = .ok (.iconst 1, 1) := by decide +kernel
theorem dX9_year_117 : decode cX9_year 117 = .ok (.goto 4, 3) := by decide +kernel
theorem dX9_year_120 : decode cX9_year 120 = .ok (.iconst 0, 1) := by decide +kernel
theorem dX9_year_121 : decode cX9_year 121 = .ok (.iadd, 1) := by decide +kernel
theorem dX9_year_122 : decode cX9_year 122 = .ok (.istore 4, 2) := by decide +kernel
theorem dX9_year_124 : decode cX9_year 124 = .ok (.iload 5, 2) := by decide +kernel
theorem dX9_year_126 : decode cX9_year 126 = .ok (.aload_n 0, 1) := by decide +kernel
theorem dX9_year_127 : decode cX9_year 127 = .ok (.getfield 7, 3) := by decide +kernel
theorem dX9_year_130 : decode cX9_year 130 = .ok (.bipush 30, 2) := by decide +kernel
theorem dX9_year_132 : decode cX9_year 132 = .ok (.iload 10, 2) := by decide +kernel
theorem dX9_year_134 : decode cX9_year 134 = .ok (.iadd, 1) := by decide +kernel
theorem dX9_year_135 : decode cX9_year 135 = .ok (.iaload, 1) := by decide +kernel
theorem dX9_year_136 : decode cX9_year 136 = .ok (.iadd, 1) := by decide +kernel
theorem dX9_year_137 : decode cX9_year 137 = .ok (.istore 5, 2) := by decide +kernel
theorem dX9_year_139 : decode cX9_year 139 = .ok (.aload_n 0, 1) := by decide +kernel
theorem dX9_year_140 : decode cX9_year 140 = .ok (.getfield 7, 3) := by decide +kernel
theorem dX9_year_143 : decode cX9_year 143 = .ok (.bipush 19, 2) := by decide +kernel
theorem dX9_year_145 : decode cX9_year 145 = .ok (.dup2, 1) := by decide +kernel
theorem dX9_year_146 : decode cX9_year 146 = .ok (.iaload, 1) := by decide +kernel
theorem dX9_year_147 : decode cX9_year 147 = .ok (.iload 9, 2) := by decide +kernel
theorem dX9_year_149 : decode cX9_year 149 = .ok (.bipush 64, 2) := by decide +kernel
theorem dX9_year_151 : decode cX9_year 151 = .ok (.idiv, 1) := by decide +kernel
theorem dX9_year_152 : decode cX9_year 152 = .ok (.bipush 8, 2) := by decide +kernel
theorem dX9_year_154 : decode cX9_year 154 = .ok (.irem, 1) := by decide +kernel
theorem dX9_year_155 : decode cX9_year 155 = .ok (.iadd, 1) := by decide +kernel
theorem dX9_year_156 : decode cX9_year 156 = .ok (.iastore, 1) := by decide +kernel
theorem dX9_year_157 : decode cX9_year 157 = .ok (.iinc 6 1, 3) := by decide +kernel
theorem dX9_year_160 : decode cX9_year 160 = .ok (.goto (-111), 3) := by decide +kernel
theorem dX9_year_163 : decode cX9_year 163 = .ok (.iload_n 3, 1) := by decide +kernel
theorem dX9_year_164 : decode cX9_year 164 = .ok (.ifCond .ne 8, 3) := by decide +kernel
theorem dX9_year_167 : decode cX9_year 167 = .ok (.iload 4, 2) := by decide +kernel
theorem dX9_year_169 : decode cX9_year 169 = .ok (.goto 5, 3) := by decide +kernel
theorem dX9_year_172 : decode cX9_year 172 = .ok (.iload 5, 2) := by decide +kernel
theorem dX9_year_174 : decode cX9_year 174 = .ok (.ireturn, 1) := by decide +kernel
theorem dX9_keep_0 : decode cX9_keep 0 = .ok (.aload_n 0, 1) := by decide +kernel
theorem dX9_keep_1 : decode cX9_keep 1 = .ok (.getfield 111, 3) := by decide +kernel
theorem dX9_keep_4 : decode cX9_keep 4 = .ok (.iconst 2, 1) := by decide +kernel
theorem dX9_keep_5 : decode cX9_keep 5 = .ok (.if_icmp .ne 6, 3) := by decide +kernel
theorem dX9_keep_8 : decode cX9_keep 8 = .ok (.bipush (-3), 2) := by decide +kernel
theorem dX9_keep_10 : decode cX9_keep 10 = .ok (.ireturn, 1) := by decide +kernel
theorem dX9_keep_11 : decode cX9_keep 11 = .ok (.aload_n 0, 1) := by decide +kernel
theorem dX9_keep_12 : decode cX9_keep 12 = .ok (.iconst 0, 1) := by decide +kernel
theorem dX9_keep_13 : decode cX9_keep 13 = .ok (.bipush 38, 2) := by decide +kernel
theorem dX9_keep_15 : decode cX9_keep 15 = .ok (.bipush 19, 2) := by decide +kernel
theorem dX9_keep_17 : decode cX9_keep 17 = .ok (.aload_n 0, 1) := by decide +kernel
theorem dX9_keep_18 : decode cX9_keep 18 = .ok (.getfield 111, 3) := by decide +kernel
theorem dX9_keep_21 : decode cX9_keep 21 = .ok (.imul, 1) := by decide +kernel
theorem dX9_keep_22 : decode cX9_keep 22 = .ok (.iadd, 1) := by decide +kernel
theorem dX9_keep_23 : decode cX9_keep 23 = .ok (.invokevirtual 193, 3) := by decide +kernel
theorem dX9_keep_26 : decode cX9_keep 26 = .ok (.aload_n 0, 1) := by decide +kernel
theorem dX9_keep_27 : decode cX9_keep 27 = .ok (.dup, 1) := by decide +kernel
theorem dX9_keep_28 : decode cX9_keep 28 = .ok (.getfield 111, 3) := by decide +kernel
theorem dX9_keep_31 : decode cX9_keep 31 = .ok (.iconst 1, 1) := by decide +kernel
theorem dX9_keep_32 : decode cX9_keep 32 = .ok (.iadd, 1) := by decide +kernel
theorem dX9_keep_33 : decode cX9_keep 33 = .ok (.putfield 111, 3) := by decide +kernel
theorem dX9_keep_36 : decode cX9_keep 36 = .ok (.aload_n 0, 1) := by decide +kernel
theorem dX9_keep_37 : decode cX9_keep 37 = .ok (.getfield 111, 3) := by decide +kernel
theorem dX9_keep_40 : decode cX9_keep 40 = .ok (.ireturn, 1) := by decide +kernel
theorem dX9_back_0 : decode cX9_back 0 = .ok (.aload_n 0, 1) := by decide +kernel
theorem dX9_back_1 : decode cX9_back 1 = .ok (.getfield 111, 3) := by decide +kernel
theorem dX9_back_4 : decode cX9_back 4 = .ok (.ifCond .ne 6, 3) := by decide +kernel
theorem dX9_back_7 : decode cX9_back 7 = .ok (.bipush (-2), 2) := by decide +kernel
theorem dX9_back_9 : decode cX9_back 9 = .ok (.ireturn, 1) := by decide +kernel
theorem dX9_back_10 : decode cX9_back 10 = .ok (.aload_n 0, 1) := by decide +kernel
theorem dX9_back_11 : decode cX9_back 11 = .ok (.dup, 1) := by decide +kernel
theorem dX9_back_12 : decode cX9_back 12 = .ok (.getfield 111, 3) := by decide +kernel
theorem dX9_back_15 : decode cX9_back 15 = .ok (.iconst 1, 1) := by decide +kernel
theorem dX9_back_16 : decode cX9_back 16 = .ok (.isub, 1) := by decide +kernel
theorem dX9_back_17 : decode cX9_back 17 = .ok (.putfield 111, 3) := by decide +kernel
theorem dX9_back_20 : decode cX9_back 20 = .ok (.aload_n 0, 1) := by decide +kernel
theorem dX9_back_21 : decode cX9_back 21 = .ok (.bipush 38, 2) := by decide +kernel
theorem dX9_back_23 : decode cX9_back 23 = .ok (.bipush 19, 2) := by decide +kernel
theorem dX9_back_25 : decode cX9_back 25 = .ok (.aload_n 0, 1) := by decide +kernel
theorem dX9_back_26 : decode cX9_back 26 = .ok (.getfield 111, 3) := by decide +kernel
theorem dX9_back_29 : decode cX9_back 29 = .ok (.imul, 1) := by decide +kernel
theorem dX9_back_30 : decode cX9_back 30 = .ok (.iadd, 1) := by decide +kernel
theorem dX9_back_31 : decode cX9_back 31 = .ok (.iconst 0, 1) := by decide +kernel
theorem dX9_back_32 : decode cX9_back 32 = .ok (.invokevirtual 193, 3) := by decide +kernel
theorem dX9_back_35 : decode cX9_back 35 = .ok (.aload_n 0, 1) := by decide +kernel
theorem dX9_back_36 : decode cX9_back 36 = .ok (.iconst 0, 1) := by decide +kernel
theorem dX9_back_37 : decode cX9_back 37 = .ok (.putfield 108, 3) := by decide +kernel
theorem dX9_back_40 : decode cX9_back 40 = .ok (.aload_n 0, 1) := by decide +kernel
theorem dX9_back_41 : decode cX9_back 41 = .ok (.getfield 111, 3) := by decide +kernel
theorem dX9_back_44 : decode cX9_back 44 = .ok (.ireturn, 1) := by decide +kernel
theorem dX9_count_0 : decode cX9_count 0 = .ok (.iload_n 1, 1) := by decide +kernel
theorem dX9_count_1 : decode cX9_count 1 = .ok (.tableswitch 128 0 10 #[59, 64, 69, 74, 79, 86, 97, 108, 113, 118, 123], 59) := by decide +kernel
theorem dX9_count_60 : decode cX9_count 60 = .ok (.aload_n 0, 1) := by decide +kernel
theorem dX9_count_61 : decode cX9_count 61 = .ok (.invokevirtual 88, 3) := by decide +kernel
theorem dX9_count_64 : decode cX9_count 64 = .ok (.ireturn, 1) := by decide +kernel
theorem dX9_count_65 : decode cX9_count 65 = .ok (.aload_n 0, 1) := by decide +kernel
theorem dX9_count_66 : decode cX9_count 66 = .ok (.getfield 85, 3) := by decide +kernel
theorem dX9_count_69 : decode cX9_count 69 = .ok (.ireturn, 1) := by decide +kernel
theorem dX9_count_70 : decode cX9_count 70 = .ok (.aload_n 0, 1) := by decide +kernel
theorem dX9_count_71 : decode cX9_count 71 = .ok (.getfield 96, 3) := by decide +kernel
theorem dX9_count_74 : decode cX9_count 74 = .ok (.ireturn, 1) := by decide +kernel
theorem dX9_count_75 : decode cX9_count 75 = .ok (.aload_n 0, 1) := by decide +kernel
theorem dX9_count_76 : decode cX9_count 76 = .ok (.getfield 99, 3) := by decide +kernel
theorem dX9_count_79 : decode cX9_count 79 = .ok (.ireturn, 1) := by decide +kernel
theorem dX9_count_80 : decode cX9_count 80 = .ok (.aload_n 0, 1) := by decide +kernel
theorem dX9_count_81 : decode cX9_count 81 = .ok (.getfield 7, 3) := by decide +kernel
theorem dX9_count_84 : decode cX9_count 84 = .ok (.iconst 0, 1) := by decide +kernel
theorem dX9_count_85 : decode cX9_count 85 = .ok (.iaload, 1) := by decide +kernel
theorem dX9_count_86 : decode cX9_count 86 = .ok (.ireturn, 1) := by decide +kernel
theorem dX9_count_87 : decode cX9_count 87 = .ok (.aload_n 0, 1) := by decide +kernel
theorem dX9_count_88 : decode cX9_count 88 = .ok (.getfield 7, 3) := by decide +kernel
theorem dX9_count_91 : decode cX9_count 91 = .ok (.bipush 10, 2) := by decide +kernel
theorem dX9_count_93 : decode cX9_count 93 = .ok (.iaload, 1) := by decide +kernel
theorem dX9_count_94 : decode cX9_count 94 = .ok (.invokestatic 217, 3) := by decide +kernel
theorem dX9_count_97 : decode cX9_count 97 = .ok (.ireturn, 1) := by decide +kernel
theorem dX9_count_98 : decode cX9_count 98 = .ok (.aload_n 0, 1) := by decide +kernel
theorem dX9_count_99 : decode cX9_count 99 = .ok (.getfield 7, 3) := by decide +kernel
theorem dX9_count_102 : decode cX9_count 102 = .ok (.bipush 18, 2) := by decide +kernel
theorem dX9_count_104 : decode cX9_count 104 = .ok (.iaload, 1) := by decide +kernel
theorem dX9_count_105 : decode cX9_count 105 = .ok (.invokestatic 217, 3) := by decide +kernel
theorem dX9_count_108 : decode cX9_count 108 = .ok (.ireturn, 1) := by decide +kernel
theorem dX9_count_109 : decode cX9_count 109 = .ok (.aload_n 0, 1) := by decide +kernel
theorem dX9_count_110 : decode cX9_count 110 = .ok (.getfield 114, 3) := by decide +kernel
theorem dX9_count_113 : decode cX9_count 113 = .ok (.ireturn, 1) := by decide +kernel
theorem dX9_count_114 : decode cX9_count 114 = .ok (.aload_n 0, 1) := by decide +kernel
theorem dX9_count_115 : decode cX9_count 115 = .ok (.getfield 108, 3) := by decide +kernel
theorem dX9_count_118 : decode cX9_count 118 = .ok (.ireturn, 1) := by decide +kernel
theorem dX9_count_119 : decode cX9_count 119 = .ok (.aload_n 0, 1) := by decide +kernel
theorem dX9_count_120 : decode cX9_count 120 = .ok (.getfield 111, 3) := by decide +kernel
theorem dX9_count_123 : decode cX9_count 123 = .ok (.ireturn, 1) := by decide +kernel
theorem dX9_count_124 : decode cX9_count 124 = .ok (.aload_n 0, 1) := by decide +kernel
theorem dX9_count_125 : decode cX9_count 125 = .ok (.getfield 121, 3) := by decide +kernel
theorem dX9_count_128 : decode cX9_count 128 = .ok (.ireturn, 1) := by decide +kernel
theorem dX9_count_129 : decode cX9_count 129 = .ok (.iconst (-1), 1) := by decide +kernel
theorem dX9_count_130 : decode cX9_count 130 = .ok (.ireturn, 1) := by decide +kernel
end
section
def f_J6_bitCount_0f7a4 (x0 : Int32) (m : Mem) : Option (Int32 × Mem) :=
  some ((((((((x0 - (((x0.toUInt32 >>> ((1 : Int32).toUInt32 &&& Int32.toUInt32 31)).toInt32) &&& (1431655765 : Int32))) &&& (858993459 : Int32)) + ((((x0 - (((x0.toUInt32 >>> ((1 : Int32).toUInt32 &&& Int32.toUInt32 31)).toInt32) &&& (1431655765 : Int32))).toUInt32 >>> ((2 : Int32).toUInt32 &&& Int32.toUInt32 31)).toInt32) &&& (858993459 : Int32))) + (((((x0 - (((x0.toUInt32 >>> ((1 : Int32).toUInt32 &&& Int32.toUInt32 31)).toInt32) &&& (1431655765 : Int32))) &&& (858993459 : Int32)) + ((((x0 - (((x0.toUInt32 >>> ((1 : Int32).toUInt32 &&& Int32.toUInt32 31)).toInt32) &&& (1431655765 : Int32))).toUInt32 >>> ((2 : Int32).toUInt32 &&& Int32.toUInt32 31)).toInt32) &&& (858993459 : Int32))).toUInt32 >>> ((4 : Int32).toUInt32 &&& Int32.toUInt32 31)).toInt32)) &&& (252645135 : Int32)) + (((((((x0 - (((x0.toUInt32 >>> ((1 : Int32).toUInt32 &&& Int32.toUInt32 31)).toInt32) &&& (1431655765 : Int32))) &&& (858993459 : Int32)) + ((((x0 - (((x0.toUInt32 >>> ((1 : Int32).toUInt32 &&& Int32.toUInt32 31)).toInt32) &&& (1431655765 : Int32))).toUInt32 >>> ((2 : Int32).toUInt32 &&& Int32.toUInt32 31)).toInt32) &&& (858993459 : Int32))) + (((((x0 - (((x0.toUInt32 >>> ((1 : Int32).toUInt32 &&& Int32.toUInt32 31)).toInt32) &&& (1431655765 : Int32))) &&& (858993459 : Int32)) + ((((x0 - (((x0.toUInt32 >>> ((1 : Int32).toUInt32 &&& Int32.toUInt32 31)).toInt32) &&& (1431655765 : Int32))).toUInt32 >>> ((2 : Int32).toUInt32 &&& Int32.toUInt32 31)).toInt32) &&& (858993459 : Int32))).toUInt32 >>> ((4 : Int32).toUInt32 &&& Int32.toUInt32 31)).toInt32)) &&& (252645135 : Int32)).toUInt32 >>> ((8 : Int32).toUInt32 &&& Int32.toUInt32 31)).toInt32)) + ((((((((x0 - (((x0.toUInt32 >>> ((1 : Int32).toUInt32 &&& Int32.toUInt32 31)).toInt32) &&& (1431655765 : Int32))) &&& (858993459 : Int32)) + ((((x0 - (((x0.toUInt32 >>> ((1 : Int32).toUInt32 &&& Int32.toUInt32 31)).toInt32) &&& (1431655765 : Int32))).toUInt32 >>> ((2 : Int32).toUInt32 &&& Int32.toUInt32 31)).toInt32) &&& (858993459 : Int32))) + (((((x0 - (((x0.toUInt32 >>> ((1 : Int32).toUInt32 &&& Int32.toUInt32 31)).toInt32) &&& (1431655765 : Int32))) &&& (858993459 : Int32)) + ((((x0 - (((x0.toUInt32 >>> ((1 : Int32).toUInt32 &&& Int32.toUInt32 31)).toInt32) &&& (1431655765 : Int32))).toUInt32 >>> ((2 : Int32).toUInt32 &&& Int32.toUInt32 31)).toInt32) &&& (858993459 : Int32))).toUInt32 >>> ((4 : Int32).toUInt32 &&& Int32.toUInt32 31)).toInt32)) &&& (252645135 : Int32)) + (((((((x0 - (((x0.toUInt32 >>> ((1 : Int32).toUInt32 &&& Int32.toUInt32 31)).toInt32) &&& (1431655765 : Int32))) &&& (858993459 : Int32)) + ((((x0 - (((x0.toUInt32 >>> ((1 : Int32).toUInt32 &&& Int32.toUInt32 31)).toInt32) &&& (1431655765 : Int32))).toUInt32 >>> ((2 : Int32).toUInt32 &&& Int32.toUInt32 31)).toInt32) &&& (858993459 : Int32))) + (((((x0 - (((x0.toUInt32 >>> ((1 : Int32).toUInt32 &&& Int32.toUInt32 31)).toInt32) &&& (1431655765 : Int32))) &&& (858993459 : Int32)) + ((((x0 - (((x0.toUInt32 >>> ((1 : Int32).toUInt32 &&& Int32.toUInt32 31)).toInt32) &&& (1431655765 : Int32))).toUInt32 >>> ((2 : Int32).toUInt32 &&& Int32.toUInt32 31)).toInt32) &&& (858993459 : Int32))).toUInt32 >>> ((4 : Int32).toUInt32 &&& Int32.toUInt32 31)).toInt32)) &&& (252645135 : Int32)).toUInt32 >>> ((8 : Int32).toUInt32 &&& Int32.toUInt32 31)).toInt32)).toUInt32 >>> ((16 : Int32).toUInt32 &&& Int32.toUInt32 31)).toInt32)) &&& (63 : Int32), m)
set_option maxHeartbeats 4000000 in
set_option maxRecDepth 100000 in
theorem c_J6_bitCount_0f7a4 (l : Launch) (D : va_G) (ca : Nat → ClassId) (ad : Nat → Nat) (hi : fl_inj L1 ad) (x0 : Int32) (m : Mem) (v' : Int32) (M' : Mem) (h : f_J6_bitCount_0f7a4 x0 m = some (v', M')) : fl_M l L1 D ca ad yJ6_bitCount_0f7a4 cJ6_bitCount_0f7a4 1 (some .int) 1 [.int x0] m (some (.int v')) M' := by
  unfold f_J6_bitCount_0f7a4 at h
  refine fl_ofW (by decide) hi (Nat.le_of_ble_eq_true rfl) ?_
  intro p e s mm args below meth c ls X hr hlk hP hl
  have hl : lv_has ls 1 [(0, .int x0)] := hl
  have X : fl_X p s mm args c cJ6_bitCount_0f7a4 1 RJ6 L1 D ca ad := X
  obtain ⟨hx, hb, hml, hown, hts, hE, -⟩ := id X
  have hS : va_S (fl_A L1 ad) s.heap s.heap [] := va_S.rf
  refine lv_iload_n hx hb dJ6_bitCount_0f7a4_0 rfl (lv_at hl 0 rfl) ?_
  refine lv_iload_n hx hb dJ6_bitCount_0f7a4_1 rfl (lv_at hl 0 rfl) ?_
  refine lv_iconst (v := (1 : Int32)) hx hb dJ6_bitCount_0f7a4_2 (by decide) ?_
  refine lv_iushr (v := (x0.toUInt32 >>> ((1 : Int32).toUInt32 &&& Int32.toUInt32 31)).toInt32) hx hb dJ6_bitCount_0f7a4_3 rfl ?_
  refine lv_ldcw (v := (1431655765 : Int32)) hx hb hown (hts _ wq_690) dJ6_bitCount_0f7a4_4 ?_
  refine lv_iand hx hb dJ6_bitCount_0f7a4_7 ?_
  refine lv_isub hx hb dJ6_bitCount_0f7a4_8 ?_
  refine lv_istore_n (lv' := [(0, .int (x0 - (((x0.toUInt32 >>> ((1 : Int32).toUInt32 &&& Int32.toUInt32 31)).toInt32) &&& (1431655765 : Int32))))]) hx hb dJ6_bitCount_0f7a4_9 rfl hl (by decide) rfl (fun ls hl => ?_)
  refine lv_iload_n hx hb dJ6_bitCount_0f7a4_10 rfl (lv_at hl 0 rfl) ?_
  refine lv_ldcw (v := (858993459 : Int32)) hx hb hown (hts _ wq_691) dJ6_bitCount_0f7a4_11 ?_
  refine lv_iand hx hb dJ6_bitCount_0f7a4_14 ?_
  refine lv_iload_n hx hb dJ6_bitCount_0f7a4_15 rfl (lv_at hl 0 rfl) ?_
  refine lv_iconst (v := (2 : Int32)) hx hb dJ6_bitCount_0f7a4_16 (by decide) ?_
  refine lv_iushr (v := ((x0 - (((x0.toUInt32 >>> ((1 : Int32).toUInt32 &&& Int32.toUInt32 31)).toInt32) &&& (1431655765 : Int32))).toUInt32 >>> ((2 : Int32).toUInt32 &&& Int32.toUInt32 31)).toInt32) hx hb dJ6_bitCount_0f7a4_17 rfl ?_
  refine lv_ldcw (v := (858993459 : Int32)) hx hb hown (hts _ wq_691) dJ6_bitCount_0f7a4_18 ?_
  refine lv_iand hx hb dJ6_bitCount_0f7a4_21 ?_
  refine lv_iadd hx hb dJ6_bitCount_0f7a4_22 ?_
  refine lv_istore_n (lv' := [(0, .int (((x0 - (((x0.toUInt32 >>> ((1 : Int32).toUInt32 &&& Int32.toUInt32 31)).toInt32) &&& (1431655765 : Int32))) &&& (858993459 : Int32)) + ((((x0 - (((x0.toUInt32 >>> ((1 : Int32).toUInt32 &&& Int32.toUInt32 31)).toInt32) &&& (1431655765 : Int32))).toUInt32 >>> ((2 : Int32).toUInt32 &&& Int32.toUInt32 31)).toInt32) &&& (858993459 : Int32))))]) hx hb dJ6_bitCount_0f7a4_23 rfl hl (by decide) rfl (fun ls hl => ?_)
  refine lv_iload_n hx hb dJ6_bitCount_0f7a4_24 rfl (lv_at hl 0 rfl) ?_
  refine lv_iload_n hx hb dJ6_bitCount_0f7a4_25 rfl (lv_at hl 0 rfl) ?_
  refine lv_iconst (v := (4 : Int32)) hx hb dJ6_bitCount_0f7a4_26 (by decide) ?_
  refine lv_iushr (v := ((((x0 - (((x0.toUInt32 >>> ((1 : Int32).toUInt32 &&& Int32.toUInt32 31)).toInt32) &&& (1431655765 : Int32))) &&& (858993459 : Int32)) + ((((x0 - (((x0.toUInt32 >>> ((1 : Int32).toUInt32 &&& Int32.toUInt32 31)).toInt32) &&& (1431655765 : Int32))).toUInt32 >>> ((2 : Int32).toUInt32 &&& Int32.toUInt32 31)).toInt32) &&& (858993459 : Int32))).toUInt32 >>> ((4 : Int32).toUInt32 &&& Int32.toUInt32 31)).toInt32) hx hb dJ6_bitCount_0f7a4_27 rfl ?_
  refine lv_iadd hx hb dJ6_bitCount_0f7a4_28 ?_
  refine lv_ldcw (v := (252645135 : Int32)) hx hb hown (hts _ wq_692) dJ6_bitCount_0f7a4_29 ?_
  refine lv_iand hx hb dJ6_bitCount_0f7a4_32 ?_
  refine lv_istore_n (lv' := [(0, .int (((((x0 - (((x0.toUInt32 >>> ((1 : Int32).toUInt32 &&& Int32.toUInt32 31)).toInt32) &&& (1431655765 : Int32))) &&& (858993459 : Int32)) + ((((x0 - (((x0.toUInt32 >>> ((1 : Int32).toUInt32 &&& Int32.toUInt32 31)).toInt32) &&& (1431655765 : Int32))).toUInt32 >>> ((2 : Int32).toUInt32 &&& Int32.toUInt32 31)).toInt32) &&& (858993459 : Int32))) + (((((x0 - (((x0.toUInt32 >>> ((1 : Int32).toUInt32 &&& Int32.toUInt32 31)).toInt32) &&& (1431655765 : Int32))) &&& (858993459 : Int32)) + ((((x0 - (((x0.toUInt32 >>> ((1 : Int32).toUInt32 &&& Int32.toUInt32 31)).toInt32) &&& (1431655765 : Int32))).toUInt32 >>> ((2 : Int32).toUInt32 &&& Int32.toUInt32 31)).toInt32) &&& (858993459 : Int32))).toUInt32 >>> ((4 : Int32).toUInt32 &&& Int32.toUInt32 31)).toInt32)) &&& (252645135 : Int32)))]) hx hb dJ6_bitCount_0f7a4_33 rfl hl (by decide) rfl (fun ls hl => ?_)
  refine lv_iload_n hx hb dJ6_bitCount_0f7a4_34 rfl (lv_at hl 0 rfl) ?_
  refine lv_iload_n hx hb dJ6_bitCount_0f7a4_35 rfl (lv_at hl 0 rfl) ?_
  refine lv_bipush (v := (8 : Int32)) hx hb dJ6_bitCount_0f7a4_36 (by decide) ?_
  refine lv_iushr (v := ((((((x0 - (((x0.toUInt32 >>> ((1 : Int32).toUInt32 &&& Int32.toUInt32 31)).toInt32) &&& (1431655765 : Int32))) &&& (858993459 : Int32)) + ((((x0 - (((x0.toUInt32 >>> ((1 : Int32).toUInt32 &&& Int32.toUInt32 31)).toInt32) &&& (1431655765 : Int32))).toUInt32 >>> ((2 : Int32).toUInt32 &&& Int32.toUInt32 31)).toInt32) &&& (858993459 : Int32))) + (((((x0 - (((x0.toUInt32 >>> ((1 : Int32).toUInt32 &&& Int32.toUInt32 31)).toInt32) &&& (1431655765 : Int32))) &&& (858993459 : Int32)) + ((((x0 - (((x0.toUInt32 >>> ((1 : Int32).toUInt32 &&& Int32.toUInt32 31)).toInt32) &&& (1431655765 : Int32))).toUInt32 >>> ((2 : Int32).toUInt32 &&& Int32.toUInt32 31)).toInt32) &&& (858993459 : Int32))).toUInt32 >>> ((4 : Int32).toUInt32 &&& Int32.toUInt32 31)).toInt32)) &&& (252645135 : Int32)).toUInt32 >>> ((8 : Int32).toUInt32 &&& Int32.toUInt32 31)).toInt32) hx hb dJ6_bitCount_0f7a4_38 rfl ?_
  refine lv_iadd hx hb dJ6_bitCount_0f7a4_39 ?_
  refine lv_istore_n (lv' := [(0, .int ((((((x0 - (((x0.toUInt32 >>> ((1 : Int32).toUInt32 &&& Int32.toUInt32 31)).toInt32) &&& (1431655765 : Int32))) &&& (858993459 : Int32)) + ((((x0 - (((x0.toUInt32 >>> ((1 : Int32).toUInt32 &&& Int32.toUInt32 31)).toInt32) &&& (1431655765 : Int32))).toUInt32 >>> ((2 : Int32).toUInt32 &&& Int32.toUInt32 31)).toInt32) &&& (858993459 : Int32))) + (((((x0 - (((x0.toUInt32 >>> ((1 : Int32).toUInt32 &&& Int32.toUInt32 31)).toInt32) &&& (1431655765 : Int32))) &&& (858993459 : Int32)) + ((((x0 - (((x0.toUInt32 >>> ((1 : Int32).toUInt32 &&& Int32.toUInt32 31)).toInt32) &&& (1431655765 : Int32))).toUInt32 >>> ((2 : Int32).toUInt32 &&& Int32.toUInt32 31)).toInt32) &&& (858993459 : Int32))).toUInt32 >>> ((4 : Int32).toUInt32 &&& Int32.toUInt32 31)).toInt32)) &&& (252645135 : Int32)) + (((((((x0 - (((x0.toUInt32 >>> ((1 : Int32).toUInt32 &&& Int32.toUInt32 31)).toInt32) &&& (1431655765 : Int32))) &&& (858993459 : Int32)) + ((((x0 - (((x0.toUInt32 >>> ((1 : Int32).toUInt32 &&& Int32.toUInt32 31)).toInt32) &&& (1431655765 : Int32))).toUInt32 >>> ((2 : Int32).toUInt32 &&& Int32.toUInt32 31)).toInt32) &&& (858993459 : Int32))) + (((((x0 - (((x0.toUInt32 >>> ((1 : Int32).toUInt32 &&& Int32.toUInt32 31)).toInt32) &&& (1431655765 : Int32))) &&& (858993459 : Int32)) + ((((x0 - (((x0.toUInt32 >>> ((1 : Int32).toUInt32 &&& Int32.toUInt32 31)).toInt32) &&& (1431655765 : Int32))).toUInt32 >>> ((2 : Int32).toUInt32 &&& Int32.toUInt32 31)).toInt32) &&& (858993459 : Int32))).toUInt32 >>> ((4 : Int32).toUInt32 &&& Int32.toUInt32 31)).toInt32)) &&& (252645135 : Int32)).toUInt32 >>> ((8 : Int32).toUInt32 &&& Int32.toUInt32 31)).toInt32)))]) hx hb dJ6_bitCount_0f7a4_40 rfl hl (by decide) rfl (fun ls hl => ?_)
  refine lv_iload_n hx hb dJ6_bitCount_0f7a4_41 rfl (lv_at hl 0 rfl) ?_
  refine lv_iload_n hx hb dJ6_bitCount_0f7a4_42 rfl (lv_at hl 0 rfl) ?_
  refine lv_bipush (v := (16 : Int32)) hx hb dJ6_bitCount_0f7a4_43 (by decide) ?_
  refine lv_iushr (v := (((((((x0 - (((x0.toUInt32 >>> ((1 : Int32).toUInt32 &&& Int32.toUInt32 31)).toInt32) &&& (1431655765 : Int32))) &&& (858993459 : Int32)) + ((((x0 - (((x0.toUInt32 >>> ((1 : Int32).toUInt32 &&& Int32.toUInt32 31)).toInt32) &&& (1431655765 : Int32))).toUInt32 >>> ((2 : Int32).toUInt32 &&& Int32.toUInt32 31)).toInt32) &&& (858993459 : Int32))) + (((((x0 - (((x0.toUInt32 >>> ((1 : Int32).toUInt32 &&& Int32.toUInt32 31)).toInt32) &&& (1431655765 : Int32))) &&& (858993459 : Int32)) + ((((x0 - (((x0.toUInt32 >>> ((1 : Int32).toUInt32 &&& Int32.toUInt32 31)).toInt32) &&& (1431655765 : Int32))).toUInt32 >>> ((2 : Int32).toUInt32 &&& Int32.toUInt32 31)).toInt32) &&& (858993459 : Int32))).toUInt32 >>> ((4 : Int32).toUInt32 &&& Int32.toUInt32 31)).toInt32)) &&& (252645135 : Int32)) + (((((((x0 - (((x0.toUInt32 >>> ((1 : Int32).toUInt32 &&& Int32.toUInt32 31)).toInt32) &&& (1431655765 : Int32))) &&& (858993459 : Int32)) + ((((x0 - (((x0.toUInt32 >>> ((1 : Int32).toUInt32 &&& Int32.toUInt32 31)).toInt32) &&& (1431655765 : Int32))).toUInt32 >>> ((2 : Int32).toUInt32 &&& Int32.toUInt32 31)).toInt32) &&& (858993459 : Int32))) + (((((x0 - (((x0.toUInt32 >>> ((1 : Int32).toUInt32 &&& Int32.toUInt32 31)).toInt32) &&& (1431655765 : Int32))) &&& (858993459 : Int32)) + ((((x0 - (((x0.toUInt32 >>> ((1 : Int32).toUInt32 &&& Int32.toUInt32 31)).toInt32) &&& (1431655765 : Int32))).toUInt32 >>> ((2 : Int32).toUInt32 &&& Int32.toUInt32 31)).toInt32) &&& (858993459 : Int32))).toUInt32 >>> ((4 : Int32).toUInt32 &&& Int32.toUInt32 31)).toInt32)) &&& (252645135 : Int32)).toUInt32 >>> ((8 : Int32).toUInt32 &&& Int32.toUInt32 31)).toInt32)).toUInt32 >>> ((16 : Int32).toUInt32 &&& Int32.toUInt32 31)).toInt32) hx hb dJ6_bitCount_0f7a4_45 rfl ?_
  refine lv_iadd hx hb dJ6_bitCount_0f7a4_46 ?_
  refine lv_istore_n (lv' := [(0, .int (((((((x0 - (((x0.toUInt32 >>> ((1 : Int32).toUInt32 &&& Int32.toUInt32 31)).toInt32) &&& (1431655765 : Int32))) &&& (858993459 : Int32)) + ((((x0 - (((x0.toUInt32 >>> ((1 : Int32).toUInt32 &&& Int32.toUInt32 31)).toInt32) &&& (1431655765 : Int32))).toUInt32 >>> ((2 : Int32).toUInt32 &&& Int32.toUInt32 31)).toInt32) &&& (858993459 : Int32))) + (((((x0 - (((x0.toUInt32 >>> ((1 : Int32).toUInt32 &&& Int32.toUInt32 31)).toInt32) &&& (1431655765 : Int32))) &&& (858993459 : Int32)) + ((((x0 - (((x0.toUInt32 >>> ((1 : Int32).toUInt32 &&& Int32.toUInt32 31)).toInt32) &&& (1431655765 : Int32))).toUInt32 >>> ((2 : Int32).toUInt32 &&& Int32.toUInt32 31)).toInt32) &&& (858993459 : Int32))).toUInt32 >>> ((4 : Int32).toUInt32 &&& Int32.toUInt32 31)).toInt32)) &&& (252645135 : Int32)) + (((((((x0 - (((x0.toUInt32 >>> ((1 : Int32).toUInt32 &&& Int32.toUInt32 31)).toInt32) &&& (1431655765 : Int32))) &&& (858993459 : Int32)) + ((((x0 - (((x0.toUInt32 >>> ((1 : Int32).toUInt32 &&& Int32.toUInt32 31)).toInt32) &&& (1431655765 : Int32))).toUInt32 >>> ((2 : Int32).toUInt32 &&& Int32.toUInt32 31)).toInt32) &&& (858993459 : Int32))) + (((((x0 - (((x0.toUInt32 >>> ((1 : Int32).toUInt32 &&& Int32.toUInt32 31)).toInt32) &&& (1431655765 : Int32))) &&& (858993459 : Int32)) + ((((x0 - (((x0.toUInt32 >>> ((1 : Int32).toUInt32 &&& Int32.toUInt32 31)).toInt32) &&& (1431655765 : Int32))).toUInt32 >>> ((2 : Int32).toUInt32 &&& Int32.toUInt32 31)).toInt32) &&& (858993459 : Int32))).toUInt32 >>> ((4 : Int32).toUInt32 &&& Int32.toUInt32 31)).toInt32)) &&& (252645135 : Int32)).toUInt32 >>> ((8 : Int32).toUInt32 &&& Int32.toUInt32 31)).toInt32)) + ((((((((x0 - (((x0.toUInt32 >>> ((1 : Int32).toUInt32 &&& Int32.toUInt32 31)).toInt32) &&& (1431655765 : Int32))) &&& (858993459 : Int32)) + ((((x0 - (((x0.toUInt32 >>> ((1 : Int32).toUInt32 &&& Int32.toUInt32 31)).toInt32) &&& (1431655765 : Int32))).toUInt32 >>> ((2 : Int32).toUInt32 &&& Int32.toUInt32 31)).toInt32) &&& (858993459 : Int32))) + (((((x0 - (((x0.toUInt32 >>> ((1 : Int32).toUInt32 &&& Int32.toUInt32 31)).toInt32) &&& (1431655765 : Int32))) &&& (858993459 : Int32)) + ((((x0 - (((x0.toUInt32 >>> ((1 : Int32).toUInt32 &&& Int32.toUInt32 31)).toInt32) &&& (1431655765 : Int32))).toUInt32 >>> ((2 : Int32).toUInt32 &&& Int32.toUInt32 31)).toInt32) &&& (858993459 : Int32))).toUInt32 >>> ((4 : Int32).toUInt32 &&& Int32.toUInt32 31)).toInt32)) &&& (252645135 : Int32)) + (((((((x0 - (((x0.toUInt32 >>> ((1 : Int32).toUInt32 &&& Int32.toUInt32 31)).toInt32) &&& (1431655765 : Int32))) &&& (858993459 : Int32)) + ((((x0 - (((x0.toUInt32 >>> ((1 : Int32).toUInt32 &&& Int32.toUInt32 31)).toInt32) &&& (1431655765 : Int32))).toUInt32 >>> ((2 : Int32).toUInt32 &&& Int32.toUInt32 31)).toInt32) &&& (858993459 : Int32))) + (((((x0 - (((x0.toUInt32 >>> ((1 : Int32).toUInt32 &&& Int32.toUInt32 31)).toInt32) &&& (1431655765 : Int32))) &&& (858993459 : Int32)) + ((((x0 - (((x0.toUInt32 >>> ((1 : Int32).toUInt32 &&& Int32.toUInt32 31)).toInt32) &&& (1431655765 : Int32))).toUInt32 >>> ((2 : Int32).toUInt32 &&& Int32.toUInt32 31)).toInt32) &&& (858993459 : Int32))).toUInt32 >>> ((4 : Int32).toUInt32 &&& Int32.toUInt32 31)).toInt32)) &&& (252645135 : Int32)).toUInt32 >>> ((8 : Int32).toUInt32 &&& Int32.toUInt32 31)).toInt32)).toUInt32 >>> ((16 : Int32).toUInt32 &&& Int32.toUInt32 31)).toInt32)))]) hx hb dJ6_bitCount_0f7a4_47 rfl hl (by decide) rfl (fun ls hl => ?_)
  refine lv_iload_n hx hb dJ6_bitCount_0f7a4_48 rfl (lv_at hl 0 rfl) ?_
  refine lv_bipush (v := (63 : Int32)) hx hb dJ6_bitCount_0f7a4_49 (by decide) ?_
  refine lv_iand hx hb dJ6_bitCount_0f7a4_51 ?_
  exact fl_iret X hr hlk hP hS dJ6_bitCount_0f7a4_52 h
end
section
def f_X8_within (x0 : Int32) (x1 : Int32) (x2 : Int32) (m : Mem) : Option (Int32 × Mem) :=
  if x0 < x1 then (
    some ((0 : Int32), m))
  else (
    if x2 < x0 then (
      some ((0 : Int32), m))
    else (
      some ((1 : Int32), m)))
set_option maxHeartbeats 4000000 in
set_option maxRecDepth 100000 in
theorem c_X8_within (l : Launch) (D : va_G) (ca : Nat → ClassId) (ad : Nat → Nat) (hi : fl_inj L1 ad) (x0 : Int32) (x1 : Int32) (x2 : Int32) (m : Mem) (v' : Int32) (M' : Mem) (h : f_X8_within x0 x1 x2 m = some (v', M')) : fl_M l L1 D ca ad yX8_within cX8_within 3 (some .boolean) 1 [.int x0, .int x1, .int x2] m (some (.int v')) M' := by
  unfold f_X8_within at h
  refine fl_ofW (by decide) hi (Nat.le_of_ble_eq_true rfl) ?_
  intro p e s mm args below meth c ls X hr hlk hP hl
  have hl : lv_has ls 3 [(0, .int x0), (1, .int x1), (2, .int x2)] := hl
  have X : fl_X p s mm args c cX8_within 3 RX8 L1 D ca ad := X
  obtain ⟨hx, hb, hml, hown, hts, hE, -⟩ := id X
  have hS : va_S (fl_A L1 ad) s.heap s.heap [] := va_S.rf
  refine lv_iload_n hx hb dX8_within_0 rfl (lv_at hl 0 rfl) ?_
  refine lv_iload_n hx hb dX8_within_1 rfl (lv_at hl 1 rfl) ?_
  refine lv_icmp_lt (tgt := 14) hx hb dX8_within_2 (by decide) (fun c1 => ?_) (fun c1 => ?_)
  · replace h := fl_if_t h c1
    refine lv_iconst (v := (0 : Int32)) hx hb dX8_within_14 (by decide) ?_
    exact fl_zret X hr hlk (by decide) hP hS dX8_within_15 h
  · replace h := fl_if_f h c1
    refine lv_iload_n hx hb dX8_within_5 rfl (lv_at hl 0 rfl) ?_
    refine lv_iload_n hx hb dX8_within_6 rfl (lv_at hl 2 rfl) ?_
    refine lv_icmp_gt (tgt := 14) hx hb dX8_within_7 (by decide) (fun c2 => ?_) (fun c2 => ?_)
    · replace h := fl_if_t h c2
      refine lv_iconst (v := (0 : Int32)) hx hb dX8_within_14 (by decide) ?_
      exact fl_zret X hr hlk (by decide) hP hS dX8_within_15 h
    · replace h := fl_if_f h c2
      refine lv_iconst (v := (1 : Int32)) hx hb dX8_within_10 (by decide) ?_
      refine lv_goto (tgt := 15) hx hb dX8_within_11 (by decide) ?_
      exact fl_zret X hr hlk (by decide) hP hS dX8_within_15 h

def f_X0_clear (K0 : Nat) (m : Mem) : Option (Int32 × Mem) :=
  some ((0 : Int32), mI (mI (mI (mI m K0 0 (4 : Int32)) K0 1 (4 : Int32)) K0 2 (0 : Int32)) K0 3 (0 : Int32))
set_option maxHeartbeats 4000000 in
set_option maxRecDepth 100000 in
theorem c_X0_clear (l : Launch) (D : va_G) (ca : Nat → ClassId) (ad : Nat → Nat) (hi : fl_inj L1 ad) (K0 : Nat) (hK0 : isCity K0) (m : Mem) (v' : Int32) (M' : Mem) (h : f_X0_clear K0 m = some (v', M')) : fl_M l L1 D ca ad yX0_clear cX0_clear 1 none 1 [.ref (ad K0)] m none M' := by
  unfold f_X0_clear at h
  refine fl_ofW (by decide) hi (Nat.le_of_ble_eq_true rfl) ?_
  intro p e s mm args below meth c ls X hr hlk hP hl
  have hl : lv_has ls 1 [(0, .ref (ad K0))] := hl
  have X : fl_X p s mm args c cX0_clear 1 RX0 L1 D ca ad := X
  obtain ⟨hx, hb, hml, hown, hts, hE, -⟩ := id X
  have hS : va_S (fl_A L1 ad) s.heap s.heap [] := va_S.rf
  refine lv_aload_n hx hb dX0_clear_0 rfl (lv_at hl 0 rfl) ?_
  refine lv_iconst (v := (4 : Int32)) hx hb dX0_clear_1 (by decide) ?_
  refine fl_puti X hP hS pk_X0_43 hK0.1 rfl rfl rfl dX0_clear_2 (fun H locs hP hS => ?_)
  have hP : va_P D vwCl (fl_w L1 ca ad (mI m K0 0 (4 : Int32))) H := hP
  refine lv_aload_n hx hb dX0_clear_5 rfl (lv_at hl 0 rfl) ?_
  refine lv_iconst (v := (4 : Int32)) hx hb dX0_clear_6 (by decide) ?_
  refine fl_puti X hP hS pk_X0_47 hK0.1 rfl rfl rfl dX0_clear_7 (fun H locs hP hS => ?_)
  have hP : va_P D vwCl (fl_w L1 ca ad (mI (mI m K0 0 (4 : Int32)) K0 1 (4 : Int32))) H := hP
  refine lv_aload_n hx hb dX0_clear_10 rfl (lv_at hl 0 rfl) ?_
  refine lv_iconst (v := (0 : Int32)) hx hb dX0_clear_11 (by decide) ?_
  refine fl_puti X hP hS pk_X0_50 hK0.1 rfl rfl rfl dX0_clear_12 (fun H locs hP hS => ?_)
  have hP : va_P D vwCl (fl_w L1 ca ad (mI (mI (mI m K0 0 (4 : Int32)) K0 1 (4 : Int32)) K0 2 (0 : Int32))) H := hP
  refine lv_aload_n hx hb dX0_clear_15 rfl (lv_at hl 0 rfl) ?_
  refine lv_iconst (v := (0 : Int32)) hx hb dX0_clear_16 (by decide) ?_
  refine fl_puti X hP hS pk_X0_53 hK0.1 rfl rfl rfl dX0_clear_17 (fun H locs hP hS => ?_)
  have hP : va_P D vwCl (fl_w L1 ca ad (mI (mI (mI (mI m K0 0 (4 : Int32)) K0 1 (4 : Int32)) K0 2 (0 : Int32)) K0 3 (0 : Int32))) H := hP
  exact fl_vret X hr hlk hP hS dX0_clear_20 h

def f_X0_places (K0 : Nat) (m : Mem) : Option (Int32 × Mem) :=
  some ((m.1 K0 0) * (m.1 K0 1), m)
set_option maxHeartbeats 4000000 in
set_option maxRecDepth 100000 in
theorem c_X0_places (l : Launch) (D : va_G) (ca : Nat → ClassId) (ad : Nat → Nat) (hi : fl_inj L1 ad) (K0 : Nat) (hK0 : isCity K0) (m : Mem) (v' : Int32) (M' : Mem) (h : f_X0_places K0 m = some (v', M')) : fl_M l L1 D ca ad yX0_places cX0_places 1 (some .int) 1 [.ref (ad K0)] m (some (.int v')) M' := by
  unfold f_X0_places at h
  refine fl_ofW (by decide) hi (Nat.le_of_ble_eq_true rfl) ?_
  intro p e s mm args below meth c ls X hr hlk hP hl
  have hl : lv_has ls 1 [(0, .ref (ad K0))] := hl
  have X : fl_X p s mm args c cX0_places 1 RX0 L1 D ca ad := X
  obtain ⟨hx, hb, hml, hown, hts, hE, -⟩ := id X
  have hS : va_S (fl_A L1 ad) s.heap s.heap [] := va_S.rf
  refine lv_aload_n hx hb dX0_places_0 rfl (lv_at hl 0 rfl) ?_
  refine fl_geti X hP fk_X0_43 hK0.1 rfl dX0_places_1 ?_
  refine lv_aload_n hx hb dX0_places_4 rfl (lv_at hl 0 rfl) ?_
  refine fl_geti X hP fk_X0_47 hK0.1 rfl dX0_places_5 ?_
  refine lv_imul hx hb dX0_places_8 ?_
  exact fl_iret X hr hlk hP hS dX0_places_9 h

def f_X0_hasPlace (K0 : Nat) (x1 : Int32) (m : Mem) : Option (Int32 × Mem) :=
  fl_bd (f_X0_places K0 m) (fun r1 m2 =>
    fl_bd (f_X8_within x1 (0 : Int32) (r1 - (1 : Int32)) m2) (fun r4 m5 =>
      fl_ck (r4 = 0 ∨ r4 = 1) (
        some (r4, m5))))
set_option maxHeartbeats 4000000 in
set_option maxRecDepth 100000 in
theorem c_X0_hasPlace (l : Launch) (D : va_G) (ca : Nat → ClassId) (ad : Nat → Nat) (hi : fl_inj L1 ad) (K0 : Nat) (hK0 : isCity K0) (x1 : Int32) (m : Mem) (v' : Int32) (M' : Mem) (h : f_X0_hasPlace K0 x1 m = some (v', M')) : fl_M l L1 D ca ad yX0_hasPlace cX0_hasPlace 2 (some .boolean) 2 [.ref (ad K0), .int x1] m (some (.int v')) M' := by
  unfold f_X0_hasPlace at h
  refine fl_ofW (by decide) hi (Nat.le_of_ble_eq_true rfl) ?_
  intro p e s mm args below meth c ls X hr hlk hP hl
  have hl : lv_has ls 2 [(0, .ref (ad K0)), (1, .int x1)] := hl
  have X : fl_X p s mm args c cX0_hasPlace 2 RX0 L1 D ca ad := X
  obtain ⟨hx, hb, hml, hown, hts, hE, -⟩ := id X
  have hS : va_S (fl_A L1 ad) s.heap s.heap [] := va_S.rf
  refine lv_iload_n hx hb dX0_hasPlace_0 rfl (lv_at hl 1 rfl) ?_
  refine lv_iconst (v := (0 : Int32)) hx hb dX0_hasPlace_1 (by decide) ?_
  refine lv_aload_n hx hb dX0_hasPlace_2 rfl (lv_at hl 0 rfl) ?_
  obtain ⟨r1, m2, hz3, h⟩ := fl_bd_e h
  refine fl_callV (av := []) X hP hS hl.1 mv_X0_64 (c_X0_places l D ca ad hi K0 hK0 m _ _ hz3) hK0.1 (fl_fit_rm (by omega) (by decide)) rfl (Nat.le_of_ble_eq_true rfl) dX0_hasPlace_3 rfl (fun H locs hP hS => ?_)
  refine W.eq (g2 := F0 mm 6 ls [.int r1, .int (0 : Int32), .int x1]) rfl ?_
  refine lv_iconst (v := (1 : Int32)) hx hb dX0_hasPlace_6 (by decide) ?_
  refine lv_isub hx hb dX0_hasPlace_7 ?_
  obtain ⟨r4, m5, hz6, h⟩ := fl_bd_e h
  refine fl_callN (av := [.int x1, .int (0 : Int32), .int (r1 - (1 : Int32))]) X hP hS hl.1 mn_X0_56 (c_X8_within l D ca ad hi x1 (0 : Int32) (r1 - (1 : Int32)) m2 _ _ hz6) (fl_fit_rm (by omega) (by decide)) rfl (Nat.le_of_ble_eq_true rfl) dX0_hasPlace_8 rfl (fun H locs hP hS => ?_)
  refine W.eq (g2 := F0 mm 11 ls [.int r4]) rfl ?_
  obtain ⟨hk7, h⟩ := fl_ck_e h
  exact fl_zret X hr hlk hk7 hP hS dX0_hasPlace_11 h

def f_X0_hasCab (K0 : Nat) (x1 : Int32) (m : Mem) : Option (Int32 × Mem) :=
  fl_bd (f_X8_within x1 (0 : Int32) ((m.1 K0 2) - (1 : Int32)) m) (fun r1 m2 =>
    fl_ck (r1 = 0 ∨ r1 = 1) (
      some (r1, m2)))
set_option maxHeartbeats 4000000 in
set_option maxRecDepth 100000 in
theorem c_X0_hasCab (l : Launch) (D : va_G) (ca : Nat → ClassId) (ad : Nat → Nat) (hi : fl_inj L1 ad) (K0 : Nat) (hK0 : isCity K0) (x1 : Int32) (m : Mem) (v' : Int32) (M' : Mem) (h : f_X0_hasCab K0 x1 m = some (v', M')) : fl_M l L1 D ca ad yX0_hasCab cX0_hasCab 2 (some .boolean) 2 [.ref (ad K0), .int x1] m (some (.int v')) M' := by
  unfold f_X0_hasCab at h
  refine fl_ofW (by decide) hi (Nat.le_of_ble_eq_true rfl) ?_
  intro p e s mm args below meth c ls X hr hlk hP hl
  have hl : lv_has ls 2 [(0, .ref (ad K0)), (1, .int x1)] := hl
  have X : fl_X p s mm args c cX0_hasCab 2 RX0 L1 D ca ad := X
  obtain ⟨hx, hb, hml, hown, hts, hE, -⟩ := id X
  have hS : va_S (fl_A L1 ad) s.heap s.heap [] := va_S.rf
  refine lv_iload_n hx hb dX0_hasCab_0 rfl (lv_at hl 1 rfl) ?_
  refine lv_iconst (v := (0 : Int32)) hx hb dX0_hasCab_1 (by decide) ?_
  refine lv_aload_n hx hb dX0_hasCab_2 rfl (lv_at hl 0 rfl) ?_
  refine fl_geti X hP fk_X0_50 hK0.1 rfl dX0_hasCab_3 ?_
  refine lv_iconst (v := (1 : Int32)) hx hb dX0_hasCab_6 (by decide) ?_
  refine lv_isub hx hb dX0_hasCab_7 ?_
  obtain ⟨r1, m2, hz3, h⟩ := fl_bd_e h
  refine fl_callN (av := [.int x1, .int (0 : Int32), .int ((m.1 K0 2) - (1 : Int32))]) X hP hS hl.1 mn_X0_56 (c_X8_within l D ca ad hi x1 (0 : Int32) ((m.1 K0 2) - (1 : Int32)) m _ _ hz3) (fl_fit_rm (by omega) (by decide)) rfl (Nat.le_of_ble_eq_true rfl) dX0_hasCab_8 rfl (fun H locs hP hS => ?_)
  refine W.eq (g2 := F0 mm 11 ls [.int r1]) rfl ?_
  obtain ⟨hk4, h⟩ := fl_ck_e h
  exact fl_zret X hr hlk hk4 hP hS dX0_hasCab_11 h

def f_X0_hasFare (K0 : Nat) (x1 : Int32) (m : Mem) : Option (Int32 × Mem) :=
  fl_bd (f_X8_within x1 (0 : Int32) ((m.1 K0 3) - (1 : Int32)) m) (fun r1 m2 =>
    fl_ck (r1 = 0 ∨ r1 = 1) (
      some (r1, m2)))
set_option maxHeartbeats 4000000 in
set_option maxRecDepth 100000 in
theorem c_X0_hasFare (l : Launch) (D : va_G) (ca : Nat → ClassId) (ad : Nat → Nat) (hi : fl_inj L1 ad) (K0 : Nat) (hK0 : isCity K0) (x1 : Int32) (m : Mem) (v' : Int32) (M' : Mem) (h : f_X0_hasFare K0 x1 m = some (v', M')) : fl_M l L1 D ca ad yX0_hasFare cX0_hasFare 2 (some .boolean) 2 [.ref (ad K0), .int x1] m (some (.int v')) M' := by
  unfold f_X0_hasFare at h
  refine fl_ofW (by decide) hi (Nat.le_of_ble_eq_true rfl) ?_
  intro p e s mm args below meth c ls X hr hlk hP hl
  have hl : lv_has ls 2 [(0, .ref (ad K0)), (1, .int x1)] := hl
  have X : fl_X p s mm args c cX0_hasFare 2 RX0 L1 D ca ad := X
  obtain ⟨hx, hb, hml, hown, hts, hE, -⟩ := id X
  have hS : va_S (fl_A L1 ad) s.heap s.heap [] := va_S.rf
  refine lv_iload_n hx hb dX0_hasFare_0 rfl (lv_at hl 1 rfl) ?_
  refine lv_iconst (v := (0 : Int32)) hx hb dX0_hasFare_1 (by decide) ?_
  refine lv_aload_n hx hb dX0_hasFare_2 rfl (lv_at hl 0 rfl) ?_
  refine fl_geti X hP fk_X0_53 hK0.1 rfl dX0_hasFare_3 ?_
  refine lv_iconst (v := (1 : Int32)) hx hb dX0_hasFare_6 (by decide) ?_
  refine lv_isub hx hb dX0_hasFare_7 ?_
  obtain ⟨r1, m2, hz3, h⟩ := fl_bd_e h
  refine fl_callN (av := [.int x1, .int (0 : Int32), .int ((m.1 K0 3) - (1 : Int32))]) X hP hS hl.1 mn_X0_56 (c_X8_within l D ca ad hi x1 (0 : Int32) ((m.1 K0 3) - (1 : Int32)) m _ _ hz3) (fl_fit_rm (by omega) (by decide)) rfl (Nat.le_of_ble_eq_true rfl) dX0_hasFare_8 rfl (fun H locs hP hS => ?_)
  refine W.eq (g2 := F0 mm 11 ls [.int r1]) rfl ?_
  obtain ⟨hk4, h⟩ := fl_ck_e h
  exact fl_zret X hr hlk hk4 hP hS dX0_hasFare_11 h

def f_X0_build (K0 : Nat) (x1 : Int32) (x2 : Int32) (m : Mem) : Option (Int32 × Mem) :=
  if 0 < (m.1 K0 2) then (
    some ((0 : Int32), m))
  else (
    if 0 < (m.1 K0 3) then (
      some ((0 : Int32), m))
    else (
      fl_bd (f_X8_within x1 (1 : Int32) (6 : Int32) m) (fun r3 m4 =>
        if r3 = 0 then (
          some ((0 : Int32), m4))
        else (
          fl_bd (f_X8_within x2 (1 : Int32) (6 : Int32) m4) (fun r7 m8 =>
            if r7 = 0 then (
              some ((0 : Int32), m8))
            else (
              some ((1 : Int32), mI (mI m8 K0 0 x1) K0 1 x2)))))))
set_option maxHeartbeats 4000000 in
set_option maxRecDepth 100000 in
theorem c_X0_build (l : Launch) (D : va_G) (ca : Nat → ClassId) (ad : Nat → Nat) (hi : fl_inj L1 ad) (K0 : Nat) (hK0 : isCity K0) (x1 : Int32) (x2 : Int32) (m : Mem) (v' : Int32) (M' : Mem) (h : f_X0_build K0 x1 x2 m = some (v', M')) : fl_M l L1 D ca ad yX0_build cX0_build 3 (some .boolean) 2 [.ref (ad K0), .int x1, .int x2] m (some (.int v')) M' := by
  unfold f_X0_build at h
  refine fl_ofW (by decide) hi (Nat.le_of_ble_eq_true rfl) ?_
  intro p e s mm args below meth c ls X hr hlk hP hl
  have hl : lv_has ls 3 [(0, .ref (ad K0)), (1, .int x1), (2, .int x2)] := hl
  have X : fl_X p s mm args c cX0_build 3 RX0 L1 D ca ad := X
  obtain ⟨hx, hb, hml, hown, hts, hE, -⟩ := id X
  have hS : va_S (fl_A L1 ad) s.heap s.heap [] := va_S.rf
  refine lv_aload_n hx hb dX0_build_0 rfl (lv_at hl 0 rfl) ?_
  refine fl_geti X hP fk_X0_50 hK0.1 rfl dX0_build_1 ?_
  refine lv_if_gt (tgt := 34) hx hb dX0_build_4 (by decide) (fun c1 => ?_) (fun c1 => ?_)
  · replace h := fl_if_t h c1
    refine lv_iconst (v := (0 : Int32)) hx hb dX0_build_34 (by decide) ?_
    exact fl_zret X hr hlk (by decide) hP hS dX0_build_35 h
  · replace h := fl_if_f h c1
    refine lv_aload_n hx hb dX0_build_7 rfl (lv_at hl 0 rfl) ?_
    refine fl_geti X hP fk_X0_53 hK0.1 rfl dX0_build_8 ?_
    refine lv_if_gt (tgt := 34) hx hb dX0_build_11 (by decide) (fun c2 => ?_) (fun c2 => ?_)
    · replace h := fl_if_t h c2
      refine lv_iconst (v := (0 : Int32)) hx hb dX0_build_34 (by decide) ?_
      exact fl_zret X hr hlk (by decide) hP hS dX0_build_35 h
    · replace h := fl_if_f h c2
      refine lv_iload_n hx hb dX0_build_14 rfl (lv_at hl 1 rfl) ?_
      refine lv_iconst (v := (1 : Int32)) hx hb dX0_build_15 (by decide) ?_
      refine lv_bipush (v := (6 : Int32)) hx hb dX0_build_16 (by decide) ?_
      obtain ⟨r3, m4, hz5, h⟩ := fl_bd_e h
      refine fl_callN (av := [.int x1, .int (1 : Int32), .int (6 : Int32)]) X hP hS hl.1 mn_X0_56 (c_X8_within l D ca ad hi x1 (1 : Int32) (6 : Int32) m _ _ hz5) (fl_fit_rm (by omega) (by decide)) rfl (Nat.le_of_ble_eq_true rfl) dX0_build_18 rfl (fun H locs hP hS => ?_)
      refine W.eq (g2 := F0 mm 21 ls [.int r3]) rfl ?_
      refine lv_if_eq (tgt := 34) hx hb dX0_build_21 (by decide) (fun c6 => ?_) (fun c6 => ?_)
      · replace h := fl_if_t h c6
        refine lv_iconst (v := (0 : Int32)) hx hb dX0_build_34 (by decide) ?_
        exact fl_zret X hr hlk (by decide) hP hS dX0_build_35 h
      · replace h := fl_if_f h c6
        refine lv_iload_n hx hb dX0_build_24 rfl (lv_at hl 2 rfl) ?_
        refine lv_iconst (v := (1 : Int32)) hx hb dX0_build_25 (by decide) ?_
        refine lv_bipush (v := (6 : Int32)) hx hb dX0_build_26 (by decide) ?_
        obtain ⟨r7, m8, hz9, h⟩ := fl_bd_e h
        refine fl_callN (av := [.int x2, .int (1 : Int32), .int (6 : Int32)]) X hP hS hl.1 mn_X0_56 (c_X8_within l D ca ad hi x2 (1 : Int32) (6 : Int32) m4 _ _ hz9) (fl_fit_rm (by omega) (by decide)) rfl (Nat.le_of_ble_eq_true rfl) dX0_build_28 rfl (fun H locs hP hS => ?_)
        refine W.eq (g2 := F0 mm 31 ls [.int r7]) rfl ?_
        refine lv_if_ne (tgt := 36) hx hb dX0_build_31 (by decide) (fun c10 => ?_) (fun c10 => ?_)
        · replace h := fl_if_f h c10
          refine lv_aload_n hx hb dX0_build_36 rfl (lv_at hl 0 rfl) ?_
          refine lv_iload_n hx hb dX0_build_37 rfl (lv_at hl 1 rfl) ?_
          refine fl_puti X hP hS pk_X0_43 hK0.1 rfl rfl rfl dX0_build_38 (fun H locs hP hS => ?_)
          have hP : va_P D vwCl (fl_w L1 ca ad (mI m8 K0 0 x1)) H := hP
          refine lv_aload_n hx hb dX0_build_41 rfl (lv_at hl 0 rfl) ?_
          refine lv_iload_n hx hb dX0_build_42 rfl (lv_at hl 2 rfl) ?_
          refine fl_puti X hP hS pk_X0_47 hK0.1 rfl rfl rfl dX0_build_43 (fun H locs hP hS => ?_)
          have hP : va_P D vwCl (fl_w L1 ca ad (mI (mI m8 K0 0 x1) K0 1 x2)) H := hP
          refine lv_iconst (v := (1 : Int32)) hx hb dX0_build_46 (by decide) ?_
          exact fl_zret X hr hlk (by decide) hP hS dX0_build_47 h
        · replace h := fl_if_t h c10
          refine lv_iconst (v := (0 : Int32)) hx hb dX0_build_34 (by decide) ?_
          exact fl_zret X hr hlk (by decide) hP hS dX0_build_35 h

def J_X0_addCab_74 (K0 : Nat) (t1 : Int32) (t2 : Int32) (m : Mem) : Option (Int32 × Mem) :=
  fl_ck (0 ≤ t1.toInt ∧ t1.toInt < 3) (
    some ((1 : Int32), mI (mI m (K0 + 3) (t1.toNatClampNeg) t2) K0 2 (((mI m (K0 + 3) (t1.toNatClampNeg) t2).1 K0 2) + (1 : Int32))))
def f_X0_addCab (K0 : Nat) (x1 : Int32) (x2 : Int32) (x3 : Int32) (m : Mem) : Option (Int32 × Mem) :=
  if (3 : Int32) ≤ (m.1 K0 2) then (
    some ((0 : Int32), m))
  else (
    fl_bd (f_X8_within x1 (0 : Int32) (2 : Int32) m) (fun r2 m3 =>
      if r2 = 0 then (
        some ((0 : Int32), m3))
      else (
        fl_bd (f_X0_hasPlace K0 x2 m3) (fun r6 m7 =>
          if r6 = 0 then (
            some ((0 : Int32), m7))
          else (
            fl_bd (f_X0_hasPlace K0 x3 m7) (fun r10 m11 =>
              if r10 = 0 then (
                some ((0 : Int32), m11))
              else (
                fl_ck (0 ≤ (m11.1 K0 2).toInt ∧ (m11.1 K0 2).toInt < 3) (
                  fl_ck (0 ≤ ((mI m11 (K0 + 1) ((m11.1 K0 2).toNatClampNeg) x1).1 K0 2).toInt ∧ ((mI m11 (K0 + 1) ((m11.1 K0 2).toNatClampNeg) x1).1 K0 2).toInt < 3) (
                    if x3 = x2 then (
                      J_X0_addCab_74 K0 ((mI (mI m11 (K0 + 1) ((m11.1 K0 2).toNatClampNeg) x1) (K0 + 2) (((mI m11 (K0 + 1) ((m11.1 K0 2).toNatClampNeg) x1).1 K0 2).toNatClampNeg) x2).1 K0 2) (-4 : Int32) (mI (mI m11 (K0 + 1) ((m11.1 K0 2).toNatClampNeg) x1) (K0 + 2) (((mI m11 (K0 + 1) ((m11.1 K0 2).toNatClampNeg) x1).1 K0 2).toNatClampNeg) x2))
                    else (
                      J_X0_addCab_74 K0 ((mI (mI m11 (K0 + 1) ((m11.1 K0 2).toNatClampNeg) x1) (K0 + 2) (((mI m11 (K0 + 1) ((m11.1 K0 2).toNatClampNeg) x1).1 K0 2).toNatClampNeg) x2).1 K0 2) x3 (mI (mI m11 (K0 + 1) ((m11.1 K0 2).toNatClampNeg) x1) (K0 + 2) (((mI m11 (K0 + 1) ((m11.1 K0 2).toNatClampNeg) x1).1 K0 2).toNatClampNeg) x2)))))))))))
set_option maxHeartbeats 4000000 in
set_option maxRecDepth 100000 in
theorem c_X0_addCab (l : Launch) (D : va_G) (ca : Nat → ClassId) (ad : Nat → Nat) (hi : fl_inj L1 ad) (K0 : Nat) (hK0 : isCity K0) (x1 : Int32) (x2 : Int32) (x3 : Int32) (m : Mem) (v' : Int32) (M' : Mem) (h : f_X0_addCab K0 x1 x2 x3 m = some (v', M')) : fl_M l L1 D ca ad yX0_addCab cX0_addCab 4 (some .boolean) 3 [.ref (ad K0), .int x1, .int x2, .int x3] m (some (.int v')) M' := by
  unfold f_X0_addCab at h
  refine fl_ofW (by decide) hi (Nat.le_of_ble_eq_true rfl) ?_
  intro p e s mm args below meth c ls X hr hlk hP hl
  have hl : lv_has ls 4 [(0, .ref (ad K0)), (1, .int x1), (2, .int x2), (3, .int x3)] := hl
  have X : fl_X p s mm args c cX0_addCab 4 RX0 L1 D ca ad := X
  obtain ⟨hx, hb, hml, hown, hts, hE, -⟩ := id X
  have hS : va_S (fl_A L1 ad) s.heap s.heap [] := va_S.rf
  have j_74 : ∀ (t1 : Int32) (t2 : Int32) (m : Mem) (H : Heap) (locs : List Loc) (ls : Array Slot), J_X0_addCab_74 K0 t1 t2 m = some (v', M') → va_P D vwCl (fl_w L1 ca ad m) H → va_S (fl_A L1 ad) s.heap H locs → lv_has ls 4 [(0, .ref (ad K0))] → W p l e (fl_rm 3) s mm args below meth c H locs 0 0 (MQ below (fl_Q L1 D ca ad (some (.int v')) M') args s 0 0 (fl_A L1 ad)) (F0 mm 74 ls [.int t2, .int t1, .ref (ad (K0 + 3))]) := by
    intro t1 t2 m H locs ls h hP hS hl
    unfold J_X0_addCab_74 at h
    obtain ⟨hk17, h⟩ := fl_ck_e h
    refine fl_iast X hP hS hK0.2.2.2.1 hk17 dX0_addCab_74 (fun H locs hP hS => ?_)
    have hP : va_P D vwCl (fl_w L1 ca ad (mI m (K0 + 3) (t1.toNatClampNeg) t2)) H := hP
    refine lv_aload_n hx hb dX0_addCab_75 rfl (lv_at hl 0 rfl) ?_
    refine lv_dup hx hb dX0_addCab_76 rfl ?_
    refine fl_geti X hP fk_X0_50 hK0.1 rfl dX0_addCab_77 ?_
    refine lv_iconst (v := (1 : Int32)) hx hb dX0_addCab_80 (by decide) ?_
    refine lv_iadd hx hb dX0_addCab_81 ?_
    refine fl_puti X hP hS pk_X0_50 hK0.1 rfl rfl rfl dX0_addCab_82 (fun H locs hP hS => ?_)
    have hP : va_P D vwCl (fl_w L1 ca ad (mI (mI m (K0 + 3) (t1.toNatClampNeg) t2) K0 2 (((mI m (K0 + 3) (t1.toNatClampNeg) t2).1 K0 2) + (1 : Int32)))) H := hP
    refine lv_iconst (v := (1 : Int32)) hx hb dX0_addCab_85 (by decide) ?_
    exact fl_zret X hr hlk (by decide) hP hS dX0_addCab_86 h
  refine lv_aload_n hx hb dX0_addCab_0 rfl (lv_at hl 0 rfl) ?_
  refine fl_geti X hP fk_X0_50 hK0.1 rfl dX0_addCab_1 ?_
  refine lv_iconst (v := (3 : Int32)) hx hb dX0_addCab_4 (by decide) ?_
  refine lv_icmp_ge (tgt := 33) hx hb dX0_addCab_5 (by decide) (fun c1 => ?_) (fun c1 => ?_)
  · replace h := fl_if_t h c1
    refine lv_iconst (v := (0 : Int32)) hx hb dX0_addCab_33 (by decide) ?_
    exact fl_zret X hr hlk (by decide) hP hS dX0_addCab_34 h
  · replace h := fl_if_f h c1
    refine lv_iload_n hx hb dX0_addCab_8 rfl (lv_at hl 1 rfl) ?_
    refine lv_iconst (v := (0 : Int32)) hx hb dX0_addCab_9 (by decide) ?_
    refine lv_iconst (v := (2 : Int32)) hx hb dX0_addCab_10 (by decide) ?_
    obtain ⟨r2, m3, hz4, h⟩ := fl_bd_e h
    refine fl_callN (av := [.int x1, .int (0 : Int32), .int (2 : Int32)]) X hP hS hl.1 mn_X0_56 (c_X8_within l D ca ad hi x1 (0 : Int32) (2 : Int32) m _ _ hz4) (fl_fit_rm (by omega) (by decide)) rfl (Nat.le_of_ble_eq_true rfl) dX0_addCab_11 rfl (fun H locs hP hS => ?_)
    refine W.eq (g2 := F0 mm 14 ls [.int r2]) rfl ?_
    refine lv_if_eq (tgt := 33) hx hb dX0_addCab_14 (by decide) (fun c5 => ?_) (fun c5 => ?_)
    · replace h := fl_if_t h c5
      refine lv_iconst (v := (0 : Int32)) hx hb dX0_addCab_33 (by decide) ?_
      exact fl_zret X hr hlk (by decide) hP hS dX0_addCab_34 h
    · replace h := fl_if_f h c5
      refine lv_aload_n hx hb dX0_addCab_17 rfl (lv_at hl 0 rfl) ?_
      refine lv_iload_n hx hb dX0_addCab_18 rfl (lv_at hl 2 rfl) ?_
      obtain ⟨r6, m7, hz8, h⟩ := fl_bd_e h
      refine fl_callV (av := [.int x2]) X hP hS hl.1 mv_X0_60 (c_X0_hasPlace l D ca ad hi K0 hK0 x2 m3 _ _ hz8) hK0.1 (fl_fit_rm (by omega) (by decide)) rfl (Nat.le_of_ble_eq_true rfl) dX0_addCab_19 rfl (fun H locs hP hS => ?_)
      refine W.eq (g2 := F0 mm 22 ls [.int r6]) rfl ?_
      refine lv_if_eq (tgt := 33) hx hb dX0_addCab_22 (by decide) (fun c9 => ?_) (fun c9 => ?_)
      · replace h := fl_if_t h c9
        refine lv_iconst (v := (0 : Int32)) hx hb dX0_addCab_33 (by decide) ?_
        exact fl_zret X hr hlk (by decide) hP hS dX0_addCab_34 h
      · replace h := fl_if_f h c9
        refine lv_aload_n hx hb dX0_addCab_25 rfl (lv_at hl 0 rfl) ?_
        refine lv_iload_n hx hb dX0_addCab_26 rfl (lv_at hl 3 rfl) ?_
        obtain ⟨r10, m11, hz12, h⟩ := fl_bd_e h
        refine fl_callV (av := [.int x3]) X hP hS hl.1 mv_X0_60 (c_X0_hasPlace l D ca ad hi K0 hK0 x3 m7 _ _ hz12) hK0.1 (fl_fit_rm (by omega) (by decide)) rfl (Nat.le_of_ble_eq_true rfl) dX0_addCab_27 rfl (fun H locs hP hS => ?_)
        refine W.eq (g2 := F0 mm 30 ls [.int r10]) rfl ?_
        refine lv_if_ne (tgt := 35) hx hb dX0_addCab_30 (by decide) (fun c13 => ?_) (fun c13 => ?_)
        · replace h := fl_if_f h c13
          refine lv_aload_n hx hb dX0_addCab_35 rfl (lv_at hl 0 rfl) ?_
          refine fl_getr X hP fk_X0_9 hK0.1 rfl dX0_addCab_36 ?_
          refine lv_aload_n hx hb dX0_addCab_39 rfl (lv_at hl 0 rfl) ?_
          refine fl_geti X hP fk_X0_50 hK0.1 rfl dX0_addCab_40 ?_
          refine lv_iload_n hx hb dX0_addCab_43 rfl (lv_at hl 1 rfl) ?_
          obtain ⟨hk14, h⟩ := fl_ck_e h
          refine fl_iast X hP hS hK0.2.1 hk14 dX0_addCab_44 (fun H locs hP hS => ?_)
          have hP : va_P D vwCl (fl_w L1 ca ad (mI m11 (K0 + 1) ((m11.1 K0 2).toNatClampNeg) x1)) H := hP
          refine lv_aload_n hx hb dX0_addCab_45 rfl (lv_at hl 0 rfl) ?_
          refine fl_getr X hP fk_X0_15 hK0.1 rfl dX0_addCab_46 ?_
          refine lv_aload_n hx hb dX0_addCab_49 rfl (lv_at hl 0 rfl) ?_
          refine fl_geti X hP fk_X0_50 hK0.1 rfl dX0_addCab_50 ?_
          refine lv_iload_n hx hb dX0_addCab_53 rfl (lv_at hl 2 rfl) ?_
          obtain ⟨hk15, h⟩ := fl_ck_e h
          refine fl_iast X hP hS hK0.2.2.1 hk15 dX0_addCab_54 (fun H locs hP hS => ?_)
          have hP : va_P D vwCl (fl_w L1 ca ad (mI (mI m11 (K0 + 1) ((m11.1 K0 2).toNatClampNeg) x1) (K0 + 2) (((mI m11 (K0 + 1) ((m11.1 K0 2).toNatClampNeg) x1).1 K0 2).toNatClampNeg) x2)) H := hP
          refine lv_aload_n hx hb dX0_addCab_55 rfl (lv_at hl 0 rfl) ?_
          refine fl_getr X hP fk_X0_18 hK0.1 rfl dX0_addCab_56 ?_
          refine lv_aload_n hx hb dX0_addCab_59 rfl (lv_at hl 0 rfl) ?_
          refine fl_geti X hP fk_X0_50 hK0.1 rfl dX0_addCab_60 ?_
          refine lv_iload_n hx hb dX0_addCab_63 rfl (lv_at hl 3 rfl) ?_
          refine lv_iload_n hx hb dX0_addCab_64 rfl (lv_at hl 2 rfl) ?_
          refine lv_icmp_ne (tgt := 73) hx hb dX0_addCab_65 (by decide) (fun c16 => ?_) (fun c16 => ?_)
          · replace h := fl_if_f h c16
            refine lv_iload_n hx hb dX0_addCab_73 rfl (lv_at hl 3 rfl) ?_
            exact j_74 _ _ _ _ _ _ h hP hS (lv_sub hl [0] rfl)
          · replace h := fl_if_t h c16
            refine lv_bipush (v := (-4 : Int32)) hx hb dX0_addCab_68 (by decide) ?_
            refine lv_goto (tgt := 74) hx hb dX0_addCab_70 (by decide) ?_
            exact j_74 _ _ _ _ _ _ h hP hS (lv_sub hl [0] rfl)
        · replace h := fl_if_t h c13
          refine lv_iconst (v := (0 : Int32)) hx hb dX0_addCab_33 (by decide) ?_
          exact fl_zret X hr hlk (by decide) hP hS dX0_addCab_34 h

def J_X0_addFare_53 (K0 : Nat) (t0 : Int32) (m : Mem) : Option (Int32 × Mem) :=
  if t0 = 0 then (
    some ((0 : Int32), m))
  else (
    fl_bd (f_X8_within (m.1 3 3) (0 : Int32) (99 : Int32) m) (fun r16 m17 =>
      if r16 = 0 then (
        some ((0 : Int32), m17))
      else (
        fl_bd (f_X8_within (m17.1 3 4) (0 : Int32) (60 : Int32) m17) (fun r20 m21 =>
          if r20 = 0 then (
            some ((0 : Int32), m21))
          else (
            fl_ck (0 ≤ (m21.1 K0 3).toInt ∧ (m21.1 K0 3).toInt < 7) (
              fl_ck (0 ≤ ((mI m21 (K0 + 4) ((m21.1 K0 3).toNatClampNeg) (m21.1 3 0)).1 K0 3).toInt ∧ ((mI m21 (K0 + 4) ((m21.1 K0 3).toNatClampNeg) (m21.1 3 0)).1 K0 3).toInt < 7) (
                fl_ck (0 ≤ ((mI (mI m21 (K0 + 4) ((m21.1 K0 3).toNatClampNeg) (m21.1 3 0)) (K0 + 5) (((mI m21 (K0 + 4) ((m21.1 K0 3).toNatClampNeg) (m21.1 3 0)).1 K0 3).toNatClampNeg) ((mI m21 (K0 + 4) ((m21.1 K0 3).toNatClampNeg) (m21.1 3 0)).1 3 1)).1 K0 3).toInt ∧ ((mI (mI m21 (K0 + 4) ((m21.1 K0 3).toNatClampNeg) (m21.1 3 0)) (K0 + 5) (((mI m21 (K0 + 4) ((m21.1 K0 3).toNatClampNeg) (m21.1 3 0)).1 K0 3).toNatClampNeg) ((mI m21 (K0 + 4) ((m21.1 K0 3).toNatClampNeg) (m21.1 3 0)).1 3 1)).1 K0 3).toInt < 7) (
                  fl_ck (0 ≤ ((mI (mI (mI m21 (K0 + 4) ((m21.1 K0 3).toNatClampNeg) (m21.1 3 0)) (K0 + 5) (((mI m21 (K0 + 4) ((m21.1 K0 3).toNatClampNeg) (m21.1 3 0)).1 K0 3).toNatClampNeg) ((mI m21 (K0 + 4) ((m21.1 K0 3).toNatClampNeg) (m21.1 3 0)).1 3 1)) (K0 + 6) (((mI (mI m21 (K0 + 4) ((m21.1 K0 3).toNatClampNeg) (m21.1 3 0)) (K0 + 5) (((mI m21 (K0 + 4) ((m21.1 K0 3).toNatClampNeg) (m21.1 3 0)).1 K0 3).toNatClampNeg) ((mI m21 (K0 + 4) ((m21.1 K0 3).toNatClampNeg) (m21.1 3 0)).1 3 1)).1 K0 3).toNatClampNeg) ((mI (mI m21 (K0 + 4) ((m21.1 K0 3).toNatClampNeg) (m21.1 3 0)) (K0 + 5) (((mI m21 (K0 + 4) ((m21.1 K0 3).toNatClampNeg) (m21.1 3 0)).1 K0 3).toNatClampNeg) ((mI m21 (K0 + 4) ((m21.1 K0 3).toNatClampNeg) (m21.1 3 0)).1 3 1)).1 3 2)).1 K0 3).toInt ∧ ((mI (mI (mI m21 (K0 + 4) ((m21.1 K0 3).toNatClampNeg) (m21.1 3 0)) (K0 + 5) (((mI m21 (K0 + 4) ((m21.1 K0 3).toNatClampNeg) (m21.1 3 0)).1 K0 3).toNatClampNeg) ((mI m21 (K0 + 4) ((m21.1 K0 3).toNatClampNeg) (m21.1 3 0)).1 3 1)) (K0 + 6) (((mI (mI m21 (K0 + 4) ((m21.1 K0 3).toNatClampNeg) (m21.1 3 0)) (K0 + 5) (((mI m21 (K0 + 4) ((m21.1 K0 3).toNatClampNeg) (m21.1 3 0)).1 K0 3).toNatClampNeg) ((mI m21 (K0 + 4) ((m21.1 K0 3).toNatClampNeg) (m21.1 3 0)).1 3 1)).1 K0 3).toNatClampNeg) ((mI (mI m21 (K0 + 4) ((m21.1 K0 3).toNatClampNeg) (m21.1 3 0)) (K0 + 5) (((mI m21 (K0 + 4) ((m21.1 K0 3).toNatClampNeg) (m21.1 3 0)).1 K0 3).toNatClampNeg) ((mI m21 (K0 + 4) ((m21.1 K0 3).toNatClampNeg) (m21.1 3 0)).1 3 1)).1 3 2)).1 K0 3).toInt < 7) (
                    fl_ck (0 ≤ ((mI (mI (mI (mI m21 (K0 + 4) ((m21.1 K0 3).toNatClampNeg) (m21.1 3 0)) (K0 + 5) (((mI m21 (K0 + 4) ((m21.1 K0 3).toNatClampNeg) (m21.1 3 0)).1 K0 3).toNatClampNeg) ((mI m21 (K0 + 4) ((m21.1 K0 3).toNatClampNeg) (m21.1 3 0)).1 3 1)) (K0 + 6) (((mI (mI m21 (K0 + 4) ((m21.1 K0 3).toNatClampNeg) (m21.1 3 0)) (K0 + 5) (((mI m21 (K0 + 4) ((m21.1 K0 3).toNatClampNeg) (m21.1 3 0)).1 K0 3).toNatClampNeg) ((mI m21 (K0 + 4) ((m21.1 K0 3).toNatClampNeg) (m21.1 3 0)).1 3 1)).1 K0 3).toNatClampNeg) ((mI (mI m21 (K0 + 4) ((m21.1 K0 3).toNatClampNeg) (m21.1 3 0)) (K0 + 5) (((mI m21 (K0 + 4) ((m21.1 K0 3).toNatClampNeg) (m21.1 3 0)).1 K0 3).toNatClampNeg) ((mI m21 (K0 + 4) ((m21.1 K0 3).toNatClampNeg) (m21.1 3 0)).1 3 1)).1 3 2)) (K0 + 7) (((mI (mI (mI m21 (K0 + 4) ((m21.1 K0 3).toNatClampNeg) (m21.1 3 0)) (K0 + 5) (((mI m21 (K0 + 4) ((m21.1 K0 3).toNatClampNeg) (m21.1 3 0)).1 K0 3).toNatClampNeg) ((mI m21 (K0 + 4) ((m21.1 K0 3).toNatClampNeg) (m21.1 3 0)).1 3 1)) (K0 + 6) (((mI (mI m21 (K0 + 4) ((m21.1 K0 3).toNatClampNeg) (m21.1 3 0)) (K0 + 5) (((mI m21 (K0 + 4) ((m21.1 K0 3).toNatClampNeg) (m21.1 3 0)).1 K0 3).toNatClampNeg) ((mI m21 (K0 + 4) ((m21.1 K0 3).toNatClampNeg) (m21.1 3 0)).1 3 1)).1 K0 3).toNatClampNeg) ((mI (mI m21 (K0 + 4) ((m21.1 K0 3).toNatClampNeg) (m21.1 3 0)) (K0 + 5) (((mI m21 (K0 + 4) ((m21.1 K0 3).toNatClampNeg) (m21.1 3 0)).1 K0 3).toNatClampNeg) ((mI m21 (K0 + 4) ((m21.1 K0 3).toNatClampNeg) (m21.1 3 0)).1 3 1)).1 3 2)).1 K0 3).toNatClampNeg) ((mI (mI (mI m21 (K0 + 4) ((m21.1 K0 3).toNatClampNeg) (m21.1 3 0)) (K0 + 5) (((mI m21 (K0 + 4) ((m21.1 K0 3).toNatClampNeg) (m21.1 3 0)).1 K0 3).toNatClampNeg) ((mI m21 (K0 + 4) ((m21.1 K0 3).toNatClampNeg) (m21.1 3 0)).1 3 1)) (K0 + 6) (((mI (mI m21 (K0 + 4) ((m21.1 K0 3).toNatClampNeg) (m21.1 3 0)) (K0 + 5) (((mI m21 (K0 + 4) ((m21.1 K0 3).toNatClampNeg) (m21.1 3 0)).1 K0 3).toNatClampNeg) ((mI m21 (K0 + 4) ((m21.1 K0 3).toNatClampNeg) (m21.1 3 0)).1 3 1)).1 K0 3).toNatClampNeg) ((mI (mI m21 (K0 + 4) ((m21.1 K0 3).toNatClampNeg) (m21.1 3 0)) (K0 + 5) (((mI m21 (K0 + 4) ((m21.1 K0 3).toNatClampNeg) (m21.1 3 0)).1 K0 3).toNatClampNeg) ((mI m21 (K0 + 4) ((m21.1 K0 3).toNatClampNeg) (m21.1 3 0)).1 3 1)).1 3 2)).1 3 3)).1 K0 3).toInt ∧ ((mI (mI (mI (mI m21 (K0 + 4) ((m21.1 K0 3).toNatClampNeg) (m21.1 3 0)) (K0 + 5) (((mI m21 (K0 + 4) ((m21.1 K0 3).toNatClampNeg) (m21.1 3 0)).1 K0 3).toNatClampNeg) ((mI m21 (K0 + 4) ((m21.1 K0 3).toNatClampNeg) (m21.1 3 0)).1 3 1)) (K0 + 6) (((mI (mI m21 (K0 + 4) ((m21.1 K0 3).toNatClampNeg) (m21.1 3 0)) (K0 + 5) (((mI m21 (K0 + 4) ((m21.1 K0 3).toNatClampNeg) (m21.1 3 0)).1 K0 3).toNatClampNeg) ((mI m21 (K0 + 4) ((m21.1 K0 3).toNatClampNeg) (m21.1 3 0)).1 3 1)).1 K0 3).toNatClampNeg) ((mI (mI m21 (K0 + 4) ((m21.1 K0 3).toNatClampNeg) (m21.1 3 0)) (K0 + 5) (((mI m21 (K0 + 4) ((m21.1 K0 3).toNatClampNeg) (m21.1 3 0)).1 K0 3).toNatClampNeg) ((mI m21 (K0 + 4) ((m21.1 K0 3).toNatClampNeg) (m21.1 3 0)).1 3 1)).1 3 2)) (K0 + 7) (((mI (mI (mI m21 (K0 + 4) ((m21.1 K0 3).toNatClampNeg) (m21.1 3 0)) (K0 + 5) (((mI m21 (K0 + 4) ((m21.1 K0 3).toNatClampNeg) (m21.1 3 0)).1 K0 3).toNatClampNeg) ((mI m21 (K0 + 4) ((m21.1 K0 3).toNatClampNeg) (m21.1 3 0)).1 3 1)) (K0 + 6) (((mI (mI m21 (K0 + 4) ((m21.1 K0 3).toNatClampNeg) (m21.1 3 0)) (K0 + 5) (((mI m21 (K0 + 4) ((m21.1 K0 3).toNatClampNeg) (m21.1 3 0)).1 K0 3).toNatClampNeg) ((mI m21 (K0 + 4) ((m21.1 K0 3).toNatClampNeg) (m21.1 3 0)).1 3 1)).1 K0 3).toNatClampNeg) ((mI (mI m21 (K0 + 4) ((m21.1 K0 3).toNatClampNeg) (m21.1 3 0)) (K0 + 5) (((mI m21 (K0 + 4) ((m21.1 K0 3).toNatClampNeg) (m21.1 3 0)).1 K0 3).toNatClampNeg) ((mI m21 (K0 + 4) ((m21.1 K0 3).toNatClampNeg) (m21.1 3 0)).1 3 1)).1 3 2)).1 K0 3).toNatClampNeg) ((mI (mI (mI m21 (K0 + 4) ((m21.1 K0 3).toNatClampNeg) (m21.1 3 0)) (K0 + 5) (((mI m21 (K0 + 4) ((m21.1 K0 3).toNatClampNeg) (m21.1 3 0)).1 K0 3).toNatClampNeg) ((mI m21 (K0 + 4) ((m21.1 K0 3).toNatClampNeg) (m21.1 3 0)).1 3 1)) (K0 + 6) (((mI (mI m21 (K0 + 4) ((m21.1 K0 3).toNatClampNeg) (m21.1 3 0)) (K0 + 5) (((mI m21 (K0 + 4) ((m21.1 K0 3).toNatClampNeg) (m21.1 3 0)).1 K0 3).toNatClampNeg) ((mI m21 (K0 + 4) ((m21.1 K0 3).toNatClampNeg) (m21.1 3 0)).1 3 1)).1 K0 3).toNatClampNeg) ((mI (mI m21 (K0 + 4) ((m21.1 K0 3).toNatClampNeg) (m21.1 3 0)) (K0 + 5) (((mI m21 (K0 + 4) ((m21.1 K0 3).toNatClampNeg) (m21.1 3 0)).1 K0 3).toNatClampNeg) ((mI m21 (K0 + 4) ((m21.1 K0 3).toNatClampNeg) (m21.1 3 0)).1 3 1)).1 3 2)).1 3 3)).1 K0 3).toInt < 7) (
                      some ((1 : Int32), mI (mI (mI (mI (mI (mI m21 (K0 + 4) ((m21.1 K0 3).toNatClampNeg) (m21.1 3 0)) (K0 + 5) (((mI m21 (K0 + 4) ((m21.1 K0 3).toNatClampNeg) (m21.1 3 0)).1 K0 3).toNatClampNeg) ((mI m21 (K0 + 4) ((m21.1 K0 3).toNatClampNeg) (m21.1 3 0)).1 3 1)) (K0 + 6) (((mI (mI m21 (K0 + 4) ((m21.1 K0 3).toNatClampNeg) (m21.1 3 0)) (K0 + 5) (((mI m21 (K0 + 4) ((m21.1 K0 3).toNatClampNeg) (m21.1 3 0)).1 K0 3).toNatClampNeg) ((mI m21 (K0 + 4) ((m21.1 K0 3).toNatClampNeg) (m21.1 3 0)).1 3 1)).1 K0 3).toNatClampNeg) ((mI (mI m21 (K0 + 4) ((m21.1 K0 3).toNatClampNeg) (m21.1 3 0)) (K0 + 5) (((mI m21 (K0 + 4) ((m21.1 K0 3).toNatClampNeg) (m21.1 3 0)).1 K0 3).toNatClampNeg) ((mI m21 (K0 + 4) ((m21.1 K0 3).toNatClampNeg) (m21.1 3 0)).1 3 1)).1 3 2)) (K0 + 7) (((mI (mI (mI m21 (K0 + 4) ((m21.1 K0 3).toNatClampNeg) (m21.1 3 0)) (K0 + 5) (((mI m21 (K0 + 4) ((m21.1 K0 3).toNatClampNeg) (m21.1 3 0)).1 K0 3).toNatClampNeg) ((mI m21 (K0 + 4) ((m21.1 K0 3).toNatClampNeg) (m21.1 3 0)).1 3 1)) (K0 + 6) (((mI (mI m21 (K0 + 4) ((m21.1 K0 3).toNatClampNeg) (m21.1 3 0)) (K0 + 5) (((mI m21 (K0 + 4) ((m21.1 K0 3).toNatClampNeg) (m21.1 3 0)).1 K0 3).toNatClampNeg) ((mI m21 (K0 + 4) ((m21.1 K0 3).toNatClampNeg) (m21.1 3 0)).1 3 1)).1 K0 3).toNatClampNeg) ((mI (mI m21 (K0 + 4) ((m21.1 K0 3).toNatClampNeg) (m21.1 3 0)) (K0 + 5) (((mI m21 (K0 + 4) ((m21.1 K0 3).toNatClampNeg) (m21.1 3 0)).1 K0 3).toNatClampNeg) ((mI m21 (K0 + 4) ((m21.1 K0 3).toNatClampNeg) (m21.1 3 0)).1 3 1)).1 3 2)).1 K0 3).toNatClampNeg) ((mI (mI (mI m21 (K0 + 4) ((m21.1 K0 3).toNatClampNeg) (m21.1 3 0)) (K0 + 5) (((mI m21 (K0 + 4) ((m21.1 K0 3).toNatClampNeg) (m21.1 3 0)).1 K0 3).toNatClampNeg) ((mI m21 (K0 + 4) ((m21.1 K0 3).toNatClampNeg) (m21.1 3 0)).1 3 1)) (K0 + 6) (((mI (mI m21 (K0 + 4) ((m21.1 K0 3).toNatClampNeg) (m21.1 3 0)) (K0 + 5) (((mI m21 (K0 + 4) ((m21.1 K0 3).toNatClampNeg) (m21.1 3 0)).1 K0 3).toNatClampNeg) ((mI m21 (K0 + 4) ((m21.1 K0 3).toNatClampNeg) (m21.1 3 0)).1 3 1)).1 K0 3).toNatClampNeg) ((mI (mI m21 (K0 + 4) ((m21.1 K0 3).toNatClampNeg) (m21.1 3 0)) (K0 + 5) (((mI m21 (K0 + 4) ((m21.1 K0 3).toNatClampNeg) (m21.1 3 0)).1 K0 3).toNatClampNeg) ((mI m21 (K0 + 4) ((m21.1 K0 3).toNatClampNeg) (m21.1 3 0)).1 3 1)).1 3 2)).1 3 3)) (K0 + 8) (((mI (mI (mI (mI m21 (K0 + 4) ((m21.1 K0 3).toNatClampNeg) (m21.1 3 0)) (K0 + 5) (((mI m21 (K0 + 4) ((m21.1 K0 3).toNatClampNeg) (m21.1 3 0)).1 K0 3).toNatClampNeg) ((mI m21 (K0 + 4) ((m21.1 K0 3).toNatClampNeg) (m21.1 3 0)).1 3 1)) (K0 + 6) (((mI (mI m21 (K0 + 4) ((m21.1 K0 3).toNatClampNeg) (m21.1 3 0)) (K0 + 5) (((mI m21 (K0 + 4) ((m21.1 K0 3).toNatClampNeg) (m21.1 3 0)).1 K0 3).toNatClampNeg) ((mI m21 (K0 + 4) ((m21.1 K0 3).toNatClampNeg) (m21.1 3 0)).1 3 1)).1 K0 3).toNatClampNeg) ((mI (mI m21 (K0 + 4) ((m21.1 K0 3).toNatClampNeg) (m21.1 3 0)) (K0 + 5) (((mI m21 (K0 + 4) ((m21.1 K0 3).toNatClampNeg) (m21.1 3 0)).1 K0 3).toNatClampNeg) ((mI m21 (K0 + 4) ((m21.1 K0 3).toNatClampNeg) (m21.1 3 0)).1 3 1)).1 3 2)) (K0 + 7) (((mI (mI (mI m21 (K0 + 4) ((m21.1 K0 3).toNatClampNeg) (m21.1 3 0)) (K0 + 5) (((mI m21 (K0 + 4) ((m21.1 K0 3).toNatClampNeg) (m21.1 3 0)).1 K0 3).toNatClampNeg) ((mI m21 (K0 + 4) ((m21.1 K0 3).toNatClampNeg) (m21.1 3 0)).1 3 1)) (K0 + 6) (((mI (mI m21 (K0 + 4) ((m21.1 K0 3).toNatClampNeg) (m21.1 3 0)) (K0 + 5) (((mI m21 (K0 + 4) ((m21.1 K0 3).toNatClampNeg) (m21.1 3 0)).1 K0 3).toNatClampNeg) ((mI m21 (K0 + 4) ((m21.1 K0 3).toNatClampNeg) (m21.1 3 0)).1 3 1)).1 K0 3).toNatClampNeg) ((mI (mI m21 (K0 + 4) ((m21.1 K0 3).toNatClampNeg) (m21.1 3 0)) (K0 + 5) (((mI m21 (K0 + 4) ((m21.1 K0 3).toNatClampNeg) (m21.1 3 0)).1 K0 3).toNatClampNeg) ((mI m21 (K0 + 4) ((m21.1 K0 3).toNatClampNeg) (m21.1 3 0)).1 3 1)).1 3 2)).1 K0 3).toNatClampNeg) ((mI (mI (mI m21 (K0 + 4) ((m21.1 K0 3).toNatClampNeg) (m21.1 3 0)) (K0 + 5) (((mI m21 (K0 + 4) ((m21.1 K0 3).toNatClampNeg) (m21.1 3 0)).1 K0 3).toNatClampNeg) ((mI m21 (K0 + 4) ((m21.1 K0 3).toNatClampNeg) (m21.1 3 0)).1 3 1)) (K0 + 6) (((mI (mI m21 (K0 + 4) ((m21.1 K0 3).toNatClampNeg) (m21.1 3 0)) (K0 + 5) (((mI m21 (K0 + 4) ((m21.1 K0 3).toNatClampNeg) (m21.1 3 0)).1 K0 3).toNatClampNeg) ((mI m21 (K0 + 4) ((m21.1 K0 3).toNatClampNeg) (m21.1 3 0)).1 3 1)).1 K0 3).toNatClampNeg) ((mI (mI m21 (K0 + 4) ((m21.1 K0 3).toNatClampNeg) (m21.1 3 0)) (K0 + 5) (((mI m21 (K0 + 4) ((m21.1 K0 3).toNatClampNeg) (m21.1 3 0)).1 K0 3).toNatClampNeg) ((mI m21 (K0 + 4) ((m21.1 K0 3).toNatClampNeg) (m21.1 3 0)).1 3 1)).1 3 2)).1 3 3)).1 K0 3).toNatClampNeg) ((mI (mI (mI (mI m21 (K0 + 4) ((m21.1 K0 3).toNatClampNeg) (m21.1 3 0)) (K0 + 5) (((mI m21 (K0 + 4) ((m21.1 K0 3).toNatClampNeg) (m21.1 3 0)).1 K0 3).toNatClampNeg) ((mI m21 (K0 + 4) ((m21.1 K0 3).toNatClampNeg) (m21.1 3 0)).1 3 1)) (K0 + 6) (((mI (mI m21 (K0 + 4) ((m21.1 K0 3).toNatClampNeg) (m21.1 3 0)) (K0 + 5) (((mI m21 (K0 + 4) ((m21.1 K0 3).toNatClampNeg) (m21.1 3 0)).1 K0 3).toNatClampNeg) ((mI m21 (K0 + 4) ((m21.1 K0 3).toNatClampNeg) (m21.1 3 0)).1 3 1)).1 K0 3).toNatClampNeg) ((mI (mI m21 (K0 + 4) ((m21.1 K0 3).toNatClampNeg) (m21.1 3 0)) (K0 + 5) (((mI m21 (K0 + 4) ((m21.1 K0 3).toNatClampNeg) (m21.1 3 0)).1 K0 3).toNatClampNeg) ((mI m21 (K0 + 4) ((m21.1 K0 3).toNatClampNeg) (m21.1 3 0)).1 3 1)).1 3 2)) (K0 + 7) (((mI (mI (mI m21 (K0 + 4) ((m21.1 K0 3).toNatClampNeg) (m21.1 3 0)) (K0 + 5) (((mI m21 (K0 + 4) ((m21.1 K0 3).toNatClampNeg) (m21.1 3 0)).1 K0 3).toNatClampNeg) ((mI m21 (K0 + 4) ((m21.1 K0 3).toNatClampNeg) (m21.1 3 0)).1 3 1)) (K0 + 6) (((mI (mI m21 (K0 + 4) ((m21.1 K0 3).toNatClampNeg) (m21.1 3 0)) (K0 + 5) (((mI m21 (K0 + 4) ((m21.1 K0 3).toNatClampNeg) (m21.1 3 0)).1 K0 3).toNatClampNeg) ((mI m21 (K0 + 4) ((m21.1 K0 3).toNatClampNeg) (m21.1 3 0)).1 3 1)).1 K0 3).toNatClampNeg) ((mI (mI m21 (K0 + 4) ((m21.1 K0 3).toNatClampNeg) (m21.1 3 0)) (K0 + 5) (((mI m21 (K0 + 4) ((m21.1 K0 3).toNatClampNeg) (m21.1 3 0)).1 K0 3).toNatClampNeg) ((mI m21 (K0 + 4) ((m21.1 K0 3).toNatClampNeg) (m21.1 3 0)).1 3 1)).1 3 2)).1 K0 3).toNatClampNeg) ((mI (mI (mI m21 (K0 + 4) ((m21.1 K0 3).toNatClampNeg) (m21.1 3 0)) (K0 + 5) (((mI m21 (K0 + 4) ((m21.1 K0 3).toNatClampNeg) (m21.1 3 0)).1 K0 3).toNatClampNeg) ((mI m21 (K0 + 4) ((m21.1 K0 3).toNatClampNeg) (m21.1 3 0)).1 3 1)) (K0 + 6) (((mI (mI m21 (K0 + 4) ((m21.1 K0 3).toNatClampNeg) (m21.1 3 0)) (K0 + 5) (((mI m21 (K0 + 4) ((m21.1 K0 3).toNatClampNeg) (m21.1 3 0)).1 K0 3).toNatClampNeg) ((mI m21 (K0 + 4) ((m21.1 K0 3).toNatClampNeg) (m21.1 3 0)).1 3 1)).1 K0 3).toNatClampNeg) ((mI (mI m21 (K0 + 4) ((m21.1 K0 3).toNatClampNeg) (m21.1 3 0)) (K0 + 5) (((mI m21 (K0 + 4) ((m21.1 K0 3).toNatClampNeg) (m21.1 3 0)).1 K0 3).toNatClampNeg) ((mI m21 (K0 + 4) ((m21.1 K0 3).toNatClampNeg) (m21.1 3 0)).1 3 1)).1 3 2)).1 3 3)).1 3 4)) K0 3 (((mI (mI (mI (mI (mI m21 (K0 + 4) ((m21.1 K0 3).toNatClampNeg) (m21.1 3 0)) (K0 + 5) (((mI m21 (K0 + 4) ((m21.1 K0 3).toNatClampNeg) (m21.1 3 0)).1 K0 3).toNatClampNeg) ((mI m21 (K0 + 4) ((m21.1 K0 3).toNatClampNeg) (m21.1 3 0)).1 3 1)) (K0 + 6) (((mI (mI m21 (K0 + 4) ((m21.1 K0 3).toNatClampNeg) (m21.1 3 0)) (K0 + 5) (((mI m21 (K0 + 4) ((m21.1 K0 3).toNatClampNeg) (m21.1 3 0)).1 K0 3).toNatClampNeg) ((mI m21 (K0 + 4) ((m21.1 K0 3).toNatClampNeg) (m21.1 3 0)).1 3 1)).1 K0 3).toNatClampNeg) ((mI (mI m21 (K0 + 4) ((m21.1 K0 3).toNatClampNeg) (m21.1 3 0)) (K0 + 5) (((mI m21 (K0 + 4) ((m21.1 K0 3).toNatClampNeg) (m21.1 3 0)).1 K0 3).toNatClampNeg) ((mI m21 (K0 + 4) ((m21.1 K0 3).toNatClampNeg) (m21.1 3 0)).1 3 1)).1 3 2)) (K0 + 7) (((mI (mI (mI m21 (K0 + 4) ((m21.1 K0 3).toNatClampNeg) (m21.1 3 0)) (K0 + 5) (((mI m21 (K0 + 4) ((m21.1 K0 3).toNatClampNeg) (m21.1 3 0)).1 K0 3).toNatClampNeg) ((mI m21 (K0 + 4) ((m21.1 K0 3).toNatClampNeg) (m21.1 3 0)).1 3 1)) (K0 + 6) (((mI (mI m21 (K0 + 4) ((m21.1 K0 3).toNatClampNeg) (m21.1 3 0)) (K0 + 5) (((mI m21 (K0 + 4) ((m21.1 K0 3).toNatClampNeg) (m21.1 3 0)).1 K0 3).toNatClampNeg) ((mI m21 (K0 + 4) ((m21.1 K0 3).toNatClampNeg) (m21.1 3 0)).1 3 1)).1 K0 3).toNatClampNeg) ((mI (mI m21 (K0 + 4) ((m21.1 K0 3).toNatClampNeg) (m21.1 3 0)) (K0 + 5) (((mI m21 (K0 + 4) ((m21.1 K0 3).toNatClampNeg) (m21.1 3 0)).1 K0 3).toNatClampNeg) ((mI m21 (K0 + 4) ((m21.1 K0 3).toNatClampNeg) (m21.1 3 0)).1 3 1)).1 3 2)).1 K0 3).toNatClampNeg) ((mI (mI (mI m21 (K0 + 4) ((m21.1 K0 3).toNatClampNeg) (m21.1 3 0)) (K0 + 5) (((mI m21 (K0 + 4) ((m21.1 K0 3).toNatClampNeg) (m21.1 3 0)).1 K0 3).toNatClampNeg) ((mI m21 (K0 + 4) ((m21.1 K0 3).toNatClampNeg) (m21.1 3 0)).1 3 1)) (K0 + 6) (((mI (mI m21 (K0 + 4) ((m21.1 K0 3).toNatClampNeg) (m21.1 3 0)) (K0 + 5) (((mI m21 (K0 + 4) ((m21.1 K0 3).toNatClampNeg) (m21.1 3 0)).1 K0 3).toNatClampNeg) ((mI m21 (K0 + 4) ((m21.1 K0 3).toNatClampNeg) (m21.1 3 0)).1 3 1)).1 K0 3).toNatClampNeg) ((mI (mI m21 (K0 + 4) ((m21.1 K0 3).toNatClampNeg) (m21.1 3 0)) (K0 + 5) (((mI m21 (K0 + 4) ((m21.1 K0 3).toNatClampNeg) (m21.1 3 0)).1 K0 3).toNatClampNeg) ((mI m21 (K0 + 4) ((m21.1 K0 3).toNatClampNeg) (m21.1 3 0)).1 3 1)).1 3 2)).1 3 3)) (K0 + 8) (((mI (mI (mI (mI m21 (K0 + 4) ((m21.1 K0 3).toNatClampNeg) (m21.1 3 0)) (K0 + 5) (((mI m21 (K0 + 4) ((m21.1 K0 3).toNatClampNeg) (m21.1 3 0)).1 K0 3).toNatClampNeg) ((mI m21 (K0 + 4) ((m21.1 K0 3).toNatClampNeg) (m21.1 3 0)).1 3 1)) (K0 + 6) (((mI (mI m21 (K0 + 4) ((m21.1 K0 3).toNatClampNeg) (m21.1 3 0)) (K0 + 5) (((mI m21 (K0 + 4) ((m21.1 K0 3).toNatClampNeg) (m21.1 3 0)).1 K0 3).toNatClampNeg) ((mI m21 (K0 + 4) ((m21.1 K0 3).toNatClampNeg) (m21.1 3 0)).1 3 1)).1 K0 3).toNatClampNeg) ((mI (mI m21 (K0 + 4) ((m21.1 K0 3).toNatClampNeg) (m21.1 3 0)) (K0 + 5) (((mI m21 (K0 + 4) ((m21.1 K0 3).toNatClampNeg) (m21.1 3 0)).1 K0 3).toNatClampNeg) ((mI m21 (K0 + 4) ((m21.1 K0 3).toNatClampNeg) (m21.1 3 0)).1 3 1)).1 3 2)) (K0 + 7) (((mI (mI (mI m21 (K0 + 4) ((m21.1 K0 3).toNatClampNeg) (m21.1 3 0)) (K0 + 5) (((mI m21 (K0 + 4) ((m21.1 K0 3).toNatClampNeg) (m21.1 3 0)).1 K0 3).toNatClampNeg) ((mI m21 (K0 + 4) ((m21.1 K0 3).toNatClampNeg) (m21.1 3 0)).1 3 1)) (K0 + 6) (((mI (mI m21 (K0 + 4) ((m21.1 K0 3).toNatClampNeg) (m21.1 3 0)) (K0 + 5) (((mI m21 (K0 + 4) ((m21.1 K0 3).toNatClampNeg) (m21.1 3 0)).1 K0 3).toNatClampNeg) ((mI m21 (K0 + 4) ((m21.1 K0 3).toNatClampNeg) (m21.1 3 0)).1 3 1)).1 K0 3).toNatClampNeg) ((mI (mI m21 (K0 + 4) ((m21.1 K0 3).toNatClampNeg) (m21.1 3 0)) (K0 + 5) (((mI m21 (K0 + 4) ((m21.1 K0 3).toNatClampNeg) (m21.1 3 0)).1 K0 3).toNatClampNeg) ((mI m21 (K0 + 4) ((m21.1 K0 3).toNatClampNeg) (m21.1 3 0)).1 3 1)).1 3 2)).1 K0 3).toNatClampNeg) ((mI (mI (mI m21 (K0 + 4) ((m21.1 K0 3).toNatClampNeg) (m21.1 3 0)) (K0 + 5) (((mI m21 (K0 + 4) ((m21.1 K0 3).toNatClampNeg) (m21.1 3 0)).1 K0 3).toNatClampNeg) ((mI m21 (K0 + 4) ((m21.1 K0 3).toNatClampNeg) (m21.1 3 0)).1 3 1)) (K0 + 6) (((mI (mI m21 (K0 + 4) ((m21.1 K0 3).toNatClampNeg) (m21.1 3 0)) (K0 + 5) (((mI m21 (K0 + 4) ((m21.1 K0 3).toNatClampNeg) (m21.1 3 0)).1 K0 3).toNatClampNeg) ((mI m21 (K0 + 4) ((m21.1 K0 3).toNatClampNeg) (m21.1 3 0)).1 3 1)).1 K0 3).toNatClampNeg) ((mI (mI m21 (K0 + 4) ((m21.1 K0 3).toNatClampNeg) (m21.1 3 0)) (K0 + 5) (((mI m21 (K0 + 4) ((m21.1 K0 3).toNatClampNeg) (m21.1 3 0)).1 K0 3).toNatClampNeg) ((mI m21 (K0 + 4) ((m21.1 K0 3).toNatClampNeg) (m21.1 3 0)).1 3 1)).1 3 2)).1 3 3)).1 K0 3).toNatClampNeg) ((mI (mI (mI (mI m21 (K0 + 4) ((m21.1 K0 3).toNatClampNeg) (m21.1 3 0)) (K0 + 5) (((mI m21 (K0 + 4) ((m21.1 K0 3).toNatClampNeg) (m21.1 3 0)).1 K0 3).toNatClampNeg) ((mI m21 (K0 + 4) ((m21.1 K0 3).toNatClampNeg) (m21.1 3 0)).1 3 1)) (K0 + 6) (((mI (mI m21 (K0 + 4) ((m21.1 K0 3).toNatClampNeg) (m21.1 3 0)) (K0 + 5) (((mI m21 (K0 + 4) ((m21.1 K0 3).toNatClampNeg) (m21.1 3 0)).1 K0 3).toNatClampNeg) ((mI m21 (K0 + 4) ((m21.1 K0 3).toNatClampNeg) (m21.1 3 0)).1 3 1)).1 K0 3).toNatClampNeg) ((mI (mI m21 (K0 + 4) ((m21.1 K0 3).toNatClampNeg) (m21.1 3 0)) (K0 + 5) (((mI m21 (K0 + 4) ((m21.1 K0 3).toNatClampNeg) (m21.1 3 0)).1 K0 3).toNatClampNeg) ((mI m21 (K0 + 4) ((m21.1 K0 3).toNatClampNeg) (m21.1 3 0)).1 3 1)).1 3 2)) (K0 + 7) (((mI (mI (mI m21 (K0 + 4) ((m21.1 K0 3).toNatClampNeg) (m21.1 3 0)) (K0 + 5) (((mI m21 (K0 + 4) ((m21.1 K0 3).toNatClampNeg) (m21.1 3 0)).1 K0 3).toNatClampNeg) ((mI m21 (K0 + 4) ((m21.1 K0 3).toNatClampNeg) (m21.1 3 0)).1 3 1)) (K0 + 6) (((mI (mI m21 (K0 + 4) ((m21.1 K0 3).toNatClampNeg) (m21.1 3 0)) (K0 + 5) (((mI m21 (K0 + 4) ((m21.1 K0 3).toNatClampNeg) (m21.1 3 0)).1 K0 3).toNatClampNeg) ((mI m21 (K0 + 4) ((m21.1 K0 3).toNatClampNeg) (m21.1 3 0)).1 3 1)).1 K0 3).toNatClampNeg) ((mI (mI m21 (K0 + 4) ((m21.1 K0 3).toNatClampNeg) (m21.1 3 0)) (K0 + 5) (((mI m21 (K0 + 4) ((m21.1 K0 3).toNatClampNeg) (m21.1 3 0)).1 K0 3).toNatClampNeg) ((mI m21 (K0 + 4) ((m21.1 K0 3).toNatClampNeg) (m21.1 3 0)).1 3 1)).1 3 2)).1 K0 3).toNatClampNeg) ((mI (mI (mI m21 (K0 + 4) ((m21.1 K0 3).toNatClampNeg) (m21.1 3 0)) (K0 + 5) (((mI m21 (K0 + 4) ((m21.1 K0 3).toNatClampNeg) (m21.1 3 0)).1 K0 3).toNatClampNeg) ((mI m21 (K0 + 4) ((m21.1 K0 3).toNatClampNeg) (m21.1 3 0)).1 3 1)) (K0 + 6) (((mI (mI m21 (K0 + 4) ((m21.1 K0 3).toNatClampNeg) (m21.1 3 0)) (K0 + 5) (((mI m21 (K0 + 4) ((m21.1 K0 3).toNatClampNeg) (m21.1 3 0)).1 K0 3).toNatClampNeg) ((mI m21 (K0 + 4) ((m21.1 K0 3).toNatClampNeg) (m21.1 3 0)).1 3 1)).1 K0 3).toNatClampNeg) ((mI (mI m21 (K0 + 4) ((m21.1 K0 3).toNatClampNeg) (m21.1 3 0)) (K0 + 5) (((mI m21 (K0 + 4) ((m21.1 K0 3).toNatClampNeg) (m21.1 3 0)).1 K0 3).toNatClampNeg) ((mI m21 (K0 + 4) ((m21.1 K0 3).toNatClampNeg) (m21.1 3 0)).1 3 1)).1 3 2)).1 3 3)).1 3 4)).1 K0 3) + (1 : Int32)))))))))))))
def J_X0_addFare_52 (K0 : Nat)  (m : Mem) : Option (Int32 × Mem) :=
  J_X0_addFare_53 K0 (0 : Int32) m
def f_X0_addFare (K0 : Nat) (m : Mem) : Option (Int32 × Mem) :=
  if (7 : Int32) ≤ (m.1 K0 3) then (
    some ((0 : Int32), m))
  else (
    if (5 : Int32) ≤ (5 : Int32) then (
      fl_bd (f_X8_within (m.1 3 0) (0 : Int32) (3 : Int32) m) (fun r3 m4 =>
        if r3 = 0 then (
          J_X0_addFare_52 K0  m4)
        else (
          fl_bd (f_X0_hasPlace K0 (m4.1 3 1) m4) (fun r7 m8 =>
            if r7 = 0 then (
              J_X0_addFare_52 K0  m8)
            else (
              fl_bd (f_X0_hasPlace K0 (m8.1 3 2) m8) (fun r11 m12 =>
                if r11 = 0 then (
                  J_X0_addFare_52 K0  m12)
                else (
                  J_X0_addFare_53 K0 (1 : Int32) m12)))))))
    else (
      some ((0 : Int32), m)))
set_option maxHeartbeats 4000000 in
set_option maxRecDepth 100000 in
theorem c_X0_addFare (l : Launch) (D : va_G) (ca : Nat → ClassId) (ad : Nat → Nat) (hi : fl_inj L1 ad) (K0 : Nat) (hK0 : isCity K0) (m : Mem) (v' : Int32) (M' : Mem) (h : f_X0_addFare K0 m = some (v', M')) : fl_M l L1 D ca ad yX0_addFare cX0_addFare 3 (some .boolean) 3 [.ref (ad K0), .ref (ad 3)] m (some (.int v')) M' := by
  unfold f_X0_addFare at h
  refine fl_ofW (by decide) hi (Nat.le_of_ble_eq_true rfl) ?_
  intro p e s mm args below meth c ls X hr hlk hP hl
  have hl : lv_has ls 3 [(0, .ref (ad K0)), (1, .ref (ad 3))] := hl
  have X : fl_X p s mm args c cX0_addFare 3 RX0 L1 D ca ad := X
  obtain ⟨hx, hb, hml, hown, hts, hE, -⟩ := id X
  have hS : va_S (fl_A L1 ad) s.heap s.heap [] := va_S.rf
  have j_53 : ∀ (t0 : Int32) (m : Mem) (H : Heap) (locs : List Loc) (ls : Array Slot), J_X0_addFare_53 K0 t0 m = some (v', M') → va_P D vwCl (fl_w L1 ca ad m) H → va_S (fl_A L1 ad) s.heap H locs → lv_has ls 3 [(0, .ref (ad K0)), (1, .ref (ad 3))] → W p l e (fl_rm 3) s mm args below meth c H locs 0 0 (MQ below (fl_Q L1 D ca ad (some (.int v')) M') args s 0 0 (fl_A L1 ad)) (F0 mm 53 ls [.int t0]) := by
    intro t0 m H locs ls h hP hS hl
    unfold J_X0_addFare_53 at h
    refine lv_istore_n (lv' := [(2, .int t0), (0, .ref (ad K0)), (1, .ref (ad 3))]) hx hb dX0_addFare_53 rfl hl (by decide) rfl (fun ls hl => ?_)
    refine lv_iload_n hx hb dX0_addFare_54 rfl (lv_at hl 0 rfl) ?_
    refine lv_if_eq (tgt := 82) hx hb dX0_addFare_55 (by decide) (fun c15 => ?_) (fun c15 => ?_)
    · replace h := fl_if_t h c15
      refine lv_iconst (v := (0 : Int32)) hx hb dX0_addFare_82 (by decide) ?_
      exact fl_zret X hr hlk (by decide) hP hS dX0_addFare_83 h
    · replace h := fl_if_f h c15
      refine lv_aload_n hx hb dX0_addFare_58 rfl (lv_at hl 2 rfl) ?_
      refine lv_iconst (v := (3 : Int32)) hx hb dX0_addFare_59 (by decide) ?_
      refine fl_iald X hP k1_3 (by decide) dX0_addFare_60 ?_
      refine lv_iconst (v := (0 : Int32)) hx hb dX0_addFare_61 (by decide) ?_
      refine lv_bipush (v := (99 : Int32)) hx hb dX0_addFare_62 (by decide) ?_
      obtain ⟨r16, m17, hz18, h⟩ := fl_bd_e h
      refine fl_callN (av := [.int (m.1 3 3), .int (0 : Int32), .int (99 : Int32)]) X hP hS hl.1 mn_X0_56 (c_X8_within l D ca ad hi (m.1 3 3) (0 : Int32) (99 : Int32) m _ _ hz18) (fl_fit_rm (by omega) (by decide)) rfl (Nat.le_of_ble_eq_true rfl) dX0_addFare_64 rfl (fun H locs hP hS => ?_)
      refine W.eq (g2 := F0 mm 67 ls [.int r16]) rfl ?_
      refine lv_if_eq (tgt := 82) hx hb dX0_addFare_67 (by decide) (fun c19 => ?_) (fun c19 => ?_)
      · replace h := fl_if_t h c19
        refine lv_iconst (v := (0 : Int32)) hx hb dX0_addFare_82 (by decide) ?_
        exact fl_zret X hr hlk (by decide) hP hS dX0_addFare_83 h
      · replace h := fl_if_f h c19
        refine lv_aload_n hx hb dX0_addFare_70 rfl (lv_at hl 2 rfl) ?_
        refine lv_iconst (v := (4 : Int32)) hx hb dX0_addFare_71 (by decide) ?_
        refine fl_iald X hP k1_3 (by decide) dX0_addFare_72 ?_
        refine lv_iconst (v := (0 : Int32)) hx hb dX0_addFare_73 (by decide) ?_
        refine lv_bipush (v := (60 : Int32)) hx hb dX0_addFare_74 (by decide) ?_
        obtain ⟨r20, m21, hz22, h⟩ := fl_bd_e h
        refine fl_callN (av := [.int (m17.1 3 4), .int (0 : Int32), .int (60 : Int32)]) X hP hS hl.1 mn_X0_56 (c_X8_within l D ca ad hi (m17.1 3 4) (0 : Int32) (60 : Int32) m17 _ _ hz22) (fl_fit_rm (by omega) (by decide)) rfl (Nat.le_of_ble_eq_true rfl) dX0_addFare_76 rfl (fun H locs hP hS => ?_)
        refine W.eq (g2 := F0 mm 79 ls [.int r20]) rfl ?_
        refine lv_if_ne (tgt := 84) hx hb dX0_addFare_79 (by decide) (fun c23 => ?_) (fun c23 => ?_)
        · replace h := fl_if_f h c23
          refine lv_aload_n hx hb dX0_addFare_84 rfl (lv_at hl 1 rfl) ?_
          refine fl_getr X hP fk_X0_21 hK0.1 rfl dX0_addFare_85 ?_
          refine lv_aload_n hx hb dX0_addFare_88 rfl (lv_at hl 1 rfl) ?_
          refine fl_geti X hP fk_X0_53 hK0.1 rfl dX0_addFare_89 ?_
          refine lv_aload_n hx hb dX0_addFare_92 rfl (lv_at hl 2 rfl) ?_
          refine lv_iconst (v := (0 : Int32)) hx hb dX0_addFare_93 (by decide) ?_
          refine fl_iald X hP k1_3 (by decide) dX0_addFare_94 ?_
          obtain ⟨hk24, h⟩ := fl_ck_e h
          refine fl_iast X hP hS hK0.2.2.2.2.1 hk24 dX0_addFare_95 (fun H locs hP hS => ?_)
          have hP : va_P D vwCl (fl_w L1 ca ad (mI m21 (K0 + 4) ((m21.1 K0 3).toNatClampNeg) (m21.1 3 0))) H := hP
          refine lv_aload_n hx hb dX0_addFare_96 rfl (lv_at hl 1 rfl) ?_
          refine fl_getr X hP fk_X0_24 hK0.1 rfl dX0_addFare_97 ?_
          refine lv_aload_n hx hb dX0_addFare_100 rfl (lv_at hl 1 rfl) ?_
          refine fl_geti X hP fk_X0_53 hK0.1 rfl dX0_addFare_101 ?_
          refine lv_aload_n hx hb dX0_addFare_104 rfl (lv_at hl 2 rfl) ?_
          refine lv_iconst (v := (1 : Int32)) hx hb dX0_addFare_105 (by decide) ?_
          refine fl_iald X hP k1_3 (by decide) dX0_addFare_106 ?_
          obtain ⟨hk25, h⟩ := fl_ck_e h
          refine fl_iast X hP hS hK0.2.2.2.2.2.1 hk25 dX0_addFare_107 (fun H locs hP hS => ?_)
          have hP : va_P D vwCl (fl_w L1 ca ad (mI (mI m21 (K0 + 4) ((m21.1 K0 3).toNatClampNeg) (m21.1 3 0)) (K0 + 5) (((mI m21 (K0 + 4) ((m21.1 K0 3).toNatClampNeg) (m21.1 3 0)).1 K0 3).toNatClampNeg) ((mI m21 (K0 + 4) ((m21.1 K0 3).toNatClampNeg) (m21.1 3 0)).1 3 1))) H := hP
          refine lv_aload_n hx hb dX0_addFare_108 rfl (lv_at hl 1 rfl) ?_
          refine fl_getr X hP fk_X0_27 hK0.1 rfl dX0_addFare_109 ?_
          refine lv_aload_n hx hb dX0_addFare_112 rfl (lv_at hl 1 rfl) ?_
          refine fl_geti X hP fk_X0_53 hK0.1 rfl dX0_addFare_113 ?_
          refine lv_aload_n hx hb dX0_addFare_116 rfl (lv_at hl 2 rfl) ?_
          refine lv_iconst (v := (2 : Int32)) hx hb dX0_addFare_117 (by decide) ?_
          refine fl_iald X hP k1_3 (by decide) dX0_addFare_118 ?_
          obtain ⟨hk26, h⟩ := fl_ck_e h
          refine fl_iast X hP hS hK0.2.2.2.2.2.2.1 hk26 dX0_addFare_119 (fun H locs hP hS => ?_)
          have hP : va_P D vwCl (fl_w L1 ca ad (mI (mI (mI m21 (K0 + 4) ((m21.1 K0 3).toNatClampNeg) (m21.1 3 0)) (K0 + 5) (((mI m21 (K0 + 4) ((m21.1 K0 3).toNatClampNeg) (m21.1 3 0)).1 K0 3).toNatClampNeg) ((mI m21 (K0 + 4) ((m21.1 K0 3).toNatClampNeg) (m21.1 3 0)).1 3 1)) (K0 + 6) (((mI (mI m21 (K0 + 4) ((m21.1 K0 3).toNatClampNeg) (m21.1 3 0)) (K0 + 5) (((mI m21 (K0 + 4) ((m21.1 K0 3).toNatClampNeg) (m21.1 3 0)).1 K0 3).toNatClampNeg) ((mI m21 (K0 + 4) ((m21.1 K0 3).toNatClampNeg) (m21.1 3 0)).1 3 1)).1 K0 3).toNatClampNeg) ((mI (mI m21 (K0 + 4) ((m21.1 K0 3).toNatClampNeg) (m21.1 3 0)) (K0 + 5) (((mI m21 (K0 + 4) ((m21.1 K0 3).toNatClampNeg) (m21.1 3 0)).1 K0 3).toNatClampNeg) ((mI m21 (K0 + 4) ((m21.1 K0 3).toNatClampNeg) (m21.1 3 0)).1 3 1)).1 3 2))) H := hP
          refine lv_aload_n hx hb dX0_addFare_120 rfl (lv_at hl 1 rfl) ?_
          refine fl_getr X hP fk_X0_30 hK0.1 rfl dX0_addFare_121 ?_
          refine lv_aload_n hx hb dX0_addFare_124 rfl (lv_at hl 1 rfl) ?_
          refine fl_geti X hP fk_X0_53 hK0.1 rfl dX0_addFare_125 ?_
          refine lv_aload_n hx hb dX0_addFare_128 rfl (lv_at hl 2 rfl) ?_
          refine lv_iconst (v := (3 : Int32)) hx hb dX0_addFare_129 (by decide) ?_
          refine fl_iald X hP k1_3 (by decide) dX0_addFare_130 ?_
          obtain ⟨hk27, h⟩ := fl_ck_e h
          refine fl_iast X hP hS hK0.2.2.2.2.2.2.2.1 hk27 dX0_addFare_131 (fun H locs hP hS => ?_)
          have hP : va_P D vwCl (fl_w L1 ca ad (mI (mI (mI (mI m21 (K0 + 4) ((m21.1 K0 3).toNatClampNeg) (m21.1 3 0)) (K0 + 5) (((mI m21 (K0 + 4) ((m21.1 K0 3).toNatClampNeg) (m21.1 3 0)).1 K0 3).toNatClampNeg) ((mI m21 (K0 + 4) ((m21.1 K0 3).toNatClampNeg) (m21.1 3 0)).1 3 1)) (K0 + 6) (((mI (mI m21 (K0 + 4) ((m21.1 K0 3).toNatClampNeg) (m21.1 3 0)) (K0 + 5) (((mI m21 (K0 + 4) ((m21.1 K0 3).toNatClampNeg) (m21.1 3 0)).1 K0 3).toNatClampNeg) ((mI m21 (K0 + 4) ((m21.1 K0 3).toNatClampNeg) (m21.1 3 0)).1 3 1)).1 K0 3).toNatClampNeg) ((mI (mI m21 (K0 + 4) ((m21.1 K0 3).toNatClampNeg) (m21.1 3 0)) (K0 + 5) (((mI m21 (K0 + 4) ((m21.1 K0 3).toNatClampNeg) (m21.1 3 0)).1 K0 3).toNatClampNeg) ((mI m21 (K0 + 4) ((m21.1 K0 3).toNatClampNeg) (m21.1 3 0)).1 3 1)).1 3 2)) (K0 + 7) (((mI (mI (mI m21 (K0 + 4) ((m21.1 K0 3).toNatClampNeg) (m21.1 3 0)) (K0 + 5) (((mI m21 (K0 + 4) ((m21.1 K0 3).toNatClampNeg) (m21.1 3 0)).1 K0 3).toNatClampNeg) ((mI m21 (K0 + 4) ((m21.1 K0 3).toNatClampNeg) (m21.1 3 0)).1 3 1)) (K0 + 6) (((mI (mI m21 (K0 + 4) ((m21.1 K0 3).toNatClampNeg) (m21.1 3 0)) (K0 + 5) (((mI m21 (K0 + 4) ((m21.1 K0 3).toNatClampNeg) (m21.1 3 0)).1 K0 3).toNatClampNeg) ((mI m21 (K0 + 4) ((m21.1 K0 3).toNatClampNeg) (m21.1 3 0)).1 3 1)).1 K0 3).toNatClampNeg) ((mI (mI m21 (K0 + 4) ((m21.1 K0 3).toNatClampNeg) (m21.1 3 0)) (K0 + 5) (((mI m21 (K0 + 4) ((m21.1 K0 3).toNatClampNeg) (m21.1 3 0)).1 K0 3).toNatClampNeg) ((mI m21 (K0 + 4) ((m21.1 K0 3).toNatClampNeg) (m21.1 3 0)).1 3 1)).1 3 2)).1 K0 3).toNatClampNeg) ((mI (mI (mI m21 (K0 + 4) ((m21.1 K0 3).toNatClampNeg) (m21.1 3 0)) (K0 + 5) (((mI m21 (K0 + 4) ((m21.1 K0 3).toNatClampNeg) (m21.1 3 0)).1 K0 3).toNatClampNeg) ((mI m21 (K0 + 4) ((m21.1 K0 3).toNatClampNeg) (m21.1 3 0)).1 3 1)) (K0 + 6) (((mI (mI m21 (K0 + 4) ((m21.1 K0 3).toNatClampNeg) (m21.1 3 0)) (K0 + 5) (((mI m21 (K0 + 4) ((m21.1 K0 3).toNatClampNeg) (m21.1 3 0)).1 K0 3).toNatClampNeg) ((mI m21 (K0 + 4) ((m21.1 K0 3).toNatClampNeg) (m21.1 3 0)).1 3 1)).1 K0 3).toNatClampNeg) ((mI (mI m21 (K0 + 4) ((m21.1 K0 3).toNatClampNeg) (m21.1 3 0)) (K0 + 5) (((mI m21 (K0 + 4) ((m21.1 K0 3).toNatClampNeg) (m21.1 3 0)).1 K0 3).toNatClampNeg) ((mI m21 (K0 + 4) ((m21.1 K0 3).toNatClampNeg) (m21.1 3 0)).1 3 1)).1 3 2)).1 3 3))) H := hP
          refine lv_aload_n hx hb dX0_addFare_132 rfl (lv_at hl 1 rfl) ?_
          refine fl_getr X hP fk_X0_33 hK0.1 rfl dX0_addFare_133 ?_
          refine lv_aload_n hx hb dX0_addFare_136 rfl (lv_at hl 1 rfl) ?_
          refine fl_geti X hP fk_X0_53 hK0.1 rfl dX0_addFare_137 ?_
          refine lv_aload_n hx hb dX0_addFare_140 rfl (lv_at hl 2 rfl) ?_
          refine lv_iconst (v := (4 : Int32)) hx hb dX0_addFare_141 (by decide) ?_
          refine fl_iald X hP k1_3 (by decide) dX0_addFare_142 ?_
          obtain ⟨hk28, h⟩ := fl_ck_e h
          refine fl_iast X hP hS hK0.2.2.2.2.2.2.2.2.1 hk28 dX0_addFare_143 (fun H locs hP hS => ?_)
          have hP : va_P D vwCl (fl_w L1 ca ad (mI (mI (mI (mI (mI m21 (K0 + 4) ((m21.1 K0 3).toNatClampNeg) (m21.1 3 0)) (K0 + 5) (((mI m21 (K0 + 4) ((m21.1 K0 3).toNatClampNeg) (m21.1 3 0)).1 K0 3).toNatClampNeg) ((mI m21 (K0 + 4) ((m21.1 K0 3).toNatClampNeg) (m21.1 3 0)).1 3 1)) (K0 + 6) (((mI (mI m21 (K0 + 4) ((m21.1 K0 3).toNatClampNeg) (m21.1 3 0)) (K0 + 5) (((mI m21 (K0 + 4) ((m21.1 K0 3).toNatClampNeg) (m21.1 3 0)).1 K0 3).toNatClampNeg) ((mI m21 (K0 + 4) ((m21.1 K0 3).toNatClampNeg) (m21.1 3 0)).1 3 1)).1 K0 3).toNatClampNeg) ((mI (mI m21 (K0 + 4) ((m21.1 K0 3).toNatClampNeg) (m21.1 3 0)) (K0 + 5) (((mI m21 (K0 + 4) ((m21.1 K0 3).toNatClampNeg) (m21.1 3 0)).1 K0 3).toNatClampNeg) ((mI m21 (K0 + 4) ((m21.1 K0 3).toNatClampNeg) (m21.1 3 0)).1 3 1)).1 3 2)) (K0 + 7) (((mI (mI (mI m21 (K0 + 4) ((m21.1 K0 3).toNatClampNeg) (m21.1 3 0)) (K0 + 5) (((mI m21 (K0 + 4) ((m21.1 K0 3).toNatClampNeg) (m21.1 3 0)).1 K0 3).toNatClampNeg) ((mI m21 (K0 + 4) ((m21.1 K0 3).toNatClampNeg) (m21.1 3 0)).1 3 1)) (K0 + 6) (((mI (mI m21 (K0 + 4) ((m21.1 K0 3).toNatClampNeg) (m21.1 3 0)) (K0 + 5) (((mI m21 (K0 + 4) ((m21.1 K0 3).toNatClampNeg) (m21.1 3 0)).1 K0 3).toNatClampNeg) ((mI m21 (K0 + 4) ((m21.1 K0 3).toNatClampNeg) (m21.1 3 0)).1 3 1)).1 K0 3).toNatClampNeg) ((mI (mI m21 (K0 + 4) ((m21.1 K0 3).toNatClampNeg) (m21.1 3 0)) (K0 + 5) (((mI m21 (K0 + 4) ((m21.1 K0 3).toNatClampNeg) (m21.1 3 0)).1 K0 3).toNatClampNeg) ((mI m21 (K0 + 4) ((m21.1 K0 3).toNatClampNeg) (m21.1 3 0)).1 3 1)).1 3 2)).1 K0 3).toNatClampNeg) ((mI (mI (mI m21 (K0 + 4) ((m21.1 K0 3).toNatClampNeg) (m21.1 3 0)) (K0 + 5) (((mI m21 (K0 + 4) ((m21.1 K0 3).toNatClampNeg) (m21.1 3 0)).1 K0 3).toNatClampNeg) ((mI m21 (K0 + 4) ((m21.1 K0 3).toNatClampNeg) (m21.1 3 0)).1 3 1)) (K0 + 6) (((mI (mI m21 (K0 + 4) ((m21.1 K0 3).toNatClampNeg) (m21.1 3 0)) (K0 + 5) (((mI m21 (K0 + 4) ((m21.1 K0 3).toNatClampNeg) (m21.1 3 0)).1 K0 3).toNatClampNeg) ((mI m21 (K0 + 4) ((m21.1 K0 3).toNatClampNeg) (m21.1 3 0)).1 3 1)).1 K0 3).toNatClampNeg) ((mI (mI m21 (K0 + 4) ((m21.1 K0 3).toNatClampNeg) (m21.1 3 0)) (K0 + 5) (((mI m21 (K0 + 4) ((m21.1 K0 3).toNatClampNeg) (m21.1 3 0)).1 K0 3).toNatClampNeg) ((mI m21 (K0 + 4) ((m21.1 K0 3).toNatClampNeg) (m21.1 3 0)).1 3 1)).1 3 2)).1 3 3)) (K0 + 8) (((mI (mI (mI (mI m21 (K0 + 4) ((m21.1 K0 3).toNatClampNeg) (m21.1 3 0)) (K0 + 5) (((mI m21 (K0 + 4) ((m21.1 K0 3).toNatClampNeg) (m21.1 3 0)).1 K0 3).toNatClampNeg) ((mI m21 (K0 + 4) ((m21.1 K0 3).toNatClampNeg) (m21.1 3 0)).1 3 1)) (K0 + 6) (((mI (mI m21 (K0 + 4) ((m21.1 K0 3).toNatClampNeg) (m21.1 3 0)) (K0 + 5) (((mI m21 (K0 + 4) ((m21.1 K0 3).toNatClampNeg) (m21.1 3 0)).1 K0 3).toNatClampNeg) ((mI m21 (K0 + 4) ((m21.1 K0 3).toNatClampNeg) (m21.1 3 0)).1 3 1)).1 K0 3).toNatClampNeg) ((mI (mI m21 (K0 + 4) ((m21.1 K0 3).toNatClampNeg) (m21.1 3 0)) (K0 + 5) (((mI m21 (K0 + 4) ((m21.1 K0 3).toNatClampNeg) (m21.1 3 0)).1 K0 3).toNatClampNeg) ((mI m21 (K0 + 4) ((m21.1 K0 3).toNatClampNeg) (m21.1 3 0)).1 3 1)).1 3 2)) (K0 + 7) (((mI (mI (mI m21 (K0 + 4) ((m21.1 K0 3).toNatClampNeg) (m21.1 3 0)) (K0 + 5) (((mI m21 (K0 + 4) ((m21.1 K0 3).toNatClampNeg) (m21.1 3 0)).1 K0 3).toNatClampNeg) ((mI m21 (K0 + 4) ((m21.1 K0 3).toNatClampNeg) (m21.1 3 0)).1 3 1)) (K0 + 6) (((mI (mI m21 (K0 + 4) ((m21.1 K0 3).toNatClampNeg) (m21.1 3 0)) (K0 + 5) (((mI m21 (K0 + 4) ((m21.1 K0 3).toNatClampNeg) (m21.1 3 0)).1 K0 3).toNatClampNeg) ((mI m21 (K0 + 4) ((m21.1 K0 3).toNatClampNeg) (m21.1 3 0)).1 3 1)).1 K0 3).toNatClampNeg) ((mI (mI m21 (K0 + 4) ((m21.1 K0 3).toNatClampNeg) (m21.1 3 0)) (K0 + 5) (((mI m21 (K0 + 4) ((m21.1 K0 3).toNatClampNeg) (m21.1 3 0)).1 K0 3).toNatClampNeg) ((mI m21 (K0 + 4) ((m21.1 K0 3).toNatClampNeg) (m21.1 3 0)).1 3 1)).1 3 2)).1 K0 3).toNatClampNeg) ((mI (mI (mI m21 (K0 + 4) ((m21.1 K0 3).toNatClampNeg) (m21.1 3 0)) (K0 + 5) (((mI m21 (K0 + 4) ((m21.1 K0 3).toNatClampNeg) (m21.1 3 0)).1 K0 3).toNatClampNeg) ((mI m21 (K0 + 4) ((m21.1 K0 3).toNatClampNeg) (m21.1 3 0)).1 3 1)) (K0 + 6) (((mI (mI m21 (K0 + 4) ((m21.1 K0 3).toNatClampNeg) (m21.1 3 0)) (K0 + 5) (((mI m21 (K0 + 4) ((m21.1 K0 3).toNatClampNeg) (m21.1 3 0)).1 K0 3).toNatClampNeg) ((mI m21 (K0 + 4) ((m21.1 K0 3).toNatClampNeg) (m21.1 3 0)).1 3 1)).1 K0 3).toNatClampNeg) ((mI (mI m21 (K0 + 4) ((m21.1 K0 3).toNatClampNeg) (m21.1 3 0)) (K0 + 5) (((mI m21 (K0 + 4) ((m21.1 K0 3).toNatClampNeg) (m21.1 3 0)).1 K0 3).toNatClampNeg) ((mI m21 (K0 + 4) ((m21.1 K0 3).toNatClampNeg) (m21.1 3 0)).1 3 1)).1 3 2)).1 3 3)).1 K0 3).toNatClampNeg) ((mI (mI (mI (mI m21 (K0 + 4) ((m21.1 K0 3).toNatClampNeg) (m21.1 3 0)) (K0 + 5) (((mI m21 (K0 + 4) ((m21.1 K0 3).toNatClampNeg) (m21.1 3 0)).1 K0 3).toNatClampNeg) ((mI m21 (K0 + 4) ((m21.1 K0 3).toNatClampNeg) (m21.1 3 0)).1 3 1)) (K0 + 6) (((mI (mI m21 (K0 + 4) ((m21.1 K0 3).toNatClampNeg) (m21.1 3 0)) (K0 + 5) (((mI m21 (K0 + 4) ((m21.1 K0 3).toNatClampNeg) (m21.1 3 0)).1 K0 3).toNatClampNeg) ((mI m21 (K0 + 4) ((m21.1 K0 3).toNatClampNeg) (m21.1 3 0)).1 3 1)).1 K0 3).toNatClampNeg) ((mI (mI m21 (K0 + 4) ((m21.1 K0 3).toNatClampNeg) (m21.1 3 0)) (K0 + 5) (((mI m21 (K0 + 4) ((m21.1 K0 3).toNatClampNeg) (m21.1 3 0)).1 K0 3).toNatClampNeg) ((mI m21 (K0 + 4) ((m21.1 K0 3).toNatClampNeg) (m21.1 3 0)).1 3 1)).1 3 2)) (K0 + 7) (((mI (mI (mI m21 (K0 + 4) ((m21.1 K0 3).toNatClampNeg) (m21.1 3 0)) (K0 + 5) (((mI m21 (K0 + 4) ((m21.1 K0 3).toNatClampNeg) (m21.1 3 0)).1 K0 3).toNatClampNeg) ((mI m21 (K0 + 4) ((m21.1 K0 3).toNatClampNeg) (m21.1 3 0)).1 3 1)) (K0 + 6) (((mI (mI m21 (K0 + 4) ((m21.1 K0 3).toNatClampNeg) (m21.1 3 0)) (K0 + 5) (((mI m21 (K0 + 4) ((m21.1 K0 3).toNatClampNeg) (m21.1 3 0)).1 K0 3).toNatClampNeg) ((mI m21 (K0 + 4) ((m21.1 K0 3).toNatClampNeg) (m21.1 3 0)).1 3 1)).1 K0 3).toNatClampNeg) ((mI (mI m21 (K0 + 4) ((m21.1 K0 3).toNatClampNeg) (m21.1 3 0)) (K0 + 5) (((mI m21 (K0 + 4) ((m21.1 K0 3).toNatClampNeg) (m21.1 3 0)).1 K0 3).toNatClampNeg) ((mI m21 (K0 + 4) ((m21.1 K0 3).toNatClampNeg) (m21.1 3 0)).1 3 1)).1 3 2)).1 K0 3).toNatClampNeg) ((mI (mI (mI m21 (K0 + 4) ((m21.1 K0 3).toNatClampNeg) (m21.1 3 0)) (K0 + 5) (((mI m21 (K0 + 4) ((m21.1 K0 3).toNatClampNeg) (m21.1 3 0)).1 K0 3).toNatClampNeg) ((mI m21 (K0 + 4) ((m21.1 K0 3).toNatClampNeg) (m21.1 3 0)).1 3 1)) (K0 + 6) (((mI (mI m21 (K0 + 4) ((m21.1 K0 3).toNatClampNeg) (m21.1 3 0)) (K0 + 5) (((mI m21 (K0 + 4) ((m21.1 K0 3).toNatClampNeg) (m21.1 3 0)).1 K0 3).toNatClampNeg) ((mI m21 (K0 + 4) ((m21.1 K0 3).toNatClampNeg) (m21.1 3 0)).1 3 1)).1 K0 3).toNatClampNeg) ((mI (mI m21 (K0 + 4) ((m21.1 K0 3).toNatClampNeg) (m21.1 3 0)) (K0 + 5) (((mI m21 (K0 + 4) ((m21.1 K0 3).toNatClampNeg) (m21.1 3 0)).1 K0 3).toNatClampNeg) ((mI m21 (K0 + 4) ((m21.1 K0 3).toNatClampNeg) (m21.1 3 0)).1 3 1)).1 3 2)).1 3 3)).1 3 4))) H := hP
          refine lv_aload_n hx hb dX0_addFare_144 rfl (lv_at hl 1 rfl) ?_
          refine lv_dup hx hb dX0_addFare_145 rfl ?_
          refine fl_geti X hP fk_X0_53 hK0.1 rfl dX0_addFare_146 ?_
          refine lv_iconst (v := (1 : Int32)) hx hb dX0_addFare_149 (by decide) ?_
          refine lv_iadd hx hb dX0_addFare_150 ?_
          refine fl_puti X hP hS pk_X0_53 hK0.1 rfl rfl rfl dX0_addFare_151 (fun H locs hP hS => ?_)
          have hP : va_P D vwCl (fl_w L1 ca ad (mI (mI (mI (mI (mI (mI m21 (K0 + 4) ((m21.1 K0 3).toNatClampNeg) (m21.1 3 0)) (K0 + 5) (((mI m21 (K0 + 4) ((m21.1 K0 3).toNatClampNeg) (m21.1 3 0)).1 K0 3).toNatClampNeg) ((mI m21 (K0 + 4) ((m21.1 K0 3).toNatClampNeg) (m21.1 3 0)).1 3 1)) (K0 + 6) (((mI (mI m21 (K0 + 4) ((m21.1 K0 3).toNatClampNeg) (m21.1 3 0)) (K0 + 5) (((mI m21 (K0 + 4) ((m21.1 K0 3).toNatClampNeg) (m21.1 3 0)).1 K0 3).toNatClampNeg) ((mI m21 (K0 + 4) ((m21.1 K0 3).toNatClampNeg) (m21.1 3 0)).1 3 1)).1 K0 3).toNatClampNeg) ((mI (mI m21 (K0 + 4) ((m21.1 K0 3).toNatClampNeg) (m21.1 3 0)) (K0 + 5) (((mI m21 (K0 + 4) ((m21.1 K0 3).toNatClampNeg) (m21.1 3 0)).1 K0 3).toNatClampNeg) ((mI m21 (K0 + 4) ((m21.1 K0 3).toNatClampNeg) (m21.1 3 0)).1 3 1)).1 3 2)) (K0 + 7) (((mI (mI (mI m21 (K0 + 4) ((m21.1 K0 3).toNatClampNeg) (m21.1 3 0)) (K0 + 5) (((mI m21 (K0 + 4) ((m21.1 K0 3).toNatClampNeg) (m21.1 3 0)).1 K0 3).toNatClampNeg) ((mI m21 (K0 + 4) ((m21.1 K0 3).toNatClampNeg) (m21.1 3 0)).1 3 1)) (K0 + 6) (((mI (mI m21 (K0 + 4) ((m21.1 K0 3).toNatClampNeg) (m21.1 3 0)) (K0 + 5) (((mI m21 (K0 + 4) ((m21.1 K0 3).toNatClampNeg) (m21.1 3 0)).1 K0 3).toNatClampNeg) ((mI m21 (K0 + 4) ((m21.1 K0 3).toNatClampNeg) (m21.1 3 0)).1 3 1)).1 K0 3).toNatClampNeg) ((mI (mI m21 (K0 + 4) ((m21.1 K0 3).toNatClampNeg) (m21.1 3 0)) (K0 + 5) (((mI m21 (K0 + 4) ((m21.1 K0 3).toNatClampNeg) (m21.1 3 0)).1 K0 3).toNatClampNeg) ((mI m21 (K0 + 4) ((m21.1 K0 3).toNatClampNeg) (m21.1 3 0)).1 3 1)).1 3 2)).1 K0 3).toNatClampNeg) ((mI (mI (mI m21 (K0 + 4) ((m21.1 K0 3).toNatClampNeg) (m21.1 3 0)) (K0 + 5) (((mI m21 (K0 + 4) ((m21.1 K0 3).toNatClampNeg) (m21.1 3 0)).1 K0 3).toNatClampNeg) ((mI m21 (K0 + 4) ((m21.1 K0 3).toNatClampNeg) (m21.1 3 0)).1 3 1)) (K0 + 6) (((mI (mI m21 (K0 + 4) ((m21.1 K0 3).toNatClampNeg) (m21.1 3 0)) (K0 + 5) (((mI m21 (K0 + 4) ((m21.1 K0 3).toNatClampNeg) (m21.1 3 0)).1 K0 3).toNatClampNeg) ((mI m21 (K0 + 4) ((m21.1 K0 3).toNatClampNeg) (m21.1 3 0)).1 3 1)).1 K0 3).toNatClampNeg) ((mI (mI m21 (K0 + 4) ((m21.1 K0 3).toNatClampNeg) (m21.1 3 0)) (K0 + 5) (((mI m21 (K0 + 4) ((m21.1 K0 3).toNatClampNeg) (m21.1 3 0)).1 K0 3).toNatClampNeg) ((mI m21 (K0 + 4) ((m21.1 K0 3).toNatClampNeg) (m21.1 3 0)).1 3 1)).1 3 2)).1 3 3)) (K0 + 8) (((mI (mI (mI (mI m21 (K0 + 4) ((m21.1 K0 3).toNatClampNeg) (m21.1 3 0)) (K0 + 5) (((mI m21 (K0 + 4) ((m21.1 K0 3).toNatClampNeg) (m21.1 3 0)).1 K0 3).toNatClampNeg) ((mI m21 (K0 + 4) ((m21.1 K0 3).toNatClampNeg) (m21.1 3 0)).1 3 1)) (K0 + 6) (((mI (mI m21 (K0 + 4) ((m21.1 K0 3).toNatClampNeg) (m21.1 3 0)) (K0 + 5) (((mI m21 (K0 + 4) ((m21.1 K0 3).toNatClampNeg) (m21.1 3 0)).1 K0 3).toNatClampNeg) ((mI m21 (K0 + 4) ((m21.1 K0 3).toNatClampNeg) (m21.1 3 0)).1 3 1)).1 K0 3).toNatClampNeg) ((mI (mI m21 (K0 + 4) ((m21.1 K0 3).toNatClampNeg) (m21.1 3 0)) (K0 + 5) (((mI m21 (K0 + 4) ((m21.1 K0 3).toNatClampNeg) (m21.1 3 0)).1 K0 3).toNatClampNeg) ((mI m21 (K0 + 4) ((m21.1 K0 3).toNatClampNeg) (m21.1 3 0)).1 3 1)).1 3 2)) (K0 + 7) (((mI (mI (mI m21 (K0 + 4) ((m21.1 K0 3).toNatClampNeg) (m21.1 3 0)) (K0 + 5) (((mI m21 (K0 + 4) ((m21.1 K0 3).toNatClampNeg) (m21.1 3 0)).1 K0 3).toNatClampNeg) ((mI m21 (K0 + 4) ((m21.1 K0 3).toNatClampNeg) (m21.1 3 0)).1 3 1)) (K0 + 6) (((mI (mI m21 (K0 + 4) ((m21.1 K0 3).toNatClampNeg) (m21.1 3 0)) (K0 + 5) (((mI m21 (K0 + 4) ((m21.1 K0 3).toNatClampNeg) (m21.1 3 0)).1 K0 3).toNatClampNeg) ((mI m21 (K0 + 4) ((m21.1 K0 3).toNatClampNeg) (m21.1 3 0)).1 3 1)).1 K0 3).toNatClampNeg) ((mI (mI m21 (K0 + 4) ((m21.1 K0 3).toNatClampNeg) (m21.1 3 0)) (K0 + 5) (((mI m21 (K0 + 4) ((m21.1 K0 3).toNatClampNeg) (m21.1 3 0)).1 K0 3).toNatClampNeg) ((mI m21 (K0 + 4) ((m21.1 K0 3).toNatClampNeg) (m21.1 3 0)).1 3 1)).1 3 2)).1 K0 3).toNatClampNeg) ((mI (mI (mI m21 (K0 + 4) ((m21.1 K0 3).toNatClampNeg) (m21.1 3 0)) (K0 + 5) (((mI m21 (K0 + 4) ((m21.1 K0 3).toNatClampNeg) (m21.1 3 0)).1 K0 3).toNatClampNeg) ((mI m21 (K0 + 4) ((m21.1 K0 3).toNatClampNeg) (m21.1 3 0)).1 3 1)) (K0 + 6) (((mI (mI m21 (K0 + 4) ((m21.1 K0 3).toNatClampNeg) (m21.1 3 0)) (K0 + 5) (((mI m21 (K0 + 4) ((m21.1 K0 3).toNatClampNeg) (m21.1 3 0)).1 K0 3).toNatClampNeg) ((mI m21 (K0 + 4) ((m21.1 K0 3).toNatClampNeg) (m21.1 3 0)).1 3 1)).1 K0 3).toNatClampNeg) ((mI (mI m21 (K0 + 4) ((m21.1 K0 3).toNatClampNeg) (m21.1 3 0)) (K0 + 5) (((mI m21 (K0 + 4) ((m21.1 K0 3).toNatClampNeg) (m21.1 3 0)).1 K0 3).toNatClampNeg) ((mI m21 (K0 + 4) ((m21.1 K0 3).toNatClampNeg) (m21.1 3 0)).1 3 1)).1 3 2)).1 3 3)).1 K0 3).toNatClampNeg) ((mI (mI (mI (mI m21 (K0 + 4) ((m21.1 K0 3).toNatClampNeg) (m21.1 3 0)) (K0 + 5) (((mI m21 (K0 + 4) ((m21.1 K0 3).toNatClampNeg) (m21.1 3 0)).1 K0 3).toNatClampNeg) ((mI m21 (K0 + 4) ((m21.1 K0 3).toNatClampNeg) (m21.1 3 0)).1 3 1)) (K0 + 6) (((mI (mI m21 (K0 + 4) ((m21.1 K0 3).toNatClampNeg) (m21.1 3 0)) (K0 + 5) (((mI m21 (K0 + 4) ((m21.1 K0 3).toNatClampNeg) (m21.1 3 0)).1 K0 3).toNatClampNeg) ((mI m21 (K0 + 4) ((m21.1 K0 3).toNatClampNeg) (m21.1 3 0)).1 3 1)).1 K0 3).toNatClampNeg) ((mI (mI m21 (K0 + 4) ((m21.1 K0 3).toNatClampNeg) (m21.1 3 0)) (K0 + 5) (((mI m21 (K0 + 4) ((m21.1 K0 3).toNatClampNeg) (m21.1 3 0)).1 K0 3).toNatClampNeg) ((mI m21 (K0 + 4) ((m21.1 K0 3).toNatClampNeg) (m21.1 3 0)).1 3 1)).1 3 2)) (K0 + 7) (((mI (mI (mI m21 (K0 + 4) ((m21.1 K0 3).toNatClampNeg) (m21.1 3 0)) (K0 + 5) (((mI m21 (K0 + 4) ((m21.1 K0 3).toNatClampNeg) (m21.1 3 0)).1 K0 3).toNatClampNeg) ((mI m21 (K0 + 4) ((m21.1 K0 3).toNatClampNeg) (m21.1 3 0)).1 3 1)) (K0 + 6) (((mI (mI m21 (K0 + 4) ((m21.1 K0 3).toNatClampNeg) (m21.1 3 0)) (K0 + 5) (((mI m21 (K0 + 4) ((m21.1 K0 3).toNatClampNeg) (m21.1 3 0)).1 K0 3).toNatClampNeg) ((mI m21 (K0 + 4) ((m21.1 K0 3).toNatClampNeg) (m21.1 3 0)).1 3 1)).1 K0 3).toNatClampNeg) ((mI (mI m21 (K0 + 4) ((m21.1 K0 3).toNatClampNeg) (m21.1 3 0)) (K0 + 5) (((mI m21 (K0 + 4) ((m21.1 K0 3).toNatClampNeg) (m21.1 3 0)).1 K0 3).toNatClampNeg) ((mI m21 (K0 + 4) ((m21.1 K0 3).toNatClampNeg) (m21.1 3 0)).1 3 1)).1 3 2)).1 K0 3).toNatClampNeg) ((mI (mI (mI m21 (K0 + 4) ((m21.1 K0 3).toNatClampNeg) (m21.1 3 0)) (K0 + 5) (((mI m21 (K0 + 4) ((m21.1 K0 3).toNatClampNeg) (m21.1 3 0)).1 K0 3).toNatClampNeg) ((mI m21 (K0 + 4) ((m21.1 K0 3).toNatClampNeg) (m21.1 3 0)).1 3 1)) (K0 + 6) (((mI (mI m21 (K0 + 4) ((m21.1 K0 3).toNatClampNeg) (m21.1 3 0)) (K0 + 5) (((mI m21 (K0 + 4) ((m21.1 K0 3).toNatClampNeg) (m21.1 3 0)).1 K0 3).toNatClampNeg) ((mI m21 (K0 + 4) ((m21.1 K0 3).toNatClampNeg) (m21.1 3 0)).1 3 1)).1 K0 3).toNatClampNeg) ((mI (mI m21 (K0 + 4) ((m21.1 K0 3).toNatClampNeg) (m21.1 3 0)) (K0 + 5) (((mI m21 (K0 + 4) ((m21.1 K0 3).toNatClampNeg) (m21.1 3 0)).1 K0 3).toNatClampNeg) ((mI m21 (K0 + 4) ((m21.1 K0 3).toNatClampNeg) (m21.1 3 0)).1 3 1)).1 3 2)).1 3 3)).1 3 4)) K0 3 (((mI (mI (mI (mI (mI m21 (K0 + 4) ((m21.1 K0 3).toNatClampNeg) (m21.1 3 0)) (K0 + 5) (((mI m21 (K0 + 4) ((m21.1 K0 3).toNatClampNeg) (m21.1 3 0)).1 K0 3).toNatClampNeg) ((mI m21 (K0 + 4) ((m21.1 K0 3).toNatClampNeg) (m21.1 3 0)).1 3 1)) (K0 + 6) (((mI (mI m21 (K0 + 4) ((m21.1 K0 3).toNatClampNeg) (m21.1 3 0)) (K0 + 5) (((mI m21 (K0 + 4) ((m21.1 K0 3).toNatClampNeg) (m21.1 3 0)).1 K0 3).toNatClampNeg) ((mI m21 (K0 + 4) ((m21.1 K0 3).toNatClampNeg) (m21.1 3 0)).1 3 1)).1 K0 3).toNatClampNeg) ((mI (mI m21 (K0 + 4) ((m21.1 K0 3).toNatClampNeg) (m21.1 3 0)) (K0 + 5) (((mI m21 (K0 + 4) ((m21.1 K0 3).toNatClampNeg) (m21.1 3 0)).1 K0 3).toNatClampNeg) ((mI m21 (K0 + 4) ((m21.1 K0 3).toNatClampNeg) (m21.1 3 0)).1 3 1)).1 3 2)) (K0 + 7) (((mI (mI (mI m21 (K0 + 4) ((m21.1 K0 3).toNatClampNeg) (m21.1 3 0)) (K0 + 5) (((mI m21 (K0 + 4) ((m21.1 K0 3).toNatClampNeg) (m21.1 3 0)).1 K0 3).toNatClampNeg) ((mI m21 (K0 + 4) ((m21.1 K0 3).toNatClampNeg) (m21.1 3 0)).1 3 1)) (K0 + 6) (((mI (mI m21 (K0 + 4) ((m21.1 K0 3).toNatClampNeg) (m21.1 3 0)) (K0 + 5) (((mI m21 (K0 + 4) ((m21.1 K0 3).toNatClampNeg) (m21.1 3 0)).1 K0 3).toNatClampNeg) ((mI m21 (K0 + 4) ((m21.1 K0 3).toNatClampNeg) (m21.1 3 0)).1 3 1)).1 K0 3).toNatClampNeg) ((mI (mI m21 (K0 + 4) ((m21.1 K0 3).toNatClampNeg) (m21.1 3 0)) (K0 + 5) (((mI m21 (K0 + 4) ((m21.1 K0 3).toNatClampNeg) (m21.1 3 0)).1 K0 3).toNatClampNeg) ((mI m21 (K0 + 4) ((m21.1 K0 3).toNatClampNeg) (m21.1 3 0)).1 3 1)).1 3 2)).1 K0 3).toNatClampNeg) ((mI (mI (mI m21 (K0 + 4) ((m21.1 K0 3).toNatClampNeg) (m21.1 3 0)) (K0 + 5) (((mI m21 (K0 + 4) ((m21.1 K0 3).toNatClampNeg) (m21.1 3 0)).1 K0 3).toNatClampNeg) ((mI m21 (K0 + 4) ((m21.1 K0 3).toNatClampNeg) (m21.1 3 0)).1 3 1)) (K0 + 6) (((mI (mI m21 (K0 + 4) ((m21.1 K0 3).toNatClampNeg) (m21.1 3 0)) (K0 + 5) (((mI m21 (K0 + 4) ((m21.1 K0 3).toNatClampNeg) (m21.1 3 0)).1 K0 3).toNatClampNeg) ((mI m21 (K0 + 4) ((m21.1 K0 3).toNatClampNeg) (m21.1 3 0)).1 3 1)).1 K0 3).toNatClampNeg) ((mI (mI m21 (K0 + 4) ((m21.1 K0 3).toNatClampNeg) (m21.1 3 0)) (K0 + 5) (((mI m21 (K0 + 4) ((m21.1 K0 3).toNatClampNeg) (m21.1 3 0)).1 K0 3).toNatClampNeg) ((mI m21 (K0 + 4) ((m21.1 K0 3).toNatClampNeg) (m21.1 3 0)).1 3 1)).1 3 2)).1 3 3)) (K0 + 8) (((mI (mI (mI (mI m21 (K0 + 4) ((m21.1 K0 3).toNatClampNeg) (m21.1 3 0)) (K0 + 5) (((mI m21 (K0 + 4) ((m21.1 K0 3).toNatClampNeg) (m21.1 3 0)).1 K0 3).toNatClampNeg) ((mI m21 (K0 + 4) ((m21.1 K0 3).toNatClampNeg) (m21.1 3 0)).1 3 1)) (K0 + 6) (((mI (mI m21 (K0 + 4) ((m21.1 K0 3).toNatClampNeg) (m21.1 3 0)) (K0 + 5) (((mI m21 (K0 + 4) ((m21.1 K0 3).toNatClampNeg) (m21.1 3 0)).1 K0 3).toNatClampNeg) ((mI m21 (K0 + 4) ((m21.1 K0 3).toNatClampNeg) (m21.1 3 0)).1 3 1)).1 K0 3).toNatClampNeg) ((mI (mI m21 (K0 + 4) ((m21.1 K0 3).toNatClampNeg) (m21.1 3 0)) (K0 + 5) (((mI m21 (K0 + 4) ((m21.1 K0 3).toNatClampNeg) (m21.1 3 0)).1 K0 3).toNatClampNeg) ((mI m21 (K0 + 4) ((m21.1 K0 3).toNatClampNeg) (m21.1 3 0)).1 3 1)).1 3 2)) (K0 + 7) (((mI (mI (mI m21 (K0 + 4) ((m21.1 K0 3).toNatClampNeg) (m21.1 3 0)) (K0 + 5) (((mI m21 (K0 + 4) ((m21.1 K0 3).toNatClampNeg) (m21.1 3 0)).1 K0 3).toNatClampNeg) ((mI m21 (K0 + 4) ((m21.1 K0 3).toNatClampNeg) (m21.1 3 0)).1 3 1)) (K0 + 6) (((mI (mI m21 (K0 + 4) ((m21.1 K0 3).toNatClampNeg) (m21.1 3 0)) (K0 + 5) (((mI m21 (K0 + 4) ((m21.1 K0 3).toNatClampNeg) (m21.1 3 0)).1 K0 3).toNatClampNeg) ((mI m21 (K0 + 4) ((m21.1 K0 3).toNatClampNeg) (m21.1 3 0)).1 3 1)).1 K0 3).toNatClampNeg) ((mI (mI m21 (K0 + 4) ((m21.1 K0 3).toNatClampNeg) (m21.1 3 0)) (K0 + 5) (((mI m21 (K0 + 4) ((m21.1 K0 3).toNatClampNeg) (m21.1 3 0)).1 K0 3).toNatClampNeg) ((mI m21 (K0 + 4) ((m21.1 K0 3).toNatClampNeg) (m21.1 3 0)).1 3 1)).1 3 2)).1 K0 3).toNatClampNeg) ((mI (mI (mI m21 (K0 + 4) ((m21.1 K0 3).toNatClampNeg) (m21.1 3 0)) (K0 + 5) (((mI m21 (K0 + 4) ((m21.1 K0 3).toNatClampNeg) (m21.1 3 0)).1 K0 3).toNatClampNeg) ((mI m21 (K0 + 4) ((m21.1 K0 3).toNatClampNeg) (m21.1 3 0)).1 3 1)) (K0 + 6) (((mI (mI m21 (K0 + 4) ((m21.1 K0 3).toNatClampNeg) (m21.1 3 0)) (K0 + 5) (((mI m21 (K0 + 4) ((m21.1 K0 3).toNatClampNeg) (m21.1 3 0)).1 K0 3).toNatClampNeg) ((mI m21 (K0 + 4) ((m21.1 K0 3).toNatClampNeg) (m21.1 3 0)).1 3 1)).1 K0 3).toNatClampNeg) ((mI (mI m21 (K0 + 4) ((m21.1 K0 3).toNatClampNeg) (m21.1 3 0)) (K0 + 5) (((mI m21 (K0 + 4) ((m21.1 K0 3).toNatClampNeg) (m21.1 3 0)).1 K0 3).toNatClampNeg) ((mI m21 (K0 + 4) ((m21.1 K0 3).toNatClampNeg) (m21.1 3 0)).1 3 1)).1 3 2)).1 3 3)).1 K0 3).toNatClampNeg) ((mI (mI (mI (mI m21 (K0 + 4) ((m21.1 K0 3).toNatClampNeg) (m21.1 3 0)) (K0 + 5) (((mI m21 (K0 + 4) ((m21.1 K0 3).toNatClampNeg) (m21.1 3 0)).1 K0 3).toNatClampNeg) ((mI m21 (K0 + 4) ((m21.1 K0 3).toNatClampNeg) (m21.1 3 0)).1 3 1)) (K0 + 6) (((mI (mI m21 (K0 + 4) ((m21.1 K0 3).toNatClampNeg) (m21.1 3 0)) (K0 + 5) (((mI m21 (K0 + 4) ((m21.1 K0 3).toNatClampNeg) (m21.1 3 0)).1 K0 3).toNatClampNeg) ((mI m21 (K0 + 4) ((m21.1 K0 3).toNatClampNeg) (m21.1 3 0)).1 3 1)).1 K0 3).toNatClampNeg) ((mI (mI m21 (K0 + 4) ((m21.1 K0 3).toNatClampNeg) (m21.1 3 0)) (K0 + 5) (((mI m21 (K0 + 4) ((m21.1 K0 3).toNatClampNeg) (m21.1 3 0)).1 K0 3).toNatClampNeg) ((mI m21 (K0 + 4) ((m21.1 K0 3).toNatClampNeg) (m21.1 3 0)).1 3 1)).1 3 2)) (K0 + 7) (((mI (mI (mI m21 (K0 + 4) ((m21.1 K0 3).toNatClampNeg) (m21.1 3 0)) (K0 + 5) (((mI m21 (K0 + 4) ((m21.1 K0 3).toNatClampNeg) (m21.1 3 0)).1 K0 3).toNatClampNeg) ((mI m21 (K0 + 4) ((m21.1 K0 3).toNatClampNeg) (m21.1 3 0)).1 3 1)) (K0 + 6) (((mI (mI m21 (K0 + 4) ((m21.1 K0 3).toNatClampNeg) (m21.1 3 0)) (K0 + 5) (((mI m21 (K0 + 4) ((m21.1 K0 3).toNatClampNeg) (m21.1 3 0)).1 K0 3).toNatClampNeg) ((mI m21 (K0 + 4) ((m21.1 K0 3).toNatClampNeg) (m21.1 3 0)).1 3 1)).1 K0 3).toNatClampNeg) ((mI (mI m21 (K0 + 4) ((m21.1 K0 3).toNatClampNeg) (m21.1 3 0)) (K0 + 5) (((mI m21 (K0 + 4) ((m21.1 K0 3).toNatClampNeg) (m21.1 3 0)).1 K0 3).toNatClampNeg) ((mI m21 (K0 + 4) ((m21.1 K0 3).toNatClampNeg) (m21.1 3 0)).1 3 1)).1 3 2)).1 K0 3).toNatClampNeg) ((mI (mI (mI m21 (K0 + 4) ((m21.1 K0 3).toNatClampNeg) (m21.1 3 0)) (K0 + 5) (((mI m21 (K0 + 4) ((m21.1 K0 3).toNatClampNeg) (m21.1 3 0)).1 K0 3).toNatClampNeg) ((mI m21 (K0 + 4) ((m21.1 K0 3).toNatClampNeg) (m21.1 3 0)).1 3 1)) (K0 + 6) (((mI (mI m21 (K0 + 4) ((m21.1 K0 3).toNatClampNeg) (m21.1 3 0)) (K0 + 5) (((mI m21 (K0 + 4) ((m21.1 K0 3).toNatClampNeg) (m21.1 3 0)).1 K0 3).toNatClampNeg) ((mI m21 (K0 + 4) ((m21.1 K0 3).toNatClampNeg) (m21.1 3 0)).1 3 1)).1 K0 3).toNatClampNeg) ((mI (mI m21 (K0 + 4) ((m21.1 K0 3).toNatClampNeg) (m21.1 3 0)) (K0 + 5) (((mI m21 (K0 + 4) ((m21.1 K0 3).toNatClampNeg) (m21.1 3 0)).1 K0 3).toNatClampNeg) ((mI m21 (K0 + 4) ((m21.1 K0 3).toNatClampNeg) (m21.1 3 0)).1 3 1)).1 3 2)).1 3 3)).1 3 4)).1 K0 3) + (1 : Int32)))) H := hP
          refine lv_iconst (v := (1 : Int32)) hx hb dX0_addFare_154 (by decide) ?_
          exact fl_zret X hr hlk (by decide) hP hS dX0_addFare_155 h
        · replace h := fl_if_t h c23
          refine lv_iconst (v := (0 : Int32)) hx hb dX0_addFare_82 (by decide) ?_
          exact fl_zret X hr hlk (by decide) hP hS dX0_addFare_83 h
  have j_52 : ∀  (m : Mem) (H : Heap) (locs : List Loc) (ls : Array Slot), J_X0_addFare_52 K0  m = some (v', M') → va_P D vwCl (fl_w L1 ca ad m) H → va_S (fl_A L1 ad) s.heap H locs → lv_has ls 3 [(0, .ref (ad K0)), (1, .ref (ad 3))] → W p l e (fl_rm 3) s mm args below meth c H locs 0 0 (MQ below (fl_Q L1 D ca ad (some (.int v')) M') args s 0 0 (fl_A L1 ad)) (F0 mm 52 ls []) := by
    intro  m H locs ls h hP hS hl
    unfold J_X0_addFare_52 at h
    refine lv_iconst (v := (0 : Int32)) hx hb dX0_addFare_52 (by decide) ?_
    exact j_53 _ _ _ _ _ h hP hS (lv_sub hl [0, 1] rfl)
  refine lv_aload_n hx hb dX0_addFare_0 rfl (lv_at hl 0 rfl) ?_
  refine fl_geti X hP fk_X0_53 hK0.1 rfl dX0_addFare_1 ?_
  refine lv_bipush (v := (7 : Int32)) hx hb dX0_addFare_4 (by decide) ?_
  refine lv_icmp_ge (tgt := 15) hx hb dX0_addFare_6 (by decide) (fun c1 => ?_) (fun c1 => ?_)
  · replace h := fl_if_t h c1
    refine lv_iconst (v := (0 : Int32)) hx hb dX0_addFare_15 (by decide) ?_
    exact fl_zret X hr hlk (by decide) hP hS dX0_addFare_16 h
  · replace h := fl_if_f h c1
    refine lv_aload_n hx hb dX0_addFare_9 rfl (lv_at hl 1 rfl) ?_
    refine fl_alen (v := (5 : Int32)) X hP k1_3 (by decide) (by decide) dX0_addFare_10 ?_
    refine lv_iconst (v := (5 : Int32)) hx hb dX0_addFare_11 (by decide) ?_
    refine lv_icmp_ge (tgt := 17) hx hb dX0_addFare_12 (by decide) (fun c2 => ?_) (fun c2 => ?_)
    · replace h := fl_if_t h c2
      refine lv_aload_n hx hb dX0_addFare_17 rfl (lv_at hl 1 rfl) ?_
      refine lv_iconst (v := (0 : Int32)) hx hb dX0_addFare_18 (by decide) ?_
      refine fl_iald X hP k1_3 (by decide) dX0_addFare_19 ?_
      refine lv_iconst (v := (0 : Int32)) hx hb dX0_addFare_20 (by decide) ?_
      refine lv_iconst (v := (3 : Int32)) hx hb dX0_addFare_21 (by decide) ?_
      obtain ⟨r3, m4, hz5, h⟩ := fl_bd_e h
      refine fl_callN (av := [.int (m.1 3 0), .int (0 : Int32), .int (3 : Int32)]) X hP hS hl.1 mn_X0_56 (c_X8_within l D ca ad hi (m.1 3 0) (0 : Int32) (3 : Int32) m _ _ hz5) (fl_fit_rm (by omega) (by decide)) rfl (Nat.le_of_ble_eq_true rfl) dX0_addFare_22 rfl (fun H locs hP hS => ?_)
      refine W.eq (g2 := F0 mm 25 ls [.int r3]) rfl ?_
      refine lv_if_eq (tgt := 52) hx hb dX0_addFare_25 (by decide) (fun c6 => ?_) (fun c6 => ?_)
      · replace h := fl_if_t h c6
        exact j_52  _ _ _ _ h hP hS (lv_sub hl [0, 1] rfl)
      · replace h := fl_if_f h c6
        refine lv_aload_n hx hb dX0_addFare_28 rfl (lv_at hl 0 rfl) ?_
        refine lv_aload_n hx hb dX0_addFare_29 rfl (lv_at hl 1 rfl) ?_
        refine lv_iconst (v := (1 : Int32)) hx hb dX0_addFare_30 (by decide) ?_
        refine fl_iald X hP k1_3 (by decide) dX0_addFare_31 ?_
        obtain ⟨r7, m8, hz9, h⟩ := fl_bd_e h
        refine fl_callV (av := [.int (m4.1 3 1)]) X hP hS hl.1 mv_X0_60 (c_X0_hasPlace l D ca ad hi K0 hK0 (m4.1 3 1) m4 _ _ hz9) hK0.1 (fl_fit_rm (by omega) (by decide)) rfl (Nat.le_of_ble_eq_true rfl) dX0_addFare_32 rfl (fun H locs hP hS => ?_)
        refine W.eq (g2 := F0 mm 35 ls [.int r7]) rfl ?_
        refine lv_if_eq (tgt := 52) hx hb dX0_addFare_35 (by decide) (fun c10 => ?_) (fun c10 => ?_)
        · replace h := fl_if_t h c10
          exact j_52  _ _ _ _ h hP hS (lv_sub hl [0, 1] rfl)
        · replace h := fl_if_f h c10
          refine lv_aload_n hx hb dX0_addFare_38 rfl (lv_at hl 0 rfl) ?_
          refine lv_aload_n hx hb dX0_addFare_39 rfl (lv_at hl 1 rfl) ?_
          refine lv_iconst (v := (2 : Int32)) hx hb dX0_addFare_40 (by decide) ?_
          refine fl_iald X hP k1_3 (by decide) dX0_addFare_41 ?_
          obtain ⟨r11, m12, hz13, h⟩ := fl_bd_e h
          refine fl_callV (av := [.int (m8.1 3 2)]) X hP hS hl.1 mv_X0_60 (c_X0_hasPlace l D ca ad hi K0 hK0 (m8.1 3 2) m8 _ _ hz13) hK0.1 (fl_fit_rm (by omega) (by decide)) rfl (Nat.le_of_ble_eq_true rfl) dX0_addFare_42 rfl (fun H locs hP hS => ?_)
          refine W.eq (g2 := F0 mm 45 ls [.int r11]) rfl ?_
          refine lv_if_eq (tgt := 52) hx hb dX0_addFare_45 (by decide) (fun c14 => ?_) (fun c14 => ?_)
          · replace h := fl_if_t h c14
            exact j_52  _ _ _ _ h hP hS (lv_sub hl [0, 1] rfl)
          · replace h := fl_if_f h c14
            refine lv_iconst (v := (1 : Int32)) hx hb dX0_addFare_48 (by decide) ?_
            refine lv_goto (tgt := 53) hx hb dX0_addFare_49 (by decide) ?_
            exact j_53 _ _ _ _ _ h hP hS (lv_sub hl [0, 1] rfl)
    · replace h := fl_if_f h c2
      refine lv_iconst (v := (0 : Int32)) hx hb dX0_addFare_15 (by decide) ?_
      exact fl_zret X hr hlk (by decide) hP hS dX0_addFare_16 h

def f_X0_steps (K0 : Nat) (x1 : Int32) (x2 : Int32) (m : Mem) : Option (Int32 × Mem) :=
  fl_ck (¬ (if (1 : Int32) < (m.1 K0 1) then (m.1 K0 1) else (1 : Int32)) = 0) (
    fl_ck (¬ (if (1 : Int32) < (m.1 K0 1) then (m.1 K0 1) else (1 : Int32)) = 0) (
      fl_ck (¬ (if (1 : Int32) < (m.1 K0 1) then (m.1 K0 1) else (1 : Int32)) = 0) (
        fl_ck (¬ (if (1 : Int32) < (m.1 K0 1) then (m.1 K0 1) else (1 : Int32)) = 0) (
          some ((if 0 ≤ ((x1 / (if (1 : Int32) < (m.1 K0 1) then (m.1 K0 1) else (1 : Int32))) - (x2 / (if (1 : Int32) < (m.1 K0 1) then (m.1 K0 1) else (1 : Int32)))) then ((x1 / (if (1 : Int32) < (m.1 K0 1) then (m.1 K0 1) else (1 : Int32))) - (x2 / (if (1 : Int32) < (m.1 K0 1) then (m.1 K0 1) else (1 : Int32)))) else 0 - ((x1 / (if (1 : Int32) < (m.1 K0 1) then (m.1 K0 1) else (1 : Int32))) - (x2 / (if (1 : Int32) < (m.1 K0 1) then (m.1 K0 1) else (1 : Int32))))) + (if 0 ≤ ((x1 - x1 / (if (1 : Int32) < (m.1 K0 1) then (m.1 K0 1) else (1 : Int32)) * (if (1 : Int32) < (m.1 K0 1) then (m.1 K0 1) else (1 : Int32))) - (x2 - x2 / (if (1 : Int32) < (m.1 K0 1) then (m.1 K0 1) else (1 : Int32)) * (if (1 : Int32) < (m.1 K0 1) then (m.1 K0 1) else (1 : Int32)))) then ((x1 - x1 / (if (1 : Int32) < (m.1 K0 1) then (m.1 K0 1) else (1 : Int32)) * (if (1 : Int32) < (m.1 K0 1) then (m.1 K0 1) else (1 : Int32))) - (x2 - x2 / (if (1 : Int32) < (m.1 K0 1) then (m.1 K0 1) else (1 : Int32)) * (if (1 : Int32) < (m.1 K0 1) then (m.1 K0 1) else (1 : Int32)))) else 0 - ((x1 - x1 / (if (1 : Int32) < (m.1 K0 1) then (m.1 K0 1) else (1 : Int32)) * (if (1 : Int32) < (m.1 K0 1) then (m.1 K0 1) else (1 : Int32))) - (x2 - x2 / (if (1 : Int32) < (m.1 K0 1) then (m.1 K0 1) else (1 : Int32)) * (if (1 : Int32) < (m.1 K0 1) then (m.1 K0 1) else (1 : Int32))))), m)))))
set_option maxHeartbeats 4000000 in
set_option maxRecDepth 100000 in
theorem c_X0_steps (l : Launch) (D : va_G) (ca : Nat → ClassId) (ad : Nat → Nat) (hi : fl_inj L1 ad) (K0 : Nat) (hK0 : isCity K0) (x1 : Int32) (x2 : Int32) (m : Mem) (v' : Int32) (M' : Mem) (h : f_X0_steps K0 x1 x2 m = some (v', M')) : fl_M l L1 D ca ad yX0_steps cX0_steps 4 (some .int) 1 [.ref (ad K0), .int x1, .int x2] m (some (.int v')) M' := by
  unfold f_X0_steps at h
  refine fl_ofW (by decide) hi (Nat.le_of_ble_eq_true rfl) ?_
  intro p e s mm args below meth c ls X hr hlk hP hl
  have hl : lv_has ls 4 [(0, .ref (ad K0)), (1, .int x1), (2, .int x2)] := hl
  have X : fl_X p s mm args c cX0_steps 4 RX0 L1 D ca ad := X
  obtain ⟨hx, hb, hml, hown, hts, hE, -⟩ := id X
  have hS : va_S (fl_A L1 ad) s.heap s.heap [] := va_S.rf
  refine lv_iconst (v := (1 : Int32)) hx hb dX0_steps_0 (by decide) ?_
  refine lv_aload_n hx hb dX0_steps_1 rfl (lv_at hl 0 rfl) ?_
  refine fl_geti X hP fk_X0_47 hK0.1 rfl dX0_steps_2 ?_
  refine va_mmax hx hb (hml.trans hl.1.symm) hown (hts _ wq_485) (hts _ wq_220) (hts _ wq_51) (hts _ wq_221) (fl_r1 (by omega)) (fl_r2 (by omega) (Nat.le_of_ble_eq_true rfl)) (Nat.le_refl 0) (Nat.le_refl 0) dX0_steps_5 ?_
  refine lv_istore_n (lv' := [(3, .int (if (1 : Int32) < (m.1 K0 1) then (m.1 K0 1) else (1 : Int32))), (0, .ref (ad K0)), (1, .int x1), (2, .int x2)]) hx hb dX0_steps_8 rfl hl (by decide) rfl (fun ls hl => ?_)
  refine lv_iload_n hx hb dX0_steps_9 rfl (lv_at hl 2 rfl) ?_
  refine lv_iload_n hx hb dX0_steps_10 rfl (lv_at hl 0 rfl) ?_
  obtain ⟨hk1, h⟩ := fl_ck_e h
  refine lv_idiv hx hb dX0_steps_11 hk1 ?_
  refine lv_iload_n hx hb dX0_steps_12 rfl (lv_at hl 3 rfl) ?_
  refine lv_iload_n hx hb dX0_steps_13 rfl (lv_at hl 0 rfl) ?_
  obtain ⟨hk2, h⟩ := fl_ck_e h
  refine lv_idiv hx hb dX0_steps_14 hk2 ?_
  refine lv_isub hx hb dX0_steps_15 ?_
  refine va_mabs hx hb (hml.trans hl.1.symm) hown (hts _ wq_486) (hts _ wq_487) (hts _ wq_51) (hts _ wq_488) (fl_r1 (by omega)) (fl_r2 (by omega) (Nat.le_of_ble_eq_true rfl)) (Nat.le_refl 0) (Nat.le_refl 0) dX0_steps_16 ?_
  refine lv_iload_n hx hb dX0_steps_19 rfl (lv_at hl 2 rfl) ?_
  refine lv_iload_n hx hb dX0_steps_20 rfl (lv_at hl 0 rfl) ?_
  obtain ⟨hk3, h⟩ := fl_ck_e h
  refine lv_irem hx hb dX0_steps_21 hk3 ?_
  refine lv_iload_n hx hb dX0_steps_22 rfl (lv_at hl 3 rfl) ?_
  refine lv_iload_n hx hb dX0_steps_23 rfl (lv_at hl 0 rfl) ?_
  obtain ⟨hk4, h⟩ := fl_ck_e h
  refine lv_irem hx hb dX0_steps_24 hk4 ?_
  refine lv_isub hx hb dX0_steps_25 ?_
  refine va_mabs hx hb (hml.trans hl.1.symm) hown (hts _ wq_486) (hts _ wq_487) (hts _ wq_51) (hts _ wq_488) (fl_r1 (by omega)) (fl_r2 (by omega) (Nat.le_of_ble_eq_true rfl)) (Nat.le_refl 0) (Nat.le_refl 0) dX0_steps_26 ?_
  refine lv_iadd hx hb dX0_steps_29 ?_
  exact fl_iret X hr hlk hP hS dX0_steps_30 h

def J_X0_reckonAs_136 (K0 : Nat) (K1 : Nat) (x2 : Int32) (x3 : Int32) (x6 : Int32) (x7 : Int32) (m : Mem) : Option (Int32 × Mem) :=
  fl_ck (0 ≤ x2.toInt ∧ x2.toInt < 3) (
    fl_ck (0 ≤ x3.toInt ∧ x3.toInt < 7) (
      fl_bd (f_X0_steps K0 (m.1 (K1 + 1) (x2.toNatClampNeg)) (m.1 (K0 + 5) (x3.toNatClampNeg)) m) (fun r20 m21 =>
        fl_ck (0 ≤ x3.toInt ∧ x3.toInt < 7) (
          fl_ck (0 ≤ x3.toInt ∧ x3.toInt < 7) (
            if ((mI (mI m21 (K0 + 9) 0 ((x6 + r20) + x7)) (K0 + 9) 1 (((mI m21 (K0 + 9) 0 ((x6 + r20) + x7)).1 (K0 + 9) 0) - ((mI m21 (K0 + 9) 0 ((x6 + r20) + x7)).1 (K0 + 7) (x3.toNatClampNeg)))).1 (K0 + 4) (x3.toNatClampNeg)) = (1 : Int32) then (
              some ((0 : Int32), mI (mI (mI m21 (K0 + 9) 0 ((x6 + r20) + x7)) (K0 + 9) 1 (((mI m21 (K0 + 9) 0 ((x6 + r20) + x7)).1 (K0 + 9) 0) - ((mI m21 (K0 + 9) 0 ((x6 + r20) + x7)).1 (K0 + 7) (x3.toNatClampNeg)))) (K0 + 9) 2 (1 : Int32)))
            else (
              fl_ck (0 ≤ x3.toInt ∧ x3.toInt < 7) (
                if ((mI (mI m21 (K0 + 9) 0 ((x6 + r20) + x7)) (K0 + 9) 1 (((mI m21 (K0 + 9) 0 ((x6 + r20) + x7)).1 (K0 + 9) 0) - ((mI m21 (K0 + 9) 0 ((x6 + r20) + x7)).1 (K0 + 7) (x3.toNatClampNeg)))).1 (K0 + 4) (x3.toNatClampNeg)) = 0 then (
                  fl_ck (0 ≤ x3.toInt ∧ x3.toInt < 7) (
                    if ((mI (mI m21 (K0 + 9) 0 ((x6 + r20) + x7)) (K0 + 9) 1 (((mI m21 (K0 + 9) 0 ((x6 + r20) + x7)).1 (K0 + 9) 0) - ((mI m21 (K0 + 9) 0 ((x6 + r20) + x7)).1 (K0 + 7) (x3.toNatClampNeg)))).1 (K0 + 9) 1) ≤ ((mI (mI m21 (K0 + 9) 0 ((x6 + r20) + x7)) (K0 + 9) 1 (((mI m21 (K0 + 9) 0 ((x6 + r20) + x7)).1 (K0 + 9) 0) - ((mI m21 (K0 + 9) 0 ((x6 + r20) + x7)).1 (K0 + 7) (x3.toNatClampNeg)))).1 (K0 + 8) (x3.toNatClampNeg)) then (
                      some ((0 : Int32), mI (mI (mI m21 (K0 + 9) 0 ((x6 + r20) + x7)) (K0 + 9) 1 (((mI m21 (K0 + 9) 0 ((x6 + r20) + x7)).1 (K0 + 9) 0) - ((mI m21 (K0 + 9) 0 ((x6 + r20) + x7)).1 (K0 + 7) (x3.toNatClampNeg)))) (K0 + 9) 2 (0 : Int32)))
                    else (
                      some ((0 : Int32), mI (mI (mI m21 (K0 + 9) 0 ((x6 + r20) + x7)) (K0 + 9) 1 (((mI m21 (K0 + 9) 0 ((x6 + r20) + x7)).1 (K0 + 9) 0) - ((mI m21 (K0 + 9) 0 ((x6 + r20) + x7)).1 (K0 + 7) (x3.toNatClampNeg)))) (K0 + 9) 2 (1 : Int32)))))
                else (
                  some ((0 : Int32), mI (mI (mI m21 (K0 + 9) 0 ((x6 + r20) + x7)) (K0 + 9) 1 (((mI m21 (K0 + 9) 0 ((x6 + r20) + x7)).1 (K0 + 9) 0) - ((mI m21 (K0 + 9) 0 ((x6 + r20) + x7)).1 (K0 + 7) (x3.toNatClampNeg)))) (K0 + 9) 2 (0 : Int32))))))))))
def J_X0_reckonAs_104 (K0 : Nat) (K1 : Nat) (x2 : Int32) (x3 : Int32) (x5 : Int32) (x6 : Int32) (t0 : Int32) (m : Mem) : Option (Int32 × Mem) :=
  fl_ck (0 ≤ x3.toInt ∧ x3.toInt < 7) (
    fl_bd (f_X0_steps K0 (m.1 (K0 + 5) (x3.toNatClampNeg)) x5 m) (fun r31 m32 =>
      fl_ck (0 ≤ x3.toInt ∧ x3.toInt < 7) (
        fl_bd (f_X0_steps K0 x5 (m32.1 (K0 + 6) (x3.toNatClampNeg)) m32) (fun r35 m36 =>
          J_X0_reckonAs_136 K0 K1 x2 x3 x6 ((r31 + t0) + r35) m36))))
def J_X0_reckonAs_62 (K0 : Nat) (K1 : Nat) (x2 : Int32) (x3 : Int32) (x4 : Int32) (x5 : Int32) (x6 : Int32) (t1 : Int32) (m : Mem) : Option (Int32 × Mem) :=
  fl_ck (t1 = 0 ∨ t1 = 1) (
    fl_ck (0 ≤ x3.toInt ∧ x3.toInt < 7) (
      fl_ck (0 ≤ x3.toInt ∧ x3.toInt < 7) (
        fl_bd (f_X0_steps K0 ((mI m (K0 + 9) 3 t1).1 (K0 + 5) (x3.toNatClampNeg)) ((mI m (K0 + 9) 3 t1).1 (K0 + 6) (x3.toNatClampNeg)) (mI m (K0 + 9) 3 t1)) (fun r13 m14 =>
          if (m14.1 (K0 + 9) 3) = 0 then (
            J_X0_reckonAs_136 K0 K1 x2 x3 x6 r13 m14)
          else (
            if x4 = (1 : Int32) then (
              J_X0_reckonAs_104 K0 K1 x2 x3 x5 x6 (3 : Int32) m14)
            else (
              J_X0_reckonAs_104 K0 K1 x2 x3 x5 x6 (1 : Int32) m14))))))
def J_X0_reckonAs_61 (K0 : Nat) (K1 : Nat) (x2 : Int32) (x3 : Int32) (x4 : Int32) (x5 : Int32) (x6 : Int32) (m : Mem) : Option (Int32 × Mem) :=
  J_X0_reckonAs_62 K0 K1 x2 x3 x4 x5 x6 (0 : Int32) m
def J_X0_reckonAs_57 (K0 : Nat) (K1 : Nat) (x2 : Int32) (x3 : Int32) (x4 : Int32) (x5 : Int32) (x6 : Int32) (m : Mem) : Option (Int32 × Mem) :=
  J_X0_reckonAs_62 K0 K1 x2 x3 x4 x5 x6 (1 : Int32) m
def f_X0_reckonAs (K0 : Nat) (K1 : Nat) (x2 : Int32) (x3 : Int32) (x4 : Int32) (x5 : Int32) (m : Mem) : Option (Int32 × Mem) :=
  fl_ck (0 ≤ x2.toInt ∧ x2.toInt < 3) (
    fl_ck (0 ≤ x3.toInt ∧ x3.toInt < 7) (
      if x5 = (-4 : Int32) then (
        J_X0_reckonAs_61 K0 K1 x2 x3 x4 x5 (if (if (m.1 K1 0) < (m.1 (K1 + 2) (x2.toNatClampNeg)) then (m.1 (K1 + 2) (x2.toNatClampNeg)) else (m.1 K1 0)) < (m.1 (K0 + 7) (x3.toNatClampNeg)) then (m.1 (K0 + 7) (x3.toNatClampNeg)) else (if (m.1 K1 0) < (m.1 (K1 + 2) (x2.toNatClampNeg)) then (m.1 (K1 + 2) (x2.toNatClampNeg)) else (m.1 K1 0))) m)
      else (
        if x4 = (2 : Int32) then (
          fl_ck (0 ≤ x3.toInt ∧ x3.toInt < 7) (
            fl_bd (f_X0_steps K0 (m.1 (K0 + 5) (x3.toNatClampNeg)) x5 m) (fun r6 m7 =>
              if (3 : Int32) < r6 then (
                J_X0_reckonAs_61 K0 K1 x2 x3 x4 x5 (if (if (m.1 K1 0) < (m.1 (K1 + 2) (x2.toNatClampNeg)) then (m.1 (K1 + 2) (x2.toNatClampNeg)) else (m.1 K1 0)) < (m.1 (K0 + 7) (x3.toNatClampNeg)) then (m.1 (K0 + 7) (x3.toNatClampNeg)) else (if (m.1 K1 0) < (m.1 (K1 + 2) (x2.toNatClampNeg)) then (m.1 (K1 + 2) (x2.toNatClampNeg)) else (m.1 K1 0))) m7)
              else (
                J_X0_reckonAs_57 K0 K1 x2 x3 x4 x5 (if (if (m.1 K1 0) < (m.1 (K1 + 2) (x2.toNatClampNeg)) then (m.1 (K1 + 2) (x2.toNatClampNeg)) else (m.1 K1 0)) < (m.1 (K0 + 7) (x3.toNatClampNeg)) then (m.1 (K0 + 7) (x3.toNatClampNeg)) else (if (m.1 K1 0) < (m.1 (K1 + 2) (x2.toNatClampNeg)) then (m.1 (K1 + 2) (x2.toNatClampNeg)) else (m.1 K1 0))) m7))))
        else (
          J_X0_reckonAs_57 K0 K1 x2 x3 x4 x5 (if (if (m.1 K1 0) < (m.1 (K1 + 2) (x2.toNatClampNeg)) then (m.1 (K1 + 2) (x2.toNatClampNeg)) else (m.1 K1 0)) < (m.1 (K0 + 7) (x3.toNatClampNeg)) then (m.1 (K0 + 7) (x3.toNatClampNeg)) else (if (m.1 K1 0) < (m.1 (K1 + 2) (x2.toNatClampNeg)) then (m.1 (K1 + 2) (x2.toNatClampNeg)) else (m.1 K1 0))) m))))
set_option maxHeartbeats 4000000 in
set_option maxRecDepth 100000 in
theorem c_X0_reckonAs (l : Launch) (D : va_G) (ca : Nat → ClassId) (ad : Nat → Nat) (hi : fl_inj L1 ad) (K0 : Nat) (hK0 : isCity K0) (K1 : Nat) (hK1 : isStand K1) (x2 : Int32) (x3 : Int32) (x4 : Int32) (x5 : Int32) (m : Mem) (v' : Int32) (M' : Mem) (h : f_X0_reckonAs K0 K1 x2 x3 x4 x5 m = some (v', M')) : fl_M l L1 D ca ad yX0_reckonAs cX0_reckonAs 9 none 2 [.ref (ad K0), .ref (ad K1), .int x2, .int x3, .int x4, .int x5] m none M' := by
  unfold f_X0_reckonAs at h
  refine fl_ofW (by decide) hi (Nat.le_of_ble_eq_true rfl) ?_
  intro p e s mm args below meth c ls X hr hlk hP hl
  have hl : lv_has ls 9 [(0, .ref (ad K0)), (1, .ref (ad K1)), (2, .int x2), (3, .int x3), (4, .int x4), (5, .int x5)] := hl
  have X : fl_X p s mm args c cX0_reckonAs 9 RX0 L1 D ca ad := X
  obtain ⟨hx, hb, hml, hown, hts, hE, -⟩ := id X
  have hS : va_S (fl_A L1 ad) s.heap s.heap [] := va_S.rf
  have j_136 : ∀ (x2 : Int32) (x3 : Int32) (x6 : Int32) (x7 : Int32) (m : Mem) (H : Heap) (locs : List Loc) (ls : Array Slot), J_X0_reckonAs_136 K0 K1 x2 x3 x6 x7 m = some (v', M') → va_P D vwCl (fl_w L1 ca ad m) H → va_S (fl_A L1 ad) s.heap H locs → lv_has ls 9 [(0, .ref (ad K0)), (1, .ref (ad K1)), (2, .int x2), (3, .int x3), (6, .int x6), (7, .int x7)] → W p l e (fl_rm 2) s mm args below meth c H locs 0 0 (MQ below (fl_Q L1 D ca ad none M') args s 0 0 (fl_A L1 ad)) (F0 mm 136 ls []) := by
    intro x2 x3 x6 x7 m H locs ls h hP hS hl
    unfold J_X0_reckonAs_136 at h
    refine lv_aload_n hx hb dX0_reckonAs_136 rfl (lv_at hl 0 rfl) ?_
    refine fl_getr X hP fk_X0_39 hK0.1 rfl dX0_reckonAs_137 ?_
    refine lv_iload hx hb dX0_reckonAs_140 (lv_at hl 4 rfl) ?_
    refine lv_aload_n hx hb dX0_reckonAs_142 rfl (lv_at hl 0 rfl) ?_
    refine lv_aload_n hx hb dX0_reckonAs_143 rfl (lv_at hl 1 rfl) ?_
    refine fl_getr X hP fk_X0_100 hK1.1 rfl dX0_reckonAs_144 ?_
    refine lv_iload_n hx hb dX0_reckonAs_147 rfl (lv_at hl 2 rfl) ?_
    obtain ⟨hk18, h⟩ := fl_ck_e h
    refine fl_iald X hP hK1.2.1 hk18 dX0_reckonAs_148 ?_
    refine lv_aload_n hx hb dX0_reckonAs_149 rfl (lv_at hl 0 rfl) ?_
    refine fl_getr X hP fk_X0_24 hK0.1 rfl dX0_reckonAs_150 ?_
    refine lv_iload_n hx hb dX0_reckonAs_153 rfl (lv_at hl 3 rfl) ?_
    obtain ⟨hk19, h⟩ := fl_ck_e h
    refine fl_iald X hP hK0.2.2.2.2.2.1 hk19 dX0_reckonAs_154 ?_
    obtain ⟨r20, m21, hz22, h⟩ := fl_bd_e h
    refine fl_callV (av := [.int (m.1 (K1 + 1) (x2.toNatClampNeg)), .int (m.1 (K0 + 5) (x3.toNatClampNeg))]) X hP hS hl.1 mv_X0_93 (c_X0_steps l D ca ad hi K0 hK0 (m.1 (K1 + 1) (x2.toNatClampNeg)) (m.1 (K0 + 5) (x3.toNatClampNeg)) m _ _ hz22) hK0.1 (fl_fit_rm (by omega) (by decide)) rfl (Nat.le_of_ble_eq_true rfl) dX0_reckonAs_155 rfl (fun H locs hP hS => ?_)
    refine W.eq (g2 := F0 mm 158 ls [.int r20, .int x6, .ref (ad (K0 + 9))]) rfl ?_
    refine lv_iadd hx hb dX0_reckonAs_158 ?_
    refine lv_iload hx hb dX0_reckonAs_159 (lv_at hl 5 rfl) ?_
    refine lv_iadd hx hb dX0_reckonAs_161 ?_
    refine fl_puti X hP hS pk_X0_103 hK0.2.2.2.2.2.2.2.2.2 rfl rfl rfl dX0_reckonAs_162 (fun H locs hP hS => ?_)
    have hP : va_P D vwCl (fl_w L1 ca ad (mI m21 (K0 + 9) 0 ((x6 + r20) + x7))) H := hP
    refine lv_aload_n hx hb dX0_reckonAs_165 rfl (lv_at hl 0 rfl) ?_
    refine fl_getr X hP fk_X0_39 hK0.1 rfl dX0_reckonAs_166 ?_
    refine lv_aload_n hx hb dX0_reckonAs_169 rfl (lv_at hl 0 rfl) ?_
    refine fl_getr X hP fk_X0_39 hK0.1 rfl dX0_reckonAs_170 ?_
    refine fl_geti X hP fk_X0_103 hK0.2.2.2.2.2.2.2.2.2 rfl dX0_reckonAs_173 ?_
    refine lv_aload_n hx hb dX0_reckonAs_176 rfl (lv_at hl 0 rfl) ?_
    refine fl_getr X hP fk_X0_30 hK0.1 rfl dX0_reckonAs_177 ?_
    refine lv_iload_n hx hb dX0_reckonAs_180 rfl (lv_at hl 3 rfl) ?_
    obtain ⟨hk23, h⟩ := fl_ck_e h
    refine fl_iald X hP hK0.2.2.2.2.2.2.2.1 hk23 dX0_reckonAs_181 ?_
    refine lv_isub hx hb dX0_reckonAs_182 ?_
    refine fl_puti X hP hS pk_X0_105 hK0.2.2.2.2.2.2.2.2.2 rfl rfl rfl dX0_reckonAs_183 (fun H locs hP hS => ?_)
    have hP : va_P D vwCl (fl_w L1 ca ad (mI (mI m21 (K0 + 9) 0 ((x6 + r20) + x7)) (K0 + 9) 1 (((mI m21 (K0 + 9) 0 ((x6 + r20) + x7)).1 (K0 + 9) 0) - ((mI m21 (K0 + 9) 0 ((x6 + r20) + x7)).1 (K0 + 7) (x3.toNatClampNeg))))) H := hP
    refine lv_aload_n hx hb dX0_reckonAs_186 rfl (lv_at hl 0 rfl) ?_
    refine fl_getr X hP fk_X0_39 hK0.1 rfl dX0_reckonAs_187 ?_
    refine lv_aload_n hx hb dX0_reckonAs_190 rfl (lv_at hl 0 rfl) ?_
    refine fl_getr X hP fk_X0_21 hK0.1 rfl dX0_reckonAs_191 ?_
    refine lv_iload_n hx hb dX0_reckonAs_194 rfl (lv_at hl 3 rfl) ?_
    obtain ⟨hk24, h⟩ := fl_ck_e h
    refine fl_iald X hP hK0.2.2.2.2.1 hk24 dX0_reckonAs_195 ?_
    refine lv_iconst (v := (1 : Int32)) hx hb dX0_reckonAs_196 (by decide) ?_
    refine lv_icmp_eq (tgt := 225) hx hb dX0_reckonAs_197 (by decide) (fun c25 => ?_) (fun c25 => ?_)
    · replace h := fl_if_t h c25
      refine lv_iconst (v := (1 : Int32)) hx hb dX0_reckonAs_225 (by decide) ?_
      refine lv_goto (tgt := 230) hx hb dX0_reckonAs_226 (by decide) ?_
      refine fl_puti X hP hS pk_X0_108 hK0.2.2.2.2.2.2.2.2.2 rfl rfl rfl dX0_reckonAs_230 (fun H locs hP hS => ?_)
      have hP : va_P D vwCl (fl_w L1 ca ad (mI (mI (mI m21 (K0 + 9) 0 ((x6 + r20) + x7)) (K0 + 9) 1 (((mI m21 (K0 + 9) 0 ((x6 + r20) + x7)).1 (K0 + 9) 0) - ((mI m21 (K0 + 9) 0 ((x6 + r20) + x7)).1 (K0 + 7) (x3.toNatClampNeg)))) (K0 + 9) 2 (1 : Int32))) H := hP
      exact fl_vret X hr hlk hP hS dX0_reckonAs_233 h
    · replace h := fl_if_f h c25
      refine lv_aload_n hx hb dX0_reckonAs_200 rfl (lv_at hl 0 rfl) ?_
      refine fl_getr X hP fk_X0_21 hK0.1 rfl dX0_reckonAs_201 ?_
      refine lv_iload_n hx hb dX0_reckonAs_204 rfl (lv_at hl 3 rfl) ?_
      obtain ⟨hk26, h⟩ := fl_ck_e h
      refine fl_iald X hP hK0.2.2.2.2.1 hk26 dX0_reckonAs_205 ?_
      refine lv_if_ne (tgt := 229) hx hb dX0_reckonAs_206 (by decide) (fun c27 => ?_) (fun c27 => ?_)
      · replace h := fl_if_f h c27
        refine lv_iconst (v := (0 : Int32)) hx hb dX0_reckonAs_229 (by decide) ?_
        refine fl_puti X hP hS pk_X0_108 hK0.2.2.2.2.2.2.2.2.2 rfl rfl rfl dX0_reckonAs_230 (fun H locs hP hS => ?_)
        have hP : va_P D vwCl (fl_w L1 ca ad (mI (mI (mI m21 (K0 + 9) 0 ((x6 + r20) + x7)) (K0 + 9) 1 (((mI m21 (K0 + 9) 0 ((x6 + r20) + x7)).1 (K0 + 9) 0) - ((mI m21 (K0 + 9) 0 ((x6 + r20) + x7)).1 (K0 + 7) (x3.toNatClampNeg)))) (K0 + 9) 2 (0 : Int32))) H := hP
        exact fl_vret X hr hlk hP hS dX0_reckonAs_233 h
      · replace h := fl_if_t h c27
        refine lv_aload_n hx hb dX0_reckonAs_209 rfl (lv_at hl 0 rfl) ?_
        refine fl_getr X hP fk_X0_39 hK0.1 rfl dX0_reckonAs_210 ?_
        refine fl_geti X hP fk_X0_105 hK0.2.2.2.2.2.2.2.2.2 rfl dX0_reckonAs_213 ?_
        refine lv_aload_n hx hb dX0_reckonAs_216 rfl (lv_at hl 0 rfl) ?_
        refine fl_getr X hP fk_X0_33 hK0.1 rfl dX0_reckonAs_217 ?_
        refine lv_iload_n hx hb dX0_reckonAs_220 rfl (lv_at hl 3 rfl) ?_
        obtain ⟨hk28, h⟩ := fl_ck_e h
        refine fl_iald X hP hK0.2.2.2.2.2.2.2.2.1 hk28 dX0_reckonAs_221 ?_
        refine lv_icmp_le (tgt := 229) hx hb dX0_reckonAs_222 (by decide) (fun c29 => ?_) (fun c29 => ?_)
        · replace h := fl_if_t h c29
          refine lv_iconst (v := (0 : Int32)) hx hb dX0_reckonAs_229 (by decide) ?_
          refine fl_puti X hP hS pk_X0_108 hK0.2.2.2.2.2.2.2.2.2 rfl rfl rfl dX0_reckonAs_230 (fun H locs hP hS => ?_)
          have hP : va_P D vwCl (fl_w L1 ca ad (mI (mI (mI m21 (K0 + 9) 0 ((x6 + r20) + x7)) (K0 + 9) 1 (((mI m21 (K0 + 9) 0 ((x6 + r20) + x7)).1 (K0 + 9) 0) - ((mI m21 (K0 + 9) 0 ((x6 + r20) + x7)).1 (K0 + 7) (x3.toNatClampNeg)))) (K0 + 9) 2 (0 : Int32))) H := hP
          exact fl_vret X hr hlk hP hS dX0_reckonAs_233 h
        · replace h := fl_if_f h c29
          refine lv_iconst (v := (1 : Int32)) hx hb dX0_reckonAs_225 (by decide) ?_
          refine lv_goto (tgt := 230) hx hb dX0_reckonAs_226 (by decide) ?_
          refine fl_puti X hP hS pk_X0_108 hK0.2.2.2.2.2.2.2.2.2 rfl rfl rfl dX0_reckonAs_230 (fun H locs hP hS => ?_)
          have hP : va_P D vwCl (fl_w L1 ca ad (mI (mI (mI m21 (K0 + 9) 0 ((x6 + r20) + x7)) (K0 + 9) 1 (((mI m21 (K0 + 9) 0 ((x6 + r20) + x7)).1 (K0 + 9) 0) - ((mI m21 (K0 + 9) 0 ((x6 + r20) + x7)).1 (K0 + 7) (x3.toNatClampNeg)))) (K0 + 9) 2 (1 : Int32))) H := hP
          exact fl_vret X hr hlk hP hS dX0_reckonAs_233 h
  have j_104 : ∀ (x2 : Int32) (x3 : Int32) (x5 : Int32) (x6 : Int32) (t0 : Int32) (m : Mem) (H : Heap) (locs : List Loc) (ls : Array Slot), J_X0_reckonAs_104 K0 K1 x2 x3 x5 x6 t0 m = some (v', M') → va_P D vwCl (fl_w L1 ca ad m) H → va_S (fl_A L1 ad) s.heap H locs → lv_has ls 9 [(0, .ref (ad K0)), (1, .ref (ad K1)), (2, .int x2), (3, .int x3), (5, .int x5), (6, .int x6)] → W p l e (fl_rm 2) s mm args below meth c H locs 0 0 (MQ below (fl_Q L1 D ca ad none M') args s 0 0 (fl_A L1 ad)) (F0 mm 104 ls [.int t0]) := by
    intro x2 x3 x5 x6 t0 m H locs ls h hP hS hl
    unfold J_X0_reckonAs_104 at h
    refine lv_istore (lv' := [(8, .int t0), (0, .ref (ad K0)), (1, .ref (ad K1)), (2, .int x2), (3, .int x3), (5, .int x5), (6, .int x6)]) hx hb dX0_reckonAs_104 hl (by decide) rfl (fun ls hl => ?_)
    refine lv_aload_n hx hb dX0_reckonAs_106 rfl (lv_at hl 1 rfl) ?_
    refine lv_aload_n hx hb dX0_reckonAs_107 rfl (lv_at hl 1 rfl) ?_
    refine fl_getr X hP fk_X0_24 hK0.1 rfl dX0_reckonAs_108 ?_
    refine lv_iload_n hx hb dX0_reckonAs_111 rfl (lv_at hl 4 rfl) ?_
    obtain ⟨hk30, h⟩ := fl_ck_e h
    refine fl_iald X hP hK0.2.2.2.2.2.1 hk30 dX0_reckonAs_112 ?_
    refine lv_iload hx hb dX0_reckonAs_113 (lv_at hl 5 rfl) ?_
    obtain ⟨r31, m32, hz33, h⟩ := fl_bd_e h
    refine fl_callV (av := [.int (m.1 (K0 + 5) (x3.toNatClampNeg)), .int x5]) X hP hS hl.1 mv_X0_93 (c_X0_steps l D ca ad hi K0 hK0 (m.1 (K0 + 5) (x3.toNatClampNeg)) x5 m _ _ hz33) hK0.1 (fl_fit_rm (by omega) (by decide)) rfl (Nat.le_of_ble_eq_true rfl) dX0_reckonAs_115 rfl (fun H locs hP hS => ?_)
    refine W.eq (g2 := F0 mm 118 ls [.int r31]) rfl ?_
    refine lv_iload hx hb dX0_reckonAs_118 (lv_at hl 0 rfl) ?_
    refine lv_iadd hx hb dX0_reckonAs_120 ?_
    refine lv_aload_n hx hb dX0_reckonAs_121 rfl (lv_at hl 1 rfl) ?_
    refine lv_iload hx hb dX0_reckonAs_122 (lv_at hl 5 rfl) ?_
    refine lv_aload_n hx hb dX0_reckonAs_124 rfl (lv_at hl 1 rfl) ?_
    refine fl_getr X hP fk_X0_27 hK0.1 rfl dX0_reckonAs_125 ?_
    refine lv_iload_n hx hb dX0_reckonAs_128 rfl (lv_at hl 4 rfl) ?_
    obtain ⟨hk34, h⟩ := fl_ck_e h
    refine fl_iald X hP hK0.2.2.2.2.2.2.1 hk34 dX0_reckonAs_129 ?_
    obtain ⟨r35, m36, hz37, h⟩ := fl_bd_e h
    refine fl_callV (av := [.int x5, .int (m32.1 (K0 + 6) (x3.toNatClampNeg))]) X hP hS hl.1 mv_X0_93 (c_X0_steps l D ca ad hi K0 hK0 x5 (m32.1 (K0 + 6) (x3.toNatClampNeg)) m32 _ _ hz37) hK0.1 (fl_fit_rm (by omega) (by decide)) rfl (Nat.le_of_ble_eq_true rfl) dX0_reckonAs_130 rfl (fun H locs hP hS => ?_)
    refine W.eq (g2 := F0 mm 133 ls [.int r35, .int (r31 + t0)]) rfl ?_
    refine lv_iadd hx hb dX0_reckonAs_133 ?_
    refine lv_istore (lv' := [(7, .int ((r31 + t0) + r35)), (8, .int t0), (0, .ref (ad K0)), (1, .ref (ad K1)), (2, .int x2), (3, .int x3), (5, .int x5), (6, .int x6)]) hx hb dX0_reckonAs_134 hl (by decide) rfl (fun ls hl => ?_)
    exact j_136 _ _ _ _ _ _ _ _ h hP hS (lv_sub hl [2, 3, 4, 5, 7, 0] rfl)
  have j_62 : ∀ (x2 : Int32) (x3 : Int32) (x4 : Int32) (x5 : Int32) (x6 : Int32) (t1 : Int32) (m : Mem) (H : Heap) (locs : List Loc) (ls : Array Slot), J_X0_reckonAs_62 K0 K1 x2 x3 x4 x5 x6 t1 m = some (v', M') → va_P D vwCl (fl_w L1 ca ad m) H → va_S (fl_A L1 ad) s.heap H locs → lv_has ls 9 [(0, .ref (ad K0)), (1, .ref (ad K1)), (2, .int x2), (3, .int x3), (4, .int x4), (5, .int x5), (6, .int x6)] → W p l e (fl_rm 2) s mm args below meth c H locs 0 0 (MQ below (fl_Q L1 D ca ad none M') args s 0 0 (fl_A L1 ad)) (F0 mm 62 ls [.int t1, .ref (ad (K0 + 9))]) := by
    intro x2 x3 x4 x5 x6 t1 m H locs ls h hP hS hl
    unfold J_X0_reckonAs_62 at h
    obtain ⟨hk10, h⟩ := fl_ck_e h
    refine fl_puti X hP hS pk_X0_96 hK0.2.2.2.2.2.2.2.2.2 rfl (fl_nz hk10) (fl_fz hk10) dX0_reckonAs_62 (fun H locs hP hS => ?_)
    have hP : va_P D vwCl (fl_w L1 ca ad (mI m (K0 + 9) 3 t1)) H := hP
    refine lv_aload_n hx hb dX0_reckonAs_65 rfl (lv_at hl 0 rfl) ?_
    refine lv_aload_n hx hb dX0_reckonAs_66 rfl (lv_at hl 0 rfl) ?_
    refine fl_getr X hP fk_X0_24 hK0.1 rfl dX0_reckonAs_67 ?_
    refine lv_iload_n hx hb dX0_reckonAs_70 rfl (lv_at hl 3 rfl) ?_
    obtain ⟨hk11, h⟩ := fl_ck_e h
    refine fl_iald X hP hK0.2.2.2.2.2.1 hk11 dX0_reckonAs_71 ?_
    refine lv_aload_n hx hb dX0_reckonAs_72 rfl (lv_at hl 0 rfl) ?_
    refine fl_getr X hP fk_X0_27 hK0.1 rfl dX0_reckonAs_73 ?_
    refine lv_iload_n hx hb dX0_reckonAs_76 rfl (lv_at hl 3 rfl) ?_
    obtain ⟨hk12, h⟩ := fl_ck_e h
    refine fl_iald X hP hK0.2.2.2.2.2.2.1 hk12 dX0_reckonAs_77 ?_
    obtain ⟨r13, m14, hz15, h⟩ := fl_bd_e h
    refine fl_callV (av := [.int ((mI m (K0 + 9) 3 t1).1 (K0 + 5) (x3.toNatClampNeg)), .int ((mI m (K0 + 9) 3 t1).1 (K0 + 6) (x3.toNatClampNeg))]) X hP hS hl.1 mv_X0_93 (c_X0_steps l D ca ad hi K0 hK0 ((mI m (K0 + 9) 3 t1).1 (K0 + 5) (x3.toNatClampNeg)) ((mI m (K0 + 9) 3 t1).1 (K0 + 6) (x3.toNatClampNeg)) (mI m (K0 + 9) 3 t1) _ _ hz15) hK0.1 (fl_fit_rm (by omega) (by decide)) rfl (Nat.le_of_ble_eq_true rfl) dX0_reckonAs_78 rfl (fun H locs hP hS => ?_)
    refine W.eq (g2 := F0 mm 81 ls [.int r13]) rfl ?_
    refine lv_istore (lv' := [(7, .int r13), (0, .ref (ad K0)), (1, .ref (ad K1)), (2, .int x2), (3, .int x3), (4, .int x4), (5, .int x5), (6, .int x6)]) hx hb dX0_reckonAs_81 hl (by decide) rfl (fun ls hl => ?_)
    refine lv_aload_n hx hb dX0_reckonAs_83 rfl (lv_at hl 1 rfl) ?_
    refine fl_getr X hP fk_X0_39 hK0.1 rfl dX0_reckonAs_84 ?_
    refine fl_geti X hP fk_X0_96 hK0.2.2.2.2.2.2.2.2.2 rfl dX0_reckonAs_87 ?_
    refine lv_if_eq (tgt := 136) hx hb dX0_reckonAs_90 (by decide) (fun c16 => ?_) (fun c16 => ?_)
    · replace h := fl_if_t h c16
      exact j_136 _ _ _ _ _ _ _ _ h hP hS (lv_sub hl [1, 2, 3, 4, 7, 0] rfl)
    · replace h := fl_if_f h c16
      refine lv_iload hx hb dX0_reckonAs_93 (lv_at hl 5 rfl) ?_
      refine lv_iconst (v := (1 : Int32)) hx hb dX0_reckonAs_95 (by decide) ?_
      refine lv_icmp_ne (tgt := 103) hx hb dX0_reckonAs_96 (by decide) (fun c17 => ?_) (fun c17 => ?_)
      · replace h := fl_if_f h c17
        refine lv_iconst (v := (1 : Int32)) hx hb dX0_reckonAs_103 (by decide) ?_
        exact j_104 _ _ _ _ _ _ _ _ _ h hP hS (lv_sub hl [1, 2, 3, 4, 6, 7] rfl)
      · replace h := fl_if_t h c17
        refine lv_iconst (v := (3 : Int32)) hx hb dX0_reckonAs_99 (by decide) ?_
        refine lv_goto (tgt := 104) hx hb dX0_reckonAs_100 (by decide) ?_
        exact j_104 _ _ _ _ _ _ _ _ _ h hP hS (lv_sub hl [1, 2, 3, 4, 6, 7] rfl)
  have j_61 : ∀ (x2 : Int32) (x3 : Int32) (x4 : Int32) (x5 : Int32) (x6 : Int32) (m : Mem) (H : Heap) (locs : List Loc) (ls : Array Slot), J_X0_reckonAs_61 K0 K1 x2 x3 x4 x5 x6 m = some (v', M') → va_P D vwCl (fl_w L1 ca ad m) H → va_S (fl_A L1 ad) s.heap H locs → lv_has ls 9 [(0, .ref (ad K0)), (1, .ref (ad K1)), (2, .int x2), (3, .int x3), (4, .int x4), (5, .int x5), (6, .int x6)] → W p l e (fl_rm 2) s mm args below meth c H locs 0 0 (MQ below (fl_Q L1 D ca ad none M') args s 0 0 (fl_A L1 ad)) (F0 mm 61 ls [.ref (ad (K0 + 9))]) := by
    intro x2 x3 x4 x5 x6 m H locs ls h hP hS hl
    unfold J_X0_reckonAs_61 at h
    refine lv_iconst (v := (0 : Int32)) hx hb dX0_reckonAs_61 (by decide) ?_
    exact j_62 _ _ _ _ _ _ _ _ _ _ h hP hS (lv_sub hl [0, 1, 2, 3, 4, 5, 6] rfl)
  have j_57 : ∀ (x2 : Int32) (x3 : Int32) (x4 : Int32) (x5 : Int32) (x6 : Int32) (m : Mem) (H : Heap) (locs : List Loc) (ls : Array Slot), J_X0_reckonAs_57 K0 K1 x2 x3 x4 x5 x6 m = some (v', M') → va_P D vwCl (fl_w L1 ca ad m) H → va_S (fl_A L1 ad) s.heap H locs → lv_has ls 9 [(0, .ref (ad K0)), (1, .ref (ad K1)), (2, .int x2), (3, .int x3), (4, .int x4), (5, .int x5), (6, .int x6)] → W p l e (fl_rm 2) s mm args below meth c H locs 0 0 (MQ below (fl_Q L1 D ca ad none M') args s 0 0 (fl_A L1 ad)) (F0 mm 57 ls [.ref (ad (K0 + 9))]) := by
    intro x2 x3 x4 x5 x6 m H locs ls h hP hS hl
    unfold J_X0_reckonAs_57 at h
    refine lv_iconst (v := (1 : Int32)) hx hb dX0_reckonAs_57 (by decide) ?_
    refine lv_goto (tgt := 62) hx hb dX0_reckonAs_58 (by decide) ?_
    exact j_62 _ _ _ _ _ _ _ _ _ _ h hP hS (lv_sub hl [0, 1, 2, 3, 4, 5, 6] rfl)
  refine lv_aload_n hx hb dX0_reckonAs_0 rfl (lv_at hl 1 rfl) ?_
  refine fl_geti X hP fk_X0_87 hK1.1 rfl dX0_reckonAs_1 ?_
  refine lv_aload_n hx hb dX0_reckonAs_4 rfl (lv_at hl 1 rfl) ?_
  refine fl_getr X hP fk_X0_90 hK1.1 rfl dX0_reckonAs_5 ?_
  refine lv_iload_n hx hb dX0_reckonAs_8 rfl (lv_at hl 2 rfl) ?_
  obtain ⟨hk1, h⟩ := fl_ck_e h
  refine fl_iald X hP hK1.2.2.1 hk1 dX0_reckonAs_9 ?_
  refine va_mmax hx hb (hml.trans hl.1.symm) hown (hts _ wq_485) (hts _ wq_220) (hts _ wq_51) (hts _ wq_221) (fl_r1 (by omega)) (fl_r2 (by omega) (Nat.le_of_ble_eq_true rfl)) (Nat.le_refl 0) (Nat.le_refl 0) dX0_reckonAs_10 ?_
  refine lv_aload_n hx hb dX0_reckonAs_13 rfl (lv_at hl 0 rfl) ?_
  refine fl_getr X hP fk_X0_30 hK0.1 rfl dX0_reckonAs_14 ?_
  refine lv_iload_n hx hb dX0_reckonAs_17 rfl (lv_at hl 3 rfl) ?_
  obtain ⟨hk2, h⟩ := fl_ck_e h
  refine fl_iald X hP hK0.2.2.2.2.2.2.2.1 hk2 dX0_reckonAs_18 ?_
  refine va_mmax hx hb (hml.trans hl.1.symm) hown (hts _ wq_485) (hts _ wq_220) (hts _ wq_51) (hts _ wq_221) (fl_r1 (by omega)) (fl_r2 (by omega) (Nat.le_of_ble_eq_true rfl)) (Nat.le_refl 0) (Nat.le_refl 0) dX0_reckonAs_19 ?_
  refine lv_istore (lv' := [(6, .int (if (if (m.1 K1 0) < (m.1 (K1 + 2) (x2.toNatClampNeg)) then (m.1 (K1 + 2) (x2.toNatClampNeg)) else (m.1 K1 0)) < (m.1 (K0 + 7) (x3.toNatClampNeg)) then (m.1 (K0 + 7) (x3.toNatClampNeg)) else (if (m.1 K1 0) < (m.1 (K1 + 2) (x2.toNatClampNeg)) then (m.1 (K1 + 2) (x2.toNatClampNeg)) else (m.1 K1 0)))), (0, .ref (ad K0)), (1, .ref (ad K1)), (2, .int x2), (3, .int x3), (4, .int x4), (5, .int x5)]) hx hb dX0_reckonAs_22 hl (by decide) rfl (fun ls hl => ?_)
  refine lv_aload_n hx hb dX0_reckonAs_24 rfl (lv_at hl 1 rfl) ?_
  refine fl_getr X hP fk_X0_39 hK0.1 rfl dX0_reckonAs_25 ?_
  refine lv_iload hx hb dX0_reckonAs_28 (lv_at hl 6 rfl) ?_
  refine lv_bipush (v := (-4 : Int32)) hx hb dX0_reckonAs_30 (by decide) ?_
  refine lv_icmp_eq (tgt := 61) hx hb dX0_reckonAs_32 (by decide) (fun c3 => ?_) (fun c3 => ?_)
  · replace h := fl_if_t h c3
    exact j_61 _ _ _ _ _ _ _ _ _ h hP hS (lv_sub hl [1, 2, 3, 4, 5, 6, 0] rfl)
  · replace h := fl_if_f h c3
    refine lv_iload hx hb dX0_reckonAs_35 (lv_at hl 5 rfl) ?_
    refine lv_iconst (v := (2 : Int32)) hx hb dX0_reckonAs_37 (by decide) ?_
    refine lv_icmp_ne (tgt := 57) hx hb dX0_reckonAs_38 (by decide) (fun c4 => ?_) (fun c4 => ?_)
    · replace h := fl_if_f h c4
      exact j_57 _ _ _ _ _ _ _ _ _ h hP hS (lv_sub hl [1, 2, 3, 4, 5, 6, 0] rfl)
    · replace h := fl_if_t h c4
      refine lv_aload_n hx hb dX0_reckonAs_41 rfl (lv_at hl 1 rfl) ?_
      refine lv_aload_n hx hb dX0_reckonAs_42 rfl (lv_at hl 1 rfl) ?_
      refine fl_getr X hP fk_X0_24 hK0.1 rfl dX0_reckonAs_43 ?_
      refine lv_iload_n hx hb dX0_reckonAs_46 rfl (lv_at hl 4 rfl) ?_
      obtain ⟨hk5, h⟩ := fl_ck_e h
      refine fl_iald X hP hK0.2.2.2.2.2.1 hk5 dX0_reckonAs_47 ?_
      refine lv_iload hx hb dX0_reckonAs_48 (lv_at hl 6 rfl) ?_
      obtain ⟨r6, m7, hz8, h⟩ := fl_bd_e h
      refine fl_callV (av := [.int (m.1 (K0 + 5) (x3.toNatClampNeg)), .int x5]) X hP hS hl.1 mv_X0_93 (c_X0_steps l D ca ad hi K0 hK0 (m.1 (K0 + 5) (x3.toNatClampNeg)) x5 m _ _ hz8) hK0.1 (fl_fit_rm (by omega) (by decide)) rfl (Nat.le_of_ble_eq_true rfl) dX0_reckonAs_50 rfl (fun H locs hP hS => ?_)
      refine W.eq (g2 := F0 mm 53 ls [.int r6, .ref (ad (K0 + 9))]) rfl ?_
      refine lv_iconst (v := (3 : Int32)) hx hb dX0_reckonAs_53 (by decide) ?_
      refine lv_icmp_gt (tgt := 61) hx hb dX0_reckonAs_54 (by decide) (fun c9 => ?_) (fun c9 => ?_)
      · replace h := fl_if_t h c9
        exact j_61 _ _ _ _ _ _ _ _ _ h hP hS (lv_sub hl [1, 2, 3, 4, 5, 6, 0] rfl)
      · replace h := fl_if_f h c9
        exact j_57 _ _ _ _ _ _ _ _ _ h hP hS (lv_sub hl [1, 2, 3, 4, 5, 6, 0] rfl)

def f_X0_reckon (K0 : Nat) (K1 : Nat) (x2 : Int32) (x3 : Int32) (m : Mem) : Option (Int32 × Mem) :=
  fl_ck (0 ≤ x2.toInt ∧ x2.toInt < 3) (
    fl_ck (0 ≤ x2.toInt ∧ x2.toInt < 3) (
      fl_bd (f_X0_reckonAs K0 K1 x2 x3 (m.1 (K0 + 1) (x2.toNatClampNeg)) (m.1 (K1 + 3) (x2.toNatClampNeg)) m) (fun r3 m4 =>
        some ((0 : Int32), m4))))
set_option maxHeartbeats 4000000 in
set_option maxRecDepth 100000 in
theorem c_X0_reckon (l : Launch) (D : va_G) (ca : Nat → ClassId) (ad : Nat → Nat) (hi : fl_inj L1 ad) (K0 : Nat) (hK0 : isCity K0) (K1 : Nat) (hK1 : isStand K1) (x2 : Int32) (x3 : Int32) (m : Mem) (v' : Int32) (M' : Mem) (h : f_X0_reckon K0 K1 x2 x3 m = some (v', M')) : fl_M l L1 D ca ad yX0_reckon cX0_reckon 4 none 3 [.ref (ad K0), .ref (ad K1), .int x2, .int x3] m none M' := by
  unfold f_X0_reckon at h
  refine fl_ofW (by decide) hi (Nat.le_of_ble_eq_true rfl) ?_
  intro p e s mm args below meth c ls X hr hlk hP hl
  have hl : lv_has ls 4 [(0, .ref (ad K0)), (1, .ref (ad K1)), (2, .int x2), (3, .int x3)] := hl
  have X : fl_X p s mm args c cX0_reckon 4 RX0 L1 D ca ad := X
  obtain ⟨hx, hb, hml, hown, hts, hE, -⟩ := id X
  have hS : va_S (fl_A L1 ad) s.heap s.heap [] := va_S.rf
  refine lv_aload_n hx hb dX0_reckon_0 rfl (lv_at hl 0 rfl) ?_
  refine lv_aload_n hx hb dX0_reckon_1 rfl (lv_at hl 1 rfl) ?_
  refine lv_iload_n hx hb dX0_reckon_2 rfl (lv_at hl 2 rfl) ?_
  refine lv_iload_n hx hb dX0_reckon_3 rfl (lv_at hl 3 rfl) ?_
  refine lv_aload_n hx hb dX0_reckon_4 rfl (lv_at hl 0 rfl) ?_
  refine fl_getr X hP fk_X0_9 hK0.1 rfl dX0_reckon_5 ?_
  refine lv_iload_n hx hb dX0_reckon_8 rfl (lv_at hl 2 rfl) ?_
  obtain ⟨hk1, h⟩ := fl_ck_e h
  refine fl_iald X hP hK0.2.1 hk1 dX0_reckon_9 ?_
  refine lv_aload_n hx hb dX0_reckon_10 rfl (lv_at hl 1 rfl) ?_
  refine fl_getr X hP fk_X0_78 hK1.1 rfl dX0_reckon_11 ?_
  refine lv_iload_n hx hb dX0_reckon_14 rfl (lv_at hl 2 rfl) ?_
  obtain ⟨hk2, h⟩ := fl_ck_e h
  refine fl_iald X hP hK1.2.2.2.1 hk2 dX0_reckon_15 ?_
  obtain ⟨r3, m4, hz5, h⟩ := fl_bd_e h
  refine fl_callV (av := [.ref (ad K1), .int x2, .int x3, .int (m.1 (K0 + 1) (x2.toNatClampNeg)), .int (m.1 (K1 + 3) (x2.toNatClampNeg))]) X hP hS hl.1 mv_X0_83 (c_X0_reckonAs l D ca ad hi K0 hK0 K1 hK1 x2 x3 (m.1 (K0 + 1) (x2.toNatClampNeg)) (m.1 (K1 + 3) (x2.toNatClampNeg)) m _ _ hz5) hK0.1 (fl_fit_rm (by omega) (by decide)) rfl (Nat.le_of_ble_eq_true rfl) dX0_reckon_16 rfl (fun H locs hP hS => ?_)
  refine W.eq (g2 := F0 mm 19 ls []) rfl ?_
  exact fl_vret X hr hlk hP hS dX0_reckon_19 h

def J_X0_nearest_56 (N : Nat) (K0 : Nat) (K1 : Nat) (F : Int32 → Int32 → Int32 → Int32 → Mem → Option (Int32 × Mem)) (x2 : Int32) (x5 : Int32) (m : Mem) : Option (Int32 × Mem) :=
  F x2 x5 (m.1 (K0 + 9) 1) (x5 + 1) m
def B_X0_nearest_8 (N : Nat) (K0 : Nat) (K1 : Nat) (F : Int32 → Int32 → Int32 → Int32 → Mem → Option (Int32 × Mem)) (x2 : Int32) (x3 : Int32) (x4 : Int32) (x5 : Int32) (m : Mem) : Option (Int32 × Mem) :=
  if (m.1 K0 2) ≤ x5 then (
    some (x3, m))
  else (
    fl_ck (0 ≤ x5.toInt ∧ x5.toInt < 3) (
      fl_ck (0 ≤ x5.toInt ∧ x5.toInt < 3) (
        fl_bd (f_X0_reckonAs K0 K1 x5 x2 (m.1 (K0 + 1) (x5.toNatClampNeg)) (m.1 (K1 + 3) (x5.toNatClampNeg)) m) (fun r4 m5 =>
          if x5 = 0 then (
            J_X0_nearest_56 N K0 K1 F x2 x5 m5)
          else (
            if x4 ≤ (m5.1 (K0 + 9) 1) then (
              F x2 x3 x4 (x5 + 1) m5)
            else (
              J_X0_nearest_56 N K0 K1 F x2 x5 m5))))))
def l_X0_nearest (N : Nat) (K0 : Nat) (K1 : Nat) : Nat → Int32 → Int32 → Int32 → Int32 → Mem → Option (Int32 × Mem)
  | 0 => fun _ _ _ _ _ => none
  | n + 1 => fun x2 x3 x4 x5 m => B_X0_nearest_8 N K0 K1 (l_X0_nearest N K0 K1 n) x2 x3 x4 x5 m
def f_X0_nearest (N : Nat) (K0 : Nat) (K1 : Nat) (x2 : Int32) (m : Mem) : Option (Int32 × Mem) :=
  (l_X0_nearest N K0 K1 N) x2 (0 : Int32) (0 : Int32) (0 : Int32) m
set_option maxHeartbeats 4000000 in
set_option maxRecDepth 100000 in
theorem c_X0_nearest (l : Launch) (D : va_G) (ca : Nat → ClassId) (ad : Nat → Nat) (hi : fl_inj L1 ad) (N : Nat) (K0 : Nat) (hK0 : isCity K0) (K1 : Nat) (hK1 : isStand K1) (x2 : Int32) (m : Mem) (v' : Int32) (M' : Mem) (h : f_X0_nearest N K0 K1 x2 m = some (v', M')) : fl_M l L1 D ca ad yX0_nearest cX0_nearest 6 (some .int) 3 [.ref (ad K0), .ref (ad K1), .int x2] m (some (.int v')) M' := by
  unfold f_X0_nearest at h
  refine fl_ofW (by decide) hi (Nat.le_of_ble_eq_true rfl) ?_
  intro p e s mm args below meth c ls X hr hlk hP hl
  have hl : lv_has ls 6 [(0, .ref (ad K0)), (1, .ref (ad K1)), (2, .int x2)] := hl
  have X : fl_X p s mm args c cX0_nearest 6 RX0 L1 D ca ad := X
  obtain ⟨hx, hb, hml, hown, hts, hE, -⟩ := id X
  have hS : va_S (fl_A L1 ad) s.heap s.heap [] := va_S.rf
  have js : ∀ n : Nat, ((∀ (x2 : Int32) (x3 : Int32) (x4 : Int32) (x5 : Int32) (m : Mem) (H : Heap) (locs : List Loc) (ls : Array Slot), l_X0_nearest N K0 K1 n x2 x3 x4 x5 m = some (v', M') → va_P D vwCl (fl_w L1 ca ad m) H → va_S (fl_A L1 ad) s.heap H locs → lv_has ls 6 [(0, .ref (ad K0)), (1, .ref (ad K1)), (2, .int x2), (3, .int x3), (4, .int x4), (5, .int x5)] → W p l e (fl_rm 3) s mm args below meth c H locs 0 0 (MQ below (fl_Q L1 D ca ad (some (.int v')) M') args s 0 0 (fl_A L1 ad)) (F0 mm 8 ls []))) → (∀ (x2 : Int32) (x5 : Int32) (m : Mem) (H : Heap) (locs : List Loc) (ls : Array Slot), J_X0_nearest_56 N K0 K1 (l_X0_nearest N K0 K1 n) x2 x5 m = some (v', M') → va_P D vwCl (fl_w L1 ca ad m) H → va_S (fl_A L1 ad) s.heap H locs → lv_has ls 6 [(0, .ref (ad K0)), (1, .ref (ad K1)), (2, .int x2), (5, .int x5)] → W p l e (fl_rm 3) s mm args below meth c H locs 0 0 (MQ below (fl_Q L1 D ca ad (some (.int v')) M') args s 0 0 (fl_A L1 ad)) (F0 mm 56 ls [])) := by
    intro n ih
    have ih_8 := ih
    have j_56 : ∀ (x2 : Int32) (x5 : Int32) (m : Mem) (H : Heap) (locs : List Loc) (ls : Array Slot), J_X0_nearest_56 N K0 K1 (l_X0_nearest N K0 K1 n) x2 x5 m = some (v', M') → va_P D vwCl (fl_w L1 ca ad m) H → va_S (fl_A L1 ad) s.heap H locs → lv_has ls 6 [(0, .ref (ad K0)), (1, .ref (ad K1)), (2, .int x2), (5, .int x5)] → W p l e (fl_rm 3) s mm args below meth c H locs 0 0 (MQ below (fl_Q L1 D ca ad (some (.int v')) M') args s 0 0 (fl_A L1 ad)) (F0 mm 56 ls []) := by
      intro x2 x5 m H locs ls h hP hS hl
      unfold J_X0_nearest_56 at h
      refine lv_iload hx hb dX0_nearest_56 (lv_at hl 3 rfl) ?_
      refine lv_istore_n (lv' := [(3, .int x5), (0, .ref (ad K0)), (1, .ref (ad K1)), (2, .int x2), (5, .int x5)]) hx hb dX0_nearest_58 rfl hl (by decide) rfl (fun ls hl => ?_)
      refine lv_aload_n hx hb dX0_nearest_59 rfl (lv_at hl 1 rfl) ?_
      refine fl_getr X hP fk_X0_39 hK0.1 rfl dX0_nearest_60 ?_
      refine fl_geti X hP fk_X0_105 hK0.2.2.2.2.2.2.2.2.2 rfl dX0_nearest_63 ?_
      refine lv_istore (lv' := [(4, .int (m.1 (K0 + 9) 1)), (3, .int x5), (0, .ref (ad K0)), (1, .ref (ad K1)), (2, .int x2), (5, .int x5)]) hx hb dX0_nearest_66 hl (by decide) rfl (fun ls hl => ?_)
      refine lv_iinc (v := x5 + 1) (lv' := [(5, .int (x5 + 1)), (4, .int (m.1 (K0 + 9) 1)), (3, .int x5), (0, .ref (ad K0)), (1, .ref (ad K1)), (2, .int x2)]) hx hb dX0_nearest_68 hl (k := 5) rfl rfl (by decide) rfl (fun ls hl => ?_)
      refine lv_goto (tgt := 8) hx hb dX0_nearest_71 (by decide) ?_
      exact ih_8 _ _ _ _ _ _ _ _ h hP hS (lv_sub hl [3, 4, 5, 2, 1, 0] rfl)
    exact j_56
  have key : ∀ n : Nat, (∀ (x2 : Int32) (x3 : Int32) (x4 : Int32) (x5 : Int32) (m : Mem) (H : Heap) (locs : List Loc) (ls : Array Slot), l_X0_nearest N K0 K1 n x2 x3 x4 x5 m = some (v', M') → va_P D vwCl (fl_w L1 ca ad m) H → va_S (fl_A L1 ad) s.heap H locs → lv_has ls 6 [(0, .ref (ad K0)), (1, .ref (ad K1)), (2, .int x2), (3, .int x3), (4, .int x4), (5, .int x5)] → W p l e (fl_rm 3) s mm args below meth c H locs 0 0 (MQ below (fl_Q L1 D ca ad (some (.int v')) M') args s 0 0 (fl_A L1 ad)) (F0 mm 8 ls [])) := by
    intro n
    induction n with
    | zero =>
      skip
      · intro x2 x3 x4 x5 m H locs ls h hP hS hl
        have h : (none : Option (Int32 × Mem)) = some (v', M') := h
        cases h
    | succ n ih =>
      have ih_8 := ih
      have j_56 := js n ih_8
      skip
      · intro x2 x3 x4 x5 m H locs ls h hP hS hl
        have h : B_X0_nearest_8 N K0 K1 (l_X0_nearest N K0 K1 n) x2 x3 x4 x5 m = some (v', M') := h
        unfold B_X0_nearest_8 at h
        refine lv_iload hx hb dX0_nearest_8 (lv_at hl 5 rfl) ?_
        refine lv_aload_n hx hb dX0_nearest_10 rfl (lv_at hl 0 rfl) ?_
        refine fl_geti X hP fk_X0_50 hK0.1 rfl dX0_nearest_11 ?_
        refine lv_icmp_ge (tgt := 74) hx hb dX0_nearest_14 (by decide) (fun c1 => ?_) (fun c1 => ?_)
        · replace h := fl_if_t h c1
          refine lv_iload_n hx hb dX0_nearest_74 rfl (lv_at hl 3 rfl) ?_
          exact fl_iret X hr hlk hP hS dX0_nearest_75 h
        · replace h := fl_if_f h c1
          refine lv_aload_n hx hb dX0_nearest_17 rfl (lv_at hl 0 rfl) ?_
          refine lv_aload_n hx hb dX0_nearest_18 rfl (lv_at hl 1 rfl) ?_
          refine lv_iload hx hb dX0_nearest_19 (lv_at hl 5 rfl) ?_
          refine lv_iload_n hx hb dX0_nearest_21 rfl (lv_at hl 2 rfl) ?_
          refine lv_aload_n hx hb dX0_nearest_22 rfl (lv_at hl 0 rfl) ?_
          refine fl_getr X hP fk_X0_9 hK0.1 rfl dX0_nearest_23 ?_
          refine lv_iload hx hb dX0_nearest_26 (lv_at hl 5 rfl) ?_
          obtain ⟨hk2, h⟩ := fl_ck_e h
          refine fl_iald X hP hK0.2.1 hk2 dX0_nearest_28 ?_
          refine lv_aload_n hx hb dX0_nearest_29 rfl (lv_at hl 1 rfl) ?_
          refine fl_getr X hP fk_X0_78 hK1.1 rfl dX0_nearest_30 ?_
          refine lv_iload hx hb dX0_nearest_33 (lv_at hl 5 rfl) ?_
          obtain ⟨hk3, h⟩ := fl_ck_e h
          refine fl_iald X hP hK1.2.2.2.1 hk3 dX0_nearest_35 ?_
          obtain ⟨r4, m5, hz6, h⟩ := fl_bd_e h
          refine fl_callV (av := [.ref (ad K1), .int x5, .int x2, .int (m.1 (K0 + 1) (x5.toNatClampNeg)), .int (m.1 (K1 + 3) (x5.toNatClampNeg))]) X hP hS hl.1 mv_X0_83 (c_X0_reckonAs l D ca ad hi K0 hK0 K1 hK1 x5 x2 (m.1 (K0 + 1) (x5.toNatClampNeg)) (m.1 (K1 + 3) (x5.toNatClampNeg)) m _ _ hz6) hK0.1 (fl_fit_rm (by omega) (by decide)) rfl (Nat.le_of_ble_eq_true rfl) dX0_nearest_36 rfl (fun H locs hP hS => ?_)
          refine W.eq (g2 := F0 mm 39 ls []) rfl ?_
          refine lv_iload hx hb dX0_nearest_39 (lv_at hl 5 rfl) ?_
          refine lv_if_eq (tgt := 56) hx hb dX0_nearest_41 (by decide) (fun c7 => ?_) (fun c7 => ?_)
          · replace h := fl_if_t h c7
            exact j_56 _ _ _ _ _ _ h hP hS (lv_sub hl [0, 1, 2, 5] rfl)
          · replace h := fl_if_f h c7
            refine lv_aload_n hx hb dX0_nearest_44 rfl (lv_at hl 0 rfl) ?_
            refine fl_getr X hP fk_X0_39 hK0.1 rfl dX0_nearest_45 ?_
            refine fl_geti X hP fk_X0_105 hK0.2.2.2.2.2.2.2.2.2 rfl dX0_nearest_48 ?_
            refine lv_iload hx hb dX0_nearest_51 (lv_at hl 4 rfl) ?_
            refine lv_icmp_ge (tgt := 68) hx hb dX0_nearest_53 (by decide) (fun c8 => ?_) (fun c8 => ?_)
            · replace h := fl_if_t h c8
              refine lv_iinc (v := x5 + 1) (lv' := [(5, .int (x5 + 1)), (0, .ref (ad K0)), (1, .ref (ad K1)), (2, .int x2), (3, .int x3), (4, .int x4)]) hx hb dX0_nearest_68 hl (k := 5) rfl rfl (by decide) rfl (fun ls hl => ?_)
              refine lv_goto (tgt := 8) hx hb dX0_nearest_71 (by decide) ?_
              exact ih_8 _ _ _ _ _ _ _ _ h hP hS (lv_sub hl [1, 2, 3, 4, 5, 0] rfl)
            · replace h := fl_if_f h c8
              exact j_56 _ _ _ _ _ _ h hP hS (lv_sub hl [0, 1, 2, 5] rfl)
  have ih_8 := key N
  have j_56 := js N ih_8
  refine lv_iconst (v := (0 : Int32)) hx hb dX0_nearest_0 (by decide) ?_
  refine lv_istore_n (lv' := [(3, .int (0 : Int32)), (0, .ref (ad K0)), (1, .ref (ad K1)), (2, .int x2)]) hx hb dX0_nearest_1 rfl hl (by decide) rfl (fun ls hl => ?_)
  refine lv_iconst (v := (0 : Int32)) hx hb dX0_nearest_2 (by decide) ?_
  refine lv_istore (lv' := [(4, .int (0 : Int32)), (3, .int (0 : Int32)), (0, .ref (ad K0)), (1, .ref (ad K1)), (2, .int x2)]) hx hb dX0_nearest_3 hl (by decide) rfl (fun ls hl => ?_)
  refine lv_iconst (v := (0 : Int32)) hx hb dX0_nearest_5 (by decide) ?_
  refine lv_istore (lv' := [(5, .int (0 : Int32)), (4, .int (0 : Int32)), (3, .int (0 : Int32)), (0, .ref (ad K0)), (1, .ref (ad K1)), (2, .int x2)]) hx hb dX0_nearest_6 hl (by decide) rfl (fun ls hl => ?_)
  exact ih_8 _ _ _ _ _ _ _ _ h hP hS (lv_sub hl [3, 4, 5, 2, 1, 0] rfl)

def J_X0_settle_85 (K0 : Nat) (K1 : Nat) (x2 : Int32) (x3 : Int32) (x4 : Int32) (m : Mem) : Option (Int32 × Mem) :=
  if x4 = 0 then (
    some ((0 : Int32), m))
  else (
    fl_ck (0 ≤ x3.toInt ∧ x3.toInt < 7) (
      fl_ck (0 ≤ x2.toInt ∧ x2.toInt < 3) (
        some ((0 : Int32), mI m (K1 + 3) (x2.toNatClampNeg) (m.1 (K0 + 6) (x3.toNatClampNeg))))))
def J_X0_settle_53 (K0 : Nat) (K1 : Nat) (x2 : Int32) (x3 : Int32) (x4 : Int32) (t1 : Int32) (t2 : Int32) (m : Mem) : Option (Int32 × Mem) :=
  fl_ck (0 ≤ t1.toInt ∧ t1.toInt < 7) (
    fl_ck (0 ≤ x3.toInt ∧ x3.toInt < 7) (
      if ((mI m (K1 + 5) (t1.toNatClampNeg) t2).1 (K0 + 4) (x3.toNatClampNeg)) = (3 : Int32) then (
        if ((mI m (K1 + 5) (t1.toNatClampNeg) t2).1 (K0 + 9) 3) = 0 then (
          J_X0_settle_85 K0 K1 x2 x3 x4 (mI m (K1 + 5) (t1.toNatClampNeg) t2))
        else (
          fl_ck (0 ≤ x2.toInt ∧ x2.toInt < 3) (
            some ((0 : Int32), mI (mI m (K1 + 5) (t1.toNatClampNeg) t2) (K1 + 3) (x2.toNatClampNeg) (-4 : Int32)))))
      else (
        J_X0_settle_85 K0 K1 x2 x3 x4 (mI m (K1 + 5) (t1.toNatClampNeg) t2))))
def f_X0_settle (K0 : Nat) (K1 : Nat) (x2 : Int32) (x3 : Int32) (x4 : Int32) (m : Mem) : Option (Int32 × Mem) :=
  fl_ck (0 ≤ x3.toInt ∧ x3.toInt < 7) (
    fl_ck (0 ≤ x2.toInt ∧ x2.toInt < 3) (
      fl_ck (0 ≤ x2.toInt ∧ x2.toInt < 3) (
        fl_ck (0 ≤ x3.toInt ∧ x3.toInt < 7) (
          if x4 = 0 then (
            J_X0_settle_53 K0 K1 x2 x3 x4 x3 (0 : Int32) (mI (mI (mI m (K1 + 1) (x2.toNatClampNeg) (m.1 (K0 + 6) (x3.toNatClampNeg))) (K1 + 2) (x2.toNatClampNeg) ((mI m (K1 + 1) (x2.toNatClampNeg) (m.1 (K0 + 6) (x3.toNatClampNeg))).1 (K0 + 9) 0)) (K1 + 4) (x3.toNatClampNeg) ((mI (mI m (K1 + 1) (x2.toNatClampNeg) (m.1 (K0 + 6) (x3.toNatClampNeg))) (K1 + 2) (x2.toNatClampNeg) ((mI m (K1 + 1) (x2.toNatClampNeg) (m.1 (K0 + 6) (x3.toNatClampNeg))).1 (K0 + 9) 0)).1 (K0 + 9) 1)))
          else (
            J_X0_settle_53 K0 K1 x2 x3 x4 x3 (1 : Int32) (mI (mI (mI m (K1 + 1) (x2.toNatClampNeg) (m.1 (K0 + 6) (x3.toNatClampNeg))) (K1 + 2) (x2.toNatClampNeg) ((mI m (K1 + 1) (x2.toNatClampNeg) (m.1 (K0 + 6) (x3.toNatClampNeg))).1 (K0 + 9) 0)) (K1 + 4) (x3.toNatClampNeg) ((mI (mI m (K1 + 1) (x2.toNatClampNeg) (m.1 (K0 + 6) (x3.toNatClampNeg))) (K1 + 2) (x2.toNatClampNeg) ((mI m (K1 + 1) (x2.toNatClampNeg) (m.1 (K0 + 6) (x3.toNatClampNeg))).1 (K0 + 9) 0)).1 (K0 + 9) 1)))))))
set_option maxHeartbeats 4000000 in
set_option maxRecDepth 100000 in
theorem c_X0_settle (l : Launch) (D : va_G) (ca : Nat → ClassId) (ad : Nat → Nat) (hi : fl_inj L1 ad) (K0 : Nat) (hK0 : isCity K0) (K1 : Nat) (hK1 : isStand K1) (x2 : Int32) (x3 : Int32) (x4 : Int32) (m : Mem) (v' : Int32) (M' : Mem) (h : f_X0_settle K0 K1 x2 x3 x4 m = some (v', M')) : fl_M l L1 D ca ad yX0_settle cX0_settle 5 none 1 [.ref (ad K0), .ref (ad K1), .int x2, .int x3, .int x4] m none M' := by
  unfold f_X0_settle at h
  refine fl_ofW (by decide) hi (Nat.le_of_ble_eq_true rfl) ?_
  intro p e s mm args below meth c ls X hr hlk hP hl
  have hl : lv_has ls 5 [(0, .ref (ad K0)), (1, .ref (ad K1)), (2, .int x2), (3, .int x3), (4, .int x4)] := hl
  have X : fl_X p s mm args c cX0_settle 5 RX0 L1 D ca ad := X
  obtain ⟨hx, hb, hml, hown, hts, hE, -⟩ := id X
  have hS : va_S (fl_A L1 ad) s.heap s.heap [] := va_S.rf
  have j_85 : ∀ (x2 : Int32) (x3 : Int32) (x4 : Int32) (m : Mem) (H : Heap) (locs : List Loc) (ls : Array Slot), J_X0_settle_85 K0 K1 x2 x3 x4 m = some (v', M') → va_P D vwCl (fl_w L1 ca ad m) H → va_S (fl_A L1 ad) s.heap H locs → lv_has ls 5 [(0, .ref (ad K0)), (1, .ref (ad K1)), (2, .int x2), (3, .int x3), (4, .int x4)] → W p l e (fl_rm 1) s mm args below meth c H locs 0 0 (MQ below (fl_Q L1 D ca ad none M') args s 0 0 (fl_A L1 ad)) (F0 mm 85 ls []) := by
    intro x2 x3 x4 m H locs ls h hP hS hl
    unfold J_X0_settle_85 at h
    refine lv_iload hx hb dX0_settle_85 (lv_at hl 4 rfl) ?_
    refine lv_if_eq (tgt := 102) hx hb dX0_settle_87 (by decide) (fun c11 => ?_) (fun c11 => ?_)
    · replace h := fl_if_t h c11
      exact fl_vret X hr hlk hP hS dX0_settle_102 h
    · replace h := fl_if_f h c11
      refine lv_aload_n hx hb dX0_settle_90 rfl (lv_at hl 1 rfl) ?_
      refine fl_getr X hP fk_X0_78 hK1.1 rfl dX0_settle_91 ?_
      refine lv_iload_n hx hb dX0_settle_94 rfl (lv_at hl 2 rfl) ?_
      refine lv_aload_n hx hb dX0_settle_95 rfl (lv_at hl 0 rfl) ?_
      refine fl_getr X hP fk_X0_27 hK0.1 rfl dX0_settle_96 ?_
      refine lv_iload_n hx hb dX0_settle_99 rfl (lv_at hl 3 rfl) ?_
      obtain ⟨hk12, h⟩ := fl_ck_e h
      refine fl_iald X hP hK0.2.2.2.2.2.2.1 hk12 dX0_settle_100 ?_
      obtain ⟨hk13, h⟩ := fl_ck_e h
      refine fl_iast X hP hS hK1.2.2.2.1 hk13 dX0_settle_101 (fun H locs hP hS => ?_)
      have hP : va_P D vwCl (fl_w L1 ca ad (mI m (K1 + 3) (x2.toNatClampNeg) (m.1 (K0 + 6) (x3.toNatClampNeg)))) H := hP
      exact fl_vret X hr hlk hP hS dX0_settle_102 h
  have j_53 : ∀ (x2 : Int32) (x3 : Int32) (x4 : Int32) (t1 : Int32) (t2 : Int32) (m : Mem) (H : Heap) (locs : List Loc) (ls : Array Slot), J_X0_settle_53 K0 K1 x2 x3 x4 t1 t2 m = some (v', M') → va_P D vwCl (fl_w L1 ca ad m) H → va_S (fl_A L1 ad) s.heap H locs → lv_has ls 5 [(0, .ref (ad K0)), (1, .ref (ad K1)), (2, .int x2), (3, .int x3), (4, .int x4)] → W p l e (fl_rm 1) s mm args below meth c H locs 0 0 (MQ below (fl_Q L1 D ca ad none M') args s 0 0 (fl_A L1 ad)) (F0 mm 53 ls [.int t2, .int t1, .ref (ad (K1 + 5))]) := by
    intro x2 x3 x4 t1 t2 m H locs ls h hP hS hl
    unfold J_X0_settle_53 at h
    obtain ⟨hk6, h⟩ := fl_ck_e h
    refine fl_iast X hP hS hK1.2.2.2.2.2 hk6 dX0_settle_53 (fun H locs hP hS => ?_)
    have hP : va_P D vwCl (fl_w L1 ca ad (mI m (K1 + 5) (t1.toNatClampNeg) t2)) H := hP
    refine lv_aload_n hx hb dX0_settle_54 rfl (lv_at hl 0 rfl) ?_
    refine fl_getr X hP fk_X0_21 hK0.1 rfl dX0_settle_55 ?_
    refine lv_iload_n hx hb dX0_settle_58 rfl (lv_at hl 3 rfl) ?_
    obtain ⟨hk7, h⟩ := fl_ck_e h
    refine fl_iald X hP hK0.2.2.2.2.1 hk7 dX0_settle_59 ?_
    refine lv_iconst (v := (3 : Int32)) hx hb dX0_settle_60 (by decide) ?_
    refine lv_icmp_ne (tgt := 85) hx hb dX0_settle_61 (by decide) (fun c8 => ?_) (fun c8 => ?_)
    · replace h := fl_if_f h c8
      exact j_85 _ _ _ _ _ _ _ h hP hS (lv_sub hl [0, 1, 2, 3, 4] rfl)
    · replace h := fl_if_t h c8
      refine lv_aload_n hx hb dX0_settle_64 rfl (lv_at hl 0 rfl) ?_
      refine fl_getr X hP fk_X0_39 hK0.1 rfl dX0_settle_65 ?_
      refine fl_geti X hP fk_X0_96 hK0.2.2.2.2.2.2.2.2.2 rfl dX0_settle_68 ?_
      refine lv_if_eq (tgt := 85) hx hb dX0_settle_71 (by decide) (fun c9 => ?_) (fun c9 => ?_)
      · replace h := fl_if_t h c9
        exact j_85 _ _ _ _ _ _ _ h hP hS (lv_sub hl [0, 1, 2, 3, 4] rfl)
      · replace h := fl_if_f h c9
        refine lv_aload_n hx hb dX0_settle_74 rfl (lv_at hl 1 rfl) ?_
        refine fl_getr X hP fk_X0_78 hK1.1 rfl dX0_settle_75 ?_
        refine lv_iload_n hx hb dX0_settle_78 rfl (lv_at hl 2 rfl) ?_
        refine lv_bipush (v := (-4 : Int32)) hx hb dX0_settle_79 (by decide) ?_
        obtain ⟨hk10, h⟩ := fl_ck_e h
        refine fl_iast X hP hS hK1.2.2.2.1 hk10 dX0_settle_81 (fun H locs hP hS => ?_)
        have hP : va_P D vwCl (fl_w L1 ca ad (mI (mI m (K1 + 5) (t1.toNatClampNeg) t2) (K1 + 3) (x2.toNatClampNeg) (-4 : Int32))) H := hP
        refine lv_goto (tgt := 102) hx hb dX0_settle_82 (by decide) ?_
        exact fl_vret X hr hlk hP hS dX0_settle_102 h
  refine lv_aload_n hx hb dX0_settle_0 rfl (lv_at hl 1 rfl) ?_
  refine fl_getr X hP fk_X0_100 hK1.1 rfl dX0_settle_1 ?_
  refine lv_iload_n hx hb dX0_settle_4 rfl (lv_at hl 2 rfl) ?_
  refine lv_aload_n hx hb dX0_settle_5 rfl (lv_at hl 0 rfl) ?_
  refine fl_getr X hP fk_X0_27 hK0.1 rfl dX0_settle_6 ?_
  refine lv_iload_n hx hb dX0_settle_9 rfl (lv_at hl 3 rfl) ?_
  obtain ⟨hk1, h⟩ := fl_ck_e h
  refine fl_iald X hP hK0.2.2.2.2.2.2.1 hk1 dX0_settle_10 ?_
  obtain ⟨hk2, h⟩ := fl_ck_e h
  refine fl_iast X hP hS hK1.2.1 hk2 dX0_settle_11 (fun H locs hP hS => ?_)
  have hP : va_P D vwCl (fl_w L1 ca ad (mI m (K1 + 1) (x2.toNatClampNeg) (m.1 (K0 + 6) (x3.toNatClampNeg)))) H := hP
  refine lv_aload_n hx hb dX0_settle_12 rfl (lv_at hl 1 rfl) ?_
  refine fl_getr X hP fk_X0_90 hK1.1 rfl dX0_settle_13 ?_
  refine lv_iload_n hx hb dX0_settle_16 rfl (lv_at hl 2 rfl) ?_
  refine lv_aload_n hx hb dX0_settle_17 rfl (lv_at hl 0 rfl) ?_
  refine fl_getr X hP fk_X0_39 hK0.1 rfl dX0_settle_18 ?_
  refine fl_geti X hP fk_X0_103 hK0.2.2.2.2.2.2.2.2.2 rfl dX0_settle_21 ?_
  obtain ⟨hk3, h⟩ := fl_ck_e h
  refine fl_iast X hP hS hK1.2.2.1 hk3 dX0_settle_24 (fun H locs hP hS => ?_)
  have hP : va_P D vwCl (fl_w L1 ca ad (mI (mI m (K1 + 1) (x2.toNatClampNeg) (m.1 (K0 + 6) (x3.toNatClampNeg))) (K1 + 2) (x2.toNatClampNeg) ((mI m (K1 + 1) (x2.toNatClampNeg) (m.1 (K0 + 6) (x3.toNatClampNeg))).1 (K0 + 9) 0))) H := hP
  refine lv_aload_n hx hb dX0_settle_25 rfl (lv_at hl 1 rfl) ?_
  refine fl_getr X hP fk_X0_111 hK1.1 rfl dX0_settle_26 ?_
  refine lv_iload_n hx hb dX0_settle_29 rfl (lv_at hl 3 rfl) ?_
  refine lv_aload_n hx hb dX0_settle_30 rfl (lv_at hl 0 rfl) ?_
  refine fl_getr X hP fk_X0_39 hK0.1 rfl dX0_settle_31 ?_
  refine fl_geti X hP fk_X0_105 hK0.2.2.2.2.2.2.2.2.2 rfl dX0_settle_34 ?_
  obtain ⟨hk4, h⟩ := fl_ck_e h
  refine fl_iast X hP hS hK1.2.2.2.2.1 hk4 dX0_settle_37 (fun H locs hP hS => ?_)
  have hP : va_P D vwCl (fl_w L1 ca ad (mI (mI (mI m (K1 + 1) (x2.toNatClampNeg) (m.1 (K0 + 6) (x3.toNatClampNeg))) (K1 + 2) (x2.toNatClampNeg) ((mI m (K1 + 1) (x2.toNatClampNeg) (m.1 (K0 + 6) (x3.toNatClampNeg))).1 (K0 + 9) 0)) (K1 + 4) (x3.toNatClampNeg) ((mI (mI m (K1 + 1) (x2.toNatClampNeg) (m.1 (K0 + 6) (x3.toNatClampNeg))) (K1 + 2) (x2.toNatClampNeg) ((mI m (K1 + 1) (x2.toNatClampNeg) (m.1 (K0 + 6) (x3.toNatClampNeg))).1 (K0 + 9) 0)).1 (K0 + 9) 1))) H := hP
  refine lv_aload_n hx hb dX0_settle_38 rfl (lv_at hl 1 rfl) ?_
  refine fl_getr X hP fk_X0_113 hK1.1 rfl dX0_settle_39 ?_
  refine lv_iload_n hx hb dX0_settle_42 rfl (lv_at hl 3 rfl) ?_
  refine lv_iload hx hb dX0_settle_43 (lv_at hl 4 rfl) ?_
  refine lv_if_eq (tgt := 52) hx hb dX0_settle_45 (by decide) (fun c5 => ?_) (fun c5 => ?_)
  · replace h := fl_if_t h c5
    refine lv_iconst (v := (0 : Int32)) hx hb dX0_settle_52 (by decide) ?_
    exact j_53 _ _ _ _ _ _ _ _ _ h hP hS (lv_sub hl [0, 1, 2, 3, 4] rfl)
  · replace h := fl_if_f h c5
    refine lv_iconst (v := (1 : Int32)) hx hb dX0_settle_48 (by decide) ?_
    refine lv_goto (tgt := 53) hx hb dX0_settle_49 (by decide) ?_
    exact j_53 _ _ _ _ _ _ _ _ _ h hP hS (lv_sub hl [0, 1, 2, 3, 4] rfl)

def f_X0_drive (K0 : Nat) (K1 : Nat) (x2 : Int32) (x3 : Int32) (m : Mem) : Option (Int32 × Mem) :=
  fl_bd (f_X0_reckon K0 K1 x2 x3 m) (fun r1 m2 =>
    fl_bd (f_X0_settle K0 K1 x2 x3 (m2.1 (K0 + 9) 2) m2) (fun r4 m5 =>
      fl_ck ((m2.1 (K0 + 9) 2) = 0 ∨ (m2.1 (K0 + 9) 2) = 1) (
        some (m2.1 (K0 + 9) 2, m5))))
set_option maxHeartbeats 4000000 in
set_option maxRecDepth 100000 in
theorem c_X0_drive (l : Launch) (D : va_G) (ca : Nat → ClassId) (ad : Nat → Nat) (hi : fl_inj L1 ad) (K0 : Nat) (hK0 : isCity K0) (K1 : Nat) (hK1 : isStand K1) (x2 : Int32) (x3 : Int32) (m : Mem) (v' : Int32) (M' : Mem) (h : f_X0_drive K0 K1 x2 x3 m = some (v', M')) : fl_M l L1 D ca ad yX0_drive cX0_drive 5 (some .boolean) 4 [.ref (ad K0), .ref (ad K1), .int x2, .int x3] m (some (.int v')) M' := by
  unfold f_X0_drive at h
  refine fl_ofW (by decide) hi (Nat.le_of_ble_eq_true rfl) ?_
  intro p e s mm args below meth c ls X hr hlk hP hl
  have hl : lv_has ls 5 [(0, .ref (ad K0)), (1, .ref (ad K1)), (2, .int x2), (3, .int x3)] := hl
  have X : fl_X p s mm args c cX0_drive 5 RX0 L1 D ca ad := X
  obtain ⟨hx, hb, hml, hown, hts, hE, -⟩ := id X
  have hS : va_S (fl_A L1 ad) s.heap s.heap [] := va_S.rf
  refine lv_aload_n hx hb dX0_drive_0 rfl (lv_at hl 0 rfl) ?_
  refine lv_aload_n hx hb dX0_drive_1 rfl (lv_at hl 1 rfl) ?_
  refine lv_iload_n hx hb dX0_drive_2 rfl (lv_at hl 2 rfl) ?_
  refine lv_iload_n hx hb dX0_drive_3 rfl (lv_at hl 3 rfl) ?_
  obtain ⟨r1, m2, hz3, h⟩ := fl_bd_e h
  refine fl_callV (av := [.ref (ad K1), .int x2, .int x3]) X hP hS hl.1 mv_X0_116 (c_X0_reckon l D ca ad hi K0 hK0 K1 hK1 x2 x3 m _ _ hz3) hK0.1 (fl_fit_rm (by omega) (by decide)) rfl (Nat.le_of_ble_eq_true rfl) dX0_drive_4 rfl (fun H locs hP hS => ?_)
  refine W.eq (g2 := F0 mm 7 ls []) rfl ?_
  refine lv_aload_n hx hb dX0_drive_7 rfl (lv_at hl 0 rfl) ?_
  refine fl_getr X hP fk_X0_39 hK0.1 rfl dX0_drive_8 ?_
  refine fl_geti X hP fk_X0_108 hK0.2.2.2.2.2.2.2.2.2 rfl dX0_drive_11 ?_
  refine lv_istore (lv' := [(4, .int (m2.1 (K0 + 9) 2)), (0, .ref (ad K0)), (1, .ref (ad K1)), (2, .int x2), (3, .int x3)]) hx hb dX0_drive_14 hl (by decide) rfl (fun ls hl => ?_)
  refine lv_aload_n hx hb dX0_drive_16 rfl (lv_at hl 1 rfl) ?_
  refine lv_aload_n hx hb dX0_drive_17 rfl (lv_at hl 2 rfl) ?_
  refine lv_iload_n hx hb dX0_drive_18 rfl (lv_at hl 3 rfl) ?_
  refine lv_iload_n hx hb dX0_drive_19 rfl (lv_at hl 4 rfl) ?_
  refine lv_iload hx hb dX0_drive_20 (lv_at hl 0 rfl) ?_
  obtain ⟨r4, m5, hz6, h⟩ := fl_bd_e h
  refine fl_callV (av := [.ref (ad K1), .int x2, .int x3, .int (m2.1 (K0 + 9) 2)]) X hP hS hl.1 mv_X0_120 (c_X0_settle l D ca ad hi K0 hK0 K1 hK1 x2 x3 (m2.1 (K0 + 9) 2) m2 _ _ hz6) hK0.1 (fl_fit_rm (by omega) (by decide)) rfl (Nat.le_of_ble_eq_true rfl) dX0_drive_22 rfl (fun H locs hP hS => ?_)
  refine W.eq (g2 := F0 mm 25 ls []) rfl ?_
  refine lv_iload hx hb dX0_drive_25 (lv_at hl 0 rfl) ?_
  obtain ⟨hk7, h⟩ := fl_ck_e h
  exact fl_zret X hr hlk hk7 hP hS dX0_drive_27 h

def f_X0_driveSoonest (N : Nat) (K0 : Nat) (K1 : Nat) (x2 : Int32) (m : Mem) : Option (Int32 × Mem) :=
  fl_bd (f_X0_nearest N K0 K1 x2 m) (fun r1 m2 =>
    fl_bd (f_X0_drive K0 K1 r1 x2 m2) (fun r4 m5 =>
      fl_ck (r4 = 0 ∨ r4 = 1) (
        some (r4, m5))))
set_option maxHeartbeats 4000000 in
set_option maxRecDepth 100000 in
theorem c_X0_driveSoonest (l : Launch) (D : va_G) (ca : Nat → ClassId) (ad : Nat → Nat) (hi : fl_inj L1 ad) (N : Nat) (K0 : Nat) (hK0 : isCity K0) (K1 : Nat) (hK1 : isStand K1) (x2 : Int32) (m : Mem) (v' : Int32) (M' : Mem) (h : f_X0_driveSoonest N K0 K1 x2 m = some (v', M')) : fl_M l L1 D ca ad yX0_driveSoonest cX0_driveSoonest 3 (some .boolean) 5 [.ref (ad K0), .ref (ad K1), .int x2] m (some (.int v')) M' := by
  unfold f_X0_driveSoonest at h
  refine fl_ofW (by decide) hi (Nat.le_of_ble_eq_true rfl) ?_
  intro p e s mm args below meth c ls X hr hlk hP hl
  have hl : lv_has ls 3 [(0, .ref (ad K0)), (1, .ref (ad K1)), (2, .int x2)] := hl
  have X : fl_X p s mm args c cX0_driveSoonest 3 RX0 L1 D ca ad := X
  obtain ⟨hx, hb, hml, hown, hts, hE, -⟩ := id X
  have hS : va_S (fl_A L1 ad) s.heap s.heap [] := va_S.rf
  refine lv_aload_n hx hb dX0_driveSoonest_0 rfl (lv_at hl 0 rfl) ?_
  refine lv_aload_n hx hb dX0_driveSoonest_1 rfl (lv_at hl 1 rfl) ?_
  refine lv_aload_n hx hb dX0_driveSoonest_2 rfl (lv_at hl 0 rfl) ?_
  refine lv_aload_n hx hb dX0_driveSoonest_3 rfl (lv_at hl 1 rfl) ?_
  refine lv_iload_n hx hb dX0_driveSoonest_4 rfl (lv_at hl 2 rfl) ?_
  obtain ⟨r1, m2, hz3, h⟩ := fl_bd_e h
  refine fl_callV (av := [.ref (ad K1), .int x2]) X hP hS hl.1 mv_X0_124 (c_X0_nearest l D ca ad hi N K0 hK0 K1 hK1 x2 m _ _ hz3) hK0.1 (fl_fit_rm (by omega) (by decide)) rfl (Nat.le_of_ble_eq_true rfl) dX0_driveSoonest_5 rfl (fun H locs hP hS => ?_)
  refine W.eq (g2 := F0 mm 8 ls [.int r1, .ref (ad K1), .ref (ad K0)]) rfl ?_
  refine lv_iload_n hx hb dX0_driveSoonest_8 rfl (lv_at hl 2 rfl) ?_
  obtain ⟨r4, m5, hz6, h⟩ := fl_bd_e h
  refine fl_callV (av := [.ref (ad K1), .int r1, .int x2]) X hP hS hl.1 mv_X0_128 (c_X0_drive l D ca ad hi K0 hK0 K1 hK1 r1 x2 m2 _ _ hz6) hK0.1 (fl_fit_rm (by omega) (by decide)) rfl (Nat.le_of_ble_eq_true rfl) dX0_driveSoonest_9 rfl (fun H locs hP hS => ?_)
  refine W.eq (g2 := F0 mm 12 ls [.int r4]) rfl ?_
  obtain ⟨hk7, h⟩ := fl_ck_e h
  exact fl_zret X hr hlk hk7 hP hS dX0_driveSoonest_12 h

def f_X0_move (K0 : Nat) (K1 : Nat) (x2 : Int32) (x3 : Int32) (m : Mem) : Option (Int32 × Mem) :=
  fl_ck (0 ≤ x2.toInt ∧ x2.toInt < 3) (
    fl_ck (0 ≤ x2.toInt ∧ x2.toInt < 3) (
      fl_bd (f_X0_steps K0 (m.1 (K1 + 1) (x2.toNatClampNeg)) x3 m) (fun r3 m4 =>
        fl_ck (0 ≤ x2.toInt ∧ x2.toInt < 3) (
          fl_ck (0 ≤ x2.toInt ∧ x2.toInt < 3) (
            some ((0 : Int32), mI (mI m4 (K1 + 2) (x2.toNatClampNeg) ((if (m.1 K1 0) < (m.1 (K1 + 2) (x2.toNatClampNeg)) then (m.1 (K1 + 2) (x2.toNatClampNeg)) else (m.1 K1 0)) + r3)) (K1 + 1) (x2.toNatClampNeg) x3))))))
set_option maxHeartbeats 4000000 in
set_option maxRecDepth 100000 in
theorem c_X0_move (l : Launch) (D : va_G) (ca : Nat → ClassId) (ad : Nat → Nat) (hi : fl_inj L1 ad) (K0 : Nat) (hK0 : isCity K0) (K1 : Nat) (hK1 : isStand K1) (x2 : Int32) (x3 : Int32) (m : Mem) (v' : Int32) (M' : Mem) (h : f_X0_move K0 K1 x2 x3 m = some (v', M')) : fl_M l L1 D ca ad yX0_move cX0_move 4 none 2 [.ref (ad K0), .ref (ad K1), .int x2, .int x3] m none M' := by
  unfold f_X0_move at h
  refine fl_ofW (by decide) hi (Nat.le_of_ble_eq_true rfl) ?_
  intro p e s mm args below meth c ls X hr hlk hP hl
  have hl : lv_has ls 4 [(0, .ref (ad K0)), (1, .ref (ad K1)), (2, .int x2), (3, .int x3)] := hl
  have X : fl_X p s mm args c cX0_move 4 RX0 L1 D ca ad := X
  obtain ⟨hx, hb, hml, hown, hts, hE, -⟩ := id X
  have hS : va_S (fl_A L1 ad) s.heap s.heap [] := va_S.rf
  refine lv_aload_n hx hb dX0_move_0 rfl (lv_at hl 1 rfl) ?_
  refine fl_getr X hP fk_X0_90 hK1.1 rfl dX0_move_1 ?_
  refine lv_iload_n hx hb dX0_move_4 rfl (lv_at hl 2 rfl) ?_
  refine lv_aload_n hx hb dX0_move_5 rfl (lv_at hl 1 rfl) ?_
  refine fl_geti X hP fk_X0_87 hK1.1 rfl dX0_move_6 ?_
  refine lv_aload_n hx hb dX0_move_9 rfl (lv_at hl 1 rfl) ?_
  refine fl_getr X hP fk_X0_90 hK1.1 rfl dX0_move_10 ?_
  refine lv_iload_n hx hb dX0_move_13 rfl (lv_at hl 2 rfl) ?_
  obtain ⟨hk1, h⟩ := fl_ck_e h
  refine fl_iald X hP hK1.2.2.1 hk1 dX0_move_14 ?_
  refine va_mmax hx hb (hml.trans hl.1.symm) hown (hts _ wq_485) (hts _ wq_220) (hts _ wq_51) (hts _ wq_221) (fl_r1 (by omega)) (fl_r2 (by omega) (Nat.le_of_ble_eq_true rfl)) (Nat.le_refl 0) (Nat.le_refl 0) dX0_move_15 ?_
  refine lv_aload_n hx hb dX0_move_18 rfl (lv_at hl 0 rfl) ?_
  refine lv_aload_n hx hb dX0_move_19 rfl (lv_at hl 1 rfl) ?_
  refine fl_getr X hP fk_X0_100 hK1.1 rfl dX0_move_20 ?_
  refine lv_iload_n hx hb dX0_move_23 rfl (lv_at hl 2 rfl) ?_
  obtain ⟨hk2, h⟩ := fl_ck_e h
  refine fl_iald X hP hK1.2.1 hk2 dX0_move_24 ?_
  refine lv_iload_n hx hb dX0_move_25 rfl (lv_at hl 3 rfl) ?_
  obtain ⟨r3, m4, hz5, h⟩ := fl_bd_e h
  refine fl_callV (av := [.int (m.1 (K1 + 1) (x2.toNatClampNeg)), .int x3]) X hP hS hl.1 mv_X0_93 (c_X0_steps l D ca ad hi K0 hK0 (m.1 (K1 + 1) (x2.toNatClampNeg)) x3 m _ _ hz5) hK0.1 (fl_fit_rm (by omega) (by decide)) rfl (Nat.le_of_ble_eq_true rfl) dX0_move_26 rfl (fun H locs hP hS => ?_)
  refine W.eq (g2 := F0 mm 29 ls [.int r3, .int (if (m.1 K1 0) < (m.1 (K1 + 2) (x2.toNatClampNeg)) then (m.1 (K1 + 2) (x2.toNatClampNeg)) else (m.1 K1 0)), .int x2, .ref (ad (K1 + 2))]) rfl ?_
  refine lv_iadd hx hb dX0_move_29 ?_
  obtain ⟨hk6, h⟩ := fl_ck_e h
  refine fl_iast X hP hS hK1.2.2.1 hk6 dX0_move_30 (fun H locs hP hS => ?_)
  have hP : va_P D vwCl (fl_w L1 ca ad (mI m4 (K1 + 2) (x2.toNatClampNeg) ((if (m.1 K1 0) < (m.1 (K1 + 2) (x2.toNatClampNeg)) then (m.1 (K1 + 2) (x2.toNatClampNeg)) else (m.1 K1 0)) + r3))) H := hP
  refine lv_aload_n hx hb dX0_move_31 rfl (lv_at hl 1 rfl) ?_
  refine fl_getr X hP fk_X0_100 hK1.1 rfl dX0_move_32 ?_
  refine lv_iload_n hx hb dX0_move_35 rfl (lv_at hl 2 rfl) ?_
  refine lv_iload_n hx hb dX0_move_36 rfl (lv_at hl 3 rfl) ?_
  obtain ⟨hk7, h⟩ := fl_ck_e h
  refine fl_iast X hP hS hK1.2.1 hk7 dX0_move_37 (fun H locs hP hS => ?_)
  have hP : va_P D vwCl (fl_w L1 ca ad (mI (mI m4 (K1 + 2) (x2.toNatClampNeg) ((if (m.1 K1 0) < (m.1 (K1 + 2) (x2.toNatClampNeg)) then (m.1 (K1 + 2) (x2.toNatClampNeg)) else (m.1 K1 0)) + r3)) (K1 + 1) (x2.toNatClampNeg) x3)) H := hP
  exact fl_vret X hr hlk hP hS dX0_move_38 h
end
