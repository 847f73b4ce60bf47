/-- a private method of a class that the tables say can be made, by its rows of tables_1 -/
def lw_okq (q : MethodName × Nat) : Prop := (q.1.cls ≠ "java/lang/invoke/MethodHandle" ∧ q.1.cls ≠ "java/lang/invoke/VarHandle") ∧ Cond.instantiable q.1.cls q.2 ∈ tables_1 ∧ Cond.privateMethod q.1 ∈ tables_1 ∧ Cond.instanceMethod q.1 ∈ tables_1
theorem lw_p0 : lw_okq (⟨"ThrowRows", "takeText", "(LThrowRows$Sheet;II)V"⟩, 11) := ⟨⟨by decide +kernel, by decide +kernel⟩, List.mem_of_getElem? (i := 14) (by decide +kernel), List.mem_of_getElem? (i := 182) (by decide +kernel), List.mem_of_getElem? (i := 183) (by decide +kernel)⟩
theorem lw_p1 : lw_okq (⟨"ThrowRows", "handIn", "(I)I"⟩, 11) := ⟨⟨by decide +kernel, by decide +kernel⟩, List.mem_of_getElem? (i := 14) (by decide +kernel), List.mem_of_getElem? (i := 306) (by decide +kernel), List.mem_of_getElem? (i := 307) (by decide +kernel)⟩
theorem lw_p2 : lw_okq (⟨"ThrowRows$Row", "isTurnGreater", "(II)Z"⟩, 2) := ⟨⟨by decide +kernel, by decide +kernel⟩, List.mem_of_getElem? (i := 22) (by decide +kernel), List.mem_of_getElem? (i := 350) (by decide +kernel), List.mem_of_getElem? (i := 351) (by decide +kernel)⟩
theorem lw_p3 : lw_okq (⟨"ThrowRows$Fillings", "addThrow", "(IIII)V"⟩, 3) := ⟨⟨by decide +kernel, by decide +kernel⟩, List.mem_of_getElem? (i := 83) (by decide +kernel), List.mem_of_getElem? (i := 390) (by decide +kernel), List.mem_of_getElem? (i := 391) (by decide +kernel)⟩
theorem lw_p4 : lw_okq (⟨"ThrowRows$Ways", "reach", "(II)V"⟩, 3) := ⟨⟨by decide +kernel, by decide +kernel⟩, List.mem_of_getElem? (i := 67) (by decide +kernel), List.mem_of_getElem? (i := 403) (by decide +kernel), List.mem_of_getElem? (i := 404) (by decide +kernel)⟩
theorem lw_p5 : lw_okq (⟨"ThrowRows$Ways", "reachFrom", "(II)V"⟩, 3) := ⟨⟨by decide +kernel, by decide +kernel⟩, List.mem_of_getElem? (i := 67) (by decide +kernel), List.mem_of_getElem? (i := 408) (by decide +kernel), List.mem_of_getElem? (i := 409) (by decide +kernel)⟩
theorem lw_p6 : lw_okq (⟨"ThrowRows$Ways", "leastThrow", "(II)I"⟩, 3) := ⟨⟨by decide +kernel, by decide +kernel⟩, List.mem_of_getElem? (i := 67) (by decide +kernel), List.mem_of_getElem? (i := 421) (by decide +kernel), List.mem_of_getElem? (i := 422) (by decide +kernel)⟩
theorem lw_p7 : lw_okq (⟨"ThrowRows", "allowCells", "(LThrowRows$Sheet;II)V"⟩, 11) := ⟨⟨by decide +kernel, by decide +kernel⟩, List.mem_of_getElem? (i := 14) (by decide +kernel), List.mem_of_getElem? (i := 435) (by decide +kernel), List.mem_of_getElem? (i := 436) (by decide +kernel)⟩
theorem lw_p8 : lw_okq (⟨"ThrowRows$Fillings", "firstThrow", "(III)I"⟩, 3) := ⟨⟨by decide +kernel, by decide +kernel⟩, List.mem_of_getElem? (i := 83) (by decide +kernel), List.mem_of_getElem? (i := 443) (by decide +kernel), List.mem_of_getElem? (i := 444) (by decide +kernel)⟩
theorem lw_p9 : lw_okq (⟨"ThrowRows", "faulted", "(I)I"⟩, 11) := ⟨⟨by decide +kernel, by decide +kernel⟩, List.mem_of_getElem? (i := 14) (by decide +kernel), List.mem_of_getElem? (i := 487) (by decide +kernel), List.mem_of_getElem? (i := 488) (by decide +kernel)⟩
theorem lw_p10 : lw_okq (⟨"ThrowRows$Sheet", "cutToSort", "(I)I"⟩, 3) := ⟨⟨by decide +kernel, by decide +kernel⟩, List.mem_of_getElem? (i := 98) (by decide +kernel), List.mem_of_getElem? (i := 514) (by decide +kernel), List.mem_of_getElem? (i := 515) (by decide +kernel)⟩
theorem lw_p11 : lw_okq (⟨"ThrowRows$Kinds", "tellingOfEgg", "(I)I"⟩, 2) := ⟨⟨by decide +kernel, by decide +kernel⟩, List.mem_of_getElem? (i := 53) (by decide +kernel), List.mem_of_getElem? (i := 537) (by decide +kernel), List.mem_of_getElem? (i := 538) (by decide +kernel)⟩
theorem lw_p12 : lw_okq (⟨"ThrowRows$Kinds", "leave", "(I)V"⟩, 2) := ⟨⟨by decide +kernel, by decide +kernel⟩, List.mem_of_getElem? (i := 53) (by decide +kernel), List.mem_of_getElem? (i := 541) (by decide +kernel), List.mem_of_getElem? (i := 542) (by decide +kernel)⟩
theorem lw_p13 : lw_okq (⟨"ThrowRows$Kinds", "tellingOfHeavy", "(I)I"⟩, 2) := ⟨⟨by decide +kernel, by decide +kernel⟩, List.mem_of_getElem? (i := 53) (by decide +kernel), List.mem_of_getElem? (i := 545) (by decide +kernel), List.mem_of_getElem? (i := 546) (by decide +kernel)⟩
theorem lw_p14 : lw_okq (⟨"ThrowRows$Kinds", "tellingOfBall", "(I)I"⟩, 2) := ⟨⟨by decide +kernel, by decide +kernel⟩, List.mem_of_getElem? (i := 53) (by decide +kernel), List.mem_of_getElem? (i := 549) (by decide +kernel), List.mem_of_getElem? (i := 550) (by decide +kernel)⟩
theorem lw_p15 : lw_okq (⟨"ThrowRows", "imageCount", "()I"⟩, 11) := ⟨⟨by decide +kernel, by decide +kernel⟩, List.mem_of_getElem? (i := 14) (by decide +kernel), List.mem_of_getElem? (i := 578) (by decide +kernel), List.mem_of_getElem? (i := 579) (by decide +kernel)⟩
def lw_privs_1 : List (MethodName × Nat) := [(⟨"ThrowRows", "takeText", "(LThrowRows$Sheet;II)V"⟩, 11), (⟨"ThrowRows", "handIn", "(I)I"⟩, 11), (⟨"ThrowRows$Row", "isTurnGreater", "(II)Z"⟩, 2), (⟨"ThrowRows$Fillings", "addThrow", "(IIII)V"⟩, 3), (⟨"ThrowRows$Ways", "reach", "(II)V"⟩, 3), (⟨"ThrowRows$Ways", "reachFrom", "(II)V"⟩, 3), (⟨"ThrowRows$Ways", "leastThrow", "(II)I"⟩, 3), (⟨"ThrowRows", "allowCells", "(LThrowRows$Sheet;II)V"⟩, 11), (⟨"ThrowRows$Fillings", "firstThrow", "(III)I"⟩, 3), (⟨"ThrowRows", "faulted", "(I)I"⟩, 11), (⟨"ThrowRows$Sheet", "cutToSort", "(I)I"⟩, 3), (⟨"ThrowRows$Kinds", "tellingOfEgg", "(I)I"⟩, 2), (⟨"ThrowRows$Kinds", "leave", "(I)V"⟩, 2), (⟨"ThrowRows$Kinds", "tellingOfHeavy", "(I)I"⟩, 2), (⟨"ThrowRows$Kinds", "tellingOfBall", "(I)I"⟩, 2), (⟨"ThrowRows", "imageCount", "()I"⟩, 11)]
theorem lw_r1 : ∀ q ∈ lw_privs_1, lw_okq q := List.forall_mem_cons.mpr ⟨lw_p0, List.forall_mem_cons.mpr ⟨lw_p1, List.forall_mem_cons.mpr ⟨lw_p2, List.forall_mem_cons.mpr ⟨lw_p3, List.forall_mem_cons.mpr ⟨lw_p4, List.forall_mem_cons.mpr ⟨lw_p5, List.forall_mem_cons.mpr ⟨lw_p6, List.forall_mem_cons.mpr ⟨lw_p7, List.forall_mem_cons.mpr ⟨lw_p8, List.forall_mem_cons.mpr ⟨lw_p9, List.forall_mem_cons.mpr ⟨lw_p10, List.forall_mem_cons.mpr ⟨lw_p11, List.forall_mem_cons.mpr ⟨lw_p12, List.forall_mem_cons.mpr ⟨lw_p13, List.forall_mem_cons.mpr ⟨lw_p14, List.forall_mem_cons.mpr ⟨lw_p15, fun _ h => absurd h List.not_mem_nil⟩⟩⟩⟩⟩⟩⟩⟩⟩⟩⟩⟩⟩⟩⟩⟩
theorem lw_p16 : lw_okq (⟨"ThrowRowsModel", "against", "(IIII)I"⟩, 20) := ⟨⟨by decide +kernel, by decide +kernel⟩, List.mem_of_getElem? (i := 582) (by decide +kernel), List.mem_of_getElem? (i := 663) (by decide +kernel), List.mem_of_getElem? (i := 664) (by decide +kernel)⟩
theorem lw_p17 : lw_okq (⟨"ThrowRowsModel", "fails", "(I)I"⟩, 20) := ⟨⟨by decide +kernel, by decide +kernel⟩, List.mem_of_getElem? (i := 582) (by decide +kernel), List.mem_of_getElem? (i := 667) (by decide +kernel), List.mem_of_getElem? (i := 668) (by decide +kernel)⟩
theorem lw_p18 : lw_okq (⟨"ThrowRowsModel", "isBeat", "(I)Z"⟩, 20) := ⟨⟨by decide +kernel, by decide +kernel⟩, List.mem_of_getElem? (i := 582) (by decide +kernel), List.mem_of_getElem? (i := 675) (by decide +kernel), List.mem_of_getElem? (i := 676) (by decide +kernel)⟩
theorem lw_p19 : lw_okq (⟨"ThrowRowsModel", "findClash", "()I"⟩, 20) := ⟨⟨by decide +kernel, by decide +kernel⟩, List.mem_of_getElem? (i := 582) (by decide +kernel), List.mem_of_getElem? (i := 683) (by decide +kernel), List.mem_of_getElem? (i := 684) (by decide +kernel)⟩
theorem lw_p20 : lw_okq (⟨"ThrowRowsModel", "landsIn", "(I)I"⟩, 20) := ⟨⟨by decide +kernel, by decide +kernel⟩, List.mem_of_getElem? (i := 582) (by decide +kernel), List.mem_of_getElem? (i := 687) (by decide +kernel), List.mem_of_getElem? (i := 688) (by decide +kernel)⟩
theorem lw_p21 : lw_okq (⟨"ThrowRowsModel", "isGood", "()Z"⟩, 20) := ⟨⟨by decide +kernel, by decide +kernel⟩, List.mem_of_getElem? (i := 582) (by decide +kernel), List.mem_of_getElem? (i := 695) (by decide +kernel), List.mem_of_getElem? (i := 696) (by decide +kernel)⟩
theorem lw_p22 : lw_okq (⟨"ThrowRowsModel", "balls", "()I"⟩, 20) := ⟨⟨by decide +kernel, by decide +kernel⟩, List.mem_of_getElem? (i := 582) (by decide +kernel), List.mem_of_getElem? (i := 699) (by decide +kernel), List.mem_of_getElem? (i := 700) (by decide +kernel)⟩
theorem lw_p23 : lw_okq (⟨"ThrowRowsModel", "greatestThrow", "()I"⟩, 20) := ⟨⟨by decide +kernel, by decide +kernel⟩, List.mem_of_getElem? (i := 582) (by decide +kernel), List.mem_of_getElem? (i := 703) (by decide +kernel), List.mem_of_getElem? (i := 704) (by decide +kernel)⟩
theorem lw_p24 : lw_okq (⟨"ThrowRowsModel", "isPrime", "()Z"⟩, 20) := ⟨⟨by decide +kernel, by decide +kernel⟩, List.mem_of_getElem? (i := 582) (by decide +kernel), List.mem_of_getElem? (i := 707) (by decide +kernel), List.mem_of_getElem? (i := 708) (by decide +kernel)⟩
theorem lw_p25 : lw_okq (⟨"ThrowRowsModel", "stateAhead", "(I)I"⟩, 20) := ⟨⟨by decide +kernel, by decide +kernel⟩, List.mem_of_getElem? (i := 582) (by decide +kernel), List.mem_of_getElem? (i := 711) (by decide +kernel), List.mem_of_getElem? (i := 712) (by decide +kernel)⟩
theorem lw_p26 : lw_okq (⟨"ThrowRowsModel", "isGround", "()Z"⟩, 20) := ⟨⟨by decide +kernel, by decide +kernel⟩, List.mem_of_getElem? (i := 582) (by decide +kernel), List.mem_of_getElem? (i := 715) (by decide +kernel), List.mem_of_getElem? (i := 716) (by decide +kernel)⟩
theorem lw_p27 : lw_okq (⟨"ThrowRowsModel", "findOrbits", "()I"⟩, 20) := ⟨⟨by decide +kernel, by decide +kernel⟩, List.mem_of_getElem? (i := 582) (by decide +kernel), List.mem_of_getElem? (i := 719) (by decide +kernel), List.mem_of_getElem? (i := 720) (by decide +kernel)⟩
theorem lw_p28 : lw_okq (⟨"ThrowRowsModel", "layBalls", "()V"⟩, 20) := ⟨⟨by decide +kernel, by decide +kernel⟩, List.mem_of_getElem? (i := 582) (by decide +kernel), List.mem_of_getElem? (i := 731) (by decide +kernel), List.mem_of_getElem? (i := 732) (by decide +kernel)⟩
theorem lw_p29 : lw_okq (⟨"ThrowRowsModel", "takeNext", "()V"⟩, 20) := ⟨⟨by decide +kernel, by decide +kernel⟩, List.mem_of_getElem? (i := 582) (by decide +kernel), List.mem_of_getElem? (i := 758) (by decide +kernel), List.mem_of_getElem? (i := 759) (by decide +kernel)⟩
theorem lw_p30 : lw_okq (⟨"ThrowRowsModel", "isGreater", "(II)Z"⟩, 20) := ⟨⟨by decide +kernel, by decide +kernel⟩, List.mem_of_getElem? (i := 582) (by decide +kernel), List.mem_of_getElem? (i := 770) (by decide +kernel), List.mem_of_getElem? (i := 771) (by decide +kernel)⟩
theorem lw_p31 : lw_okq (⟨"ThrowRowsModel", "isTurned", "(II)Z"⟩, 20) := ⟨⟨by decide +kernel, by decide +kernel⟩, List.mem_of_getElem? (i := 582) (by decide +kernel), List.mem_of_getElem? (i := 789) (by decide +kernel), List.mem_of_getElem? (i := 790) (by decide +kernel)⟩
def lw_privs_2 : List (MethodName × Nat) := [(⟨"ThrowRowsModel", "against", "(IIII)I"⟩, 20), (⟨"ThrowRowsModel", "fails", "(I)I"⟩, 20), (⟨"ThrowRowsModel", "isBeat", "(I)Z"⟩, 20), (⟨"ThrowRowsModel", "findClash", "()I"⟩, 20), (⟨"ThrowRowsModel", "landsIn", "(I)I"⟩, 20), (⟨"ThrowRowsModel", "isGood", "()Z"⟩, 20), (⟨"ThrowRowsModel", "balls", "()I"⟩, 20), (⟨"ThrowRowsModel", "greatestThrow", "()I"⟩, 20), (⟨"ThrowRowsModel", "isPrime", "()Z"⟩, 20), (⟨"ThrowRowsModel", "stateAhead", "(I)I"⟩, 20), (⟨"ThrowRowsModel", "isGround", "()Z"⟩, 20), (⟨"ThrowRowsModel", "findOrbits", "()I"⟩, 20), (⟨"ThrowRowsModel", "layBalls", "()V"⟩, 20), (⟨"ThrowRowsModel", "takeNext", "()V"⟩, 20), (⟨"ThrowRowsModel", "isGreater", "(II)Z"⟩, 20), (⟨"ThrowRowsModel", "isTurned", "(II)Z"⟩, 20)]
theorem lw_r2 : ∀ q ∈ lw_privs_2, lw_okq q := List.forall_mem_cons.mpr ⟨lw_p16, List.forall_mem_cons.mpr ⟨lw_p17, List.forall_mem_cons.mpr ⟨lw_p18, List.forall_mem_cons.mpr ⟨lw_p19, List.forall_mem_cons.mpr ⟨lw_p20, List.forall_mem_cons.mpr ⟨lw_p21, List.forall_mem_cons.mpr ⟨lw_p22, List.forall_mem_cons.mpr ⟨lw_p23, List.forall_mem_cons.mpr ⟨lw_p24, List.forall_mem_cons.mpr ⟨lw_p25, List.forall_mem_cons.mpr ⟨lw_p26, List.forall_mem_cons.mpr ⟨lw_p27, List.forall_mem_cons.mpr ⟨lw_p28, List.forall_mem_cons.mpr ⟨lw_p29, List.forall_mem_cons.mpr ⟨lw_p30, List.forall_mem_cons.mpr ⟨lw_p31, fun _ h => absurd h List.not_mem_nil⟩⟩⟩⟩⟩⟩⟩⟩⟩⟩⟩⟩⟩⟩⟩⟩
theorem lw_p32 : lw_okq (⟨"ThrowRowsModel", "layFills", "()V"⟩, 20) := ⟨⟨by decide +kernel, by decide +kernel⟩, List.mem_of_getElem? (i := 582) (by decide +kernel), List.mem_of_getElem? (i := 798) (by decide +kernel), List.mem_of_getElem? (i := 799) (by decide +kernel)⟩
theorem lw_p33 : lw_okq (⟨"ThrowRowsModel", "mayThrow", "(II)Z"⟩, 20) := ⟨⟨by decide +kernel, by decide +kernel⟩, List.mem_of_getElem? (i := 582) (by decide +kernel), List.mem_of_getElem? (i := 805) (by decide +kernel), List.mem_of_getElem? (i := 806) (by decide +kernel)⟩
theorem lw_p34 : lw_okq (⟨"ThrowRowsModel", "addFills", "(III)V"⟩, 20) := ⟨⟨by decide +kernel, by decide +kernel⟩, List.mem_of_getElem? (i := 582) (by decide +kernel), List.mem_of_getElem? (i := 809) (by decide +kernel), List.mem_of_getElem? (i := 810) (by decide +kernel)⟩
theorem lw_p35 : lw_okq (⟨"ThrowRowsModel", "findFar", "(II)V"⟩, 20) := ⟨⟨by decide +kernel, by decide +kernel⟩, List.mem_of_getElem? (i := 582) (by decide +kernel), List.mem_of_getElem? (i := 817) (by decide +kernel), List.mem_of_getElem? (i := 818) (by decide +kernel)⟩
theorem lw_p36 : lw_okq (⟨"ThrowRowsModel", "lost", "(I)J"⟩, 20) := ⟨⟨by decide +kernel, by decide +kernel⟩, List.mem_of_getElem? (i := 582) (by decide +kernel), List.mem_of_getElem? (i := 834) (by decide +kernel), List.mem_of_getElem? (i := 835) (by decide +kernel)⟩
theorem lw_p37 : lw_okq (⟨"ThrowRowsModel", "firstFill", "(II)J"⟩, 20) := ⟨⟨by decide +kernel, by decide +kernel⟩, List.mem_of_getElem? (i := 582) (by decide +kernel), List.mem_of_getElem? (i := 838) (by decide +kernel), List.mem_of_getElem? (i := 839) (by decide +kernel)⟩
theorem lw_p38 : lw_okq (⟨"ThrowRowsModel", "leadsOn", "(IIII)Z"⟩, 20) := ⟨⟨by decide +kernel, by decide +kernel⟩, List.mem_of_getElem? (i := 582) (by decide +kernel), List.mem_of_getElem? (i := 842) (by decide +kernel), List.mem_of_getElem? (i := 843) (by decide +kernel)⟩
theorem lw_p39 : lw_okq (⟨"ThrowRowsModel", "mayGoTo", "(I)I"⟩, 20) := ⟨⟨by decide +kernel, by decide +kernel⟩, List.mem_of_getElem? (i := 582) (by decide +kernel), List.mem_of_getElem? (i := 857) (by decide +kernel), List.mem_of_getElem? (i := 858) (by decide +kernel)⟩
theorem lw_p40 : lw_okq (⟨"ThrowRowsModel", "begins", "(I)V"⟩, 20) := ⟨⟨by decide +kernel, by decide +kernel⟩, List.mem_of_getElem? (i := 582) (by decide +kernel), List.mem_of_getElem? (i := 893) (by decide +kernel), List.mem_of_getElem? (i := 894) (by decide +kernel)⟩
def lw_privs_3 : List (MethodName × Nat) := [(⟨"ThrowRowsModel", "layFills", "()V"⟩, 20), (⟨"ThrowRowsModel", "mayThrow", "(II)Z"⟩, 20), (⟨"ThrowRowsModel", "addFills", "(III)V"⟩, 20), (⟨"ThrowRowsModel", "findFar", "(II)V"⟩, 20), (⟨"ThrowRowsModel", "lost", "(I)J"⟩, 20), (⟨"ThrowRowsModel", "firstFill", "(II)J"⟩, 20), (⟨"ThrowRowsModel", "leadsOn", "(IIII)Z"⟩, 20), (⟨"ThrowRowsModel", "mayGoTo", "(I)I"⟩, 20), (⟨"ThrowRowsModel", "begins", "(I)V"⟩, 20)]
theorem lw_r3 : ∀ q ∈ lw_privs_3, lw_okq q := List.forall_mem_cons.mpr ⟨lw_p32, List.forall_mem_cons.mpr ⟨lw_p33, List.forall_mem_cons.mpr ⟨lw_p34, List.forall_mem_cons.mpr ⟨lw_p35, List.forall_mem_cons.mpr ⟨lw_p36, List.forall_mem_cons.mpr ⟨lw_p37, List.forall_mem_cons.mpr ⟨lw_p38, List.forall_mem_cons.mpr ⟨lw_p39, List.forall_mem_cons.mpr ⟨lw_p40, fun _ h => absurd h List.not_mem_nil⟩⟩⟩⟩⟩⟩⟩⟩⟩
def lw_privs : List (MethodName × Nat) := lw_privs_1 ++ (lw_privs_2 ++ (lw_privs_3))
def lw_tbl : List Cond := k2_sels lw_privs ++ tables_1
theorem lw_privs_ok : ∀ q ∈ lw_privs, lw_okq q := by
  show ∀ q ∈ lw_privs_1 ++ (lw_privs_2 ++ (lw_privs_3)), lw_okq q
  exact List.forall_mem_append.mpr ⟨lw_r1, List.forall_mem_append.mpr ⟨lw_r2, lw_r3⟩⟩

def RX0 : String := "ThrowRows$Fillings"
def TX0 : u_T := fun k => match k with
  | 0 => ("ThrowRows$Fillings", "least", "[I", true)
  | 1 => ("ThrowRows$Fillings", "most", "[I", true)
  | _ => ("ThrowRows$Fillings", "counts", "[I", true)
def tyX0 : Nat → FieldType := fun k => match k with
  | 0 => .array .int
  | 1 => .array .int
  | _ => .array .int
abbrev wsX00 : List Cond := u_ws RX0 TX0 3
theorem nmX0 : ∀ a, a < 3 → ∀ b, b < 3 → a ≠ b → (TX0 a).2.1 ≠ (TX0 b).2.1 := by decide +kernel
theorem tyX0_ok : ∀ k, k < 3 → parseFieldDescriptor (TX0 k).2.2.1 = some (tyX0 k) := by decide +kernel
abbrev cX0_init : ByteArray := prog_2_method_1_code
def yX0_init : MethodName := ⟨RX0, "<init>", "()V"⟩
abbrev cX0_allow : ByteArray := prog_2_method_2_code
def yX0_allow : MethodName := ⟨RX0, "allow", "(III)V"⟩
abbrev cX0_count : ByteArray := prog_2_method_3_code
def yX0_count : MethodName := ⟨RX0, "count", "(II)I"⟩
abbrev cX0_addThrow : ByteArray := prog_2_method_4_code
def yX0_addThrow : MethodName := ⟨RX0, "addThrow", "(IIII)V"⟩
abbrev cX0_throwOfFirst : ByteArray := prog_2_method_5_code
def yX0_throwOfFirst : MethodName := ⟨RX0, "throwOfFirst", "(III)I"⟩
abbrev cX0_firstThrow : ByteArray := prog_2_method_6_code
def yX0_firstThrow : MethodName := ⟨RX0, "firstThrow", "(III)I"⟩
def RX1 : String := "ThrowRows$Flight"
def TX1 : u_T := fun k => match k with
  | 0 => ("ThrowRows$Flight", "landing", "[I", true)
  | _ => ("ThrowRows$Flight", "seen", "I", false)
def tyX1 : Nat → FieldType := fun k => match k with
  | 0 => .array .int
  | _ => .int
abbrev wsX10 : List Cond := u_ws RX1 TX1 2
theorem nmX1 : ∀ a, a < 2 → ∀ b, b < 2 → a ≠ b → (TX1 a).2.1 ≠ (TX1 b).2.1 := by decide +kernel
theorem tyX1_ok : ∀ k, k < 2 → parseFieldDescriptor (TX1 k).2.2.1 = some (tyX1 k) := by decide +kernel
abbrev cX1_init : ByteArray := prog_3_method_1_code
def yX1_init : MethodName := ⟨RX1, "<init>", "()V"⟩
abbrev cX1_begin : ByteArray := prog_3_method_2_code
def yX1_begin : MethodName := ⟨RX1, "begin", "()V"⟩
abbrev cX1_pass : ByteArray := prog_3_method_3_code
def yX1_pass : MethodName := ⟨RX1, "pass", "(II)I"⟩
def RX2 : String := "ThrowRows$Kinds"
def TX2 : u_T := fun k => match k with
  | 0 => ("ThrowRows$Kinds", "kinds", "[I", true)
  | _ => ("ThrowRows$Kinds", "traced", "I", false)
def tyX2 : Nat → FieldType := fun k => match k with
  | 0 => .array .int
  | _ => .int
abbrev wsX20 : List Cond := u_ws RX2 TX2 2
theorem nmX2 : ∀ a, a < 2 → ∀ b, b < 2 → a ≠ b → (TX2 a).2.1 ≠ (TX2 b).2.1 := by decide +kernel
theorem tyX2_ok : ∀ k, k < 2 → parseFieldDescriptor (TX2 k).2.2.1 = some (tyX2 k) := by decide +kernel
abbrev cX2_init : ByteArray := prog_4_method_1_code
def yX2_init : MethodName := ⟨RX2, "<init>", "()V"⟩
abbrev cX2_reset : ByteArray := prog_4_method_2_code
def yX2_reset : MethodName := ⟨RX2, "reset", "()V"⟩
abbrev cX2_kindOf : ByteArray := prog_4_method_3_code
def yX2_kindOf : MethodName := ⟨RX2, "kindOf", "(I)I"⟩
abbrev cX2_setKind : ByteArray := prog_4_method_4_code
def yX2_setKind : MethodName := ⟨RX2, "setKind", "(II)V"⟩
abbrev cX2_mayGo : ByteArray := prog_4_method_5_code
def yX2_mayGo : MethodName := ⟨RX2, "mayGo", "(I)I"⟩
abbrev cX2_telling : ByteArray := prog_4_method_6_code
def yX2_telling : MethodName := ⟨RX2, "telling", "(I)I"⟩
abbrev cX2_calling : ByteArray := prog_4_method_7_code
def yX2_calling : MethodName := ⟨RX2, "calling", "(I)I"⟩
abbrev cX2_tellingOfBall : ByteArray := prog_4_method_8_code
def yX2_tellingOfBall : MethodName := ⟨RX2, "tellingOfBall", "(I)I"⟩
abbrev cX2_tellingOfHeavy : ByteArray := prog_4_method_9_code
def yX2_tellingOfHeavy : MethodName := ⟨RX2, "tellingOfHeavy", "(I)I"⟩
abbrev cX2_tellingOfEgg : ByteArray := prog_4_method_10_code
def yX2_tellingOfEgg : MethodName := ⟨RX2, "tellingOfEgg", "(I)I"⟩
abbrev cX2_leave : ByteArray := prog_4_method_11_code
def yX2_leave : MethodName := ⟨RX2, "leave", "(I)V"⟩
def RX3 : String := "ThrowRows$Row"
def TX3 : u_T := fun k => match k with
  | 0 => ("ThrowRows$Row", "heights", "[I", true)
  | _ => ("ThrowRows$Row", "period", "I", false)
def tyX3 : Nat → FieldType := fun k => match k with
  | 0 => .array .int
  | _ => .int
abbrev wsX30 : List Cond := u_ws RX3 TX3 2
theorem nmX3 : ∀ a, a < 2 → ∀ b, b < 2 → a ≠ b → (TX3 a).2.1 ≠ (TX3 b).2.1 := by decide +kernel
theorem tyX3_ok : ∀ k, k < 2 → parseFieldDescriptor (TX3 k).2.2.1 = some (tyX3 k) := by decide +kernel
abbrev cX3_init : ByteArray := prog_5_method_1_code
def yX3_init : MethodName := ⟨RX3, "<init>", "()V"⟩
abbrev cX3_isThere : ByteArray := prog_5_method_2_code
def yX3_isThere : MethodName := ⟨RX3, "isThere", "()Z"⟩
abbrev cX3_hasBeat : ByteArray := prog_5_method_3_code
def yX3_hasBeat : MethodName := ⟨RX3, "hasBeat", "(I)Z"⟩
abbrev cX3_heightIn : ByteArray := prog_5_method_4_code
def yX3_heightIn : MethodName := ⟨RX3, "heightIn", "(I)I"⟩
abbrev cX3_setHeight : ByteArray := prog_5_method_5_code
def yX3_setHeight : MethodName := ⟨RX3, "setHeight", "(II)V"⟩
abbrev cX3_landingOf : ByteArray := prog_5_method_6_code
def yX3_landingOf : MethodName := ⟨RX3, "landingOf", "(I)I"⟩
abbrev cX3_firstClash : ByteArray := prog_5_method_7_code
def yX3_firstClash : MethodName := ⟨RX3, "firstClash", "()I"⟩
abbrev cX3_isGood : ByteArray := prog_5_method_8_code
def yX3_isGood : MethodName := ⟨RX3, "isGood", "()Z"⟩
abbrev cX3_ballCount : ByteArray := prog_5_method_9_code
def yX3_ballCount : MethodName := ⟨RX3, "ballCount", "()I"⟩
abbrev cX3_greatestHeight : ByteArray := prog_5_method_10_code
def yX3_greatestHeight : MethodName := ⟨RX3, "greatestHeight", "()I"⟩
abbrev cX3_stateAhead : ByteArray := prog_5_method_11_code
def yX3_stateAhead : MethodName := ⟨RX3, "stateAhead", "(I)I"⟩
abbrev cX3_isPrime : ByteArray := prog_5_method_12_code
def yX3_isPrime : MethodName := ⟨RX3, "isPrime", "()Z"⟩
abbrev cX3_isGround : ByteArray := prog_5_method_13_code
def yX3_isGround : MethodName := ⟨RX3, "isGround", "()Z"⟩
abbrev cX3_leastInOrbit : ByteArray := prog_5_method_14_code
def yX3_leastInOrbit : MethodName := ⟨RX3, "leastInOrbit", "(I)I"⟩
abbrev cX3_orbitsBelow : ByteArray := prog_5_method_15_code
def yX3_orbitsBelow : MethodName := ⟨RX3, "orbitsBelow", "(I)I"⟩
abbrev cX3_take : ByteArray := prog_5_method_16_code
def yX3_take : MethodName := ⟨RX3, "take", "(LThrowRows$Row;)V"⟩
abbrev cX3_takeTurned : ByteArray := prog_5_method_17_code
def yX3_takeTurned : MethodName := ⟨RX3, "takeTurned", "(LThrowRows$Row;I)V"⟩
abbrev cX3_takeBackward : ByteArray := prog_5_method_18_code
def yX3_takeBackward : MethodName := ⟨RX3, "takeBackward", "(LThrowRows$Row;)V"⟩
abbrev cX3_greatestTurn : ByteArray := prog_5_method_19_code
def yX3_greatestTurn : MethodName := ⟨RX3, "greatestTurn", "()I"⟩
abbrev cX3_isTurnGreater : ByteArray := prog_5_method_20_code
def yX3_isTurnGreater : MethodName := ⟨RX3, "isTurnGreater", "(II)Z"⟩
abbrev cX3_isTurned : ByteArray := prog_5_method_21_code
def yX3_isTurned : MethodName := ⟨RX3, "isTurned", "(LThrowRows$Row;)Z"⟩
def RX4 : String := "ThrowRows$Sheet"
def TX4 : u_T := fun k => match k with
  | 0 => ("ThrowRows$Sheet", "cells", "[I", true)
  | 1 => ("ThrowRows$Sheet", "length", "I", false)
  | _ => ("ThrowRows$Sheet", "sort", "I", false)
def tyX4 : Nat → FieldType := fun k => match k with
  | 0 => .array .int
  | 1 => .int
  | _ => .int
abbrev wsX40 : List Cond := u_ws RX4 TX4 3
theorem nmX4 : ∀ a, a < 3 → ∀ b, b < 3 → a ≠ b → (TX4 a).2.1 ≠ (TX4 b).2.1 := by decide +kernel
theorem tyX4_ok : ∀ k, k < 3 → parseFieldDescriptor (TX4 k).2.2.1 = some (tyX4 k) := by decide +kernel
abbrev cX4_init : ByteArray := prog_6_method_1_code
def yX4_init : MethodName := ⟨RX4, "<init>", "()V"⟩
abbrev cX4_isThere : ByteArray := prog_6_method_2_code
def yX4_isThere : MethodName := ⟨RX4, "isThere", "()Z"⟩
abbrev cX4_renew : ByteArray := prog_6_method_3_code
def yX4_renew : MethodName := ⟨RX4, "renew", "(II)V"⟩
abbrev cX4_clear : ByteArray := prog_6_method_4_code
def yX4_clear : MethodName := ⟨RX4, "clear", "()Z"⟩
abbrev cX4_holds : ByteArray := prog_6_method_5_code
def yX4_holds : MethodName := ⟨RX4, "holds", "(II)Z"⟩
abbrev cX4_faultOfCells : ByteArray := prog_6_method_6_code
def yX4_faultOfCells : MethodName := ⟨RX4, "faultOfCells", "(III)I"⟩
abbrev cX4_read : ByteArray := prog_6_method_7_code
def yX4_read : MethodName := ⟨RX4, "read", "(I)I"⟩
abbrev cX4_write : ByteArray := prog_6_method_8_code
def yX4_write : MethodName := ⟨RX4, "write", "(II)V"⟩
abbrev cX4_cutToSort : ByteArray := prog_6_method_9_code
def yX4_cutToSort : MethodName := ⟨RX4, "cutToSort", "(I)I"⟩
def RX5 : String := "ThrowRows$Ways"
def TX5 : u_T := fun k => match k with
  | 0 => ("ThrowRows$Ways", "beats", "[I", true)
  | 1 => ("ThrowRows$Ways", "reached", "[I", true)
  | _ => ("ThrowRows$Ways", "reachedCount", "I", false)
def tyX5 : Nat → FieldType := fun k => match k with
  | 0 => .array .int
  | 1 => .array .int
  | _ => .int
abbrev wsX50 : List Cond := u_ws RX5 TX5 3
theorem nmX5 : ∀ a, a < 3 → ∀ b, b < 3 → a ≠ b → (TX5 a).2.1 ≠ (TX5 b).2.1 := by decide +kernel
theorem tyX5_ok : ∀ k, k < 3 → parseFieldDescriptor (TX5 k).2.2.1 = some (tyX5 k) := by decide +kernel
abbrev cX5_init : ByteArray := prog_7_method_1_code
def yX5_init : MethodName := ⟨RX5, "<init>", "()V"⟩
abbrev cX5_measure : ByteArray := prog_7_method_2_code
def yX5_measure : MethodName := ⟨RX5, "measure", "(II)V"⟩
abbrev cX5_reachFrom : ByteArray := prog_7_method_3_code
def yX5_reachFrom : MethodName := ⟨RX5, "reachFrom", "(II)V"⟩
abbrev cX5_reach : ByteArray := prog_7_method_4_code
def yX5_reach : MethodName := ⟨RX5, "reach", "(II)V"⟩
abbrev cX5_beatsFrom : ByteArray := prog_7_method_5_code
def yX5_beatsFrom : MethodName := ⟨RX5, "beatsFrom", "(I)I"⟩
abbrev cX5_throwOnWay : ByteArray := prog_7_method_6_code
def yX5_throwOnWay : MethodName := ⟨RX5, "throwOnWay", "(III)I"⟩
abbrev cX5_leastThrow : ByteArray := prog_7_method_7_code
def yX5_leastThrow : MethodName := ⟨RX5, "leastThrow", "(II)I"⟩
abbrev cX5_stateBehind : ByteArray := prog_7_method_8_code
def yX5_stateBehind : MethodName := ⟨RX5, "stateBehind", "(II)I"⟩
def RX6 : String := "ThrowRows"
def TX6 : u_T := fun k => match k with
  | 0 => ("ThrowRows", "row", "LThrowRows$Row;", true)
  | 1 => ("ThrowRows", "spare", "LThrowRows$Row;", true)
  | 2 => ("ThrowRows", "images", "[LThrowRows$Row;", true)
  | 3 => ("ThrowRows", "sheets", "[LThrowRows$Sheet;", true)
  | 4 => ("ThrowRows", "flight", "LThrowRows$Flight;", true)
  | 5 => ("ThrowRows", "kinds", "LThrowRows$Kinds;", true)
  | 6 => ("ThrowRows", "ways", "LThrowRows$Ways;", true)
  | 7 => ("ThrowRows", "fillings", "LThrowRows$Fillings;", true)
  | 8 => ("ThrowRows", "handCount", "I", false)
  | 9 => ("ThrowRows", "dropped", "I", false)
  | _ => ("ThrowRows", "latestFault", "I", false)
def tyX6 : Nat → FieldType := fun k => match k with
  | 0 => .object "ThrowRows$Row"
  | 1 => .object "ThrowRows$Row"
  | 2 => .array (.object "ThrowRows$Row")
  | 3 => .array (.object "ThrowRows$Sheet")
  | 4 => .object "ThrowRows$Flight"
  | 5 => .object "ThrowRows$Kinds"
  | 6 => .object "ThrowRows$Ways"
  | 7 => .object "ThrowRows$Fillings"
  | 8 => .int
  | 9 => .int
  | _ => .int
abbrev wsX60 : List Cond := u_ws RX6 TX6 11
theorem nmX6 : ∀ a, a < 11 → ∀ b, b < 11 → a ≠ b → (TX6 a).2.1 ≠ (TX6 b).2.1 := by decide +kernel
theorem tyX6_ok : ∀ k, k < 11 → parseFieldDescriptor (TX6 k).2.2.1 = some (tyX6 k) := by decide +kernel
abbrev cX6_init : ByteArray := prog_1_method_1_code
def yX6_init : MethodName := ⟨RX6, "<init>", "()V"⟩
abbrev cX6_pattern : ByteArray := prog_1_method_2_code
def yX6_pattern : MethodName := ⟨RX6, "pattern", "(IIII)I"⟩
abbrev cX6_throwOf : ByteArray := prog_1_method_3_code
def yX6_throwOf : MethodName := ⟨RX6, "throwOf", "(I)I"⟩
abbrev cX6_clash : ByteArray := prog_1_method_4_code
def yX6_clash : MethodName := ⟨RX6, "clash", "()I"⟩
abbrev cX6_good : ByteArray := prog_1_method_5_code
def yX6_good : MethodName := ⟨RX6, "good", "(I)I"⟩
abbrev cX6_state : ByteArray := prog_1_method_6_code
def yX6_state : MethodName := ⟨RX6, "state", "(I)I"⟩
abbrev cX6_ball : ByteArray := prog_1_method_7_code
def yX6_ball : MethodName := ⟨RX6, "ball", "(I)I"⟩
abbrev cX6_orbit : ByteArray := prog_1_method_8_code
def yX6_orbit : MethodName := ⟨RX6, "orbit", "(I)I"⟩
abbrev cX6_hands : ByteArray := prog_1_method_9_code
def yX6_hands : MethodName := ⟨RX6, "hands", "(I)I"⟩
abbrev cX6_beat : ByteArray := prog_1_method_10_code
def yX6_beat : MethodName := ⟨RX6, "beat", "(II)I"⟩
abbrev cX6_swap : ByteArray := prog_1_method_11_code
def yX6_swap : MethodName := ⟨RX6, "swap", "(II)I"⟩
abbrev cX6_turn : ByteArray := prog_1_method_12_code
def yX6_turn : MethodName := ⟨RX6, "turn", "(I)I"⟩
abbrev cX6_backward : ByteArray := prog_1_method_13_code
def yX6_backward : MethodName := ⟨RX6, "backward", "()I"⟩
abbrev cX6_greatest : ByteArray := prog_1_method_14_code
def yX6_greatest : MethodName := ⟨RX6, "greatest", "(I)I"⟩
abbrev cX6_keep : ByteArray := prog_1_method_15_code
def yX6_keep : MethodName := ⟨RX6, "keep", "(I)I"⟩
abbrev cX6_back : ByteArray := prog_1_method_16_code
def yX6_back : MethodName := ⟨RX6, "back", "(I)I"⟩
abbrev cX6_like : ByteArray := prog_1_method_17_code
def yX6_like : MethodName := ⟨RX6, "like", "(I)I"⟩
abbrev cX6_howMany : ByteArray := prog_1_method_18_code
def yX6_howMany : MethodName := ⟨RX6, "howMany", "(III)J"⟩
abbrev cX6_way : ByteArray := prog_1_method_19_code
def yX6_way : MethodName := ⟨RX6, "way", "(IIII)I"⟩
abbrev cX6_filled : ByteArray := prog_1_method_20_code
def yX6_filled : MethodName := ⟨RX6, "filled", "(IIIIII)J"⟩
abbrev cX6_kind : ByteArray := prog_1_method_21_code
def yX6_kind : MethodName := ⟨RX6, "kind", "(II)I"⟩
abbrev cX6_broken : ByteArray := prog_1_method_22_code
def yX6_broken : MethodName := ⟨RX6, "broken", "()I"⟩
abbrev cX6_drop : ByteArray := prog_1_method_23_code
def yX6_drop : MethodName := ⟨RX6, "drop", "(I)I"⟩
abbrev cX6_empty : ByteArray := prog_1_method_24_code
def yX6_empty : MethodName := ⟨RX6, "empty", "(I)I"⟩
abbrev cX6_sheet : ByteArray := prog_1_method_25_code
def yX6_sheet : MethodName := ⟨RX6, "sheet", "(III)I"⟩
abbrev cX6_lose : ByteArray := prog_1_method_26_code
def yX6_lose : MethodName := ⟨RX6, "lose", "(I)I"⟩
abbrev cX6_put : ByteArray := prog_1_method_27_code
def yX6_put : MethodName := ⟨RX6, "put", "(III)I"⟩
abbrev cX6_cell : ByteArray := prog_1_method_28_code
def yX6_cell : MethodName := ⟨RX6, "cell", "(III)J"⟩
abbrev cX6_copy : ByteArray := prog_1_method_29_code
def yX6_copy : MethodName := ⟨RX6, "copy", "(IIIII)I"⟩
abbrev cX6_tell : ByteArray := prog_1_method_30_code
def yX6_tell : MethodName := ⟨RX6, "tell", "(I)I"⟩
abbrev cX6_call : ByteArray := prog_1_method_31_code
def yX6_call : MethodName := ⟨RX6, "call", "(I)I"⟩
abbrev cX6_as : ByteArray := prog_1_method_32_code
def yX6_as : MethodName := ⟨RX6, "as", "(II)I"⟩
abbrev cX6_trace : ByteArray := prog_1_method_33_code
def yX6_trace : MethodName := ⟨RX6, "trace", "()I"⟩
abbrev cX6_fault : ByteArray := prog_1_method_34_code
def yX6_fault : MethodName := ⟨RX6, "fault", "()I"⟩
abbrev cX6_many : ByteArray := prog_1_method_35_code
def yX6_many : MethodName := ⟨RX6, "many", "(I)I"⟩
abbrev cX6_isWithin : ByteArray := prog_1_method_36_code
def yX6_isWithin : MethodName := ⟨RX6, "isWithin", "(III)Z"⟩
abbrev cX6_isSheet : ByteArray := prog_1_method_37_code
def yX6_isSheet : MethodName := ⟨RX6, "isSheet", "(I)Z"⟩
abbrev cX6_isSort : ByteArray := prog_1_method_38_code
def yX6_isSort : MethodName := ⟨RX6, "isSort", "(I)Z"⟩
abbrev cX6_isImage : ByteArray := prog_1_method_39_code
def yX6_isImage : MethodName := ⟨RX6, "isImage", "(I)Z"⟩
abbrev cX6_isBall : ByteArray := prog_1_method_40_code
def yX6_isBall : MethodName := ⟨RX6, "isBall", "(I)Z"⟩
abbrev cX6_isKind : ByteArray := prog_1_method_41_code
def yX6_isKind : MethodName := ⟨RX6, "isKind", "(I)Z"⟩
abbrev cX6_faulted : ByteArray := prog_1_method_42_code
def yX6_faulted : MethodName := ⟨RX6, "faulted", "(I)I"⟩
abbrev cX6_handIn : ByteArray := prog_1_method_43_code
def yX6_handIn : MethodName := ⟨RX6, "handIn", "(I)I"⟩
abbrev cX6_imageCount : ByteArray := prog_1_method_44_code
def yX6_imageCount : MethodName := ⟨RX6, "imageCount", "()I"⟩
abbrev cX6_firstWrongCode : ByteArray := prog_1_method_45_code
def yX6_firstWrongCode : MethodName := ⟨RX6, "firstWrongCode", "(LThrowRows$Sheet;II)I"⟩
abbrev cX6_takeText : ByteArray := prog_1_method_46_code
def yX6_takeText : MethodName := ⟨RX6, "takeText", "(LThrowRows$Sheet;II)V"⟩
abbrev cX6_areOpenOrThrows : ByteArray := prog_1_method_47_code
def yX6_areOpenOrThrows : MethodName := ⟨RX6, "areOpenOrThrows", "(LThrowRows$Sheet;II)Z"⟩
abbrev cX6_allowCells : ByteArray := prog_1_method_48_code
def yX6_allowCells : MethodName := ⟨RX6, "allowCells", "(LThrowRows$Sheet;II)V"⟩
def RX7 : String := "ThrowRowsModel"
def TX7 : u_T := fun k => match k with
  | 0 => ("ThrowRowsModel", "fault", "I", false)
  | 1 => ("ThrowRowsModel", "trace", "I", false)
  | 2 => ("ThrowRowsModel", "sorts", "[I", true)
  | 3 => ("ThrowRowsModel", "sheetLong", "[I", true)
  | 4 => ("ThrowRowsModel", "cells", "[I", true)
  | 5 => ("ThrowRowsModel", "period", "I", false)
  | 6 => ("ThrowRowsModel", "row", "[I", true)
  | 7 => ("ThrowRowsModel", "hands", "I", false)
  | 8 => ("ThrowRowsModel", "kinds", "[I", true)
  | 9 => ("ThrowRowsModel", "dropped", "I", false)
  | 10 => ("ThrowRowsModel", "orbits", "[I", true)
  | 11 => ("ThrowRowsModel", "ballOf", "[I", true)
  | 12 => ("ThrowRowsModel", "next", "[I", true)
  | 13 => ("ThrowRowsModel", "imagePeriod", "[I", true)
  | 14 => ("ThrowRowsModel", "imageRow", "[I", true)
  | 15 => ("ThrowRowsModel", "openLong", "I", false)
  | 16 => ("ThrowRowsModel", "openTop", "I", false)
  | 17 => ("ThrowRowsModel", "open", "[I", true)
  | 18 => ("ThrowRowsModel", "fills", "[J", true)
  | _ => ("ThrowRowsModel", "far", "[I", true)
def tyX7 : Nat → FieldType := fun k => match k with
  | 0 => .int
  | 1 => .int
  | 2 => .array .int
  | 3 => .array .int
  | 4 => .array .int
  | 5 => .int
  | 6 => .array .int
  | 7 => .int
  | 8 => .array .int
  | 9 => .int
  | 10 => .array .int
  | 11 => .array .int
  | 12 => .array .int
  | 13 => .array .int
  | 14 => .array .int
  | 15 => .int
  | 16 => .int
  | 17 => .array .int
  | 18 => .array .long
  | _ => .array .int
abbrev wsX70 : List Cond := u_ws RX7 TX7 20
theorem nmX7 : ∀ a, a < 20 → ∀ b, b < 20 → a ≠ b → (TX7 a).2.1 ≠ (TX7 b).2.1 := by decide +kernel
theorem tyX7_ok : ∀ k, k < 20 → parseFieldDescriptor (TX7 k).2.2.1 = some (tyX7 k) := by decide +kernel
abbrev cX7_init : ByteArray := prog_9_method_1_code
def yX7_init : MethodName := ⟨RX7, "<init>", "()V"⟩
abbrev cX7_fails : ByteArray := prog_9_method_3_code
def yX7_fails : MethodName := ⟨RX7, "fails", "(I)I"⟩
abbrev cX7_lost : ByteArray := prog_9_method_4_code
def yX7_lost : MethodName := ⟨RX7, "lost", "(I)J"⟩
abbrev cX7_within : ByteArray := prog_9_method_5_code
def yX7_within : MethodName := ⟨RX7, "within", "(III)Z"⟩
abbrev cX7_isSheet : ByteArray := prog_9_method_6_code
def yX7_isSheet : MethodName := ⟨RX7, "isSheet", "(I)Z"⟩
abbrev cX7_isSort : ByteArray := prog_9_method_7_code
def yX7_isSort : MethodName := ⟨RX7, "isSort", "(I)Z"⟩
abbrev cX7_against : ByteArray := prog_9_method_8_code
def yX7_against : MethodName := ⟨RX7, "against", "(IIII)I"⟩
abbrev cX7_isBeat : ByteArray := prog_9_method_9_code
def yX7_isBeat : MethodName := ⟨RX7, "isBeat", "(I)Z"⟩
abbrev cX7_pattern : ByteArray := prog_9_method_10_code
def yX7_pattern : MethodName := ⟨RX7, "pattern", "(IIII)I"⟩
abbrev cX7_throwOf : ByteArray := prog_9_method_11_code
def yX7_throwOf : MethodName := ⟨RX7, "throwOf", "(I)I"⟩
abbrev cX7_landsIn : ByteArray := prog_9_method_12_code
def yX7_landsIn : MethodName := ⟨RX7, "landsIn", "(I)I"⟩
abbrev cX7_findClash : ByteArray := prog_9_method_13_code
def yX7_findClash : MethodName := ⟨RX7, "findClash", "()I"⟩
abbrev cX7_clash : ByteArray := prog_9_method_14_code
def yX7_clash : MethodName := ⟨RX7, "clash", "()I"⟩
abbrev cX7_isGood : ByteArray := prog_9_method_15_code
def yX7_isGood : MethodName := ⟨RX7, "isGood", "()Z"⟩
abbrev cX7_balls : ByteArray := prog_9_method_16_code
def yX7_balls : MethodName := ⟨RX7, "balls", "()I"⟩
abbrev cX7_stateAhead : ByteArray := prog_9_method_17_code
def yX7_stateAhead : MethodName := ⟨RX7, "stateAhead", "(I)I"⟩
abbrev cX7_isPrime : ByteArray := prog_9_method_18_code
def yX7_isPrime : MethodName := ⟨RX7, "isPrime", "()Z"⟩
abbrev cX7_isGround : ByteArray := prog_9_method_19_code
def yX7_isGround : MethodName := ⟨RX7, "isGround", "()Z"⟩
abbrev cX7_findOrbits : ByteArray := prog_9_method_20_code
def yX7_findOrbits : MethodName := ⟨RX7, "findOrbits", "()I"⟩
abbrev cX7_greatestThrow : ByteArray := prog_9_method_21_code
def yX7_greatestThrow : MethodName := ⟨RX7, "greatestThrow", "()I"⟩
abbrev cX7_good : ByteArray := prog_9_method_22_code
def yX7_good : MethodName := ⟨RX7, "good", "(I)I"⟩
abbrev cX7_state : ByteArray := prog_9_method_23_code
def yX7_state : MethodName := ⟨RX7, "state", "(I)I"⟩
abbrev cX7_layBalls : ByteArray := prog_9_method_24_code
def yX7_layBalls : MethodName := ⟨RX7, "layBalls", "()V"⟩
abbrev cX7_ball : ByteArray := prog_9_method_25_code
def yX7_ball : MethodName := ⟨RX7, "ball", "(I)I"⟩
abbrev cX7_orbit : ByteArray := prog_9_method_26_code
def yX7_orbit : MethodName := ⟨RX7, "orbit", "(I)I"⟩
abbrev cX7_hands : ByteArray := prog_9_method_27_code
def yX7_hands : MethodName := ⟨RX7, "hands", "(I)I"⟩
abbrev cX7_size : ByteArray := prog_9_method_28_code
def yX7_size : MethodName := ⟨RX7, "size", "(I)I"⟩
abbrev cX7_beat : ByteArray := prog_9_method_29_code
def yX7_beat : MethodName := ⟨RX7, "beat", "(II)I"⟩
abbrev cX7_swap : ByteArray := prog_9_method_30_code
def yX7_swap : MethodName := ⟨RX7, "swap", "(II)I"⟩
abbrev cX7_takeNext : ByteArray := prog_9_method_31_code
def yX7_takeNext : MethodName := ⟨RX7, "takeNext", "()V"⟩
abbrev cX7_turn : ByteArray := prog_9_method_32_code
def yX7_turn : MethodName := ⟨RX7, "turn", "(I)I"⟩
abbrev cX7_backward : ByteArray := prog_9_method_33_code
def yX7_backward : MethodName := ⟨RX7, "backward", "()I"⟩
abbrev cX7_isGreater : ByteArray := prog_9_method_34_code
def yX7_isGreater : MethodName := ⟨RX7, "isGreater", "(II)Z"⟩
abbrev cX7_greatest : ByteArray := prog_9_method_35_code
def yX7_greatest : MethodName := ⟨RX7, "greatest", "(I)I"⟩
abbrev cX7_isImage : ByteArray := prog_9_method_36_code
def yX7_isImage : MethodName := ⟨RX7, "isImage", "(I)Z"⟩
abbrev cX7_keep : ByteArray := prog_9_method_37_code
def yX7_keep : MethodName := ⟨RX7, "keep", "(I)I"⟩
abbrev cX7_back : ByteArray := prog_9_method_38_code
def yX7_back : MethodName := ⟨RX7, "back", "(I)I"⟩
abbrev cX7_isTurned : ByteArray := prog_9_method_39_code
def yX7_isTurned : MethodName := ⟨RX7, "isTurned", "(II)Z"⟩
abbrev cX7_like : ByteArray := prog_9_method_40_code
def yX7_like : MethodName := ⟨RX7, "like", "(I)I"⟩
abbrev cX7_spot : ByteArray := prog_9_method_41_code
def yX7_spot : MethodName := ⟨RX7, "spot", "(II)I"⟩
abbrev cX7_mayThrow : ByteArray := prog_9_method_42_code
def yX7_mayThrow : MethodName := ⟨RX7, "mayThrow", "(II)Z"⟩
abbrev cX7_layFills : ByteArray := prog_9_method_43_code
def yX7_layFills : MethodName := ⟨RX7, "layFills", "()V"⟩
abbrev cX7_addFills : ByteArray := prog_9_method_44_code
def yX7_addFills : MethodName := ⟨RX7, "addFills", "(III)V"⟩
abbrev cX7_howMany : ByteArray := prog_9_method_45_code
def yX7_howMany : MethodName := ⟨RX7, "howMany", "(III)J"⟩
abbrev cX7_thrownTo : ByteArray := prog_9_method_46_code
def yX7_thrownTo : MethodName := ⟨RX7, "thrownTo", "(II)I"⟩
abbrev cX7_mayGo : ByteArray := prog_9_method_47_code
def yX7_mayGo : MethodName := ⟨RX7, "mayGo", "(III)Z"⟩
abbrev cX7_goesTo : ByteArray := prog_9_method_48_code
def yX7_goesTo : MethodName := ⟨RX7, "goesTo", "(II)I"⟩
abbrev cX7_findFar : ByteArray := prog_9_method_49_code
def yX7_findFar : MethodName := ⟨RX7, "findFar", "(II)V"⟩
abbrev cX7_way : ByteArray := prog_9_method_50_code
def yX7_way : MethodName := ⟨RX7, "way", "(IIII)I"⟩
abbrev cX7_filled : ByteArray := prog_9_method_51_code
def yX7_filled : MethodName := ⟨RX7, "filled", "(IIIIII)J"⟩
abbrev cX7_firstFill : ByteArray := prog_9_method_52_code
def yX7_firstFill : MethodName := ⟨RX7, "firstFill", "(II)J"⟩
abbrev cX7_leadsOn : ByteArray := prog_9_method_53_code
def yX7_leadsOn : MethodName := ⟨RX7, "leadsOn", "(IIII)Z"⟩
abbrev cX7_isBall : ByteArray := prog_9_method_54_code
def yX7_isBall : MethodName := ⟨RX7, "isBall", "(I)Z"⟩
abbrev cX7_kind : ByteArray := prog_9_method_55_code
def yX7_kind : MethodName := ⟨RX7, "kind", "(II)I"⟩
abbrev cX7_mayGoTo : ByteArray := prog_9_method_56_code
def yX7_mayGoTo : MethodName := ⟨RX7, "mayGoTo", "(I)I"⟩
abbrev cX7_broken : ByteArray := prog_9_method_57_code
def yX7_broken : MethodName := ⟨RX7, "broken", "()I"⟩
abbrev cX7_drop : ByteArray := prog_9_method_58_code
def yX7_drop : MethodName := ⟨RX7, "drop", "(I)I"⟩
abbrev cX7_empty : ByteArray := prog_9_method_59_code
def yX7_empty : MethodName := ⟨RX7, "empty", "(I)I"⟩
abbrev cX7_sheet : ByteArray := prog_9_method_60_code
def yX7_sheet : MethodName := ⟨RX7, "sheet", "(III)I"⟩
abbrev cX7_lose : ByteArray := prog_9_method_61_code
def yX7_lose : MethodName := ⟨RX7, "lose", "(I)I"⟩
abbrev cX7_put : ByteArray := prog_9_method_62_code
def yX7_put : MethodName := ⟨RX7, "put", "(III)I"⟩
abbrev cX7_cell : ByteArray := prog_9_method_63_code
def yX7_cell : MethodName := ⟨RX7, "cell", "(III)J"⟩
abbrev cX7_copy : ByteArray := prog_9_method_64_code
def yX7_copy : MethodName := ⟨RX7, "copy", "(IIIII)I"⟩
abbrev cX7_begins : ByteArray := prog_9_method_65_code
def yX7_begins : MethodName := ⟨RX7, "begins", "(I)V"⟩
abbrev cX7_tell : ByteArray := prog_9_method_66_code
def yX7_tell : MethodName := ⟨RX7, "tell", "(I)I"⟩
abbrev cX7_call : ByteArray := prog_9_method_67_code
def yX7_call : MethodName := ⟨RX7, "call", "(I)I"⟩
abbrev cX7_as : ByteArray := prog_9_method_68_code
def yX7_as : MethodName := ⟨RX7, "as", "(II)I"⟩
abbrev cX7_trace : ByteArray := prog_9_method_69_code
def yX7_trace : MethodName := ⟨RX7, "trace", "()I"⟩
abbrev cX7_fault : ByteArray := prog_9_method_70_code
def yX7_fault : MethodName := ⟨RX7, "fault", "()I"⟩
abbrev cX7_many : ByteArray := prog_9_method_71_code
def yX7_many : MethodName := ⟨RX7, "many", "(I)I"⟩
def RJ6 : String := "java/lang/Integer"
def TJ6 : u_T := fun k => match k with
  | _ => ("", "", "", false)
def tyJ6 : Nat → FieldType := fun k => match k with
  | _ => .int
abbrev wsJ60 : List Cond := u_ws RJ6 TJ6 0
theorem nmJ6 : ∀ a, a < 0 → ∀ b, b < 0 → a ≠ b → (TJ6 a).2.1 ≠ (TJ6 b).2.1 := by decide +kernel
theorem tyJ6_ok : ∀ k, k < 0 → parseFieldDescriptor (TJ6 k).2.2.1 = some (tyJ6 k) := by decide +kernel
abbrev cJ6_bitCount_0f7a4 : ByteArray := prog_10_method_49_code
def yJ6_bitCount_0f7a4 : MethodName := ⟨RJ6, "bitCount", "(I)I"⟩
def RJ9 : String := "java/lang/Math"
def TJ9 : u_T := fun k => match k with
  | _ => ("", "", "", false)
def tyJ9 : Nat → FieldType := fun k => match k with
  | _ => .int
abbrev wsJ90 : List Cond := u_ws RJ9 TJ9 0
theorem nmJ9 : ∀ a, a < 0 → ∀ b, b < 0 → a ≠ b → (TJ9 a).2.1 ≠ (TJ9 b).2.1 := by decide +kernel
theorem tyJ9_ok : ∀ k, k < 0 → parseFieldDescriptor (TJ9 k).2.2.1 = some (tyJ9 k) := by decide +kernel
abbrev cJ9_floorMod_7cf53 : ByteArray := prog_11_method_50_code
def yJ9_floorMod_7cf53 : MethodName := ⟨RJ9, "floorMod", "(II)I"⟩
abbrev cJ9_max_7cf53 : ByteArray := prog_11_method_65_code
def yJ9_max_7cf53 : MethodName := ⟨RJ9, "max", "(II)I"⟩
abbrev cJ9_min_7cf53 : ByteArray := prog_11_method_69_code
def yJ9_min_7cf53 : MethodName := ⟨RJ9, "min", "(II)I"⟩
def RJ10 : String := "java/lang/System"
def TJ10 : u_T := fun k => match k with
  | _ => ("", "", "", false)
def tyJ10 : Nat → FieldType := fun k => match k with
  | _ => .int
abbrev wsJ100 : List Cond := u_ws RJ10 TJ10 0
theorem nmJ10 : ∀ a, a < 0 → ∀ b, b < 0 → a ≠ b → (TJ10 a).2.1 ≠ (TJ10 b).2.1 := by decide +kernel
theorem tyJ10_ok : ∀ k, k < 0 → parseFieldDescriptor (TJ10 k).2.2.1 = some (tyJ10 k) := by decide +kernel
def RJ7 : String := "java/util/Arrays"
def TJ7 : u_T := fun k => match k with
  | _ => ("", "", "", false)
def tyJ7 : Nat → FieldType := fun k => match k with
  | _ => .int
abbrev wsJ70 : List Cond := u_ws RJ7 TJ7 0
theorem nmJ7 : ∀ a, a < 0 → ∀ b, b < 0 → a ≠ b → (TJ7 a).2.1 ≠ (TJ7 b).2.1 := by decide +kernel
theorem tyJ7_ok : ∀ k, k < 0 → parseFieldDescriptor (TJ7 k).2.2.1 = some (tyJ7 k) := by decide +kernel
abbrev cJ7_fill_53178 : ByteArray := prog_13_method_103_code
def yJ7_fill_53178 : MethodName := ⟨RJ7, "fill", "([II)V"⟩
def RL : String := "ThrowRowsLaw"
abbrev cL_law : ByteArray := code
def yL_law : MethodName := ⟨RL, "law", "([I)Z"⟩
abbrev vwCl : List vw_C := [(RX0, TX0, 3), (RX1, TX1, 2), (RX2, TX2, 2), (RX3, TX3, 2), (RX4, TX4, 3), (RX5, TX5, 3), (RX6, TX6, 11), (RX7, TX7, 20)]
