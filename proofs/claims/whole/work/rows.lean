section
/-- a private method of a class that the tables say can be made, by its rows of tables_1 -/
def lw_okq (q : MethodName × Nat) : Prop := (q.1.cls ≠ "java/lang/invoke/MethodHandle" ∧ q.1.cls ≠ "java/lang/invoke/VarHandle") ∧ Cond.instantiable q.1.cls q.2 ∈ tables_1 ∧ Cond.privateMethod q.1 ∈ tables_1 ∧ Cond.instanceMethod q.1 ∈ tables_1
theorem lw_p0 : lw_okq (⟨"ThrowRows", "takeText", "(LThrowRows$Sheet;II)V"⟩, 11) := ⟨⟨by decide +kernel, by decide +kernel⟩, List.mem_of_getElem? (i := 14) (by decide +kernel), List.mem_of_getElem? (i := 182) (by decide +kernel), List.mem_of_getElem? (i := 183) (by decide +kernel)⟩
theorem lw_p1 : lw_okq (⟨"ThrowRows", "handIn", "(I)I"⟩, 11) := ⟨⟨by decide +kernel, by decide +kernel⟩, List.mem_of_getElem? (i := 14) (by decide +kernel), List.mem_of_getElem? (i := 306) (by decide +kernel), List.mem_of_getElem? (i := 307) (by decide +kernel)⟩
theorem lw_p2 : lw_okq (⟨"ThrowRows$Row", "isTurnGreater", "(II)Z"⟩, 2) := ⟨⟨by decide +kernel, by decide +kernel⟩, List.mem_of_getElem? (i := 22) (by decide +kernel), List.mem_of_getElem? (i := 350) (by decide +kernel), List.mem_of_getElem? (i := 351) (by decide +kernel)⟩
theorem lw_p3 : lw_okq (⟨"ThrowRows$Fillings", "addThrow", "(IIII)V"⟩, 3) := ⟨⟨by decide +kernel, by decide +kernel⟩, List.mem_of_getElem? (i := 83) (by decide +kernel), List.mem_of_getElem? (i := 390) (by decide +kernel), List.mem_of_getElem? (i := 391) (by decide +kernel)⟩
theorem lw_p4 : lw_okq (⟨"ThrowRows$Ways", "reach", "(II)V"⟩, 3) := ⟨⟨by decide +kernel, by decide +kernel⟩, List.mem_of_getElem? (i := 67) (by decide +kernel), List.mem_of_getElem? (i := 403) (by decide +kernel), List.mem_of_getElem? (i := 404) (by decide +kernel)⟩
theorem lw_p5 : lw_okq (⟨"ThrowRows$Ways", "reachFrom", "(II)V"⟩, 3) := ⟨⟨by decide +kernel, by decide +kernel⟩, List.mem_of_getElem? (i := 67) (by decide +kernel), List.mem_of_getElem? (i := 408) (by decide +kernel), List.mem_of_getElem? (i := 409) (by decide +kernel)⟩
theorem lw_p6 : lw_okq (⟨"ThrowRows$Ways", "leastThrow", "(II)I"⟩, 3) := ⟨⟨by decide +kernel, by decide +kernel⟩, List.mem_of_getElem? (i := 67) (by decide +kernel), List.mem_of_getElem? (i := 421) (by decide +kernel), List.mem_of_getElem? (i := 422) (by decide +kernel)⟩
theorem lw_p7 : lw_okq (⟨"ThrowRows", "allowCells", "(LThrowRows$Sheet;II)V"⟩, 11) := ⟨⟨by decide +kernel, by decide +kernel⟩, List.mem_of_getElem? (i := 14) (by decide +kernel), List.mem_of_getElem? (i := 435) (by decide +kernel), List.mem_of_getElem? (i := 436) (by decide +kernel)⟩
theorem lw_p8 : lw_okq (⟨"ThrowRows$Fillings", "firstThrow", "(III)I"⟩, 3) := ⟨⟨by decide +kernel, by decide +kernel⟩, List.mem_of_getElem? (i := 83) (by decide +kernel), List.mem_of_getElem? (i := 443) (by decide +kernel), List.mem_of_getElem? (i := 444) (by decide +kernel)⟩
theorem lw_p9 : lw_okq (⟨"ThrowRows", "faulted", "(I)I"⟩, 11) := ⟨⟨by decide +kernel, by decide +kernel⟩, List.mem_of_getElem? (i := 14) (by decide +kernel), List.mem_of_getElem? (i := 487) (by decide +kernel), List.mem_of_getElem? (i := 488) (by decide +kernel)⟩
theorem lw_p10 : lw_okq (⟨"ThrowRows$Sheet", "cutToSort", "(I)I"⟩, 3) := ⟨⟨by decide +kernel, by decide +kernel⟩, List.mem_of_getElem? (i := 98) (by decide +kernel), List.mem_of_getElem? (i := 514) (by decide +kernel), List.mem_of_getElem? (i := 515) (by decide +kernel)⟩
theorem lw_p11 : lw_okq (⟨"ThrowRows$Kinds", "tellingOfEgg", "(I)I"⟩, 2) := ⟨⟨by decide +kernel, by decide +kernel⟩, List.mem_of_getElem? (i := 53) (by decide +kernel), List.mem_of_getElem? (i := 537) (by decide +kernel), List.mem_of_getElem? (i := 538) (by decide +kernel)⟩
theorem lw_p12 : lw_okq (⟨"ThrowRows$Kinds", "leave", "(I)V"⟩, 2) := ⟨⟨by decide +kernel, by decide +kernel⟩, List.mem_of_getElem? (i := 53) (by decide +kernel), List.mem_of_getElem? (i := 541) (by decide +kernel), List.mem_of_getElem? (i := 542) (by decide +kernel)⟩
theorem lw_p13 : lw_okq (⟨"ThrowRows$Kinds", "tellingOfHeavy", "(I)I"⟩, 2) := ⟨⟨by decide +kernel, by decide +kernel⟩, List.mem_of_getElem? (i := 53) (by decide +kernel), List.mem_of_getElem? (i := 545) (by decide +kernel), List.mem_of_getElem? (i := 546) (by decide +kernel)⟩
theorem lw_p14 : lw_okq (⟨"ThrowRows$Kinds", "tellingOfBall", "(I)I"⟩, 2) := ⟨⟨by decide +kernel, by decide +kernel⟩, List.mem_of_getElem? (i := 53) (by decide +kernel), List.mem_of_getElem? (i := 549) (by decide +kernel), List.mem_of_getElem? (i := 550) (by decide +kernel)⟩
theorem lw_p15 : lw_okq (⟨"ThrowRows", "imageCount", "()I"⟩, 11) := ⟨⟨by decide +kernel, by decide +kernel⟩, List.mem_of_getElem? (i := 14) (by decide +kernel), List.mem_of_getElem? (i := 578) (by decide +kernel), List.mem_of_getElem? (i := 579) (by decide +kernel)⟩
def lw_privs_1 : List (MethodName × Nat) := [(⟨"ThrowRows", "takeText", "(LThrowRows$Sheet;II)V"⟩, 11), (⟨"ThrowRows", "handIn", "(I)I"⟩, 11), (⟨"ThrowRows$Row", "isTurnGreater", "(II)Z"⟩, 2), (⟨"ThrowRows$Fillings", "addThrow", "(IIII)V"⟩, 3), (⟨"ThrowRows$Ways", "reach", "(II)V"⟩, 3), (⟨"ThrowRows$Ways", "reachFrom", "(II)V"⟩, 3), (⟨"ThrowRows$Ways", "leastThrow", "(II)I"⟩, 3), (⟨"ThrowRows", "allowCells", "(LThrowRows$Sheet;II)V"⟩, 11), (⟨"ThrowRows$Fillings", "firstThrow", "(III)I"⟩, 3), (⟨"ThrowRows", "faulted", "(I)I"⟩, 11), (⟨"ThrowRows$Sheet", "cutToSort", "(I)I"⟩, 3), (⟨"ThrowRows$Kinds", "tellingOfEgg", "(I)I"⟩, 2), (⟨"ThrowRows$Kinds", "leave", "(I)V"⟩, 2), (⟨"ThrowRows$Kinds", "tellingOfHeavy", "(I)I"⟩, 2), (⟨"ThrowRows$Kinds", "tellingOfBall", "(I)I"⟩, 2), (⟨"ThrowRows", "imageCount", "()I"⟩, 11)]
theorem lw_r1 : ∀ q ∈ lw_privs_1, lw_okq q := List.forall_mem_cons.mpr ⟨lw_p0, List.forall_mem_cons.mpr ⟨lw_p1, List.forall_mem_cons.mpr ⟨lw_p2, List.forall_mem_cons.mpr ⟨lw_p3, List.forall_mem_cons.mpr ⟨lw_p4, List.forall_mem_cons.mpr ⟨lw_p5, List.forall_mem_cons.mpr ⟨lw_p6, List.forall_mem_cons.mpr ⟨lw_p7, List.forall_mem_cons.mpr ⟨lw_p8, List.forall_mem_cons.mpr ⟨lw_p9, List.forall_mem_cons.mpr ⟨lw_p10, List.forall_mem_cons.mpr ⟨lw_p11, List.forall_mem_cons.mpr ⟨lw_p12, List.forall_mem_cons.mpr ⟨lw_p13, List.forall_mem_cons.mpr ⟨lw_p14, List.forall_mem_cons.mpr ⟨lw_p15, fun _ h => absurd h List.not_mem_nil⟩⟩⟩⟩⟩⟩⟩⟩⟩⟩⟩⟩⟩⟩⟩⟩
theorem lw_p16 : lw_okq (⟨"ThrowRowsModel", "against", "(IIII)I"⟩, 20) := ⟨⟨by decide +kernel, by decide +kernel⟩, List.mem_of_getElem? (i := 582) (by decide +kernel), List.mem_of_getElem? (i := 663) (by decide +kernel), List.mem_of_getElem? (i := 664) (by decide +kernel)⟩
theorem lw_p17 : lw_okq (⟨"ThrowRowsModel", "fails", "(I)I"⟩, 20) := ⟨⟨by decide +kernel, by decide +kernel⟩, List.mem_of_getElem? (i := 582) (by decide +kernel), List.mem_of_getElem? (i := 667) (by decide +kernel), List.mem_of_getElem? (i := 668) (by decide +kernel)⟩
theorem lw_p18 : lw_okq (⟨"ThrowRowsModel", "isBeat", "(I)Z"⟩, 20) := ⟨⟨by decide +kernel, by decide +kernel⟩, List.mem_of_getElem? (i := 582) (by decide +kernel), List.mem_of_getElem? (i := 675) (by decide +kernel), List.mem_of_getElem? (i := 676) (by decide +kernel)⟩
theorem lw_p19 : lw_okq (⟨"ThrowRowsModel", "findClash", "()I"⟩, 20) := ⟨⟨by decide +kernel, by decide +kernel⟩, List.mem_of_getElem? (i := 582) (by decide +kernel), List.mem_of_getElem? (i := 683) (by decide +kernel), List.mem_of_getElem? (i := 684) (by decide +kernel)⟩
theorem lw_p20 : lw_okq (⟨"ThrowRowsModel", "landsIn", "(I)I"⟩, 20) := ⟨⟨by decide +kernel, by decide +kernel⟩, List.mem_of_getElem? (i := 582) (by decide +kernel), List.mem_of_getElem? (i := 687) (by decide +kernel), List.mem_of_getElem? (i := 688) (by decide +kernel)⟩
theorem lw_p21 : lw_okq (⟨"ThrowRowsModel", "isGood", "()Z"⟩, 20) := ⟨⟨by decide +kernel, by decide +kernel⟩, List.mem_of_getElem? (i := 582) (by decide +kernel), List.mem_of_getElem? (i := 695) (by decide +kernel), List.mem_of_getElem? (i := 696) (by decide +kernel)⟩
theorem lw_p22 : lw_okq (⟨"ThrowRowsModel", "balls", "()I"⟩, 20) := ⟨⟨by decide +kernel, by decide +kernel⟩, List.mem_of_getElem? (i := 582) (by decide +kernel), List.mem_of_getElem? (i := 699) (by decide +kernel), List.mem_of_getElem? (i := 700) (by decide +kernel)⟩
theorem lw_p23 : lw_okq (⟨"ThrowRowsModel", "greatestThrow", "()I"⟩, 20) := ⟨⟨by decide +kernel, by decide +kernel⟩, List.mem_of_getElem? (i := 582) (by decide +kernel), List.mem_of_getElem? (i := 703) (by decide +kernel), List.mem_of_getElem? (i := 704) (by decide +kernel)⟩
theorem lw_p24 : lw_okq (⟨"ThrowRowsModel", "isPrime", "()Z"⟩, 20) := ⟨⟨by decide +kernel, by decide +kernel⟩, List.mem_of_getElem? (i := 582) (by decide +kernel), List.mem_of_getElem? (i := 707) (by decide +kernel), List.mem_of_getElem? (i := 708) (by decide +kernel)⟩
theorem lw_p25 : lw_okq (⟨"ThrowRowsModel", "stateAhead", "(I)I"⟩, 20) := ⟨⟨by decide +kernel, by decide +kernel⟩, List.mem_of_getElem? (i := 582) (by decide +kernel), List.mem_of_getElem? (i := 711) (by decide +kernel), List.mem_of_getElem? (i := 712) (by decide +kernel)⟩
theorem lw_p26 : lw_okq (⟨"ThrowRowsModel", "isGround", "()Z"⟩, 20) := ⟨⟨by decide +kernel, by decide +kernel⟩, List.mem_of_getElem? (i := 582) (by decide +kernel), List.mem_of_getElem? (i := 715) (by decide +kernel), List.mem_of_getElem? (i := 716) (by decide +kernel)⟩
theorem lw_p27 : lw_okq (⟨"ThrowRowsModel", "findOrbits", "()I"⟩, 20) := ⟨⟨by decide +kernel, by decide +kernel⟩, List.mem_of_getElem? (i := 582) (by decide +kernel), List.mem_of_getElem? (i := 719) (by decide +kernel), List.mem_of_getElem? (i := 720) (by decide +kernel)⟩
theorem lw_p28 : lw_okq (⟨"ThrowRowsModel", "layBalls", "()V"⟩, 20) := ⟨⟨by decide +kernel, by decide +kernel⟩, List.mem_of_getElem? (i := 582) (by decide +kernel), List.mem_of_getElem? (i := 731) (by decide +kernel), List.mem_of_getElem? (i := 732) (by decide +kernel)⟩
theorem lw_p29 : lw_okq (⟨"ThrowRowsModel", "takeNext", "()V"⟩, 20) := ⟨⟨by decide +kernel, by decide +kernel⟩, List.mem_of_getElem? (i := 582) (by decide +kernel), List.mem_of_getElem? (i := 758) (by decide +kernel), List.mem_of_getElem? (i := 759) (by decide +kernel)⟩
theorem lw_p30 : lw_okq (⟨"ThrowRowsModel", "isGreater", "(II)Z"⟩, 20) := ⟨⟨by decide +kernel, by decide +kernel⟩, List.mem_of_getElem? (i := 582) (by decide +kernel), List.mem_of_getElem? (i := 770) (by decide +kernel), List.mem_of_getElem? (i := 771) (by decide +kernel)⟩
theorem lw_p31 : lw_okq (⟨"ThrowRowsModel", "isTurned", "(II)Z"⟩, 20) := ⟨⟨by decide +kernel, by decide +kernel⟩, List.mem_of_getElem? (i := 582) (by decide +kernel), List.mem_of_getElem? (i := 789) (by decide +kernel), List.mem_of_getElem? (i := 790) (by decide +kernel)⟩
def lw_privs_2 : List (MethodName × Nat) := [(⟨"ThrowRowsModel", "against", "(IIII)I"⟩, 20), (⟨"ThrowRowsModel", "fails", "(I)I"⟩, 20), (⟨"ThrowRowsModel", "isBeat", "(I)Z"⟩, 20), (⟨"ThrowRowsModel", "findClash", "()I"⟩, 20), (⟨"ThrowRowsModel", "landsIn", "(I)I"⟩, 20), (⟨"ThrowRowsModel", "isGood", "()Z"⟩, 20), (⟨"ThrowRowsModel", "balls", "()I"⟩, 20), (⟨"ThrowRowsModel", "greatestThrow", "()I"⟩, 20), (⟨"ThrowRowsModel", "isPrime", "()Z"⟩, 20), (⟨"ThrowRowsModel", "stateAhead", "(I)I"⟩, 20), (⟨"ThrowRowsModel", "isGround", "()Z"⟩, 20), (⟨"ThrowRowsModel", "findOrbits", "()I"⟩, 20), (⟨"ThrowRowsModel", "layBalls", "()V"⟩, 20), (⟨"ThrowRowsModel", "takeNext", "()V"⟩, 20), (⟨"ThrowRowsModel", "isGreater", "(II)Z"⟩, 20), (⟨"ThrowRowsModel", "isTurned", "(II)Z"⟩, 20)]
theorem lw_r2 : ∀ q ∈ lw_privs_2, lw_okq q := List.forall_mem_cons.mpr ⟨lw_p16, List.forall_mem_cons.mpr ⟨lw_p17, List.forall_mem_cons.mpr ⟨lw_p18, List.forall_mem_cons.mpr ⟨lw_p19, List.forall_mem_cons.mpr ⟨lw_p20, List.forall_mem_cons.mpr ⟨lw_p21, List.forall_mem_cons.mpr ⟨lw_p22, List.forall_mem_cons.mpr ⟨lw_p23, List.forall_mem_cons.mpr ⟨lw_p24, List.forall_mem_cons.mpr ⟨lw_p25, List.forall_mem_cons.mpr ⟨lw_p26, List.forall_mem_cons.mpr ⟨lw_p27, List.forall_mem_cons.mpr ⟨lw_p28, List.forall_mem_cons.mpr ⟨lw_p29, List.forall_mem_cons.mpr ⟨lw_p30, List.forall_mem_cons.mpr ⟨lw_p31, fun _ h => absurd h List.not_mem_nil⟩⟩⟩⟩⟩⟩⟩⟩⟩⟩⟩⟩⟩⟩⟩⟩
theorem lw_p32 : lw_okq (⟨"ThrowRowsModel", "layFills", "()V"⟩, 20) := ⟨⟨by decide +kernel, by decide +kernel⟩, List.mem_of_getElem? (i := 582) (by decide +kernel), List.mem_of_getElem? (i := 798) (by decide +kernel), List.mem_of_getElem? (i := 799) (by decide +kernel)⟩
theorem lw_p33 : lw_okq (⟨"ThrowRowsModel", "mayThrow", "(II)Z"⟩, 20) := ⟨⟨by decide +kernel, by decide +kernel⟩, List.mem_of_getElem? (i := 582) (by decide +kernel), List.mem_of_getElem? (i := 805) (by decide +kernel), List.mem_of_getElem? (i := 806) (by decide +kernel)⟩
theorem lw_p34 : lw_okq (⟨"ThrowRowsModel", "addFills", "(III)V"⟩, 20) := ⟨⟨by decide +kernel, by decide +kernel⟩, List.mem_of_getElem? (i := 582) (by decide +kernel), List.mem_of_getElem? (i := 809) (by decide +kernel), List.mem_of_getElem? (i := 810) (by decide +kernel)⟩
theorem lw_p35 : lw_okq (⟨"ThrowRowsModel", "findFar", "(II)V"⟩, 20) := ⟨⟨by decide +kernel, by decide +kernel⟩, List.mem_of_getElem? (i := 582) (by decide +kernel), List.mem_of_getElem? (i := 817) (by decide +kernel), List.mem_of_getElem? (i := 818) (by decide +kernel)⟩
theorem lw_p36 : lw_okq (⟨"ThrowRowsModel", "lost", "(I)J"⟩, 20) := ⟨⟨by decide +kernel, by decide +kernel⟩, List.mem_of_getElem? (i := 582) (by decide +kernel), List.mem_of_getElem? (i := 834) (by decide +kernel), List.mem_of_getElem? (i := 835) (by decide +kernel)⟩
theorem lw_p37 : lw_okq (⟨"ThrowRowsModel", "firstFill", "(II)J"⟩, 20) := ⟨⟨by decide +kernel, by decide +kernel⟩, List.mem_of_getElem? (i := 582) (by decide +kernel), List.mem_of_getElem? (i := 838) (by decide +kernel), List.mem_of_getElem? (i := 839) (by decide +kernel)⟩
theorem lw_p38 : lw_okq (⟨"ThrowRowsModel", "leadsOn", "(IIII)Z"⟩, 20) := ⟨⟨by decide +kernel, by decide +kernel⟩, List.mem_of_getElem? (i := 582) (by decide +kernel), List.mem_of_getElem? (i := 842) (by decide +kernel), List.mem_of_getElem? (i := 843) (by decide +kernel)⟩
theorem lw_p39 : lw_okq (⟨"ThrowRowsModel", "mayGoTo", "(I)I"⟩, 20) := ⟨⟨by decide +kernel, by decide +kernel⟩, List.mem_of_getElem? (i := 582) (by decide +kernel), List.mem_of_getElem? (i := 857) (by decide +kernel), List.mem_of_getElem? (i := 858) (by decide +kernel)⟩
theorem lw_p40 : lw_okq (⟨"ThrowRowsModel", "begins", "(I)V"⟩, 20) := ⟨⟨by decide +kernel, by decide +kernel⟩, List.mem_of_getElem? (i := 582) (by decide +kernel), List.mem_of_getElem? (i := 893) (by decide +kernel), List.mem_of_getElem? (i := 894) (by decide +kernel)⟩
def lw_privs_3 : List (MethodName × Nat) := [(⟨"ThrowRowsModel", "layFills", "()V"⟩, 20), (⟨"ThrowRowsModel", "mayThrow", "(II)Z"⟩, 20), (⟨"ThrowRowsModel", "addFills", "(III)V"⟩, 20), (⟨"ThrowRowsModel", "findFar", "(II)V"⟩, 20), (⟨"ThrowRowsModel", "lost", "(I)J"⟩, 20), (⟨"ThrowRowsModel", "firstFill", "(II)J"⟩, 20), (⟨"ThrowRowsModel", "leadsOn", "(IIII)Z"⟩, 20), (⟨"ThrowRowsModel", "mayGoTo", "(I)I"⟩, 20), (⟨"ThrowRowsModel", "begins", "(I)V"⟩, 20)]
theorem lw_r3 : ∀ q ∈ lw_privs_3, lw_okq q := List.forall_mem_cons.mpr ⟨lw_p32, List.forall_mem_cons.mpr ⟨lw_p33, List.forall_mem_cons.mpr ⟨lw_p34, List.forall_mem_cons.mpr ⟨lw_p35, List.forall_mem_cons.mpr ⟨lw_p36, List.forall_mem_cons.mpr ⟨lw_p37, List.forall_mem_cons.mpr ⟨lw_p38, List.forall_mem_cons.mpr ⟨lw_p39, List.forall_mem_cons.mpr ⟨lw_p40, fun _ h => absurd h List.not_mem_nil⟩⟩⟩⟩⟩⟩⟩⟩⟩
def lw_privs : List (MethodName × Nat) := lw_privs_1 ++ (lw_privs_2 ++ (lw_privs_3))
def lw_tbl : List Cond := k2_sels lw_privs ++ tables_1
theorem lw_privs_ok : ∀ q ∈ lw_privs, lw_okq q := by
  show ∀ q ∈ lw_privs_1 ++ (lw_privs_2 ++ (lw_privs_3)), lw_okq q
  exact List.forall_mem_append.mpr ⟨lw_r1, List.forall_mem_append.mpr ⟨lw_r2, lw_r3⟩⟩

def RX0 : String := "ThrowRows$Fillings"
def TX0 : u_T := fun k => match k with
  | 0 => ("ThrowRows$Fillings", "least", "[I", true)
  | 1 => ("ThrowRows$Fillings", "most", "[I", true)
  | _ => ("ThrowRows$Fillings", "counts", "[I", true)
def tyX0 : Nat → FieldType := fun k => match k with
  | 0 => .array .int
  | 1 => .array .int
  | _ => .array .int
abbrev wsX00 : List Cond := u_ws RX0 TX0 3
theorem nmX0 : ∀ a, a < 3 → ∀ b, b < 3 → a ≠ b → (TX0 a).2.1 ≠ (TX0 b).2.1 := by decide +kernel
theorem tyX0_ok : ∀ k, k < 3 → parseFieldDescriptor (TX0 k).2.2.1 = some (tyX0 k) := by decide +kernel
abbrev cX0_init : ByteArray := prog_2_method_1_code
def yX0_init : MethodName := ⟨RX0, "<init>", "()V"⟩
abbrev cX0_allow : ByteArray := prog_2_method_2_code
def yX0_allow : MethodName := ⟨RX0, "allow", "(III)V"⟩
abbrev cX0_count : ByteArray := prog_2_method_3_code
def yX0_count : MethodName := ⟨RX0, "count", "(II)I"⟩
abbrev cX0_addThrow : ByteArray := prog_2_method_4_code
def yX0_addThrow : MethodName := ⟨RX0, "addThrow", "(IIII)V"⟩
abbrev cX0_throwOfFirst : ByteArray := prog_2_method_5_code
def yX0_throwOfFirst : MethodName := ⟨RX0, "throwOfFirst", "(III)I"⟩
abbrev cX0_firstThrow : ByteArray := prog_2_method_6_code
def yX0_firstThrow : MethodName := ⟨RX0, "firstThrow", "(III)I"⟩
def RX1 : String := "ThrowRows$Flight"
def TX1 : u_T := fun k => match k with
  | 0 => ("ThrowRows$Flight", "landing", "[I", true)
  | _ => ("ThrowRows$Flight", "seen", "I", false)
def tyX1 : Nat → FieldType := fun k => match k with
  | 0 => .array .int
  | _ => .int
abbrev wsX10 : List Cond := u_ws RX1 TX1 2
theorem nmX1 : ∀ a, a < 2 → ∀ b, b < 2 → a ≠ b → (TX1 a).2.1 ≠ (TX1 b).2.1 := by decide +kernel
theorem tyX1_ok : ∀ k, k < 2 → parseFieldDescriptor (TX1 k).2.2.1 = some (tyX1 k) := by decide +kernel
abbrev cX1_init : ByteArray := prog_3_method_1_code
def yX1_init : MethodName := ⟨RX1, "<init>", "()V"⟩
abbrev cX1_begin : ByteArray := prog_3_method_2_code
def yX1_begin : MethodName := ⟨RX1, "begin", "()V"⟩
abbrev cX1_pass : ByteArray := prog_3_method_3_code
def yX1_pass : MethodName := ⟨RX1, "pass", "(II)I"⟩
def RX2 : String := "ThrowRows$Kinds"
def TX2 : u_T := fun k => match k with
  | 0 => ("ThrowRows$Kinds", "kinds", "[I", true)
  | _ => ("ThrowRows$Kinds", "traced", "I", false)
def tyX2 : Nat → FieldType := fun k => match k with
  | 0 => .array .int
  | _ => .int
abbrev wsX20 : List Cond := u_ws RX2 TX2 2
theorem nmX2 : ∀ a, a < 2 → ∀ b, b < 2 → a ≠ b → (TX2 a).2.1 ≠ (TX2 b).2.1 := by decide +kernel
theorem tyX2_ok : ∀ k, k < 2 → parseFieldDescriptor (TX2 k).2.2.1 = some (tyX2 k) := by decide +kernel
abbrev cX2_init : ByteArray := prog_4_method_1_code
def yX2_init : MethodName := ⟨RX2, "<init>", "()V"⟩
abbrev cX2_reset : ByteArray := prog_4_method_2_code
def yX2_reset : MethodName := ⟨RX2, "reset", "()V"⟩
abbrev cX2_kindOf : ByteArray := prog_4_method_3_code
def yX2_kindOf : MethodName := ⟨RX2, "kindOf", "(I)I"⟩
abbrev cX2_setKind : ByteArray := prog_4_method_4_code
def yX2_setKind : MethodName := ⟨RX2, "setKind", "(II)V"⟩
abbrev cX2_mayGo : ByteArray := prog_4_method_5_code
def yX2_mayGo : MethodName := ⟨RX2, "mayGo", "(I)I"⟩
abbrev cX2_telling : ByteArray := prog_4_method_6_code
def yX2_telling : MethodName := ⟨RX2, "telling", "(I)I"⟩
abbrev cX2_calling : ByteArray := prog_4_method_7_code
def yX2_calling : MethodName := ⟨RX2, "calling", "(I)I"⟩
abbrev cX2_tellingOfBall : ByteArray := prog_4_method_8_code
def yX2_tellingOfBall : MethodName := ⟨RX2, "tellingOfBall", "(I)I"⟩
abbrev cX2_tellingOfHeavy : ByteArray := prog_4_method_9_code
def yX2_tellingOfHeavy : MethodName := ⟨RX2, "tellingOfHeavy", "(I)I"⟩
abbrev cX2_tellingOfEgg : ByteArray := prog_4_method_10_code
def yX2_tellingOfEgg : MethodName := ⟨RX2, "tellingOfEgg", "(I)I"⟩
abbrev cX2_leave : ByteArray := prog_4_method_11_code
def yX2_leave : MethodName := ⟨RX2, "leave", "(I)V"⟩
def RX3 : String := "ThrowRows$Row"
def TX3 : u_T := fun k => match k with
  | 0 => ("ThrowRows$Row", "heights", "[I", true)
  | _ => ("ThrowRows$Row", "period", "I", false)
def tyX3 : Nat → FieldType := fun k => match k with
  | 0 => .array .int
  | _ => .int
abbrev wsX30 : List Cond := u_ws RX3 TX3 2
theorem nmX3 : ∀ a, a < 2 → ∀ b, b < 2 → a ≠ b → (TX3 a).2.1 ≠ (TX3 b).2.1 := by decide +kernel
theorem tyX3_ok : ∀ k, k < 2 → parseFieldDescriptor (TX3 k).2.2.1 = some (tyX3 k) := by decide +kernel
abbrev cX3_init : ByteArray := prog_5_method_1_code
def yX3_init : MethodName := ⟨RX3, "<init>", "()V"⟩
abbrev cX3_isThere : ByteArray := prog_5_method_2_code
def yX3_isThere : MethodName := ⟨RX3, "isThere", "()Z"⟩
abbrev cX3_hasBeat : ByteArray := prog_5_method_3_code
def yX3_hasBeat : MethodName := ⟨RX3, "hasBeat", "(I)Z"⟩
abbrev cX3_heightIn : ByteArray := prog_5_method_4_code
def yX3_heightIn : MethodName := ⟨RX3, "heightIn", "(I)I"⟩
abbrev cX3_setHeight : ByteArray := prog_5_method_5_code
def yX3_setHeight : MethodName := ⟨RX3, "setHeight", "(II)V"⟩
abbrev cX3_landingOf : ByteArray := prog_5_method_6_code
def yX3_landingOf : MethodName := ⟨RX3, "landingOf", "(I)I"⟩
abbrev cX3_firstClash : ByteArray := prog_5_method_7_code
def yX3_firstClash : MethodName := ⟨RX3, "firstClash", "()I"⟩
abbrev cX3_isGood : ByteArray := prog_5_method_8_code
def yX3_isGood : MethodName := ⟨RX3, "isGood", "()Z"⟩
abbrev cX3_ballCount : ByteArray := prog_5_method_9_code
def yX3_ballCount : MethodName := ⟨RX3, "ballCount", "()I"⟩
abbrev cX3_greatestHeight : ByteArray := prog_5_method_10_code
def yX3_greatestHeight : MethodName := ⟨RX3, "greatestHeight", "()I"⟩
abbrev cX3_stateAhead : ByteArray := prog_5_method_11_code
def yX3_stateAhead : MethodName := ⟨RX3, "stateAhead", "(I)I"⟩
abbrev cX3_isPrime : ByteArray := prog_5_method_12_code
def yX3_isPrime : MethodName := ⟨RX3, "isPrime", "()Z"⟩
abbrev cX3_isGround : ByteArray := prog_5_method_13_code
def yX3_isGround : MethodName := ⟨RX3, "isGround", "()Z"⟩
abbrev cX3_leastInOrbit : ByteArray := prog_5_method_14_code
def yX3_leastInOrbit : MethodName := ⟨RX3, "leastInOrbit", "(I)I"⟩
abbrev cX3_orbitsBelow : ByteArray := prog_5_method_15_code
def yX3_orbitsBelow : MethodName := ⟨RX3, "orbitsBelow", "(I)I"⟩
abbrev cX3_take : ByteArray := prog_5_method_16_code
def yX3_take : MethodName := ⟨RX3, "take", "(LThrowRows$Row;)V"⟩
abbrev cX3_takeTurned : ByteArray := prog_5_method_17_code
def yX3_takeTurned : MethodName := ⟨RX3, "takeTurned", "(LThrowRows$Row;I)V"⟩
abbrev cX3_takeBackward : ByteArray := prog_5_method_18_code
def yX3_takeBackward : MethodName := ⟨RX3, "takeBackward", "(LThrowRows$Row;)V"⟩
abbrev cX3_greatestTurn : ByteArray := prog_5_method_19_code
def yX3_greatestTurn : MethodName := ⟨RX3, "greatestTurn", "()I"⟩
abbrev cX3_isTurnGreater : ByteArray := prog_5_method_20_code
def yX3_isTurnGreater : MethodName := ⟨RX3, "isTurnGreater", "(II)Z"⟩
abbrev cX3_isTurned : ByteArray := prog_5_method_21_code
def yX3_isTurned : MethodName := ⟨RX3, "isTurned", "(LThrowRows$Row;)Z"⟩
def RX4 : String := "ThrowRows$Sheet"
def TX4 : u_T := fun k => match k with
  | 0 => ("ThrowRows$Sheet", "cells", "[I", true)
  | 1 => ("ThrowRows$Sheet", "length", "I", false)
  | _ => ("ThrowRows$Sheet", "sort", "I", false)
def tyX4 : Nat → FieldType := fun k => match k with
  | 0 => .array .int
  | 1 => .int
  | _ => .int
abbrev wsX40 : List Cond := u_ws RX4 TX4 3
theorem nmX4 : ∀ a, a < 3 → ∀ b, b < 3 → a ≠ b → (TX4 a).2.1 ≠ (TX4 b).2.1 := by decide +kernel
theorem tyX4_ok : ∀ k, k < 3 → parseFieldDescriptor (TX4 k).2.2.1 = some (tyX4 k) := by decide +kernel
abbrev cX4_init : ByteArray := prog_6_method_1_code
def yX4_init : MethodName := ⟨RX4, "<init>", "()V"⟩
abbrev cX4_isThere : ByteArray := prog_6_method_2_code
def yX4_isThere : MethodName := ⟨RX4, "isThere", "()Z"⟩
abbrev cX4_renew : ByteArray := prog_6_method_3_code
def yX4_renew : MethodName := ⟨RX4, "renew", "(II)V"⟩
abbrev cX4_clear : ByteArray := prog_6_method_4_code
def yX4_clear : MethodName := ⟨RX4, "clear", "()Z"⟩
abbrev cX4_holds : ByteArray := prog_6_method_5_code
def yX4_holds : MethodName := ⟨RX4, "holds", "(II)Z"⟩
abbrev cX4_faultOfCells : ByteArray := prog_6_method_6_code
def yX4_faultOfCells : MethodName := ⟨RX4, "faultOfCells", "(III)I"⟩
abbrev cX4_read : ByteArray := prog_6_method_7_code
def yX4_read : MethodName := ⟨RX4, "read", "(I)I"⟩
abbrev cX4_write : ByteArray := prog_6_method_8_code
def yX4_write : MethodName := ⟨RX4, "write", "(II)V"⟩
abbrev cX4_cutToSort : ByteArray := prog_6_method_9_code
def yX4_cutToSort : MethodName := ⟨RX4, "cutToSort", "(I)I"⟩
def RX5 : String := "ThrowRows$Ways"
def TX5 : u_T := fun k => match k with
  | 0 => ("ThrowRows$Ways", "beats", "[I", true)
  | 1 => ("ThrowRows$Ways", "reached", "[I", true)
  | _ => ("ThrowRows$Ways", "reachedCount", "I", false)
def tyX5 : Nat → FieldType := fun k => match k with
  | 0 => .array .int
  | 1 => .array .int
  | _ => .int
abbrev wsX50 : List Cond := u_ws RX5 TX5 3
theorem nmX5 : ∀ a, a < 3 → ∀ b, b < 3 → a ≠ b → (TX5 a).2.1 ≠ (TX5 b).2.1 := by decide +kernel
theorem tyX5_ok : ∀ k, k < 3 → parseFieldDescriptor (TX5 k).2.2.1 = some (tyX5 k) := by decide +kernel
abbrev cX5_init : ByteArray := prog_7_method_1_code
def yX5_init : MethodName := ⟨RX5, "<init>", "()V"⟩
abbrev cX5_measure : ByteArray := prog_7_method_2_code
def yX5_measure : MethodName := ⟨RX5, "measure", "(II)V"⟩
abbrev cX5_reachFrom : ByteArray := prog_7_method_3_code
def yX5_reachFrom : MethodName := ⟨RX5, "reachFrom", "(II)V"⟩
abbrev cX5_reach : ByteArray := prog_7_method_4_code
def yX5_reach : MethodName := ⟨RX5, "reach", "(II)V"⟩
abbrev cX5_beatsFrom : ByteArray := prog_7_method_5_code
def yX5_beatsFrom : MethodName := ⟨RX5, "beatsFrom", "(I)I"⟩
abbrev cX5_throwOnWay : ByteArray := prog_7_method_6_code
def yX5_throwOnWay : MethodName := ⟨RX5, "throwOnWay", "(III)I"⟩
abbrev cX5_leastThrow : ByteArray := prog_7_method_7_code
def yX5_leastThrow : MethodName := ⟨RX5, "leastThrow", "(II)I"⟩
abbrev cX5_stateBehind : ByteArray := prog_7_method_8_code
def yX5_stateBehind : MethodName := ⟨RX5, "stateBehind", "(II)I"⟩
def RX6 : String := "ThrowRows"
def TX6 : u_T := fun k => match k with
  | 0 => ("ThrowRows", "row", "LThrowRows$Row;", true)
  | 1 => ("ThrowRows", "spare", "LThrowRows$Row;", true)
  | 2 => ("ThrowRows", "images", "[LThrowRows$Row;", true)
  | 3 => ("ThrowRows", "sheets", "[LThrowRows$Sheet;", true)
  | 4 => ("ThrowRows", "flight", "LThrowRows$Flight;", true)
  | 5 => ("ThrowRows", "kinds", "LThrowRows$Kinds;", true)
  | 6 => ("ThrowRows", "ways", "LThrowRows$Ways;", true)
  | 7 => ("ThrowRows", "fillings", "LThrowRows$Fillings;", true)
  | 8 => ("ThrowRows", "handCount", "I", false)
  | 9 => ("ThrowRows", "dropped", "I", false)
  | _ => ("ThrowRows", "latestFault", "I", false)
def tyX6 : Nat → FieldType := fun k => match k with
  | 0 => .object "ThrowRows$Row"
  | 1 => .object "ThrowRows$Row"
  | 2 => .array (.object "ThrowRows$Row")
  | 3 => .array (.object "ThrowRows$Sheet")
  | 4 => .object "ThrowRows$Flight"
  | 5 => .object "ThrowRows$Kinds"
  | 6 => .object "ThrowRows$Ways"
  | 7 => .object "ThrowRows$Fillings"
  | 8 => .int
  | 9 => .int
  | _ => .int
abbrev wsX60 : List Cond := u_ws RX6 TX6 11
theorem nmX6 : ∀ a, a < 11 → ∀ b, b < 11 → a ≠ b → (TX6 a).2.1 ≠ (TX6 b).2.1 := by decide +kernel
theorem tyX6_ok : ∀ k, k < 11 → parseFieldDescriptor (TX6 k).2.2.1 = some (tyX6 k) := by decide +kernel
abbrev cX6_init : ByteArray := prog_1_method_1_code
def yX6_init : MethodName := ⟨RX6, "<init>", "()V"⟩
abbrev cX6_pattern : ByteArray := prog_1_method_2_code
def yX6_pattern : MethodName := ⟨RX6, "pattern", "(IIII)I"⟩
abbrev cX6_throwOf : ByteArray := prog_1_method_3_code
def yX6_throwOf : MethodName := ⟨RX6, "throwOf", "(I)I"⟩
abbrev cX6_clash : ByteArray := prog_1_method_4_code
def yX6_clash : MethodName := ⟨RX6, "clash", "()I"⟩
abbrev cX6_good : ByteArray := prog_1_method_5_code
def yX6_good : MethodName := ⟨RX6, "good", "(I)I"⟩
abbrev cX6_state : ByteArray := prog_1_method_6_code
def yX6_state : MethodName := ⟨RX6, "state", "(I)I"⟩
abbrev cX6_ball : ByteArray := prog_1_method_7_code
def yX6_ball : MethodName := ⟨RX6, "ball", "(I)I"⟩
abbrev cX6_orbit : ByteArray := prog_1_method_8_code
def yX6_orbit : MethodName := ⟨RX6, "orbit", "(I)I"⟩
abbrev cX6_hands : ByteArray := prog_1_method_9_code
def yX6_hands : MethodName := ⟨RX6, "hands", "(I)I"⟩
abbrev cX6_beat : ByteArray := prog_1_method_10_code
def yX6_beat : MethodName := ⟨RX6, "beat", "(II)I"⟩
abbrev cX6_swap : ByteArray := prog_1_method_11_code
def yX6_swap : MethodName := ⟨RX6, "swap", "(II)I"⟩
abbrev cX6_turn : ByteArray := prog_1_method_12_code
def yX6_turn : MethodName := ⟨RX6, "turn", "(I)I"⟩
abbrev cX6_backward : ByteArray := prog_1_method_13_code
def yX6_backward : MethodName := ⟨RX6, "backward", "()I"⟩
abbrev cX6_greatest : ByteArray := prog_1_method_14_code
def yX6_greatest : MethodName := ⟨RX6, "greatest", "(I)I"⟩
abbrev cX6_keep : ByteArray := prog_1_method_15_code
def yX6_keep : MethodName := ⟨RX6, "keep", "(I)I"⟩
abbrev cX6_back : ByteArray := prog_1_method_16_code
def yX6_back : MethodName := ⟨RX6, "back", "(I)I"⟩
abbrev cX6_like : ByteArray := prog_1_method_17_code
def yX6_like : MethodName := ⟨RX6, "like", "(I)I"⟩
abbrev cX6_howMany : ByteArray := prog_1_method_18_code
def yX6_howMany : MethodName := ⟨RX6, "howMany", "(III)J"⟩
abbrev cX6_way : ByteArray := prog_1_method_19_code
def yX6_way : MethodName := ⟨RX6, "way", "(IIII)I"⟩
abbrev cX6_filled : ByteArray := prog_1_method_20_code
def yX6_filled : MethodName := ⟨RX6, "filled", "(IIIIII)J"⟩
abbrev cX6_kind : ByteArray := prog_1_method_21_code
def yX6_kind : MethodName := ⟨RX6, "kind", "(II)I"⟩
abbrev cX6_broken : ByteArray := prog_1_method_22_code
def yX6_broken : MethodName := ⟨RX6, "broken", "()I"⟩
abbrev cX6_drop : ByteArray := prog_1_method_23_code
def yX6_drop : MethodName := ⟨RX6, "drop", "(I)I"⟩
abbrev cX6_empty : ByteArray := prog_1_method_24_code
def yX6_empty : MethodName := ⟨RX6, "empty", "(I)I"⟩
abbrev cX6_sheet : ByteArray := prog_1_method_25_code
def yX6_sheet : MethodName := ⟨RX6, "sheet", "(III)I"⟩
abbrev cX6_lose : ByteArray := prog_1_method_26_code
def yX6_lose : MethodName := ⟨RX6, "lose", "(I)I"⟩
abbrev cX6_put : ByteArray := prog_1_method_27_code
def yX6_put : MethodName := ⟨RX6, "put", "(III)I"⟩
abbrev cX6_cell : ByteArray := prog_1_method_28_code
def yX6_cell : MethodName := ⟨RX6, "cell", "(III)J"⟩
abbrev cX6_copy : ByteArray := prog_1_method_29_code
def yX6_copy : MethodName := ⟨RX6, "copy", "(IIIII)I"⟩
abbrev cX6_tell : ByteArray := prog_1_method_30_code
def yX6_tell : MethodName := ⟨RX6, "tell", "(I)I"⟩
abbrev cX6_call : ByteArray := prog_1_method_31_code
def yX6_call : MethodName := ⟨RX6, "call", "(I)I"⟩
abbrev cX6_as : ByteArray := prog_1_method_32_code
def yX6_as : MethodName := ⟨RX6, "as", "(II)I"⟩
abbrev cX6_trace : ByteArray := prog_1_method_33_code
def yX6_trace : MethodName := ⟨RX6, "trace", "()I"⟩
abbrev cX6_fault : ByteArray := prog_1_method_34_code
def yX6_fault : MethodName := ⟨RX6, "fault", "()I"⟩
abbrev cX6_many : ByteArray := prog_1_method_35_code
def yX6_many : MethodName := ⟨RX6, "many", "(I)I"⟩
abbrev cX6_isWithin : ByteArray := prog_1_method_36_code
def yX6_isWithin : MethodName := ⟨RX6, "isWithin", "(III)Z"⟩
abbrev cX6_isSheet : ByteArray := prog_1_method_37_code
def yX6_isSheet : MethodName := ⟨RX6, "isSheet", "(I)Z"⟩
abbrev cX6_isSort : ByteArray := prog_1_method_38_code
def yX6_isSort : MethodName := ⟨RX6, "isSort", "(I)Z"⟩
abbrev cX6_isImage : ByteArray := prog_1_method_39_code
def yX6_isImage : MethodName := ⟨RX6, "isImage", "(I)Z"⟩
abbrev cX6_isBall : ByteArray := prog_1_method_40_code
def yX6_isBall : MethodName := ⟨RX6, "isBall", "(I)Z"⟩
abbrev cX6_isKind : ByteArray := prog_1_method_41_code
def yX6_isKind : MethodName := ⟨RX6, "isKind", "(I)Z"⟩
abbrev cX6_faulted : ByteArray := prog_1_method_42_code
def yX6_faulted : MethodName := ⟨RX6, "faulted", "(I)I"⟩
abbrev cX6_handIn : ByteArray := prog_1_method_43_code
def yX6_handIn : MethodName := ⟨RX6, "handIn", "(I)I"⟩
abbrev cX6_imageCount : ByteArray := prog_1_method_44_code
def yX6_imageCount : MethodName := ⟨RX6, "imageCount", "()I"⟩
abbrev cX6_firstWrongCode : ByteArray := prog_1_method_45_code
def yX6_firstWrongCode : MethodName := ⟨RX6, "firstWrongCode", "(LThrowRows$Sheet;II)I"⟩
abbrev cX6_takeText : ByteArray := prog_1_method_46_code
def yX6_takeText : MethodName := ⟨RX6, "takeText", "(LThrowRows$Sheet;II)V"⟩
abbrev cX6_areOpenOrThrows : ByteArray := prog_1_method_47_code
def yX6_areOpenOrThrows : MethodName := ⟨RX6, "areOpenOrThrows", "(LThrowRows$Sheet;II)Z"⟩
abbrev cX6_allowCells : ByteArray := prog_1_method_48_code
def yX6_allowCells : MethodName := ⟨RX6, "allowCells", "(LThrowRows$Sheet;II)V"⟩
def RX7 : String := "ThrowRowsModel"
def TX7 : u_T := fun k => match k with
  | 0 => ("ThrowRowsModel", "fault", "I", false)
  | 1 => ("ThrowRowsModel", "trace", "I", false)
  | 2 => ("ThrowRowsModel", "sorts", "[I", true)
  | 3 => ("ThrowRowsModel", "sheetLong", "[I", true)
  | 4 => ("ThrowRowsModel", "cells", "[I", true)
  | 5 => ("ThrowRowsModel", "period", "I", false)
  | 6 => ("ThrowRowsModel", "row", "[I", true)
  | 7 => ("ThrowRowsModel", "hands", "I", false)
  | 8 => ("ThrowRowsModel", "kinds", "[I", true)
  | 9 => ("ThrowRowsModel", "dropped", "I", false)
  | 10 => ("ThrowRowsModel", "orbits", "[I", true)
  | 11 => ("ThrowRowsModel", "ballOf", "[I", true)
  | 12 => ("ThrowRowsModel", "next", "[I", true)
  | 13 => ("ThrowRowsModel", "imagePeriod", "[I", true)
  | 14 => ("ThrowRowsModel", "imageRow", "[I", true)
  | 15 => ("ThrowRowsModel", "openLong", "I", false)
  | 16 => ("ThrowRowsModel", "openTop", "I", false)
  | 17 => ("ThrowRowsModel", "open", "[I", true)
  | 18 => ("ThrowRowsModel", "fills", "[J", true)
  | _ => ("ThrowRowsModel", "far", "[I", true)
def tyX7 : Nat → FieldType := fun k => match k with
  | 0 => .int
  | 1 => .int
  | 2 => .array .int
  | 3 => .array .int
  | 4 => .array .int
  | 5 => .int
  | 6 => .array .int
  | 7 => .int
  | 8 => .array .int
  | 9 => .int
  | 10 => .array .int
  | 11 => .array .int
  | 12 => .array .int
  | 13 => .array .int
  | 14 => .array .int
  | 15 => .int
  | 16 => .int
  | 17 => .array .int
  | 18 => .array .long
  | _ => .array .int
abbrev wsX70 : List Cond := u_ws RX7 TX7 20
theorem nmX7 : ∀ a, a < 20 → ∀ b, b < 20 → a ≠ b → (TX7 a).2.1 ≠ (TX7 b).2.1 := by decide +kernel
theorem tyX7_ok : ∀ k, k < 20 → parseFieldDescriptor (TX7 k).2.2.1 = some (tyX7 k) := by decide +kernel
abbrev cX7_init : ByteArray := prog_9_method_1_code
def yX7_init : MethodName := ⟨RX7, "<init>", "()V"⟩
abbrev cX7_fails : ByteArray := prog_9_method_3_code
def yX7_fails : MethodName := ⟨RX7, "fails", "(I)I"⟩
abbrev cX7_lost : ByteArray := prog_9_method_4_code
def yX7_lost : MethodName := ⟨RX7, "lost", "(I)J"⟩
abbrev cX7_within : ByteArray := prog_9_method_5_code
def yX7_within : MethodName := ⟨RX7, "within", "(III)Z"⟩
abbrev cX7_isSheet : ByteArray := prog_9_method_6_code
def yX7_isSheet : MethodName := ⟨RX7, "isSheet", "(I)Z"⟩
abbrev cX7_isSort : ByteArray := prog_9_method_7_code
def yX7_isSort : MethodName := ⟨RX7, "isSort", "(I)Z"⟩
abbrev cX7_against : ByteArray := prog_9_method_8_code
def yX7_against : MethodName := ⟨RX7, "against", "(IIII)I"⟩
abbrev cX7_isBeat : ByteArray := prog_9_method_9_code
def yX7_isBeat : MethodName := ⟨RX7, "isBeat", "(I)Z"⟩
abbrev cX7_pattern : ByteArray := prog_9_method_10_code
def yX7_pattern : MethodName := ⟨RX7, "pattern", "(IIII)I"⟩
abbrev cX7_throwOf : ByteArray := prog_9_method_11_code
def yX7_throwOf : MethodName := ⟨RX7, "throwOf", "(I)I"⟩
abbrev cX7_landsIn : ByteArray := prog_9_method_12_code
def yX7_landsIn : MethodName := ⟨RX7, "landsIn", "(I)I"⟩
abbrev cX7_findClash : ByteArray := prog_9_method_13_code
def yX7_findClash : MethodName := ⟨RX7, "findClash", "()I"⟩
abbrev cX7_clash : ByteArray := prog_9_method_14_code
def yX7_clash : MethodName := ⟨RX7, "clash", "()I"⟩
abbrev cX7_isGood : ByteArray := prog_9_method_15_code
def yX7_isGood : MethodName := ⟨RX7, "isGood", "()Z"⟩
abbrev cX7_balls : ByteArray := prog_9_method_16_code
def yX7_balls : MethodName := ⟨RX7, "balls", "()I"⟩
abbrev cX7_stateAhead : ByteArray := prog_9_method_17_code
def yX7_stateAhead : MethodName := ⟨RX7, "stateAhead", "(I)I"⟩
abbrev cX7_isPrime : ByteArray := prog_9_method_18_code
def yX7_isPrime : MethodName := ⟨RX7, "isPrime", "()Z"⟩
abbrev cX7_isGround : ByteArray := prog_9_method_19_code
def yX7_isGround : MethodName := ⟨RX7, "isGround", "()Z"⟩
abbrev cX7_findOrbits : ByteArray := prog_9_method_20_code
def yX7_findOrbits : MethodName := ⟨RX7, "findOrbits", "()I"⟩
abbrev cX7_greatestThrow : ByteArray := prog_9_method_21_code
def yX7_greatestThrow : MethodName := ⟨RX7, "greatestThrow", "()I"⟩
abbrev cX7_good : ByteArray := prog_9_method_22_code
def yX7_good : MethodName := ⟨RX7, "good", "(I)I"⟩
abbrev cX7_state : ByteArray := prog_9_method_23_code
def yX7_state : MethodName := ⟨RX7, "state", "(I)I"⟩
abbrev cX7_layBalls : ByteArray := prog_9_method_24_code
def yX7_layBalls : MethodName := ⟨RX7, "layBalls", "()V"⟩
abbrev cX7_ball : ByteArray := prog_9_method_25_code
def yX7_ball : MethodName := ⟨RX7, "ball", "(I)I"⟩
abbrev cX7_orbit : ByteArray := prog_9_method_26_code
def yX7_orbit : MethodName := ⟨RX7, "orbit", "(I)I"⟩
abbrev cX7_hands : ByteArray := prog_9_method_27_code
def yX7_hands : MethodName := ⟨RX7, "hands", "(I)I"⟩
abbrev cX7_size : ByteArray := prog_9_method_28_code
def yX7_size : MethodName := ⟨RX7, "size", "(I)I"⟩
abbrev cX7_beat : ByteArray := prog_9_method_29_code
def yX7_beat : MethodName := ⟨RX7, "beat", "(II)I"⟩
abbrev cX7_swap : ByteArray := prog_9_method_30_code
def yX7_swap : MethodName := ⟨RX7, "swap", "(II)I"⟩
abbrev cX7_takeNext : ByteArray := prog_9_method_31_code
def yX7_takeNext : MethodName := ⟨RX7, "takeNext", "()V"⟩
abbrev cX7_turn : ByteArray := prog_9_method_32_code
def yX7_turn : MethodName := ⟨RX7, "turn", "(I)I"⟩
abbrev cX7_backward : ByteArray := prog_9_method_33_code
def yX7_backward : MethodName := ⟨RX7, "backward", "()I"⟩
abbrev cX7_isGreater : ByteArray := prog_9_method_34_code
def yX7_isGreater : MethodName := ⟨RX7, "isGreater", "(II)Z"⟩
abbrev cX7_greatest : ByteArray := prog_9_method_35_code
def yX7_greatest : MethodName := ⟨RX7, "greatest", "(I)I"⟩
abbrev cX7_isImage : ByteArray := prog_9_method_36_code
def yX7_isImage : MethodName := ⟨RX7, "isImage", "(I)Z"⟩
abbrev cX7_keep : ByteArray := prog_9_method_37_code
def yX7_keep : MethodName := ⟨RX7, "keep", "(I)I"⟩
abbrev cX7_back : ByteArray := prog_9_method_38_code
def yX7_back : MethodName := ⟨RX7, "back", "(I)I"⟩
abbrev cX7_isTurned : ByteArray := prog_9_method_39_code
def yX7_isTurned : MethodName := ⟨RX7, "isTurned", "(II)Z"⟩
abbrev cX7_like : ByteArray := prog_9_method_40_code
def yX7_like : MethodName := ⟨RX7, "like", "(I)I"⟩
abbrev cX7_spot : ByteArray := prog_9_method_41_code
def yX7_spot : MethodName := ⟨RX7, "spot", "(II)I"⟩
abbrev cX7_mayThrow : ByteArray := prog_9_method_42_code
def yX7_mayThrow : MethodName := ⟨RX7, "mayThrow", "(II)Z"⟩
abbrev cX7_layFills : ByteArray := prog_9_method_43_code
def yX7_layFills : MethodName := ⟨RX7, "layFills", "()V"⟩
abbrev cX7_addFills : ByteArray := prog_9_method_44_code
def yX7_addFills : MethodName := ⟨RX7, "addFills", "(III)V"⟩
abbrev cX7_howMany : ByteArray := prog_9_method_45_code
def yX7_howMany : MethodName := ⟨RX7, "howMany", "(III)J"⟩
abbrev cX7_thrownTo : ByteArray := prog_9_method_46_code
def yX7_thrownTo : MethodName := ⟨RX7, "thrownTo", "(II)I"⟩
abbrev cX7_mayGo : ByteArray := prog_9_method_47_code
def yX7_mayGo : MethodName := ⟨RX7, "mayGo", "(III)Z"⟩
abbrev cX7_goesTo : ByteArray := prog_9_method_48_code
def yX7_goesTo : MethodName := ⟨RX7, "goesTo", "(II)I"⟩
abbrev cX7_findFar : ByteArray := prog_9_method_49_code
def yX7_findFar : MethodName := ⟨RX7, "findFar", "(II)V"⟩
abbrev cX7_way : ByteArray := prog_9_method_50_code
def yX7_way : MethodName := ⟨RX7, "way", "(IIII)I"⟩
abbrev cX7_filled : ByteArray := prog_9_method_51_code
def yX7_filled : MethodName := ⟨RX7, "filled", "(IIIIII)J"⟩
abbrev cX7_firstFill : ByteArray := prog_9_method_52_code
def yX7_firstFill : MethodName := ⟨RX7, "firstFill", "(II)J"⟩
abbrev cX7_leadsOn : ByteArray := prog_9_method_53_code
def yX7_leadsOn : MethodName := ⟨RX7, "leadsOn", "(IIII)Z"⟩
abbrev cX7_isBall : ByteArray := prog_9_method_54_code
def yX7_isBall : MethodName := ⟨RX7, "isBall", "(I)Z"⟩
abbrev cX7_kind : ByteArray := prog_9_method_55_code
def yX7_kind : MethodName := ⟨RX7, "kind", "(II)I"⟩
abbrev cX7_mayGoTo : ByteArray := prog_9_method_56_code
def yX7_mayGoTo : MethodName := ⟨RX7, "mayGoTo", "(I)I"⟩
abbrev cX7_broken : ByteArray := prog_9_method_57_code
def yX7_broken : MethodName := ⟨RX7, "broken", "()I"⟩
abbrev cX7_drop : ByteArray := prog_9_method_58_code
def yX7_drop : MethodName := ⟨RX7, "drop", "(I)I"⟩
abbrev cX7_empty : ByteArray := prog_9_method_59_code
def yX7_empty : MethodName := ⟨RX7, "empty", "(I)I"⟩
abbrev cX7_sheet : ByteArray := prog_9_method_60_code
def yX7_sheet : MethodName := ⟨RX7, "sheet", "(III)I"⟩
abbrev cX7_lose : ByteArray := prog_9_method_61_code
def yX7_lose : MethodName := ⟨RX7, "lose", "(I)I"⟩
abbrev cX7_put : ByteArray := prog_9_method_62_code
def yX7_put : MethodName := ⟨RX7, "put", "(III)I"⟩
abbrev cX7_cell : ByteArray := prog_9_method_63_code
def yX7_cell : MethodName := ⟨RX7, "cell", "(III)J"⟩
abbrev cX7_copy : ByteArray := prog_9_method_64_code
def yX7_copy : MethodName := ⟨RX7, "copy", "(IIIII)I"⟩
abbrev cX7_begins : ByteArray := prog_9_method_65_code
def yX7_begins : MethodName := ⟨RX7, "begins", "(I)V"⟩
abbrev cX7_tell : ByteArray := prog_9_method_66_code
def yX7_tell : MethodName := ⟨RX7, "tell", "(I)I"⟩
abbrev cX7_call : ByteArray := prog_9_method_67_code
def yX7_call : MethodName := ⟨RX7, "call", "(I)I"⟩
abbrev cX7_as : ByteArray := prog_9_method_68_code
def yX7_as : MethodName := ⟨RX7, "as", "(II)I"⟩
abbrev cX7_trace : ByteArray := prog_9_method_69_code
def yX7_trace : MethodName := ⟨RX7, "trace", "()I"⟩
abbrev cX7_fault : ByteArray := prog_9_method_70_code
def yX7_fault : MethodName := ⟨RX7, "fault", "()I"⟩
abbrev cX7_many : ByteArray := prog_9_method_71_code
def yX7_many : MethodName := ⟨RX7, "many", "(I)I"⟩
def RJ6 : String := "java/lang/Integer"
def TJ6 : u_T := fun k => match k with
  | _ => ("", "", "", false)
def tyJ6 : Nat → FieldType := fun k => match k with
  | _ => .int
abbrev wsJ60 : List Cond := u_ws RJ6 TJ6 0
theorem nmJ6 : ∀ a, a < 0 → ∀ b, b < 0 → a ≠ b → (TJ6 a).2.1 ≠ (TJ6 b).2.1 := by decide +kernel
theorem tyJ6_ok : ∀ k, k < 0 → parseFieldDescriptor (TJ6 k).2.2.1 = some (tyJ6 k) := by decide +kernel
abbrev cJ6_bitCount_0f7a4 : ByteArray := prog_10_method_49_code
def yJ6_bitCount_0f7a4 : MethodName := ⟨RJ6, "bitCount", "(I)I"⟩
def RJ9 : String := "java/lang/Math"
def TJ9 : u_T := fun k => match k with
  | _ => ("", "", "", false)
def tyJ9 : Nat → FieldType := fun k => match k with
  | _ => .int
abbrev wsJ90 : List Cond := u_ws RJ9 TJ9 0
theorem nmJ9 : ∀ a, a < 0 → ∀ b, b < 0 → a ≠ b → (TJ9 a).2.1 ≠ (TJ9 b).2.1 := by decide +kernel
theorem tyJ9_ok : ∀ k, k < 0 → parseFieldDescriptor (TJ9 k).2.2.1 = some (tyJ9 k) := by decide +kernel
abbrev cJ9_floorMod_7cf53 : ByteArray := prog_11_method_50_code
def yJ9_floorMod_7cf53 : MethodName := ⟨RJ9, "floorMod", "(II)I"⟩
abbrev cJ9_max_7cf53 : ByteArray := prog_11_method_65_code
def yJ9_max_7cf53 : MethodName := ⟨RJ9, "max", "(II)I"⟩
abbrev cJ9_min_7cf53 : ByteArray := prog_11_method_69_code
def yJ9_min_7cf53 : MethodName := ⟨RJ9, "min", "(II)I"⟩
def RJ10 : String := "java/lang/System"
def TJ10 : u_T := fun k => match k with
  | _ => ("", "", "", false)
def tyJ10 : Nat → FieldType := fun k => match k with
  | _ => .int
abbrev wsJ100 : List Cond := u_ws RJ10 TJ10 0
theorem nmJ10 : ∀ a, a < 0 → ∀ b, b < 0 → a ≠ b → (TJ10 a).2.1 ≠ (TJ10 b).2.1 := by decide +kernel
theorem tyJ10_ok : ∀ k, k < 0 → parseFieldDescriptor (TJ10 k).2.2.1 = some (tyJ10 k) := by decide +kernel
def RJ7 : String := "java/util/Arrays"
def TJ7 : u_T := fun k => match k with
  | _ => ("", "", "", false)
def tyJ7 : Nat → FieldType := fun k => match k with
  | _ => .int
abbrev wsJ70 : List Cond := u_ws RJ7 TJ7 0
theorem nmJ7 : ∀ a, a < 0 → ∀ b, b < 0 → a ≠ b → (TJ7 a).2.1 ≠ (TJ7 b).2.1 := by decide +kernel
theorem tyJ7_ok : ∀ k, k < 0 → parseFieldDescriptor (TJ7 k).2.2.1 = some (tyJ7 k) := by decide +kernel
abbrev cJ7_fill_53178 : ByteArray := prog_13_method_103_code
def yJ7_fill_53178 : MethodName := ⟨RJ7, "fill", "([II)V"⟩
def RL : String := "ThrowRowsLaw"
abbrev cL_law : ByteArray := code
def yL_law : MethodName := ⟨RL, "law", "([I)Z"⟩
abbrev vwCl : List vw_C := [(RX0, TX0, 3), (RX1, TX1, 2), (RX2, TX2, 2), (RX3, TX3, 2), (RX4, TX4, 3), (RX5, TX5, 3), (RX6, TX6, 11), (RX7, TX7, 20)]
end
section
/-! the words that the methods' contracts carry: those of the tables that a call keeps -/
def gTB : List Cond := lw_tbl.filter goodWord
theorem gTB_at {w : Cond} (i : Nat) (h : lw_tbl[i]? = some w) (hg : goodWord w = true) : w ∈ gTB := List.mem_filter.mpr ⟨List.mem_of_getElem? h, hg⟩
theorem gTB_good : GoodIn gTB gTB := fun w h => ⟨h, good_of_word (List.mem_filter.mp h).2⟩
theorem gTB_lw {w : Cond} (h : w ∈ gTB) : w ∈ lw_tbl := (List.mem_filter.mp h).1
def gws (y : MethodName) (b : ByteArray) (n : Nat) (ret : Option FieldType) : List Cond := Cond.code y b n ret :: gTB
theorem gws_good {y : MethodName} {b : ByteArray} {n : Nat} {ret : Option FieldType} (h : Cond.code y b n ret ∈ gTB) : GoodIn gTB (gws y b n ret) := by
  intro w hw
  rcases List.mem_cons.mp hw with e | hw
  · rw [e]; exact gTB_good _ h
  · exact gTB_good w hw
theorem u_in {C : String} {T : u_T} {N : Nat} {Ts : List Cond} (h : ∀ k, k < N → u_lay C T k ∈ Ts) : ∀ w ∈ u_ws C T N, w ∈ Ts := by
  intro w hw
  obtain ⟨k, hk, rfl⟩ := List.mem_map.mp hw
  exact h k (List.mem_range.mp hk)
/-! the world: 46 cells, of the class (0 .. 31) and of the reference (32 .. 45) -/
abbrev gM : Type := Nat → Nat → Int32
abbrev gJ : Type := Nat → Int64
abbrev gE : Type := (Nat → Nat) × va_G × ClassId × ClassId × ClassId × ClassId
def gL (E : gE) (k : Nat) : Nat := E.1 k
def gD (E : gE) : va_G := E.2.1
def gI (E : gE) : ClassId := E.2.2.1
def gJc (E : gE) : ClassId := E.2.2.2.1
def gRc (E : gE) : ClassId := E.2.2.2.2.1
def gSc (E : gE) : ClassId := E.2.2.2.2.2
def gty (E : gE) : List (ClassId × FieldType) := [(gI E, .int), (gJc E, .long), (gRc E, .object RX3), (gSc E, .object RX4)]
def gen0 (E : gE) (f g : Nat → Int32) (t : gJ) (id : Nat) : va_E :=
  if id < 5 then .inr (3, [.ref (gL E (5 + id)), .int (f 1)])
  else if id < 10 then .inl (gI E, 8, .inl f)
  else if id < 14 then .inr (4, [.ref (gL E (4 + id)), .int (f 1), .int (f 2)])
  else if id < 18 then .inl (gI E, 40, .inl f)
  else if id = 18 then .inr (1, [.ref (gL E 19), .int (f 1)])
  else if id = 19 then .inl (gI E, 10, .inl f)
  else if id = 20 then .inr (2, [.ref (gL E 21), .int (f 1)])
  else if id = 21 then .inl (gI E, 10, .inl f)
  else if id = 22 then .inr (5, [.ref (gL E 23), .ref (gL E 24), .int (f 2)])
  else if id = 23 then .inl (gI E, 512, .inl f)
  else if id = 24 then .inl (gI E, 512, .inl f)
  else if id = 25 then .inr (0, [.ref (gL E 26), .ref (gL E 27), .ref (gL E 28)])
  else if id = 26 then .inl (gI E, 8, .inl f)
  else if id = 27 then .inl (gI E, 8, .inl f)
  else if id = 28 then .inl (gI E, 2560, .inl f)
  else if id = 29 then .inl (gRc E, 3, .inr (.inr (.inr (.inr (fun k => some (gL E (2 + k)))))))
  else if id = 30 then .inl (gSc E, 4, .inr (.inr (.inr (.inr (fun k => some (gL E (10 + k)))))))
  else if id = 31 then .inr (6, [.ref (gL E 0), .ref (gL E 1), .ref (gL E 29), .ref (gL E 30), .ref (gL E 18), .ref (gL E 20), .ref (gL E 22), .ref (gL E 25), .int (f 8), .int (f 9), .int (f 10)])
  else if id = 32 then .inr (7, [.int (g 0), .int (g 1), .ref (gL E 33), .ref (gL E 34), .ref (gL E 35), .int (g 5), .ref (gL E 36), .int (g 7), .ref (gL E 37), .int (g 9), .ref (gL E 38), .ref (gL E 39), .ref (gL E 40), .ref (gL E 41), .ref (gL E 42), .int (g 15), .int (g 16), .ref (gL E 43), .ref (gL E 44), .ref (gL E 45)])
  else if id = 33 then .inl (gI E, 4, .inl g)
  else if id = 34 then .inl (gI E, 4, .inl g)
  else if id = 35 then .inl (gI E, 160, .inl g)
  else if id = 36 then .inl (gI E, 8, .inl g)
  else if id = 37 then .inl (gI E, 10, .inl g)
  else if id = 38 then .inl (gI E, 8, .inl g)
  else if id = 39 then .inl (gI E, 1010, .inl g)
  else if id = 40 then .inl (gI E, 8, .inl g)
  else if id = 41 then .inl (gI E, 3, .inl g)
  else if id = 42 then .inl (gI E, 24, .inl g)
  else if id = 43 then .inl (gI E, 8, .inl g)
  else if id = 44 then .inl (gJc E, 20736, .inr (.inl t))
  else .inl (gI E, 512, .inl g)
def gen (E : gE) (μ ν : gM) (τ : gJ) (id : Nat) : va_E := gen0 E (μ id) (ν id) τ id
def wl (E : gE) (μ ν : gM) (τ : gJ) : va_W := (List.range 46).map (fun id => (gL E id, gen E μ ν τ id))
def gA (E : gE) : Nat → Prop := fun q => ∃ id, id < 46 ∧ q = gL E id
def gLok (E : gE) : Prop := ∀ i j, i < 46 → j < 46 → gL E i = gL E j → i = j
def up2 (μ : gM) (a k : Nat) (v : Int32) : gM := fun j => if j = a then upd (μ a) k v else μ j
def cp2 (μ : gM) (a b sp dp n : Nat) : gM := fun j => if j = b then va_cpy (μ a) (μ b) sp dp n else μ j
theorem up2_s {μ : gM} {a k : Nat} {v : Int32} : up2 μ a k v a = upd (μ a) k v := by simp [up2]
theorem up2_n {μ : gM} {a k j : Nat} {v : Int32} (h : j ≠ a) : up2 μ a k v j = μ j := by simp [up2, h]
theorem cp2_s {μ : gM} {a b sp dp n : Nat} : cp2 μ a b sp dp n b = va_cpy (μ a) (μ b) sp dp n := by simp [cp2]
theorem cp2_n {μ : gM} {a b sp dp n j : Nat} (h : j ≠ b) : cp2 μ a b sp dp n j = μ j := by simp [cp2, h]
theorem wl_at {E : gE} {μ ν : gM} {τ : gJ} {id : Nat} {x : va_E} (h : id < 46) (hx : gen E μ ν τ id = x) : (wl E μ ν τ)[id]? = some (gL E id, x) := by
  rw [← hx]; simp [wl, h]
theorem wl_len {E : gE} {μ ν : gM} {τ : gJ} : (wl E μ ν τ).length = 46 := by simp [wl]
theorem wl_get {E : gE} {μ ν : gM} {τ : gJ} {k : Nat} {q : Nat × va_E} (h : (wl E μ ν τ)[k]? = some q) : k < 46 ∧ q = (gL E k, gen E μ ν τ k) := by
  have hk : k < 46 := by
    have := (List.getElem?_eq_some_iff.mp h).1
    rwa [wl_len] at this
  exact ⟨hk, Option.some.inj (h.symm.trans (wl_at hk rfl))⟩
theorem wl_set {E : gE} {μ ν μ' ν' : gM} {τ τ' : gJ} {id : Nat} {x : va_E} (h : id < 46) (hx : gen E μ' ν' τ' id = x) (ho : ∀ j, j ≠ id → gen E μ' ν' τ' j = gen E μ ν τ j) : (wl E μ ν τ).set id (gL E id, x) = wl E μ' ν' τ' := by
  apply List.ext_getElem?
  intro j
  by_cases hj : j < 46
  · rw [wl_at hj rfl]
    by_cases e : j = id
    · subst e
      rw [List.getElem?_set_self (by rw [wl_len]; exact hj), hx]
    · rw [List.getElem?_set_ne (fun z => e z.symm), wl_at hj rfl, ho j e]
  · rw [List.getElem?_eq_none (by rw [List.length_set, wl_len]; omega), List.getElem?_eq_none (by rw [wl_len]; omega)]
theorem wl_setX {E : gE} {μ ν : gM} {τ : gJ} {id k : Nat} {v : Int32} {x : va_E} (h : id < 46) (hx : gen E (up2 μ id k v) ν τ id = x) : (wl E μ ν τ).set id (gL E id, x) = wl E (up2 μ id k v) ν τ :=
  wl_set h hx (fun j hj => by simp only [gen, up2_n hj])
theorem wl_setM {E : gE} {μ ν : gM} {τ : gJ} {id k : Nat} {v : Int32} {x : va_E} (h : id < 46) (hx : gen E μ (up2 ν id k v) τ id = x) : (wl E μ ν τ).set id (gL E id, x) = wl E μ (up2 ν id k v) τ :=
  wl_set h hx (fun j hj => by simp only [gen, up2_n hj])
theorem wl_setC {E : gE} {μ ν : gM} {τ : gJ} {a id sp dp n : Nat} {x : va_E} (h : id < 46) (hx : gen E (cp2 μ a id sp dp n) ν τ id = x) : (wl E μ ν τ).set id (gL E id, x) = wl E (cp2 μ a id sp dp n) ν τ :=
  wl_set h hx (fun j hj => by simp only [gen, cp2_n hj])
theorem gen_J {E : gE} {μ ν : gM} {τ : gJ} : gen E μ ν τ 44 = .inl (gJc E, 20736, .inr (.inl τ)) := by simp [gen, gen0]
theorem wl_setJ {E : gE} {μ ν : gM} {τ τ' : gJ} {x : va_E} (hx : gen E μ ν τ' 44 = x) : (wl E μ ν τ).set 44 (gL E 44, x) = wl E μ ν τ' := by
  refine wl_set (by decide) hx (fun j hj => ?_)
  simp only [gen, gen0, if_neg hj]
theorem wl_D {E : gE} (hE : gLok E) (μ ν : gM) (τ : gJ) : va_D (gA E) (wl E μ ν τ) := by
  refine ⟨fun i j x y hi hj hxy => ?_, fun k q hk => ?_⟩
  · obtain ⟨h1, rfl⟩ := wl_get hi
    obtain ⟨h2, rfl⟩ := wl_get hj
    exact hE i j h1 h2 hxy
  · obtain ⟨h1, rfl⟩ := wl_get hk
    exact ⟨k, h1, rfl⟩
theorem gen_row {E : gE} {μ ν : gM} {τ : gJ} {r : Nat} (h : r < 5) : gen E μ ν τ r = .inr (3, [.ref (gL E (5 + r)), .int (μ r 1)]) := by simp [gen, gen0, h]
theorem gen_hts {E : gE} {μ ν : gM} {τ : gJ} {r : Nat} (h : r < 5) : gen E μ ν τ (5 + r) = .inl (gI E, 8, .inl (μ (5 + r))) := by
  have h1 : ¬ 5 + r < 5 := by omega
  have h2 : 5 + r < 10 := by omega
  simp only [gen, gen0, if_neg h1, if_pos h2]
theorem gen_sheet {E : gE} {μ ν : gM} {τ : gJ} {k : Nat} (h : k < 4) : gen E μ ν τ (10 + k) = .inr (4, [.ref (gL E (14 + k)), .int (μ (10 + k) 1), .int (μ (10 + k) 2)]) := by
  have h1 : ¬ 10 + k < 5 := by omega
  have h2 : ¬ 10 + k < 10 := by omega
  have h3 : 10 + k < 14 := by omega
  have h4 : 4 + (10 + k) = 14 + k := by omega
  simp only [gen, gen0, if_neg h1, if_neg h2, if_pos h3, h4]
theorem gen_cells {E : gE} {μ ν : gM} {τ : gJ} {k : Nat} (h : k < 4) : gen E μ ν τ (14 + k) = .inl (gI E, 40, .inl (μ (14 + k))) := by
  have h1 : ¬ 14 + k < 5 := by omega
  have h2 : ¬ 14 + k < 10 := by omega
  have h3 : ¬ 14 + k < 14 := by omega
  have h4 : 14 + k < 18 := by omega
  simp only [gen, gen0, if_neg h1, if_neg h2, if_neg h3, if_pos h4]
def gNw : Cond → Bool
  | .fieldLinkNest .. => true
  | .methodLinkNest .. => true
  | _ => false
def gK (E : gE) (U : State) : Prop := va_K (gD E) vwCl (gty E) U ∧ ∀ w ∈ lw_tbl, gNw w = true → va_Nw w U
theorem gK.moved {E : gE} {s U : State} (hW : s.WarmedH U.vm) (h : gK E s) : gK E U := by
  refine ⟨va_K.moved hW.alike h.1, fun w hw hn => ?_⟩
  have h1 := h.2 w hw hn
  cases w <;> first | exact va_Nw.warmF hW h1 | exact va_Nw.warmM hW h1 | (simp [gNw] at hn)
theorem gK.call {E : gE} {U : State} {g : JFrame} {mk : MethodId} {a : Array Value} (h : gK E U) : gK E (U.calling g mk a) := by
  refine ⟨va_K.moved (u := U) (U := U.calling g mk a) (Vm.Alike.refl U.vm) h.1, fun w hw hn => ?_⟩
  have h1 := h.2 w hw hn
  cases w <;> first | exact va_Nw.same rfl rfl h1 | (simp [gNw] at hn)
/-! contracts -/
def gRm (f n : Nat) : Room := { frames := f, cells := 0, slots := 0, locals := n }
abbrev gPc (E : gE) (vs : List Value) (μ ν : gM) (τ : gJ) : Array Value → State → Prop := va_Pc vs (fun U => va_P (gD E) vwCl (wl E μ ν τ) U.heap ∧ gK E U)
theorem gPc_blind {E : gE} {vs : List Value} {μ ν : gM} {τ : gJ} : FrameBlind (gPc E vs μ ν τ) := fun a U g mk h => ⟨h.1, h.2.1, h.2.2.call⟩
abbrev gQiX (E : gE) (Q : Int32 → gM → Prop) (ν : gM) (τ : gJ) : Array Value → State → Outcome → State → Prop := va_Qi (fun r (u : gM) => Q r u) (fun u t => va_P (gD E) vwCl (wl E u ν τ) t.heap) (gA E)
abbrev gQlX (E : gE) (Q : Int64 → gM → Prop) (ν : gM) (τ : gJ) : Array Value → State → Outcome → State → Prop := va_Ql (fun r (u : gM) => Q r u) (fun u t => va_P (gD E) vwCl (wl E u ν τ) t.heap) (gA E)
abbrev gQvX (E : gE) (Q : gM → Prop) (ν : gM) (τ : gJ) : Array Value → State → Outcome → State → Prop := va_Qv (fun (u : gM) => Q u) (fun u t => va_P (gD E) vwCl (wl E u ν τ) t.heap) (gA E)
abbrev gQiM (E : gE) (Q : Int32 → gM → gJ → Prop) (μ : gM) : Array Value → State → Outcome → State → Prop := va_Qi (fun r (u : gM × gJ) => Q r u.1 u.2) (fun u t => va_P (gD E) vwCl (wl E μ u.1 u.2) t.heap) (gA E)
abbrev gQlM (E : gE) (Q : Int64 → gM → gJ → Prop) (μ : gM) : Array Value → State → Outcome → State → Prop := va_Ql (fun r (u : gM × gJ) => Q r u.1 u.2) (fun u t => va_P (gD E) vwCl (wl E μ u.1 u.2) t.heap) (gA E)
abbrev gQvM (E : gE) (Q : gM → gJ → Prop) (μ : gM) : Array Value → State → Outcome → State → Prop := va_Qv (fun (u : gM × gJ) => Q u.1 u.2) (fun u t => va_P (gD E) vwCl (wl E μ u.1 u.2) t.heap) (gA E)
abbrev gQiS (E : gE) (Q : Int32 → Prop) (μ ν : gM) (τ : gJ) : Array Value → State → Outcome → State → Prop := va_Qi (fun r (_ : Unit) => Q r) (fun _ t => va_P (gD E) vwCl (wl E μ ν τ) t.heap) (gA E)
def gCal (y : MethodName) (b : ByteArray) (maxL : Nat) (ret : Option FieldType) (n : Nat) : Prop := Cond.code y b maxL ret ∈ gTB ∧ Cond.initialized y.cls ∈ gTB ∧ y.cls ≠ "java/lang/invoke/MethodHandle" ∧ y.cls ≠ "java/lang/invoke/VarHandle" ∧ (parseMethodDescriptor y.desc).map (fun d => d.parameters.length) = some n
def gCalV (y : MethodName) (b : ByteArray) (maxL : Nat) (ret : Option FieldType) (n : Nat) : Prop := gCal y b maxL ret n ∧ Cond.instanceMethod y ∈ gTB ∧ Cond.selects y.cls y y ∈ gTB
def gCalS (y : MethodName) (b : ByteArray) (maxL : Nat) (ret : Option FieldType) (n : Nat) : Prop := gCal y b maxL ret n ∧ Cond.static y ∈ gTB
def gOk (rm : Room) (maxL : Nat) (R : Room) : Prop := rm.cells = 0 ∧ rm.slots = 0 ∧ rm.frames + 1 ≤ R.frames ∧ 8 + (maxL + 11) + rm.locals ≤ R.locals
theorem vin_lt {i : Int32} {n : Nat} (h : vp_in i n) : i.toNatClampNeg < n := Nat.not_le.mp fun q => h (Or.inr q)
theorem vin_im {i : Int32} (h : vp_in i 3) : 2 + i.toNatClampNeg < 5 := by have := vin_lt h; omega
theorem at_heap {D : va_G} {cl : List vw_C} {ws : va_W} {t : State} {H : Heap} (ht : t.heap = H) (hP : va_P D cl ws H) : va_P D cl ws t.heap := by rw [ht]; exact hP
section GR
variable {p : Program} {l : Launch} {e : Env} {R : Room} {s : State} {m : MethodId} {args : Array Value} {below : List Frame} {meth : Method} {c : Code} {H : Heap} {locs : List Loc} {cells slots : Nat} {Q : State → Prop}
variable {cc : ByteArray} {pc nL : Nat} {ls : Array Slot} {rest st : List Value} {E : gE} {μ ν : gM} {τ : gJ} {own : String}
theorem g_enter {y : MethodName} {b : ByteArray} {n : Nat} {ret : Option FieldType} {rm : Room} {vs : List Value} {lv : List (Nat × Value)} {Qc : Array Value → State → Outcome → State → Prop} (hy : plainName y.cls = true) (hn : (lg_sl vs).length ≤ n) (hlv : lv_args 0 vs = lv)
    (body : ∀ (p : Program) (e : Env) (s : State) (m : MethodId) (below : List Frame) (meth : Method) (c : Code) (ls : Array Slot) (H : Heap), p.tables.exec = Jvm.exec → c.code = b → meth.sig.returnType = ret → meth.locks = false → CallFix p m c b n s vs.toArray gTB y.cls → gK E s → va_P (gD E) vwCl (wl E μ ν τ) H → va_S (gA E) s.heap H [] → lv_has ls n lv → meth.name = y.name → W p l e rm s m vs.toArray below meth c H [] 0 0 (MQ below Qc vs.toArray s 0 0 (gA E)) (F0 m 0 ls [])) :
    Met l y (gws y b n ret) rm (gPc E vs μ ν τ) Qc 0 0 (gA E) := by
  refine Met.ofW (cc := b) (maxL := n) (ret := ret) hy rfl ?_
  intro p e s m args below meth c s₁ B hml hv
  obtain ⟨rfl, hP, hK⟩ := hv
  have hts := atoms_spec (ws := gws y b n ret) B.pre
  have hl := lv_entry vs (n := n) hn
  rw [hlv] at hl
  rw [lg_entry_eq]
  exact body p e s m below meth c _ s.heap B.exec B.bytes B.returns B.notSynchronized ⟨B.exec, B.bytes, hml, findClass_of_methodNamed B.named, fun w hw => hts w (List.mem_cons_of_mem _ hw)⟩ hK hP va_S.rf hl (name_of_methodNamed B.named B.method).1
theorem g_get {C : String} {T : u_T} {N ci index id : Nat} {fs : List Value} (C0 : CallFix p m c cc nL s args gTB own) (hK : gK E s) (hP : va_P (gD E) vwCl (wl E μ ν τ) H) (hid : id < 46) (he : gen E μ ν τ id = .inr (ci, fs)) (hc : vwCl[ci]? = some (C, T, N)) (hin : ∀ w ∈ u_ws C T N, w ∈ gTB) (k : Nat) (hk : k < N) (hq : Cond.fieldLink own index (T k).1 (T k).2.1 (T k).2.2.1 ∈ gTB) {v : Value} (hv : fs[k]? = some v) (hdg : decode cc pc = .ok (.getfield index, 3))
    (kk : W p l e R s m args below meth c H locs cells slots Q (F0 m (pc + 3) ls (v :: rest))) : W p l e R s m args below meth c H locs cells slots Q (F0 m pc ls (.ref (gL E id) :: rest)) :=
  va_get C0.1 C0.2.1 C0.2.2.2.2 hin C0.2.2.2.1 hK.1 hP id (wl_at hid he) hc k hk (C0.2.2.2.2 _ hq) (fun _ h => h) hv hdg kk
theorem g_getN {C host : String} {T : u_T} {N ci index id : Nat} {fs : List Value} (C0 : CallFix p m c cc nL s args gTB own) (hK : gK E s) (hP : va_P (gD E) vwCl (wl E μ ν τ) H) (hid : id < 46) (he : gen E μ ν τ id = .inr (ci, fs)) (hc : vwCl[ci]? = some (C, T, N)) (hin : ∀ w ∈ u_ws C T N, w ∈ gTB) (k : Nat) (hk : k < N) (hq : Cond.fieldLinkNest own index (T k).1 (T k).2.1 (T k).2.2.1 host ∈ lw_tbl) {v : Value} (hv : fs[k]? = some v) (hdg : decode cc pc = .ok (.getfield index, 3))
    (kk : W p l e R s m args below meth c H locs cells slots Q (F0 m (pc + 3) ls (v :: rest))) : W p l e R s m args below meth c H locs cells slots Q (F0 m pc ls (.ref (gL E id) :: rest)) :=
  va_getN C0.1 C0.2.1 C0.2.2.2.2 hin C0.2.2.2.1 hK.1 hP id (wl_at hid he) hc k hk (va_Nw.use rfl (hK.2 _ hq rfl)) (fun _ h => h) hv hdg kk
theorem g_putX {C : String} {T : u_T} {N ci index id : Nat} {fs : (Nat → Int32) → List Value} {ty0 : Nat → FieldType} {v : Int32} (hE : gLok E) (C0 : CallFix p m c cc nL s args gTB own) (hK : gK E s) (hP : va_P (gD E) vwCl (wl E μ ν τ) H) (hS : va_S (gA E) s.heap H locs) (hid : id < 46) (he : ∀ μ : gM, gen E μ ν τ id = .inr (ci, fs (μ id))) (hc : vwCl[ci]? = some (C, T, N)) (hin : ∀ w ∈ u_ws C T N, w ∈ gTB) (hty : ∀ k, k < N → parseFieldDescriptor (T k).2.2.1 = some (ty0 k)) (hnm : ∀ a, a < N → ∀ b, b < N → a ≠ b → (T a).2.1 ≠ (T b).2.1) (k : Nat) (hk : k < N) (hq : (Cond.fieldLink own index (T k).1 (T k).2.1 (T k).2.2.1) ∈ gTB) (hfin : (T k).2.2.2 = false) (hd : parseFieldDescriptor (T k).2.2.1 = some .int) (hl : k < (fs (μ id)).length) (hset : (fs (μ id)).set k (.int v) = fs (upd (μ id) k v)) (hdg : decode cc pc = .ok (.putfield index, 3))
    (kk : ∀ (H : Heap) (locs : List Loc), va_P (gD E) vwCl (wl E (up2 μ id k v) ν τ) H → va_S (gA E) s.heap H locs → W p l e R s m args below meth c H locs cells slots Q (F0 m (pc + 3) ls rest)) : W p l e R s m args below meth c H locs cells slots Q (F0 m pc ls (.int v :: .ref (gL E id) :: rest)) := by
  refine va_put C0.1 C0.2.1 C0.2.2.2.2 hin ty0 hty hnm C0.2.2.2.1 hK.1 hP (wl_D hE μ ν τ) hS id (wl_at hid (he μ)) hc k hk (C0.2.2.2.2 _ hq) (fun _ h => h) hfin hd rfl rfl hl hdg (fun H1 locs1 h1 _ h3 => ?_)
  rw [hset, wl_setX (v := v) (k := k) hid (by rw [he (up2 μ id k v), up2_s])] at h1
  exact kk H1 locs1 h1 h3
theorem g_putXN {C host : String} {T : u_T} {N ci index id : Nat} {fs : (Nat → Int32) → List Value} {ty0 : Nat → FieldType} {v : Int32} (hE : gLok E) (C0 : CallFix p m c cc nL s args gTB own) (hK : gK E s) (hP : va_P (gD E) vwCl (wl E μ ν τ) H) (hS : va_S (gA E) s.heap H locs) (hid : id < 46) (he : ∀ μ : gM, gen E μ ν τ id = .inr (ci, fs (μ id))) (hc : vwCl[ci]? = some (C, T, N)) (hin : ∀ w ∈ u_ws C T N, w ∈ gTB) (hty : ∀ k, k < N → parseFieldDescriptor (T k).2.2.1 = some (ty0 k)) (hnm : ∀ a, a < N → ∀ b, b < N → a ≠ b → (T a).2.1 ≠ (T b).2.1) (k : Nat) (hk : k < N) (hq : (Cond.fieldLinkNest own index (T k).1 (T k).2.1 (T k).2.2.1 host) ∈ lw_tbl) (hfin : (T k).2.2.2 = false) (hd : parseFieldDescriptor (T k).2.2.1 = some .int) (hl : k < (fs (μ id)).length) (hset : (fs (μ id)).set k (.int v) = fs (upd (μ id) k v)) (hdg : decode cc pc = .ok (.putfield index, 3))
    (kk : ∀ (H : Heap) (locs : List Loc), va_P (gD E) vwCl (wl E (up2 μ id k v) ν τ) H → va_S (gA E) s.heap H locs → W p l e R s m args below meth c H locs cells slots Q (F0 m (pc + 3) ls rest)) : W p l e R s m args below meth c H locs cells slots Q (F0 m pc ls (.int v :: .ref (gL E id) :: rest)) := by
  refine va_putN C0.1 C0.2.1 C0.2.2.2.2 hin ty0 hty hnm C0.2.2.2.1 hK.1 hP (wl_D hE μ ν τ) hS id (wl_at hid (he μ)) hc k hk (va_Nw.use rfl (hK.2 _ hq rfl)) (fun _ h => h) hfin hd rfl rfl hl hdg (fun H1 locs1 h1 _ h3 => ?_)
  rw [hset, wl_setX (v := v) (k := k) hid (by rw [he (up2 μ id k v), up2_s])] at h1
  exact kk H1 locs1 h1 h3
theorem g_putM {C : String} {T : u_T} {N ci index id : Nat} {fs : (Nat → Int32) → List Value} {ty0 : Nat → FieldType} {v : Int32} (hE : gLok E) (C0 : CallFix p m c cc nL s args gTB own) (hK : gK E s) (hP : va_P (gD E) vwCl (wl E μ ν τ) H) (hS : va_S (gA E) s.heap H locs) (hid : id < 46) (he : ∀ ν : gM, gen E μ ν τ id = .inr (ci, fs (ν id))) (hc : vwCl[ci]? = some (C, T, N)) (hin : ∀ w ∈ u_ws C T N, w ∈ gTB) (hty : ∀ k, k < N → parseFieldDescriptor (T k).2.2.1 = some (ty0 k)) (hnm : ∀ a, a < N → ∀ b, b < N → a ≠ b → (T a).2.1 ≠ (T b).2.1) (k : Nat) (hk : k < N) (hq : (Cond.fieldLink own index (T k).1 (T k).2.1 (T k).2.2.1) ∈ gTB) (hfin : (T k).2.2.2 = false) (hd : parseFieldDescriptor (T k).2.2.1 = some .int) (hl : k < (fs (ν id)).length) (hset : (fs (ν id)).set k (.int v) = fs (upd (ν id) k v)) (hdg : decode cc pc = .ok (.putfield index, 3))
    (kk : ∀ (H : Heap) (locs : List Loc), va_P (gD E) vwCl (wl E μ (up2 ν id k v) τ) H → va_S (gA E) s.heap H locs → W p l e R s m args below meth c H locs cells slots Q (F0 m (pc + 3) ls rest)) : W p l e R s m args below meth c H locs cells slots Q (F0 m pc ls (.int v :: .ref (gL E id) :: rest)) := by
  refine va_put C0.1 C0.2.1 C0.2.2.2.2 hin ty0 hty hnm C0.2.2.2.1 hK.1 hP (wl_D hE μ ν τ) hS id (wl_at hid (he ν)) hc k hk (C0.2.2.2.2 _ hq) (fun _ h => h) hfin hd rfl rfl hl hdg (fun H1 locs1 h1 _ h3 => ?_)
  rw [hset, wl_setM (v := v) (k := k) hid (by rw [he (up2 ν id k v), up2_s])] at h1
  exact kk H1 locs1 h1 h3
theorem g_iald {n id : Nat} {f : Nat → Int32} {i : Int32} (hx : p.tables.exec = Jvm.exec) (hb : c.code = cc) (hK : gK E s) (hP : va_P (gD E) vwCl (wl E μ ν τ) H) (hid : id < 46) (he : gen E μ ν τ id = .inl (gI E, n, .inl f)) (hin : vp_in i n) (hdg : decode cc pc = .ok (.iaload, 1))
    (kk : W p l e R s m args below meth c H locs cells slots Q (F0 m (pc + 1) ls (.int (f i.toNatClampNeg) :: rest))) : W p l e R s m args below meth c H locs cells slots Q (F0 m pc ls (.int i :: .ref (gL E id) :: rest)) :=
  va_iald hx hb hK.1 hP id 0 (wl_at hid he) rfl hin hdg kk
theorem g_lald {i : Int32} (hx : p.tables.exec = Jvm.exec) (hb : c.code = cc) (hK : gK E s) (hP : va_P (gD E) vwCl (wl E μ ν τ) H) (hin : vp_in i 20736) (hdg : decode cc pc = .ok (.laload, 1))
    (kk : W p l e R s m args below meth c H locs cells slots Q (F0 m (pc + 1) ls (.long (τ i.toNatClampNeg) :: rest))) : W p l e R s m args below meth c H locs cells slots Q (F0 m pc ls (.int i :: .ref (gL E 44) :: rest)) :=
  va_lald hx hb hK.1 hP 44 1 (wl_at (by decide) gen_J) rfl hin hdg kk
theorem g_iastX {n id : Nat} {i v : Int32} (hE : gLok E) (hx : p.tables.exec = Jvm.exec) (hb : c.code = cc) (hK : gK E s) (hP : va_P (gD E) vwCl (wl E μ ν τ) H) (hS : va_S (gA E) s.heap H locs) (hid : id < 46) (he : ∀ μ : gM, gen E μ ν τ id = .inl (gI E, n, .inl (μ id))) (hin : vp_in i n) (hdg : decode cc pc = .ok (.iastore, 1))
    (kk : ∀ (H : Heap) (locs : List Loc), va_P (gD E) vwCl (wl E (up2 μ id i.toNatClampNeg v) ν τ) H → va_S (gA E) s.heap H locs → W p l e R s m args below meth c H locs cells slots Q (F0 m (pc + 1) ls rest)) : W p l e R s m args below meth c H locs cells slots Q (F0 m pc ls (.int v :: .int i :: .ref (gL E id) :: rest)) := by
  refine va_iast hx hb hK.1 hP (wl_D hE μ ν τ) hS id 0 (wl_at hid (he μ)) rfl hin hdg (fun H1 locs1 h1 _ h3 => ?_)
  rw [wl_setX (v := v) (k := i.toNatClampNeg) hid (by rw [he (up2 μ id _ v), up2_s])] at h1
  exact kk H1 locs1 h1 h3
theorem g_iastM {n id : Nat} {i v : Int32} (hE : gLok E) (hx : p.tables.exec = Jvm.exec) (hb : c.code = cc) (hK : gK E s) (hP : va_P (gD E) vwCl (wl E μ ν τ) H) (hS : va_S (gA E) s.heap H locs) (hid : id < 46) (he : ∀ ν : gM, gen E μ ν τ id = .inl (gI E, n, .inl (ν id))) (hin : vp_in i n) (hdg : decode cc pc = .ok (.iastore, 1))
    (kk : ∀ (H : Heap) (locs : List Loc), va_P (gD E) vwCl (wl E μ (up2 ν id i.toNatClampNeg v) τ) H → va_S (gA E) s.heap H locs → W p l e R s m args below meth c H locs cells slots Q (F0 m (pc + 1) ls rest)) : W p l e R s m args below meth c H locs cells slots Q (F0 m pc ls (.int v :: .int i :: .ref (gL E id) :: rest)) := by
  refine va_iast hx hb hK.1 hP (wl_D hE μ ν τ) hS id 0 (wl_at hid (he ν)) rfl hin hdg (fun H1 locs1 h1 _ h3 => ?_)
  rw [wl_setM (v := v) (k := i.toNatClampNeg) hid (by rw [he (up2 ν id _ v), up2_s])] at h1
  exact kk H1 locs1 h1 h3
theorem g_last {i : Int32} {v : Int64} (hE : gLok E) (hx : p.tables.exec = Jvm.exec) (hb : c.code = cc) (hK : gK E s) (hP : va_P (gD E) vwCl (wl E μ ν τ) H) (hS : va_S (gA E) s.heap H locs) (hin : vp_in i 20736) (hdg : decode cc pc = .ok (.lastore, 1))
    (kk : ∀ (H : Heap) (locs : List Loc), va_P (gD E) vwCl (wl E μ ν (vp_updL τ i.toNatClampNeg v)) H → va_S (gA E) s.heap H locs → W p l e R s m args below meth c H locs cells slots Q (F0 m (pc + 1) ls rest)) : W p l e R s m args below meth c H locs cells slots Q (F0 m pc ls (.long v :: .int i :: .ref (gL E 44) :: rest)) := by
  refine va_last hx hb hK.1 hP (wl_D hE μ ν τ) hS 44 1 (wl_at (by decide) gen_J) rfl hin hdg (fun H1 locs1 h1 _ h3 => ?_)
  rw [wl_setJ (τ' := vp_updL τ i.toNatClampNeg v) gen_J] at h1
  exact kk H1 locs1 h1 h3
theorem g_aaR {i : Int32} (hx : p.tables.exec = Jvm.exec) (hb : c.code = cc) (hK : gK E s) (hP : va_P (gD E) vwCl (wl E μ ν τ) H) (hin : vp_in i 3) (hdg : decode cc pc = .ok (.aaload, 1))
    (kk : W p l e R s m args below meth c H locs cells slots Q (F0 m (pc + 1) ls (.ref (gL E (2 + i.toNatClampNeg)) :: rest))) : W p l e R s m args below meth c H locs cells slots Q (F0 m pc ls (.int i :: .ref (gL E 29) :: rest)) :=
  va_aldq (C := RX3) (f := fun k => some (gL E (2 + k))) hx hb hK.1 hP 29 2 (wl_at (by decide) (by simp [gen, gen0])) rfl hin hdg kk
theorem g_aaS {i : Int32} (hx : p.tables.exec = Jvm.exec) (hb : c.code = cc) (hK : gK E s) (hP : va_P (gD E) vwCl (wl E μ ν τ) H) (hin : vp_in i 4) (hdg : decode cc pc = .ok (.aaload, 1))
    (kk : W p l e R s m args below meth c H locs cells slots Q (F0 m (pc + 1) ls (.ref (gL E (10 + i.toNatClampNeg)) :: rest))) : W p l e R s m args below meth c H locs cells slots Q (F0 m pc ls (.int i :: .ref (gL E 30) :: rest)) :=
  va_aldq (C := RX4) (f := fun k => some (gL E (10 + k))) hx hb hK.1 hP 30 3 (wl_at (by decide) (by simp [gen, gen0])) rfl hin hdg kk
theorem g_alen {n id : Nat} {f : Nat → Int32} {v : Int32} (hx : p.tables.exec = Jvm.exec) (hb : c.code = cc) (hK : gK E s) (hP : va_P (gD E) vwCl (wl E μ ν τ) H) (hid : id < 46) (he : gen E μ ν τ id = .inl (gI E, n, .inl f)) (hv : Int32.ofNat n = v) (hdg : decode cc pc = .ok (.arraylength, 1))
    (kk : W p l e R s m args below meth c H locs cells slots Q (F0 m (pc + 1) ls (.int v :: rest))) : W p l e R s m args below meth c H locs cells slots Q (F0 m pc ls (.ref (gL E id) :: rest)) :=
  va_alen hx hb hK.1 hP id 0 (wl_at hid he) (ty := .int) rfl hv hdg kk
/-! calls -/
variable {y : MethodName} {bytes : ByteArray} {maxL n index : Nat} {ret : Option FieldType} {rm : Room} {As : List Value} {Qc : Array Value → State → Outcome → State → Prop}
theorem g_bV {ci id N : Nat} {fs : List Value} {T : u_T} (C0 : CallFix p m c cc nL s args gTB own) (hK : gK E s) (hP : va_P (gD E) vwCl (wl E μ ν τ) H) (k : gCalV y bytes maxL ret n) (q : Cond.methodLink own index y ∈ gTB) (hM : Met l y (gws y bytes maxL ret) rm (gPc E (.ref (gL E id) :: As) μ ν τ) Qc 0 0 (gA E)) (hid : id < 46) (he : gen E μ ν τ id = .inr (ci, fs)) (hc : vwCl[ci]? = some (y.cls, T, N)) (hn : As.length = n) (hsize : ls.size = nL) (hst : st = As.reverse ++ .ref (gL E id) :: rest) (hW : (rest.map fun v => v.category).sum ≤ 8) (hR : gOk rm maxL R) (hdg : decode cc pc = .ok (.invokevirtual index, 3)) :
    va_Run p l e R s m args below meth c H locs 0 0 0 0 (F0 m pc ls st) rest (Qc (Value.ref (gL E id) :: As).toArray) (gA E) := by
  obtain ⟨⟨k1, k2, k3, k4, k5⟩, k6, k7⟩ := k
  refine va_runV (C := y.cls) C0 hM ⟨callB_of n C0.2.2.2.2 (gws_good k1) rfl hR.1 hR.2.1 (C0.2.2.2.2 _ k2) (C0.2.2.2.2 _ q) ⟨k3, k4, k5⟩ hR.2.2, C0.2.2.2.2 _ k6, C0.2.2.2.2 _ k7⟩ ⟨gPc_blind, ?_, fun U hU hW => ⟨rfl, by rw [hU]; exact hP, hK.moved hW⟩⟩ rfl hn hsize hst (lv_room hW) hdg ⟨Nat.zero_le _, Nat.zero_le _⟩
  exact va_recv hK.1 hP (ci := ci) (q0 := id) hc (wl_at hid he)
theorem g_bS (C0 : CallFix p m c cc nL s args gTB own) (hK : gK E s) (hP : va_P (gD E) vwCl (wl E μ ν τ) H) (k : gCalS y bytes maxL ret n) (q : Cond.methodLink own index y ∈ gTB) (hM : Met l y (gws y bytes maxL ret) rm (gPc E As μ ν τ) Qc 0 0 (gA E)) (hn : As.length = n) (hsize : ls.size = nL) (hst : st = As.reverse ++ rest) (hW : (rest.map fun v => v.category).sum ≤ 8) (hR : gOk rm maxL R) (hdg : decode cc pc = .ok (.invokestatic index, 3)) :
    va_Run p l e R s m args below meth c H locs 0 0 0 0 (F0 m pc ls st) rest (Qc As.toArray) (gA E) := by
  obtain ⟨⟨k1, k2, k3, k4, k5⟩, k6⟩ := k
  exact va_runS C0 hM ⟨callB_of n C0.2.2.2.2 (gws_good k1) rfl hR.1 hR.2.1 (C0.2.2.2.2 _ k2) (C0.2.2.2.2 _ q) ⟨k3, k4, k5⟩ hR.2.2, C0.2.2.2.2 _ k6⟩ ⟨gPc_blind, fun U hU hW => ⟨rfl, by rw [hU]; exact hP, hK.moved hW⟩⟩ rfl hn hsize hst (lv_room hW) hdg ⟨Nat.zero_le _, Nat.zero_le _⟩
theorem g_bSN {host : String} (C0 : CallFix p m c cc nL s args gTB own) (hK : gK E s) (hP : va_P (gD E) vwCl (wl E μ ν τ) H) (k : gCalS y bytes maxL ret n) (q : Cond.methodLinkNest own index y host ∈ lw_tbl) (hM : Met l y (gws y bytes maxL ret) rm (gPc E As μ ν τ) Qc 0 0 (gA E)) (hn : As.length = n) (hsize : ls.size = nL) (hst : st = As.reverse ++ rest) (hW : (rest.map fun v => v.category).sum ≤ 8) (hR : gOk rm maxL R) (hdg : decode cc pc = .ok (.invokestatic index, 3)) :
    va_Run p l e R s m args below meth c H locs 0 0 0 0 (F0 m pc ls st) rest (Qc As.toArray) (gA E) := by
  obtain ⟨⟨k1, k2, k3, k4, k5⟩, k6⟩ := k
  exact va_runSN C0 hM ⟨va_cnB n C0.2.2.2.2 (gws_good k1) rfl hR.1 hR.2.1 (hK.2 _ q rfl) (C0.2.2.2.2 _ k2) ⟨k3, k4, k5⟩ hR.2.2, C0.2.2.2.2 _ k6, trivial⟩ ⟨gPc_blind, fun U hU hW => ⟨rfl, by rw [hU]; exact hP, hK.moved hW⟩⟩ rfl hn hsize hst (lv_room hW) hdg ⟨Nat.zero_le _, Nat.zero_le _⟩
variable {a : Array Value}
theorem g_iX {Qs : Int32 → gM → Prop} (hr : va_Run p l e R s m args below meth c H locs 0 0 0 0 (F0 m pc ls st) rest (gQiX E Qs ν τ a) (gA E)) (hS : va_S (gA E) s.heap H locs)
    (kk : ∀ (r : Int32) (μ : gM) (H : Heap) (locs : List Loc), Qs r μ → va_P (gD E) vwCl (wl E μ ν τ) H → va_S (gA E) s.heap H locs → W p l e R s m args below meth c H locs 0 0 Q (F0 m (pc + 3) ls (.int r :: rest))) : W p l e R s m args below meth c H locs 0 0 Q (F0 m pc ls st) :=
  va_calli hr hS (fun _ _ h => h) (fun _ h => h) (fun r u t H1 locs1 ht _ hp hB _ _ hS1 => kk r u H1 locs1 hp (by rw [← ht]; exact hB) hS1)
theorem g_lX {Qs : Int64 → gM → Prop} (hr : va_Run p l e R s m args below meth c H locs 0 0 0 0 (F0 m pc ls st) rest (gQlX E Qs ν τ a) (gA E)) (hS : va_S (gA E) s.heap H locs)
    (kk : ∀ (r : Int64) (μ : gM) (H : Heap) (locs : List Loc), Qs r μ → va_P (gD E) vwCl (wl E μ ν τ) H → va_S (gA E) s.heap H locs → W p l e R s m args below meth c H locs 0 0 Q (F0 m (pc + 3) ls (.long r :: rest))) : W p l e R s m args below meth c H locs 0 0 Q (F0 m pc ls st) :=
  va_calll hr hS (fun _ _ h => h) (fun _ h => h) (fun r u t H1 locs1 ht _ hp hB _ _ hS1 => kk r u H1 locs1 hp (by rw [← ht]; exact hB) hS1)
theorem g_vX {Qs : gM → Prop} (hr : va_Run p l e R s m args below meth c H locs 0 0 0 0 (F0 m pc ls st) rest (gQvX E Qs ν τ a) (gA E)) (hS : va_S (gA E) s.heap H locs)
    (kk : ∀ (μ : gM) (H : Heap) (locs : List Loc), Qs μ → va_P (gD E) vwCl (wl E μ ν τ) H → va_S (gA E) s.heap H locs → W p l e R s m args below meth c H locs 0 0 Q (F0 m (pc + 3) ls rest)) : W p l e R s m args below meth c H locs 0 0 Q (F0 m pc ls st) :=
  va_callv hr hS (fun _ _ h => h) (fun _ h => h) (fun u t H1 locs1 ht _ hp hB _ _ hS1 => kk u H1 locs1 hp (by rw [← ht]; exact hB) hS1)
theorem g_iM {Qs : Int32 → gM → gJ → Prop} (hr : va_Run p l e R s m args below meth c H locs 0 0 0 0 (F0 m pc ls st) rest (gQiM E Qs μ a) (gA E)) (hS : va_S (gA E) s.heap H locs)
    (kk : ∀ (r : Int32) (ν : gM) (τ : gJ) (H : Heap) (locs : List Loc), Qs r ν τ → va_P (gD E) vwCl (wl E μ ν τ) H → va_S (gA E) s.heap H locs → W p l e R s m args below meth c H locs 0 0 Q (F0 m (pc + 3) ls (.int r :: rest))) : W p l e R s m args below meth c H locs 0 0 Q (F0 m pc ls st) :=
  va_calli hr hS (fun _ _ h => h) (fun _ h => h) (fun r u t H1 locs1 ht _ hp hB _ _ hS1 => kk r u.1 u.2 H1 locs1 hp (by rw [← ht]; exact hB) hS1)
theorem g_lM {Qs : Int64 → gM → gJ → Prop} (hr : va_Run p l e R s m args below meth c H locs 0 0 0 0 (F0 m pc ls st) rest (gQlM E Qs μ a) (gA E)) (hS : va_S (gA E) s.heap H locs)
    (kk : ∀ (r : Int64) (ν : gM) (τ : gJ) (H : Heap) (locs : List Loc), Qs r ν τ → va_P (gD E) vwCl (wl E μ ν τ) H → va_S (gA E) s.heap H locs → W p l e R s m args below meth c H locs 0 0 Q (F0 m (pc + 3) ls (.long r :: rest))) : W p l e R s m args below meth c H locs 0 0 Q (F0 m pc ls st) :=
  va_calll hr hS (fun _ _ h => h) (fun _ h => h) (fun r u t H1 locs1 ht _ hp hB _ _ hS1 => kk r u.1 u.2 H1 locs1 hp (by rw [← ht]; exact hB) hS1)
theorem g_vM {Qs : gM → gJ → Prop} (hr : va_Run p l e R s m args below meth c H locs 0 0 0 0 (F0 m pc ls st) rest (gQvM E Qs μ a) (gA E)) (hS : va_S (gA E) s.heap H locs)
    (kk : ∀ (ν : gM) (τ : gJ) (H : Heap) (locs : List Loc), Qs ν τ → va_P (gD E) vwCl (wl E μ ν τ) H → va_S (gA E) s.heap H locs → W p l e R s m args below meth c H locs 0 0 Q (F0 m (pc + 3) ls rest)) : W p l e R s m args below meth c H locs 0 0 Q (F0 m pc ls st) :=
  va_callv hr hS (fun _ _ h => h) (fun _ h => h) (fun u t H1 locs1 ht _ hp hB _ _ hS1 => kk u.1 u.2 H1 locs1 hp (by rw [← ht]; exact hB) hS1)
theorem g_iS {Qs : Int32 → Prop} (hr : va_Run p l e R s m args below meth c H locs 0 0 0 0 (F0 m pc ls st) rest (gQiS E Qs μ ν τ a) (gA E)) (hS : va_S (gA E) s.heap H locs)
    (kk : ∀ (r : Int32) (H : Heap) (locs : List Loc), Qs r → va_P (gD E) vwCl (wl E μ ν τ) H → va_S (gA E) s.heap H locs → W p l e R s m args below meth c H locs 0 0 Q (F0 m (pc + 3) ls (.int r :: rest))) : W p l e R s m args below meth c H locs 0 0 Q (F0 m pc ls st) :=
  va_calli hr hS (fun _ _ h => h) (fun _ h => h) (fun r _ t H1 locs1 ht _ hp hB _ _ hS1 => kk r H1 locs1 hp (by rw [← ht]; exact hB) hS1)
/-! ends -/
theorem g_retX {Qs : Int32 → gM → Prop} {ty : FieldType} {v : Int32} (hx : p.tables.exec = Jvm.exec) (hb : c.code = cc) (hr : meth.sig.returnType = some ty) (hk : meth.locks = false) (hP : va_P (gD E) vwCl (wl E μ ν τ) H) (hS : va_S (gA E) s.heap H locs) (hn : narrow ty (.int v) = .int v) (hv : Qs v μ) (hdg : decode cc pc = .ok (.ireturn, 1)) : W p l e R s m args below meth c H locs 0 0 (MQ below (gQiX E Qs ν τ) args s 0 0 (gA E)) (F0 m pc ls [.int v]) :=
  W.zret hx hb hr hn (fun t ht _ => ⟨⟨v, μ, rfl, hv, at_heap ht hP⟩, hS.F ht⟩) hS.2.2 hdg hk
theorem g_retM {Qs : Int32 → gM → gJ → Prop} {ty : FieldType} {v : Int32} (hx : p.tables.exec = Jvm.exec) (hb : c.code = cc) (hr : meth.sig.returnType = some ty) (hk : meth.locks = false) (hP : va_P (gD E) vwCl (wl E μ ν τ) H) (hS : va_S (gA E) s.heap H locs) (hn : narrow ty (.int v) = .int v) (hv : Qs v ν τ) (hdg : decode cc pc = .ok (.ireturn, 1)) : W p l e R s m args below meth c H locs 0 0 (MQ below (gQiM E Qs μ) args s 0 0 (gA E)) (F0 m pc ls [.int v]) :=
  W.zret hx hb hr hn (fun t ht _ => ⟨⟨v, (ν, τ), rfl, hv, at_heap ht hP⟩, hS.F ht⟩) hS.2.2 hdg hk
theorem g_retS {Qs : Int32 → Prop} {ty : FieldType} {v : Int32} (hx : p.tables.exec = Jvm.exec) (hb : c.code = cc) (hr : meth.sig.returnType = some ty) (hk : meth.locks = false) (hP : va_P (gD E) vwCl (wl E μ ν τ) H) (hS : va_S (gA E) s.heap H locs) (hn : narrow ty (.int v) = .int v) (hv : Qs v) (hdg : decode cc pc = .ok (.ireturn, 1)) : W p l e R s m args below meth c H locs 0 0 (MQ below (gQiS E Qs μ ν τ) args s 0 0 (gA E)) (F0 m pc ls [.int v]) :=
  W.zret hx hb hr hn (fun t ht _ => ⟨⟨v, (), rfl, hv, at_heap ht hP⟩, hS.F ht⟩) hS.2.2 hdg hk
theorem g_lretX {Qs : Int64 → gM → Prop} {v : Int64} (hx : p.tables.exec = Jvm.exec) (hb : c.code = cc) (hr : meth.sig.returnType = some .long) (hk : meth.locks = false) (hP : va_P (gD E) vwCl (wl E μ ν τ) H) (hS : va_S (gA E) s.heap H locs) (hv : Qs v μ) (hdg : decode cc pc = .ok (.lreturn, 1)) : W p l e R s m args below meth c H locs 0 0 (MQ below (gQlX E Qs ν τ) args s 0 0 (gA E)) (F0 m pc ls [.long v]) :=
  W.lret hx hb hr (fun t ht _ => ⟨⟨v, μ, rfl, hv, at_heap ht hP⟩, hS.F ht⟩) hS.2.2 hdg hk
theorem g_lretM {Qs : Int64 → gM → gJ → Prop} {v : Int64} (hx : p.tables.exec = Jvm.exec) (hb : c.code = cc) (hr : meth.sig.returnType = some .long) (hk : meth.locks = false) (hP : va_P (gD E) vwCl (wl E μ ν τ) H) (hS : va_S (gA E) s.heap H locs) (hv : Qs v ν τ) (hdg : decode cc pc = .ok (.lreturn, 1)) : W p l e R s m args below meth c H locs 0 0 (MQ below (gQlM E Qs μ) args s 0 0 (gA E)) (F0 m pc ls [.long v]) :=
  W.lret hx hb hr (fun t ht _ => ⟨⟨v, (ν, τ), rfl, hv, at_heap ht hP⟩, hS.F ht⟩) hS.2.2 hdg hk
theorem g_vretX {Qs : gM → Prop} (hx : p.tables.exec = Jvm.exec) (hb : c.code = cc) (hr : meth.sig.returnType = none) (hk : meth.locks = false) (hP : va_P (gD E) vwCl (wl E μ ν τ) H) (hS : va_S (gA E) s.heap H locs) (hv : Qs μ) (hdg : decode cc pc = .ok (.return_, 1)) : W p l e R s m args below meth c H locs 0 0 (MQ below (gQvX E Qs ν τ) args s 0 0 (gA E)) (F0 m pc ls []) :=
  W.vret hx hb hr (fun t ht _ => ⟨⟨μ, rfl, hv, at_heap ht hP⟩, hS.F ht⟩) hS.2.2 hdg hk
theorem g_vretM {Qs : gM → gJ → Prop} (hx : p.tables.exec = Jvm.exec) (hb : c.code = cc) (hr : meth.sig.returnType = none) (hk : meth.locks = false) (hP : va_P (gD E) vwCl (wl E μ ν τ) H) (hS : va_S (gA E) s.heap H locs) (hv : Qs ν τ) (hdg : decode cc pc = .ok (.return_, 1)) : W p l e R s m args below meth c H locs 0 0 (MQ below (gQvM E Qs μ) args s 0 0 (gA E)) (F0 m pc ls []) :=
  W.vret hx hb hr (fun t ht _ => ⟨⟨(ν, τ), rfl, hv, at_heap ht hP⟩, hS.F ht⟩) hS.2.2 hdg hk
end GR
end
section
theorem qf_X3_9 : Cond.fieldLink "ThrowRows$Row" 9 "ThrowRows$Row" "heights" "[I" ∈ gTB := gTB_at 68 rfl rfl
theorem qf_X3_15 : Cond.fieldLink "ThrowRows$Row" 15 "ThrowRows$Row" "period" "I" ∈ gTB := gTB_at 69 rfl rfl
theorem qf_X1_9 : Cond.fieldLink "ThrowRows$Flight" 9 "ThrowRows$Flight" "landing" "[I" ∈ gTB := gTB_at 86 rfl rfl
theorem qf_X1_21 : Cond.fieldLink "ThrowRows$Flight" 21 "ThrowRows$Flight" "seen" "I" ∈ gTB := gTB_at 87 rfl rfl
theorem qf_X2_9 : Cond.fieldLink "ThrowRows$Kinds" 9 "ThrowRows$Kinds" "kinds" "[I" ∈ gTB := gTB_at 99 rfl rfl
theorem qf_X2_45 : Cond.fieldLink "ThrowRows$Kinds" 45 "ThrowRows$Kinds" "traced" "I" ∈ gTB := gTB_at 100 rfl rfl
theorem qf_X5_9 : Cond.fieldLink "ThrowRows$Ways" 9 "ThrowRows$Ways" "beats" "[I" ∈ gTB := gTB_at 113 rfl rfl
theorem qf_X5_15 : Cond.fieldLink "ThrowRows$Ways" 15 "ThrowRows$Ways" "reached" "[I" ∈ gTB := gTB_at 114 rfl rfl
theorem qf_X5_24 : Cond.fieldLink "ThrowRows$Ways" 24 "ThrowRows$Ways" "reachedCount" "I" ∈ gTB := gTB_at 115 rfl rfl
theorem qf_X0_9 : Cond.fieldLink "ThrowRows$Fillings" 9 "ThrowRows$Fillings" "least" "[I" ∈ gTB := gTB_at 129 rfl rfl
theorem qf_X0_15 : Cond.fieldLink "ThrowRows$Fillings" 15 "ThrowRows$Fillings" "most" "[I" ∈ gTB := gTB_at 130 rfl rfl
theorem qf_X0_18 : Cond.fieldLink "ThrowRows$Fillings" 18 "ThrowRows$Fillings" "counts" "[I" ∈ gTB := gTB_at 131 rfl rfl
theorem qf_X4_9 : Cond.fieldLink "ThrowRows$Sheet" 9 "ThrowRows$Sheet" "cells" "[I" ∈ gTB := gTB_at 144 rfl rfl
theorem qf_X4_15 : Cond.fieldLink "ThrowRows$Sheet" 15 "ThrowRows$Sheet" "length" "I" ∈ gTB := gTB_at 146 rfl rfl
theorem qf_X4_25 : Cond.fieldLink "ThrowRows$Sheet" 25 "ThrowRows$Sheet" "sort" "I" ∈ gTB := gTB_at 147 rfl rfl
theorem qf_X6_12 : Cond.fieldLink "ThrowRows" 12 "ThrowRows" "row" "LThrowRows$Row;" ∈ gTB := gTB_at 156 rfl rfl
theorem qf_X6_18 : Cond.fieldLink "ThrowRows" 18 "ThrowRows" "spare" "LThrowRows$Row;" ∈ gTB := gTB_at 157 rfl rfl
theorem qf_X6_21 : Cond.fieldLink "ThrowRows" 21 "ThrowRows" "images" "[LThrowRows$Row;" ∈ gTB := gTB_at 158 rfl rfl
theorem qf_X6_27 : Cond.fieldLink "ThrowRows" 27 "ThrowRows" "sheets" "[LThrowRows$Sheet;" ∈ gTB := gTB_at 159 rfl rfl
theorem qf_X6_34 : Cond.fieldLink "ThrowRows" 34 "ThrowRows" "flight" "LThrowRows$Flight;" ∈ gTB := gTB_at 160 rfl rfl
theorem qf_X6_41 : Cond.fieldLink "ThrowRows" 41 "ThrowRows" "kinds" "LThrowRows$Kinds;" ∈ gTB := gTB_at 161 rfl rfl
theorem qf_X6_48 : Cond.fieldLink "ThrowRows" 48 "ThrowRows" "ways" "LThrowRows$Ways;" ∈ gTB := gTB_at 162 rfl rfl
theorem qf_X6_55 : Cond.fieldLink "ThrowRows" 55 "ThrowRows" "fillings" "LThrowRows$Fillings;" ∈ gTB := gTB_at 163 rfl rfl
theorem qf_X6_59 : Cond.fieldLink "ThrowRows" 59 "ThrowRows" "handCount" "I" ∈ gTB := gTB_at 164 rfl rfl
theorem qf_X6_215 : Cond.fieldLink "ThrowRows" 215 "ThrowRows" "dropped" "I" ∈ gTB := gTB_at 165 rfl rfl
theorem qf_X6_64 : Cond.fieldLink "ThrowRows" 64 "ThrowRows" "latestFault" "I" ∈ gTB := gTB_at 166 rfl rfl
set_option maxRecDepth 20000 in
theorem qf_X7_50 : Cond.fieldLink "ThrowRowsModel" 50 "ThrowRowsModel" "fault" "I" ∈ gTB := gTB_at 628 rfl rfl
set_option maxRecDepth 20000 in
theorem qf_X7_186 : Cond.fieldLink "ThrowRowsModel" 186 "ThrowRowsModel" "trace" "I" ∈ gTB := gTB_at 629 rfl rfl
set_option maxRecDepth 20000 in
theorem qf_X7_9 : Cond.fieldLink "ThrowRowsModel" 9 "ThrowRowsModel" "sorts" "[I" ∈ gTB := gTB_at 630 rfl rfl
set_option maxRecDepth 20000 in
theorem qf_X7_13 : Cond.fieldLink "ThrowRowsModel" 13 "ThrowRowsModel" "sheetLong" "[I" ∈ gTB := gTB_at 631 rfl rfl
set_option maxRecDepth 20000 in
theorem qf_X7_16 : Cond.fieldLink "ThrowRowsModel" 16 "ThrowRowsModel" "cells" "[I" ∈ gTB := gTB_at 632 rfl rfl
set_option maxRecDepth 20000 in
theorem qf_X7_60 : Cond.fieldLink "ThrowRowsModel" 60 "ThrowRowsModel" "period" "I" ∈ gTB := gTB_at 633 rfl rfl
set_option maxRecDepth 20000 in
theorem qf_X7_19 : Cond.fieldLink "ThrowRowsModel" 19 "ThrowRowsModel" "row" "[I" ∈ gTB := gTB_at 634 rfl rfl
set_option maxRecDepth 20000 in
theorem qf_X7_78 : Cond.fieldLink "ThrowRowsModel" 78 "ThrowRowsModel" "hands" "I" ∈ gTB := gTB_at 635 rfl rfl
set_option maxRecDepth 20000 in
theorem qf_X7_22 : Cond.fieldLink "ThrowRowsModel" 22 "ThrowRowsModel" "kinds" "[I" ∈ gTB := gTB_at 636 rfl rfl
set_option maxRecDepth 20000 in
theorem qf_X7_81 : Cond.fieldLink "ThrowRowsModel" 81 "ThrowRowsModel" "dropped" "I" ∈ gTB := gTB_at 637 rfl rfl
set_option maxRecDepth 20000 in
theorem qf_X7_25 : Cond.fieldLink "ThrowRowsModel" 25 "ThrowRowsModel" "orbits" "[I" ∈ gTB := gTB_at 638 rfl rfl
set_option maxRecDepth 20000 in
theorem qf_X7_28 : Cond.fieldLink "ThrowRowsModel" 28 "ThrowRowsModel" "ballOf" "[I" ∈ gTB := gTB_at 639 rfl rfl
set_option maxRecDepth 20000 in
theorem qf_X7_31 : Cond.fieldLink "ThrowRowsModel" 31 "ThrowRowsModel" "next" "[I" ∈ gTB := gTB_at 640 rfl rfl
set_option maxRecDepth 20000 in
theorem qf_X7_34 : Cond.fieldLink "ThrowRowsModel" 34 "ThrowRowsModel" "imagePeriod" "[I" ∈ gTB := gTB_at 641 rfl rfl
set_option maxRecDepth 20000 in
theorem qf_X7_37 : Cond.fieldLink "ThrowRowsModel" 37 "ThrowRowsModel" "imageRow" "[I" ∈ gTB := gTB_at 642 rfl rfl
set_option maxRecDepth 20000 in
theorem qf_X7_138 : Cond.fieldLink "ThrowRowsModel" 138 "ThrowRowsModel" "openLong" "I" ∈ gTB := gTB_at 643 rfl rfl
set_option maxRecDepth 20000 in
theorem qf_X7_135 : Cond.fieldLink "ThrowRowsModel" 135 "ThrowRowsModel" "openTop" "I" ∈ gTB := gTB_at 644 rfl rfl
set_option maxRecDepth 20000 in
theorem qf_X7_40 : Cond.fieldLink "ThrowRowsModel" 40 "ThrowRowsModel" "open" "[I" ∈ gTB := gTB_at 645 rfl rfl
set_option maxRecDepth 20000 in
theorem qf_X7_43 : Cond.fieldLink "ThrowRowsModel" 43 "ThrowRowsModel" "fills" "[J" ∈ gTB := gTB_at 646 rfl rfl
set_option maxRecDepth 20000 in
theorem qf_X7_47 : Cond.fieldLink "ThrowRowsModel" 47 "ThrowRowsModel" "far" "[I" ∈ gTB := gTB_at 647 rfl rfl
theorem qf_X6_86 : Cond.fieldLinkNest "ThrowRows" 86 "ThrowRows$Row" "period" "I" "ThrowRows" ∈ lw_tbl := List.mem_of_getElem? (i := 70) rfl
theorem qf_X6_257 : Cond.fieldLinkNest "ThrowRows" 257 "ThrowRows$Kinds" "traced" "I" "ThrowRows" ∈ lw_tbl := List.mem_of_getElem? (i := 101) rfl
theorem qf_X6_241 : Cond.fieldLinkNest "ThrowRows" 241 "ThrowRows$Sheet" "cells" "[I" "ThrowRows" ∈ lw_tbl := List.mem_of_getElem? (i := 145) rfl
theorem qf_X6_238 : Cond.fieldLinkNest "ThrowRows" 238 "ThrowRows$Sheet" "sort" "I" "ThrowRows" ∈ lw_tbl := List.mem_of_getElem? (i := 148) rfl
theorem ql_L_9 : Cond.methodLink "ThrowRowsLaw" 9 yX6_init ∈ gTB := gTB_at 56 rfl rfl
theorem ql_X6_3 : Cond.methodLink "ThrowRows" 3 ⟨"java/lang/Object", "<init>", "()V"⟩ ∈ gTB := gTB_at 59 rfl rfl
theorem ql_X3_3 : Cond.methodLink "ThrowRows$Row" 3 ⟨"java/lang/Object", "<init>", "()V"⟩ ∈ gTB := gTB_at 67 rfl rfl
theorem ql_X1_3 : Cond.methodLink "ThrowRows$Flight" 3 ⟨"java/lang/Object", "<init>", "()V"⟩ ∈ gTB := gTB_at 85 rfl rfl
theorem ql_X2_3 : Cond.methodLink "ThrowRows$Kinds" 3 ⟨"java/lang/Object", "<init>", "()V"⟩ ∈ gTB := gTB_at 98 rfl rfl
theorem ql_X5_3 : Cond.methodLink "ThrowRows$Ways" 3 ⟨"java/lang/Object", "<init>", "()V"⟩ ∈ gTB := gTB_at 112 rfl rfl
theorem ql_X0_3 : Cond.methodLink "ThrowRows$Fillings" 3 ⟨"java/lang/Object", "<init>", "()V"⟩ ∈ gTB := gTB_at 128 rfl rfl
theorem ql_X4_3 : Cond.methodLink "ThrowRows$Sheet" 3 ⟨"java/lang/Object", "<init>", "()V"⟩ ∈ gTB := gTB_at 143 rfl rfl
theorem ql_L_13 : Cond.methodLink "ThrowRowsLaw" 13 yX6_pattern ∈ gTB := gTB_at 190 rfl rfl
theorem ql_X6_67 : Cond.methodLink "ThrowRows" 67 yX6_isSheet ∈ gTB := gTB_at 194 rfl rfl
theorem ql_X6_104 : Cond.methodLink "ThrowRows" 104 yX6_isWithin ∈ gTB := gTB_at 197 rfl rfl
theorem ql_X6_71 : Cond.methodLink "ThrowRows" 71 yX6_isSort ∈ gTB := gTB_at 200 rfl rfl
theorem ql_X6_74 : Cond.methodLink "ThrowRows" 74 yX4_faultOfCells ∈ gTB := gTB_at 203 rfl rfl
theorem ql_X4_28 : Cond.methodLink "ThrowRows$Sheet" 28 yX4_isThere ∈ gTB := gTB_at 207 rfl rfl
theorem ql_X4_32 : Cond.methodLink "ThrowRows$Sheet" 32 yX4_holds ∈ gTB := gTB_at 211 rfl rfl
theorem ql_X6_78 : Cond.methodLink "ThrowRows" 78 yX6_firstWrongCode ∈ gTB := gTB_at 215 rfl rfl
theorem ql_X6_235 : Cond.methodLink "ThrowRows" 235 yX4_read ∈ gTB := gTB_at 218 rfl rfl
theorem ql_X6_82 : Cond.methodLink "ThrowRows" 82 yX6_takeText ∈ gTB := gTB_at 222 rfl rfl
theorem ql_X6_147 : Cond.methodLink "ThrowRows" 147 yX3_setHeight ∈ gTB := gTB_at 226 rfl rfl
theorem ql_X3_25 : Cond.methodLink "ThrowRows$Row" 25 yX3_hasBeat ∈ gTB := gTB_at 230 rfl rfl
theorem ql_X6_263 : Cond.methodLink "ThrowRows" 263 yX2_reset ∈ gTB := gTB_at 234 rfl rfl
theorem ql_X2_15 : Cond.methodLink "ThrowRows$Kinds" 15 yJ7_fill_53178 ∈ gTB := gTB_at 238 rfl rfl
theorem ql_L_18 : Cond.methodLink "ThrowRowsLaw" 18 yX6_throwOf ∈ gTB := gTB_at 241 rfl rfl
theorem ql_X6_89 : Cond.methodLink "ThrowRows" 89 yX3_hasBeat ∈ gTB := gTB_at 245 rfl rfl
theorem ql_X6_92 : Cond.methodLink "ThrowRows" 92 yX3_heightIn ∈ gTB := gTB_at 246 rfl rfl
theorem ql_X3_19 : Cond.methodLink "ThrowRows$Row" 19 yJ9_floorMod_7cf53 ∈ gTB := gTB_at 250 rfl rfl
theorem ql_L_23 : Cond.methodLink "ThrowRowsLaw" 23 yX6_clash ∈ gTB := gTB_at 253 rfl rfl
theorem ql_X6_96 : Cond.methodLink "ThrowRows" 96 yX3_isThere ∈ gTB := gTB_at 257 rfl rfl
theorem ql_X6_100 : Cond.methodLink "ThrowRows" 100 yX3_firstClash ∈ gTB := gTB_at 261 rfl rfl
theorem ql_X3_33 : Cond.methodLink "ThrowRows$Row" 33 yX3_landingOf ∈ gTB := gTB_at 265 rfl rfl
theorem ql_X3_29 : Cond.methodLink "ThrowRows$Row" 29 yX3_heightIn ∈ gTB := gTB_at 269 rfl rfl
theorem ql_L_28 : Cond.methodLink "ThrowRowsLaw" 28 yX6_good ∈ gTB := gTB_at 270 rfl rfl
theorem ql_X6_108 : Cond.methodLink "ThrowRows" 108 yX3_isGood ∈ gTB := gTB_at 274 rfl rfl
theorem ql_X3_36 : Cond.methodLink "ThrowRows$Row" 36 yX3_isThere ∈ gTB := gTB_at 278 rfl rfl
theorem ql_X3_40 : Cond.methodLink "ThrowRows$Row" 40 yX3_firstClash ∈ gTB := gTB_at 279 rfl rfl
theorem ql_X6_111 : Cond.methodLink "ThrowRows" 111 yX3_ballCount ∈ gTB := gTB_at 280 rfl rfl
theorem ql_X6_114 : Cond.methodLink "ThrowRows" 114 yX3_greatestHeight ∈ gTB := gTB_at 284 rfl rfl
theorem ql_X3_44 : Cond.methodLink "ThrowRows$Row" 44 yJ9_max_7cf53 ∈ gTB := gTB_at 288 rfl rfl
theorem ql_X6_117 : Cond.methodLink "ThrowRows" 117 yX3_isPrime ∈ gTB := gTB_at 291 rfl rfl
theorem ql_X3_47 : Cond.methodLink "ThrowRows$Row" 47 yX3_stateAhead ∈ gTB := gTB_at 295 rfl rfl
theorem ql_X6_120 : Cond.methodLink "ThrowRows" 120 yX3_isGround ∈ gTB := gTB_at 299 rfl rfl
set_option maxRecDepth 20000 in
theorem ql_X3_50 : Cond.methodLink "ThrowRows$Row" 50 yX3_ballCount ∈ gTB := gTB_at 303 rfl rfl
set_option maxRecDepth 20000 in
theorem ql_X6_123 : Cond.methodLink "ThrowRows" 123 yX3_orbitsBelow ∈ gTB := gTB_at 304 rfl rfl
set_option maxRecDepth 20000 in
theorem ql_X3_56 : Cond.methodLink "ThrowRows$Row" 56 yX3_leastInOrbit ∈ gTB := gTB_at 308 rfl rfl
set_option maxRecDepth 20000 in
theorem ql_X3_53 : Cond.methodLink "ThrowRows$Row" 53 yJ9_min_7cf53 ∈ gTB := gTB_at 312 rfl rfl
set_option maxRecDepth 20000 in
theorem ql_L_32 : Cond.methodLink "ThrowRowsLaw" 32 yX6_state ∈ gTB := gTB_at 315 rfl rfl
set_option maxRecDepth 20000 in
theorem ql_X6_126 : Cond.methodLink "ThrowRows" 126 yX3_stateAhead ∈ gTB := gTB_at 319 rfl rfl
set_option maxRecDepth 20000 in
theorem ql_L_36 : Cond.methodLink "ThrowRowsLaw" 36 yX6_ball ∈ gTB := gTB_at 320 rfl rfl
set_option maxRecDepth 20000 in
theorem ql_X6_129 : Cond.methodLink "ThrowRows" 129 yX1_begin ∈ gTB := gTB_at 324 rfl rfl
set_option maxRecDepth 20000 in
theorem ql_X1_15 : Cond.methodLink "ThrowRows$Flight" 15 yJ7_fill_53178 ∈ gTB := gTB_at 328 rfl rfl
set_option maxRecDepth 20000 in
theorem ql_X6_132 : Cond.methodLink "ThrowRows" 132 yX1_pass ∈ gTB := gTB_at 329 rfl rfl
set_option maxRecDepth 20000 in
theorem ql_L_40 : Cond.methodLink "ThrowRowsLaw" 40 yX6_orbit ∈ gTB := gTB_at 333 rfl rfl
set_option maxRecDepth 20000 in
theorem ql_X6_136 : Cond.methodLink "ThrowRows" 136 yX3_leastInOrbit ∈ gTB := gTB_at 337 rfl rfl
set_option maxRecDepth 20000 in
theorem ql_L_44 : Cond.methodLink "ThrowRowsLaw" 44 yX6_hands ∈ gTB := gTB_at 338 rfl rfl
set_option maxRecDepth 20000 in
theorem ql_L_48 : Cond.methodLink "ThrowRowsLaw" 48 yX6_beat ∈ gTB := gTB_at 342 rfl rfl
set_option maxRecDepth 20000 in
theorem ql_X6_139 : Cond.methodLink "ThrowRows" 139 yX6_handIn ∈ gTB := gTB_at 346 rfl rfl
set_option maxRecDepth 20000 in
theorem ql_X6_142 : Cond.methodLink "ThrowRows" 142 yJ6_bitCount_0f7a4 ∈ gTB := gTB_at 350 rfl rfl
set_option maxRecDepth 20000 in
theorem ql_L_53 : Cond.methodLink "ThrowRowsLaw" 53 yX6_swap ∈ gTB := gTB_at 356 rfl rfl
set_option maxRecDepth 20000 in
theorem ql_L_57 : Cond.methodLink "ThrowRowsLaw" 57 yX6_turn ∈ gTB := gTB_at 360 rfl rfl
set_option maxRecDepth 20000 in
theorem ql_X6_151 : Cond.methodLink "ThrowRows" 151 yX3_take ∈ gTB := gTB_at 364 rfl rfl
set_option maxRecDepth 20000 in
theorem ql_X3_59 : Cond.methodLink "ThrowRows$Row" 59 yX3_takeTurned ∈ gTB := gTB_at 368 rfl rfl
set_option maxRecDepth 20000 in
theorem ql_X3_63 : Cond.methodLink "ThrowRows$Row" 63 yX3_setHeight ∈ gTB := gTB_at 372 rfl rfl
set_option maxRecDepth 20000 in
theorem ql_X6_155 : Cond.methodLink "ThrowRows" 155 yX3_takeTurned ∈ gTB := gTB_at 373 rfl rfl
set_option maxRecDepth 20000 in
theorem ql_L_61 : Cond.methodLink "ThrowRowsLaw" 61 yX6_backward ∈ gTB := gTB_at 374 rfl rfl
set_option maxRecDepth 20000 in
theorem ql_X6_159 : Cond.methodLink "ThrowRows" 159 yX3_takeBackward ∈ gTB := gTB_at 378 rfl rfl
set_option maxRecDepth 20000 in
theorem ql_L_65 : Cond.methodLink "ThrowRowsLaw" 65 yX6_greatest ∈ gTB := gTB_at 382 rfl rfl
set_option maxRecDepth 20000 in
theorem ql_X6_162 : Cond.methodLink "ThrowRows" 162 yX3_greatestTurn ∈ gTB := gTB_at 386 rfl rfl
set_option maxRecDepth 20000 in
theorem ql_X3_67 : Cond.methodLink "ThrowRows$Row" 67 yX3_isTurnGreater ∈ gTB := gTB_at 390 rfl rfl
set_option maxRecDepth 20000 in
theorem ql_L_69 : Cond.methodLink "ThrowRowsLaw" 69 yX6_keep ∈ gTB := gTB_at 394 rfl rfl
set_option maxRecDepth 20000 in
theorem ql_X6_165 : Cond.methodLink "ThrowRows" 165 yX6_isImage ∈ gTB := gTB_at 398 rfl rfl
set_option maxRecDepth 20000 in
theorem ql_L_73 : Cond.methodLink "ThrowRowsLaw" 73 yX6_back ∈ gTB := gTB_at 401 rfl rfl
set_option maxRecDepth 20000 in
theorem ql_L_77 : Cond.methodLink "ThrowRowsLaw" 77 yX6_like ∈ gTB := gTB_at 405 rfl rfl
set_option maxRecDepth 20000 in
theorem ql_X6_168 : Cond.methodLink "ThrowRows" 168 yX3_isTurned ∈ gTB := gTB_at 409 rfl rfl
set_option maxRecDepth 20000 in
theorem ql_X3_71 : Cond.methodLink "ThrowRows$Row" 71 yX3_greatestTurn ∈ gTB := gTB_at 413 rfl rfl
set_option maxRecDepth 20000 in
theorem ql_L_81 : Cond.methodLink "ThrowRowsLaw" 81 yX6_howMany ∈ gTB := gTB_at 414 rfl rfl
set_option maxRecDepth 20000 in
theorem ql_X6_174 : Cond.methodLink "ThrowRows" 174 yX0_allow ∈ gTB := gTB_at 419 rfl rfl
set_option maxRecDepth 20000 in
theorem ql_X6_178 : Cond.methodLink "ThrowRows" 178 yX0_count ∈ gTB := gTB_at 424 rfl rfl
set_option maxRecDepth 20000 in
theorem ql_X0_25 : Cond.methodLink "ThrowRows$Fillings" 25 yJ7_fill_53178 ∈ gTB := gTB_at 428 rfl rfl
set_option maxRecDepth 20000 in
theorem ql_X0_31 : Cond.methodLink "ThrowRows$Fillings" 31 yJ6_bitCount_0f7a4 ∈ gTB := gTB_at 429 rfl rfl
set_option maxRecDepth 20000 in
theorem ql_X0_37 : Cond.methodLink "ThrowRows$Fillings" 37 yX0_addThrow ∈ gTB := gTB_at 430 rfl rfl
set_option maxRecDepth 20000 in
theorem ql_L_86 : Cond.methodLink "ThrowRowsLaw" 86 yX6_way ∈ gTB := gTB_at 434 rfl rfl
set_option maxRecDepth 20000 in
theorem ql_X6_181 : Cond.methodLink "ThrowRows" 181 yX5_measure ∈ gTB := gTB_at 438 rfl rfl
set_option maxRecDepth 20000 in
theorem ql_X5_18 : Cond.methodLink "ThrowRows$Ways" 18 yJ7_fill_53178 ∈ gTB := gTB_at 442 rfl rfl
set_option maxRecDepth 20000 in
theorem ql_X5_28 : Cond.methodLink "ThrowRows$Ways" 28 yX5_reach ∈ gTB := gTB_at 443 rfl rfl
set_option maxRecDepth 20000 in
theorem ql_X5_32 : Cond.methodLink "ThrowRows$Ways" 32 yX5_reachFrom ∈ gTB := gTB_at 448 rfl rfl
set_option maxRecDepth 20000 in
theorem ql_X5_35 : Cond.methodLink "ThrowRows$Ways" 35 yX5_beatsFrom ∈ gTB := gTB_at 452 rfl rfl
set_option maxRecDepth 20000 in
theorem ql_X6_184 : Cond.methodLink "ThrowRows" 184 yX5_beatsFrom ∈ gTB := gTB_at 456 rfl rfl
set_option maxRecDepth 20000 in
theorem ql_X6_187 : Cond.methodLink "ThrowRows" 187 yX5_throwOnWay ∈ gTB := gTB_at 457 rfl rfl
set_option maxRecDepth 20000 in
theorem ql_X5_43 : Cond.methodLink "ThrowRows$Ways" 43 yX5_leastThrow ∈ gTB := gTB_at 461 rfl rfl
set_option maxRecDepth 20000 in
theorem ql_X5_47 : Cond.methodLink "ThrowRows$Ways" 47 yX5_stateBehind ∈ gTB := gTB_at 465 rfl rfl
set_option maxRecDepth 20000 in
theorem ql_L_90 : Cond.methodLink "ThrowRowsLaw" 90 yX6_filled ∈ gTB := gTB_at 468 rfl rfl
set_option maxRecDepth 20000 in
theorem ql_X6_190 : Cond.methodLink "ThrowRows" 190 yX6_areOpenOrThrows ∈ gTB := gTB_at 472 rfl rfl
set_option maxRecDepth 20000 in
theorem ql_X6_194 : Cond.methodLink "ThrowRows" 194 yX6_allowCells ∈ gTB := gTB_at 475 rfl rfl
set_option maxRecDepth 20000 in
theorem ql_X6_197 : Cond.methodLink "ThrowRows" 197 yX0_throwOfFirst ∈ gTB := gTB_at 479 rfl rfl
set_option maxRecDepth 20000 in
theorem ql_X0_41 : Cond.methodLink "ThrowRows$Fillings" 41 yX0_firstThrow ∈ gTB := gTB_at 483 rfl rfl
set_option maxRecDepth 20000 in
theorem ql_L_95 : Cond.methodLink "ThrowRowsLaw" 95 yX6_kind ∈ gTB := gTB_at 487 rfl rfl
set_option maxRecDepth 20000 in
theorem ql_X6_200 : Cond.methodLink "ThrowRows" 200 yX6_isBall ∈ gTB := gTB_at 491 rfl rfl
set_option maxRecDepth 20000 in
theorem ql_X6_203 : Cond.methodLink "ThrowRows" 203 yX6_isKind ∈ gTB := gTB_at 494 rfl rfl
set_option maxRecDepth 20000 in
theorem ql_X6_206 : Cond.methodLink "ThrowRows" 206 yX2_kindOf ∈ gTB := gTB_at 497 rfl rfl
set_option maxRecDepth 20000 in
theorem ql_X6_209 : Cond.methodLink "ThrowRows" 209 yX2_setKind ∈ gTB := gTB_at 502 rfl rfl
set_option maxRecDepth 20000 in
theorem ql_L_99 : Cond.methodLink "ThrowRowsLaw" 99 yX6_broken ∈ gTB := gTB_at 506 rfl rfl
set_option maxRecDepth 20000 in
theorem ql_X6_212 : Cond.methodLink "ThrowRows" 212 yX2_mayGo ∈ gTB := gTB_at 510 rfl rfl
set_option maxRecDepth 20000 in
theorem ql_X2_25 : Cond.methodLink "ThrowRows$Kinds" 25 yX2_kindOf ∈ gTB := gTB_at 514 rfl rfl
set_option maxRecDepth 20000 in
theorem ql_L_103 : Cond.methodLink "ThrowRowsLaw" 103 yX6_drop ∈ gTB := gTB_at 515 rfl rfl
set_option maxRecDepth 20000 in
theorem ql_L_107 : Cond.methodLink "ThrowRowsLaw" 107 yX6_empty ∈ gTB := gTB_at 519 rfl rfl
set_option maxRecDepth 20000 in
theorem ql_L_111 : Cond.methodLink "ThrowRowsLaw" 111 yX6_sheet ∈ gTB := gTB_at 523 rfl rfl
set_option maxRecDepth 20000 in
theorem ql_X6_218 : Cond.methodLink "ThrowRows" 218 yX6_faulted ∈ gTB := gTB_at 527 rfl rfl
set_option maxRecDepth 20000 in
theorem ql_X6_221 : Cond.methodLink "ThrowRows" 221 yX4_renew ∈ gTB := gTB_at 531 rfl rfl
set_option maxRecDepth 20000 in
theorem ql_X4_19 : Cond.methodLink "ThrowRows$Sheet" 19 yJ7_fill_53178 ∈ gTB := gTB_at 535 rfl rfl
set_option maxRecDepth 20000 in
theorem ql_L_116 : Cond.methodLink "ThrowRowsLaw" 116 yX6_lose ∈ gTB := gTB_at 536 rfl rfl
set_option maxRecDepth 20000 in
theorem ql_X6_224 : Cond.methodLink "ThrowRows" 224 yX4_clear ∈ gTB := gTB_at 540 rfl rfl
set_option maxRecDepth 20000 in
theorem ql_L_120 : Cond.methodLink "ThrowRowsLaw" 120 yX6_put ∈ gTB := gTB_at 544 rfl rfl
set_option maxRecDepth 20000 in
theorem ql_X6_227 : Cond.methodLink "ThrowRows" 227 yX4_isThere ∈ gTB := gTB_at 548 rfl rfl
set_option maxRecDepth 20000 in
theorem ql_X6_228 : Cond.methodLink "ThrowRows" 228 yX4_holds ∈ gTB := gTB_at 549 rfl rfl
set_option maxRecDepth 20000 in
theorem ql_X6_232 : Cond.methodLink "ThrowRows" 232 yX4_write ∈ gTB := gTB_at 550 rfl rfl
set_option maxRecDepth 20000 in
theorem ql_X4_36 : Cond.methodLink "ThrowRows$Sheet" 36 yX4_cutToSort ∈ gTB := gTB_at 554 rfl rfl
set_option maxRecDepth 20000 in
theorem ql_L_124 : Cond.methodLink "ThrowRowsLaw" 124 yX6_cell ∈ gTB := gTB_at 558 rfl rfl
set_option maxRecDepth 20000 in
theorem ql_L_128 : Cond.methodLink "ThrowRowsLaw" 128 yX6_copy ∈ gTB := gTB_at 562 rfl rfl
set_option maxRecDepth 20000 in
theorem ql_X6_245 : Cond.methodLink "ThrowRows" 245 ⟨"java/lang/System", "arraycopy", "(Ljava/lang/Object;ILjava/lang/Object;II)V"⟩ ∈ gTB := gTB_at 566 rfl rfl
set_option maxRecDepth 20000 in
theorem ql_L_133 : Cond.methodLink "ThrowRowsLaw" 133 yX6_tell ∈ gTB := gTB_at 569 rfl rfl
set_option maxRecDepth 20000 in
theorem ql_X6_251 : Cond.methodLink "ThrowRows" 251 yX2_telling ∈ gTB := gTB_at 573 rfl rfl
set_option maxRecDepth 20000 in
theorem ql_X2_29 : Cond.methodLink "ThrowRows$Kinds" 29 yX2_tellingOfEgg ∈ gTB := gTB_at 577 rfl rfl
set_option maxRecDepth 20000 in
theorem ql_X2_38 : Cond.methodLink "ThrowRows$Kinds" 38 yX2_leave ∈ gTB := gTB_at 581 rfl rfl
set_option maxRecDepth 20000 in
theorem ql_X2_32 : Cond.methodLink "ThrowRows$Kinds" 32 yX2_tellingOfHeavy ∈ gTB := gTB_at 585 rfl rfl
set_option maxRecDepth 20000 in
theorem ql_X2_35 : Cond.methodLink "ThrowRows$Kinds" 35 yX2_tellingOfBall ∈ gTB := gTB_at 589 rfl rfl
set_option maxRecDepth 20000 in
theorem ql_L_137 : Cond.methodLink "ThrowRowsLaw" 137 yX6_call ∈ gTB := gTB_at 593 rfl rfl
set_option maxRecDepth 20000 in
theorem ql_X6_254 : Cond.methodLink "ThrowRows" 254 yX2_calling ∈ gTB := gTB_at 597 rfl rfl
set_option maxRecDepth 20000 in
theorem ql_X2_42 : Cond.methodLink "ThrowRows$Kinds" 42 yX2_mayGo ∈ gTB := gTB_at 601 rfl rfl
set_option maxRecDepth 20000 in
theorem ql_L_141 : Cond.methodLink "ThrowRowsLaw" 141 yX6_as ∈ gTB := gTB_at 602 rfl rfl
set_option maxRecDepth 20000 in
theorem ql_L_145 : Cond.methodLink "ThrowRowsLaw" 145 yX6_trace ∈ gTB := gTB_at 606 rfl rfl
set_option maxRecDepth 20000 in
theorem ql_L_149 : Cond.methodLink "ThrowRowsLaw" 149 yX6_fault ∈ gTB := gTB_at 610 rfl rfl
set_option maxRecDepth 20000 in
theorem ql_L_153 : Cond.methodLink "ThrowRowsLaw" 153 yX6_many ∈ gTB := gTB_at 614 rfl rfl
set_option maxRecDepth 20000 in
theorem ql_X6_260 : Cond.methodLink "ThrowRows" 260 yX6_imageCount ∈ gTB := gTB_at 618 rfl rfl
set_option maxRecDepth 20000 in
theorem ql_L_12 : Cond.methodLink "ThrowRowsLaw" 12 yX7_init ∈ gTB := gTB_at 624 rfl rfl
set_option maxRecDepth 20000 in
theorem ql_X7_1 : Cond.methodLink "ThrowRowsModel" 1 ⟨"java/lang/Object", "<init>", "()V"⟩ ∈ gTB := gTB_at 627 rfl rfl
set_option maxRecDepth 20000 in
theorem ql_L_17 : Cond.methodLink "ThrowRowsLaw" 17 yX7_pattern ∈ gTB := gTB_at 690 rfl rfl
set_option maxRecDepth 20000 in
theorem ql_X7_63 : Cond.methodLink "ThrowRowsModel" 63 yX7_isSheet ∈ gTB := gTB_at 694 rfl rfl
set_option maxRecDepth 20000 in
theorem ql_X7_56 : Cond.methodLink "ThrowRowsModel" 56 yX7_within ∈ gTB := gTB_at 697 rfl rfl
set_option maxRecDepth 20000 in
theorem ql_X7_67 : Cond.methodLink "ThrowRowsModel" 67 yX7_isSort ∈ gTB := gTB_at 700 rfl rfl
set_option maxRecDepth 20000 in
theorem ql_X7_70 : Cond.methodLink "ThrowRowsModel" 70 yX7_against ∈ gTB := gTB_at 703 rfl rfl
set_option maxRecDepth 20000 in
theorem ql_X7_74 : Cond.methodLink "ThrowRowsModel" 74 yX7_fails ∈ gTB := gTB_at 707 rfl rfl
set_option maxRecDepth 20000 in
theorem ql_L_22 : Cond.methodLink "ThrowRowsLaw" 22 yX7_throwOf ∈ gTB := gTB_at 711 rfl rfl
set_option maxRecDepth 20000 in
theorem ql_X7_84 : Cond.methodLink "ThrowRowsModel" 84 yX7_isBeat ∈ gTB := gTB_at 715 rfl rfl
set_option maxRecDepth 20000 in
theorem ql_L_27 : Cond.methodLink "ThrowRowsLaw" 27 yX7_clash ∈ gTB := gTB_at 719 rfl rfl
set_option maxRecDepth 20000 in
theorem ql_X7_90 : Cond.methodLink "ThrowRowsModel" 90 yX7_findClash ∈ gTB := gTB_at 723 rfl rfl
set_option maxRecDepth 20000 in
theorem ql_X7_87 : Cond.methodLink "ThrowRowsModel" 87 yX7_landsIn ∈ gTB := gTB_at 727 rfl rfl
set_option maxRecDepth 20000 in
theorem ql_L_31 : Cond.methodLink "ThrowRowsLaw" 31 yX7_good ∈ gTB := gTB_at 731 rfl rfl
set_option maxRecDepth 20000 in
theorem ql_X7_100 : Cond.methodLink "ThrowRowsModel" 100 yX7_isGood ∈ gTB := gTB_at 735 rfl rfl
set_option maxRecDepth 20000 in
theorem ql_X7_97 : Cond.methodLink "ThrowRowsModel" 97 yX7_balls ∈ gTB := gTB_at 739 rfl rfl
set_option maxRecDepth 20000 in
theorem ql_X7_104 : Cond.methodLink "ThrowRowsModel" 104 yX7_greatestThrow ∈ gTB := gTB_at 743 rfl rfl
set_option maxRecDepth 20000 in
theorem ql_X7_107 : Cond.methodLink "ThrowRowsModel" 107 yX7_isPrime ∈ gTB := gTB_at 747 rfl rfl
set_option maxRecDepth 20000 in
theorem ql_X7_94 : Cond.methodLink "ThrowRowsModel" 94 yX7_stateAhead ∈ gTB := gTB_at 751 rfl rfl
set_option maxRecDepth 20000 in
theorem ql_X7_110 : Cond.methodLink "ThrowRowsModel" 110 yX7_isGround ∈ gTB := gTB_at 755 rfl rfl
set_option maxRecDepth 20000 in
theorem ql_X7_113 : Cond.methodLink "ThrowRowsModel" 113 yX7_findOrbits ∈ gTB := gTB_at 759 rfl rfl
set_option maxRecDepth 20000 in
theorem ql_L_35 : Cond.methodLink "ThrowRowsLaw" 35 yX7_state ∈ gTB := gTB_at 763 rfl rfl
set_option maxRecDepth 20000 in
theorem ql_L_39 : Cond.methodLink "ThrowRowsLaw" 39 yX7_ball ∈ gTB := gTB_at 767 rfl rfl
set_option maxRecDepth 20000 in
theorem ql_X7_116 : Cond.methodLink "ThrowRowsModel" 116 yX7_layBalls ∈ gTB := gTB_at 771 rfl rfl
set_option maxRecDepth 20000 in
theorem ql_L_43 : Cond.methodLink "ThrowRowsLaw" 43 yX7_orbit ∈ gTB := gTB_at 775 rfl rfl
set_option maxRecDepth 20000 in
theorem ql_L_47 : Cond.methodLink "ThrowRowsLaw" 47 yX7_hands ∈ gTB := gTB_at 779 rfl rfl
set_option maxRecDepth 20000 in
theorem ql_L_52 : Cond.methodLink "ThrowRowsLaw" 52 yX7_beat ∈ gTB := gTB_at 783 rfl rfl
set_option maxRecDepth 20000 in
theorem ql_X7_119 : Cond.methodLink "ThrowRowsModel" 119 yX7_size ∈ gTB := gTB_at 787 rfl rfl
set_option maxRecDepth 20000 in
theorem ql_L_56 : Cond.methodLink "ThrowRowsLaw" 56 yX7_swap ∈ gTB := gTB_at 790 rfl rfl
set_option maxRecDepth 20000 in
theorem ql_L_60 : Cond.methodLink "ThrowRowsLaw" 60 yX7_turn ∈ gTB := gTB_at 794 rfl rfl
set_option maxRecDepth 20000 in
theorem ql_X7_122 : Cond.methodLink "ThrowRowsModel" 122 yX7_takeNext ∈ gTB := gTB_at 798 rfl rfl
set_option maxRecDepth 20000 in
theorem ql_L_64 : Cond.methodLink "ThrowRowsLaw" 64 yX7_backward ∈ gTB := gTB_at 802 rfl rfl
set_option maxRecDepth 20000 in
theorem ql_L_68 : Cond.methodLink "ThrowRowsLaw" 68 yX7_greatest ∈ gTB := gTB_at 806 rfl rfl
set_option maxRecDepth 20000 in
theorem ql_X7_125 : Cond.methodLink "ThrowRowsModel" 125 yX7_isGreater ∈ gTB := gTB_at 810 rfl rfl
set_option maxRecDepth 20000 in
theorem ql_L_72 : Cond.methodLink "ThrowRowsLaw" 72 yX7_keep ∈ gTB := gTB_at 814 rfl rfl
set_option maxRecDepth 20000 in
theorem ql_X7_129 : Cond.methodLink "ThrowRowsModel" 129 yX7_isImage ∈ gTB := gTB_at 818 rfl rfl
set_option maxRecDepth 20000 in
theorem ql_L_76 : Cond.methodLink "ThrowRowsLaw" 76 yX7_back ∈ gTB := gTB_at 821 rfl rfl
set_option maxRecDepth 20000 in
theorem ql_L_80 : Cond.methodLink "ThrowRowsLaw" 80 yX7_like ∈ gTB := gTB_at 825 rfl rfl
set_option maxRecDepth 20000 in
theorem ql_X7_132 : Cond.methodLink "ThrowRowsModel" 132 yX7_isTurned ∈ gTB := gTB_at 829 rfl rfl
set_option maxRecDepth 20000 in
theorem ql_L_85 : Cond.methodLink "ThrowRowsLaw" 85 yX7_howMany ∈ gTB := gTB_at 833 rfl rfl
set_option maxRecDepth 20000 in
theorem ql_X7_152 : Cond.methodLink "ThrowRowsModel" 152 yX7_layFills ∈ gTB := gTB_at 838 rfl rfl
set_option maxRecDepth 20000 in
theorem ql_X7_141 : Cond.methodLink "ThrowRowsModel" 141 yX7_spot ∈ gTB := gTB_at 842 rfl rfl
set_option maxRecDepth 20000 in
theorem ql_X7_145 : Cond.methodLink "ThrowRowsModel" 145 yX7_mayThrow ∈ gTB := gTB_at 845 rfl rfl
set_option maxRecDepth 20000 in
theorem ql_X7_148 : Cond.methodLink "ThrowRowsModel" 148 yX7_addFills ∈ gTB := gTB_at 849 rfl rfl
set_option maxRecDepth 20000 in
theorem ql_L_89 : Cond.methodLink "ThrowRowsLaw" 89 yX7_way ∈ gTB := gTB_at 853 rfl rfl
set_option maxRecDepth 20000 in
theorem ql_X7_164 : Cond.methodLink "ThrowRowsModel" 164 yX7_findFar ∈ gTB := gTB_at 857 rfl rfl
set_option maxRecDepth 20000 in
theorem ql_X7_158 : Cond.methodLink "ThrowRowsModel" 158 yX7_mayGo ∈ gTB := gTB_at 861 rfl rfl
set_option maxRecDepth 20000 in
theorem ql_X7_161 : Cond.methodLink "ThrowRowsModel" 161 yX7_goesTo ∈ gTB := gTB_at 864 rfl rfl
set_option maxRecDepth 20000 in
theorem ql_X7_155 : Cond.methodLink "ThrowRowsModel" 155 yX7_thrownTo ∈ gTB := gTB_at 867 rfl rfl
set_option maxRecDepth 20000 in
theorem ql_L_94 : Cond.methodLink "ThrowRowsLaw" 94 yX7_filled ∈ gTB := gTB_at 870 rfl rfl
set_option maxRecDepth 20000 in
theorem ql_X7_168 : Cond.methodLink "ThrowRowsModel" 168 yX7_lost ∈ gTB := gTB_at 874 rfl rfl
set_option maxRecDepth 20000 in
theorem ql_X7_172 : Cond.methodLink "ThrowRowsModel" 172 yX7_firstFill ∈ gTB := gTB_at 878 rfl rfl
set_option maxRecDepth 20000 in
theorem ql_X7_176 : Cond.methodLink "ThrowRowsModel" 176 yX7_leadsOn ∈ gTB := gTB_at 882 rfl rfl
set_option maxRecDepth 20000 in
theorem ql_L_98 : Cond.methodLink "ThrowRowsLaw" 98 yX7_kind ∈ gTB := gTB_at 886 rfl rfl
set_option maxRecDepth 20000 in
theorem ql_X7_180 : Cond.methodLink "ThrowRowsModel" 180 yX7_isBall ∈ gTB := gTB_at 890 rfl rfl
set_option maxRecDepth 20000 in
theorem ql_L_102 : Cond.methodLink "ThrowRowsLaw" 102 yX7_broken ∈ gTB := gTB_at 893 rfl rfl
set_option maxRecDepth 20000 in
theorem ql_X7_183 : Cond.methodLink "ThrowRowsModel" 183 yX7_mayGoTo ∈ gTB := gTB_at 897 rfl rfl
set_option maxRecDepth 20000 in
theorem ql_L_106 : Cond.methodLink "ThrowRowsLaw" 106 yX7_drop ∈ gTB := gTB_at 901 rfl rfl
set_option maxRecDepth 20000 in
theorem ql_L_110 : Cond.methodLink "ThrowRowsLaw" 110 yX7_empty ∈ gTB := gTB_at 905 rfl rfl
set_option maxRecDepth 20000 in
theorem ql_L_115 : Cond.methodLink "ThrowRowsLaw" 115 yX7_sheet ∈ gTB := gTB_at 909 rfl rfl
set_option maxRecDepth 20000 in
theorem ql_L_119 : Cond.methodLink "ThrowRowsLaw" 119 yX7_lose ∈ gTB := gTB_at 913 rfl rfl
set_option maxRecDepth 20000 in
theorem ql_L_123 : Cond.methodLink "ThrowRowsLaw" 123 yX7_put ∈ gTB := gTB_at 917 rfl rfl
set_option maxRecDepth 20000 in
theorem ql_L_127 : Cond.methodLink "ThrowRowsLaw" 127 yX7_cell ∈ gTB := gTB_at 921 rfl rfl
set_option maxRecDepth 20000 in
theorem ql_L_132 : Cond.methodLink "ThrowRowsLaw" 132 yX7_copy ∈ gTB := gTB_at 925 rfl rfl
set_option maxRecDepth 20000 in
theorem ql_L_136 : Cond.methodLink "ThrowRowsLaw" 136 yX7_tell ∈ gTB := gTB_at 929 rfl rfl
set_option maxRecDepth 20000 in
theorem ql_X7_189 : Cond.methodLink "ThrowRowsModel" 189 yX7_begins ∈ gTB := gTB_at 933 rfl rfl
set_option maxRecDepth 20000 in
theorem ql_L_140 : Cond.methodLink "ThrowRowsLaw" 140 yX7_call ∈ gTB := gTB_at 937 rfl rfl
set_option maxRecDepth 20000 in
theorem ql_L_144 : Cond.methodLink "ThrowRowsLaw" 144 yX7_as ∈ gTB := gTB_at 941 rfl rfl
set_option maxRecDepth 20000 in
theorem ql_L_148 : Cond.methodLink "ThrowRowsLaw" 148 yX7_trace ∈ gTB := gTB_at 945 rfl rfl
set_option maxRecDepth 20000 in
theorem ql_L_152 : Cond.methodLink "ThrowRowsLaw" 152 yX7_fault ∈ gTB := gTB_at 949 rfl rfl
set_option maxRecDepth 20000 in
theorem ql_L_156 : Cond.methodLink "ThrowRowsLaw" 156 yX7_many ∈ gTB := gTB_at 953 rfl rfl
theorem ql_X6_11 : Cond.methodLinkNest "ThrowRows" 11 yX3_init "ThrowRows" ∈ lw_tbl := List.mem_of_getElem? (i := 64) rfl
theorem ql_X6_33 : Cond.methodLinkNest "ThrowRows" 33 yX1_init "ThrowRows" ∈ lw_tbl := List.mem_of_getElem? (i := 82) rfl
theorem ql_X6_40 : Cond.methodLinkNest "ThrowRows" 40 yX2_init "ThrowRows" ∈ lw_tbl := List.mem_of_getElem? (i := 95) rfl
theorem ql_X6_47 : Cond.methodLinkNest "ThrowRows" 47 yX5_init "ThrowRows" ∈ lw_tbl := List.mem_of_getElem? (i := 109) rfl
theorem ql_X6_54 : Cond.methodLinkNest "ThrowRows" 54 yX0_init "ThrowRows" ∈ lw_tbl := List.mem_of_getElem? (i := 125) rfl
theorem ql_X6_63 : Cond.methodLinkNest "ThrowRows" 63 yX4_init "ThrowRows" ∈ lw_tbl := List.mem_of_getElem? (i := 140) rfl
set_option maxRecDepth 20000 in
theorem ql_X0_21 : Cond.methodLinkNest "ThrowRows$Fillings" 21 yX6_isWithin "ThrowRows" ∈ lw_tbl := List.mem_of_getElem? (i := 423) rfl
set_option maxRecDepth 20000 in
theorem ql_X5_39 : Cond.methodLinkNest "ThrowRows$Ways" 39 yX6_isWithin "ThrowRows" ∈ lw_tbl := List.mem_of_getElem? (i := 447) rfl
set_option maxRecDepth 20000 in
theorem ql_X2_21 : Cond.methodLinkNest "ThrowRows$Kinds" 21 yX6_isBall "ThrowRows" ∈ lw_tbl := List.mem_of_getElem? (i := 501) rfl
theorem qi_L : Cond.initialized "ThrowRowsLaw" ∈ gTB := gTB_at 41 rfl rfl
theorem qi_X6 : Cond.initialized "ThrowRows" ∈ gTB := gTB_at 42 rfl rfl
theorem qi_X3 : Cond.initialized "ThrowRows$Row" ∈ gTB := gTB_at 43 rfl rfl
theorem qi_X1 : Cond.initialized "ThrowRows$Flight" ∈ gTB := gTB_at 44 rfl rfl
theorem qi_X2 : Cond.initialized "ThrowRows$Kinds" ∈ gTB := gTB_at 45 rfl rfl
theorem qi_X5 : Cond.initialized "ThrowRows$Ways" ∈ gTB := gTB_at 46 rfl rfl
theorem qi_X0 : Cond.initialized "ThrowRows$Fillings" ∈ gTB := gTB_at 47 rfl rfl
theorem qi_X4 : Cond.initialized "ThrowRows$Sheet" ∈ gTB := gTB_at 48 rfl rfl
theorem qi_X7 : Cond.initialized "ThrowRowsModel" ∈ gTB := gTB_at 49 rfl rfl
theorem qi_J7 : Cond.initialized "java/util/Arrays" ∈ gTB := gTB_at 50 rfl rfl
theorem qi_J9 : Cond.initialized "java/lang/Math" ∈ gTB := gTB_at 51 rfl rfl
theorem qi_J6 : Cond.initialized "java/lang/Integer" ∈ gTB := gTB_at 52 rfl rfl
theorem qi_J10 : Cond.initialized "java/lang/System" ∈ gTB := gTB_at 53 rfl rfl
theorem inX0 : ∀ w ∈ u_ws RX0 TX0 3, w ∈ gTB := u_in (fun k hk => match k, hk with
  | 0, _ => gTB_at 132 rfl rfl
  | 1, _ => gTB_at 134 rfl rfl
  | 2, _ => gTB_at 136 rfl rfl
  | k + 3, h => absurd h (by omega))
theorem inX1 : ∀ w ∈ u_ws RX1 TX1 2, w ∈ gTB := u_in (fun k hk => match k, hk with
  | 0, _ => gTB_at 88 rfl rfl
  | 1, _ => gTB_at 90 rfl rfl
  | k + 2, h => absurd h (by omega))
theorem inX2 : ∀ w ∈ u_ws RX2 TX2 2, w ∈ gTB := u_in (fun k hk => match k, hk with
  | 0, _ => gTB_at 102 rfl rfl
  | 1, _ => gTB_at 104 rfl rfl
  | k + 2, h => absurd h (by omega))
theorem inX3 : ∀ w ∈ u_ws RX3 TX3 2, w ∈ gTB := u_in (fun k hk => match k, hk with
  | 0, _ => gTB_at 71 rfl rfl
  | 1, _ => gTB_at 73 rfl rfl
  | k + 2, h => absurd h (by omega))
theorem inX4 : ∀ w ∈ u_ws RX4 TX4 3, w ∈ gTB := u_in (fun k hk => match k, hk with
  | 0, _ => gTB_at 149 rfl rfl
  | 1, _ => gTB_at 151 rfl rfl
  | 2, _ => gTB_at 153 rfl rfl
  | k + 3, h => absurd h (by omega))
theorem inX5 : ∀ w ∈ u_ws RX5 TX5 3, w ∈ gTB := u_in (fun k hk => match k, hk with
  | 0, _ => gTB_at 116 rfl rfl
  | 1, _ => gTB_at 118 rfl rfl
  | 2, _ => gTB_at 120 rfl rfl
  | k + 3, h => absurd h (by omega))
theorem inX6 : ∀ w ∈ u_ws RX6 TX6 11, w ∈ gTB := u_in (fun k hk => match k, hk with
  | 0, _ => gTB_at 167 rfl rfl
  | 1, _ => gTB_at 169 rfl rfl
  | 2, _ => gTB_at 171 rfl rfl
  | 3, _ => gTB_at 173 rfl rfl
  | 4, _ => gTB_at 175 rfl rfl
  | 5, _ => gTB_at 177 rfl rfl
  | 6, _ => gTB_at 179 rfl rfl
  | 7, _ => gTB_at 181 rfl rfl
  | 8, _ => gTB_at 183 rfl rfl
  | 9, _ => gTB_at 185 rfl rfl
  | 10, _ => gTB_at 187 rfl rfl
  | k + 11, h => absurd h (by omega))
set_option maxRecDepth 20000 in
theorem inX7 : ∀ w ∈ u_ws RX7 TX7 20, w ∈ gTB := u_in (fun k hk => match k, hk with
  | 0, _ => gTB_at 648 rfl rfl
  | 1, _ => gTB_at 650 rfl rfl
  | 2, _ => gTB_at 652 rfl rfl
  | 3, _ => gTB_at 654 rfl rfl
  | 4, _ => gTB_at 656 rfl rfl
  | 5, _ => gTB_at 658 rfl rfl
  | 6, _ => gTB_at 660 rfl rfl
  | 7, _ => gTB_at 662 rfl rfl
  | 8, _ => gTB_at 664 rfl rfl
  | 9, _ => gTB_at 666 rfl rfl
  | 10, _ => gTB_at 668 rfl rfl
  | 11, _ => gTB_at 670 rfl rfl
  | 12, _ => gTB_at 672 rfl rfl
  | 13, _ => gTB_at 674 rfl rfl
  | 14, _ => gTB_at 676 rfl rfl
  | 15, _ => gTB_at 678 rfl rfl
  | 16, _ => gTB_at 680 rfl rfl
  | 17, _ => gTB_at 682 rfl rfl
  | 18, _ => gTB_at 684 rfl rfl
  | 19, _ => gTB_at 686 rfl rfl
  | k + 20, h => absurd h (by omega))
theorem kX6_pattern : gCalV yX6_pattern cX6_pattern 6 (some .int) 4 := ⟨⟨gTB_at 193 rfl rfl, qi_X6, by decide +kernel, by decide +kernel, by decide +kernel⟩, gTB_at 191 rfl rfl, gTB_at 192 rfl rfl⟩
theorem kX6_isSheet : gCalS yX6_isSheet cX6_isSheet 1 (some .boolean) 1 := ⟨⟨gTB_at 196 rfl rfl, qi_X6, by decide +kernel, by decide +kernel, by decide +kernel⟩, gTB_at 195 rfl rfl⟩
theorem kX6_isWithin : gCalS yX6_isWithin cX6_isWithin 3 (some .boolean) 3 := ⟨⟨gTB_at 199 rfl rfl, qi_X6, by decide +kernel, by decide +kernel, by decide +kernel⟩, gTB_at 198 rfl rfl⟩
theorem kX6_isSort : gCalS yX6_isSort cX6_isSort 1 (some .boolean) 1 := ⟨⟨gTB_at 202 rfl rfl, qi_X6, by decide +kernel, by decide +kernel, by decide +kernel⟩, gTB_at 201 rfl rfl⟩
theorem kX4_faultOfCells : gCalV yX4_faultOfCells cX4_faultOfCells 4 (some .int) 3 := ⟨⟨gTB_at 206 rfl rfl, qi_X4, by decide +kernel, by decide +kernel, by decide +kernel⟩, gTB_at 204 rfl rfl, gTB_at 205 rfl rfl⟩
theorem kX4_isThere : gCalV yX4_isThere cX4_isThere 1 (some .boolean) 0 := ⟨⟨gTB_at 210 rfl rfl, qi_X4, by decide +kernel, by decide +kernel, by decide +kernel⟩, gTB_at 208 rfl rfl, gTB_at 209 rfl rfl⟩
theorem kX4_holds : gCalV yX4_holds cX4_holds 3 (some .boolean) 2 := ⟨⟨gTB_at 214 rfl rfl, qi_X4, by decide +kernel, by decide +kernel, by decide +kernel⟩, gTB_at 212 rfl rfl, gTB_at 213 rfl rfl⟩
theorem kX6_firstWrongCode : gCalS yX6_firstWrongCode cX6_firstWrongCode 4 (some .int) 3 := ⟨⟨gTB_at 217 rfl rfl, qi_X6, by decide +kernel, by decide +kernel, by decide +kernel⟩, gTB_at 216 rfl rfl⟩
theorem kX4_read : gCalV yX4_read cX4_read 2 (some .int) 1 := ⟨⟨gTB_at 221 rfl rfl, qi_X4, by decide +kernel, by decide +kernel, by decide +kernel⟩, gTB_at 219 rfl rfl, gTB_at 220 rfl rfl⟩
theorem kX6_takeText : gCalV yX6_takeText cX6_takeText 5 none 3 := ⟨⟨gTB_at 225 rfl rfl, qi_X6, by decide +kernel, by decide +kernel, by decide +kernel⟩, gTB_at 224 rfl rfl, gTB_at 0 rfl rfl⟩
theorem kX3_setHeight : gCalV yX3_setHeight cX3_setHeight 3 none 2 := ⟨⟨gTB_at 229 rfl rfl, qi_X3, by decide +kernel, by decide +kernel, by decide +kernel⟩, gTB_at 227 rfl rfl, gTB_at 228 rfl rfl⟩
theorem kX3_hasBeat : gCalV yX3_hasBeat cX3_hasBeat 2 (some .boolean) 1 := ⟨⟨gTB_at 233 rfl rfl, qi_X3, by decide +kernel, by decide +kernel, by decide +kernel⟩, gTB_at 231 rfl rfl, gTB_at 232 rfl rfl⟩
theorem kX2_reset : gCalV yX2_reset cX2_reset 1 none 0 := ⟨⟨gTB_at 237 rfl rfl, qi_X2, by decide +kernel, by decide +kernel, by decide +kernel⟩, gTB_at 235 rfl rfl, gTB_at 236 rfl rfl⟩
theorem kJ7_fill_53178 : gCalS yJ7_fill_53178 cJ7_fill_53178 4 none 2 := ⟨⟨gTB_at 240 rfl rfl, qi_J7, by decide +kernel, by decide +kernel, by decide +kernel⟩, gTB_at 239 rfl rfl⟩
theorem kX6_throwOf : gCalV yX6_throwOf cX6_throwOf 2 (some .int) 1 := ⟨⟨gTB_at 244 rfl rfl, qi_X6, by decide +kernel, by decide +kernel, by decide +kernel⟩, gTB_at 242 rfl rfl, gTB_at 243 rfl rfl⟩
theorem kX3_heightIn : gCalV yX3_heightIn cX3_heightIn 2 (some .int) 1 := ⟨⟨gTB_at 249 rfl rfl, qi_X3, by decide +kernel, by decide +kernel, by decide +kernel⟩, gTB_at 247 rfl rfl, gTB_at 248 rfl rfl⟩
theorem kJ9_floorMod_7cf53 : gCalS yJ9_floorMod_7cf53 cJ9_floorMod_7cf53 3 (some .int) 2 := ⟨⟨gTB_at 252 rfl rfl, qi_J9, by decide +kernel, by decide +kernel, by decide +kernel⟩, gTB_at 251 rfl rfl⟩
theorem kX6_clash : gCalV yX6_clash cX6_clash 1 (some .int) 0 := ⟨⟨gTB_at 256 rfl rfl, qi_X6, by decide +kernel, by decide +kernel, by decide +kernel⟩, gTB_at 254 rfl rfl, gTB_at 255 rfl rfl⟩
theorem kX3_isThere : gCalV yX3_isThere cX3_isThere 1 (some .boolean) 0 := ⟨⟨gTB_at 260 rfl rfl, qi_X3, by decide +kernel, by decide +kernel, by decide +kernel⟩, gTB_at 258 rfl rfl, gTB_at 259 rfl rfl⟩
theorem kX3_firstClash : gCalV yX3_firstClash cX3_firstClash 3 (some .int) 0 := ⟨⟨gTB_at 264 rfl rfl, qi_X3, by decide +kernel, by decide +kernel, by decide +kernel⟩, gTB_at 262 rfl rfl, gTB_at 263 rfl rfl⟩
theorem kX3_landingOf : gCalV yX3_landingOf cX3_landingOf 2 (some .int) 1 := ⟨⟨gTB_at 268 rfl rfl, qi_X3, by decide +kernel, by decide +kernel, by decide +kernel⟩, gTB_at 266 rfl rfl, gTB_at 267 rfl rfl⟩
theorem kX6_good : gCalV yX6_good cX6_good 2 (some .int) 1 := ⟨⟨gTB_at 273 rfl rfl, qi_X6, by decide +kernel, by decide +kernel, by decide +kernel⟩, gTB_at 271 rfl rfl, gTB_at 272 rfl rfl⟩
theorem kX3_isGood : gCalV yX3_isGood cX3_isGood 1 (some .boolean) 0 := ⟨⟨gTB_at 277 rfl rfl, qi_X3, by decide +kernel, by decide +kernel, by decide +kernel⟩, gTB_at 275 rfl rfl, gTB_at 276 rfl rfl⟩
theorem kX3_ballCount : gCalV yX3_ballCount cX3_ballCount 3 (some .int) 0 := ⟨⟨gTB_at 283 rfl rfl, qi_X3, by decide +kernel, by decide +kernel, by decide +kernel⟩, gTB_at 281 rfl rfl, gTB_at 282 rfl rfl⟩
theorem kX3_greatestHeight : gCalV yX3_greatestHeight cX3_greatestHeight 3 (some .int) 0 := ⟨⟨gTB_at 287 rfl rfl, qi_X3, by decide +kernel, by decide +kernel, by decide +kernel⟩, gTB_at 285 rfl rfl, gTB_at 286 rfl rfl⟩
theorem kJ9_max_7cf53 : gCalS yJ9_max_7cf53 cJ9_max_7cf53 2 (some .int) 2 := ⟨⟨gTB_at 290 rfl rfl, qi_J9, by decide +kernel, by decide +kernel, by decide +kernel⟩, gTB_at 289 rfl rfl⟩
theorem kX3_isPrime : gCalV yX3_isPrime cX3_isPrime 3 (some .boolean) 0 := ⟨⟨gTB_at 294 rfl rfl, qi_X3, by decide +kernel, by decide +kernel, by decide +kernel⟩, gTB_at 292 rfl rfl, gTB_at 293 rfl rfl⟩
theorem kX3_stateAhead : gCalV yX3_stateAhead cX3_stateAhead 5 (some .int) 1 := ⟨⟨gTB_at 298 rfl rfl, qi_X3, by decide +kernel, by decide +kernel, by decide +kernel⟩, gTB_at 296 rfl rfl, gTB_at 297 rfl rfl⟩
set_option maxRecDepth 20000 in
theorem kX3_isGround : gCalV yX3_isGround cX3_isGround 3 (some .boolean) 0 := ⟨⟨gTB_at 302 rfl rfl, qi_X3, by decide +kernel, by decide +kernel, by decide +kernel⟩, gTB_at 300 rfl rfl, gTB_at 301 rfl rfl⟩
set_option maxRecDepth 20000 in
theorem kX3_orbitsBelow : gCalV yX3_orbitsBelow cX3_orbitsBelow 4 (some .int) 1 := ⟨⟨gTB_at 307 rfl rfl, qi_X3, by decide +kernel, by decide +kernel, by decide +kernel⟩, gTB_at 305 rfl rfl, gTB_at 306 rfl rfl⟩
set_option maxRecDepth 20000 in
theorem kX3_leastInOrbit : gCalV yX3_leastInOrbit cX3_leastInOrbit 5 (some .int) 1 := ⟨⟨gTB_at 311 rfl rfl, qi_X3, by decide +kernel, by decide +kernel, by decide +kernel⟩, gTB_at 309 rfl rfl, gTB_at 310 rfl rfl⟩
set_option maxRecDepth 20000 in
theorem kJ9_min_7cf53 : gCalS yJ9_min_7cf53 cJ9_min_7cf53 2 (some .int) 2 := ⟨⟨gTB_at 314 rfl rfl, qi_J9, by decide +kernel, by decide +kernel, by decide +kernel⟩, gTB_at 313 rfl rfl⟩
set_option maxRecDepth 20000 in
theorem kX6_state : gCalV yX6_state cX6_state 2 (some .int) 1 := ⟨⟨gTB_at 318 rfl rfl, qi_X6, by decide +kernel, by decide +kernel, by decide +kernel⟩, gTB_at 316 rfl rfl, gTB_at 317 rfl rfl⟩
set_option maxRecDepth 20000 in
theorem kX6_ball : gCalV yX6_ball cX6_ball 4 (some .int) 1 := ⟨⟨gTB_at 323 rfl rfl, qi_X6, by decide +kernel, by decide +kernel, by decide +kernel⟩, gTB_at 321 rfl rfl, gTB_at 322 rfl rfl⟩
set_option maxRecDepth 20000 in
theorem kX1_begin : gCalV yX1_begin cX1_begin 1 none 0 := ⟨⟨gTB_at 327 rfl rfl, qi_X1, by decide +kernel, by decide +kernel, by decide +kernel⟩, gTB_at 325 rfl rfl, gTB_at 326 rfl rfl⟩
set_option maxRecDepth 20000 in
theorem kX1_pass : gCalV yX1_pass cX1_pass 5 (some .int) 2 := ⟨⟨gTB_at 332 rfl rfl, qi_X1, by decide +kernel, by decide +kernel, by decide +kernel⟩, gTB_at 330 rfl rfl, gTB_at 331 rfl rfl⟩
set_option maxRecDepth 20000 in
theorem kX6_orbit : gCalV yX6_orbit cX6_orbit 2 (some .int) 1 := ⟨⟨gTB_at 336 rfl rfl, qi_X6, by decide +kernel, by decide +kernel, by decide +kernel⟩, gTB_at 334 rfl rfl, gTB_at 335 rfl rfl⟩
set_option maxRecDepth 20000 in
theorem kX6_hands : gCalV yX6_hands cX6_hands 3 (some .int) 1 := ⟨⟨gTB_at 341 rfl rfl, qi_X6, by decide +kernel, by decide +kernel, by decide +kernel⟩, gTB_at 339 rfl rfl, gTB_at 340 rfl rfl⟩
set_option maxRecDepth 20000 in
theorem kX6_beat : gCalV yX6_beat cX6_beat 4 (some .int) 2 := ⟨⟨gTB_at 345 rfl rfl, qi_X6, by decide +kernel, by decide +kernel, by decide +kernel⟩, gTB_at 343 rfl rfl, gTB_at 344 rfl rfl⟩
set_option maxRecDepth 20000 in
theorem kX6_handIn : gCalV yX6_handIn cX6_handIn 2 (some .int) 1 := ⟨⟨gTB_at 349 rfl rfl, qi_X6, by decide +kernel, by decide +kernel, by decide +kernel⟩, gTB_at 348 rfl rfl, gTB_at 1 rfl rfl⟩
set_option maxRecDepth 20000 in
theorem kJ6_bitCount_0f7a4 : gCalS yJ6_bitCount_0f7a4 cJ6_bitCount_0f7a4 1 (some .int) 1 := ⟨⟨gTB_at 352 rfl rfl, qi_J6, by decide +kernel, by decide +kernel, by decide +kernel⟩, gTB_at 351 rfl rfl⟩
set_option maxRecDepth 20000 in
theorem kX6_swap : gCalV yX6_swap cX6_swap 5 (some .int) 2 := ⟨⟨gTB_at 359 rfl rfl, qi_X6, by decide +kernel, by decide +kernel, by decide +kernel⟩, gTB_at 357 rfl rfl, gTB_at 358 rfl rfl⟩
set_option maxRecDepth 20000 in
theorem kX6_turn : gCalV yX6_turn cX6_turn 2 (some .int) 1 := ⟨⟨gTB_at 363 rfl rfl, qi_X6, by decide +kernel, by decide +kernel, by decide +kernel⟩, gTB_at 361 rfl rfl, gTB_at 362 rfl rfl⟩
set_option maxRecDepth 20000 in
theorem kX3_take : gCalV yX3_take cX3_take 2 none 1 := ⟨⟨gTB_at 367 rfl rfl, qi_X3, by decide +kernel, by decide +kernel, by decide +kernel⟩, gTB_at 365 rfl rfl, gTB_at 366 rfl rfl⟩
set_option maxRecDepth 20000 in
theorem kX3_takeTurned : gCalV yX3_takeTurned cX3_takeTurned 4 none 2 := ⟨⟨gTB_at 371 rfl rfl, qi_X3, by decide +kernel, by decide +kernel, by decide +kernel⟩, gTB_at 369 rfl rfl, gTB_at 370 rfl rfl⟩
set_option maxRecDepth 20000 in
theorem kX6_backward : gCalV yX6_backward cX6_backward 1 (some .int) 0 := ⟨⟨gTB_at 377 rfl rfl, qi_X6, by decide +kernel, by decide +kernel, by decide +kernel⟩, gTB_at 375 rfl rfl, gTB_at 376 rfl rfl⟩
set_option maxRecDepth 20000 in
theorem kX3_takeBackward : gCalV yX3_takeBackward cX3_takeBackward 3 none 1 := ⟨⟨gTB_at 381 rfl rfl, qi_X3, by decide +kernel, by decide +kernel, by decide +kernel⟩, gTB_at 379 rfl rfl, gTB_at 380 rfl rfl⟩
set_option maxRecDepth 20000 in
theorem kX6_greatest : gCalV yX6_greatest cX6_greatest 2 (some .int) 1 := ⟨⟨gTB_at 385 rfl rfl, qi_X6, by decide +kernel, by decide +kernel, by decide +kernel⟩, gTB_at 383 rfl rfl, gTB_at 384 rfl rfl⟩
set_option maxRecDepth 20000 in
theorem kX3_greatestTurn : gCalV yX3_greatestTurn cX3_greatestTurn 3 (some .int) 0 := ⟨⟨gTB_at 389 rfl rfl, qi_X3, by decide +kernel, by decide +kernel, by decide +kernel⟩, gTB_at 387 rfl rfl, gTB_at 388 rfl rfl⟩
set_option maxRecDepth 20000 in
theorem kX3_isTurnGreater : gCalV yX3_isTurnGreater cX3_isTurnGreater 5 (some .boolean) 2 := ⟨⟨gTB_at 393 rfl rfl, qi_X3, by decide +kernel, by decide +kernel, by decide +kernel⟩, gTB_at 392 rfl rfl, gTB_at 2 rfl rfl⟩
set_option maxRecDepth 20000 in
theorem kX6_keep : gCalV yX6_keep cX6_keep 2 (some .int) 1 := ⟨⟨gTB_at 397 rfl rfl, qi_X6, by decide +kernel, by decide +kernel, by decide +kernel⟩, gTB_at 395 rfl rfl, gTB_at 396 rfl rfl⟩
set_option maxRecDepth 20000 in
theorem kX6_isImage : gCalS yX6_isImage cX6_isImage 1 (some .boolean) 1 := ⟨⟨gTB_at 400 rfl rfl, qi_X6, by decide +kernel, by decide +kernel, by decide +kernel⟩, gTB_at 399 rfl rfl⟩
set_option maxRecDepth 20000 in
theorem kX6_back : gCalV yX6_back cX6_back 2 (some .int) 1 := ⟨⟨gTB_at 404 rfl rfl, qi_X6, by decide +kernel, by decide +kernel, by decide +kernel⟩, gTB_at 402 rfl rfl, gTB_at 403 rfl rfl⟩
set_option maxRecDepth 20000 in
theorem kX6_like : gCalV yX6_like cX6_like 2 (some .int) 1 := ⟨⟨gTB_at 408 rfl rfl, qi_X6, by decide +kernel, by decide +kernel, by decide +kernel⟩, gTB_at 406 rfl rfl, gTB_at 407 rfl rfl⟩
set_option maxRecDepth 20000 in
theorem kX3_isTurned : gCalV yX3_isTurned cX3_isTurned 5 (some .boolean) 1 := ⟨⟨gTB_at 412 rfl rfl, qi_X3, by decide +kernel, by decide +kernel, by decide +kernel⟩, gTB_at 410 rfl rfl, gTB_at 411 rfl rfl⟩
set_option maxRecDepth 20000 in
theorem kX6_howMany : gCalV yX6_howMany cX6_howMany 5 (some .long) 3 := ⟨⟨gTB_at 417 rfl rfl, qi_X6, by decide +kernel, by decide +kernel, by decide +kernel⟩, gTB_at 415 rfl rfl, gTB_at 416 rfl rfl⟩
set_option maxRecDepth 20000 in
theorem kX0_allow : gCalV yX0_allow cX0_allow 4 none 3 := ⟨⟨gTB_at 422 rfl rfl, qi_X0, by decide +kernel, by decide +kernel, by decide +kernel⟩, gTB_at 420 rfl rfl, gTB_at 421 rfl rfl⟩
set_option maxRecDepth 20000 in
theorem kX0_count : gCalV yX0_count cX0_count 7 (some .int) 2 := ⟨⟨gTB_at 427 rfl rfl, qi_X0, by decide +kernel, by decide +kernel, by decide +kernel⟩, gTB_at 425 rfl rfl, gTB_at 426 rfl rfl⟩
set_option maxRecDepth 20000 in
theorem kX0_addThrow : gCalV yX0_addThrow cX0_addThrow 10 none 4 := ⟨⟨gTB_at 433 rfl rfl, qi_X0, by decide +kernel, by decide +kernel, by decide +kernel⟩, gTB_at 432 rfl rfl, gTB_at 3 rfl rfl⟩
set_option maxRecDepth 20000 in
theorem kX6_way : gCalV yX6_way cX6_way 5 (some .int) 4 := ⟨⟨gTB_at 437 rfl rfl, qi_X6, by decide +kernel, by decide +kernel, by decide +kernel⟩, gTB_at 435 rfl rfl, gTB_at 436 rfl rfl⟩
set_option maxRecDepth 20000 in
theorem kX5_measure : gCalV yX5_measure cX5_measure 4 none 2 := ⟨⟨gTB_at 441 rfl rfl, qi_X5, by decide +kernel, by decide +kernel, by decide +kernel⟩, gTB_at 439 rfl rfl, gTB_at 440 rfl rfl⟩
set_option maxRecDepth 20000 in
theorem kX5_reach : gCalV yX5_reach cX5_reach 3 none 2 := ⟨⟨gTB_at 446 rfl rfl, qi_X5, by decide +kernel, by decide +kernel, by decide +kernel⟩, gTB_at 445 rfl rfl, gTB_at 4 rfl rfl⟩
set_option maxRecDepth 20000 in
theorem kX5_reachFrom : gCalV yX5_reachFrom cX5_reachFrom 6 none 2 := ⟨⟨gTB_at 451 rfl rfl, qi_X5, by decide +kernel, by decide +kernel, by decide +kernel⟩, gTB_at 450 rfl rfl, gTB_at 5 rfl rfl⟩
set_option maxRecDepth 20000 in
theorem kX5_beatsFrom : gCalV yX5_beatsFrom cX5_beatsFrom 2 (some .int) 1 := ⟨⟨gTB_at 455 rfl rfl, qi_X5, by decide +kernel, by decide +kernel, by decide +kernel⟩, gTB_at 453 rfl rfl, gTB_at 454 rfl rfl⟩
set_option maxRecDepth 20000 in
theorem kX5_throwOnWay : gCalV yX5_throwOnWay cX5_throwOnWay 7 (some .int) 3 := ⟨⟨gTB_at 460 rfl rfl, qi_X5, by decide +kernel, by decide +kernel, by decide +kernel⟩, gTB_at 458 rfl rfl, gTB_at 459 rfl rfl⟩
set_option maxRecDepth 20000 in
theorem kX5_leastThrow : gCalV yX5_leastThrow cX5_leastThrow 5 (some .int) 2 := ⟨⟨gTB_at 464 rfl rfl, qi_X5, by decide +kernel, by decide +kernel, by decide +kernel⟩, gTB_at 463 rfl rfl, gTB_at 6 rfl rfl⟩
set_option maxRecDepth 20000 in
theorem kX5_stateBehind : gCalS yX5_stateBehind cX5_stateBehind 3 (some .int) 2 := ⟨⟨gTB_at 467 rfl rfl, qi_X5, by decide +kernel, by decide +kernel, by decide +kernel⟩, gTB_at 466 rfl rfl⟩
set_option maxRecDepth 20000 in
theorem kX6_filled : gCalV yX6_filled cX6_filled 8 (some .long) 6 := ⟨⟨gTB_at 471 rfl rfl, qi_X6, by decide +kernel, by decide +kernel, by decide +kernel⟩, gTB_at 469 rfl rfl, gTB_at 470 rfl rfl⟩
set_option maxRecDepth 20000 in
theorem kX6_areOpenOrThrows : gCalS yX6_areOpenOrThrows cX6_areOpenOrThrows 4 (some .boolean) 3 := ⟨⟨gTB_at 474 rfl rfl, qi_X6, by decide +kernel, by decide +kernel, by decide +kernel⟩, gTB_at 473 rfl rfl⟩
set_option maxRecDepth 20000 in
theorem kX6_allowCells : gCalV yX6_allowCells cX6_allowCells 6 none 3 := ⟨⟨gTB_at 478 rfl rfl, qi_X6, by decide +kernel, by decide +kernel, by decide +kernel⟩, gTB_at 477 rfl rfl, gTB_at 7 rfl rfl⟩
set_option maxRecDepth 20000 in
theorem kX0_throwOfFirst : gCalV yX0_throwOfFirst cX0_throwOfFirst 8 (some .int) 3 := ⟨⟨gTB_at 482 rfl rfl, qi_X0, by decide +kernel, by decide +kernel, by decide +kernel⟩, gTB_at 480 rfl rfl, gTB_at 481 rfl rfl⟩
set_option maxRecDepth 20000 in
theorem kX0_firstThrow : gCalV yX0_firstThrow cX0_firstThrow 8 (some .int) 3 := ⟨⟨gTB_at 486 rfl rfl, qi_X0, by decide +kernel, by decide +kernel, by decide +kernel⟩, gTB_at 485 rfl rfl, gTB_at 8 rfl rfl⟩
set_option maxRecDepth 20000 in
theorem kX6_kind : gCalV yX6_kind cX6_kind 4 (some .int) 2 := ⟨⟨gTB_at 490 rfl rfl, qi_X6, by decide +kernel, by decide +kernel, by decide +kernel⟩, gTB_at 488 rfl rfl, gTB_at 489 rfl rfl⟩
set_option maxRecDepth 20000 in
theorem kX6_isBall : gCalS yX6_isBall cX6_isBall 1 (some .boolean) 1 := ⟨⟨gTB_at 493 rfl rfl, qi_X6, by decide +kernel, by decide +kernel, by decide +kernel⟩, gTB_at 492 rfl rfl⟩
set_option maxRecDepth 20000 in
theorem kX6_isKind : gCalS yX6_isKind cX6_isKind 1 (some .boolean) 1 := ⟨⟨gTB_at 496 rfl rfl, qi_X6, by decide +kernel, by decide +kernel, by decide +kernel⟩, gTB_at 495 rfl rfl⟩
set_option maxRecDepth 20000 in
theorem kX2_kindOf : gCalV yX2_kindOf cX2_kindOf 2 (some .int) 1 := ⟨⟨gTB_at 500 rfl rfl, qi_X2, by decide +kernel, by decide +kernel, by decide +kernel⟩, gTB_at 498 rfl rfl, gTB_at 499 rfl rfl⟩
set_option maxRecDepth 20000 in
theorem kX2_setKind : gCalV yX2_setKind cX2_setKind 3 none 2 := ⟨⟨gTB_at 505 rfl rfl, qi_X2, by decide +kernel, by decide +kernel, by decide +kernel⟩, gTB_at 503 rfl rfl, gTB_at 504 rfl rfl⟩
set_option maxRecDepth 20000 in
theorem kX6_broken : gCalV yX6_broken cX6_broken 4 (some .int) 0 := ⟨⟨gTB_at 509 rfl rfl, qi_X6, by decide +kernel, by decide +kernel, by decide +kernel⟩, gTB_at 507 rfl rfl, gTB_at 508 rfl rfl⟩
set_option maxRecDepth 20000 in
theorem kX2_mayGo : gCalV yX2_mayGo cX2_mayGo 2 (some .int) 1 := ⟨⟨gTB_at 513 rfl rfl, qi_X2, by decide +kernel, by decide +kernel, by decide +kernel⟩, gTB_at 511 rfl rfl, gTB_at 512 rfl rfl⟩
set_option maxRecDepth 20000 in
theorem kX6_drop : gCalV yX6_drop cX6_drop 3 (some .int) 1 := ⟨⟨gTB_at 518 rfl rfl, qi_X6, by decide +kernel, by decide +kernel, by decide +kernel⟩, gTB_at 516 rfl rfl, gTB_at 517 rfl rfl⟩
set_option maxRecDepth 20000 in
theorem kX6_empty : gCalV yX6_empty cX6_empty 5 (some .int) 1 := ⟨⟨gTB_at 522 rfl rfl, qi_X6, by decide +kernel, by decide +kernel, by decide +kernel⟩, gTB_at 520 rfl rfl, gTB_at 521 rfl rfl⟩
set_option maxRecDepth 20000 in
theorem kX6_sheet : gCalV yX6_sheet cX6_sheet 4 (some .int) 3 := ⟨⟨gTB_at 526 rfl rfl, qi_X6, by decide +kernel, by decide +kernel, by decide +kernel⟩, gTB_at 524 rfl rfl, gTB_at 525 rfl rfl⟩
set_option maxRecDepth 20000 in
theorem kX6_faulted : gCalV yX6_faulted cX6_faulted 2 (some .int) 1 := ⟨⟨gTB_at 530 rfl rfl, qi_X6, by decide +kernel, by decide +kernel, by decide +kernel⟩, gTB_at 529 rfl rfl, gTB_at 9 rfl rfl⟩
set_option maxRecDepth 20000 in
theorem kX4_renew : gCalV yX4_renew cX4_renew 3 none 2 := ⟨⟨gTB_at 534 rfl rfl, qi_X4, by decide +kernel, by decide +kernel, by decide +kernel⟩, gTB_at 532 rfl rfl, gTB_at 533 rfl rfl⟩
set_option maxRecDepth 20000 in
theorem kX6_lose : gCalV yX6_lose cX6_lose 2 (some .int) 1 := ⟨⟨gTB_at 539 rfl rfl, qi_X6, by decide +kernel, by decide +kernel, by decide +kernel⟩, gTB_at 537 rfl rfl, gTB_at 538 rfl rfl⟩
set_option maxRecDepth 20000 in
theorem kX4_clear : gCalV yX4_clear cX4_clear 2 (some .boolean) 0 := ⟨⟨gTB_at 543 rfl rfl, qi_X4, by decide +kernel, by decide +kernel, by decide +kernel⟩, gTB_at 541 rfl rfl, gTB_at 542 rfl rfl⟩
set_option maxRecDepth 20000 in
theorem kX6_put : gCalV yX6_put cX6_put 4 (some .int) 3 := ⟨⟨gTB_at 547 rfl rfl, qi_X6, by decide +kernel, by decide +kernel, by decide +kernel⟩, gTB_at 545 rfl rfl, gTB_at 546 rfl rfl⟩
set_option maxRecDepth 20000 in
theorem kX4_write : gCalV yX4_write cX4_write 3 none 2 := ⟨⟨gTB_at 553 rfl rfl, qi_X4, by decide +kernel, by decide +kernel, by decide +kernel⟩, gTB_at 551 rfl rfl, gTB_at 552 rfl rfl⟩
set_option maxRecDepth 20000 in
theorem kX4_cutToSort : gCalV yX4_cutToSort cX4_cutToSort 2 (some .int) 1 := ⟨⟨gTB_at 557 rfl rfl, qi_X4, by decide +kernel, by decide +kernel, by decide +kernel⟩, gTB_at 556 rfl rfl, gTB_at 10 rfl rfl⟩
set_option maxRecDepth 20000 in
theorem kX6_cell : gCalV yX6_cell cX6_cell 4 (some .long) 3 := ⟨⟨gTB_at 561 rfl rfl, qi_X6, by decide +kernel, by decide +kernel, by decide +kernel⟩, gTB_at 559 rfl rfl, gTB_at 560 rfl rfl⟩
set_option maxRecDepth 20000 in
theorem kX6_copy : gCalV yX6_copy cX6_copy 8 (some .int) 5 := ⟨⟨gTB_at 565 rfl rfl, qi_X6, by decide +kernel, by decide +kernel, by decide +kernel⟩, gTB_at 563 rfl rfl, gTB_at 564 rfl rfl⟩
set_option maxRecDepth 20000 in
theorem kX6_tell : gCalV yX6_tell cX6_tell 2 (some .int) 1 := ⟨⟨gTB_at 572 rfl rfl, qi_X6, by decide +kernel, by decide +kernel, by decide +kernel⟩, gTB_at 570 rfl rfl, gTB_at 571 rfl rfl⟩
set_option maxRecDepth 20000 in
theorem kX2_telling : gCalV yX2_telling cX2_telling 2 (some .int) 1 := ⟨⟨gTB_at 576 rfl rfl, qi_X2, by decide +kernel, by decide +kernel, by decide +kernel⟩, gTB_at 574 rfl rfl, gTB_at 575 rfl rfl⟩
set_option maxRecDepth 20000 in
theorem kX2_tellingOfEgg : gCalV yX2_tellingOfEgg cX2_tellingOfEgg 2 (some .int) 1 := ⟨⟨gTB_at 580 rfl rfl, qi_X2, by decide +kernel, by decide +kernel, by decide +kernel⟩, gTB_at 579 rfl rfl, gTB_at 11 rfl rfl⟩
set_option maxRecDepth 20000 in
theorem kX2_leave : gCalV yX2_leave cX2_leave 2 none 1 := ⟨⟨gTB_at 584 rfl rfl, qi_X2, by decide +kernel, by decide +kernel, by decide +kernel⟩, gTB_at 583 rfl rfl, gTB_at 12 rfl rfl⟩
set_option maxRecDepth 20000 in
theorem kX2_tellingOfHeavy : gCalV yX2_tellingOfHeavy cX2_tellingOfHeavy 2 (some .int) 1 := ⟨⟨gTB_at 588 rfl rfl, qi_X2, by decide +kernel, by decide +kernel, by decide +kernel⟩, gTB_at 587 rfl rfl, gTB_at 13 rfl rfl⟩
set_option maxRecDepth 20000 in
theorem kX2_tellingOfBall : gCalV yX2_tellingOfBall cX2_tellingOfBall 2 (some .int) 1 := ⟨⟨gTB_at 592 rfl rfl, qi_X2, by decide +kernel, by decide +kernel, by decide +kernel⟩, gTB_at 591 rfl rfl, gTB_at 14 rfl rfl⟩
set_option maxRecDepth 20000 in
theorem kX6_call : gCalV yX6_call cX6_call 2 (some .int) 1 := ⟨⟨gTB_at 596 rfl rfl, qi_X6, by decide +kernel, by decide +kernel, by decide +kernel⟩, gTB_at 594 rfl rfl, gTB_at 595 rfl rfl⟩
set_option maxRecDepth 20000 in
theorem kX2_calling : gCalV yX2_calling cX2_calling 2 (some .int) 1 := ⟨⟨gTB_at 600 rfl rfl, qi_X2, by decide +kernel, by decide +kernel, by decide +kernel⟩, gTB_at 598 rfl rfl, gTB_at 599 rfl rfl⟩
set_option maxRecDepth 20000 in
theorem kX6_as : gCalV yX6_as cX6_as 3 (some .int) 2 := ⟨⟨gTB_at 605 rfl rfl, qi_X6, by decide +kernel, by decide +kernel, by decide +kernel⟩, gTB_at 603 rfl rfl, gTB_at 604 rfl rfl⟩
set_option maxRecDepth 20000 in
theorem kX6_trace : gCalV yX6_trace cX6_trace 1 (some .int) 0 := ⟨⟨gTB_at 609 rfl rfl, qi_X6, by decide +kernel, by decide +kernel, by decide +kernel⟩, gTB_at 607 rfl rfl, gTB_at 608 rfl rfl⟩
set_option maxRecDepth 20000 in
theorem kX6_fault : gCalV yX6_fault cX6_fault 1 (some .int) 0 := ⟨⟨gTB_at 613 rfl rfl, qi_X6, by decide +kernel, by decide +kernel, by decide +kernel⟩, gTB_at 611 rfl rfl, gTB_at 612 rfl rfl⟩
set_option maxRecDepth 20000 in
theorem kX6_many : gCalV yX6_many cX6_many 2 (some .int) 1 := ⟨⟨gTB_at 617 rfl rfl, qi_X6, by decide +kernel, by decide +kernel, by decide +kernel⟩, gTB_at 615 rfl rfl, gTB_at 616 rfl rfl⟩
set_option maxRecDepth 20000 in
theorem kX6_imageCount : gCalV yX6_imageCount cX6_imageCount 3 (some .int) 0 := ⟨⟨gTB_at 621 rfl rfl, qi_X6, by decide +kernel, by decide +kernel, by decide +kernel⟩, gTB_at 620 rfl rfl, gTB_at 15 rfl rfl⟩
set_option maxRecDepth 20000 in
theorem kX7_pattern : gCalV yX7_pattern cX7_pattern 9 (some .int) 4 := ⟨⟨gTB_at 693 rfl rfl, qi_X7, by decide +kernel, by decide +kernel, by decide +kernel⟩, gTB_at 691 rfl rfl, gTB_at 692 rfl rfl⟩
set_option maxRecDepth 20000 in
theorem kX7_isSheet : gCalS yX7_isSheet cX7_isSheet 1 (some .boolean) 1 := ⟨⟨gTB_at 696 rfl rfl, qi_X7, by decide +kernel, by decide +kernel, by decide +kernel⟩, gTB_at 695 rfl rfl⟩
set_option maxRecDepth 20000 in
theorem kX7_within : gCalS yX7_within cX7_within 3 (some .boolean) 3 := ⟨⟨gTB_at 699 rfl rfl, qi_X7, by decide +kernel, by decide +kernel, by decide +kernel⟩, gTB_at 698 rfl rfl⟩
set_option maxRecDepth 20000 in
theorem kX7_isSort : gCalS yX7_isSort cX7_isSort 1 (some .boolean) 1 := ⟨⟨gTB_at 702 rfl rfl, qi_X7, by decide +kernel, by decide +kernel, by decide +kernel⟩, gTB_at 701 rfl rfl⟩
set_option maxRecDepth 20000 in
theorem kX7_against : gCalV yX7_against cX7_against 5 (some .int) 4 := ⟨⟨gTB_at 706 rfl rfl, qi_X7, by decide +kernel, by decide +kernel, by decide +kernel⟩, gTB_at 705 rfl rfl, gTB_at 16 rfl rfl⟩
set_option maxRecDepth 20000 in
theorem kX7_fails : gCalV yX7_fails cX7_fails 2 (some .int) 1 := ⟨⟨gTB_at 710 rfl rfl, qi_X7, by decide +kernel, by decide +kernel, by decide +kernel⟩, gTB_at 709 rfl rfl, gTB_at 17 rfl rfl⟩
set_option maxRecDepth 20000 in
theorem kX7_throwOf : gCalV yX7_throwOf cX7_throwOf 2 (some .int) 1 := ⟨⟨gTB_at 714 rfl rfl, qi_X7, by decide +kernel, by decide +kernel, by decide +kernel⟩, gTB_at 712 rfl rfl, gTB_at 713 rfl rfl⟩
set_option maxRecDepth 20000 in
theorem kX7_isBeat : gCalV yX7_isBeat cX7_isBeat 2 (some .boolean) 1 := ⟨⟨gTB_at 718 rfl rfl, qi_X7, by decide +kernel, by decide +kernel, by decide +kernel⟩, gTB_at 717 rfl rfl, gTB_at 18 rfl rfl⟩
set_option maxRecDepth 20000 in
theorem kX7_clash : gCalV yX7_clash cX7_clash 1 (some .int) 0 := ⟨⟨gTB_at 722 rfl rfl, qi_X7, by decide +kernel, by decide +kernel, by decide +kernel⟩, gTB_at 720 rfl rfl, gTB_at 721 rfl rfl⟩
set_option maxRecDepth 20000 in
theorem kX7_findClash : gCalV yX7_findClash cX7_findClash 3 (some .int) 0 := ⟨⟨gTB_at 726 rfl rfl, qi_X7, by decide +kernel, by decide +kernel, by decide +kernel⟩, gTB_at 725 rfl rfl, gTB_at 19 rfl rfl⟩
set_option maxRecDepth 20000 in
theorem kX7_landsIn : gCalV yX7_landsIn cX7_landsIn 2 (some .int) 1 := ⟨⟨gTB_at 730 rfl rfl, qi_X7, by decide +kernel, by decide +kernel, by decide +kernel⟩, gTB_at 729 rfl rfl, gTB_at 20 rfl rfl⟩
set_option maxRecDepth 20000 in
theorem kX7_good : gCalV yX7_good cX7_good 2 (some .int) 1 := ⟨⟨gTB_at 734 rfl rfl, qi_X7, by decide +kernel, by decide +kernel, by decide +kernel⟩, gTB_at 732 rfl rfl, gTB_at 733 rfl rfl⟩
set_option maxRecDepth 20000 in
theorem kX7_isGood : gCalV yX7_isGood cX7_isGood 1 (some .boolean) 0 := ⟨⟨gTB_at 738 rfl rfl, qi_X7, by decide +kernel, by decide +kernel, by decide +kernel⟩, gTB_at 737 rfl rfl, gTB_at 21 rfl rfl⟩
set_option maxRecDepth 20000 in
theorem kX7_balls : gCalV yX7_balls cX7_balls 3 (some .int) 0 := ⟨⟨gTB_at 742 rfl rfl, qi_X7, by decide +kernel, by decide +kernel, by decide +kernel⟩, gTB_at 741 rfl rfl, gTB_at 22 rfl rfl⟩
set_option maxRecDepth 20000 in
theorem kX7_greatestThrow : gCalV yX7_greatestThrow cX7_greatestThrow 3 (some .int) 0 := ⟨⟨gTB_at 746 rfl rfl, qi_X7, by decide +kernel, by decide +kernel, by decide +kernel⟩, gTB_at 745 rfl rfl, gTB_at 23 rfl rfl⟩
set_option maxRecDepth 20000 in
theorem kX7_isPrime : gCalV yX7_isPrime cX7_isPrime 3 (some .boolean) 0 := ⟨⟨gTB_at 750 rfl rfl, qi_X7, by decide +kernel, by decide +kernel, by decide +kernel⟩, gTB_at 749 rfl rfl, gTB_at 24 rfl rfl⟩
set_option maxRecDepth 20000 in
theorem kX7_stateAhead : gCalV yX7_stateAhead cX7_stateAhead 5 (some .int) 1 := ⟨⟨gTB_at 754 rfl rfl, qi_X7, by decide +kernel, by decide +kernel, by decide +kernel⟩, gTB_at 753 rfl rfl, gTB_at 25 rfl rfl⟩
set_option maxRecDepth 20000 in
theorem kX7_isGround : gCalV yX7_isGround cX7_isGround 2 (some .boolean) 0 := ⟨⟨gTB_at 758 rfl rfl, qi_X7, by decide +kernel, by decide +kernel, by decide +kernel⟩, gTB_at 757 rfl rfl, gTB_at 26 rfl rfl⟩
set_option maxRecDepth 20000 in
theorem kX7_findOrbits : gCalV yX7_findOrbits cX7_findOrbits 4 (some .int) 0 := ⟨⟨gTB_at 762 rfl rfl, qi_X7, by decide +kernel, by decide +kernel, by decide +kernel⟩, gTB_at 761 rfl rfl, gTB_at 27 rfl rfl⟩
set_option maxRecDepth 20000 in
theorem kX7_state : gCalV yX7_state cX7_state 2 (some .int) 1 := ⟨⟨gTB_at 766 rfl rfl, qi_X7, by decide +kernel, by decide +kernel, by decide +kernel⟩, gTB_at 764 rfl rfl, gTB_at 765 rfl rfl⟩
set_option maxRecDepth 20000 in
theorem kX7_ball : gCalV yX7_ball cX7_ball 2 (some .int) 1 := ⟨⟨gTB_at 770 rfl rfl, qi_X7, by decide +kernel, by decide +kernel, by decide +kernel⟩, gTB_at 768 rfl rfl, gTB_at 769 rfl rfl⟩
set_option maxRecDepth 20000 in
theorem kX7_layBalls : gCalV yX7_layBalls cX7_layBalls 4 none 0 := ⟨⟨gTB_at 774 rfl rfl, qi_X7, by decide +kernel, by decide +kernel, by decide +kernel⟩, gTB_at 773 rfl rfl, gTB_at 28 rfl rfl⟩
set_option maxRecDepth 20000 in
theorem kX7_orbit : gCalV yX7_orbit cX7_orbit 2 (some .int) 1 := ⟨⟨gTB_at 778 rfl rfl, qi_X7, by decide +kernel, by decide +kernel, by decide +kernel⟩, gTB_at 776 rfl rfl, gTB_at 777 rfl rfl⟩
set_option maxRecDepth 20000 in
theorem kX7_hands : gCalV yX7_hands cX7_hands 3 (some .int) 1 := ⟨⟨gTB_at 782 rfl rfl, qi_X7, by decide +kernel, by decide +kernel, by decide +kernel⟩, gTB_at 780 rfl rfl, gTB_at 781 rfl rfl⟩
set_option maxRecDepth 20000 in
theorem kX7_beat : gCalV yX7_beat cX7_beat 4 (some .int) 2 := ⟨⟨gTB_at 786 rfl rfl, qi_X7, by decide +kernel, by decide +kernel, by decide +kernel⟩, gTB_at 784 rfl rfl, gTB_at 785 rfl rfl⟩
set_option maxRecDepth 20000 in
theorem kX7_size : gCalS yX7_size cX7_size 3 (some .int) 1 := ⟨⟨gTB_at 789 rfl rfl, qi_X7, by decide +kernel, by decide +kernel, by decide +kernel⟩, gTB_at 788 rfl rfl⟩
set_option maxRecDepth 20000 in
theorem kX7_swap : gCalV yX7_swap cX7_swap 5 (some .int) 2 := ⟨⟨gTB_at 793 rfl rfl, qi_X7, by decide +kernel, by decide +kernel, by decide +kernel⟩, gTB_at 791 rfl rfl, gTB_at 792 rfl rfl⟩
set_option maxRecDepth 20000 in
theorem kX7_turn : gCalV yX7_turn cX7_turn 3 (some .int) 1 := ⟨⟨gTB_at 797 rfl rfl, qi_X7, by decide +kernel, by decide +kernel, by decide +kernel⟩, gTB_at 795 rfl rfl, gTB_at 796 rfl rfl⟩
set_option maxRecDepth 20000 in
theorem kX7_takeNext : gCalV yX7_takeNext cX7_takeNext 2 none 0 := ⟨⟨gTB_at 801 rfl rfl, qi_X7, by decide +kernel, by decide +kernel, by decide +kernel⟩, gTB_at 800 rfl rfl, gTB_at 29 rfl rfl⟩
set_option maxRecDepth 20000 in
theorem kX7_backward : gCalV yX7_backward cX7_backward 2 (some .int) 0 := ⟨⟨gTB_at 805 rfl rfl, qi_X7, by decide +kernel, by decide +kernel, by decide +kernel⟩, gTB_at 803 rfl rfl, gTB_at 804 rfl rfl⟩
set_option maxRecDepth 20000 in
theorem kX7_greatest : gCalV yX7_greatest cX7_greatest 4 (some .int) 1 := ⟨⟨gTB_at 809 rfl rfl, qi_X7, by decide +kernel, by decide +kernel, by decide +kernel⟩, gTB_at 807 rfl rfl, gTB_at 808 rfl rfl⟩
set_option maxRecDepth 20000 in
theorem kX7_isGreater : gCalV yX7_isGreater cX7_isGreater 6 (some .boolean) 2 := ⟨⟨gTB_at 813 rfl rfl, qi_X7, by decide +kernel, by decide +kernel, by decide +kernel⟩, gTB_at 812 rfl rfl, gTB_at 30 rfl rfl⟩
set_option maxRecDepth 20000 in
theorem kX7_keep : gCalV yX7_keep cX7_keep 3 (some .int) 1 := ⟨⟨gTB_at 817 rfl rfl, qi_X7, by decide +kernel, by decide +kernel, by decide +kernel⟩, gTB_at 815 rfl rfl, gTB_at 816 rfl rfl⟩
set_option maxRecDepth 20000 in
theorem kX7_isImage : gCalS yX7_isImage cX7_isImage 1 (some .boolean) 1 := ⟨⟨gTB_at 820 rfl rfl, qi_X7, by decide +kernel, by decide +kernel, by decide +kernel⟩, gTB_at 819 rfl rfl⟩
set_option maxRecDepth 20000 in
theorem kX7_back : gCalV yX7_back cX7_back 3 (some .int) 1 := ⟨⟨gTB_at 824 rfl rfl, qi_X7, by decide +kernel, by decide +kernel, by decide +kernel⟩, gTB_at 822 rfl rfl, gTB_at 823 rfl rfl⟩
set_option maxRecDepth 20000 in
theorem kX7_like : gCalV yX7_like cX7_like 3 (some .int) 1 := ⟨⟨gTB_at 828 rfl rfl, qi_X7, by decide +kernel, by decide +kernel, by decide +kernel⟩, gTB_at 826 rfl rfl, gTB_at 827 rfl rfl⟩
set_option maxRecDepth 20000 in
theorem kX7_isTurned : gCalV yX7_isTurned cX7_isTurned 4 (some .boolean) 2 := ⟨⟨gTB_at 832 rfl rfl, qi_X7, by decide +kernel, by decide +kernel, by decide +kernel⟩, gTB_at 831 rfl rfl, gTB_at 31 rfl rfl⟩
set_option maxRecDepth 20000 in
theorem kX7_howMany : gCalV yX7_howMany cX7_howMany 5 (some .long) 3 := ⟨⟨gTB_at 836 rfl rfl, qi_X7, by decide +kernel, by decide +kernel, by decide +kernel⟩, gTB_at 834 rfl rfl, gTB_at 835 rfl rfl⟩
set_option maxRecDepth 20000 in
theorem kX7_layFills : gCalV yX7_layFills cX7_layFills 6 none 0 := ⟨⟨gTB_at 841 rfl rfl, qi_X7, by decide +kernel, by decide +kernel, by decide +kernel⟩, gTB_at 840 rfl rfl, gTB_at 32 rfl rfl⟩
set_option maxRecDepth 20000 in
theorem kX7_spot : gCalS yX7_spot cX7_spot 2 (some .int) 2 := ⟨⟨gTB_at 844 rfl rfl, qi_X7, by decide +kernel, by decide +kernel, by decide +kernel⟩, gTB_at 843 rfl rfl⟩
set_option maxRecDepth 20000 in
theorem kX7_mayThrow : gCalV yX7_mayThrow cX7_mayThrow 3 (some .boolean) 2 := ⟨⟨gTB_at 848 rfl rfl, qi_X7, by decide +kernel, by decide +kernel, by decide +kernel⟩, gTB_at 847 rfl rfl, gTB_at 33 rfl rfl⟩
set_option maxRecDepth 20000 in
theorem kX7_addFills : gCalV yX7_addFills cX7_addFills 5 none 3 := ⟨⟨gTB_at 852 rfl rfl, qi_X7, by decide +kernel, by decide +kernel, by decide +kernel⟩, gTB_at 851 rfl rfl, gTB_at 34 rfl rfl⟩
set_option maxRecDepth 20000 in
theorem kX7_way : gCalV yX7_way cX7_way 8 (some .int) 4 := ⟨⟨gTB_at 856 rfl rfl, qi_X7, by decide +kernel, by decide +kernel, by decide +kernel⟩, gTB_at 854 rfl rfl, gTB_at 855 rfl rfl⟩
set_option maxRecDepth 20000 in
theorem kX7_findFar : gCalV yX7_findFar cX7_findFar 7 none 2 := ⟨⟨gTB_at 860 rfl rfl, qi_X7, by decide +kernel, by decide +kernel, by decide +kernel⟩, gTB_at 859 rfl rfl, gTB_at 35 rfl rfl⟩
set_option maxRecDepth 20000 in
theorem kX7_mayGo : gCalS yX7_mayGo cX7_mayGo 3 (some .boolean) 3 := ⟨⟨gTB_at 863 rfl rfl, qi_X7, by decide +kernel, by decide +kernel, by decide +kernel⟩, gTB_at 862 rfl rfl⟩
set_option maxRecDepth 20000 in
theorem kX7_goesTo : gCalS yX7_goesTo cX7_goesTo 2 (some .int) 2 := ⟨⟨gTB_at 866 rfl rfl, qi_X7, by decide +kernel, by decide +kernel, by decide +kernel⟩, gTB_at 865 rfl rfl⟩
set_option maxRecDepth 20000 in
theorem kX7_thrownTo : gCalS yX7_thrownTo cX7_thrownTo 2 (some .int) 2 := ⟨⟨gTB_at 869 rfl rfl, qi_X7, by decide +kernel, by decide +kernel, by decide +kernel⟩, gTB_at 868 rfl rfl⟩
set_option maxRecDepth 20000 in
theorem kX7_filled : gCalV yX7_filled cX7_filled 10 (some .long) 6 := ⟨⟨gTB_at 873 rfl rfl, qi_X7, by decide +kernel, by decide +kernel, by decide +kernel⟩, gTB_at 871 rfl rfl, gTB_at 872 rfl rfl⟩
set_option maxRecDepth 20000 in
theorem kX7_lost : gCalV yX7_lost cX7_lost 2 (some .long) 1 := ⟨⟨gTB_at 877 rfl rfl, qi_X7, by decide +kernel, by decide +kernel, by decide +kernel⟩, gTB_at 876 rfl rfl, gTB_at 36 rfl rfl⟩
set_option maxRecDepth 20000 in
theorem kX7_firstFill : gCalV yX7_firstFill cX7_firstFill 7 (some .long) 2 := ⟨⟨gTB_at 881 rfl rfl, qi_X7, by decide +kernel, by decide +kernel, by decide +kernel⟩, gTB_at 880 rfl rfl, gTB_at 37 rfl rfl⟩
set_option maxRecDepth 20000 in
theorem kX7_leadsOn : gCalV yX7_leadsOn cX7_leadsOn 6 (some .boolean) 4 := ⟨⟨gTB_at 885 rfl rfl, qi_X7, by decide +kernel, by decide +kernel, by decide +kernel⟩, gTB_at 884 rfl rfl, gTB_at 38 rfl rfl⟩
set_option maxRecDepth 20000 in
theorem kX7_kind : gCalV yX7_kind cX7_kind 4 (some .int) 2 := ⟨⟨gTB_at 889 rfl rfl, qi_X7, by decide +kernel, by decide +kernel, by decide +kernel⟩, gTB_at 887 rfl rfl, gTB_at 888 rfl rfl⟩
set_option maxRecDepth 20000 in
theorem kX7_isBall : gCalS yX7_isBall cX7_isBall 1 (some .boolean) 1 := ⟨⟨gTB_at 892 rfl rfl, qi_X7, by decide +kernel, by decide +kernel, by decide +kernel⟩, gTB_at 891 rfl rfl⟩
set_option maxRecDepth 20000 in
theorem kX7_broken : gCalV yX7_broken cX7_broken 3 (some .int) 0 := ⟨⟨gTB_at 896 rfl rfl, qi_X7, by decide +kernel, by decide +kernel, by decide +kernel⟩, gTB_at 894 rfl rfl, gTB_at 895 rfl rfl⟩
set_option maxRecDepth 20000 in
theorem kX7_mayGoTo : gCalV yX7_mayGoTo cX7_mayGoTo 2 (some .int) 1 := ⟨⟨gTB_at 900 rfl rfl, qi_X7, by decide +kernel, by decide +kernel, by decide +kernel⟩, gTB_at 899 rfl rfl, gTB_at 39 rfl rfl⟩
set_option maxRecDepth 20000 in
theorem kX7_drop : gCalV yX7_drop cX7_drop 3 (some .int) 1 := ⟨⟨gTB_at 904 rfl rfl, qi_X7, by decide +kernel, by decide +kernel, by decide +kernel⟩, gTB_at 902 rfl rfl, gTB_at 903 rfl rfl⟩
set_option maxRecDepth 20000 in
theorem kX7_empty : gCalV yX7_empty cX7_empty 4 (some .int) 1 := ⟨⟨gTB_at 908 rfl rfl, qi_X7, by decide +kernel, by decide +kernel, by decide +kernel⟩, gTB_at 906 rfl rfl, gTB_at 907 rfl rfl⟩
set_option maxRecDepth 20000 in
theorem kX7_sheet : gCalV yX7_sheet cX7_sheet 5 (some .int) 3 := ⟨⟨gTB_at 912 rfl rfl, qi_X7, by decide +kernel, by decide +kernel, by decide +kernel⟩, gTB_at 910 rfl rfl, gTB_at 911 rfl rfl⟩
set_option maxRecDepth 20000 in
theorem kX7_lose : gCalV yX7_lose cX7_lose 3 (some .int) 1 := ⟨⟨gTB_at 916 rfl rfl, qi_X7, by decide +kernel, by decide +kernel, by decide +kernel⟩, gTB_at 914 rfl rfl, gTB_at 915 rfl rfl⟩
set_option maxRecDepth 20000 in
theorem kX7_put : gCalV yX7_put cX7_put 4 (some .int) 3 := ⟨⟨gTB_at 920 rfl rfl, qi_X7, by decide +kernel, by decide +kernel, by decide +kernel⟩, gTB_at 918 rfl rfl, gTB_at 919 rfl rfl⟩
set_option maxRecDepth 20000 in
theorem kX7_cell : gCalV yX7_cell cX7_cell 4 (some .long) 3 := ⟨⟨gTB_at 924 rfl rfl, qi_X7, by decide +kernel, by decide +kernel, by decide +kernel⟩, gTB_at 922 rfl rfl, gTB_at 923 rfl rfl⟩
set_option maxRecDepth 20000 in
theorem kX7_copy : gCalV yX7_copy cX7_copy 10 (some .int) 5 := ⟨⟨gTB_at 928 rfl rfl, qi_X7, by decide +kernel, by decide +kernel, by decide +kernel⟩, gTB_at 926 rfl rfl, gTB_at 927 rfl rfl⟩
set_option maxRecDepth 20000 in
theorem kX7_tell : gCalV yX7_tell cX7_tell 2 (some .int) 1 := ⟨⟨gTB_at 932 rfl rfl, qi_X7, by decide +kernel, by decide +kernel, by decide +kernel⟩, gTB_at 930 rfl rfl, gTB_at 931 rfl rfl⟩
set_option maxRecDepth 20000 in
theorem kX7_begins : gCalV yX7_begins cX7_begins 2 none 1 := ⟨⟨gTB_at 936 rfl rfl, qi_X7, by decide +kernel, by decide +kernel, by decide +kernel⟩, gTB_at 935 rfl rfl, gTB_at 40 rfl rfl⟩
set_option maxRecDepth 20000 in
theorem kX7_call : gCalV yX7_call cX7_call 2 (some .int) 1 := ⟨⟨gTB_at 940 rfl rfl, qi_X7, by decide +kernel, by decide +kernel, by decide +kernel⟩, gTB_at 938 rfl rfl, gTB_at 939 rfl rfl⟩
set_option maxRecDepth 20000 in
theorem kX7_as : gCalV yX7_as cX7_as 3 (some .int) 2 := ⟨⟨gTB_at 944 rfl rfl, qi_X7, by decide +kernel, by decide +kernel, by decide +kernel⟩, gTB_at 942 rfl rfl, gTB_at 943 rfl rfl⟩
set_option maxRecDepth 20000 in
theorem kX7_trace : gCalV yX7_trace cX7_trace 1 (some .int) 0 := ⟨⟨gTB_at 948 rfl rfl, qi_X7, by decide +kernel, by decide +kernel, by decide +kernel⟩, gTB_at 946 rfl rfl, gTB_at 947 rfl rfl⟩
set_option maxRecDepth 20000 in
theorem kX7_fault : gCalV yX7_fault cX7_fault 1 (some .int) 0 := ⟨⟨gTB_at 952 rfl rfl, qi_X7, by decide +kernel, by decide +kernel, by decide +kernel⟩, gTB_at 950 rfl rfl, gTB_at 951 rfl rfl⟩
set_option maxRecDepth 20000 in
theorem kX7_many : gCalV yX7_many cX7_many 4 (some .int) 1 := ⟨⟨gTB_at 956 rfl rfl, qi_X7, by decide +kernel, by decide +kernel, by decide +kernel⟩, gTB_at 954 rfl rfl, gTB_at 955 rfl rfl⟩
section GF
variable {p : Program} {l : Launch} {e : Env} {R : Room} {s : State} {m : MethodId} {args : Array Value} {below : List Frame} {meth : Method} {c : Code} {H : Heap} {locs : List Loc} {cells slots : Nat} {Q : State → Prop}
variable {cc : ByteArray} {pc nL : Nat} {ls : Array Slot} {rest st : List Value} {E : gE} {μ ν : gM} {τ : gJ}
theorem ge_X0 : gen E μ ν τ 25 = .inr (0, [.ref (gL E 26), .ref (gL E 27), .ref (gL E 28)]) := by simp [gen, gen0]
theorem ge_X1 : gen E μ ν τ 18 = .inr (1, [.ref (gL E 19), .int (μ 18 1)]) := by simp [gen, gen0]
theorem ge_X2 : gen E μ ν τ 20 = .inr (2, [.ref (gL E 21), .int (μ 20 1)]) := by simp [gen, gen0]
theorem ge_X5 : gen E μ ν τ 22 = .inr (5, [.ref (gL E 23), .ref (gL E 24), .int (μ 22 2)]) := by simp [gen, gen0]
theorem ge_X6 : gen E μ ν τ 31 = .inr (6, [.ref (gL E 0), .ref (gL E 1), .ref (gL E 29), .ref (gL E 30), .ref (gL E 18), .ref (gL E 20), .ref (gL E 22), .ref (gL E 25), .int (μ 31 8), .int (μ 31 9), .int (μ 31 10)]) := by simp [gen, gen0]
theorem ge_X7 : gen E μ ν τ 32 = .inr (7, [.int (ν 32 0), .int (ν 32 1), .ref (gL E 33), .ref (gL E 34), .ref (gL E 35), .int (ν 32 5), .ref (gL E 36), .int (ν 32 7), .ref (gL E 37), .int (ν 32 9), .ref (gL E 38), .ref (gL E 39), .ref (gL E 40), .ref (gL E 41), .ref (gL E 42), .int (ν 32 15), .int (ν 32 16), .ref (gL E 43), .ref (gL E 44), .ref (gL E 45)]) := by simp [gen, gen0]
theorem gg_X3_9 (C0 : CallFix p m c cc nL s args gTB RX3) (hK : gK E s) (hP : va_P (gD E) vwCl (wl E μ ν τ) H) {r : Nat} (hr : r < 5) (hdg : decode cc pc = .ok (.getfield 9, 3)) (kk : W p l e R s m args below meth c H locs cells slots Q (F0 m (pc + 3) ls (.ref (gL E (5 + r)) :: rest))) : W p l e R s m args below meth c H locs cells slots Q (F0 m pc ls (.ref (gL E r) :: rest)) := g_get C0 hK hP (by omega) (gen_row hr) rfl inX3 0 (by decide) qf_X3_9 rfl hdg kk
theorem gg_X3_15 (C0 : CallFix p m c cc nL s args gTB RX3) (hK : gK E s) (hP : va_P (gD E) vwCl (wl E μ ν τ) H) {r : Nat} (hr : r < 5) (hdg : decode cc pc = .ok (.getfield 15, 3)) (kk : W p l e R s m args below meth c H locs cells slots Q (F0 m (pc + 3) ls (.int (μ r 1) :: rest))) : W p l e R s m args below meth c H locs cells slots Q (F0 m pc ls (.ref (gL E r) :: rest)) := g_get C0 hK hP (by omega) (gen_row hr) rfl inX3 1 (by decide) qf_X3_15 rfl hdg kk
theorem gp_X3_15 {v : Int32} (hE : gLok E) (C0 : CallFix p m c cc nL s args gTB RX3) (hK : gK E s) (hP : va_P (gD E) vwCl (wl E μ ν τ) H) (hS : va_S (gA E) s.heap H locs) {r : Nat} (hr : r < 5) (hdg : decode cc pc = .ok (.putfield 15, 3)) (kk : ∀ (H : Heap) (locs : List Loc), va_P (gD E) vwCl (wl E (up2 μ r 1 v) ν τ) H → va_S (gA E) s.heap H locs → W p l e R s m args below meth c H locs cells slots Q (F0 m (pc + 3) ls rest)) : W p l e R s m args below meth c H locs cells slots Q (F0 m pc ls (.int v :: .ref (gL E r) :: rest)) := g_putX (fs := fun f => [.ref (gL E (5 + r)), .int (f 1)]) hE C0 hK hP hS (by omega) (fun _ => (gen_row hr)) rfl inX3 tyX3_ok nmX3 1 (by decide) qf_X3_15 rfl (by decide +kernel) (Nat.le_of_ble_eq_true rfl) rfl hdg kk
theorem gg_X1_9 (C0 : CallFix p m c cc nL s args gTB RX1) (hK : gK E s) (hP : va_P (gD E) vwCl (wl E μ ν τ) H) (hdg : decode cc pc = .ok (.getfield 9, 3)) (kk : W p l e R s m args below meth c H locs cells slots Q (F0 m (pc + 3) ls (.ref (gL E 19) :: rest))) : W p l e R s m args below meth c H locs cells slots Q (F0 m pc ls (.ref (gL E 18) :: rest)) := g_get C0 hK hP (by decide) ge_X1 rfl inX1 0 (by decide) qf_X1_9 rfl hdg kk
theorem gg_X1_21 (C0 : CallFix p m c cc nL s args gTB RX1) (hK : gK E s) (hP : va_P (gD E) vwCl (wl E μ ν τ) H) (hdg : decode cc pc = .ok (.getfield 21, 3)) (kk : W p l e R s m args below meth c H locs cells slots Q (F0 m (pc + 3) ls (.int (μ 18 1) :: rest))) : W p l e R s m args below meth c H locs cells slots Q (F0 m pc ls (.ref (gL E 18) :: rest)) := g_get C0 hK hP (by decide) ge_X1 rfl inX1 1 (by decide) qf_X1_21 rfl hdg kk
theorem gp_X1_21 {v : Int32} (hE : gLok E) (C0 : CallFix p m c cc nL s args gTB RX1) (hK : gK E s) (hP : va_P (gD E) vwCl (wl E μ ν τ) H) (hS : va_S (gA E) s.heap H locs) (hdg : decode cc pc = .ok (.putfield 21, 3)) (kk : ∀ (H : Heap) (locs : List Loc), va_P (gD E) vwCl (wl E (up2 μ 18 1 v) ν τ) H → va_S (gA E) s.heap H locs → W p l e R s m args below meth c H locs cells slots Q (F0 m (pc + 3) ls rest)) : W p l e R s m args below meth c H locs cells slots Q (F0 m pc ls (.int v :: .ref (gL E 18) :: rest)) := g_putX (fs := fun f => [.ref (gL E 19), .int (f 1)]) hE C0 hK hP hS (by decide) (fun _ => ge_X1) rfl inX1 tyX1_ok nmX1 1 (by decide) qf_X1_21 rfl (by decide +kernel) (Nat.le_of_ble_eq_true rfl) rfl hdg kk
theorem gg_X2_9 (C0 : CallFix p m c cc nL s args gTB RX2) (hK : gK E s) (hP : va_P (gD E) vwCl (wl E μ ν τ) H) (hdg : decode cc pc = .ok (.getfield 9, 3)) (kk : W p l e R s m args below meth c H locs cells slots Q (F0 m (pc + 3) ls (.ref (gL E 21) :: rest))) : W p l e R s m args below meth c H locs cells slots Q (F0 m pc ls (.ref (gL E 20) :: rest)) := g_get C0 hK hP (by decide) ge_X2 rfl inX2 0 (by decide) qf_X2_9 rfl hdg kk
theorem gg_X2_45 (C0 : CallFix p m c cc nL s args gTB RX2) (hK : gK E s) (hP : va_P (gD E) vwCl (wl E μ ν τ) H) (hdg : decode cc pc = .ok (.getfield 45, 3)) (kk : W p l e R s m args below meth c H locs cells slots Q (F0 m (pc + 3) ls (.int (μ 20 1) :: rest))) : W p l e R s m args below meth c H locs cells slots Q (F0 m pc ls (.ref (gL E 20) :: rest)) := g_get C0 hK hP (by decide) ge_X2 rfl inX2 1 (by decide) qf_X2_45 rfl hdg kk
theorem gp_X2_45 {v : Int32} (hE : gLok E) (C0 : CallFix p m c cc nL s args gTB RX2) (hK : gK E s) (hP : va_P (gD E) vwCl (wl E μ ν τ) H) (hS : va_S (gA E) s.heap H locs) (hdg : decode cc pc = .ok (.putfield 45, 3)) (kk : ∀ (H : Heap) (locs : List Loc), va_P (gD E) vwCl (wl E (up2 μ 20 1 v) ν τ) H → va_S (gA E) s.heap H locs → W p l e R s m args below meth c H locs cells slots Q (F0 m (pc + 3) ls rest)) : W p l e R s m args below meth c H locs cells slots Q (F0 m pc ls (.int v :: .ref (gL E 20) :: rest)) := g_putX (fs := fun f => [.ref (gL E 21), .int (f 1)]) hE C0 hK hP hS (by decide) (fun _ => ge_X2) rfl inX2 tyX2_ok nmX2 1 (by decide) qf_X2_45 rfl (by decide +kernel) (Nat.le_of_ble_eq_true rfl) rfl hdg kk
theorem gg_X5_9 (C0 : CallFix p m c cc nL s args gTB RX5) (hK : gK E s) (hP : va_P (gD E) vwCl (wl E μ ν τ) H) (hdg : decode cc pc = .ok (.getfield 9, 3)) (kk : W p l e R s m args below meth c H locs cells slots Q (F0 m (pc + 3) ls (.ref (gL E 23) :: rest))) : W p l e R s m args below meth c H locs cells slots Q (F0 m pc ls (.ref (gL E 22) :: rest)) := g_get C0 hK hP (by decide) ge_X5 rfl inX5 0 (by decide) qf_X5_9 rfl hdg kk
theorem gg_X5_15 (C0 : CallFix p m c cc nL s args gTB RX5) (hK : gK E s) (hP : va_P (gD E) vwCl (wl E μ ν τ) H) (hdg : decode cc pc = .ok (.getfield 15, 3)) (kk : W p l e R s m args below meth c H locs cells slots Q (F0 m (pc + 3) ls (.ref (gL E 24) :: rest))) : W p l e R s m args below meth c H locs cells slots Q (F0 m pc ls (.ref (gL E 22) :: rest)) := g_get C0 hK hP (by decide) ge_X5 rfl inX5 1 (by decide) qf_X5_15 rfl hdg kk
theorem gg_X5_24 (C0 : CallFix p m c cc nL s args gTB RX5) (hK : gK E s) (hP : va_P (gD E) vwCl (wl E μ ν τ) H) (hdg : decode cc pc = .ok (.getfield 24, 3)) (kk : W p l e R s m args below meth c H locs cells slots Q (F0 m (pc + 3) ls (.int (μ 22 2) :: rest))) : W p l e R s m args below meth c H locs cells slots Q (F0 m pc ls (.ref (gL E 22) :: rest)) := g_get C0 hK hP (by decide) ge_X5 rfl inX5 2 (by decide) qf_X5_24 rfl hdg kk
theorem gp_X5_24 {v : Int32} (hE : gLok E) (C0 : CallFix p m c cc nL s args gTB RX5) (hK : gK E s) (hP : va_P (gD E) vwCl (wl E μ ν τ) H) (hS : va_S (gA E) s.heap H locs) (hdg : decode cc pc = .ok (.putfield 24, 3)) (kk : ∀ (H : Heap) (locs : List Loc), va_P (gD E) vwCl (wl E (up2 μ 22 2 v) ν τ) H → va_S (gA E) s.heap H locs → W p l e R s m args below meth c H locs cells slots Q (F0 m (pc + 3) ls rest)) : W p l e R s m args below meth c H locs cells slots Q (F0 m pc ls (.int v :: .ref (gL E 22) :: rest)) := g_putX (fs := fun f => [.ref (gL E 23), .ref (gL E 24), .int (f 2)]) hE C0 hK hP hS (by decide) (fun _ => ge_X5) rfl inX5 tyX5_ok nmX5 2 (by decide) qf_X5_24 rfl (by decide +kernel) (Nat.le_of_ble_eq_true rfl) rfl hdg kk
theorem gg_X0_9 (C0 : CallFix p m c cc nL s args gTB RX0) (hK : gK E s) (hP : va_P (gD E) vwCl (wl E μ ν τ) H) (hdg : decode cc pc = .ok (.getfield 9, 3)) (kk : W p l e R s m args below meth c H locs cells slots Q (F0 m (pc + 3) ls (.ref (gL E 26) :: rest))) : W p l e R s m args below meth c H locs cells slots Q (F0 m pc ls (.ref (gL E 25) :: rest)) := g_get C0 hK hP (by decide) ge_X0 rfl inX0 0 (by decide) qf_X0_9 rfl hdg kk
theorem gg_X0_15 (C0 : CallFix p m c cc nL s args gTB RX0) (hK : gK E s) (hP : va_P (gD E) vwCl (wl E μ ν τ) H) (hdg : decode cc pc = .ok (.getfield 15, 3)) (kk : W p l e R s m args below meth c H locs cells slots Q (F0 m (pc + 3) ls (.ref (gL E 27) :: rest))) : W p l e R s m args below meth c H locs cells slots Q (F0 m pc ls (.ref (gL E 25) :: rest)) := g_get C0 hK hP (by decide) ge_X0 rfl inX0 1 (by decide) qf_X0_15 rfl hdg kk
theorem gg_X0_18 (C0 : CallFix p m c cc nL s args gTB RX0) (hK : gK E s) (hP : va_P (gD E) vwCl (wl E μ ν τ) H) (hdg : decode cc pc = .ok (.getfield 18, 3)) (kk : W p l e R s m args below meth c H locs cells slots Q (F0 m (pc + 3) ls (.ref (gL E 28) :: rest))) : W p l e R s m args below meth c H locs cells slots Q (F0 m pc ls (.ref (gL E 25) :: rest)) := g_get C0 hK hP (by decide) ge_X0 rfl inX0 2 (by decide) qf_X0_18 rfl hdg kk
theorem gg_X4_9 (C0 : CallFix p m c cc nL s args gTB RX4) (hK : gK E s) (hP : va_P (gD E) vwCl (wl E μ ν τ) H) {r : Nat} (hr : r < 4) (hdg : decode cc pc = .ok (.getfield 9, 3)) (kk : W p l e R s m args below meth c H locs cells slots Q (F0 m (pc + 3) ls (.ref (gL E (14 + r)) :: rest))) : W p l e R s m args below meth c H locs cells slots Q (F0 m pc ls (.ref (gL E (10 + r)) :: rest)) := g_get C0 hK hP (by omega) (gen_sheet hr) rfl inX4 0 (by decide) qf_X4_9 rfl hdg kk
theorem gg_X4_15 (C0 : CallFix p m c cc nL s args gTB RX4) (hK : gK E s) (hP : va_P (gD E) vwCl (wl E μ ν τ) H) {r : Nat} (hr : r < 4) (hdg : decode cc pc = .ok (.getfield 15, 3)) (kk : W p l e R s m args below meth c H locs cells slots Q (F0 m (pc + 3) ls (.int (μ (10 + r) 1) :: rest))) : W p l e R s m args below meth c H locs cells slots Q (F0 m pc ls (.ref (gL E (10 + r)) :: rest)) := g_get C0 hK hP (by omega) (gen_sheet hr) rfl inX4 1 (by decide) qf_X4_15 rfl hdg kk
theorem gp_X4_15 {v : Int32} (hE : gLok E) (C0 : CallFix p m c cc nL s args gTB RX4) (hK : gK E s) (hP : va_P (gD E) vwCl (wl E μ ν τ) H) (hS : va_S (gA E) s.heap H locs) {r : Nat} (hr : r < 4) (hdg : decode cc pc = .ok (.putfield 15, 3)) (kk : ∀ (H : Heap) (locs : List Loc), va_P (gD E) vwCl (wl E (up2 μ (10 + r) 1 v) ν τ) H → va_S (gA E) s.heap H locs → W p l e R s m args below meth c H locs cells slots Q (F0 m (pc + 3) ls rest)) : W p l e R s m args below meth c H locs cells slots Q (F0 m pc ls (.int v :: .ref (gL E (10 + r)) :: rest)) := g_putX (fs := fun f => [.ref (gL E (14 + r)), .int (f 1), .int (f 2)]) hE C0 hK hP hS (by omega) (fun _ => (gen_sheet hr)) rfl inX4 tyX4_ok nmX4 1 (by decide) qf_X4_15 rfl (by decide +kernel) (Nat.le_of_ble_eq_true rfl) rfl hdg kk
theorem gg_X4_25 (C0 : CallFix p m c cc nL s args gTB RX4) (hK : gK E s) (hP : va_P (gD E) vwCl (wl E μ ν τ) H) {r : Nat} (hr : r < 4) (hdg : decode cc pc = .ok (.getfield 25, 3)) (kk : W p l e R s m args below meth c H locs cells slots Q (F0 m (pc + 3) ls (.int (μ (10 + r) 2) :: rest))) : W p l e R s m args below meth c H locs cells slots Q (F0 m pc ls (.ref (gL E (10 + r)) :: rest)) := g_get C0 hK hP (by omega) (gen_sheet hr) rfl inX4 2 (by decide) qf_X4_25 rfl hdg kk
theorem gp_X4_25 {v : Int32} (hE : gLok E) (C0 : CallFix p m c cc nL s args gTB RX4) (hK : gK E s) (hP : va_P (gD E) vwCl (wl E μ ν τ) H) (hS : va_S (gA E) s.heap H locs) {r : Nat} (hr : r < 4) (hdg : decode cc pc = .ok (.putfield 25, 3)) (kk : ∀ (H : Heap) (locs : List Loc), va_P (gD E) vwCl (wl E (up2 μ (10 + r) 2 v) ν τ) H → va_S (gA E) s.heap H locs → W p l e R s m args below meth c H locs cells slots Q (F0 m (pc + 3) ls rest)) : W p l e R s m args below meth c H locs cells slots Q (F0 m pc ls (.int v :: .ref (gL E (10 + r)) :: rest)) := g_putX (fs := fun f => [.ref (gL E (14 + r)), .int (f 1), .int (f 2)]) hE C0 hK hP hS (by omega) (fun _ => (gen_sheet hr)) rfl inX4 tyX4_ok nmX4 2 (by decide) qf_X4_25 rfl (by decide +kernel) (Nat.le_of_ble_eq_true rfl) rfl hdg kk
theorem gg_X6_12 (C0 : CallFix p m c cc nL s args gTB RX6) (hK : gK E s) (hP : va_P (gD E) vwCl (wl E μ ν τ) H) (hdg : decode cc pc = .ok (.getfield 12, 3)) (kk : W p l e R s m args below meth c H locs cells slots Q (F0 m (pc + 3) ls (.ref (gL E 0) :: rest))) : W p l e R s m args below meth c H locs cells slots Q (F0 m pc ls (.ref (gL E 31) :: rest)) := g_get C0 hK hP (by decide) ge_X6 rfl inX6 0 (by decide) qf_X6_12 rfl hdg kk
theorem gg_X6_18 (C0 : CallFix p m c cc nL s args gTB RX6) (hK : gK E s) (hP : va_P (gD E) vwCl (wl E μ ν τ) H) (hdg : decode cc pc = .ok (.getfield 18, 3)) (kk : W p l e R s m args below meth c H locs cells slots Q (F0 m (pc + 3) ls (.ref (gL E 1) :: rest))) : W p l e R s m args below meth c H locs cells slots Q (F0 m pc ls (.ref (gL E 31) :: rest)) := g_get C0 hK hP (by decide) ge_X6 rfl inX6 1 (by decide) qf_X6_18 rfl hdg kk
theorem gg_X6_21 (C0 : CallFix p m c cc nL s args gTB RX6) (hK : gK E s) (hP : va_P (gD E) vwCl (wl E μ ν τ) H) (hdg : decode cc pc = .ok (.getfield 21, 3)) (kk : W p l e R s m args below meth c H locs cells slots Q (F0 m (pc + 3) ls (.ref (gL E 29) :: rest))) : W p l e R s m args below meth c H locs cells slots Q (F0 m pc ls (.ref (gL E 31) :: rest)) := g_get C0 hK hP (by decide) ge_X6 rfl inX6 2 (by decide) qf_X6_21 rfl hdg kk
theorem gg_X6_27 (C0 : CallFix p m c cc nL s args gTB RX6) (hK : gK E s) (hP : va_P (gD E) vwCl (wl E μ ν τ) H) (hdg : decode cc pc = .ok (.getfield 27, 3)) (kk : W p l e R s m args below meth c H locs cells slots Q (F0 m (pc + 3) ls (.ref (gL E 30) :: rest))) : W p l e R s m args below meth c H locs cells slots Q (F0 m pc ls (.ref (gL E 31) :: rest)) := g_get C0 hK hP (by decide) ge_X6 rfl inX6 3 (by decide) qf_X6_27 rfl hdg kk
theorem gg_X6_34 (C0 : CallFix p m c cc nL s args gTB RX6) (hK : gK E s) (hP : va_P (gD E) vwCl (wl E μ ν τ) H) (hdg : decode cc pc = .ok (.getfield 34, 3)) (kk : W p l e R s m args below meth c H locs cells slots Q (F0 m (pc + 3) ls (.ref (gL E 18) :: rest))) : W p l e R s m args below meth c H locs cells slots Q (F0 m pc ls (.ref (gL E 31) :: rest)) := g_get C0 hK hP (by decide) ge_X6 rfl inX6 4 (by decide) qf_X6_34 rfl hdg kk
theorem gg_X6_41 (C0 : CallFix p m c cc nL s args gTB RX6) (hK : gK E s) (hP : va_P (gD E) vwCl (wl E μ ν τ) H) (hdg : decode cc pc = .ok (.getfield 41, 3)) (kk : W p l e R s m args below meth c H locs cells slots Q (F0 m (pc + 3) ls (.ref (gL E 20) :: rest))) : W p l e R s m args below meth c H locs cells slots Q (F0 m pc ls (.ref (gL E 31) :: rest)) := g_get C0 hK hP (by decide) ge_X6 rfl inX6 5 (by decide) qf_X6_41 rfl hdg kk
theorem gg_X6_48 (C0 : CallFix p m c cc nL s args gTB RX6) (hK : gK E s) (hP : va_P (gD E) vwCl (wl E μ ν τ) H) (hdg : decode cc pc = .ok (.getfield 48, 3)) (kk : W p l e R s m args below meth c H locs cells slots Q (F0 m (pc + 3) ls (.ref (gL E 22) :: rest))) : W p l e R s m args below meth c H locs cells slots Q (F0 m pc ls (.ref (gL E 31) :: rest)) := g_get C0 hK hP (by decide) ge_X6 rfl inX6 6 (by decide) qf_X6_48 rfl hdg kk
theorem gg_X6_55 (C0 : CallFix p m c cc nL s args gTB RX6) (hK : gK E s) (hP : va_P (gD E) vwCl (wl E μ ν τ) H) (hdg : decode cc pc = .ok (.getfield 55, 3)) (kk : W p l e R s m args below meth c H locs cells slots Q (F0 m (pc + 3) ls (.ref (gL E 25) :: rest))) : W p l e R s m args below meth c H locs cells slots Q (F0 m pc ls (.ref (gL E 31) :: rest)) := g_get C0 hK hP (by decide) ge_X6 rfl inX6 7 (by decide) qf_X6_55 rfl hdg kk
theorem gg_X6_59 (C0 : CallFix p m c cc nL s args gTB RX6) (hK : gK E s) (hP : va_P (gD E) vwCl (wl E μ ν τ) H) (hdg : decode cc pc = .ok (.getfield 59, 3)) (kk : W p l e R s m args below meth c H locs cells slots Q (F0 m (pc + 3) ls (.int (μ 31 8) :: rest))) : W p l e R s m args below meth c H locs cells slots Q (F0 m pc ls (.ref (gL E 31) :: rest)) := g_get C0 hK hP (by decide) ge_X6 rfl inX6 8 (by decide) qf_X6_59 rfl hdg kk
theorem gp_X6_59 {v : Int32} (hE : gLok E) (C0 : CallFix p m c cc nL s args gTB RX6) (hK : gK E s) (hP : va_P (gD E) vwCl (wl E μ ν τ) H) (hS : va_S (gA E) s.heap H locs) (hdg : decode cc pc = .ok (.putfield 59, 3)) (kk : ∀ (H : Heap) (locs : List Loc), va_P (gD E) vwCl (wl E (up2 μ 31 8 v) ν τ) H → va_S (gA E) s.heap H locs → W p l e R s m args below meth c H locs cells slots Q (F0 m (pc + 3) ls rest)) : W p l e R s m args below meth c H locs cells slots Q (F0 m pc ls (.int v :: .ref (gL E 31) :: rest)) := g_putX (fs := fun f => [.ref (gL E 0), .ref (gL E 1), .ref (gL E 29), .ref (gL E 30), .ref (gL E 18), .ref (gL E 20), .ref (gL E 22), .ref (gL E 25), .int (f 8), .int (f 9), .int (f 10)]) hE C0 hK hP hS (by decide) (fun _ => ge_X6) rfl inX6 tyX6_ok nmX6 8 (by decide) qf_X6_59 rfl (by decide +kernel) (Nat.le_of_ble_eq_true rfl) rfl hdg kk
theorem gg_X6_215 (C0 : CallFix p m c cc nL s args gTB RX6) (hK : gK E s) (hP : va_P (gD E) vwCl (wl E μ ν τ) H) (hdg : decode cc pc = .ok (.getfield 215, 3)) (kk : W p l e R s m args below meth c H locs cells slots Q (F0 m (pc + 3) ls (.int (μ 31 9) :: rest))) : W p l e R s m args below meth c H locs cells slots Q (F0 m pc ls (.ref (gL E 31) :: rest)) := g_get C0 hK hP (by decide) ge_X6 rfl inX6 9 (by decide) qf_X6_215 rfl hdg kk
theorem gp_X6_215 {v : Int32} (hE : gLok E) (C0 : CallFix p m c cc nL s args gTB RX6) (hK : gK E s) (hP : va_P (gD E) vwCl (wl E μ ν τ) H) (hS : va_S (gA E) s.heap H locs) (hdg : decode cc pc = .ok (.putfield 215, 3)) (kk : ∀ (H : Heap) (locs : List Loc), va_P (gD E) vwCl (wl E (up2 μ 31 9 v) ν τ) H → va_S (gA E) s.heap H locs → W p l e R s m args below meth c H locs cells slots Q (F0 m (pc + 3) ls rest)) : W p l e R s m args below meth c H locs cells slots Q (F0 m pc ls (.int v :: .ref (gL E 31) :: rest)) := g_putX (fs := fun f => [.ref (gL E 0), .ref (gL E 1), .ref (gL E 29), .ref (gL E 30), .ref (gL E 18), .ref (gL E 20), .ref (gL E 22), .ref (gL E 25), .int (f 8), .int (f 9), .int (f 10)]) hE C0 hK hP hS (by decide) (fun _ => ge_X6) rfl inX6 tyX6_ok nmX6 9 (by decide) qf_X6_215 rfl (by decide +kernel) (Nat.le_of_ble_eq_true rfl) rfl hdg kk
theorem gg_X6_64 (C0 : CallFix p m c cc nL s args gTB RX6) (hK : gK E s) (hP : va_P (gD E) vwCl (wl E μ ν τ) H) (hdg : decode cc pc = .ok (.getfield 64, 3)) (kk : W p l e R s m args below meth c H locs cells slots Q (F0 m (pc + 3) ls (.int (μ 31 10) :: rest))) : W p l e R s m args below meth c H locs cells slots Q (F0 m pc ls (.ref (gL E 31) :: rest)) := g_get C0 hK hP (by decide) ge_X6 rfl inX6 10 (by decide) qf_X6_64 rfl hdg kk
theorem gp_X6_64 {v : Int32} (hE : gLok E) (C0 : CallFix p m c cc nL s args gTB RX6) (hK : gK E s) (hP : va_P (gD E) vwCl (wl E μ ν τ) H) (hS : va_S (gA E) s.heap H locs) (hdg : decode cc pc = .ok (.putfield 64, 3)) (kk : ∀ (H : Heap) (locs : List Loc), va_P (gD E) vwCl (wl E (up2 μ 31 10 v) ν τ) H → va_S (gA E) s.heap H locs → W p l e R s m args below meth c H locs cells slots Q (F0 m (pc + 3) ls rest)) : W p l e R s m args below meth c H locs cells slots Q (F0 m pc ls (.int v :: .ref (gL E 31) :: rest)) := g_putX (fs := fun f => [.ref (gL E 0), .ref (gL E 1), .ref (gL E 29), .ref (gL E 30), .ref (gL E 18), .ref (gL E 20), .ref (gL E 22), .ref (gL E 25), .int (f 8), .int (f 9), .int (f 10)]) hE C0 hK hP hS (by decide) (fun _ => ge_X6) rfl inX6 tyX6_ok nmX6 10 (by decide) qf_X6_64 rfl (by decide +kernel) (Nat.le_of_ble_eq_true rfl) rfl hdg kk
theorem gg_X7_50 (C0 : CallFix p m c cc nL s args gTB RX7) (hK : gK E s) (hP : va_P (gD E) vwCl (wl E μ ν τ) H) (hdg : decode cc pc = .ok (.getfield 50, 3)) (kk : W p l e R s m args below meth c H locs cells slots Q (F0 m (pc + 3) ls (.int (ν 32 0) :: rest))) : W p l e R s m args below meth c H locs cells slots Q (F0 m pc ls (.ref (gL E 32) :: rest)) := g_get C0 hK hP (by decide) ge_X7 rfl inX7 0 (by decide) qf_X7_50 rfl hdg kk
theorem gp_X7_50 {v : Int32} (hE : gLok E) (C0 : CallFix p m c cc nL s args gTB RX7) (hK : gK E s) (hP : va_P (gD E) vwCl (wl E μ ν τ) H) (hS : va_S (gA E) s.heap H locs) (hdg : decode cc pc = .ok (.putfield 50, 3)) (kk : ∀ (H : Heap) (locs : List Loc), va_P (gD E) vwCl (wl E μ (up2 ν 32 0 v) τ) H → va_S (gA E) s.heap H locs → W p l e R s m args below meth c H locs cells slots Q (F0 m (pc + 3) ls rest)) : W p l e R s m args below meth c H locs cells slots Q (F0 m pc ls (.int v :: .ref (gL E 32) :: rest)) := g_putM (fs := fun f => [.int (f 0), .int (f 1), .ref (gL E 33), .ref (gL E 34), .ref (gL E 35), .int (f 5), .ref (gL E 36), .int (f 7), .ref (gL E 37), .int (f 9), .ref (gL E 38), .ref (gL E 39), .ref (gL E 40), .ref (gL E 41), .ref (gL E 42), .int (f 15), .int (f 16), .ref (gL E 43), .ref (gL E 44), .ref (gL E 45)]) hE C0 hK hP hS (by decide) (fun _ => ge_X7) rfl inX7 tyX7_ok nmX7 0 (by decide) qf_X7_50 rfl (by decide +kernel) (Nat.le_of_ble_eq_true rfl) rfl hdg kk
theorem gg_X7_186 (C0 : CallFix p m c cc nL s args gTB RX7) (hK : gK E s) (hP : va_P (gD E) vwCl (wl E μ ν τ) H) (hdg : decode cc pc = .ok (.getfield 186, 3)) (kk : W p l e R s m args below meth c H locs cells slots Q (F0 m (pc + 3) ls (.int (ν 32 1) :: rest))) : W p l e R s m args below meth c H locs cells slots Q (F0 m pc ls (.ref (gL E 32) :: rest)) := g_get C0 hK hP (by decide) ge_X7 rfl inX7 1 (by decide) qf_X7_186 rfl hdg kk
theorem gp_X7_186 {v : Int32} (hE : gLok E) (C0 : CallFix p m c cc nL s args gTB RX7) (hK : gK E s) (hP : va_P (gD E) vwCl (wl E μ ν τ) H) (hS : va_S (gA E) s.heap H locs) (hdg : decode cc pc = .ok (.putfield 186, 3)) (kk : ∀ (H : Heap) (locs : List Loc), va_P (gD E) vwCl (wl E μ (up2 ν 32 1 v) τ) H → va_S (gA E) s.heap H locs → W p l e R s m args below meth c H locs cells slots Q (F0 m (pc + 3) ls rest)) : W p l e R s m args below meth c H locs cells slots Q (F0 m pc ls (.int v :: .ref (gL E 32) :: rest)) := g_putM (fs := fun f => [.int (f 0), .int (f 1), .ref (gL E 33), .ref (gL E 34), .ref (gL E 35), .int (f 5), .ref (gL E 36), .int (f 7), .ref (gL E 37), .int (f 9), .ref (gL E 38), .ref (gL E 39), .ref (gL E 40), .ref (gL E 41), .ref (gL E 42), .int (f 15), .int (f 16), .ref (gL E 43), .ref (gL E 44), .ref (gL E 45)]) hE C0 hK hP hS (by decide) (fun _ => ge_X7) rfl inX7 tyX7_ok nmX7 1 (by decide) qf_X7_186 rfl (by decide +kernel) (Nat.le_of_ble_eq_true rfl) rfl hdg kk
theorem gg_X7_9 (C0 : CallFix p m c cc nL s args gTB RX7) (hK : gK E s) (hP : va_P (gD E) vwCl (wl E μ ν τ) H) (hdg : decode cc pc = .ok (.getfield 9, 3)) (kk : W p l e R s m args below meth c H locs cells slots Q (F0 m (pc + 3) ls (.ref (gL E 33) :: rest))) : W p l e R s m args below meth c H locs cells slots Q (F0 m pc ls (.ref (gL E 32) :: rest)) := g_get C0 hK hP (by decide) ge_X7 rfl inX7 2 (by decide) qf_X7_9 rfl hdg kk
theorem gg_X7_13 (C0 : CallFix p m c cc nL s args gTB RX7) (hK : gK E s) (hP : va_P (gD E) vwCl (wl E μ ν τ) H) (hdg : decode cc pc = .ok (.getfield 13, 3)) (kk : W p l e R s m args below meth c H locs cells slots Q (F0 m (pc + 3) ls (.ref (gL E 34) :: rest))) : W p l e R s m args below meth c H locs cells slots Q (F0 m pc ls (.ref (gL E 32) :: rest)) := g_get C0 hK hP (by decide) ge_X7 rfl inX7 3 (by decide) qf_X7_13 rfl hdg kk
theorem gg_X7_16 (C0 : CallFix p m c cc nL s args gTB RX7) (hK : gK E s) (hP : va_P (gD E) vwCl (wl E μ ν τ) H) (hdg : decode cc pc = .ok (.getfield 16, 3)) (kk : W p l e R s m args below meth c H locs cells slots Q (F0 m (pc + 3) ls (.ref (gL E 35) :: rest))) : W p l e R s m args below meth c H locs cells slots Q (F0 m pc ls (.ref (gL E 32) :: rest)) := g_get C0 hK hP (by decide) ge_X7 rfl inX7 4 (by decide) qf_X7_16 rfl hdg kk
theorem gg_X7_60 (C0 : CallFix p m c cc nL s args gTB RX7) (hK : gK E s) (hP : va_P (gD E) vwCl (wl E μ ν τ) H) (hdg : decode cc pc = .ok (.getfield 60, 3)) (kk : W p l e R s m args below meth c H locs cells slots Q (F0 m (pc + 3) ls (.int (ν 32 5) :: rest))) : W p l e R s m args below meth c H locs cells slots Q (F0 m pc ls (.ref (gL E 32) :: rest)) := g_get C0 hK hP (by decide) ge_X7 rfl inX7 5 (by decide) qf_X7_60 rfl hdg kk
theorem gp_X7_60 {v : Int32} (hE : gLok E) (C0 : CallFix p m c cc nL s args gTB RX7) (hK : gK E s) (hP : va_P (gD E) vwCl (wl E μ ν τ) H) (hS : va_S (gA E) s.heap H locs) (hdg : decode cc pc = .ok (.putfield 60, 3)) (kk : ∀ (H : Heap) (locs : List Loc), va_P (gD E) vwCl (wl E μ (up2 ν 32 5 v) τ) H → va_S (gA E) s.heap H locs → W p l e R s m args below meth c H locs cells slots Q (F0 m (pc + 3) ls rest)) : W p l e R s m args below meth c H locs cells slots Q (F0 m pc ls (.int v :: .ref (gL E 32) :: rest)) := g_putM (fs := fun f => [.int (f 0), .int (f 1), .ref (gL E 33), .ref (gL E 34), .ref (gL E 35), .int (f 5), .ref (gL E 36), .int (f 7), .ref (gL E 37), .int (f 9), .ref (gL E 38), .ref (gL E 39), .ref (gL E 40), .ref (gL E 41), .ref (gL E 42), .int (f 15), .int (f 16), .ref (gL E 43), .ref (gL E 44), .ref (gL E 45)]) hE C0 hK hP hS (by decide) (fun _ => ge_X7) rfl inX7 tyX7_ok nmX7 5 (by decide) qf_X7_60 rfl (by decide +kernel) (Nat.le_of_ble_eq_true rfl) rfl hdg kk
theorem gg_X7_19 (C0 : CallFix p m c cc nL s args gTB RX7) (hK : gK E s) (hP : va_P (gD E) vwCl (wl E μ ν τ) H) (hdg : decode cc pc = .ok (.getfield 19, 3)) (kk : W p l e R s m args below meth c H locs cells slots Q (F0 m (pc + 3) ls (.ref (gL E 36) :: rest))) : W p l e R s m args below meth c H locs cells slots Q (F0 m pc ls (.ref (gL E 32) :: rest)) := g_get C0 hK hP (by decide) ge_X7 rfl inX7 6 (by decide) qf_X7_19 rfl hdg kk
theorem gg_X7_78 (C0 : CallFix p m c cc nL s args gTB RX7) (hK : gK E s) (hP : va_P (gD E) vwCl (wl E μ ν τ) H) (hdg : decode cc pc = .ok (.getfield 78, 3)) (kk : W p l e R s m args below meth c H locs cells slots Q (F0 m (pc + 3) ls (.int (ν 32 7) :: rest))) : W p l e R s m args below meth c H locs cells slots Q (F0 m pc ls (.ref (gL E 32) :: rest)) := g_get C0 hK hP (by decide) ge_X7 rfl inX7 7 (by decide) qf_X7_78 rfl hdg kk
theorem gp_X7_78 {v : Int32} (hE : gLok E) (C0 : CallFix p m c cc nL s args gTB RX7) (hK : gK E s) (hP : va_P (gD E) vwCl (wl E μ ν τ) H) (hS : va_S (gA E) s.heap H locs) (hdg : decode cc pc = .ok (.putfield 78, 3)) (kk : ∀ (H : Heap) (locs : List Loc), va_P (gD E) vwCl (wl E μ (up2 ν 32 7 v) τ) H → va_S (gA E) s.heap H locs → W p l e R s m args below meth c H locs cells slots Q (F0 m (pc + 3) ls rest)) : W p l e R s m args below meth c H locs cells slots Q (F0 m pc ls (.int v :: .ref (gL E 32) :: rest)) := g_putM (fs := fun f => [.int (f 0), .int (f 1), .ref (gL E 33), .ref (gL E 34), .ref (gL E 35), .int (f 5), .ref (gL E 36), .int (f 7), .ref (gL E 37), .int (f 9), .ref (gL E 38), .ref (gL E 39), .ref (gL E 40), .ref (gL E 41), .ref (gL E 42), .int (f 15), .int (f 16), .ref (gL E 43), .ref (gL E 44), .ref (gL E 45)]) hE C0 hK hP hS (by decide) (fun _ => ge_X7) rfl inX7 tyX7_ok nmX7 7 (by decide) qf_X7_78 rfl (by decide +kernel) (Nat.le_of_ble_eq_true rfl) rfl hdg kk
theorem gg_X7_22 (C0 : CallFix p m c cc nL s args gTB RX7) (hK : gK E s) (hP : va_P (gD E) vwCl (wl E μ ν τ) H) (hdg : decode cc pc = .ok (.getfield 22, 3)) (kk : W p l e R s m args below meth c H locs cells slots Q (F0 m (pc + 3) ls (.ref (gL E 37) :: rest))) : W p l e R s m args below meth c H locs cells slots Q (F0 m pc ls (.ref (gL E 32) :: rest)) := g_get C0 hK hP (by decide) ge_X7 rfl inX7 8 (by decide) qf_X7_22 rfl hdg kk
theorem gg_X7_81 (C0 : CallFix p m c cc nL s args gTB RX7) (hK : gK E s) (hP : va_P (gD E) vwCl (wl E μ ν τ) H) (hdg : decode cc pc = .ok (.getfield 81, 3)) (kk : W p l e R s m args below meth c H locs cells slots Q (F0 m (pc + 3) ls (.int (ν 32 9) :: rest))) : W p l e R s m args below meth c H locs cells slots Q (F0 m pc ls (.ref (gL E 32) :: rest)) := g_get C0 hK hP (by decide) ge_X7 rfl inX7 9 (by decide) qf_X7_81 rfl hdg kk
theorem gp_X7_81 {v : Int32} (hE : gLok E) (C0 : CallFix p m c cc nL s args gTB RX7) (hK : gK E s) (hP : va_P (gD E) vwCl (wl E μ ν τ) H) (hS : va_S (gA E) s.heap H locs) (hdg : decode cc pc = .ok (.putfield 81, 3)) (kk : ∀ (H : Heap) (locs : List Loc), va_P (gD E) vwCl (wl E μ (up2 ν 32 9 v) τ) H → va_S (gA E) s.heap H locs → W p l e R s m args below meth c H locs cells slots Q (F0 m (pc + 3) ls rest)) : W p l e R s m args below meth c H locs cells slots Q (F0 m pc ls (.int v :: .ref (gL E 32) :: rest)) := g_putM (fs := fun f => [.int (f 0), .int (f 1), .ref (gL E 33), .ref (gL E 34), .ref (gL E 35), .int (f 5), .ref (gL E 36), .int (f 7), .ref (gL E 37), .int (f 9), .ref (gL E 38), .ref (gL E 39), .ref (gL E 40), .ref (gL E 41), .ref (gL E 42), .int (f 15), .int (f 16), .ref (gL E 43), .ref (gL E 44), .ref (gL E 45)]) hE C0 hK hP hS (by decide) (fun _ => ge_X7) rfl inX7 tyX7_ok nmX7 9 (by decide) qf_X7_81 rfl (by decide +kernel) (Nat.le_of_ble_eq_true rfl) rfl hdg kk
theorem gg_X7_25 (C0 : CallFix p m c cc nL s args gTB RX7) (hK : gK E s) (hP : va_P (gD E) vwCl (wl E μ ν τ) H) (hdg : decode cc pc = .ok (.getfield 25, 3)) (kk : W p l e R s m args below meth c H locs cells slots Q (F0 m (pc + 3) ls (.ref (gL E 38) :: rest))) : W p l e R s m args below meth c H locs cells slots Q (F0 m pc ls (.ref (gL E 32) :: rest)) := g_get C0 hK hP (by decide) ge_X7 rfl inX7 10 (by decide) qf_X7_25 rfl hdg kk
theorem gg_X7_28 (C0 : CallFix p m c cc nL s args gTB RX7) (hK : gK E s) (hP : va_P (gD E) vwCl (wl E μ ν τ) H) (hdg : decode cc pc = .ok (.getfield 28, 3)) (kk : W p l e R s m args below meth c H locs cells slots Q (F0 m (pc + 3) ls (.ref (gL E 39) :: rest))) : W p l e R s m args below meth c H locs cells slots Q (F0 m pc ls (.ref (gL E 32) :: rest)) := g_get C0 hK hP (by decide) ge_X7 rfl inX7 11 (by decide) qf_X7_28 rfl hdg kk
theorem gg_X7_31 (C0 : CallFix p m c cc nL s args gTB RX7) (hK : gK E s) (hP : va_P (gD E) vwCl (wl E μ ν τ) H) (hdg : decode cc pc = .ok (.getfield 31, 3)) (kk : W p l e R s m args below meth c H locs cells slots Q (F0 m (pc + 3) ls (.ref (gL E 40) :: rest))) : W p l e R s m args below meth c H locs cells slots Q (F0 m pc ls (.ref (gL E 32) :: rest)) := g_get C0 hK hP (by decide) ge_X7 rfl inX7 12 (by decide) qf_X7_31 rfl hdg kk
theorem gg_X7_34 (C0 : CallFix p m c cc nL s args gTB RX7) (hK : gK E s) (hP : va_P (gD E) vwCl (wl E μ ν τ) H) (hdg : decode cc pc = .ok (.getfield 34, 3)) (kk : W p l e R s m args below meth c H locs cells slots Q (F0 m (pc + 3) ls (.ref (gL E 41) :: rest))) : W p l e R s m args below meth c H locs cells slots Q (F0 m pc ls (.ref (gL E 32) :: rest)) := g_get C0 hK hP (by decide) ge_X7 rfl inX7 13 (by decide) qf_X7_34 rfl hdg kk
theorem gg_X7_37 (C0 : CallFix p m c cc nL s args gTB RX7) (hK : gK E s) (hP : va_P (gD E) vwCl (wl E μ ν τ) H) (hdg : decode cc pc = .ok (.getfield 37, 3)) (kk : W p l e R s m args below meth c H locs cells slots Q (F0 m (pc + 3) ls (.ref (gL E 42) :: rest))) : W p l e R s m args below meth c H locs cells slots Q (F0 m pc ls (.ref (gL E 32) :: rest)) := g_get C0 hK hP (by decide) ge_X7 rfl inX7 14 (by decide) qf_X7_37 rfl hdg kk
theorem gg_X7_138 (C0 : CallFix p m c cc nL s args gTB RX7) (hK : gK E s) (hP : va_P (gD E) vwCl (wl E μ ν τ) H) (hdg : decode cc pc = .ok (.getfield 138, 3)) (kk : W p l e R s m args below meth c H locs cells slots Q (F0 m (pc + 3) ls (.int (ν 32 15) :: rest))) : W p l e R s m args below meth c H locs cells slots Q (F0 m pc ls (.ref (gL E 32) :: rest)) := g_get C0 hK hP (by decide) ge_X7 rfl inX7 15 (by decide) qf_X7_138 rfl hdg kk
theorem gp_X7_138 {v : Int32} (hE : gLok E) (C0 : CallFix p m c cc nL s args gTB RX7) (hK : gK E s) (hP : va_P (gD E) vwCl (wl E μ ν τ) H) (hS : va_S (gA E) s.heap H locs) (hdg : decode cc pc = .ok (.putfield 138, 3)) (kk : ∀ (H : Heap) (locs : List Loc), va_P (gD E) vwCl (wl E μ (up2 ν 32 15 v) τ) H → va_S (gA E) s.heap H locs → W p l e R s m args below meth c H locs cells slots Q (F0 m (pc + 3) ls rest)) : W p l e R s m args below meth c H locs cells slots Q (F0 m pc ls (.int v :: .ref (gL E 32) :: rest)) := g_putM (fs := fun f => [.int (f 0), .int (f 1), .ref (gL E 33), .ref (gL E 34), .ref (gL E 35), .int (f 5), .ref (gL E 36), .int (f 7), .ref (gL E 37), .int (f 9), .ref (gL E 38), .ref (gL E 39), .ref (gL E 40), .ref (gL E 41), .ref (gL E 42), .int (f 15), .int (f 16), .ref (gL E 43), .ref (gL E 44), .ref (gL E 45)]) hE C0 hK hP hS (by decide) (fun _ => ge_X7) rfl inX7 tyX7_ok nmX7 15 (by decide) qf_X7_138 rfl (by decide +kernel) (Nat.le_of_ble_eq_true rfl) rfl hdg kk
theorem gg_X7_135 (C0 : CallFix p m c cc nL s args gTB RX7) (hK : gK E s) (hP : va_P (gD E) vwCl (wl E μ ν τ) H) (hdg : decode cc pc = .ok (.getfield 135, 3)) (kk : W p l e R s m args below meth c H locs cells slots Q (F0 m (pc + 3) ls (.int (ν 32 16) :: rest))) : W p l e R s m args below meth c H locs cells slots Q (F0 m pc ls (.ref (gL E 32) :: rest)) := g_get C0 hK hP (by decide) ge_X7 rfl inX7 16 (by decide) qf_X7_135 rfl hdg kk
theorem gp_X7_135 {v : Int32} (hE : gLok E) (C0 : CallFix p m c cc nL s args gTB RX7) (hK : gK E s) (hP : va_P (gD E) vwCl (wl E μ ν τ) H) (hS : va_S (gA E) s.heap H locs) (hdg : decode cc pc = .ok (.putfield 135, 3)) (kk : ∀ (H : Heap) (locs : List Loc), va_P (gD E) vwCl (wl E μ (up2 ν 32 16 v) τ) H → va_S (gA E) s.heap H locs → W p l e R s m args below meth c H locs cells slots Q (F0 m (pc + 3) ls rest)) : W p l e R s m args below meth c H locs cells slots Q (F0 m pc ls (.int v :: .ref (gL E 32) :: rest)) := g_putM (fs := fun f => [.int (f 0), .int (f 1), .ref (gL E 33), .ref (gL E 34), .ref (gL E 35), .int (f 5), .ref (gL E 36), .int (f 7), .ref (gL E 37), .int (f 9), .ref (gL E 38), .ref (gL E 39), .ref (gL E 40), .ref (gL E 41), .ref (gL E 42), .int (f 15), .int (f 16), .ref (gL E 43), .ref (gL E 44), .ref (gL E 45)]) hE C0 hK hP hS (by decide) (fun _ => ge_X7) rfl inX7 tyX7_ok nmX7 16 (by decide) qf_X7_135 rfl (by decide +kernel) (Nat.le_of_ble_eq_true rfl) rfl hdg kk
theorem gg_X7_40 (C0 : CallFix p m c cc nL s args gTB RX7) (hK : gK E s) (hP : va_P (gD E) vwCl (wl E μ ν τ) H) (hdg : decode cc pc = .ok (.getfield 40, 3)) (kk : W p l e R s m args below meth c H locs cells slots Q (F0 m (pc + 3) ls (.ref (gL E 43) :: rest))) : W p l e R s m args below meth c H locs cells slots Q (F0 m pc ls (.ref (gL E 32) :: rest)) := g_get C0 hK hP (by decide) ge_X7 rfl inX7 17 (by decide) qf_X7_40 rfl hdg kk
theorem gg_X7_43 (C0 : CallFix p m c cc nL s args gTB RX7) (hK : gK E s) (hP : va_P (gD E) vwCl (wl E μ ν τ) H) (hdg : decode cc pc = .ok (.getfield 43, 3)) (kk : W p l e R s m args below meth c H locs cells slots Q (F0 m (pc + 3) ls (.ref (gL E 44) :: rest))) : W p l e R s m args below meth c H locs cells slots Q (F0 m pc ls (.ref (gL E 32) :: rest)) := g_get C0 hK hP (by decide) ge_X7 rfl inX7 18 (by decide) qf_X7_43 rfl hdg kk
theorem gg_X7_47 (C0 : CallFix p m c cc nL s args gTB RX7) (hK : gK E s) (hP : va_P (gD E) vwCl (wl E μ ν τ) H) (hdg : decode cc pc = .ok (.getfield 47, 3)) (kk : W p l e R s m args below meth c H locs cells slots Q (F0 m (pc + 3) ls (.ref (gL E 45) :: rest))) : W p l e R s m args below meth c H locs cells slots Q (F0 m pc ls (.ref (gL E 32) :: rest)) := g_get C0 hK hP (by decide) ge_X7 rfl inX7 19 (by decide) qf_X7_47 rfl hdg kk
theorem gg_X6_86 (C0 : CallFix p m c cc nL s args gTB RX6) (hK : gK E s) (hP : va_P (gD E) vwCl (wl E μ ν τ) H) {r : Nat} (hr : r < 5) (hdg : decode cc pc = .ok (.getfield 86, 3)) (kk : W p l e R s m args below meth c H locs cells slots Q (F0 m (pc + 3) ls (.int (μ r 1) :: rest))) : W p l e R s m args below meth c H locs cells slots Q (F0 m pc ls (.ref (gL E r) :: rest)) := g_getN C0 hK hP (by omega) (gen_row hr) rfl inX3 1 (by decide) qf_X6_86 rfl hdg kk
theorem gp_X6_86 {v : Int32} (hE : gLok E) (C0 : CallFix p m c cc nL s args gTB RX6) (hK : gK E s) (hP : va_P (gD E) vwCl (wl E μ ν τ) H) (hS : va_S (gA E) s.heap H locs) {r : Nat} (hr : r < 5) (hdg : decode cc pc = .ok (.putfield 86, 3)) (kk : ∀ (H : Heap) (locs : List Loc), va_P (gD E) vwCl (wl E (up2 μ r 1 v) ν τ) H → va_S (gA E) s.heap H locs → W p l e R s m args below meth c H locs cells slots Q (F0 m (pc + 3) ls rest)) : W p l e R s m args below meth c H locs cells slots Q (F0 m pc ls (.int v :: .ref (gL E r) :: rest)) := g_putXN (fs := fun f => [.ref (gL E (5 + r)), .int (f 1)]) hE C0 hK hP hS (by omega) (fun _ => (gen_row hr)) rfl inX3 tyX3_ok nmX3 1 (by decide) qf_X6_86 rfl (by decide +kernel) (Nat.le_of_ble_eq_true rfl) rfl hdg kk
theorem gg_X6_257 (C0 : CallFix p m c cc nL s args gTB RX6) (hK : gK E s) (hP : va_P (gD E) vwCl (wl E μ ν τ) H) (hdg : decode cc pc = .ok (.getfield 257, 3)) (kk : W p l e R s m args below meth c H locs cells slots Q (F0 m (pc + 3) ls (.int (μ 20 1) :: rest))) : W p l e R s m args below meth c H locs cells slots Q (F0 m pc ls (.ref (gL E 20) :: rest)) := g_getN C0 hK hP (by decide) ge_X2 rfl inX2 1 (by decide) qf_X6_257 rfl hdg kk
theorem gp_X6_257 {v : Int32} (hE : gLok E) (C0 : CallFix p m c cc nL s args gTB RX6) (hK : gK E s) (hP : va_P (gD E) vwCl (wl E μ ν τ) H) (hS : va_S (gA E) s.heap H locs) (hdg : decode cc pc = .ok (.putfield 257, 3)) (kk : ∀ (H : Heap) (locs : List Loc), va_P (gD E) vwCl (wl E (up2 μ 20 1 v) ν τ) H → va_S (gA E) s.heap H locs → W p l e R s m args below meth c H locs cells slots Q (F0 m (pc + 3) ls rest)) : W p l e R s m args below meth c H locs cells slots Q (F0 m pc ls (.int v :: .ref (gL E 20) :: rest)) := g_putXN (fs := fun f => [.ref (gL E 21), .int (f 1)]) hE C0 hK hP hS (by decide) (fun _ => ge_X2) rfl inX2 tyX2_ok nmX2 1 (by decide) qf_X6_257 rfl (by decide +kernel) (Nat.le_of_ble_eq_true rfl) rfl hdg kk
theorem gg_X6_241 (C0 : CallFix p m c cc nL s args gTB RX6) (hK : gK E s) (hP : va_P (gD E) vwCl (wl E μ ν τ) H) {r : Nat} (hr : r < 4) (hdg : decode cc pc = .ok (.getfield 241, 3)) (kk : W p l e R s m args below meth c H locs cells slots Q (F0 m (pc + 3) ls (.ref (gL E (14 + r)) :: rest))) : W p l e R s m args below meth c H locs cells slots Q (F0 m pc ls (.ref (gL E (10 + r)) :: rest)) := g_getN C0 hK hP (by omega) (gen_sheet hr) rfl inX4 0 (by decide) qf_X6_241 rfl hdg kk
theorem gg_X6_238 (C0 : CallFix p m c cc nL s args gTB RX6) (hK : gK E s) (hP : va_P (gD E) vwCl (wl E μ ν τ) H) {r : Nat} (hr : r < 4) (hdg : decode cc pc = .ok (.getfield 238, 3)) (kk : W p l e R s m args below meth c H locs cells slots Q (F0 m (pc + 3) ls (.int (μ (10 + r) 2) :: rest))) : W p l e R s m args below meth c H locs cells slots Q (F0 m pc ls (.ref (gL E (10 + r)) :: rest)) := g_getN C0 hK hP (by omega) (gen_sheet hr) rfl inX4 2 (by decide) qf_X6_238 rfl hdg kk
theorem gp_X6_238 {v : Int32} (hE : gLok E) (C0 : CallFix p m c cc nL s args gTB RX6) (hK : gK E s) (hP : va_P (gD E) vwCl (wl E μ ν τ) H) (hS : va_S (gA E) s.heap H locs) {r : Nat} (hr : r < 4) (hdg : decode cc pc = .ok (.putfield 238, 3)) (kk : ∀ (H : Heap) (locs : List Loc), va_P (gD E) vwCl (wl E (up2 μ (10 + r) 2 v) ν τ) H → va_S (gA E) s.heap H locs → W p l e R s m args below meth c H locs cells slots Q (F0 m (pc + 3) ls rest)) : W p l e R s m args below meth c H locs cells slots Q (F0 m pc ls (.int v :: .ref (gL E (10 + r)) :: rest)) := g_putXN (fs := fun f => [.ref (gL E (14 + r)), .int (f 1), .int (f 2)]) hE C0 hK hP hS (by omega) (fun _ => (gen_sheet hr)) rfl inX4 tyX4_ok nmX4 2 (by decide) qf_X6_238 rfl (by decide +kernel) (Nat.le_of_ble_eq_true rfl) rfl hdg kk
theorem ga_19 : gen E μ ν τ 19 = .inl (gI E, 10, .inl (μ 19)) := by simp [gen, gen0]
theorem ga_21 : gen E μ ν τ 21 = .inl (gI E, 10, .inl (μ 21)) := by simp [gen, gen0]
theorem ga_23 : gen E μ ν τ 23 = .inl (gI E, 512, .inl (μ 23)) := by simp [gen, gen0]
theorem ga_24 : gen E μ ν τ 24 = .inl (gI E, 512, .inl (μ 24)) := by simp [gen, gen0]
theorem ga_26 : gen E μ ν τ 26 = .inl (gI E, 8, .inl (μ 26)) := by simp [gen, gen0]
theorem ga_27 : gen E μ ν τ 27 = .inl (gI E, 8, .inl (μ 27)) := by simp [gen, gen0]
theorem ga_28 : gen E μ ν τ 28 = .inl (gI E, 2560, .inl (μ 28)) := by simp [gen, gen0]
theorem ga_33 : gen E μ ν τ 33 = .inl (gI E, 4, .inl (ν 33)) := by simp [gen, gen0]
theorem ga_34 : gen E μ ν τ 34 = .inl (gI E, 4, .inl (ν 34)) := by simp [gen, gen0]
theorem ga_35 : gen E μ ν τ 35 = .inl (gI E, 160, .inl (ν 35)) := by simp [gen, gen0]
theorem ga_36 : gen E μ ν τ 36 = .inl (gI E, 8, .inl (ν 36)) := by simp [gen, gen0]
theorem ga_37 : gen E μ ν τ 37 = .inl (gI E, 10, .inl (ν 37)) := by simp [gen, gen0]
theorem ga_38 : gen E μ ν τ 38 = .inl (gI E, 8, .inl (ν 38)) := by simp [gen, gen0]
theorem ga_39 : gen E μ ν τ 39 = .inl (gI E, 1010, .inl (ν 39)) := by simp [gen, gen0]
theorem ga_40 : gen E μ ν τ 40 = .inl (gI E, 8, .inl (ν 40)) := by simp [gen, gen0]
theorem ga_41 : gen E μ ν τ 41 = .inl (gI E, 3, .inl (ν 41)) := by simp [gen, gen0]
theorem ga_42 : gen E μ ν τ 42 = .inl (gI E, 24, .inl (ν 42)) := by simp [gen, gen0]
theorem ga_43 : gen E μ ν τ 43 = .inl (gI E, 8, .inl (ν 43)) := by simp [gen, gen0]
theorem ga_45 : gen E μ ν τ 45 = .inl (gI E, 512, .inl (ν 45)) := by simp [gen, gen0]
end GF
end
