section
/-- a private method of a class that the tables say can be made, by its rows of tables_1 -/
def lw_okq (q : MethodName × Nat) : Prop := (q.1.cls ≠ "java/lang/invoke/MethodHandle" ∧ q.1.cls ≠ "java/lang/invoke/VarHandle") ∧ Cond.instantiable q.1.cls q.2 ∈ tables_1 ∧ Cond.privateMethod q.1 ∈ tables_1 ∧ Cond.instanceMethod q.1 ∈ tables_1
theorem lw_p0 : lw_okq (⟨"ThrowRows", "takeText", "(LThrowRows$Sheet;II)V"⟩, 11) := ⟨⟨by decide +kernel, by decide +kernel⟩, List.mem_of_getElem? (i := 14) (by decide +kernel), List.mem_of_getElem? (i := 182) (by decide +kernel), List.mem_of_getElem? (i := 183) (by decide +kernel)⟩
theorem lw_p1 : lw_okq (⟨"ThrowRows", "handIn", "(I)I"⟩, 11) := ⟨⟨by decide +kernel, by decide +kernel⟩, List.mem_of_getElem? (i := 14) (by decide +kernel), List.mem_of_getElem? (i := 306) (by decide +kernel), List.mem_of_getElem? (i := 307) (by decide +kernel)⟩
theorem lw_p2 : lw_okq (⟨"ThrowRows$Row", "isTurnGreater", "(II)Z"⟩, 2) := ⟨⟨by decide +kernel, by decide +kernel⟩, List.mem_of_getElem? (i := 22) (by decide +kernel), List.mem_of_getElem? (i := 350) (by decide +kernel), List.mem_of_getElem? (i := 351) (by decide +kernel)⟩
theorem lw_p3 : lw_okq (⟨"ThrowRows$Fillings", "addThrow", "(IIII)V"⟩, 3) := ⟨⟨by decide +kernel, by decide +kernel⟩, List.mem_of_getElem? (i := 83) (by decide +kernel), List.mem_of_getElem? (i := 390) (by decide +kernel), List.mem_of_getElem? (i := 391) (by decide +kernel)⟩
theorem lw_p4 : lw_okq (⟨"ThrowRows$Ways", "reach", "(II)V"⟩, 3) := ⟨⟨by decide +kernel, by decide +kernel⟩, List.mem_of_getElem? (i := 67) (by decide +kernel), List.mem_of_getElem? (i := 403) (by decide +kernel), List.mem_of_getElem? (i := 404) (by decide +kernel)⟩
theorem lw_p5 : lw_okq (⟨"ThrowRows$Ways", "reachFrom", "(II)V"⟩, 3) := ⟨⟨by decide +kernel, by decide +kernel⟩, List.mem_of_getElem? (i := 67) (by decide +kernel), List.mem_of_getElem? (i := 408) (by decide +kernel), List.mem_of_getElem? (i := 409) (by decide +kernel)⟩
theorem lw_p6 : lw_okq (⟨"ThrowRows$Ways", "leastThrow", "(II)I"⟩, 3) := ⟨⟨by decide +kernel, by decide +kernel⟩, List.mem_of_getElem? (i := 67) (by decide +kernel), List.mem_of_getElem? (i := 421) (by decide +kernel), List.mem_of_getElem? (i := 422) (by decide +kernel)⟩
theorem lw_p7 : lw_okq (⟨"ThrowRows", "allowCells", "(LThrowRows$Sheet;II)V"⟩, 11) := ⟨⟨by decide +kernel, by decide +kernel⟩, List.mem_of_getElem? (i := 14) (by decide +kernel), List.mem_of_getElem? (i := 435) (by decide +kernel), List.mem_of_getElem? (i := 436) (by decide +kernel)⟩
theorem lw_p8 : lw_okq (⟨"ThrowRows$Fillings", "firstThrow", "(III)I"⟩, 3) := ⟨⟨by decide +kernel, by decide +kernel⟩, List.mem_of_getElem? (i := 83) (by decide +kernel), List.mem_of_getElem? (i := 443) (by decide +kernel), List.mem_of_getElem? (i := 444) (by decide +kernel)⟩
theorem lw_p9 : lw_okq (⟨"ThrowRows", "faulted", "(I)I"⟩, 11) := ⟨⟨by decide +kernel, by decide +kernel⟩, List.mem_of_getElem? (i := 14) (by decide +kernel), List.mem_of_getElem? (i := 487) (by decide +kernel), List.mem_of_getElem? (i := 488) (by decide +kernel)⟩
theorem lw_p10 : lw_okq (⟨"ThrowRows$Sheet", "cutToSort", "(I)I"⟩, 3) := ⟨⟨by decide +kernel, by decide +kernel⟩, List.mem_of_getElem? (i := 98) (by decide +kernel), List.mem_of_getElem? (i := 514) (by decide +kernel), List.mem_of_getElem? (i := 515) (by decide +kernel)⟩
theorem lw_p11 : lw_okq (⟨"ThrowRows$Kinds", "tellingOfEgg", "(I)I"⟩, 2) := ⟨⟨by decide +kernel, by decide +kernel⟩, List.mem_of_getElem? (i := 53) (by decide +kernel), List.mem_of_getElem? (i := 537) (by decide +kernel), List.mem_of_getElem? (i := 538) (by decide +kernel)⟩
theorem lw_p12 : lw_okq (⟨"ThrowRows$Kinds", "leave", "(I)V"⟩, 2) := ⟨⟨by decide +kernel, by decide +kernel⟩, List.mem_of_getElem? (i := 53) (by decide +kernel), List.mem_of_getElem? (i := 541) (by decide +kernel), List.mem_of_getElem? (i := 542) (by decide +kernel)⟩
theorem lw_p13 : lw_okq (⟨"ThrowRows$Kinds", "tellingOfHeavy", "(I)I"⟩, 2) := ⟨⟨by decide +kernel, by decide +kernel⟩, List.mem_of_getElem? (i := 53) (by decide +kernel), List.mem_of_getElem? (i := 545) (by decide +kernel), List.mem_of_getElem? (i := 546) (by decide +kernel)⟩
theorem lw_p14 : lw_okq (⟨"ThrowRows$Kinds", "tellingOfBall", "(I)I"⟩, 2) := ⟨⟨by decide +kernel, by decide +kernel⟩, List.mem_of_getElem? (i := 53) (by decide +kernel), List.mem_of_getElem? (i := 549) (by decide +kernel), List.mem_of_getElem? (i := 550) (by decide +kernel)⟩
theorem lw_p15 : lw_okq (⟨"ThrowRows", "imageCount", "()I"⟩, 11) := ⟨⟨by decide +kernel, by decide +kernel⟩, List.mem_of_getElem? (i := 14) (by decide +kernel), List.mem_of_getElem? (i := 578) (by decide +kernel), List.mem_of_getElem? (i := 579) (by decide +kernel)⟩
def lw_privs_1 : List (MethodName × Nat) := [(⟨"ThrowRows", "takeText", "(LThrowRows$Sheet;II)V"⟩, 11), (⟨"ThrowRows", "handIn", "(I)I"⟩, 11), (⟨"ThrowRows$Row", "isTurnGreater", "(II)Z"⟩, 2), (⟨"ThrowRows$Fillings", "addThrow", "(IIII)V"⟩, 3), (⟨"ThrowRows$Ways", "reach", "(II)V"⟩, 3), (⟨"ThrowRows$Ways", "reachFrom", "(II)V"⟩, 3), (⟨"ThrowRows$Ways", "leastThrow", "(II)I"⟩, 3), (⟨"ThrowRows", "allowCells", "(LThrowRows$Sheet;II)V"⟩, 11), (⟨"ThrowRows$Fillings", "firstThrow", "(III)I"⟩, 3), (⟨"ThrowRows", "faulted", "(I)I"⟩, 11), (⟨"ThrowRows$Sheet", "cutToSort", "(I)I"⟩, 3), (⟨"ThrowRows$Kinds", "tellingOfEgg", "(I)I"⟩, 2), (⟨"ThrowRows$Kinds", "leave", "(I)V"⟩, 2), (⟨"ThrowRows$Kinds", "tellingOfHeavy", "(I)I"⟩, 2), (⟨"ThrowRows$Kinds", "tellingOfBall", "(I)I"⟩, 2), (⟨"ThrowRows", "imageCount", "()I"⟩, 11)]
theorem lw_r1 : ∀ q ∈ lw_privs_1, lw_okq q := List.forall_mem_cons.mpr ⟨lw_p0, List.forall_mem_cons.mpr ⟨lw_p1, List.forall_mem_cons.mpr ⟨lw_p2, List.forall_mem_cons.mpr ⟨lw_p3, List.forall_mem_cons.mpr ⟨lw_p4, List.forall_mem_cons.mpr ⟨lw_p5, List.forall_mem_cons.mpr ⟨lw_p6, List.forall_mem_cons.mpr ⟨lw_p7, List.forall_mem_cons.mpr ⟨lw_p8, List.forall_mem_cons.mpr ⟨lw_p9, List.forall_mem_cons.mpr ⟨lw_p10, List.forall_mem_cons.mpr ⟨lw_p11, List.forall_mem_cons.mpr ⟨lw_p12, List.forall_mem_cons.mpr ⟨lw_p13, List.forall_mem_cons.mpr ⟨lw_p14, List.forall_mem_cons.mpr ⟨lw_p15, fun _ h => absurd h List.not_mem_nil⟩⟩⟩⟩⟩⟩⟩⟩⟩⟩⟩⟩⟩⟩⟩⟩
theorem lw_p16 : lw_okq (⟨"ThrowRowsModel", "against", "(IIII)I"⟩, 20) := ⟨⟨by decide +kernel, by decide +kernel⟩, List.mem_of_getElem? (i := 582) (by decide +kernel), List.mem_of_getElem? (i := 663) (by decide +kernel), List.mem_of_getElem? (i := 664) (by decide +kernel)⟩
theorem lw_p17 : lw_okq (⟨"ThrowRowsModel", "fails", "(I)I"⟩, 20) := ⟨⟨by decide +kernel, by decide +kernel⟩, List.mem_of_getElem? (i := 582) (by decide +kernel), List.mem_of_getElem? (i := 667) (by decide +kernel), List.mem_of_getElem? (i := 668) (by decide +kernel)⟩
theorem lw_p18 : lw_okq (⟨"ThrowRowsModel", "isBeat", "(I)Z"⟩, 20) := ⟨⟨by decide +kernel, by decide +kernel⟩, List.mem_of_getElem? (i := 582) (by decide +kernel), List.mem_of_getElem? (i := 675) (by decide +kernel), List.mem_of_getElem? (i := 676) (by decide +kernel)⟩
theorem lw_p19 : lw_okq (⟨"ThrowRowsModel", "findClash", "()I"⟩, 20) := ⟨⟨by decide +kernel, by decide +kernel⟩, List.mem_of_getElem? (i := 582) (by decide +kernel), List.mem_of_getElem? (i := 683) (by decide +kernel), List.mem_of_getElem? (i := 684) (by decide +kernel)⟩
theorem lw_p20 : lw_okq (⟨"ThrowRowsModel", "landsIn", "(I)I"⟩, 20) := ⟨⟨by decide +kernel, by decide +kernel⟩, List.mem_of_getElem? (i := 582) (by decide +kernel), List.mem_of_getElem? (i := 687) (by decide +kernel), List.mem_of_getElem? (i := 688) (by decide +kernel)⟩
theorem lw_p21 : lw_okq (⟨"ThrowRowsModel", "isGood", "()Z"⟩, 20) := ⟨⟨by decide +kernel, by decide +kernel⟩, List.mem_of_getElem? (i := 582) (by decide +kernel), List.mem_of_getElem? (i := 695) (by decide +kernel), List.mem_of_getElem? (i := 696) (by decide +kernel)⟩
theorem lw_p22 : lw_okq (⟨"ThrowRowsModel", "balls", "()I"⟩, 20) := ⟨⟨by decide +kernel, by decide +kernel⟩, List.mem_of_getElem? (i := 582) (by decide +kernel), List.mem_of_getElem? (i := 699) (by decide +kernel), List.mem_of_getElem? (i := 700) (by decide +kernel)⟩
theorem lw_p23 : lw_okq (⟨"ThrowRowsModel", "greatestThrow", "()I"⟩, 20) := ⟨⟨by decide +kernel, by decide +kernel⟩, List.mem_of_getElem? (i := 582) (by decide +kernel), List.mem_of_getElem? (i := 703) (by decide +kernel), List.mem_of_getElem? (i := 704) (by decide +kernel)⟩
theorem lw_p24 : lw_okq (⟨"ThrowRowsModel", "isPrime", "()Z"⟩, 20) := ⟨⟨by decide +kernel, by decide +kernel⟩, List.mem_of_getElem? (i := 582) (by decide +kernel), List.mem_of_getElem? (i := 707) (by decide +kernel), List.mem_of_getElem? (i := 708) (by decide +kernel)⟩
theorem lw_p25 : lw_okq (⟨"ThrowRowsModel", "stateAhead", "(I)I"⟩, 20) := ⟨⟨by decide +kernel, by decide +kernel⟩, List.mem_of_getElem? (i := 582) (by decide +kernel), List.mem_of_getElem? (i := 711) (by decide +kernel), List.mem_of_getElem? (i := 712) (by decide +kernel)⟩
theorem lw_p26 : lw_okq (⟨"ThrowRowsModel", "isGround", "()Z"⟩, 20) := ⟨⟨by decide +kernel, by decide +kernel⟩, List.mem_of_getElem? (i := 582) (by decide +kernel), List.mem_of_getElem? (i := 715) (by decide +kernel), List.mem_of_getElem? (i := 716) (by decide +kernel)⟩
theorem lw_p27 : lw_okq (⟨"ThrowRowsModel", "findOrbits", "()I"⟩, 20) := ⟨⟨by decide +kernel, by decide +kernel⟩, List.mem_of_getElem? (i := 582) (by decide +kernel), List.mem_of_getElem? (i := 719) (by decide +kernel), List.mem_of_getElem? (i := 720) (by decide +kernel)⟩
theorem lw_p28 : lw_okq (⟨"ThrowRowsModel", "layBalls", "()V"⟩, 20) := ⟨⟨by decide +kernel, by decide +kernel⟩, List.mem_of_getElem? (i := 582) (by decide +kernel), List.mem_of_getElem? (i := 731) (by decide +kernel), List.mem_of_getElem? (i := 732) (by decide +kernel)⟩
theorem lw_p29 : lw_okq (⟨"ThrowRowsModel", "takeNext", "()V"⟩, 20) := ⟨⟨by decide +kernel, by decide +kernel⟩, List.mem_of_getElem? (i := 582) (by decide +kernel), List.mem_of_getElem? (i := 758) (by decide +kernel), List.mem_of_getElem? (i := 759) (by decide +kernel)⟩
theorem lw_p30 : lw_okq (⟨"ThrowRowsModel", "isGreater", "(II)Z"⟩, 20) := ⟨⟨by decide +kernel, by decide +kernel⟩, List.mem_of_getElem? (i := 582) (by decide +kernel), List.mem_of_getElem? (i := 770) (by decide +kernel), List.mem_of_getElem? (i := 771) (by decide +kernel)⟩
theorem lw_p31 : lw_okq (⟨"ThrowRowsModel", "isTurned", "(II)Z"⟩, 20) := ⟨⟨by decide +kernel, by decide +kernel⟩, List.mem_of_getElem? (i := 582) (by decide +kernel), List.mem_of_getElem? (i := 789) (by decide +kernel), List.mem_of_getElem? (i := 790) (by decide +kernel)⟩
def lw_privs_2 : List (MethodName × Nat) := [(⟨"ThrowRowsModel", "against", "(IIII)I"⟩, 20), (⟨"ThrowRowsModel", "fails", "(I)I"⟩, 20), (⟨"ThrowRowsModel", "isBeat", "(I)Z"⟩, 20), (⟨"ThrowRowsModel", "findClash", "()I"⟩, 20), (⟨"ThrowRowsModel", "landsIn", "(I)I"⟩, 20), (⟨"ThrowRowsModel", "isGood", "()Z"⟩, 20), (⟨"ThrowRowsModel", "balls", "()I"⟩, 20), (⟨"ThrowRowsModel", "greatestThrow", "()I"⟩, 20), (⟨"ThrowRowsModel", "isPrime", "()Z"⟩, 20), (⟨"ThrowRowsModel", "stateAhead", "(I)I"⟩, 20), (⟨"ThrowRowsModel", "isGround", "()Z"⟩, 20), (⟨"ThrowRowsModel", "findOrbits", "()I"⟩, 20), (⟨"ThrowRowsModel", "layBalls", "()V"⟩, 20), (⟨"ThrowRowsModel", "takeNext", "()V"⟩, 20), (⟨"ThrowRowsModel", "isGreater", "(II)Z"⟩, 20), (⟨"ThrowRowsModel", "isTurned", "(II)Z"⟩, 20)]
theorem lw_r2 : ∀ q ∈ lw_privs_2, lw_okq q := List.forall_mem_cons.mpr ⟨lw_p16, List.forall_mem_cons.mpr ⟨lw_p17, List.forall_mem_cons.mpr ⟨lw_p18, List.forall_mem_cons.mpr ⟨lw_p19, List.forall_mem_cons.mpr ⟨lw_p20, List.forall_mem_cons.mpr ⟨lw_p21, List.forall_mem_cons.mpr ⟨lw_p22, List.forall_mem_cons.mpr ⟨lw_p23, List.forall_mem_cons.mpr ⟨lw_p24, List.forall_mem_cons.mpr ⟨lw_p25, List.forall_mem_cons.mpr ⟨lw_p26, List.forall_mem_cons.mpr ⟨lw_p27, List.forall_mem_cons.mpr ⟨lw_p28, List.forall_mem_cons.mpr ⟨lw_p29, List.forall_mem_cons.mpr ⟨lw_p30, List.forall_mem_cons.mpr ⟨lw_p31, fun _ h => absurd h List.not_mem_nil⟩⟩⟩⟩⟩⟩⟩⟩⟩⟩⟩⟩⟩⟩⟩⟩
theorem lw_p32 : lw_okq (⟨"ThrowRowsModel", "layFills", "()V"⟩, 20) := ⟨⟨by decide +kernel, by decide +kernel⟩, List.mem_of_getElem? (i := 582) (by decide +kernel), List.mem_of_getElem? (i := 798) (by decide +kernel), List.mem_of_getElem? (i := 799) (by decide +kernel)⟩
theorem lw_p33 : lw_okq (⟨"ThrowRowsModel", "mayThrow", "(II)Z"⟩, 20) := ⟨⟨by decide +kernel, by decide +kernel⟩, List.mem_of_getElem? (i := 582) (by decide +kernel), List.mem_of_getElem? (i := 805) (by decide +kernel), List.mem_of_getElem? (i := 806) (by decide +kernel)⟩
theorem lw_p34 : lw_okq (⟨"ThrowRowsModel", "addFills", "(III)V"⟩, 20) := ⟨⟨by decide +kernel, by decide +kernel⟩, List.mem_of_getElem? (i := 582) (by decide +kernel), List.mem_of_getElem? (i := 809) (by decide +kernel), List.mem_of_getElem? (i := 810) (by decide +kernel)⟩
theorem lw_p35 : lw_okq (⟨"ThrowRowsModel", "findFar", "(II)V"⟩, 20) := ⟨⟨by decide +kernel, by decide +kernel⟩, List.mem_of_getElem? (i := 582) (by decide +kernel), List.mem_of_getElem? (i := 817) (by decide +kernel), List.mem_of_getElem? (i := 818) (by decide +kernel)⟩
theorem lw_p36 : lw_okq (⟨"ThrowRowsModel", "lost", "(I)J"⟩, 20) := ⟨⟨by decide +kernel, by decide +kernel⟩, List.mem_of_getElem? (i := 582) (by decide +kernel), List.mem_of_getElem? (i := 834) (by decide +kernel), List.mem_of_getElem? (i := 835) (by decide +kernel)⟩
theorem lw_p37 : lw_okq (⟨"ThrowRowsModel", "firstFill", "(II)J"⟩, 20) := ⟨⟨by decide +kernel, by decide +kernel⟩, List.mem_of_getElem? (i := 582) (by decide +kernel), List.mem_of_getElem? (i := 838) (by decide +kernel), List.mem_of_getElem? (i := 839) (by decide +kernel)⟩
theorem lw_p38 : lw_okq (⟨"ThrowRowsModel", "leadsOn", "(IIII)Z"⟩, 20) := ⟨⟨by decide +kernel, by decide +kernel⟩, List.mem_of_getElem? (i := 582) (by decide +kernel), List.mem_of_getElem? (i := 842) (by decide +kernel), List.mem_of_getElem? (i := 843) (by decide +kernel)⟩
theorem lw_p39 : lw_okq (⟨"ThrowRowsModel", "mayGoTo", "(I)I"⟩, 20) := ⟨⟨by decide +kernel, by decide +kernel⟩, List.mem_of_getElem? (i := 582) (by decide +kernel), List.mem_of_getElem? (i := 857) (by decide +kernel), List.mem_of_getElem? (i := 858) (by decide +kernel)⟩
theorem lw_p40 : lw_okq (⟨"ThrowRowsModel", "begins", "(I)V"⟩, 20) := ⟨⟨by decide +kernel, by decide +kernel⟩, List.mem_of_getElem? (i := 582) (by decide +kernel), List.mem_of_getElem? (i := 893) (by decide +kernel), List.mem_of_getElem? (i := 894) (by decide +kernel)⟩
def lw_privs_3 : List (MethodName × Nat) := [(⟨"ThrowRowsModel", "layFills", "()V"⟩, 20), (⟨"ThrowRowsModel", "mayThrow", "(II)Z"⟩, 20), (⟨"ThrowRowsModel", "addFills", "(III)V"⟩, 20), (⟨"ThrowRowsModel", "findFar", "(II)V"⟩, 20), (⟨"ThrowRowsModel", "lost", "(I)J"⟩, 20), (⟨"ThrowRowsModel", "firstFill", "(II)J"⟩, 20), (⟨"ThrowRowsModel", "leadsOn", "(IIII)Z"⟩, 20), (⟨"ThrowRowsModel", "mayGoTo", "(I)I"⟩, 20), (⟨"ThrowRowsModel", "begins", "(I)V"⟩, 20)]
theorem lw_r3 : ∀ q ∈ lw_privs_3, lw_okq q := List.forall_mem_cons.mpr ⟨lw_p32, List.forall_mem_cons.mpr ⟨lw_p33, List.forall_mem_cons.mpr ⟨lw_p34, List.forall_mem_cons.mpr ⟨lw_p35, List.forall_mem_cons.mpr ⟨lw_p36, List.forall_mem_cons.mpr ⟨lw_p37, List.forall_mem_cons.mpr ⟨lw_p38, List.forall_mem_cons.mpr ⟨lw_p39, List.forall_mem_cons.mpr ⟨lw_p40, fun _ h => absurd h List.not_mem_nil⟩⟩⟩⟩⟩⟩⟩⟩⟩
def lw_privs : List (MethodName × Nat) := lw_privs_1 ++ (lw_privs_2 ++ (lw_privs_3))
def lw_tbl : List Cond := k2_sels lw_privs ++ tables_1
theorem lw_privs_ok : ∀ q ∈ lw_privs, lw_okq q := by
  show ∀ q ∈ lw_privs_1 ++ (lw_privs_2 ++ (lw_privs_3)), lw_okq q
  exact List.forall_mem_append.mpr ⟨lw_r1, List.forall_mem_append.mpr ⟨lw_r2, lw_r3⟩⟩

def RX0 : String := "ThrowRows$Fillings"
def TX0 : u_T := fun k => match k with
  | 0 => ("ThrowRows$Fillings", "least", "[I", true)
  | 1 => ("ThrowRows$Fillings", "most", "[I", true)
  | _ => ("ThrowRows$Fillings", "counts", "[I", true)
def tyX0 : Nat → FieldType := fun k => match k with
  | 0 => .array .int
  | 1 => .array .int
  | _ => .array .int
abbrev wsX00 : List Cond := u_ws RX0 TX0 3
theorem nmX0 : ∀ a, a < 3 → ∀ b, b < 3 → a ≠ b → (TX0 a).2.1 ≠ (TX0 b).2.1 := by decide +kernel
theorem tyX0_ok : ∀ k, k < 3 → parseFieldDescriptor (TX0 k).2.2.1 = some (tyX0 k) := by decide +kernel
abbrev cX0_init : ByteArray := prog_2_method_1_code
def yX0_init : MethodName := ⟨RX0, "<init>", "()V"⟩
abbrev cX0_allow : ByteArray := prog_2_method_2_code
def yX0_allow : MethodName := ⟨RX0, "allow", "(III)V"⟩
abbrev cX0_count : ByteArray := prog_2_method_3_code
def yX0_count : MethodName := ⟨RX0, "count", "(II)I"⟩
abbrev cX0_addThrow : ByteArray := prog_2_method_4_code
def yX0_addThrow : MethodName := ⟨RX0, "addThrow", "(IIII)V"⟩
abbrev cX0_throwOfFirst : ByteArray := prog_2_method_5_code
def yX0_throwOfFirst : MethodName := ⟨RX0, "throwOfFirst", "(III)I"⟩
abbrev cX0_firstThrow : ByteArray := prog_2_method_6_code
def yX0_firstThrow : MethodName := ⟨RX0, "firstThrow", "(III)I"⟩
def RX1 : String := "ThrowRows$Flight"
def TX1 : u_T := fun k => match k with
  | 0 => ("ThrowRows$Flight", "landing", "[I", true)
  | _ => ("ThrowRows$Flight", "seen", "I", false)
def tyX1 : Nat → FieldType := fun k => match k with
  | 0 => .array .int
  | _ => .int
abbrev wsX10 : List Cond := u_ws RX1 TX1 2
theorem nmX1 : ∀ a, a < 2 → ∀ b, b < 2 → a ≠ b → (TX1 a).2.1 ≠ (TX1 b).2.1 := by decide +kernel
theorem tyX1_ok : ∀ k, k < 2 → parseFieldDescriptor (TX1 k).2.2.1 = some (tyX1 k) := by decide +kernel
abbrev cX1_init : ByteArray := prog_3_method_1_code
def yX1_init : MethodName := ⟨RX1, "<init>", "()V"⟩
abbrev cX1_begin : ByteArray := prog_3_method_2_code
def yX1_begin : MethodName := ⟨RX1, "begin", "()V"⟩
abbrev cX1_pass : ByteArray := prog_3_method_3_code
def yX1_pass : MethodName := ⟨RX1, "pass", "(II)I"⟩
def RX2 : String := "ThrowRows$Kinds"
def TX2 : u_T := fun k => match k with
  | 0 => ("ThrowRows$Kinds", "kinds", "[I", true)
  | _ => ("ThrowRows$Kinds", "traced", "I", false)
def tyX2 : Nat → FieldType := fun k => match k with
  | 0 => .array .int
  | _ => .int
abbrev wsX20 : List Cond := u_ws RX2 TX2 2
theorem nmX2 : ∀ a, a < 2 → ∀ b, b < 2 → a ≠ b → (TX2 a).2.1 ≠ (TX2 b).2.1 := by decide +kernel
theorem tyX2_ok : ∀ k, k < 2 → parseFieldDescriptor (TX2 k).2.2.1 = some (tyX2 k) := by decide +kernel
abbrev cX2_init : ByteArray := prog_4_method_1_code
def yX2_init : MethodName := ⟨RX2, "<init>", "()V"⟩
abbrev cX2_reset : ByteArray := prog_4_method_2_code
def yX2_reset : MethodName := ⟨RX2, "reset", "()V"⟩
abbrev cX2_kindOf : ByteArray := prog_4_method_3_code
def yX2_kindOf : MethodName := ⟨RX2, "kindOf", "(I)I"⟩
abbrev cX2_setKind : ByteArray := prog_4_method_4_code
def yX2_setKind : MethodName := ⟨RX2, "setKind", "(II)V"⟩
abbrev cX2_mayGo : ByteArray := prog_4_method_5_code
def yX2_mayGo : MethodName := ⟨RX2, "mayGo", "(I)I"⟩
abbrev cX2_telling : ByteArray := prog_4_method_6_code
def yX2_telling : MethodName := ⟨RX2, "telling", "(I)I"⟩
abbrev cX2_calling : ByteArray := prog_4_method_7_code
def yX2_calling : MethodName := ⟨RX2, "calling", "(I)I"⟩
abbrev cX2_tellingOfBall : ByteArray := prog_4_method_8_code
def yX2_tellingOfBall : MethodName := ⟨RX2, "tellingOfBall", "(I)I"⟩
abbrev cX2_tellingOfHeavy : ByteArray := prog_4_method_9_code
def yX2_tellingOfHeavy : MethodName := ⟨RX2, "tellingOfHeavy", "(I)I"⟩
abbrev cX2_tellingOfEgg : ByteArray := prog_4_method_10_code
def yX2_tellingOfEgg : MethodName := ⟨RX2, "tellingOfEgg", "(I)I"⟩
abbrev cX2_leave : ByteArray := prog_4_method_11_code
def yX2_leave : MethodName := ⟨RX2, "leave", "(I)V"⟩
def RX3 : String := "ThrowRows$Row"
def TX3 : u_T := fun k => match k with
  | 0 => ("ThrowRows$Row", "heights", "[I", true)
  | _ => ("ThrowRows$Row", "period", "I", false)
def tyX3 : Nat → FieldType := fun k => match k with
  | 0 => .array .int
  | _ => .int
abbrev wsX30 : List Cond := u_ws RX3 TX3 2
theorem nmX3 : ∀ a, a < 2 → ∀ b, b < 2 → a ≠ b → (TX3 a).2.1 ≠ (TX3 b).2.1 := by decide +kernel
theorem tyX3_ok : ∀ k, k < 2 → parseFieldDescriptor (TX3 k).2.2.1 = some (tyX3 k) := by decide +kernel
abbrev cX3_init : ByteArray := prog_5_method_1_code
def yX3_init : MethodName := ⟨RX3, "<init>", "()V"⟩
abbrev cX3_isThere : ByteArray := prog_5_method_2_code
def yX3_isThere : MethodName := ⟨RX3, "isThere", "()Z"⟩
abbrev cX3_hasBeat : ByteArray := prog_5_method_3_code
def yX3_hasBeat : MethodName := ⟨RX3, "hasBeat", "(I)Z"⟩
abbrev cX3_heightIn : ByteArray := prog_5_method_4_code
def yX3_heightIn : MethodName := ⟨RX3, "heightIn", "(I)I"⟩
abbrev cX3_setHeight : ByteArray := prog_5_method_5_code
def yX3_setHeight : MethodName := ⟨RX3, "setHeight", "(II)V"⟩
abbrev cX3_landingOf : ByteArray := prog_5_method_6_code
def yX3_landingOf : MethodName := ⟨RX3, "landingOf", "(I)I"⟩
abbrev cX3_firstClash : ByteArray := prog_5_method_7_code
def yX3_firstClash : MethodName := ⟨RX3, "firstClash", "()I"⟩
abbrev cX3_isGood : ByteArray := prog_5_method_8_code
def yX3_isGood : MethodName := ⟨RX3, "isGood", "()Z"⟩
abbrev cX3_ballCount : ByteArray := prog_5_method_9_code
def yX3_ballCount : MethodName := ⟨RX3, "ballCount", "()I"⟩
abbrev cX3_greatestHeight : ByteArray := prog_5_method_10_code
def yX3_greatestHeight : MethodName := ⟨RX3, "greatestHeight", "()I"⟩
abbrev cX3_stateAhead : ByteArray := prog_5_method_11_code
def yX3_stateAhead : MethodName := ⟨RX3, "stateAhead", "(I)I"⟩
abbrev cX3_isPrime : ByteArray := prog_5_method_12_code
def yX3_isPrime : MethodName := ⟨RX3, "isPrime", "()Z"⟩
abbrev cX3_isGround : ByteArray := prog_5_method_13_code
def yX3_isGround : MethodName := ⟨RX3, "isGround", "()Z"⟩
abbrev cX3_leastInOrbit : ByteArray := prog_5_method_14_code
def yX3_leastInOrbit : MethodName := ⟨RX3, "leastInOrbit", "(I)I"⟩
abbrev cX3_orbitsBelow : ByteArray := prog_5_method_15_code
def yX3_orbitsBelow : MethodName := ⟨RX3, "orbitsBelow", "(I)I"⟩
abbrev cX3_take : ByteArray := prog_5_method_16_code
def yX3_take : MethodName := ⟨RX3, "take", "(LThrowRows$Row;)V"⟩
abbrev cX3_takeTurned : ByteArray := prog_5_method_17_code
def yX3_takeTurned : MethodName := ⟨RX3, "takeTurned", "(LThrowRows$Row;I)V"⟩
abbrev cX3_takeBackward : ByteArray := prog_5_method_18_code
def yX3_takeBackward : MethodName := ⟨RX3, "takeBackward", "(LThrowRows$Row;)V"⟩
abbrev cX3_greatestTurn : ByteArray := prog_5_method_19_code
def yX3_greatestTurn : MethodName := ⟨RX3, "greatestTurn", "()I"⟩
abbrev cX3_isTurnGreater : ByteArray := prog_5_method_20_code
def yX3_isTurnGreater : MethodName := ⟨RX3, "isTurnGreater", "(II)Z"⟩
abbrev cX3_isTurned : ByteArray := prog_5_method_21_code
def yX3_isTurned : MethodName := ⟨RX3, "isTurned", "(LThrowRows$Row;)Z"⟩
def RX4 : String := "ThrowRows$Sheet"
def TX4 : u_T := fun k => match k with
  | 0 => ("ThrowRows$Sheet", "cells", "[I", true)
  | 1 => ("ThrowRows$Sheet", "length", "I", false)
  | _ => ("ThrowRows$Sheet", "sort", "I", false)
def tyX4 : Nat → FieldType := fun k => match k with
  | 0 => .array .int
  | 1 => .int
  | _ => .int
abbrev wsX40 : List Cond := u_ws RX4 TX4 3
theorem nmX4 : ∀ a, a < 3 → ∀ b, b < 3 → a ≠ b → (TX4 a).2.1 ≠ (TX4 b).2.1 := by decide +kernel
theorem tyX4_ok : ∀ k, k < 3 → parseFieldDescriptor (TX4 k).2.2.1 = some (tyX4 k) := by decide +kernel
abbrev cX4_init : ByteArray := prog_6_method_1_code
def yX4_init : MethodName := ⟨RX4, "<init>", "()V"⟩
abbrev cX4_isThere : ByteArray := prog_6_method_2_code
def yX4_isThere : MethodName := ⟨RX4, "isThere", "()Z"⟩
abbrev cX4_renew : ByteArray := prog_6_method_3_code
def yX4_renew : MethodName := ⟨RX4, "renew", "(II)V"⟩
abbrev cX4_clear : ByteArray := prog_6_method_4_code
def yX4_clear : MethodName := ⟨RX4, "clear", "()Z"⟩
abbrev cX4_holds : ByteArray := prog_6_method_5_code
def yX4_holds : MethodName := ⟨RX4, "holds", "(II)Z"⟩
abbrev cX4_faultOfCells : ByteArray := prog_6_method_6_code
def yX4_faultOfCells : MethodName := ⟨RX4, "faultOfCells", "(III)I"⟩
abbrev cX4_read : ByteArray := prog_6_method_7_code
def yX4_read : MethodName := ⟨RX4, "read", "(I)I"⟩
abbrev cX4_write : ByteArray := prog_6_method_8_code
def yX4_write : MethodName := ⟨RX4, "write", "(II)V"⟩
abbrev cX4_cutToSort : ByteArray := prog_6_method_9_code
def yX4_cutToSort : MethodName := ⟨RX4, "cutToSort", "(I)I"⟩
def RX5 : String := "ThrowRows$Ways"
def TX5 : u_T := fun k => match k with
  | 0 => ("ThrowRows$Ways", "beats", "[I", true)
  | 1 => ("ThrowRows$Ways", "reached", "[I", true)
  | _ => ("ThrowRows$Ways", "reachedCount", "I", false)
def tyX5 : Nat → FieldType := fun k => match k with
  | 0 => .array .int
  | 1 => .array .int
  | _ => .int
abbrev wsX50 : List Cond := u_ws RX5 TX5 3
theorem nmX5 : ∀ a, a < 3 → ∀ b, b < 3 → a ≠ b → (TX5 a).2.1 ≠ (TX5 b).2.1 := by decide +kernel
theorem tyX5_ok : ∀ k, k < 3 → parseFieldDescriptor (TX5 k).2.2.1 = some (tyX5 k) := by decide +kernel
abbrev cX5_init : ByteArray := prog_7_method_1_code
def yX5_init : MethodName := ⟨RX5, "<init>", "()V"⟩
abbrev cX5_measure : ByteArray := prog_7_method_2_code
def yX5_measure : MethodName := ⟨RX5, "measure", "(II)V"⟩
abbrev cX5_reachFrom : ByteArray := prog_7_method_3_code
def yX5_reachFrom : MethodName := ⟨RX5, "reachFrom", "(II)V"⟩
abbrev cX5_reach : ByteArray := prog_7_method_4_code
def yX5_reach : MethodName := ⟨RX5, "reach", "(II)V"⟩
abbrev cX5_beatsFrom : ByteArray := prog_7_method_5_code
def yX5_beatsFrom : MethodName := ⟨RX5, "beatsFrom", "(I)I"⟩
abbrev cX5_throwOnWay : ByteArray := prog_7_method_6_code
def yX5_throwOnWay : MethodName := ⟨RX5, "throwOnWay", "(III)I"⟩
abbrev cX5_leastThrow : ByteArray := prog_7_method_7_code
def yX5_leastThrow : MethodName := ⟨RX5, "leastThrow", "(II)I"⟩
abbrev cX5_stateBehind : ByteArray := prog_7_method_8_code
def yX5_stateBehind : MethodName := ⟨RX5, "stateBehind", "(II)I"⟩
def RX6 : String := "ThrowRows"
def TX6 : u_T := fun k => match k with
  | 0 => ("ThrowRows", "row", "LThrowRows$Row;", true)
  | 1 => ("ThrowRows", "spare", "LThrowRows$Row;", true)
  | 2 => ("ThrowRows", "images", "[LThrowRows$Row;", true)
  | 3 => ("ThrowRows", "sheets", "[LThrowRows$Sheet;", true)
  | 4 => ("ThrowRows", "flight", "LThrowRows$Flight;", true)
  | 5 => ("ThrowRows", "kinds", "LThrowRows$Kinds;", true)
  | 6 => ("ThrowRows", "ways", "LThrowRows$Ways;", true)
  | 7 => ("ThrowRows", "fillings", "LThrowRows$Fillings;", true)
  | 8 => ("ThrowRows", "handCount", "I", false)
  | 9 => ("ThrowRows", "dropped", "I", false)
  | _ => ("ThrowRows", "latestFault", "I", false)
def tyX6 : Nat → FieldType := fun k => match k with
  | 0 => .object "ThrowRows$Row"
  | 1 => .object "ThrowRows$Row"
  | 2 => .array (.object "ThrowRows$Row")
  | 3 => .array (.object "ThrowRows$Sheet")
  | 4 => .object "ThrowRows$Flight"
  | 5 => .object "ThrowRows$Kinds"
  | 6 => .object "ThrowRows$Ways"
  | 7 => .object "ThrowRows$Fillings"
  | 8 => .int
  | 9 => .int
  | _ => .int
abbrev wsX60 : List Cond := u_ws RX6 TX6 11
theorem nmX6 : ∀ a, a < 11 → ∀ b, b < 11 → a ≠ b → (TX6 a).2.1 ≠ (TX6 b).2.1 := by decide +kernel
theorem tyX6_ok : ∀ k, k < 11 → parseFieldDescriptor (TX6 k).2.2.1 = some (tyX6 k) := by decide +kernel
abbrev cX6_init : ByteArray := prog_1_method_1_code
def yX6_init : MethodName := ⟨RX6, "<init>", "()V"⟩
abbrev cX6_pattern : ByteArray := prog_1_method_2_code
def yX6_pattern : MethodName := ⟨RX6, "pattern", "(IIII)I"⟩
abbrev cX6_throwOf : ByteArray := prog_1_method_3_code
def yX6_throwOf : MethodName := ⟨RX6, "throwOf", "(I)I"⟩
abbrev cX6_clash : ByteArray := prog_1_method_4_code
def yX6_clash : MethodName := ⟨RX6, "clash", "()I"⟩
abbrev cX6_good : ByteArray := prog_1_method_5_code
def yX6_good : MethodName := ⟨RX6, "good", "(I)I"⟩
abbrev cX6_state : ByteArray := prog_1_method_6_code
def yX6_state : MethodName := ⟨RX6, "state", "(I)I"⟩
abbrev cX6_ball : ByteArray := prog_1_method_7_code
def yX6_ball : MethodName := ⟨RX6, "ball", "(I)I"⟩
abbrev cX6_orbit : ByteArray := prog_1_method_8_code
def yX6_orbit : MethodName := ⟨RX6, "orbit", "(I)I"⟩
abbrev cX6_hands : ByteArray := prog_1_method_9_code
def yX6_hands : MethodName := ⟨RX6, "hands", "(I)I"⟩
abbrev cX6_beat : ByteArray := prog_1_method_10_code
def yX6_beat : MethodName := ⟨RX6, "beat", "(II)I"⟩
abbrev cX6_swap : ByteArray := prog_1_method_11_code
def yX6_swap : MethodName := ⟨RX6, "swap", "(II)I"⟩
abbrev cX6_turn : ByteArray := prog_1_method_12_code
def yX6_turn : MethodName := ⟨RX6, "turn", "(I)I"⟩
abbrev cX6_backward : ByteArray := prog_1_method_13_code
def yX6_backward : MethodName := ⟨RX6, "backward", "()I"⟩
abbrev cX6_greatest : ByteArray := prog_1_method_14_code
def yX6_greatest : MethodName := ⟨RX6, "greatest", "(I)I"⟩
abbrev cX6_keep : ByteArray := prog_1_method_15_code
def yX6_keep : MethodName := ⟨RX6, "keep", "(I)I"⟩
abbrev cX6_back : ByteArray := prog_1_method_16_code
def yX6_back : MethodName := ⟨RX6, "back", "(I)I"⟩
abbrev cX6_like : ByteArray := prog_1_method_17_code
def yX6_like : MethodName := ⟨RX6, "like", "(I)I"⟩
abbrev cX6_howMany : ByteArray := prog_1_method_18_code
def yX6_howMany : MethodName := ⟨RX6, "howMany", "(III)J"⟩
abbrev cX6_way : ByteArray := prog_1_method_19_code
def yX6_way : MethodName := ⟨RX6, "way", "(IIII)I"⟩
abbrev cX6_filled : ByteArray := prog_1_method_20_code
def yX6_filled : MethodName := ⟨RX6, "filled", "(IIIIII)J"⟩
abbrev cX6_kind : ByteArray := prog_1_method_21_code
def yX6_kind : MethodName := ⟨RX6, "kind", "(II)I"⟩
abbrev cX6_broken : ByteArray := prog_1_method_22_code
def yX6_broken : MethodName := ⟨RX6, "broken", "()I"⟩
abbrev cX6_drop : ByteArray := prog_1_method_23_code
def yX6_drop : MethodName := ⟨RX6, "drop", "(I)I"⟩
abbrev cX6_empty : ByteArray := prog_1_method_24_code
def yX6_empty : MethodName := ⟨RX6, "empty", "(I)I"⟩
abbrev cX6_sheet : ByteArray := prog_1_method_25_code
def yX6_sheet : MethodName := ⟨RX6, "sheet", "(III)I"⟩
abbrev cX6_lose : ByteArray := prog_1_method_26_code
def yX6_lose : MethodName := ⟨RX6, "lose", "(I)I"⟩
abbrev cX6_put : ByteArray := prog_1_method_27_code
def yX6_put : MethodName := ⟨RX6, "put", "(III)I"⟩
abbrev cX6_cell : ByteArray := prog_1_method_28_code
def yX6_cell : MethodName := ⟨RX6, "cell", "(III)J"⟩
abbrev cX6_copy : ByteArray := prog_1_method_29_code
def yX6_copy : MethodName := ⟨RX6, "copy", "(IIIII)I"⟩
abbrev cX6_tell : ByteArray := prog_1_method_30_code
def yX6_tell : MethodName := ⟨RX6, "tell", "(I)I"⟩
abbrev cX6_call : ByteArray := prog_1_method_31_code
def yX6_call : MethodName := ⟨RX6, "call", "(I)I"⟩
abbrev cX6_as : ByteArray := prog_1_method_32_code
def yX6_as : MethodName := ⟨RX6, "as", "(II)I"⟩
abbrev cX6_trace : ByteArray := prog_1_method_33_code
def yX6_trace : MethodName := ⟨RX6, "trace", "()I"⟩
abbrev cX6_fault : ByteArray := prog_1_method_34_code
def yX6_fault : MethodName := ⟨RX6, "fault", "()I"⟩
abbrev cX6_many : ByteArray := prog_1_method_35_code
def yX6_many : MethodName := ⟨RX6, "many", "(I)I"⟩
abbrev cX6_isWithin : ByteArray := prog_1_method_36_code
def yX6_isWithin : MethodName := ⟨RX6, "isWithin", "(III)Z"⟩
abbrev cX6_isSheet : ByteArray := prog_1_method_37_code
def yX6_isSheet : MethodName := ⟨RX6, "isSheet", "(I)Z"⟩
abbrev cX6_isSort : ByteArray := prog_1_method_38_code
def yX6_isSort : MethodName := ⟨RX6, "isSort", "(I)Z"⟩
abbrev cX6_isImage : ByteArray := prog_1_method_39_code
def yX6_isImage : MethodName := ⟨RX6, "isImage", "(I)Z"⟩
abbrev cX6_isBall : ByteArray := prog_1_method_40_code
def yX6_isBall : MethodName := ⟨RX6, "isBall", "(I)Z"⟩
abbrev cX6_isKind : ByteArray := prog_1_method_41_code
def yX6_isKind : MethodName := ⟨RX6, "isKind", "(I)Z"⟩
abbrev cX6_faulted : ByteArray := prog_1_method_42_code
def yX6_faulted : MethodName := ⟨RX6, "faulted", "(I)I"⟩
abbrev cX6_handIn : ByteArray := prog_1_method_43_code
def yX6_handIn : MethodName := ⟨RX6, "handIn", "(I)I"⟩
abbrev cX6_imageCount : ByteArray := prog_1_method_44_code
def yX6_imageCount : MethodName := ⟨RX6, "imageCount", "()I"⟩
abbrev cX6_firstWrongCode : ByteArray := prog_1_method_45_code
def yX6_firstWrongCode : MethodName := ⟨RX6, "firstWrongCode", "(LThrowRows$Sheet;II)I"⟩
abbrev cX6_takeText : ByteArray := prog_1_method_46_code
def yX6_takeText : MethodName := ⟨RX6, "takeText", "(LThrowRows$Sheet;II)V"⟩
abbrev cX6_areOpenOrThrows : ByteArray := prog_1_method_47_code
def yX6_areOpenOrThrows : MethodName := ⟨RX6, "areOpenOrThrows", "(LThrowRows$Sheet;II)Z"⟩
abbrev cX6_allowCells : ByteArray := prog_1_method_48_code
def yX6_allowCells : MethodName := ⟨RX6, "allowCells", "(LThrowRows$Sheet;II)V"⟩
def RX7 : String := "ThrowRowsModel"
def TX7 : u_T := fun k => match k with
  | 0 => ("ThrowRowsModel", "fault", "I", false)
  | 1 => ("ThrowRowsModel", "trace", "I", false)
  | 2 => ("ThrowRowsModel", "sorts", "[I", true)
  | 3 => ("ThrowRowsModel", "sheetLong", "[I", true)
  | 4 => ("ThrowRowsModel", "cells", "[I", true)
  | 5 => ("ThrowRowsModel", "period", "I", false)
  | 6 => ("ThrowRowsModel", "row", "[I", true)
  | 7 => ("ThrowRowsModel", "hands", "I", false)
  | 8 => ("ThrowRowsModel", "kinds", "[I", true)
  | 9 => ("ThrowRowsModel", "dropped", "I", false)
  | 10 => ("ThrowRowsModel", "orbits", "[I", true)
  | 11 => ("ThrowRowsModel", "ballOf", "[I", true)
  | 12 => ("ThrowRowsModel", "next", "[I", true)
  | 13 => ("ThrowRowsModel", "imagePeriod", "[I", true)
  | 14 => ("ThrowRowsModel", "imageRow", "[I", true)
  | 15 => ("ThrowRowsModel", "openLong", "I", false)
  | 16 => ("ThrowRowsModel", "openTop", "I", false)
  | 17 => ("ThrowRowsModel", "open", "[I", true)
  | 18 => ("ThrowRowsModel", "fills", "[J", true)
  | _ => ("ThrowRowsModel", "far", "[I", true)
def tyX7 : Nat → FieldType := fun k => match k with
  | 0 => .int
  | 1 => .int
  | 2 => .array .int
  | 3 => .array .int
  | 4 => .array .int
  | 5 => .int
  | 6 => .array .int
  | 7 => .int
  | 8 => .array .int
  | 9 => .int
  | 10 => .array .int
  | 11 => .array .int
  | 12 => .array .int
  | 13 => .array .int
  | 14 => .array .int
  | 15 => .int
  | 16 => .int
  | 17 => .array .int
  | 18 => .array .long
  | _ => .array .int
abbrev wsX70 : List Cond := u_ws RX7 TX7 20
theorem nmX7 : ∀ a, a < 20 → ∀ b, b < 20 → a ≠ b → (TX7 a).2.1 ≠ (TX7 b).2.1 := by decide +kernel
theorem tyX7_ok : ∀ k, k < 20 → parseFieldDescriptor (TX7 k).2.2.1 = some (tyX7 k) := by decide +kernel
abbrev cX7_init : ByteArray := prog_9_method_1_code
def yX7_init : MethodName := ⟨RX7, "<init>", "()V"⟩
abbrev cX7_fails : ByteArray := prog_9_method_3_code
def yX7_fails : MethodName := ⟨RX7, "fails", "(I)I"⟩
abbrev cX7_lost : ByteArray := prog_9_method_4_code
def yX7_lost : MethodName := ⟨RX7, "lost", "(I)J"⟩
abbrev cX7_within : ByteArray := prog_9_method_5_code
def yX7_within : MethodName := ⟨RX7, "within", "(III)Z"⟩
abbrev cX7_isSheet : ByteArray := prog_9_method_6_code
def yX7_isSheet : MethodName := ⟨RX7, "isSheet", "(I)Z"⟩
abbrev cX7_isSort : ByteArray := prog_9_method_7_code
def yX7_isSort : MethodName := ⟨RX7, "isSort", "(I)Z"⟩
abbrev cX7_against : ByteArray := prog_9_method_8_code
def yX7_against : MethodName := ⟨RX7, "against", "(IIII)I"⟩
abbrev cX7_isBeat : ByteArray := prog_9_method_9_code
def yX7_isBeat : MethodName := ⟨RX7, "isBeat", "(I)Z"⟩
abbrev cX7_pattern : ByteArray := prog_9_method_10_code
def yX7_pattern : MethodName := ⟨RX7, "pattern", "(IIII)I"⟩
abbrev cX7_throwOf : ByteArray := prog_9_method_11_code
def yX7_throwOf : MethodName := ⟨RX7, "throwOf", "(I)I"⟩
abbrev cX7_landsIn : ByteArray := prog_9_method_12_code
def yX7_landsIn : MethodName := ⟨RX7, "landsIn", "(I)I"⟩
abbrev cX7_findClash : ByteArray := prog_9_method_13_code
def yX7_findClash : MethodName := ⟨RX7, "findClash", "()I"⟩
abbrev cX7_clash : ByteArray := prog_9_method_14_code
def yX7_clash : MethodName := ⟨RX7, "clash", "()I"⟩
abbrev cX7_isGood : ByteArray := prog_9_method_15_code
def yX7_isGood : MethodName := ⟨RX7, "isGood", "()Z"⟩
abbrev cX7_balls : ByteArray := prog_9_method_16_code
def yX7_balls : MethodName := ⟨RX7, "balls", "()I"⟩
abbrev cX7_stateAhead : ByteArray := prog_9_method_17_code
def yX7_stateAhead : MethodName := ⟨RX7, "stateAhead", "(I)I"⟩
abbrev cX7_isPrime : ByteArray := prog_9_method_18_code
def yX7_isPrime : MethodName := ⟨RX7, "isPrime", "()Z"⟩
abbrev cX7_isGround : ByteArray := prog_9_method_19_code
def yX7_isGround : MethodName := ⟨RX7, "isGround", "()Z"⟩
abbrev cX7_findOrbits : ByteArray := prog_9_method_20_code
def yX7_findOrbits : MethodName := ⟨RX7, "findOrbits", "()I"⟩
abbrev cX7_greatestThrow : ByteArray := prog_9_method_21_code
def yX7_greatestThrow : MethodName := ⟨RX7, "greatestThrow", "()I"⟩
abbrev cX7_good : ByteArray := prog_9_method_22_code
def yX7_good : MethodName := ⟨RX7, "good", "(I)I"⟩
abbrev cX7_state : ByteArray := prog_9_method_23_code
def yX7_state : MethodName := ⟨RX7, "state", "(I)I"⟩
abbrev cX7_layBalls : ByteArray := prog_9_method_24_code
def yX7_layBalls : MethodName := ⟨RX7, "layBalls", "()V"⟩
abbrev cX7_ball : ByteArray := prog_9_method_25_code
def yX7_ball : MethodName := ⟨RX7, "ball", "(I)I"⟩
abbrev cX7_orbit : ByteArray := prog_9_method_26_code
def yX7_orbit : MethodName := ⟨RX7, "orbit", "(I)I"⟩
abbrev cX7_hands : ByteArray := prog_9_method_27_code
def yX7_hands : MethodName := ⟨RX7, "hands", "(I)I"⟩
abbrev cX7_size : ByteArray := prog_9_method_28_code
def yX7_size : MethodName := ⟨RX7, "size", "(I)I"⟩
abbrev cX7_beat : ByteArray := prog_9_method_29_code
def yX7_beat : MethodName := ⟨RX7, "beat", "(II)I"⟩
abbrev cX7_swap : ByteArray := prog_9_method_30_code
def yX7_swap : MethodName := ⟨RX7, "swap", "(II)I"⟩
abbrev cX7_takeNext : ByteArray := prog_9_method_31_code
def yX7_takeNext : MethodName := ⟨RX7, "takeNext", "()V"⟩
abbrev cX7_turn : ByteArray := prog_9_method_32_code
def yX7_turn : MethodName := ⟨RX7, "turn", "(I)I"⟩
abbrev cX7_backward : ByteArray := prog_9_method_33_code
def yX7_backward : MethodName := ⟨RX7, "backward", "()I"⟩
abbrev cX7_isGreater : ByteArray := prog_9_method_34_code
def yX7_isGreater : MethodName := ⟨RX7, "isGreater", "(II)Z"⟩
abbrev cX7_greatest : ByteArray := prog_9_method_35_code
def yX7_greatest : MethodName := ⟨RX7, "greatest", "(I)I"⟩
abbrev cX7_isImage : ByteArray := prog_9_method_36_code
def yX7_isImage : MethodName := ⟨RX7, "isImage", "(I)Z"⟩
abbrev cX7_keep : ByteArray := prog_9_method_37_code
def yX7_keep : MethodName := ⟨RX7, "keep", "(I)I"⟩
abbrev cX7_back : ByteArray := prog_9_method_38_code
def yX7_back : MethodName := ⟨RX7, "back", "(I)I"⟩
abbrev cX7_isTurned : ByteArray := prog_9_method_39_code
def yX7_isTurned : MethodName := ⟨RX7, "isTurned", "(II)Z"⟩
abbrev cX7_like : ByteArray := prog_9_method_40_code
def yX7_like : MethodName := ⟨RX7, "like", "(I)I"⟩
abbrev cX7_spot : ByteArray := prog_9_method_41_code
def yX7_spot : MethodName := ⟨RX7, "spot", "(II)I"⟩
abbrev cX7_mayThrow : ByteArray := prog_9_method_42_code
def yX7_mayThrow : MethodName := ⟨RX7, "mayThrow", "(II)Z"⟩
abbrev cX7_layFills : ByteArray := prog_9_method_43_code
def yX7_layFills : MethodName := ⟨RX7, "layFills", "()V"⟩
abbrev cX7_addFills : ByteArray := prog_9_method_44_code
def yX7_addFills : MethodName := ⟨RX7, "addFills", "(III)V"⟩
abbrev cX7_howMany : ByteArray := prog_9_method_45_code
def yX7_howMany : MethodName := ⟨RX7, "howMany", "(III)J"⟩
abbrev cX7_thrownTo : ByteArray := prog_9_method_46_code
def yX7_thrownTo : MethodName := ⟨RX7, "thrownTo", "(II)I"⟩
abbrev cX7_mayGo : ByteArray := prog_9_method_47_code
def yX7_mayGo : MethodName := ⟨RX7, "mayGo", "(III)Z"⟩
abbrev cX7_goesTo : ByteArray := prog_9_method_48_code
def yX7_goesTo : MethodName := ⟨RX7, "goesTo", "(II)I"⟩
abbrev cX7_findFar : ByteArray := prog_9_method_49_code
def yX7_findFar : MethodName := ⟨RX7, "findFar", "(II)V"⟩
abbrev cX7_way : ByteArray := prog_9_method_50_code
def yX7_way : MethodName := ⟨RX7, "way", "(IIII)I"⟩
abbrev cX7_filled : ByteArray := prog_9_method_51_code
def yX7_filled : MethodName := ⟨RX7, "filled", "(IIIIII)J"⟩
abbrev cX7_firstFill : ByteArray := prog_9_method_52_code
def yX7_firstFill : MethodName := ⟨RX7, "firstFill", "(II)J"⟩
abbrev cX7_leadsOn : ByteArray := prog_9_method_53_code
def yX7_leadsOn : MethodName := ⟨RX7, "leadsOn", "(IIII)Z"⟩
abbrev cX7_isBall : ByteArray := prog_9_method_54_code
def yX7_isBall : MethodName := ⟨RX7, "isBall", "(I)Z"⟩
abbrev cX7_kind : ByteArray := prog_9_method_55_code
def yX7_kind : MethodName := ⟨RX7, "kind", "(II)I"⟩
abbrev cX7_mayGoTo : ByteArray := prog_9_method_56_code
def yX7_mayGoTo : MethodName := ⟨RX7, "mayGoTo", "(I)I"⟩
abbrev cX7_broken : ByteArray := prog_9_method_57_code
def yX7_broken : MethodName := ⟨RX7, "broken", "()I"⟩
abbrev cX7_drop : ByteArray := prog_9_method_58_code
def yX7_drop : MethodName := ⟨RX7, "drop", "(I)I"⟩
abbrev cX7_empty : ByteArray := prog_9_method_59_code
def yX7_empty : MethodName := ⟨RX7, "empty", "(I)I"⟩
abbrev cX7_sheet : ByteArray := prog_9_method_60_code
def yX7_sheet : MethodName := ⟨RX7, "sheet", "(III)I"⟩
abbrev cX7_lose : ByteArray := prog_9_method_61_code
def yX7_lose : MethodName := ⟨RX7, "lose", "(I)I"⟩
abbrev cX7_put : ByteArray := prog_9_method_62_code
def yX7_put : MethodName := ⟨RX7, "put", "(III)I"⟩
abbrev cX7_cell : ByteArray := prog_9_method_63_code
def yX7_cell : MethodName := ⟨RX7, "cell", "(III)J"⟩
abbrev cX7_copy : ByteArray := prog_9_method_64_code
def yX7_copy : MethodName := ⟨RX7, "copy", "(IIIII)I"⟩
abbrev cX7_begins : ByteArray := prog_9_method_65_code
def yX7_begins : MethodName := ⟨RX7, "begins", "(I)V"⟩
abbrev cX7_tell : ByteArray := prog_9_method_66_code
def yX7_tell : MethodName := ⟨RX7, "tell", "(I)I"⟩
abbrev cX7_call : ByteArray := prog_9_method_67_code
def yX7_call : MethodName := ⟨RX7, "call", "(I)I"⟩
abbrev cX7_as : ByteArray := prog_9_method_68_code
def yX7_as : MethodName := ⟨RX7, "as", "(II)I"⟩
abbrev cX7_trace : ByteArray := prog_9_method_69_code
def yX7_trace : MethodName := ⟨RX7, "trace", "()I"⟩
abbrev cX7_fault : ByteArray := prog_9_method_70_code
def yX7_fault : MethodName := ⟨RX7, "fault", "()I"⟩
abbrev cX7_many : ByteArray := prog_9_method_71_code
def yX7_many : MethodName := ⟨RX7, "many", "(I)I"⟩
def RJ6 : String := "java/lang/Integer"
def TJ6 : u_T := fun k => match k with
  | _ => ("", "", "", false)
def tyJ6 : Nat → FieldType := fun k => match k with
  | _ => .int
abbrev wsJ60 : List Cond := u_ws RJ6 TJ6 0
theorem nmJ6 : ∀ a, a < 0 → ∀ b, b < 0 → a ≠ b → (TJ6 a).2.1 ≠ (TJ6 b).2.1 := by decide +kernel
theorem tyJ6_ok : ∀ k, k < 0 → parseFieldDescriptor (TJ6 k).2.2.1 = some (tyJ6 k) := by decide +kernel
abbrev cJ6_bitCount_0f7a4 : ByteArray := prog_10_method_49_code
def yJ6_bitCount_0f7a4 : MethodName := ⟨RJ6, "bitCount", "(I)I"⟩
def RJ9 : String := "java/lang/Math"
def TJ9 : u_T := fun k => match k with
  | _ => ("", "", "", false)
def tyJ9 : Nat → FieldType := fun k => match k with
  | _ => .int
abbrev wsJ90 : List Cond := u_ws RJ9 TJ9 0
theorem nmJ9 : ∀ a, a < 0 → ∀ b, b < 0 → a ≠ b → (TJ9 a).2.1 ≠ (TJ9 b).2.1 := by decide +kernel
theorem tyJ9_ok : ∀ k, k < 0 → parseFieldDescriptor (TJ9 k).2.2.1 = some (tyJ9 k) := by decide +kernel
abbrev cJ9_floorMod_7cf53 : ByteArray := prog_11_method_50_code
def yJ9_floorMod_7cf53 : MethodName := ⟨RJ9, "floorMod", "(II)I"⟩
abbrev cJ9_max_7cf53 : ByteArray := prog_11_method_65_code
def yJ9_max_7cf53 : MethodName := ⟨RJ9, "max", "(II)I"⟩
abbrev cJ9_min_7cf53 : ByteArray := prog_11_method_69_code
def yJ9_min_7cf53 : MethodName := ⟨RJ9, "min", "(II)I"⟩
def RJ10 : String := "java/lang/System"
def TJ10 : u_T := fun k => match k with
  | _ => ("", "", "", false)
def tyJ10 : Nat → FieldType := fun k => match k with
  | _ => .int
abbrev wsJ100 : List Cond := u_ws RJ10 TJ10 0
theorem nmJ10 : ∀ a, a < 0 → ∀ b, b < 0 → a ≠ b → (TJ10 a).2.1 ≠ (TJ10 b).2.1 := by decide +kernel
theorem tyJ10_ok : ∀ k, k < 0 → parseFieldDescriptor (TJ10 k).2.2.1 = some (tyJ10 k) := by decide +kernel
def RJ7 : String := "java/util/Arrays"
def TJ7 : u_T := fun k => match k with
  | _ => ("", "", "", false)
def tyJ7 : Nat → FieldType := fun k => match k with
  | _ => .int
abbrev wsJ70 : List Cond := u_ws RJ7 TJ7 0
theorem nmJ7 : ∀ a, a < 0 → ∀ b, b < 0 → a ≠ b → (TJ7 a).2.1 ≠ (TJ7 b).2.1 := by decide +kernel
theorem tyJ7_ok : ∀ k, k < 0 → parseFieldDescriptor (TJ7 k).2.2.1 = some (tyJ7 k) := by decide +kernel
abbrev cJ7_fill_53178 : ByteArray := prog_13_method_103_code
def yJ7_fill_53178 : MethodName := ⟨RJ7, "fill", "([II)V"⟩
def RL : String := "ThrowRowsLaw"
abbrev cL_law : ByteArray := code
def yL_law : MethodName := ⟨RL, "law", "([I)Z"⟩
abbrev vwCl : List vw_C := [(RX0, TX0, 3), (RX1, TX1, 2), (RX2, TX2, 2), (RX3, TX3, 2), (RX4, TX4, 3), (RX5, TX5, 3), (RX6, TX6, 11), (RX7, TX7, 20)]
end
section
/-! the words that the methods' contracts carry: those of the tables that a call keeps -/
def gTB : List Cond := lw_tbl.filter goodWord
theorem gTB_at {w : Cond} (i : Nat) (h : lw_tbl[i]? = some w) (hg : goodWord w = true) : w ∈ gTB := List.mem_filter.mpr ⟨List.mem_of_getElem? h, hg⟩
theorem gTB_good : GoodIn gTB gTB := fun w h => ⟨h, good_of_word (List.mem_filter.mp h).2⟩
theorem gTB_lw {w : Cond} (h : w ∈ gTB) : w ∈ lw_tbl := (List.mem_filter.mp h).1
def gws (y : MethodName) (b : ByteArray) (n : Nat) (ret : Option FieldType) : List Cond := Cond.code y b n ret :: gTB
theorem gws_good {y : MethodName} {b : ByteArray} {n : Nat} {ret : Option FieldType} (h : Cond.code y b n ret ∈ gTB) : GoodIn gTB (gws y b n ret) := by
  intro w hw
  rcases List.mem_cons.mp hw with e | hw
  · rw [e]; exact gTB_good _ h
  · exact gTB_good w hw
theorem u_in {C : String} {T : u_T} {N : Nat} {Ts : List Cond} (h : ∀ k, k < N → u_lay C T k ∈ Ts) : ∀ w ∈ u_ws C T N, w ∈ Ts := by
  intro w hw
  obtain ⟨k, hk, rfl⟩ := List.mem_map.mp hw
  exact h k (List.mem_range.mp hk)
/-! the world: 46 cells, of the class (0 .. 31) and of the reference (32 .. 45) -/
abbrev gM : Type := Nat → Nat → Int32
abbrev gJ : Type := Nat → Int64
abbrev gE : Type := (Nat → Nat) × va_G × ClassId × ClassId × ClassId × ClassId
def gL (E : gE) (k : Nat) : Nat := E.1 k
def gD (E : gE) : va_G := E.2.1
def gI (E : gE) : ClassId := E.2.2.1
def gJc (E : gE) : ClassId := E.2.2.2.1
def gRc (E : gE) : ClassId := E.2.2.2.2.1
def gSc (E : gE) : ClassId := E.2.2.2.2.2
def gty (E : gE) : List (ClassId × FieldType) := [(gI E, .int), (gJc E, .long), (gRc E, .object RX3), (gSc E, .object RX4)]
def gen0 (E : gE) (f g : Nat → Int32) (t : gJ) (id : Nat) : va_E :=
  if id < 5 then .inr (3, [.ref (gL E (5 + id)), .int (f 1)])
  else if id < 10 then .inl (gI E, 8, .inl f)
  else if id < 14 then .inr (4, [.ref (gL E (4 + id)), .int (f 1), .int (f 2)])
  else if id < 18 then .inl (gI E, 40, .inl f)
  else if id = 18 then .inr (1, [.ref (gL E 19), .int (f 1)])
  else if id = 19 then .inl (gI E, 10, .inl f)
  else if id = 20 then .inr (2, [.ref (gL E 21), .int (f 1)])
  else if id = 21 then .inl (gI E, 10, .inl f)
  else if id = 22 then .inr (5, [.ref (gL E 23), .ref (gL E 24), .int (f 2)])
  else if id = 23 then .inl (gI E, 512, .inl f)
  else if id = 24 then .inl (gI E, 512, .inl f)
  else if id = 25 then .inr (0, [.ref (gL E 26), .ref (gL E 27), .ref (gL E 28)])
  else if id = 26 then .inl (gI E, 8, .inl f)
  else if id = 27 then .inl (gI E, 8, .inl f)
  else if id = 28 then .inl (gI E, 2560, .inl f)
  else if id = 29 then .inl (gRc E, 3, .inr (.inr (.inr (.inr (fun k => some (gL E (2 + k)))))))
  else if id = 30 then .inl (gSc E, 4, .inr (.inr (.inr (.inr (fun k => some (gL E (10 + k)))))))
  else if id = 31 then .inr (6, [.ref (gL E 0), .ref (gL E 1), .ref (gL E 29), .ref (gL E 30), .ref (gL E 18), .ref (gL E 20), .ref (gL E 22), .ref (gL E 25), .int (f 8), .int (f 9), .int (f 10)])
  else if id = 32 then .inr (7, [.int (g 0), .int (g 1), .ref (gL E 33), .ref (gL E 34), .ref (gL E 35), .int (g 5), .ref (gL E 36), .int (g 7), .ref (gL E 37), .int (g 9), .ref (gL E 38), .ref (gL E 39), .ref (gL E 40), .ref (gL E 41), .ref (gL E 42), .int (g 15), .int (g 16), .ref (gL E 43), .ref (gL E 44), .ref (gL E 45)])
  else if id = 33 then .inl (gI E, 4, .inl g)
  else if id = 34 then .inl (gI E, 4, .inl g)
  else if id = 35 then .inl (gI E, 160, .inl g)
  else if id = 36 then .inl (gI E, 8, .inl g)
  else if id = 37 then .inl (gI E, 10, .inl g)
  else if id = 38 then .inl (gI E, 8, .inl g)
  else if id = 39 then .inl (gI E, 1010, .inl g)
  else if id = 40 then .inl (gI E, 8, .inl g)
  else if id = 41 then .inl (gI E, 3, .inl g)
  else if id = 42 then .inl (gI E, 24, .inl g)
  else if id = 43 then .inl (gI E, 8, .inl g)
  else if id = 44 then .inl (gJc E, 20736, .inr (.inl t))
  else .inl (gI E, 512, .inl g)
def gen (E : gE) (μ ν : gM) (τ : gJ) (id : Nat) : va_E := gen0 E (μ id) (ν id) τ id
def wl (E : gE) (μ ν : gM) (τ : gJ) : va_W := (List.range 46).map (fun id => (gL E id, gen E μ ν τ id))
def gA (E : gE) : Nat → Prop := fun q => ∃ id, id < 46 ∧ q = gL E id
def gLok (E : gE) : Prop := ∀ i j, i < 46 → j < 46 → gL E i = gL E j → i = j
def up2 (μ : gM) (a k : Nat) (v : Int32) : gM := fun j => if j = a then upd (μ a) k v else μ j
def cp2 (μ : gM) (a b sp dp n : Nat) : gM := fun j => if j = b then va_cpy (μ a) (μ b) sp dp n else μ j
theorem up2_s {μ : gM} {a k : Nat} {v : Int32} : up2 μ a k v a = upd (μ a) k v := by simp [up2]
theorem up2_n {μ : gM} {a k j : Nat} {v : Int32} (h : j ≠ a) : up2 μ a k v j = μ j := by simp [up2, h]
theorem cp2_s {μ : gM} {a b sp dp n : Nat} : cp2 μ a b sp dp n b = va_cpy (μ a) (μ b) sp dp n := by simp [cp2]
theorem cp2_n {μ : gM} {a b sp dp n j : Nat} (h : j ≠ b) : cp2 μ a b sp dp n j = μ j := by simp [cp2, h]
theorem wl_at {E : gE} {μ ν : gM} {τ : gJ} {id : Nat} {x : va_E} (h : id < 46) (hx : gen E μ ν τ id = x) : (wl E μ ν τ)[id]? = some (gL E id, x) := by
  rw [← hx]; simp [wl, h]
theorem wl_len {E : gE} {μ ν : gM} {τ : gJ} : (wl E μ ν τ).length = 46 := by simp [wl]
theorem wl_get {E : gE} {μ ν : gM} {τ : gJ} {k : Nat} {q : Nat × va_E} (h : (wl E μ ν τ)[k]? = some q) : k < 46 ∧ q = (gL E k, gen E μ ν τ k) := by
  have hk : k < 46 := by
    have := (List.getElem?_eq_some_iff.mp h).1
    rwa [wl_len] at this
  exact ⟨hk, Option.some.inj (h.symm.trans (wl_at hk rfl))⟩
theorem wl_set {E : gE} {μ ν μ' ν' : gM} {τ τ' : gJ} {id : Nat} {x : va_E} (h : id < 46) (hx : gen E μ' ν' τ' id = x) (ho : ∀ j, j ≠ id → gen E μ' ν' τ' j = gen E μ ν τ j) : (wl E μ ν τ).set id (gL E id, x) = wl E μ' ν' τ' := by
  apply List.ext_getElem?
  intro j
  by_cases hj : j < 46
  · rw [wl_at hj rfl]
    by_cases e : j = id
    · subst e
      rw [List.getElem?_set_self (by rw [wl_len]; exact hj), hx]
    · rw [List.getElem?_set_ne (fun z => e z.symm), wl_at hj rfl, ho j e]
  · rw [List.getElem?_eq_none (by rw [List.length_set, wl_len]; omega), List.getElem?_eq_none (by rw [wl_len]; omega)]
theorem wl_setX {E : gE} {μ ν : gM} {τ : gJ} {id k : Nat} {v : Int32} {x : va_E} (h : id < 46) (hx : gen E (up2 μ id k v) ν τ id = x) : (wl E μ ν τ).set id (gL E id, x) = wl E (up2 μ id k v) ν τ :=
  wl_set h hx (fun j hj => by simp only [gen, up2_n hj])
theorem wl_setM {E : gE} {μ ν : gM} {τ : gJ} {id k : Nat} {v : Int32} {x : va_E} (h : id < 46) (hx : gen E μ (up2 ν id k v) τ id = x) : (wl E μ ν τ).set id (gL E id, x) = wl E μ (up2 ν id k v) τ :=
  wl_set h hx (fun j hj => by simp only [gen, up2_n hj])
theorem wl_setC {E : gE} {μ ν : gM} {τ : gJ} {a id sp dp n : Nat} {x : va_E} (h : id < 46) (hx : gen E (cp2 μ a id sp dp n) ν τ id = x) : (wl E μ ν τ).set id (gL E id, x) = wl E (cp2 μ a id sp dp n) ν τ :=
  wl_set h hx (fun j hj => by simp only [gen, cp2_n hj])
theorem gen_J {E : gE} {μ ν : gM} {τ : gJ} : gen E μ ν τ 44 = .inl (gJc E, 20736, .inr (.inl τ)) := by simp [gen, gen0]
theorem wl_setJ {E : gE} {μ ν : gM} {τ τ' : gJ} {x : va_E} (hx : gen E μ ν τ' 44 = x) : (wl E μ ν τ).set 44 (gL E 44, x) = wl E μ ν τ' := by
  refine wl_set (by decide) hx (fun j hj => ?_)
  simp only [gen, gen0, if_neg hj]
theorem wl_D {E : gE} (hE : gLok E) (μ ν : gM) (τ : gJ) : va_D (gA E) (wl E μ ν τ) := by
  refine ⟨fun i j x y hi hj hxy => ?_, fun k q hk => ?_⟩
  · obtain ⟨h1, rfl⟩ := wl_get hi
    obtain ⟨h2, rfl⟩ := wl_get hj
    exact hE i j h1 h2 hxy
  · obtain ⟨h1, rfl⟩ := wl_get hk
    exact ⟨k, h1, rfl⟩
theorem gen_row {E : gE} {μ ν : gM} {τ : gJ} {r : Nat} (h : r < 5) : gen E μ ν τ r = .inr (3, [.ref (gL E (5 + r)), .int (μ r 1)]) := by simp [gen, gen0, h]
theorem gen_hts {E : gE} {μ ν : gM} {τ : gJ} {r : Nat} (h : r < 5) : gen E μ ν τ (5 + r) = .inl (gI E, 8, .inl (μ (5 + r))) := by
  have h1 : ¬ 5 + r < 5 := by omega
  have h2 : 5 + r < 10 := by omega
  simp only [gen, gen0, if_neg h1, if_pos h2]
theorem gen_sheet {E : gE} {μ ν : gM} {τ : gJ} {k : Nat} (h : k < 4) : gen E μ ν τ (10 + k) = .inr (4, [.ref (gL E (14 + k)), .int (μ (10 + k) 1), .int (μ (10 + k) 2)]) := by
  have h1 : ¬ 10 + k < 5 := by omega
  have h2 : ¬ 10 + k < 10 := by omega
  have h3 : 10 + k < 14 := by omega
  have h4 : 4 + (10 + k) = 14 + k := by omega
  simp only [gen, gen0, if_neg h1, if_neg h2, if_pos h3, h4]
theorem gen_cells {E : gE} {μ ν : gM} {τ : gJ} {k : Nat} (h : k < 4) : gen E μ ν τ (14 + k) = .inl (gI E, 40, .inl (μ (14 + k))) := by
  have h1 : ¬ 14 + k < 5 := by omega
  have h2 : ¬ 14 + k < 10 := by omega
  have h3 : ¬ 14 + k < 14 := by omega
  have h4 : 14 + k < 18 := by omega
  simp only [gen, gen0, if_neg h1, if_neg h2, if_neg h3, if_pos h4]
def gNw : Cond → Bool
  | .fieldLinkNest .. => true
  | .methodLinkNest .. => true
  | _ => false
def gK (E : gE) (U : State) : Prop := va_K (gD E) vwCl (gty E) U ∧ ∀ w ∈ lw_tbl, gNw w = true → va_Nw w U
theorem gK.moved {E : gE} {s U : State} (hW : s.WarmedH U.vm) (h : gK E s) : gK E U := by
  refine ⟨va_K.moved hW.alike h.1, fun w hw hn => ?_⟩
  have h1 := h.2 w hw hn
  cases w <;> first | exact va_Nw.warmF hW h1 | exact va_Nw.warmM hW h1 | (simp [gNw] at hn)
theorem gK.call {E : gE} {U : State} {g : JFrame} {mk : MethodId} {a : Array Value} (h : gK E U) : gK E (U.calling g mk a) := by
  refine ⟨va_K.moved (u := U) (U := U.calling g mk a) (Vm.Alike.refl U.vm) h.1, fun w hw hn => ?_⟩
  have h1 := h.2 w hw hn
  cases w <;> first | exact va_Nw.same rfl rfl h1 | (simp [gNw] at hn)
/-! contracts -/
def gRm (f n : Nat) : Room := { frames := f, cells := 0, slots := 0, locals := n }
abbrev gPc (E : gE) (vs : List Value) (μ ν : gM) (τ : gJ) : Array Value → State → Prop := va_Pc vs (fun U => va_P (gD E) vwCl (wl E μ ν τ) U.heap ∧ gK E U)
theorem gPc_blind {E : gE} {vs : List Value} {μ ν : gM} {τ : gJ} : FrameBlind (gPc E vs μ ν τ) := fun a U g mk h => ⟨h.1, h.2.1, h.2.2.call⟩
abbrev gQiX (E : gE) (Q : Int32 → gM → Prop) (ν : gM) (τ : gJ) : Array Value → State → Outcome → State → Prop := va_Qi (fun r (u : gM) => Q r u) (fun u t => va_P (gD E) vwCl (wl E u ν τ) t.heap) (gA E)
abbrev gQlX (E : gE) (Q : Int64 → gM → Prop) (ν : gM) (τ : gJ) : Array Value → State → Outcome → State → Prop := va_Ql (fun r (u : gM) => Q r u) (fun u t => va_P (gD E) vwCl (wl E u ν τ) t.heap) (gA E)
abbrev gQvX (E : gE) (Q : gM → Prop) (ν : gM) (τ : gJ) : Array Value → State → Outcome → State → Prop := va_Qv (fun (u : gM) => Q u) (fun u t => va_P (gD E) vwCl (wl E u ν τ) t.heap) (gA E)
abbrev gQiM (E : gE) (Q : Int32 → gM → gJ → Prop) (μ : gM) : Array Value → State → Outcome → State → Prop := va_Qi (fun r (u : gM × gJ) => Q r u.1 u.2) (fun u t => va_P (gD E) vwCl (wl E μ u.1 u.2) t.heap) (gA E)
abbrev gQlM (E : gE) (Q : Int64 → gM → gJ → Prop) (μ : gM) : Array Value → State → Outcome → State → Prop := va_Ql (fun r (u : gM × gJ) => Q r u.1 u.2) (fun u t => va_P (gD E) vwCl (wl E μ u.1 u.2) t.heap) (gA E)
abbrev gQvM (E : gE) (Q : gM → gJ → Prop) (μ : gM) : Array Value → State → Outcome → State → Prop := va_Qv (fun (u : gM × gJ) => Q u.1 u.2) (fun u t => va_P (gD E) vwCl (wl E μ u.1 u.2) t.heap) (gA E)
abbrev gQiS (E : gE) (Q : Int32 → Prop) (μ ν : gM) (τ : gJ) : Array Value → State → Outcome → State → Prop := va_Qi (fun r (_ : Unit) => Q r) (fun _ t => va_P (gD E) vwCl (wl E μ ν τ) t.heap) (gA E)
def gCal (y : MethodName) (b : ByteArray) (maxL : Nat) (ret : Option FieldType) (n : Nat) : Prop := Cond.code y b maxL ret ∈ gTB ∧ Cond.initialized y.cls ∈ gTB ∧ y.cls ≠ "java/lang/invoke/MethodHandle" ∧ y.cls ≠ "java/lang/invoke/VarHandle" ∧ (parseMethodDescriptor y.desc).map (fun d => d.parameters.length) = some n
def gCalV (y : MethodName) (b : ByteArray) (maxL : Nat) (ret : Option FieldType) (n : Nat) : Prop := gCal y b maxL ret n ∧ Cond.instanceMethod y ∈ gTB ∧ Cond.selects y.cls y y ∈ gTB
def gCalS (y : MethodName) (b : ByteArray) (maxL : Nat) (ret : Option FieldType) (n : Nat) : Prop := gCal y b maxL ret n ∧ Cond.static y ∈ gTB
def gOk (rm : Room) (maxL : Nat) (R : Room) : Prop := rm.cells = 0 ∧ rm.slots = 0 ∧ rm.frames + 1 ≤ R.frames ∧ 8 + (maxL + 11) + rm.locals ≤ R.locals
theorem vin_lt {i : Int32} {n : Nat} (h : vp_in i n) : i.toNatClampNeg < n := Nat.not_le.mp fun q => h (Or.inr q)
theorem vin_im {i : Int32} (h : vp_in i 3) : 2 + i.toNatClampNeg < 5 := by have := vin_lt h; omega
theorem at_heap {D : va_G} {cl : List vw_C} {ws : va_W} {t : State} {H : Heap} (ht : t.heap = H) (hP : va_P D cl ws H) : va_P D cl ws t.heap := by rw [ht]; exact hP
section GR
variable {p : Program} {l : Launch} {e : Env} {R : Room} {s : State} {m : MethodId} {args : Array Value} {below : List Frame} {meth : Method} {c : Code} {H : Heap} {locs : List Loc} {cells slots : Nat} {Q : State → Prop}
variable {cc : ByteArray} {pc nL : Nat} {ls : Array Slot} {rest st : List Value} {E : gE} {μ ν : gM} {τ : gJ} {own : String}
theorem g_enter {y : MethodName} {b : ByteArray} {n : Nat} {ret : Option FieldType} {rm : Room} {vs : List Value} {lv : List (Nat × Value)} {Qc : Array Value → State → Outcome → State → Prop} (hy : plainName y.cls = true) (hn : (lg_sl vs).length ≤ n) (hlv : lv_args 0 vs = lv)
    (body : ∀ (p : Program) (e : Env) (s : State) (m : MethodId) (below : List Frame) (meth : Method) (c : Code) (ls : Array Slot) (H : Heap), p.tables.exec = Jvm.exec → c.code = b → meth.sig.returnType = ret → meth.locks = false → CallFix p m c b n s vs.toArray gTB y.cls → gK E s → va_P (gD E) vwCl (wl E μ ν τ) H → va_S (gA E) s.heap H [] → lv_has ls n lv → meth.name = y.name → W p l e rm s m vs.toArray below meth c H [] 0 0 (MQ below Qc vs.toArray s 0 0 (gA E)) (F0 m 0 ls [])) :
    Met l y (gws y b n ret) rm (gPc E vs μ ν τ) Qc 0 0 (gA E) := by
  refine Met.ofW (cc := b) (maxL := n) (ret := ret) hy rfl ?_
  intro p e s m args below meth c s₁ B hml hv
  obtain ⟨rfl, hP, hK⟩ := hv
  have hts := atoms_spec (ws := gws y b n ret) B.pre
  have hl := lv_entry vs (n := n) hn
  rw [hlv] at hl
  rw [lg_entry_eq]
  exact body p e s m below meth c _ s.heap B.exec B.bytes B.returns B.notSynchronized ⟨B.exec, B.bytes, hml, findClass_of_methodNamed B.named, fun w hw => hts w (List.mem_cons_of_mem _ hw)⟩ hK hP va_S.rf hl (name_of_methodNamed B.named B.method).1
theorem g_get {C : String} {T : u_T} {N ci index id : Nat} {fs : List Value} (C0 : CallFix p m c cc nL s args gTB own) (hK : gK E s) (hP : va_P (gD E) vwCl (wl E μ ν τ) H) (hid : id < 46) (he : gen E μ ν τ id = .inr (ci, fs)) (hc : vwCl[ci]? = some (C, T, N)) (hin : ∀ w ∈ u_ws C T N, w ∈ gTB) (k : Nat) (hk : k < N) (hq : Cond.fieldLink own index (T k).1 (T k).2.1 (T k).2.2.1 ∈ gTB) {v : Value} (hv : fs[k]? = some v) (hdg : decode cc pc = .ok (.getfield index, 3))
    (kk : W p l e R s m args below meth c H locs cells slots Q (F0 m (pc + 3) ls (v :: rest))) : W p l e R s m args below meth c H locs cells slots Q (F0 m pc ls (.ref (gL E id) :: rest)) :=
  va_get C0.1 C0.2.1 C0.2.2.2.2 hin C0.2.2.2.1 hK.1 hP id (wl_at hid he) hc k hk (C0.2.2.2.2 _ hq) (fun _ h => h) hv hdg kk
theorem g_getN {C host : String} {T : u_T} {N ci index id : Nat} {fs : List Value} (C0 : CallFix p m c cc nL s args gTB own) (hK : gK E s) (hP : va_P (gD E) vwCl (wl E μ ν τ) H) (hid : id < 46) (he : gen E μ ν τ id = .inr (ci, fs)) (hc : vwCl[ci]? = some (C, T, N)) (hin : ∀ w ∈ u_ws C T N, w ∈ gTB) (k : Nat) (hk : k < N) (hq : Cond.fieldLinkNest own index (T k).1 (T k).2.1 (T k).2.2.1 host ∈ lw_tbl) {v : Value} (hv : fs[k]? = some v) (hdg : decode cc pc = .ok (.getfield index, 3))
    (kk : W p l e R s m args below meth c H locs cells slots Q (F0 m (pc + 3) ls (v :: rest))) : W p l e R s m args below meth c H locs cells slots Q (F0 m pc ls (.ref (gL E id) :: rest)) :=
  va_getN C0.1 C0.2.1 C0.2.2.2.2 hin C0.2.2.2.1 hK.1 hP id (wl_at hid he) hc k hk (va_Nw.use rfl (hK.2 _ hq rfl)) (fun _ h => h) hv hdg kk
theorem g_putX {C : String} {T : u_T} {N ci index id : Nat} {fs : (Nat → Int32) → List Value} {ty0 : Nat → FieldType} {v : Int32} (hE : gLok E) (C0 : CallFix p m c cc nL s args gTB own) (hK : gK E s) (hP : va_P (gD E) vwCl (wl E μ ν τ) H) (hS : va_S (gA E) s.heap H locs) (hid : id < 46) (he : ∀ μ : gM, gen E μ ν τ id = .inr (ci, fs (μ id))) (hc : vwCl[ci]? = some (C, T, N)) (hin : ∀ w ∈ u_ws C T N, w ∈ gTB) (hty : ∀ k, k < N → parseFieldDescriptor (T k).2.2.1 = some (ty0 k)) (hnm : ∀ a, a < N → ∀ b, b < N → a ≠ b → (T a).2.1 ≠ (T b).2.1) (k : Nat) (hk : k < N) (hq : (Cond.fieldLink own index (T k).1 (T k).2.1 (T k).2.2.1) ∈ gTB) (hfin : (T k).2.2.2 = false) (hd : parseFieldDescriptor (T k).2.2.1 = some .int) (hl : k < (fs (μ id)).length) (hset : (fs (μ id)).set k (.int v) = fs (upd (μ id) k v)) (hdg : decode cc pc = .ok (.putfield index, 3))
    (kk : ∀ (H : Heap) (locs : List Loc), va_P (gD E) vwCl (wl E (up2 μ id k v) ν τ) H → va_S (gA E) s.heap H locs → W p l e R s m args below meth c H locs cells slots Q (F0 m (pc + 3) ls rest)) : W p l e R s m args below meth c H locs cells slots Q (F0 m pc ls (.int v :: .ref (gL E id) :: rest)) := by
  refine va_put C0.1 C0.2.1 C0.2.2.2.2 hin ty0 hty hnm C0.2.2.2.1 hK.1 hP (wl_D hE μ ν τ) hS id (wl_at hid (he μ)) hc k hk (C0.2.2.2.2 _ hq) (fun _ h => h) hfin hd rfl rfl hl hdg (fun H1 locs1 h1 _ h3 => ?_)
  rw [hset, wl_setX (v := v) (k := k) hid (by rw [he (up2 μ id k v), up2_s])] at h1
  exact kk H1 locs1 h1 h3
theorem g_putXN {C host : String} {T : u_T} {N ci index id : Nat} {fs : (Nat → Int32) → List Value} {ty0 : Nat → FieldType} {v : Int32} (hE : gLok E) (C0 : CallFix p m c cc nL s args gTB own) (hK : gK E s) (hP : va_P (gD E) vwCl (wl E μ ν τ) H) (hS : va_S (gA E) s.heap H locs) (hid : id < 46) (he : ∀ μ : gM, gen E μ ν τ id = .inr (ci, fs (μ id))) (hc : vwCl[ci]? = some (C, T, N)) (hin : ∀ w ∈ u_ws C T N, w ∈ gTB) (hty : ∀ k, k < N → parseFieldDescriptor (T k).2.2.1 = some (ty0 k)) (hnm : ∀ a, a < N → ∀ b, b < N → a ≠ b → (T a).2.1 ≠ (T b).2.1) (k : Nat) (hk : k < N) (hq : (Cond.fieldLinkNest own index (T k).1 (T k).2.1 (T k).2.2.1 host) ∈ lw_tbl) (hfin : (T k).2.2.2 = false) (hd : parseFieldDescriptor (T k).2.2.1 = some .int) (hl : k < (fs (μ id)).length) (hset : (fs (μ id)).set k (.int v) = fs (upd (μ id) k v)) (hdg : decode cc pc = .ok (.putfield index, 3))
    (kk : ∀ (H : Heap) (locs : List Loc), va_P (gD E) vwCl (wl E (up2 μ id k v) ν τ) H → va_S (gA E) s.heap H locs → W p l e R s m args below meth c H locs cells slots Q (F0 m (pc + 3) ls rest)) : W p l e R s m args below meth c H locs cells slots Q (F0 m pc ls (.int v :: .ref (gL E id) :: rest)) := by
  refine va_putN C0.1 C0.2.1 C0.2.2.2.2 hin ty0 hty hnm C0.2.2.2.1 hK.1 hP (wl_D hE μ ν τ) hS id (wl_at hid (he μ)) hc k hk (va_Nw.use rfl (hK.2 _ hq rfl)) (fun _ h => h) hfin hd rfl rfl hl hdg (fun H1 locs1 h1 _ h3 => ?_)
  rw [hset, wl_setX (v := v) (k := k) hid (by rw [he (up2 μ id k v), up2_s])] at h1
  exact kk H1 locs1 h1 h3
theorem g_putM {C : String} {T : u_T} {N ci index id : Nat} {fs : (Nat → Int32) → List Value} {ty0 : Nat → FieldType} {v : Int32} (hE : gLok E) (C0 : CallFix p m c cc nL s args gTB own) (hK : gK E s) (hP : va_P (gD E) vwCl (wl E μ ν τ) H) (hS : va_S (gA E) s.heap H locs) (hid : id < 46) (he : ∀ ν : gM, gen E μ ν τ id = .inr (ci, fs (ν id))) (hc : vwCl[ci]? = some (C, T, N)) (hin : ∀ w ∈ u_ws C T N, w ∈ gTB) (hty : ∀ k, k < N → parseFieldDescriptor (T k).2.2.1 = some (ty0 k)) (hnm : ∀ a, a < N → ∀ b, b < N → a ≠ b → (T a).2.1 ≠ (T b).2.1) (k : Nat) (hk : k < N) (hq : (Cond.fieldLink own index (T k).1 (T k).2.1 (T k).2.2.1) ∈ gTB) (hfin : (T k).2.2.2 = false) (hd : parseFieldDescriptor (T k).2.2.1 = some .int) (hl : k < (fs (ν id)).length) (hset : (fs (ν id)).set k (.int v) = fs (upd (ν id) k v)) (hdg : decode cc pc = .ok (.putfield index, 3))
    (kk : ∀ (H : Heap) (locs : List Loc), va_P (gD E) vwCl (wl E μ (up2 ν id k v) τ) H → va_S (gA E) s.heap H locs → W p l e R s m args below meth c H locs cells slots Q (F0 m (pc + 3) ls rest)) : W p l e R s m args below meth c H locs cells slots Q (F0 m pc ls (.int v :: .ref (gL E id) :: rest)) := by
  refine va_put C0.1 C0.2.1 C0.2.2.2.2 hin ty0 hty hnm C0.2.2.2.1 hK.1 hP (wl_D hE μ ν τ) hS id (wl_at hid (he ν)) hc k hk (C0.2.2.2.2 _ hq) (fun _ h => h) hfin hd rfl rfl hl hdg (fun H1 locs1 h1 _ h3 => ?_)
  rw [hset, wl_setM (v := v) (k := k) hid (by rw [he (up2 ν id k v), up2_s])] at h1
  exact kk H1 locs1 h1 h3
theorem g_iald {n id : Nat} {f : Nat → Int32} {i : Int32} (hx : p.tables.exec = Jvm.exec) (hb : c.code = cc) (hK : gK E s) (hP : va_P (gD E) vwCl (wl E μ ν τ) H) (hid : id < 46) (he : gen E μ ν τ id = .inl (gI E, n, .inl f)) (hin : vp_in i n) (hdg : decode cc pc = .ok (.iaload, 1))
    (kk : W p l e R s m args below meth c H locs cells slots Q (F0 m (pc + 1) ls (.int (f i.toNatClampNeg) :: rest))) : W p l e R s m args below meth c H locs cells slots Q (F0 m pc ls (.int i :: .ref (gL E id) :: rest)) :=
  va_iald hx hb hK.1 hP id 0 (wl_at hid he) rfl hin hdg kk
theorem g_lald {i : Int32} (hx : p.tables.exec = Jvm.exec) (hb : c.code = cc) (hK : gK E s) (hP : va_P (gD E) vwCl (wl E μ ν τ) H) (hin : vp_in i 20736) (hdg : decode cc pc = .ok (.laload, 1))
    (kk : W p l e R s m args below meth c H locs cells slots Q (F0 m (pc + 1) ls (.long (τ i.toNatClampNeg) :: rest))) : W p l e R s m args below meth c H locs cells slots Q (F0 m pc ls (.int i :: .ref (gL E 44) :: rest)) :=
  va_lald hx hb hK.1 hP 44 1 (wl_at (by decide) gen_J) rfl hin hdg kk
theorem g_iastX {n id : Nat} {i v : Int32} (hE : gLok E) (hx : p.tables.exec = Jvm.exec) (hb : c.code = cc) (hK : gK E s) (hP : va_P (gD E) vwCl (wl E μ ν τ) H) (hS : va_S (gA E) s.heap H locs) (hid : id < 46) (he : ∀ μ : gM, gen E μ ν τ id = .inl (gI E, n, .inl (μ id))) (hin : vp_in i n) (hdg : decode cc pc = .ok (.iastore, 1))
    (kk : ∀ (H : Heap) (locs : List Loc), va_P (gD E) vwCl (wl E (up2 μ id i.toNatClampNeg v) ν τ) H → va_S (gA E) s.heap H locs → W p l e R s m args below meth c H locs cells slots Q (F0 m (pc + 1) ls rest)) : W p l e R s m args below meth c H locs cells slots Q (F0 m pc ls (.int v :: .int i :: .ref (gL E id) :: rest)) := by
  refine va_iast hx hb hK.1 hP (wl_D hE μ ν τ) hS id 0 (wl_at hid (he μ)) rfl hin hdg (fun H1 locs1 h1 _ h3 => ?_)
  rw [wl_setX (v := v) (k := i.toNatClampNeg) hid (by rw [he (up2 μ id _ v), up2_s])] at h1
  exact kk H1 locs1 h1 h3
theorem g_iastM {n id : Nat} {i v : Int32} (hE : gLok E) (hx : p.tables.exec = Jvm.exec) (hb : c.code = cc) (hK : gK E s) (hP : va_P (gD E) vwCl (wl E μ ν τ) H) (hS : va_S (gA E) s.heap H locs) (hid : id < 46) (he : ∀ ν : gM, gen E μ ν τ id = .inl (gI E, n, .inl (ν id))) (hin : vp_in i n) (hdg : decode cc pc = .ok (.iastore, 1))
    (kk : ∀ (H : Heap) (locs : List Loc), va_P (gD E) vwCl (wl E μ (up2 ν id i.toNatClampNeg v) τ) H → va_S (gA E) s.heap H locs → W p l e R s m args below meth c H locs cells slots Q (F0 m (pc + 1) ls rest)) : W p l e R s m args below meth c H locs cells slots Q (F0 m pc ls (.int v :: .int i :: .ref (gL E id) :: rest)) := by
  refine va_iast hx hb hK.1 hP (wl_D hE μ ν τ) hS id 0 (wl_at hid (he ν)) rfl hin hdg (fun H1 locs1 h1 _ h3 => ?_)
  rw [wl_setM (v := v) (k := i.toNatClampNeg) hid (by rw [he (up2 ν id _ v), up2_s])] at h1
  exact kk H1 locs1 h1 h3
theorem g_last {i : Int32} {v : Int64} (hE : gLok E) (hx : p.tables.exec = Jvm.exec) (hb : c.code = cc) (hK : gK E s) (hP : va_P (gD E) vwCl (wl E μ ν τ) H) (hS : va_S (gA E) s.heap H locs) (hin : vp_in i 20736) (hdg : decode cc pc = .ok (.lastore, 1))
    (kk : ∀ (H : Heap) (locs : List Loc), va_P (gD E) vwCl (wl E μ ν (vp_updL τ i.toNatClampNeg v)) H → va_S (gA E) s.heap H locs → W p l e R s m args below meth c H locs cells slots Q (F0 m (pc + 1) ls rest)) : W p l e R s m args below meth c H locs cells slots Q (F0 m pc ls (.long v :: .int i :: .ref (gL E 44) :: rest)) := by
  refine va_last hx hb hK.1 hP (wl_D hE μ ν τ) hS 44 1 (wl_at (by decide) gen_J) rfl hin hdg (fun H1 locs1 h1 _ h3 => ?_)
  rw [wl_setJ (τ' := vp_updL τ i.toNatClampNeg v) gen_J] at h1
  exact kk H1 locs1 h1 h3
theorem g_aaR {i : Int32} (hx : p.tables.exec = Jvm.exec) (hb : c.code = cc) (hK : gK E s) (hP : va_P (gD E) vwCl (wl E μ ν τ) H) (hin : vp_in i 3) (hdg : decode cc pc = .ok (.aaload, 1))
    (kk : W p l e R s m args below meth c H locs cells slots Q (F0 m (pc + 1) ls (.ref (gL E (2 + i.toNatClampNeg)) :: rest))) : W p l e R s m args below meth c H locs cells slots Q (F0 m pc ls (.int i :: .ref (gL E 29) :: rest)) :=
  va_aldq (C := RX3) (f := fun k => some (gL E (2 + k))) hx hb hK.1 hP 29 2 (wl_at (by decide) (by simp [gen, gen0])) rfl hin hdg kk
theorem g_aaS {i : Int32} (hx : p.tables.exec = Jvm.exec) (hb : c.code = cc) (hK : gK E s) (hP : va_P (gD E) vwCl (wl E μ ν τ) H) (hin : vp_in i 4) (hdg : decode cc pc = .ok (.aaload, 1))
    (kk : W p l e R s m args below meth c H locs cells slots Q (F0 m (pc + 1) ls (.ref (gL E (10 + i.toNatClampNeg)) :: rest))) : W p l e R s m args below meth c H locs cells slots Q (F0 m pc ls (.int i :: .ref (gL E 30) :: rest)) :=
  va_aldq (C := RX4) (f := fun k => some (gL E (10 + k))) hx hb hK.1 hP 30 3 (wl_at (by decide) (by simp [gen, gen0])) rfl hin hdg kk
theorem g_alen {n id : Nat} {f : Nat → Int32} {v : Int32} (hx : p.tables.exec = Jvm.exec) (hb : c.code = cc) (hK : gK E s) (hP : va_P (gD E) vwCl (wl E μ ν τ) H) (hid : id < 46) (he : gen E μ ν τ id = .inl (gI E, n, .inl f)) (hv : Int32.ofNat n = v) (hdg : decode cc pc = .ok (.arraylength, 1))
    (kk : W p l e R s m args below meth c H locs cells slots Q (F0 m (pc + 1) ls (.int v :: rest))) : W p l e R s m args below meth c H locs cells slots Q (F0 m pc ls (.ref (gL E id) :: rest)) :=
  va_alen hx hb hK.1 hP id 0 (wl_at hid he) (ty := .int) rfl hv hdg kk
/-! calls -/
variable {y : MethodName} {bytes : ByteArray} {maxL n index : Nat} {ret : Option FieldType} {rm : Room} {As : List Value} {Qc : Array Value → State → Outcome → State → Prop}
theorem g_bV {ci id N : Nat} {fs : List Value} {T : u_T} (C0 : CallFix p m c cc nL s args gTB own) (hK : gK E s) (hP : va_P (gD E) vwCl (wl E μ ν τ) H) (k : gCalV y bytes maxL ret n) (q : Cond.methodLink own index y ∈ gTB) (hM : Met l y (gws y bytes maxL ret) rm (gPc E (.ref (gL E id) :: As) μ ν τ) Qc 0 0 (gA E)) (hid : id < 46) (he : gen E μ ν τ id = .inr (ci, fs)) (hc : vwCl[ci]? = some (y.cls, T, N)) (hn : As.length = n) (hsize : ls.size = nL) (hst : st = As.reverse ++ .ref (gL E id) :: rest) (hW : (rest.map fun v => v.category).sum ≤ 8) (hR : gOk rm maxL R) (hdg : decode cc pc = .ok (.invokevirtual index, 3)) :
    va_Run p l e R s m args below meth c H locs 0 0 0 0 (F0 m pc ls st) rest (Qc (Value.ref (gL E id) :: As).toArray) (gA E) := by
  obtain ⟨⟨k1, k2, k3, k4, k5⟩, k6, k7⟩ := k
  refine va_runV (C := y.cls) C0 hM ⟨callB_of n C0.2.2.2.2 (gws_good k1) rfl hR.1 hR.2.1 (C0.2.2.2.2 _ k2) (C0.2.2.2.2 _ q) ⟨k3, k4, k5⟩ hR.2.2, C0.2.2.2.2 _ k6, C0.2.2.2.2 _ k7⟩ ⟨gPc_blind, ?_, fun U hU hW => ⟨rfl, by rw [hU]; exact hP, hK.moved hW⟩⟩ rfl hn hsize hst (lv_room hW) hdg ⟨Nat.zero_le _, Nat.zero_le _⟩
  exact va_recv hK.1 hP (ci := ci) (q0 := id) hc (wl_at hid he)
theorem g_bS (C0 : CallFix p m c cc nL s args gTB own) (hK : gK E s) (hP : va_P (gD E) vwCl (wl E μ ν τ) H) (k : gCalS y bytes maxL ret n) (q : Cond.methodLink own index y ∈ gTB) (hM : Met l y (gws y bytes maxL ret) rm (gPc E As μ ν τ) Qc 0 0 (gA E)) (hn : As.length = n) (hsize : ls.size = nL) (hst : st = As.reverse ++ rest) (hW : (rest.map fun v => v.category).sum ≤ 8) (hR : gOk rm maxL R) (hdg : decode cc pc = .ok (.invokestatic index, 3)) :
    va_Run p l e R s m args below meth c H locs 0 0 0 0 (F0 m pc ls st) rest (Qc As.toArray) (gA E) := by
  obtain ⟨⟨k1, k2, k3, k4, k5⟩, k6⟩ := k
  exact va_runS C0 hM ⟨callB_of n C0.2.2.2.2 (gws_good k1) rfl hR.1 hR.2.1 (C0.2.2.2.2 _ k2) (C0.2.2.2.2 _ q) ⟨k3, k4, k5⟩ hR.2.2, C0.2.2.2.2 _ k6⟩ ⟨gPc_blind, fun U hU hW => ⟨rfl, by rw [hU]; exact hP, hK.moved hW⟩⟩ rfl hn hsize hst (lv_room hW) hdg ⟨Nat.zero_le _, Nat.zero_le _⟩
theorem g_bSN {host : String} (C0 : CallFix p m c cc nL s args gTB own) (hK : gK E s) (hP : va_P (gD E) vwCl (wl E μ ν τ) H) (k : gCalS y bytes maxL ret n) (q : Cond.methodLinkNest own index y host ∈ lw_tbl) (hM : Met l y (gws y bytes maxL ret) rm (gPc E As μ ν τ) Qc 0 0 (gA E)) (hn : As.length = n) (hsize : ls.size = nL) (hst : st = As.reverse ++ rest) (hW : (rest.map fun v => v.category).sum ≤ 8) (hR : gOk rm maxL R) (hdg : decode cc pc = .ok (.invokestatic index, 3)) :
    va_Run p l e R s m args below meth c H locs 0 0 0 0 (F0 m pc ls st) rest (Qc As.toArray) (gA E) := by
  obtain ⟨⟨k1, k2, k3, k4, k5⟩, k6⟩ := k
  exact va_runSN C0 hM ⟨va_cnB n C0.2.2.2.2 (gws_good k1) rfl hR.1 hR.2.1 (hK.2 _ q rfl) (C0.2.2.2.2 _ k2) ⟨k3, k4, k5⟩ hR.2.2, C0.2.2.2.2 _ k6, trivial⟩ ⟨gPc_blind, fun U hU hW => ⟨rfl, by rw [hU]; exact hP, hK.moved hW⟩⟩ rfl hn hsize hst (lv_room hW) hdg ⟨Nat.zero_le _, Nat.zero_le _⟩
variable {a : Array Value}
theorem g_iX {Qs : Int32 → gM → Prop} (hr : va_Run p l e R s m args below meth c H locs 0 0 0 0 (F0 m pc ls st) rest (gQiX E Qs ν τ a) (gA E)) (hS : va_S (gA E) s.heap H locs)
    (kk : ∀ (r : Int32) (μ : gM) (H : Heap) (locs : List Loc), Qs r μ → va_P (gD E) vwCl (wl E μ ν τ) H → va_S (gA E) s.heap H locs → W p l e R s m args below meth c H locs 0 0 Q (F0 m (pc + 3) ls (.int r :: rest))) : W p l e R s m args below meth c H locs 0 0 Q (F0 m pc ls st) :=
  va_calli hr hS (fun _ _ h => h) (fun _ h => h) (fun r u t H1 locs1 ht _ hp hB _ _ hS1 => kk r u H1 locs1 hp (by rw [← ht]; exact hB) hS1)
theorem g_lX {Qs : Int64 → gM → Prop} (hr : va_Run p l e R s m args below meth c H locs 0 0 0 0 (F0 m pc ls st) rest (gQlX E Qs ν τ a) (gA E)) (hS : va_S (gA E) s.heap H locs)
    (kk : ∀ (r : Int64) (μ : gM) (H : Heap) (locs : List Loc), Qs r μ → va_P (gD E) vwCl (wl E μ ν τ) H → va_S (gA E) s.heap H locs → W p l e R s m args below meth c H locs 0 0 Q (F0 m (pc + 3) ls (.long r :: rest))) : W p l e R s m args below meth c H locs 0 0 Q (F0 m pc ls st) :=
  va_calll hr hS (fun _ _ h => h) (fun _ h => h) (fun r u t H1 locs1 ht _ hp hB _ _ hS1 => kk r u H1 locs1 hp (by rw [← ht]; exact hB) hS1)
theorem g_vX {Qs : gM → Prop} (hr : va_Run p l e R s m args below meth c H locs 0 0 0 0 (F0 m pc ls st) rest (gQvX E Qs ν τ a) (gA E)) (hS : va_S (gA E) s.heap H locs)
    (kk : ∀ (μ : gM) (H : Heap) (locs : List Loc), Qs μ → va_P (gD E) vwCl (wl E μ ν τ) H → va_S (gA E) s.heap H locs → W p l e R s m args below meth c H locs 0 0 Q (F0 m (pc + 3) ls rest)) : W p l e R s m args below meth c H locs 0 0 Q (F0 m pc ls st) :=
  va_callv hr hS (fun _ _ h => h) (fun _ h => h) (fun u t H1 locs1 ht _ hp hB _ _ hS1 => kk u H1 locs1 hp (by rw [← ht]; exact hB) hS1)
theorem g_iM {Qs : Int32 → gM → gJ → Prop} (hr : va_Run p l e R s m args below meth c H locs 0 0 0 0 (F0 m pc ls st) rest (gQiM E Qs μ a) (gA E)) (hS : va_S (gA E) s.heap H locs)
    (kk : ∀ (r : Int32) (ν : gM) (τ : gJ) (H : Heap) (locs : List Loc), Qs r ν τ → va_P (gD E) vwCl (wl E μ ν τ) H → va_S (gA E) s.heap H locs → W p l e R s m args below meth c H locs 0 0 Q (F0 m (pc + 3) ls (.int r :: rest))) : W p l e R s m args below meth c H locs 0 0 Q (F0 m pc ls st) :=
  va_calli hr hS (fun _ _ h => h) (fun _ h => h) (fun r u t H1 locs1 ht _ hp hB _ _ hS1 => kk r u.1 u.2 H1 locs1 hp (by rw [← ht]; exact hB) hS1)
theorem g_lM {Qs : Int64 → gM → gJ → Prop} (hr : va_Run p l e R s m args below meth c H locs 0 0 0 0 (F0 m pc ls st) rest (gQlM E Qs μ a) (gA E)) (hS : va_S (gA E) s.heap H locs)
    (kk : ∀ (r : Int64) (ν : gM) (τ : gJ) (H : Heap) (locs : List Loc), Qs r ν τ → va_P (gD E) vwCl (wl E μ ν τ) H → va_S (gA E) s.heap H locs → W p l e R s m args below meth c H locs 0 0 Q (F0 m (pc + 3) ls (.long r :: rest))) : W p l e R s m args below meth c H locs 0 0 Q (F0 m pc ls st) :=
  va_calll hr hS (fun _ _ h => h) (fun _ h => h) (fun r u t H1 locs1 ht _ hp hB _ _ hS1 => kk r u.1 u.2 H1 locs1 hp (by rw [← ht]; exact hB) hS1)
theorem g_vM {Qs : gM → gJ → Prop} (hr : va_Run p l e R s m args below meth c H locs 0 0 0 0 (F0 m pc ls st) rest (gQvM E Qs μ a) (gA E)) (hS : va_S (gA E) s.heap H locs)
    (kk : ∀ (ν : gM) (τ : gJ) (H : Heap) (locs : List Loc), Qs ν τ → va_P (gD E) vwCl (wl E μ ν τ) H → va_S (gA E) s.heap H locs → W p l e R s m args below meth c H locs 0 0 Q (F0 m (pc + 3) ls rest)) : W p l e R s m args below meth c H locs 0 0 Q (F0 m pc ls st) :=
  va_callv hr hS (fun _ _ h => h) (fun _ h => h) (fun u t H1 locs1 ht _ hp hB _ _ hS1 => kk u.1 u.2 H1 locs1 hp (by rw [← ht]; exact hB) hS1)
theorem g_iS {Qs : Int32 → Prop} (hr : va_Run p l e R s m args below meth c H locs 0 0 0 0 (F0 m pc ls st) rest (gQiS E Qs μ ν τ a) (gA E)) (hS : va_S (gA E) s.heap H locs)
    (kk : ∀ (r : Int32) (H : Heap) (locs : List Loc), Qs r → va_P (gD E) vwCl (wl E μ ν τ) H → va_S (gA E) s.heap H locs → W p l e R s m args below meth c H locs 0 0 Q (F0 m (pc + 3) ls (.int r :: rest))) : W p l e R s m args below meth c H locs 0 0 Q (F0 m pc ls st) :=
  va_calli hr hS (fun _ _ h => h) (fun _ h => h) (fun r _ t H1 locs1 ht _ hp hB _ _ hS1 => kk r H1 locs1 hp (by rw [← ht]; exact hB) hS1)
/-! ends -/
theorem g_retX {Qs : Int32 → gM → Prop} {ty : FieldType} {v : Int32} (hx : p.tables.exec = Jvm.exec) (hb : c.code = cc) (hr : meth.sig.returnType = some ty) (hk : meth.locks = false) (hP : va_P (gD E) vwCl (wl E μ ν τ) H) (hS : va_S (gA E) s.heap H locs) (hn : narrow ty (.int v) = .int v) (hv : Qs v μ) (hdg : decode cc pc = .ok (.ireturn, 1)) : W p l e R s m args below meth c H locs 0 0 (MQ below (gQiX E Qs ν τ) args s 0 0 (gA E)) (F0 m pc ls [.int v]) :=
  W.zret hx hb hr hn (fun t ht _ => ⟨⟨v, μ, rfl, hv, at_heap ht hP⟩, hS.F ht⟩) hS.2.2 hdg hk
theorem g_retM {Qs : Int32 → gM → gJ → Prop} {ty : FieldType} {v : Int32} (hx : p.tables.exec = Jvm.exec) (hb : c.code = cc) (hr : meth.sig.returnType = some ty) (hk : meth.locks = false) (hP : va_P (gD E) vwCl (wl E μ ν τ) H) (hS : va_S (gA E) s.heap H locs) (hn : narrow ty (.int v) = .int v) (hv : Qs v ν τ) (hdg : decode cc pc = .ok (.ireturn, 1)) : W p l e R s m args below meth c H locs 0 0 (MQ below (gQiM E Qs μ) args s 0 0 (gA E)) (F0 m pc ls [.int v]) :=
  W.zret hx hb hr hn (fun t ht _ => ⟨⟨v, (ν, τ), rfl, hv, at_heap ht hP⟩, hS.F ht⟩) hS.2.2 hdg hk
theorem g_retS {Qs : Int32 → Prop} {ty : FieldType} {v : Int32} (hx : p.tables.exec = Jvm.exec) (hb : c.code = cc) (hr : meth.sig.returnType = some ty) (hk : meth.locks = false) (hP : va_P (gD E) vwCl (wl E μ ν τ) H) (hS : va_S (gA E) s.heap H locs) (hn : narrow ty (.int v) = .int v) (hv : Qs v) (hdg : decode cc pc = .ok (.ireturn, 1)) : W p l e R s m args below meth c H locs 0 0 (MQ below (gQiS E Qs μ ν τ) args s 0 0 (gA E)) (F0 m pc ls [.int v]) :=
  W.zret hx hb hr hn (fun t ht _ => ⟨⟨v, (), rfl, hv, at_heap ht hP⟩, hS.F ht⟩) hS.2.2 hdg hk
theorem g_lretX {Qs : Int64 → gM → Prop} {v : Int64} (hx : p.tables.exec = Jvm.exec) (hb : c.code = cc) (hr : meth.sig.returnType = some .long) (hk : meth.locks = false) (hP : va_P (gD E) vwCl (wl E μ ν τ) H) (hS : va_S (gA E) s.heap H locs) (hv : Qs v μ) (hdg : decode cc pc = .ok (.lreturn, 1)) : W p l e R s m args below meth c H locs 0 0 (MQ below (gQlX E Qs ν τ) args s 0 0 (gA E)) (F0 m pc ls [.long v]) :=
  W.lret hx hb hr (fun t ht _ => ⟨⟨v, μ, rfl, hv, at_heap ht hP⟩, hS.F ht⟩) hS.2.2 hdg hk
theorem g_lretM {Qs : Int64 → gM → gJ → Prop} {v : Int64} (hx : p.tables.exec = Jvm.exec) (hb : c.code = cc) (hr : meth.sig.returnType = some .long) (hk : meth.locks = false) (hP : va_P (gD E) vwCl (wl E μ ν τ) H) (hS : va_S (gA E) s.heap H locs) (hv : Qs v ν τ) (hdg : decode cc pc = .ok (.lreturn, 1)) : W p l e R s m args below meth c H locs 0 0 (MQ below (gQlM E Qs μ) args s 0 0 (gA E)) (F0 m pc ls [.long v]) :=
  W.lret hx hb hr (fun t ht _ => ⟨⟨v, (ν, τ), rfl, hv, at_heap ht hP⟩, hS.F ht⟩) hS.2.2 hdg hk
theorem g_vretX {Qs : gM → Prop} (hx : p.tables.exec = Jvm.exec) (hb : c.code = cc) (hr : meth.sig.returnType = none) (hk : meth.locks = false) (hP : va_P (gD E) vwCl (wl E μ ν τ) H) (hS : va_S (gA E) s.heap H locs) (hv : Qs μ) (hdg : decode cc pc = .ok (.return_, 1)) : W p l e R s m args below meth c H locs 0 0 (MQ below (gQvX E Qs ν τ) args s 0 0 (gA E)) (F0 m pc ls []) :=
  W.vret hx hb hr (fun t ht _ => ⟨⟨μ, rfl, hv, at_heap ht hP⟩, hS.F ht⟩) hS.2.2 hdg hk
theorem g_vretM {Qs : gM → gJ → Prop} (hx : p.tables.exec = Jvm.exec) (hb : c.code = cc) (hr : meth.sig.returnType = none) (hk : meth.locks = false) (hP : va_P (gD E) vwCl (wl E μ ν τ) H) (hS : va_S (gA E) s.heap H locs) (hv : Qs ν τ) (hdg : decode cc pc = .ok (.return_, 1)) : W p l e R s m args below meth c H locs 0 0 (MQ below (gQvM E Qs μ) args s 0 0 (gA E)) (F0 m pc ls []) :=
  W.vret hx hb hr (fun t ht _ => ⟨⟨(ν, τ), rfl, hv, at_heap ht hP⟩, hS.F ht⟩) hS.2.2 hdg hk
end GR
end
