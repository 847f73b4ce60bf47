set_option maxHeartbeats 4000000 in
set_option maxRecDepth 100000 in
theorem mX7_fails {l : Launch} {E : gE} {μ ν : gM} {τ : gJ} {Q : Int32 → gM → gJ → Prop} (hE : gLok E) {a1 : Int32}  (hv : vX7_fails a1 ν τ Q) : Met l yX7_fails (gws yX7_fails cX7_fails 2 (some .int)) (gRm 0 0) (gPc E [.ref (gL E 32), .int a1] μ ν τ) (gQiM E Q μ) 0 0 (gA E) := by
  refine g_entr (lv := [(0, .ref (gL E 32)), (1, .int a1)]) (by decide +kernel) (Nat.le_of_ble_eq_true rfl) rfl (fun p e s m args below meth c ls H locs hx hb hrt hlk C0 hK hP hS hl => ?_)
  have C0 : CallFix p m c cX7_fails 2 s args gTB RX7 := C0
  unfold vX7_fails at hv
  refine lv_aload_n hx hb dX7_fails_0 rfl (lv_at hl 0 rfl) (lv_iload_n hx hb dX7_fails_1 rfl (lv_at hl 1 rfl) (gp_X7_50 hE C0 hK hP hS dX7_fails_2 (fun H locs hP hS => (lv_bipush (v := (-10)) hx hb dX7_fails_5 (by decide) (lv_iload_n hx hb dX7_fails_7 rfl (lv_at hl 1 rfl) (lv_isub hx hb dX7_fails_8 ?_))))))
  exact g_retM hx hb hrt hlk hP hS rfl hv dX7_fails_9
set_option maxHeartbeats 4000000 in
set_option maxRecDepth 100000 in
theorem mX7_lost {l : Launch} {E : gE} {μ ν : gM} {τ : gJ} {Q : Int64 → gM → gJ → Prop} (hE : gLok E) {a1 : Int32}  (hv : vX7_lost a1 ν τ Q) : Met l yX7_lost (gws yX7_lost cX7_lost 2 (some .long)) (gRm 0 0) (gPc E [.ref (gL E 32), .int a1] μ ν τ) (gQlM E Q μ) 0 0 (gA E) := by
  refine g_entr (lv := [(0, .ref (gL E 32)), (1, .int a1)]) (by decide +kernel) (Nat.le_of_ble_eq_true rfl) rfl (fun p e s m args below meth c ls H locs hx hb hrt hlk C0 hK hP hS hl => ?_)
  have C0 : CallFix p m c cX7_lost 2 s args gTB RX7 := C0
  unfold vX7_lost at hv
  refine lv_aload_n hx hb dX7_lost_0 rfl (lv_at hl 0 rfl) (lv_iload_n hx hb dX7_lost_1 rfl (lv_at hl 1 rfl) (gp_X7_50 hE C0 hK hP hS dX7_lost_2 (fun H locs hP hS => (lv_ldc2 (v := -9223372036854775808) hx hb C0.2.2.2.1 (C0.2.2.2.2 _ (gTB_at 837 rfl rfl)) dX7_lost_5 ?_))))
  exact g_lretM hx hb hrt hlk hP hS hv dX7_lost_8
set_option maxHeartbeats 4000000 in
set_option maxRecDepth 100000 in
theorem mX7_within {l : Launch} {E : gE} {μ ν : gM} {τ : gJ} {Q : Int32 → Prop} (hE : gLok E) {a0 : Int32} {a1 : Int32} {a2 : Int32}  (hv : vX7_within a0 a1 a2 Q) : Met l yX7_within (gws yX7_within cX7_within 3 (some .boolean)) (gRm 0 0) (gPc E [.int a0, .int a1, .int a2] μ ν τ) (gQiS E Q μ ν τ) 0 0 (gA E) := by
  refine g_entr (lv := [(0, .int a0), (1, .int a1), (2, .int a2)]) (by decide +kernel) (Nat.le_of_ble_eq_true rfl) rfl (fun p e s m args below meth c ls H locs hx hb hrt hlk C0 hK hP hS hl => ?_)
  have C0 : CallFix p m c cX7_within 3 s args gTB RX7 := C0
  unfold vX7_within at hv
  refine lv_iload_n hx hb dX7_within_0 rfl (lv_at hl 0 rfl) (lv_iload_n hx hb dX7_within_1 rfl (lv_at hl 1 rfl) ?_)
  refine lv_icmp_lt (tgt := 14) hx hb dX7_within_2 (by decide) (fun c680 => ?_) (fun c680 => ?_)
  · have hv := hv.1 c680
    refine lv_iconst (v := 0) hx hb dX7_within_14 (by decide) ?_
    exact g_retS hx hb hrt hlk hP hS rfl hv dX7_within_15
  · have hv := hv.2 c680
    refine lv_iload_n hx hb dX7_within_5 rfl (lv_at hl 0 rfl) (lv_iload_n hx hb dX7_within_6 rfl (lv_at hl 2 rfl) ?_)
    refine lv_icmp_gt (tgt := 14) hx hb dX7_within_7 (by decide) (fun c681 => ?_) (fun c681 => ?_)
    · have hv := hv.1 c681
      refine lv_iconst (v := 0) hx hb dX7_within_14 (by decide) ?_
      exact g_retS hx hb hrt hlk hP hS rfl hv dX7_within_15
    · have hv := hv.2 c681
      refine lv_iconst (v := 1) hx hb dX7_within_10 (by decide) (lv_goto (tgt := 15) hx hb dX7_within_11 (by decide) ?_)
      exact g_retS hx hb hrt hlk hP hS rfl hv dX7_within_15
set_option maxHeartbeats 4000000 in
set_option maxRecDepth 100000 in
theorem mX7_isSheet {l : Launch} {E : gE} {μ ν : gM} {τ : gJ} {Q : Int32 → Prop} (hE : gLok E) {a0 : Int32}  (hv : vX7_isSheet a0 Q) : Met l yX7_isSheet (gws yX7_isSheet cX7_isSheet 1 (some .boolean)) (gRm 1 22) (gPc E [.int a0] μ ν τ) (gQiS E Q μ ν τ) 0 0 (gA E) := by
  refine g_entr (lv := [(0, .int a0)]) (by decide +kernel) (Nat.le_of_ble_eq_true rfl) rfl (fun p e s m args below meth c ls H locs hx hb hrt hlk C0 hK hP hS hl => ?_)
  have C0 : CallFix p m c cX7_isSheet 1 s args gTB RX7 := C0
  unfold vX7_isSheet at hv
  refine lv_iload_n hx hb dX7_isSheet_0 rfl (lv_at hl 0 rfl) (lv_iconst (v := 0) hx hb dX7_isSheet_1 (by decide) (lv_iconst (v := 3) hx hb dX7_isSheet_2 (by decide) ?_))
  refine g_iS (g_bS (As := [.int a0, .int 0, .int 3]) (rest := []) C0 hK hP kX7_within ql_X7_56 (mX7_within hE hv) rfl hl.1 rfl (Nat.le_of_ble_eq_true rfl) ⟨rfl, rfl, Nat.le_of_ble_eq_true rfl, Nat.le_of_ble_eq_true rfl⟩ dX7_isSheet_3) hS (fun x682 H locs hv hP hS => ?_)
  exact g_retS hx hb hrt hlk hP hS hv.1 hv.2 dX7_isSheet_6
set_option maxHeartbeats 4000000 in
set_option maxRecDepth 100000 in
theorem mX7_isSort {l : Launch} {E : gE} {μ ν : gM} {τ : gJ} {Q : Int32 → Prop} (hE : gLok E) {a0 : Int32}  (hv : vX7_isSort a0 Q) : Met l yX7_isSort (gws yX7_isSort cX7_isSort 1 (some .boolean)) (gRm 1 22) (gPc E [.int a0] μ ν τ) (gQiS E Q μ ν τ) 0 0 (gA E) := by
  refine g_entr (lv := [(0, .int a0)]) (by decide +kernel) (Nat.le_of_ble_eq_true rfl) rfl (fun p e s m args below meth c ls H locs hx hb hrt hlk C0 hK hP hS hl => ?_)
  have C0 : CallFix p m c cX7_isSort 1 s args gTB RX7 := C0
  unfold vX7_isSort at hv
  refine lv_iload_n hx hb dX7_isSort_0 rfl (lv_at hl 0 rfl) (lv_iconst (v := 0) hx hb dX7_isSort_1 (by decide) (lv_iconst (v := 2) hx hb dX7_isSort_2 (by decide) ?_))
  refine g_iS (g_bS (As := [.int a0, .int 0, .int 2]) (rest := []) C0 hK hP kX7_within ql_X7_56 (mX7_within hE hv) rfl hl.1 rfl (Nat.le_of_ble_eq_true rfl) ⟨rfl, rfl, Nat.le_of_ble_eq_true rfl, Nat.le_of_ble_eq_true rfl⟩ dX7_isSort_3) hS (fun x683 H locs hv hP hS => ?_)
  exact g_retS hx hb hrt hlk hP hS hv.1 hv.2 dX7_isSort_6
set_option maxHeartbeats 4000000 in
set_option maxRecDepth 100000 in
theorem mX7_against {l : Launch} {E : gE} {μ ν : gM} {τ : gJ} {Q : Int32 → gM → gJ → Prop} (hE : gLok E) {a1 : Int32} {a2 : Int32} {a3 : Int32} {a4 : Int32}  (hv : vX7_against a1 a2 a3 a4 ν τ Q) : Met l yX7_against (gws yX7_against cX7_against 5 (some .int)) (gRm 0 0) (gPc E [.ref (gL E 32), .int a1, .int a2, .int a3, .int a4] μ ν τ) (gQiM E Q μ) 0 0 (gA E) := by
  refine g_entr (lv := [(0, .ref (gL E 32)), (1, .int a1), (2, .int a2), (3, .int a3), (4, .int a4)]) (by decide +kernel) (Nat.le_of_ble_eq_true rfl) rfl (fun p e s m args below meth c ls H locs hx hb hrt hlk C0 hK hP hS hl => ?_)
  have C0 : CallFix p m c cX7_against 5 s args gTB RX7 := C0
  have h_23 : ∀  (ν : gM) (τ : gJ) (H : Heap) (locs : List Loc) (ls : Array Slot), va_P (gD E) vwCl (wl E μ ν τ) H → va_S (gA E) s.heap H locs → lv_has ls 5 [(0, .ref (gL E 32)), (1, .int a1), (3, .int a3), (4, .int a4)] → vX7_against_23 a1 a2 a3 a4 Q ν τ → W p l e (gRm 0 0) s m args below meth c H locs 0 0 (MQ below (gQiM E Q μ) args s 0 0 (gA E)) (F0 m 23 ls []) := by
    intro ν τ H locs ls hP hS hl hv
    unfold vX7_against_23 at hv
    refine lv_aload_n hx hb dX7_against_23 rfl (lv_at hl 0 rfl) (gg_X7_9 C0 hK hP dX7_against_24 (lv_iload_n hx hb dX7_against_27 rfl (lv_at hl 1 rfl) ?_))
    have hi688 := hv.1
    have hv := hv.2
    refine g_iald hx hb hK hP (by decide) ga_33 hi688 dX7_against_28 (lv_bipush (v := (-9)) hx hb dX7_against_29 (by decide) ?_)
    refine lv_icmp_ne (tgt := 36) hx hb dX7_against_31 (by decide) (fun c689 => ?_) (fun c689 => ?_)
    · have hv := hv.1 c689
      refine lv_iload hx hb dX7_against_36 (lv_at hl 3 rfl) ?_
      refine lv_if_ge (tgt := 43) hx hb dX7_against_38 (by decide) (fun c690 => ?_) (fun c690 => ?_)
      · have hv := hv.1 c690
        refine lv_iload_n hx hb dX7_against_43 rfl (lv_at hl 2 rfl) ?_
        refine lv_if_lt (tgt := 70) hx hb dX7_against_44 (by decide) (fun c691 => ?_) (fun c691 => ?_)
        · have hv := hv.1 c691
          refine lv_iconst (v := 3) hx hb dX7_against_70 (by decide) (lv_goto (tgt := 75) hx hb dX7_against_71 (by decide) ?_)
          exact g_retM hx hb hrt hlk hP hS rfl hv dX7_against_75
        · have hv := hv.2 c691
          refine lv_iload_n hx hb dX7_against_47 rfl (lv_at hl 2 rfl) (lv_aload_n hx hb dX7_against_48 rfl (lv_at hl 0 rfl) (gg_X7_13 C0 hK hP dX7_against_49 (lv_iload_n hx hb dX7_against_52 rfl (lv_at hl 1 rfl) ?_)))
          have hi692 := hv.1
          have hv := hv.2
          refine g_iald hx hb hK hP (by decide) ga_34 hi692 dX7_against_53 ?_
          refine lv_icmp_gt (tgt := 70) hx hb dX7_against_54 (by decide) (fun c693 => ?_) (fun c693 => ?_)
          · have hv := hv.1 c693
            refine lv_iconst (v := 3) hx hb dX7_against_70 (by decide) (lv_goto (tgt := 75) hx hb dX7_against_71 (by decide) ?_)
            exact g_retM hx hb hrt hlk hP hS rfl hv dX7_against_75
          · have hv := hv.2 c693
            refine lv_iload hx hb dX7_against_57 (lv_at hl 3 rfl) (lv_aload_n hx hb dX7_against_59 rfl (lv_at hl 0 rfl) (gg_X7_13 C0 hK hP dX7_against_60 (lv_iload_n hx hb dX7_against_63 rfl (lv_at hl 1 rfl) ?_)))
            have hi694 := hv.1
            have hv := hv.2
            refine g_iald hx hb hK hP (by decide) ga_34 hi694 dX7_against_64 (lv_iload_n hx hb dX7_against_65 rfl (lv_at hl 2 rfl) (lv_isub hx hb dX7_against_66 ?_))
            refine lv_icmp_le (tgt := 74) hx hb dX7_against_67 (by decide) (fun c695 => ?_) (fun c695 => ?_)
            · have hv := hv.1 c695
              refine lv_iconst (v := 0) hx hb dX7_against_74 (by decide) ?_
              exact g_retM hx hb hrt hlk hP hS rfl hv dX7_against_75
            · have hv := hv.2 c695
              refine lv_iconst (v := 3) hx hb dX7_against_70 (by decide) (lv_goto (tgt := 75) hx hb dX7_against_71 (by decide) ?_)
              exact g_retM hx hb hrt hlk hP hS rfl hv dX7_against_75
      · have hv := hv.2 c690
        refine lv_iconst (v := 4) hx hb dX7_against_41 (by decide) ?_
        exact g_retM hx hb hrt hlk hP hS rfl hv dX7_against_42
    · have hv := hv.2 c689
      refine lv_iconst (v := 1) hx hb dX7_against_34 (by decide) ?_
      exact g_retM hx hb hrt hlk hP hS rfl hv dX7_against_35
  unfold vX7_against at hv
  refine lv_aload_n hx hb dX7_against_0 rfl (lv_at hl 0 rfl) (gg_X7_9 C0 hK hP dX7_against_1 (lv_iload_n hx hb dX7_against_4 rfl (lv_at hl 1 rfl) ?_))
  have hi684 := hv.1
  have hv := hv.2
  refine g_iald hx hb hK hP (by decide) ga_33 hi684 dX7_against_5 (lv_bipush (v := (-9)) hx hb dX7_against_6 (by decide) ?_)
  refine lv_icmp_eq (tgt := 23) hx hb dX7_against_8 (by decide) (fun c685 => ?_) (fun c685 => ?_)
  · have hv := hv.1 c685
    exact h_23 ν τ H locs ls hP hS (lv_sub hl [0, 1, 3, 4] rfl) hv
  · have hv := hv.2 c685
    refine lv_aload_n hx hb dX7_against_11 rfl (lv_at hl 0 rfl) (gg_X7_9 C0 hK hP dX7_against_12 (lv_iload_n hx hb dX7_against_15 rfl (lv_at hl 1 rfl) ?_))
    have hi686 := hv.1
    have hv := hv.2
    refine g_iald hx hb hK hP (by decide) ga_33 hi686 dX7_against_16 (lv_iload_n hx hb dX7_against_17 rfl (lv_at hl 2 rfl) ?_)
    refine lv_icmp_eq (tgt := 23) hx hb dX7_against_18 (by decide) (fun c687 => ?_) (fun c687 => ?_)
    · have hv := hv.1 c687
      exact h_23 ν τ H locs ls hP hS (lv_sub hl [0, 1, 3, 4] rfl) hv
    · have hv := hv.2 c687
      refine lv_iconst (v := 2) hx hb dX7_against_21 (by decide) ?_
      exact g_retM hx hb hrt hlk hP hS rfl hv dX7_against_22
set_option maxHeartbeats 4000000 in
set_option maxRecDepth 100000 in
theorem mX7_isBeat {l : Launch} {E : gE} {μ ν : gM} {τ : gJ} {Q : Int32 → gM → gJ → Prop} (hE : gLok E) {a1 : Int32}  (hv : vX7_isBeat a1 ν τ Q) : Met l yX7_isBeat (gws yX7_isBeat cX7_isBeat 2 (some .boolean)) (gRm 0 0) (gPc E [.ref (gL E 32), .int a1] μ ν τ) (gQiM E Q μ) 0 0 (gA E) := by
  refine g_entr (lv := [(0, .ref (gL E 32)), (1, .int a1)]) (by decide +kernel) (Nat.le_of_ble_eq_true rfl) rfl (fun p e s m args below meth c ls H locs hx hb hrt hlk C0 hK hP hS hl => ?_)
  have C0 : CallFix p m c cX7_isBeat 2 s args gTB RX7 := C0
  unfold vX7_isBeat at hv
  refine lv_iload_n hx hb dX7_isBeat_0 rfl (lv_at hl 1 rfl) ?_
  refine lv_if_lt (tgt := 16) hx hb dX7_isBeat_1 (by decide) (fun c696 => ?_) (fun c696 => ?_)
  · have hv := hv.1 c696
    refine lv_iconst (v := 0) hx hb dX7_isBeat_16 (by decide) ?_
    exact g_retM hx hb hrt hlk hP hS rfl hv dX7_isBeat_17
  · have hv := hv.2 c696
    refine lv_iload_n hx hb dX7_isBeat_4 rfl (lv_at hl 1 rfl) (lv_aload_n hx hb dX7_isBeat_5 rfl (lv_at hl 0 rfl) (gg_X7_60 C0 hK hP dX7_isBeat_6 ?_))
    refine lv_icmp_ge (tgt := 16) hx hb dX7_isBeat_9 (by decide) (fun c697 => ?_) (fun c697 => ?_)
    · have hv := hv.1 c697
      refine lv_iconst (v := 0) hx hb dX7_isBeat_16 (by decide) ?_
      exact g_retM hx hb hrt hlk hP hS rfl hv dX7_isBeat_17
    · have hv := hv.2 c697
      refine lv_iconst (v := 1) hx hb dX7_isBeat_12 (by decide) (lv_goto (tgt := 17) hx hb dX7_isBeat_13 (by decide) ?_)
      exact g_retM hx hb hrt hlk hP hS rfl hv dX7_isBeat_17
set_option maxHeartbeats 4000000 in
set_option maxRecDepth 100000 in
theorem mX7_pattern {l : Launch} {E : gE} {μ ν : gM} {τ : gJ} {Q : Int32 → gM → gJ → Prop} (hE : gLok E) {a1 : Int32} {a2 : Int32} {a3 : Int32} {a4 : Int32}  (hv : vX7_pattern a1 a2 a3 a4 ν τ Q) : Met l yX7_pattern (gws yX7_pattern cX7_pattern 9 (some .int)) (gRm 2 42) (gPc E [.ref (gL E 32), .int a1, .int a2, .int a3, .int a4] μ ν τ) (gQiM E Q μ) 0 0 (gA E) := by
  refine g_entr (lv := [(0, .ref (gL E 32)), (1, .int a1), (2, .int a2), (3, .int a3), (4, .int a4)]) (by decide +kernel) (Nat.le_of_ble_eq_true rfl) rfl (fun p e s m args below meth c ls H locs hx hb hrt hlk C0 hK hP hS hl => ?_)
  have C0 : CallFix p m c cX7_pattern 9 s args gTB RX7 := C0
  have h_171 : ∀ (n_171 : Nat) (v7 : Int32) (v8 : Int32) (ν : gM) (τ : gJ) (H : Heap) (locs : List Loc) (ls : Array Slot), va_P (gD E) vwCl (wl E μ ν τ) H → va_S (gA E) s.heap H locs → lv_has ls 9 [(0, .ref (gL E 32)), (7, .int v7), (8, .int v8)] → vX7_pattern_171 a1 a2 a3 a4 Q n_171 v7 v8 ν τ → W p l e (gRm 2 42) s m args below meth c H locs 0 0 (MQ below (gQiM E Q μ) args s 0 0 (gA E)) (F0 m 171 ls []) := by
    intro n_171
    induction n_171 with
    | zero =>
      intro v7 v8 ν τ H locs ls hP hS hl hv
      exact False.elim hv
    | succ n_171 ih_171 =>
      intro v7 v8 ν τ H locs ls hP hS hl hv
      have hv : vX7_pattern_171B a1 a2 a3 a4 Q (vX7_pattern_171 a1 a2 a3 a4 Q n_171) v7 v8 ν τ := hv
      unfold vX7_pattern_171B at hv
      refine lv_iload hx hb dX7_pattern_171 (lv_at hl 2 rfl) (lv_bipush (v := 10) hx hb dX7_pattern_173 (by decide) ?_)
      refine lv_icmp_ge (tgt := 192) hx hb dX7_pattern_175 (by decide) (fun c723 => ?_) (fun c723 => ?_)
      · have hv := hv.1 c723
        refine lv_iload hx hb dX7_pattern_192 (lv_at hl 1 rfl) ?_
        exact g_retM hx hb hrt hlk hP hS rfl hv dX7_pattern_194
      · have hv := hv.2 c723
        refine lv_aload_n hx hb dX7_pattern_178 rfl (lv_at hl 0 rfl) (gg_X7_22 C0 hK hP dX7_pattern_179 (lv_iload hx hb dX7_pattern_182 (lv_at hl 2 rfl) (lv_iconst (v := 0) hx hb dX7_pattern_184 (by decide) ?_)))
        have hi724 := hv.1
        have hv := hv.2
        refine g_iastM hE hx hb hK hP hS (by decide) (fun _ => ga_37) hi724 dX7_pattern_185 (fun H locs hP hS => (lv_iinc (v := (v8 + 1)) (lv' := [(8, .int (v8 + 1)), (0, .ref (gL E 32)), (7, .int v7)]) hx hb dX7_pattern_186 hl (k := 2) rfl rfl (by decide) rfl (fun ls hl => (lv_goto (tgt := 171) hx hb dX7_pattern_189 (by decide) ?_))))
        exact ih_171 v7 (v8 + 1) (up2 ν 37 v8.toNatClampNeg 0) τ H locs ls hP hS (lv_sub hl [1, 2, 0] rfl) hv
  have h_125 : ∀ (n_125 : Nat) (v6 : Int32) (v7 : Int32) (v8 : Int32) (ν : gM) (τ : gJ) (H : Heap) (locs : List Loc) (ls : Array Slot), va_P (gD E) vwCl (wl E μ ν τ) H → va_S (gA E) s.heap H locs → lv_has ls 9 [(0, .ref (gL E 32)), (6, .int v6), (7, .int v7), (8, .int v8)] → vX7_pattern_125 a1 a2 a3 a4 Q n_125 v6 v7 v8 ν τ → W p l e (gRm 2 42) s m args below meth c H locs 0 0 (MQ below (gQiM E Q μ) args s 0 0 (gA E)) (F0 m 125 ls []) := by
    intro n_125
    induction n_125 with
    | zero =>
      intro v6 v7 v8 ν τ H locs ls hP hS hl hv
      exact False.elim hv
    | succ n_125 ih_125 =>
      intro v6 v7 v8 ν τ H locs ls hP hS hl hv
      have hv : vX7_pattern_125B a1 a2 a3 a4 Q (vX7_pattern_125 a1 a2 a3 a4 Q n_125) v6 v7 v8 ν τ := hv
      unfold vX7_pattern_125B at hv
      refine lv_iload hx hb dX7_pattern_125 (lv_at hl 3 rfl) (lv_iload hx hb dX7_pattern_127 (lv_at hl 2 rfl) ?_)
      refine lv_icmp_ge (tgt := 158) hx hb dX7_pattern_129 (by decide) (fun c720 => ?_) (fun c720 => ?_)
      · have hv := hv.1 c720
        refine lv_aload_n hx hb dX7_pattern_158 rfl (lv_at hl 0 rfl) (lv_iconst (v := 2) hx hb dX7_pattern_159 (by decide) (gp_X7_78 hE C0 hK hP hS dX7_pattern_160 (fun H locs hP hS => (lv_aload_n hx hb dX7_pattern_163 rfl (lv_at hl 0 rfl) (lv_iconst (v := 0) hx hb dX7_pattern_164 (by decide) (gp_X7_81 hE C0 hK hP hS dX7_pattern_165 (fun H locs hP hS => (lv_iconst (v := 0) hx hb dX7_pattern_168 (by decide) (lv_istore (lv' := [(8, .int 0), (0, .ref (gL E 32)), (6, .int v6), (7, .int v7)]) hx hb dX7_pattern_169 hl (by decide) rfl (fun ls hl => ?_))))))))))
        obtain ⟨nf, hv⟩ := hv
        exact h_171 nf v7 0 (up2 (up2 ν 32 7 2) 32 9 0) τ H locs ls hP hS (lv_sub hl [1, 3, 0] rfl) hv
      · have hv := hv.2 c720
        refine lv_aload_n hx hb dX7_pattern_132 rfl (lv_at hl 0 rfl) (gg_X7_19 C0 hK hP dX7_pattern_133 (lv_iload hx hb dX7_pattern_136 (lv_at hl 3 rfl) (lv_aload_n hx hb dX7_pattern_138 rfl (lv_at hl 0 rfl) (gg_X7_16 C0 hK hP dX7_pattern_139 (lv_iload hx hb dX7_pattern_142 (lv_at hl 1 rfl) (lv_iload hx hb dX7_pattern_144 (lv_at hl 3 rfl) (lv_iadd hx hb dX7_pattern_146 ?_)))))))
        have hi721 := hv.1
        have hv := hv.2
        refine g_iald hx hb hK hP (by decide) ga_35 hi721 dX7_pattern_147 (lv_bipush (v := 48) hx hb dX7_pattern_148 (by decide) (lv_isub hx hb dX7_pattern_150 ?_))
        have hi722 := hv.1
        have hv := hv.2
        refine g_iastM hE hx hb hK hP hS (by decide) (fun _ => ga_36) hi722 dX7_pattern_151 (fun H locs hP hS => (lv_iinc (v := (v8 + 1)) (lv' := [(8, .int (v8 + 1)), (0, .ref (gL E 32)), (6, .int v6), (7, .int v7)]) hx hb dX7_pattern_152 hl (k := 3) rfl rfl (by decide) rfl (fun ls hl => (lv_goto (tgt := 125) hx hb dX7_pattern_155 (by decide) ?_))))
        exact ih_125 v6 v7 (v8 + 1) (up2 ν 36 v8.toNatClampNeg ((ν 35 (v6 + v8).toNatClampNeg) - 48)) τ H locs ls hP hS (lv_sub hl [1, 2, 3, 0] rfl) hv
  have h_58 : ∀ (n_58 : Nat) (v6 : Int32) (v7 : Int32) (ν : gM) (τ : gJ) (H : Heap) (locs : List Loc) (ls : Array Slot), va_P (gD E) vwCl (wl E μ ν τ) H → va_S (gA E) s.heap H locs → lv_has ls 9 [(0, .ref (gL E 32)), (4, .int a4), (6, .int v6), (7, .int v7)] → vX7_pattern_58 a1 a2 a3 a4 Q n_58 v6 v7 ν τ → W p l e (gRm 2 42) s m args below meth c H locs 0 0 (MQ below (gQiM E Q μ) args s 0 0 (gA E)) (F0 m 58 ls []) := by
    intro n_58
    induction n_58 with
    | zero =>
      intro v6 v7 ν τ H locs ls hP hS hl hv
      exact False.elim hv
    | succ n_58 ih_58 =>
      intro v6 v7 ν τ H locs ls hP hS hl hv
      have hv : vX7_pattern_58B a1 a2 a3 a4 Q (vX7_pattern_58 a1 a2 a3 a4 Q n_58) v6 v7 ν τ := hv
      unfold vX7_pattern_58B at hv
      refine lv_iload hx hb dX7_pattern_58 (lv_at hl 3 rfl) (lv_iload hx hb dX7_pattern_60 (lv_at hl 1 rfl) ?_)
      refine lv_icmp_ge (tgt := 98) hx hb dX7_pattern_62 (by decide) (fun c709 => ?_) (fun c709 => ?_)
      · have hv := hv.1 c709
        refine lv_iload hx hb dX7_pattern_98 (lv_at hl 3 rfl) (lv_iload hx hb dX7_pattern_100 (lv_at hl 1 rfl) ?_)
        refine lv_icmp_lt (tgt := 110) hx hb dX7_pattern_102 (by decide) (fun c710 => ?_) (fun c710 => ?_)
        · have hv := hv.1 c710
          refine lv_bipush (v := (-100)) hx hb dX7_pattern_110 (by decide) (lv_iload hx hb dX7_pattern_112 (lv_at hl 3 rfl) (lv_isub hx hb dX7_pattern_114 ?_))
          exact g_retM hx hb hrt hlk hP hS rfl hv dX7_pattern_115
        · have hv := hv.2 c710
          refine lv_iload hx hb dX7_pattern_105 (lv_at hl 3 rfl) ?_
          refine lv_if_ne (tgt := 116) hx hb dX7_pattern_107 (by decide) (fun c711 => ?_) (fun c711 => ?_)
          · have hv := hv.1 c711
            refine lv_aload_n hx hb dX7_pattern_116 rfl (lv_at hl 0 rfl) (lv_iload hx hb dX7_pattern_117 (lv_at hl 3 rfl) (gp_X7_60 hE C0 hK hP hS dX7_pattern_119 (fun H locs hP hS => (lv_iconst (v := 0) hx hb dX7_pattern_122 (by decide) (lv_istore (lv' := [(8, .int 0), (0, .ref (gL E 32)), (4, .int a4), (6, .int v6), (7, .int v7)]) hx hb dX7_pattern_123 hl (by decide) rfl (fun ls hl => ?_))))))
            obtain ⟨nf, hv⟩ := hv
            exact h_125 nf v6 v7 0 (up2 ν 32 5 v7) τ H locs ls hP hS (lv_sub hl [1, 3, 4, 0] rfl) hv
          · have hv := hv.2 c711
            refine lv_bipush (v := (-100)) hx hb dX7_pattern_110 (by decide) (lv_iload hx hb dX7_pattern_112 (lv_at hl 3 rfl) (lv_isub hx hb dX7_pattern_114 ?_))
            exact g_retM hx hb hrt hlk hP hS rfl hv dX7_pattern_115
      · have hv := hv.2 c709
        refine lv_iload hx hb dX7_pattern_65 (lv_at hl 3 rfl) (lv_bipush (v := 8) hx hb dX7_pattern_67 (by decide) ?_)
        refine lv_icmp_ge (tgt := 98) hx hb dX7_pattern_69 (by decide) (fun c712 => ?_) (fun c712 => ?_)
        · have hv := hv.1 c712
          refine lv_iload hx hb dX7_pattern_98 (lv_at hl 3 rfl) (lv_iload hx hb dX7_pattern_100 (lv_at hl 1 rfl) ?_)
          refine lv_icmp_lt (tgt := 110) hx hb dX7_pattern_102 (by decide) (fun c713 => ?_) (fun c713 => ?_)
          · have hv := hv.1 c713
            refine lv_bipush (v := (-100)) hx hb dX7_pattern_110 (by decide) (lv_iload hx hb dX7_pattern_112 (lv_at hl 3 rfl) (lv_isub hx hb dX7_pattern_114 ?_))
            exact g_retM hx hb hrt hlk hP hS rfl hv dX7_pattern_115
          · have hv := hv.2 c713
            refine lv_iload hx hb dX7_pattern_105 (lv_at hl 3 rfl) ?_
            refine lv_if_ne (tgt := 116) hx hb dX7_pattern_107 (by decide) (fun c714 => ?_) (fun c714 => ?_)
            · have hv := hv.1 c714
              refine lv_aload_n hx hb dX7_pattern_116 rfl (lv_at hl 0 rfl) (lv_iload hx hb dX7_pattern_117 (lv_at hl 3 rfl) (gp_X7_60 hE C0 hK hP hS dX7_pattern_119 (fun H locs hP hS => (lv_iconst (v := 0) hx hb dX7_pattern_122 (by decide) (lv_istore (lv' := [(8, .int 0), (0, .ref (gL E 32)), (4, .int a4), (6, .int v6), (7, .int v7)]) hx hb dX7_pattern_123 hl (by decide) rfl (fun ls hl => ?_))))))
              obtain ⟨nf, hv⟩ := hv
              exact h_125 nf v6 v7 0 (up2 ν 32 5 v7) τ H locs ls hP hS (lv_sub hl [1, 3, 4, 0] rfl) hv
            · have hv := hv.2 c714
              refine lv_bipush (v := (-100)) hx hb dX7_pattern_110 (by decide) (lv_iload hx hb dX7_pattern_112 (lv_at hl 3 rfl) (lv_isub hx hb dX7_pattern_114 ?_))
              exact g_retM hx hb hrt hlk hP hS rfl hv dX7_pattern_115
        · have hv := hv.2 c712
          refine lv_aload_n hx hb dX7_pattern_72 rfl (lv_at hl 0 rfl) (gg_X7_16 C0 hK hP dX7_pattern_73 (lv_iload hx hb dX7_pattern_76 (lv_at hl 2 rfl) (lv_iload hx hb dX7_pattern_78 (lv_at hl 3 rfl) (lv_iadd hx hb dX7_pattern_80 ?_))))
          have hi715 := hv.1
          have hv := hv.2
          refine g_iald hx hb hK hP (by decide) ga_35 hi715 dX7_pattern_81 (lv_bipush (v := 48) hx hb dX7_pattern_82 (by decide) (lv_bipush (v := 57) hx hb dX7_pattern_84 (by decide) ?_))
          refine g_iS (g_bS (As := [.int (ν 35 (v6 + v7).toNatClampNeg), .int 48, .int 57]) (rest := []) C0 hK hP kX7_within ql_X7_56 (mX7_within hE hv) rfl hl.1 rfl (Nat.le_of_ble_eq_true rfl) ⟨rfl, rfl, Nat.le_of_ble_eq_true rfl, Nat.le_of_ble_eq_true rfl⟩ dX7_pattern_86) hS (fun x716 H locs hv hP hS => ?_)
          refine lv_if_eq (tgt := 98) hx hb dX7_pattern_89 (by decide) (fun c717 => ?_) (fun c717 => ?_)
          · have hv := hv.1 c717
            refine lv_iload hx hb dX7_pattern_98 (lv_at hl 3 rfl) (lv_iload hx hb dX7_pattern_100 (lv_at hl 1 rfl) ?_)
            refine lv_icmp_lt (tgt := 110) hx hb dX7_pattern_102 (by decide) (fun c718 => ?_) (fun c718 => ?_)
            · have hv := hv.1 c718
              refine lv_bipush (v := (-100)) hx hb dX7_pattern_110 (by decide) (lv_iload hx hb dX7_pattern_112 (lv_at hl 3 rfl) (lv_isub hx hb dX7_pattern_114 ?_))
              exact g_retM hx hb hrt hlk hP hS rfl hv dX7_pattern_115
            · have hv := hv.2 c718
              refine lv_iload hx hb dX7_pattern_105 (lv_at hl 3 rfl) ?_
              refine lv_if_ne (tgt := 116) hx hb dX7_pattern_107 (by decide) (fun c719 => ?_) (fun c719 => ?_)
              · have hv := hv.1 c719
                refine lv_aload_n hx hb dX7_pattern_116 rfl (lv_at hl 0 rfl) (lv_iload hx hb dX7_pattern_117 (lv_at hl 3 rfl) (gp_X7_60 hE C0 hK hP hS dX7_pattern_119 (fun H locs hP hS => (lv_iconst (v := 0) hx hb dX7_pattern_122 (by decide) (lv_istore (lv' := [(8, .int 0), (0, .ref (gL E 32)), (4, .int a4), (6, .int v6), (7, .int v7)]) hx hb dX7_pattern_123 hl (by decide) rfl (fun ls hl => ?_))))))
                obtain ⟨nf, hv⟩ := hv
                exact h_125 nf v6 v7 0 (up2 ν 32 5 v7) τ H locs ls hP hS (lv_sub hl [1, 3, 4, 0] rfl) hv
              · have hv := hv.2 c719
                refine lv_bipush (v := (-100)) hx hb dX7_pattern_110 (by decide) (lv_iload hx hb dX7_pattern_112 (lv_at hl 3 rfl) (lv_isub hx hb dX7_pattern_114 ?_))
                exact g_retM hx hb hrt hlk hP hS rfl hv dX7_pattern_115
          · have hv := hv.2 c717
            refine lv_iinc (v := (v7 + 1)) (lv' := [(7, .int (v7 + 1)), (0, .ref (gL E 32)), (4, .int a4), (6, .int v6)]) hx hb dX7_pattern_92 hl (k := 3) rfl rfl (by decide) rfl (fun ls hl => (lv_goto (tgt := 58) hx hb dX7_pattern_95 (by decide) ?_))
            exact ih_58 v6 (v7 + 1) ν τ H locs ls hP hS (lv_sub hl [1, 2, 3, 0] rfl) hv
  unfold vX7_pattern at hv
  refine lv_aload_n hx hb dX7_pattern_0 rfl (lv_at hl 0 rfl) (lv_iconst (v := 0) hx hb dX7_pattern_1 (by decide) (gp_X7_50 hE C0 hK hP hS dX7_pattern_2 (fun H locs hP hS => (lv_iload_n hx hb dX7_pattern_5 rfl (lv_at hl 1 rfl) ?_))))
  refine g_iS (g_bS (As := [.int a1]) (rest := []) C0 hK hP kX7_isSheet ql_X7_63 (mX7_isSheet hE hv) rfl hl.1 rfl (Nat.le_of_ble_eq_true rfl) ⟨rfl, rfl, Nat.le_of_ble_eq_true rfl, Nat.le_of_ble_eq_true rfl⟩ dX7_pattern_6) hS (fun x698 H locs hv hP hS => ?_)
  refine lv_if_ne (tgt := 14) hx hb dX7_pattern_9 (by decide) (fun c699 => ?_) (fun c699 => ?_)
  · have hv := hv.1 c699
    refine lv_iload_n hx hb dX7_pattern_14 rfl (lv_at hl 2 rfl) ?_
    refine g_iS (g_bS (As := [.int a2]) (rest := []) C0 hK hP kX7_isSort ql_X7_67 (mX7_isSort hE hv) rfl hl.1 rfl (Nat.le_of_ble_eq_true rfl) ⟨rfl, rfl, Nat.le_of_ble_eq_true rfl, Nat.le_of_ble_eq_true rfl⟩ dX7_pattern_15) hS (fun x700 H locs hv hP hS => ?_)
    refine lv_if_ne (tgt := 24) hx hb dX7_pattern_18 (by decide) (fun c701 => ?_) (fun c701 => ?_)
    · have hv := hv.1 c701
      refine lv_aload_n hx hb dX7_pattern_24 rfl (lv_at hl 0 rfl) (lv_iload_n hx hb dX7_pattern_25 rfl (lv_at hl 1 rfl) (lv_iload_n hx hb dX7_pattern_26 rfl (lv_at hl 2 rfl) (lv_iload_n hx hb dX7_pattern_27 rfl (lv_at hl 3 rfl) (lv_iload hx hb dX7_pattern_28 (lv_at hl 4 rfl) ?_))))
      refine g_iM (g_bV (As := [.int a1, .int a2, .int a3, .int a4]) (rest := []) C0 hK hP kX7_against ql_X7_70 (mX7_against hE hv) (by decide) ge_X7 rfl rfl hl.1 rfl (Nat.le_of_ble_eq_true rfl) ⟨rfl, rfl, Nat.le_of_ble_eq_true rfl, Nat.le_of_ble_eq_true rfl⟩ dX7_pattern_30) hS (fun x702 ν703 τ704 H locs hv hP hS => ?_)
      refine lv_istore (lv' := [(5, .int x702), (0, .ref (gL E 32)), (1, .int a1), (2, .int a2), (3, .int a3), (4, .int a4)]) hx hb dX7_pattern_33 hl (by decide) rfl (fun ls hl => (lv_iload hx hb dX7_pattern_35 (lv_at hl 0 rfl) ?_))
      refine lv_if_eq (tgt := 47) hx hb dX7_pattern_37 (by decide) (fun c705 => ?_) (fun c705 => ?_)
      · have hv := hv.1 c705
        refine lv_bipush (v := 40) hx hb dX7_pattern_47 (by decide) (lv_iload_n hx hb dX7_pattern_49 rfl (lv_at hl 2 rfl) (lv_imul hx hb dX7_pattern_50 (lv_iload_n hx hb dX7_pattern_51 rfl (lv_at hl 4 rfl) (lv_iadd hx hb dX7_pattern_52 (lv_istore (lv' := [(6, .int ((40 * a1) + a3)), (5, .int x702), (0, .ref (gL E 32)), (1, .int a1), (2, .int a2), (3, .int a3), (4, .int a4)]) hx hb dX7_pattern_53 hl (by decide) rfl (fun ls hl => (lv_iconst (v := 0) hx hb dX7_pattern_55 (by decide) (lv_istore (lv' := [(7, .int 0), (6, .int ((40 * a1) + a3)), (5, .int x702), (0, .ref (gL E 32)), (1, .int a1), (2, .int a2), (3, .int a3), (4, .int a4)]) hx hb dX7_pattern_56 hl (by decide) rfl (fun ls hl => ?_)))))))))
        obtain ⟨nf, hv⟩ := hv
        exact h_58 nf ((40 * a1) + a3) 0 ν703 τ704 H locs ls hP hS (lv_sub hl [3, 7, 1, 0] rfl) hv
      · have hv := hv.2 c705
        refine lv_aload_n hx hb dX7_pattern_40 rfl (lv_at hl 1 rfl) (lv_iload hx hb dX7_pattern_41 (lv_at hl 0 rfl) ?_)
        refine g_iM (g_bV (As := [.int x702]) (rest := []) C0 hK hP kX7_fails ql_X7_74 (mX7_fails hE hv) (by decide) ge_X7 rfl rfl hl.1 rfl (Nat.le_of_ble_eq_true rfl) ⟨rfl, rfl, Nat.le_of_ble_eq_true rfl, Nat.le_of_ble_eq_true rfl⟩ dX7_pattern_43) hS (fun x706 ν707 τ708 H locs hv hP hS => ?_)
        exact g_retM hx hb hrt hlk hP hS rfl hv dX7_pattern_46
    · have hv := hv.2 c701
      refine lv_bipush (v := (-2)) hx hb dX7_pattern_21 (by decide) ?_
      exact g_retM hx hb hrt hlk hP hS rfl hv dX7_pattern_23
  · have hv := hv.2 c699
    refine lv_iconst (v := (-1)) hx hb dX7_pattern_12 (by decide) ?_
    exact g_retM hx hb hrt hlk hP hS rfl hv dX7_pattern_13
set_option maxHeartbeats 4000000 in
set_option maxRecDepth 100000 in
theorem mX7_throwOf {l : Launch} {E : gE} {μ ν : gM} {τ : gJ} {Q : Int32 → gM → gJ → Prop} (hE : gLok E) {a1 : Int32}  (hv : vX7_throwOf a1 ν τ Q) : Met l yX7_throwOf (gws yX7_throwOf cX7_throwOf 2 (some .int)) (gRm 1 21) (gPc E [.ref (gL E 32), .int a1] μ ν τ) (gQiM E Q μ) 0 0 (gA E) := by
  refine g_entr (lv := [(0, .ref (gL E 32)), (1, .int a1)]) (by decide +kernel) (Nat.le_of_ble_eq_true rfl) rfl (fun p e s m args below meth c ls H locs hx hb hrt hlk C0 hK hP hS hl => ?_)
  have C0 : CallFix p m c cX7_throwOf 2 s args gTB RX7 := C0
  unfold vX7_throwOf at hv
  refine lv_aload_n hx hb dX7_throwOf_0 rfl (lv_at hl 0 rfl) (lv_iload_n hx hb dX7_throwOf_1 rfl (lv_at hl 1 rfl) ?_)
  refine g_iM (g_bV (As := [.int a1]) (rest := []) C0 hK hP kX7_isBeat ql_X7_84 (mX7_isBeat hE hv) (by decide) ge_X7 rfl rfl hl.1 rfl (Nat.le_of_ble_eq_true rfl) ⟨rfl, rfl, Nat.le_of_ble_eq_true rfl, Nat.le_of_ble_eq_true rfl⟩ dX7_throwOf_2) hS (fun x725 ν726 τ727 H locs hv hP hS => ?_)
  refine lv_if_eq (tgt := 17) hx hb dX7_throwOf_5 (by decide) (fun c728 => ?_) (fun c728 => ?_)
  · have hv := hv.1 c728
    refine lv_iconst (v := (-1)) hx hb dX7_throwOf_17 (by decide) ?_
    exact g_retM hx hb hrt hlk hP hS rfl hv dX7_throwOf_18
  · have hv := hv.2 c728
    refine lv_aload_n hx hb dX7_throwOf_8 rfl (lv_at hl 0 rfl) (gg_X7_19 C0 hK hP dX7_throwOf_9 (lv_iload_n hx hb dX7_throwOf_12 rfl (lv_at hl 1 rfl) ?_))
    have hi729 := hv.1
    have hv := hv.2
    refine g_iald hx hb hK hP (by decide) ga_36 hi729 dX7_throwOf_13 (lv_goto (tgt := 18) hx hb dX7_throwOf_14 (by decide) ?_)
    exact g_retM hx hb hrt hlk hP hS rfl hv dX7_throwOf_18
set_option maxHeartbeats 4000000 in
set_option maxRecDepth 100000 in
theorem mX7_landsIn {l : Launch} {E : gE} {μ ν : gM} {τ : gJ} {Q : Int32 → gM → gJ → Prop} (hE : gLok E) {a1 : Int32}  (hv : vX7_landsIn a1 ν τ Q) : Met l yX7_landsIn (gws yX7_landsIn cX7_landsIn 2 (some .int)) (gRm 0 0) (gPc E [.ref (gL E 32), .int a1] μ ν τ) (gQiM E Q μ) 0 0 (gA E) := by
  refine g_entr (lv := [(0, .ref (gL E 32)), (1, .int a1)]) (by decide +kernel) (Nat.le_of_ble_eq_true rfl) rfl (fun p e s m args below meth c ls H locs hx hb hrt hlk C0 hK hP hS hl => ?_)
  have C0 : CallFix p m c cX7_landsIn 2 s args gTB RX7 := C0
  unfold vX7_landsIn at hv
  refine lv_iload_n hx hb dX7_landsIn_0 rfl (lv_at hl 1 rfl) (lv_aload_n hx hb dX7_landsIn_1 rfl (lv_at hl 0 rfl) (gg_X7_19 C0 hK hP dX7_landsIn_2 (lv_iload_n hx hb dX7_landsIn_5 rfl (lv_at hl 1 rfl) ?_)))
  have hi730 := hv.1
  have hv := hv.2
  refine g_iald hx hb hK hP (by decide) ga_36 hi730 dX7_landsIn_6 (lv_iadd hx hb dX7_landsIn_7 (lv_aload_n hx hb dX7_landsIn_8 rfl (lv_at hl 0 rfl) (gg_X7_60 C0 hK hP dX7_landsIn_9 ?_)))
  have hd := hv.1
  have hv := hv.2
  refine lv_irem hx hb dX7_landsIn_12 hd ?_
  exact g_retM hx hb hrt hlk hP hS rfl hv dX7_landsIn_13
set_option maxHeartbeats 4000000 in
set_option maxRecDepth 100000 in
theorem mX7_findClash {l : Launch} {E : gE} {μ ν : gM} {τ : gJ} {Q : Int32 → gM → gJ → Prop} (hE : gLok E)   (hv : vX7_findClash ν τ Q) : Met l yX7_findClash (gws yX7_findClash cX7_findClash 3 (some .int)) (gRm 1 21) (gPc E [.ref (gL E 32)] μ ν τ) (gQiM E Q μ) 0 0 (gA E) := by
  refine g_entr (lv := [(0, .ref (gL E 32))]) (by decide +kernel) (Nat.le_of_ble_eq_true rfl) rfl (fun p e s m args below meth c ls H locs hx hb hrt hlk C0 hK hP hS hl => ?_)
  have C0 : CallFix p m c cX7_findClash 3 s args gTB RX7 := C0
  have h_2 : ∀ (n_2 : Nat) (v1 : Int32) (ν : gM) (τ : gJ) (H : Heap) (locs : List Loc) (ls : Array Slot), va_P (gD E) vwCl (wl E μ ν τ) H → va_S (gA E) s.heap H locs → lv_has ls 3 [(0, .ref (gL E 32)), (1, .int v1)] → vX7_findClash_2 Q n_2 v1 ν τ → W p l e (gRm 1 21) s m args below meth c H locs 0 0 (MQ below (gQiM E Q μ) args s 0 0 (gA E)) (F0 m 2 ls []) := by
    intro n_2
    induction n_2 with
    | zero =>
      intro v1 ν τ H locs ls hP hS hl hv
      exact False.elim hv
    | succ n_2 ih_2 =>
      intro v1 ν τ H locs ls hP hS hl hv
      have h_14 : ∀ (n_14 : Nat) (v1 : Int32) (v2 : Int32) (ν : gM) (τ : gJ) (H : Heap) (locs : List Loc) (ls : Array Slot), va_P (gD E) vwCl (wl E μ ν τ) H → va_S (gA E) s.heap H locs → lv_has ls 3 [(0, .ref (gL E 32)), (1, .int v1), (2, .int v2)] → vX7_findClash_14 Q (vX7_findClash_2 Q n_2) n_14 v1 v2 ν τ → W p l e (gRm 1 21) s m args below meth c H locs 0 0 (MQ below (gQiM E Q μ) args s 0 0 (gA E)) (F0 m 14 ls []) := by
        intro n_14
        induction n_14 with
        | zero =>
          intro v1 v2 ν τ H locs ls hP hS hl hv
          exact False.elim hv
        | succ n_14 ih_14 =>
          intro v1 v2 ν τ H locs ls hP hS hl hv
          have hv : vX7_findClash_14B Q (vX7_findClash_2 Q n_2) (vX7_findClash_14 Q (vX7_findClash_2 Q n_2) n_14) v1 v2 ν τ := hv
          unfold vX7_findClash_14B at hv
          refine lv_iload_n hx hb dX7_findClash_14 rfl (lv_at hl 2 rfl) (lv_aload_n hx hb dX7_findClash_15 rfl (lv_at hl 0 rfl) (gg_X7_60 C0 hK hP dX7_findClash_16 ?_))
          refine lv_icmp_ge (tgt := 48) hx hb dX7_findClash_19 (by decide) (fun c732 => ?_) (fun c732 => ?_)
          · have hv := hv.1 c732
            refine lv_iinc (v := (v1 + 1)) (lv' := [(1, .int (v1 + 1)), (0, .ref (gL E 32)), (2, .int v2)]) hx hb dX7_findClash_48 hl (k := 1) rfl rfl (by decide) rfl (fun ls hl => (lv_goto (tgt := 2) hx hb dX7_findClash_51 (by decide) ?_))
            exact ih_2 (v1 + 1) ν τ H locs ls hP hS (lv_sub hl [1, 0] rfl) hv
          · have hv := hv.2 c732
            refine lv_aload_n hx hb dX7_findClash_22 rfl (lv_at hl 0 rfl) (lv_iload_n hx hb dX7_findClash_23 rfl (lv_at hl 1 rfl) ?_)
            refine g_iM (g_bV (As := [.int v1]) (rest := []) C0 hK hP kX7_landsIn ql_X7_87 (mX7_landsIn hE hv) (by decide) ge_X7 rfl rfl hl.1 rfl (Nat.le_of_ble_eq_true rfl) ⟨rfl, rfl, Nat.le_of_ble_eq_true rfl, Nat.le_of_ble_eq_true rfl⟩ dX7_findClash_24) hS (fun x733 ν734 τ735 H locs hv hP hS => ?_)
            refine lv_aload_n hx hb dX7_findClash_27 rfl (lv_at hl 0 rfl) (lv_iload_n hx hb dX7_findClash_28 rfl (lv_at hl 2 rfl) ?_)
            refine g_iM (g_bV (As := [.int v2]) (rest := [.int x733]) C0 hK hP kX7_landsIn ql_X7_87 (mX7_landsIn hE hv) (by decide) ge_X7 rfl rfl hl.1 rfl (Nat.le_of_ble_eq_true rfl) ⟨rfl, rfl, Nat.le_of_ble_eq_true rfl, Nat.le_of_ble_eq_true rfl⟩ dX7_findClash_29) hS (fun x736 ν737 τ738 H locs hv hP hS => ?_)
            refine lv_icmp_ne (tgt := 42) hx hb dX7_findClash_32 (by decide) (fun c739 => ?_) (fun c739 => ?_)
            · have hv := hv.1 c739
              refine lv_iinc (v := (v2 + 1)) (lv' := [(2, .int (v2 + 1)), (0, .ref (gL E 32)), (1, .int v1)]) hx hb dX7_findClash_42 hl (k := 2) rfl rfl (by decide) rfl (fun ls hl => (lv_goto (tgt := 14) hx hb dX7_findClash_45 (by decide) ?_))
              exact ih_14 v1 (v2 + 1) ν737 τ738 H locs ls hP hS (lv_sub hl [1, 2, 0] rfl) hv
            · have hv := hv.2 c739
              refine lv_bipush (v := 10) hx hb dX7_findClash_35 (by decide) (lv_iload_n hx hb dX7_findClash_37 rfl (lv_at hl 1 rfl) (lv_imul hx hb dX7_findClash_38 (lv_iload_n hx hb dX7_findClash_39 rfl (lv_at hl 2 rfl) (lv_iadd hx hb dX7_findClash_40 ?_))))
              exact g_retM hx hb hrt hlk hP hS rfl hv dX7_findClash_41
      have hv : vX7_findClash_2B Q (vX7_findClash_2 Q n_2) v1 ν τ := hv
      unfold vX7_findClash_2B at hv
      refine lv_iload_n hx hb dX7_findClash_2 rfl (lv_at hl 1 rfl) (lv_aload_n hx hb dX7_findClash_3 rfl (lv_at hl 0 rfl) (gg_X7_60 C0 hK hP dX7_findClash_4 ?_))
      refine lv_icmp_ge (tgt := 54) hx hb dX7_findClash_7 (by decide) (fun c731 => ?_) (fun c731 => ?_)
      · have hv := hv.1 c731
        refine lv_bipush (v := (-9)) hx hb dX7_findClash_54 (by decide) ?_
        exact g_retM hx hb hrt hlk hP hS rfl hv dX7_findClash_56
      · have hv := hv.2 c731
        refine lv_iload_n hx hb dX7_findClash_10 rfl (lv_at hl 1 rfl) (lv_iconst (v := 1) hx hb dX7_findClash_11 (by decide) (lv_iadd hx hb dX7_findClash_12 (lv_istore_n (lv' := [(2, .int (v1 + 1)), (0, .ref (gL E 32)), (1, .int v1)]) hx hb dX7_findClash_13 rfl hl (by decide) rfl (fun ls hl => ?_))))
        obtain ⟨nf, hv⟩ := hv
        exact h_14 nf v1 (v1 + 1) ν τ H locs ls hP hS (lv_sub hl [1, 2, 0] rfl) hv
  unfold vX7_findClash at hv
  refine lv_iconst (v := 0) hx hb dX7_findClash_0 (by decide) (lv_istore_n (lv' := [(1, .int 0), (0, .ref (gL E 32))]) hx hb dX7_findClash_1 rfl hl (by decide) rfl (fun ls hl => ?_))
  obtain ⟨nf, hv⟩ := hv
  exact h_2 nf 0 ν τ H locs ls hP hS (lv_sub hl [1, 0] rfl) hv
set_option maxHeartbeats 4000000 in
set_option maxRecDepth 100000 in
theorem mX7_clash {l : Launch} {E : gE} {μ ν : gM} {τ : gJ} {Q : Int32 → gM → gJ → Prop} (hE : gLok E)   (hv : vX7_clash ν τ Q) : Met l yX7_clash (gws yX7_clash cX7_clash 1 (some .int)) (gRm 2 43) (gPc E [.ref (gL E 32)] μ ν τ) (gQiM E Q μ) 0 0 (gA E) := by
  refine g_entr (lv := [(0, .ref (gL E 32))]) (by decide +kernel) (Nat.le_of_ble_eq_true rfl) rfl (fun p e s m args below meth c ls H locs hx hb hrt hlk C0 hK hP hS hl => ?_)
  have C0 : CallFix p m c cX7_clash 1 s args gTB RX7 := C0
  unfold vX7_clash at hv
  refine lv_aload_n hx hb dX7_clash_0 rfl (lv_at hl 0 rfl) (gg_X7_60 C0 hK hP dX7_clash_1 ?_)
  refine lv_if_ne (tgt := 12) hx hb dX7_clash_4 (by decide) (fun c740 => ?_) (fun c740 => ?_)
  · have hv := hv.1 c740
    refine lv_aload_n hx hb dX7_clash_12 rfl (lv_at hl 0 rfl) ?_
    refine g_iM (g_bV (As := []) (rest := []) C0 hK hP kX7_findClash ql_X7_90 (mX7_findClash hE hv) (by decide) ge_X7 rfl rfl hl.1 rfl (Nat.le_of_ble_eq_true rfl) ⟨rfl, rfl, Nat.le_of_ble_eq_true rfl, Nat.le_of_ble_eq_true rfl⟩ dX7_clash_13) hS (fun x741 ν742 τ743 H locs hv hP hS => ?_)
    exact g_retM hx hb hrt hlk hP hS rfl hv dX7_clash_16
  · have hv := hv.2 c740
    refine lv_bipush (v := (-3)) hx hb dX7_clash_7 (by decide) (lv_goto (tgt := 16) hx hb dX7_clash_9 (by decide) ?_)
    exact g_retM hx hb hrt hlk hP hS rfl hv dX7_clash_16
set_option maxHeartbeats 4000000 in
set_option maxRecDepth 100000 in
theorem mX7_isGood {l : Launch} {E : gE} {μ ν : gM} {τ : gJ} {Q : Int32 → gM → gJ → Prop} (hE : gLok E)   (hv : vX7_isGood ν τ Q) : Met l yX7_isGood (gws yX7_isGood cX7_isGood 1 (some .boolean)) (gRm 2 43) (gPc E [.ref (gL E 32)] μ ν τ) (gQiM E Q μ) 0 0 (gA E) := by
  refine g_entr (lv := [(0, .ref (gL E 32))]) (by decide +kernel) (Nat.le_of_ble_eq_true rfl) rfl (fun p e s m args below meth c ls H locs hx hb hrt hlk C0 hK hP hS hl => ?_)
  have C0 : CallFix p m c cX7_isGood 1 s args gTB RX7 := C0
  unfold vX7_isGood at hv
  refine lv_aload_n hx hb dX7_isGood_0 rfl (lv_at hl 0 rfl) (gg_X7_60 C0 hK hP dX7_isGood_1 ?_)
  refine lv_if_le (tgt := 20) hx hb dX7_isGood_4 (by decide) (fun c744 => ?_) (fun c744 => ?_)
  · have hv := hv.1 c744
    refine lv_iconst (v := 0) hx hb dX7_isGood_20 (by decide) ?_
    exact g_retM hx hb hrt hlk hP hS rfl hv dX7_isGood_21
  · have hv := hv.2 c744
    refine lv_aload_n hx hb dX7_isGood_7 rfl (lv_at hl 0 rfl) ?_
    refine g_iM (g_bV (As := []) (rest := []) C0 hK hP kX7_findClash ql_X7_90 (mX7_findClash hE hv) (by decide) ge_X7 rfl rfl hl.1 rfl (Nat.le_of_ble_eq_true rfl) ⟨rfl, rfl, Nat.le_of_ble_eq_true rfl, Nat.le_of_ble_eq_true rfl⟩ dX7_isGood_8) hS (fun x745 ν746 τ747 H locs hv hP hS => ?_)
    refine lv_bipush (v := (-9)) hx hb dX7_isGood_11 (by decide) ?_
    refine lv_icmp_ne (tgt := 20) hx hb dX7_isGood_13 (by decide) (fun c748 => ?_) (fun c748 => ?_)
    · have hv := hv.1 c748
      refine lv_iconst (v := 0) hx hb dX7_isGood_20 (by decide) ?_
      exact g_retM hx hb hrt hlk hP hS rfl hv dX7_isGood_21
    · have hv := hv.2 c748
      refine lv_iconst (v := 1) hx hb dX7_isGood_16 (by decide) (lv_goto (tgt := 21) hx hb dX7_isGood_17 (by decide) ?_)
      exact g_retM hx hb hrt hlk hP hS rfl hv dX7_isGood_21
set_option maxHeartbeats 4000000 in
set_option maxRecDepth 100000 in
theorem mX7_balls {l : Launch} {E : gE} {μ ν : gM} {τ : gJ} {Q : Int32 → gM → gJ → Prop} (hE : gLok E)   (hv : vX7_balls ν τ Q) : Met l yX7_balls (gws yX7_balls cX7_balls 3 (some .int)) (gRm 0 0) (gPc E [.ref (gL E 32)] μ ν τ) (gQiM E Q μ) 0 0 (gA E) := by
  refine g_entr (lv := [(0, .ref (gL E 32))]) (by decide +kernel) (Nat.le_of_ble_eq_true rfl) rfl (fun p e s m args below meth c ls H locs hx hb hrt hlk C0 hK hP hS hl => ?_)
  have C0 : CallFix p m c cX7_balls 3 s args gTB RX7 := C0
  have h_4 : ∀ (n_4 : Nat) (v1 : Int32) (v2 : Int32) (ν : gM) (τ : gJ) (H : Heap) (locs : List Loc) (ls : Array Slot), va_P (gD E) vwCl (wl E μ ν τ) H → va_S (gA E) s.heap H locs → lv_has ls 3 [(0, .ref (gL E 32)), (1, .int v1), (2, .int v2)] → vX7_balls_4 Q n_4 v1 v2 ν τ → W p l e (gRm 0 0) s m args below meth c H locs 0 0 (MQ below (gQiM E Q μ) args s 0 0 (gA E)) (F0 m 4 ls []) := by
    intro n_4
    induction n_4 with
    | zero =>
      intro v1 v2 ν τ H locs ls hP hS hl hv
      exact False.elim hv
    | succ n_4 ih_4 =>
      intro v1 v2 ν τ H locs ls hP hS hl hv
      have hv : vX7_balls_4B Q (vX7_balls_4 Q n_4) v1 v2 ν τ := hv
      unfold vX7_balls_4B at hv
      refine lv_iload_n hx hb dX7_balls_4 rfl (lv_at hl 2 rfl) (lv_aload_n hx hb dX7_balls_5 rfl (lv_at hl 0 rfl) (gg_X7_60 C0 hK hP dX7_balls_6 ?_))
      refine lv_icmp_ge (tgt := 27) hx hb dX7_balls_9 (by decide) (fun c749 => ?_) (fun c749 => ?_)
      · have hv := hv.1 c749
        refine lv_iload_n hx hb dX7_balls_27 rfl (lv_at hl 1 rfl) (lv_aload_n hx hb dX7_balls_28 rfl (lv_at hl 0 rfl) (gg_X7_60 C0 hK hP dX7_balls_29 ?_))
        have hd := hv.1
        have hv := hv.2
        refine lv_idiv hx hb dX7_balls_32 hd ?_
        exact g_retM hx hb hrt hlk hP hS rfl hv dX7_balls_33
      · have hv := hv.2 c749
        refine lv_iload_n hx hb dX7_balls_12 rfl (lv_at hl 1 rfl) (lv_aload_n hx hb dX7_balls_13 rfl (lv_at hl 0 rfl) (gg_X7_19 C0 hK hP dX7_balls_14 (lv_iload_n hx hb dX7_balls_17 rfl (lv_at hl 2 rfl) ?_)))
        have hi750 := hv.1
        have hv := hv.2
        refine g_iald hx hb hK hP (by decide) ga_36 hi750 dX7_balls_18 (lv_iadd hx hb dX7_balls_19 (lv_istore_n (lv' := [(1, .int (v1 + (ν 36 v2.toNatClampNeg))), (0, .ref (gL E 32)), (2, .int v2)]) hx hb dX7_balls_20 rfl hl (by decide) rfl (fun ls hl => (lv_iinc (v := (v2 + 1)) (lv' := [(2, .int (v2 + 1)), (1, .int (v1 + (ν 36 v2.toNatClampNeg))), (0, .ref (gL E 32))]) hx hb dX7_balls_21 hl (k := 2) rfl rfl (by decide) rfl (fun ls hl => (lv_goto (tgt := 4) hx hb dX7_balls_24 (by decide) ?_))))))
        exact ih_4 (v1 + (ν 36 v2.toNatClampNeg)) (v2 + 1) ν τ H locs ls hP hS (lv_sub hl [2, 1, 0] rfl) hv
  unfold vX7_balls at hv
  refine lv_iconst (v := 0) hx hb dX7_balls_0 (by decide) (lv_istore_n (lv' := [(1, .int 0), (0, .ref (gL E 32))]) hx hb dX7_balls_1 rfl hl (by decide) rfl (fun ls hl => (lv_iconst (v := 0) hx hb dX7_balls_2 (by decide) (lv_istore_n (lv' := [(2, .int 0), (1, .int 0), (0, .ref (gL E 32))]) hx hb dX7_balls_3 rfl hl (by decide) rfl (fun ls hl => ?_)))))
  obtain ⟨nf, hv⟩ := hv
  exact h_4 nf 0 0 ν τ H locs ls hP hS (lv_sub hl [2, 1, 0] rfl) hv
set_option maxHeartbeats 4000000 in
set_option maxRecDepth 100000 in
theorem mX7_stateAhead {l : Launch} {E : gE} {μ ν : gM} {τ : gJ} {Q : Int32 → gM → gJ → Prop} (hE : gLok E) {a1 : Int32}  (hv : vX7_stateAhead a1 ν τ Q) : Met l yX7_stateAhead (gws yX7_stateAhead cX7_stateAhead 5 (some .int)) (gRm 0 0) (gPc E [.ref (gL E 32), .int a1] μ ν τ) (gQiM E Q μ) 0 0 (gA E) := by
  refine g_entr (lv := [(0, .ref (gL E 32)), (1, .int a1)]) (by decide +kernel) (Nat.le_of_ble_eq_true rfl) rfl (fun p e s m args below meth c ls H locs hx hb hrt hlk C0 hK hP hS hl => ?_)
  have C0 : CallFix p m c cX7_stateAhead 5 s args gTB RX7 := C0
  have h_4 : ∀ (n_4 : Nat) (v2 : Int32) (v3 : Int32) (ν : gM) (τ : gJ) (H : Heap) (locs : List Loc) (ls : Array Slot), va_P (gD E) vwCl (wl E μ ν τ) H → va_S (gA E) s.heap H locs → lv_has ls 5 [(0, .ref (gL E 32)), (1, .int a1), (2, .int v2), (3, .int v3)] → vX7_stateAhead_4 a1 Q n_4 v2 v3 ν τ → W p l e (gRm 0 0) s m args below meth c H locs 0 0 (MQ below (gQiM E Q μ) args s 0 0 (gA E)) (F0 m 4 ls []) := by
    intro n_4
    induction n_4 with
    | zero =>
      intro v2 v3 ν τ H locs ls hP hS hl hv
      exact False.elim hv
    | succ n_4 ih_4 =>
      intro v2 v3 ν τ H locs ls hP hS hl hv
      have hv : vX7_stateAhead_4B a1 Q (vX7_stateAhead_4 a1 Q n_4) v2 v3 ν τ := hv
      unfold vX7_stateAhead_4B at hv
      refine lv_iload_n hx hb dX7_stateAhead_4 rfl (lv_at hl 3 rfl) (lv_bipush (v := 9) hx hb dX7_stateAhead_5 (by decide) ?_)
      refine lv_icmp_gt (tgt := 60) hx hb dX7_stateAhead_7 (by decide) (fun c751 => ?_) (fun c751 => ?_)
      · have hv := hv.1 c751
        refine lv_iload_n hx hb dX7_stateAhead_60 rfl (lv_at hl 2 rfl) ?_
        exact g_retM hx hb hrt hlk hP hS rfl hv dX7_stateAhead_61
      · have hv := hv.2 c751
        refine lv_aload_n hx hb dX7_stateAhead_10 rfl (lv_at hl 0 rfl) (gg_X7_19 C0 hK hP dX7_stateAhead_11 (lv_iload_n hx hb dX7_stateAhead_14 rfl (lv_at hl 1 rfl) (lv_iload_n hx hb dX7_stateAhead_15 rfl (lv_at hl 3 rfl) (lv_isub hx hb dX7_stateAhead_16 (lv_aload_n hx hb dX7_stateAhead_17 rfl (lv_at hl 0 rfl) (gg_X7_60 C0 hK hP dX7_stateAhead_18 ?_))))))
        have hd := hv.1
        have hv := hv.2
        refine lv_irem hx hb dX7_stateAhead_21 hd (lv_aload_n hx hb dX7_stateAhead_22 rfl (lv_at hl 0 rfl) (gg_X7_60 C0 hK hP dX7_stateAhead_23 (lv_iadd hx hb dX7_stateAhead_26 (lv_aload_n hx hb dX7_stateAhead_27 rfl (lv_at hl 0 rfl) (gg_X7_60 C0 hK hP dX7_stateAhead_28 ?_)))))
        have hd := hv.1
        have hv := hv.2
        refine lv_irem hx hb dX7_stateAhead_31 hd ?_
        have hi752 := hv.1
        have hv := hv.2
        refine g_iald hx hb hK hP (by decide) ga_36 hi752 dX7_stateAhead_32 (lv_istore (lv' := [(4, .int (ν 36 ((((a1 - v3) - (a1 - v3) / (ν 32 5) * (ν 32 5)) + (ν 32 5)) - (((a1 - v3) - (a1 - v3) / (ν 32 5) * (ν 32 5)) + (ν 32 5)) / (ν 32 5) * (ν 32 5)).toNatClampNeg)), (0, .ref (gL E 32)), (1, .int a1), (2, .int v2), (3, .int v3)]) hx hb dX7_stateAhead_33 hl (by decide) rfl (fun ls hl => (lv_iload_n hx hb dX7_stateAhead_35 rfl (lv_at hl 3 rfl) (lv_iload hx hb dX7_stateAhead_36 (lv_at hl 0 rfl) (lv_iload_n hx hb dX7_stateAhead_38 rfl (lv_at hl 4 rfl) ?_)))))
        refine lv_icmp_lt (tgt := 51) hx hb dX7_stateAhead_39 (by decide) (fun c753 => ?_) (fun c753 => ?_)
        · have hv := hv.1 c753
          refine lv_iconst (v := 0) hx hb dX7_stateAhead_51 (by decide) (lv_ior hx hb dX7_stateAhead_52 (lv_istore_n (lv' := [(2, .int (v2 ||| 0)), (4, .int (ν 36 ((((a1 - v3) - (a1 - v3) / (ν 32 5) * (ν 32 5)) + (ν 32 5)) - (((a1 - v3) - (a1 - v3) / (ν 32 5) * (ν 32 5)) + (ν 32 5)) / (ν 32 5) * (ν 32 5)).toNatClampNeg)), (0, .ref (gL E 32)), (1, .int a1), (3, .int v3)]) hx hb dX7_stateAhead_53 rfl hl (by decide) rfl (fun ls hl => (lv_iinc (v := (v3 + 1)) (lv' := [(3, .int (v3 + 1)), (2, .int (v2 ||| 0)), (4, .int (ν 36 ((((a1 - v3) - (a1 - v3) / (ν 32 5) * (ν 32 5)) + (ν 32 5)) - (((a1 - v3) - (a1 - v3) / (ν 32 5) * (ν 32 5)) + (ν 32 5)) / (ν 32 5) * (ν 32 5)).toNatClampNeg)), (0, .ref (gL E 32)), (1, .int a1)]) hx hb dX7_stateAhead_54 hl (k := 4) rfl rfl (by decide) rfl (fun ls hl => (lv_goto (tgt := 4) hx hb dX7_stateAhead_57 (by decide) ?_))))))
          exact ih_4 (v2 ||| 0) (v3 + 1) ν τ H locs ls hP hS (lv_sub hl [3, 4, 1, 0] rfl) hv
        · have hv := hv.2 c753
          refine lv_iconst (v := 1) hx hb dX7_stateAhead_42 (by decide) (lv_iload hx hb dX7_stateAhead_43 (lv_at hl 0 rfl) (lv_iload_n hx hb dX7_stateAhead_45 rfl (lv_at hl 4 rfl) (lv_isub hx hb dX7_stateAhead_46 (lv_ishl hx hb dX7_stateAhead_47 (lv_goto (tgt := 52) hx hb dX7_stateAhead_48 (by decide) (lv_ior hx hb dX7_stateAhead_52 (lv_istore_n (lv' := [(2, .int (v2 ||| ((1 : Int32) <<< (((ν 36 ((((a1 - v3) - (a1 - v3) / (ν 32 5) * (ν 32 5)) + (ν 32 5)) - (((a1 - v3) - (a1 - v3) / (ν 32 5) * (ν 32 5)) + (ν 32 5)) / (ν 32 5) * (ν 32 5)).toNatClampNeg) - v3) &&& 31)))), (4, .int (ν 36 ((((a1 - v3) - (a1 - v3) / (ν 32 5) * (ν 32 5)) + (ν 32 5)) - (((a1 - v3) - (a1 - v3) / (ν 32 5) * (ν 32 5)) + (ν 32 5)) / (ν 32 5) * (ν 32 5)).toNatClampNeg)), (0, .ref (gL E 32)), (1, .int a1), (3, .int v3)]) hx hb dX7_stateAhead_53 rfl hl (by decide) rfl (fun ls hl => (lv_iinc (v := (v3 + 1)) (lv' := [(3, .int (v3 + 1)), (2, .int (v2 ||| ((1 : Int32) <<< (((ν 36 ((((a1 - v3) - (a1 - v3) / (ν 32 5) * (ν 32 5)) + (ν 32 5)) - (((a1 - v3) - (a1 - v3) / (ν 32 5) * (ν 32 5)) + (ν 32 5)) / (ν 32 5) * (ν 32 5)).toNatClampNeg) - v3) &&& 31)))), (4, .int (ν 36 ((((a1 - v3) - (a1 - v3) / (ν 32 5) * (ν 32 5)) + (ν 32 5)) - (((a1 - v3) - (a1 - v3) / (ν 32 5) * (ν 32 5)) + (ν 32 5)) / (ν 32 5) * (ν 32 5)).toNatClampNeg)), (0, .ref (gL E 32)), (1, .int a1)]) hx hb dX7_stateAhead_54 hl (k := 4) rfl rfl (by decide) rfl (fun ls hl => (lv_goto (tgt := 4) hx hb dX7_stateAhead_57 (by decide) ?_)))))))))))
          exact ih_4 (v2 ||| ((1 : Int32) <<< (((ν 36 ((((a1 - v3) - (a1 - v3) / (ν 32 5) * (ν 32 5)) + (ν 32 5)) - (((a1 - v3) - (a1 - v3) / (ν 32 5) * (ν 32 5)) + (ν 32 5)) / (ν 32 5) * (ν 32 5)).toNatClampNeg) - v3) &&& 31))) (v3 + 1) ν τ H locs ls hP hS (lv_sub hl [3, 4, 1, 0] rfl) hv
  unfold vX7_stateAhead at hv
  refine lv_iconst (v := 0) hx hb dX7_stateAhead_0 (by decide) (lv_istore_n (lv' := [(2, .int 0), (0, .ref (gL E 32)), (1, .int a1)]) hx hb dX7_stateAhead_1 rfl hl (by decide) rfl (fun ls hl => (lv_iconst (v := 1) hx hb dX7_stateAhead_2 (by decide) (lv_istore_n (lv' := [(3, .int 1), (2, .int 0), (0, .ref (gL E 32)), (1, .int a1)]) hx hb dX7_stateAhead_3 rfl hl (by decide) rfl (fun ls hl => ?_)))))
  obtain ⟨nf, hv⟩ := hv
  exact h_4 nf 0 1 ν τ H locs ls hP hS (lv_sub hl [2, 3, 1, 0] rfl) hv
set_option maxHeartbeats 4000000 in
set_option maxRecDepth 100000 in
theorem mX7_isPrime {l : Launch} {E : gE} {μ ν : gM} {τ : gJ} {Q : Int32 → gM → gJ → Prop} (hE : gLok E)   (hv : vX7_isPrime ν τ Q) : Met l yX7_isPrime (gws yX7_isPrime cX7_isPrime 3 (some .boolean)) (gRm 1 24) (gPc E [.ref (gL E 32)] μ ν τ) (gQiM E Q μ) 0 0 (gA E) := by
  refine g_entr (lv := [(0, .ref (gL E 32))]) (by decide +kernel) (Nat.le_of_ble_eq_true rfl) rfl (fun p e s m args below meth c ls H locs hx hb hrt hlk C0 hK hP hS hl => ?_)
  have C0 : CallFix p m c cX7_isPrime 3 s args gTB RX7 := C0
  have h_2 : ∀ (n_2 : Nat) (v1 : Int32) (ν : gM) (τ : gJ) (H : Heap) (locs : List Loc) (ls : Array Slot), va_P (gD E) vwCl (wl E μ ν τ) H → va_S (gA E) s.heap H locs → lv_has ls 3 [(0, .ref (gL E 32)), (1, .int v1)] → vX7_isPrime_2 Q n_2 v1 ν τ → W p l e (gRm 1 24) s m args below meth c H locs 0 0 (MQ below (gQiM E Q μ) args s 0 0 (gA E)) (F0 m 2 ls []) := by
    intro n_2
    induction n_2 with
    | zero =>
      intro v1 ν τ H locs ls hP hS hl hv
      exact False.elim hv
    | succ n_2 ih_2 =>
      intro v1 ν τ H locs ls hP hS hl hv
      have h_14 : ∀ (n_14 : Nat) (v1 : Int32) (v2 : Int32) (ν : gM) (τ : gJ) (H : Heap) (locs : List Loc) (ls : Array Slot), va_P (gD E) vwCl (wl E μ ν τ) H → va_S (gA E) s.heap H locs → lv_has ls 3 [(0, .ref (gL E 32)), (1, .int v1), (2, .int v2)] → vX7_isPrime_14 Q (vX7_isPrime_2 Q n_2) n_14 v1 v2 ν τ → W p l e (gRm 1 24) s m args below meth c H locs 0 0 (MQ below (gQiM E Q μ) args s 0 0 (gA E)) (F0 m 14 ls []) := by
        intro n_14
        induction n_14 with
        | zero =>
          intro v1 v2 ν τ H locs ls hP hS hl hv
          exact False.elim hv
        | succ n_14 ih_14 =>
          intro v1 v2 ν τ H locs ls hP hS hl hv
          have hv : vX7_isPrime_14B Q (vX7_isPrime_2 Q n_2) (vX7_isPrime_14 Q (vX7_isPrime_2 Q n_2) n_14) v1 v2 ν τ := hv
          unfold vX7_isPrime_14B at hv
          refine lv_iload_n hx hb dX7_isPrime_14 rfl (lv_at hl 2 rfl) (lv_aload_n hx hb dX7_isPrime_15 rfl (lv_at hl 0 rfl) (gg_X7_60 C0 hK hP dX7_isPrime_16 ?_))
          refine lv_icmp_ge (tgt := 43) hx hb dX7_isPrime_19 (by decide) (fun c755 => ?_) (fun c755 => ?_)
          · have hv := hv.1 c755
            refine lv_iinc (v := (v1 + 1)) (lv' := [(1, .int (v1 + 1)), (0, .ref (gL E 32)), (2, .int v2)]) hx hb dX7_isPrime_43 hl (k := 1) rfl rfl (by decide) rfl (fun ls hl => (lv_goto (tgt := 2) hx hb dX7_isPrime_46 (by decide) ?_))
            exact ih_2 (v1 + 1) ν τ H locs ls hP hS (lv_sub hl [1, 0] rfl) hv
          · have hv := hv.2 c755
            refine lv_aload_n hx hb dX7_isPrime_22 rfl (lv_at hl 0 rfl) (lv_iload_n hx hb dX7_isPrime_23 rfl (lv_at hl 1 rfl) ?_)
            refine g_iM (g_bV (As := [.int v1]) (rest := []) C0 hK hP kX7_stateAhead ql_X7_94 (mX7_stateAhead hE hv) (by decide) ge_X7 rfl rfl hl.1 rfl (Nat.le_of_ble_eq_true rfl) ⟨rfl, rfl, Nat.le_of_ble_eq_true rfl, Nat.le_of_ble_eq_true rfl⟩ dX7_isPrime_24) hS (fun x756 ν757 τ758 H locs hv hP hS => ?_)
            refine lv_aload_n hx hb dX7_isPrime_27 rfl (lv_at hl 0 rfl) (lv_iload_n hx hb dX7_isPrime_28 rfl (lv_at hl 2 rfl) ?_)
            refine g_iM (g_bV (As := [.int v2]) (rest := [.int x756]) C0 hK hP kX7_stateAhead ql_X7_94 (mX7_stateAhead hE hv) (by decide) ge_X7 rfl rfl hl.1 rfl (Nat.le_of_ble_eq_true rfl) ⟨rfl, rfl, Nat.le_of_ble_eq_true rfl, Nat.le_of_ble_eq_true rfl⟩ dX7_isPrime_29) hS (fun x759 ν760 τ761 H locs hv hP hS => ?_)
            refine lv_icmp_ne (tgt := 37) hx hb dX7_isPrime_32 (by decide) (fun c762 => ?_) (fun c762 => ?_)
            · have hv := hv.1 c762
              refine lv_iinc (v := (v2 + 1)) (lv' := [(2, .int (v2 + 1)), (0, .ref (gL E 32)), (1, .int v1)]) hx hb dX7_isPrime_37 hl (k := 2) rfl rfl (by decide) rfl (fun ls hl => (lv_goto (tgt := 14) hx hb dX7_isPrime_40 (by decide) ?_))
              exact ih_14 v1 (v2 + 1) ν760 τ761 H locs ls hP hS (lv_sub hl [1, 2, 0] rfl) hv
            · have hv := hv.2 c762
              refine lv_iconst (v := 0) hx hb dX7_isPrime_35 (by decide) ?_
              exact g_retM hx hb hrt hlk hP hS rfl hv dX7_isPrime_36
      have hv : vX7_isPrime_2B Q (vX7_isPrime_2 Q n_2) v1 ν τ := hv
      unfold vX7_isPrime_2B at hv
      refine lv_iload_n hx hb dX7_isPrime_2 rfl (lv_at hl 1 rfl) (lv_aload_n hx hb dX7_isPrime_3 rfl (lv_at hl 0 rfl) (gg_X7_60 C0 hK hP dX7_isPrime_4 ?_))
      refine lv_icmp_ge (tgt := 49) hx hb dX7_isPrime_7 (by decide) (fun c754 => ?_) (fun c754 => ?_)
      · have hv := hv.1 c754
        refine lv_iconst (v := 1) hx hb dX7_isPrime_49 (by decide) ?_
        exact g_retM hx hb hrt hlk hP hS rfl hv dX7_isPrime_50
      · have hv := hv.2 c754
        refine lv_iload_n hx hb dX7_isPrime_10 rfl (lv_at hl 1 rfl) (lv_iconst (v := 1) hx hb dX7_isPrime_11 (by decide) (lv_iadd hx hb dX7_isPrime_12 (lv_istore_n (lv' := [(2, .int (v1 + 1)), (0, .ref (gL E 32)), (1, .int v1)]) hx hb dX7_isPrime_13 rfl hl (by decide) rfl (fun ls hl => ?_))))
        obtain ⟨nf, hv⟩ := hv
        exact h_14 nf v1 (v1 + 1) ν τ H locs ls hP hS (lv_sub hl [1, 2, 0] rfl) hv
  unfold vX7_isPrime at hv
  refine lv_iconst (v := 0) hx hb dX7_isPrime_0 (by decide) (lv_istore_n (lv' := [(1, .int 0), (0, .ref (gL E 32))]) hx hb dX7_isPrime_1 rfl hl (by decide) rfl (fun ls hl => ?_))
  obtain ⟨nf, hv⟩ := hv
  exact h_2 nf 0 ν τ H locs ls hP hS (lv_sub hl [1, 0] rfl) hv
set_option maxHeartbeats 4000000 in
set_option maxRecDepth 100000 in
theorem mX7_isGround {l : Launch} {E : gE} {μ ν : gM} {τ : gJ} {Q : Int32 → gM → gJ → Prop} (hE : gLok E)   (hv : vX7_isGround ν τ Q) : Met l yX7_isGround (gws yX7_isGround cX7_isGround 2 (some .boolean)) (gRm 1 24) (gPc E [.ref (gL E 32)] μ ν τ) (gQiM E Q μ) 0 0 (gA E) := by
  refine g_entr (lv := [(0, .ref (gL E 32))]) (by decide +kernel) (Nat.le_of_ble_eq_true rfl) rfl (fun p e s m args below meth c ls H locs hx hb hrt hlk C0 hK hP hS hl => ?_)
  have C0 : CallFix p m c cX7_isGround 2 s args gTB RX7 := C0
  have h_2 : ∀ (n_2 : Nat) (v1 : Int32) (ν : gM) (τ : gJ) (H : Heap) (locs : List Loc) (ls : Array Slot), va_P (gD E) vwCl (wl E μ ν τ) H → va_S (gA E) s.heap H locs → lv_has ls 2 [(0, .ref (gL E 32)), (1, .int v1)] → vX7_isGround_2 Q n_2 v1 ν τ → W p l e (gRm 1 24) s m args below meth c H locs 0 0 (MQ below (gQiM E Q μ) args s 0 0 (gA E)) (F0 m 2 ls []) := by
    intro n_2
    induction n_2 with
    | zero =>
      intro v1 ν τ H locs ls hP hS hl hv
      exact False.elim hv
    | succ n_2 ih_2 =>
      intro v1 ν τ H locs ls hP hS hl hv
      have hv : vX7_isGround_2B Q (vX7_isGround_2 Q n_2) v1 ν τ := hv
      unfold vX7_isGround_2B at hv
      refine lv_iload_n hx hb dX7_isGround_2 rfl (lv_at hl 1 rfl) (lv_aload_n hx hb dX7_isGround_3 rfl (lv_at hl 0 rfl) (gg_X7_60 C0 hK hP dX7_isGround_4 ?_))
      refine lv_icmp_ge (tgt := 34) hx hb dX7_isGround_7 (by decide) (fun c763 => ?_) (fun c763 => ?_)
      · have hv := hv.1 c763
        refine lv_iconst (v := 0) hx hb dX7_isGround_34 (by decide) ?_
        exact g_retM hx hb hrt hlk hP hS rfl hv dX7_isGround_35
      · have hv := hv.2 c763
        refine lv_aload_n hx hb dX7_isGround_10 rfl (lv_at hl 0 rfl) (lv_iload_n hx hb dX7_isGround_11 rfl (lv_at hl 1 rfl) ?_)
        refine g_iM (g_bV (As := [.int v1]) (rest := []) C0 hK hP kX7_stateAhead ql_X7_94 (mX7_stateAhead hE hv) (by decide) ge_X7 rfl rfl hl.1 rfl (Nat.le_of_ble_eq_true rfl) ⟨rfl, rfl, Nat.le_of_ble_eq_true rfl, Nat.le_of_ble_eq_true rfl⟩ dX7_isGround_12) hS (fun x764 ν765 τ766 H locs hv hP hS => ?_)
        refine lv_iconst (v := 1) hx hb dX7_isGround_15 (by decide) (lv_aload_n hx hb dX7_isGround_16 rfl (lv_at hl 0 rfl) ?_)
        refine g_iM (g_bV (As := []) (rest := [.int 1, .int x764]) C0 hK hP kX7_balls ql_X7_97 (mX7_balls hE hv) (by decide) ge_X7 rfl rfl hl.1 rfl (Nat.le_of_ble_eq_true rfl) ⟨rfl, rfl, Nat.le_of_ble_eq_true rfl, Nat.le_of_ble_eq_true rfl⟩ dX7_isGround_17) hS (fun x767 ν768 τ769 H locs hv hP hS => ?_)
        refine lv_ishl hx hb dX7_isGround_20 (lv_iconst (v := 1) hx hb dX7_isGround_21 (by decide) (lv_isub hx hb dX7_isGround_22 ?_))
        refine lv_icmp_ne (tgt := 28) hx hb dX7_isGround_23 (by decide) (fun c770 => ?_) (fun c770 => ?_)
        · have hv := hv.1 c770
          refine lv_iinc (v := (v1 + 1)) (lv' := [(1, .int (v1 + 1)), (0, .ref (gL E 32))]) hx hb dX7_isGround_28 hl (k := 1) rfl rfl (by decide) rfl (fun ls hl => (lv_goto (tgt := 2) hx hb dX7_isGround_31 (by decide) ?_))
          exact ih_2 (v1 + 1) ν768 τ769 H locs ls hP hS (lv_sub hl [1, 0] rfl) hv
        · have hv := hv.2 c770
          refine lv_iconst (v := 1) hx hb dX7_isGround_26 (by decide) ?_
          exact g_retM hx hb hrt hlk hP hS rfl hv dX7_isGround_27
  unfold vX7_isGround at hv
  refine lv_iconst (v := 0) hx hb dX7_isGround_0 (by decide) (lv_istore_n (lv' := [(1, .int 0), (0, .ref (gL E 32))]) hx hb dX7_isGround_1 rfl hl (by decide) rfl (fun ls hl => ?_))
  obtain ⟨nf, hv⟩ := hv
  exact h_2 nf 0 ν τ H locs ls hP hS (lv_sub hl [1, 0] rfl) hv
set_option maxHeartbeats 4000000 in
set_option maxRecDepth 100000 in
theorem mX7_findOrbits {l : Launch} {E : gE} {μ ν : gM} {τ : gJ} {Q : Int32 → gM → gJ → Prop} (hE : gLok E)   (hv : vX7_findOrbits ν τ Q) : Met l yX7_findOrbits (gws yX7_findOrbits cX7_findOrbits 4 (some .int)) (gRm 1 21) (gPc E [.ref (gL E 32)] μ ν τ) (gQiM E Q μ) 0 0 (gA E) := by
  refine g_entr (lv := [(0, .ref (gL E 32))]) (by decide +kernel) (Nat.le_of_ble_eq_true rfl) rfl (fun p e s m args below meth c ls H locs hx hb hrt hlk C0 hK hP hS hl => ?_)
  have C0 : CallFix p m c cX7_findOrbits 4 s args gTB RX7 := C0
  have h_28 : ∀ (n_28 : Nat) (v1 : Int32) (v2 : Int32) (ν : gM) (τ : gJ) (H : Heap) (locs : List Loc) (ls : Array Slot), va_P (gD E) vwCl (wl E μ ν τ) H → va_S (gA E) s.heap H locs → lv_has ls 4 [(0, .ref (gL E 32)), (1, .int v1), (2, .int v2)] → vX7_findOrbits_28 Q n_28 v1 v2 ν τ → W p l e (gRm 1 21) s m args below meth c H locs 0 0 (MQ below (gQiM E Q μ) args s 0 0 (gA E)) (F0 m 28 ls []) := by
    intro n_28
    induction n_28 with
    | zero =>
      intro v1 v2 ν τ H locs ls hP hS hl hv
      exact False.elim hv
    | succ n_28 ih_28 =>
      intro v1 v2 ν τ H locs ls hP hS hl hv
      have h_49 : ∀ (n_49 : Nat) (v1 : Int32) (v2 : Int32) (v3 : Int32) (ν : gM) (τ : gJ) (H : Heap) (locs : List Loc) (ls : Array Slot), va_P (gD E) vwCl (wl E μ ν τ) H → va_S (gA E) s.heap H locs → lv_has ls 4 [(0, .ref (gL E 32)), (1, .int v1), (2, .int v2), (3, .int v3)] → vX7_findOrbits_49 Q (vX7_findOrbits_28 Q n_28) n_49 v1 v2 v3 ν τ → W p l e (gRm 1 21) s m args below meth c H locs 0 0 (MQ below (gQiM E Q μ) args s 0 0 (gA E)) (F0 m 49 ls []) := by
        intro n_49
        induction n_49 with
        | zero =>
          intro v1 v2 v3 ν τ H locs ls hP hS hl hv
          exact False.elim hv
        | succ n_49 ih_49 =>
          intro v1 v2 v3 ν τ H locs ls hP hS hl hv
          have hv : vX7_findOrbits_49B Q (vX7_findOrbits_28 Q n_28) (vX7_findOrbits_49 Q (vX7_findOrbits_28 Q n_28) n_49) v1 v2 v3 ν τ := hv
          unfold vX7_findOrbits_49B at hv
          refine lv_aload_n hx hb dX7_findOrbits_49 rfl (lv_at hl 0 rfl) (gg_X7_25 C0 hK hP dX7_findOrbits_50 (lv_iload_n hx hb dX7_findOrbits_53 rfl (lv_at hl 3 rfl) ?_))
          have hi776 := hv.1
          have hv := hv.2
          refine g_iald hx hb hK hP (by decide) ga_38 hi776 dX7_findOrbits_54 (lv_bipush (v := (-9)) hx hb dX7_findOrbits_55 (by decide) ?_)
          refine lv_icmp_ne (tgt := 76) hx hb dX7_findOrbits_57 (by decide) (fun c777 => ?_) (fun c777 => ?_)
          · have hv := hv.1 c777
            refine lv_iinc (v := (v1 + 1)) (lv' := [(1, .int (v1 + 1)), (0, .ref (gL E 32)), (2, .int v2), (3, .int v3)]) hx hb dX7_findOrbits_76 hl (k := 1) rfl rfl (by decide) rfl (fun ls hl => (lv_iinc (v := (v2 + 1)) (lv' := [(2, .int (v2 + 1)), (1, .int (v1 + 1)), (0, .ref (gL E 32)), (3, .int v3)]) hx hb dX7_findOrbits_79 hl (k := 2) rfl rfl (by decide) rfl (fun ls hl => (lv_goto (tgt := 28) hx hb dX7_findOrbits_82 (by decide) ?_))))
            exact ih_28 (v1 + 1) (v2 + 1) ν τ H locs ls hP hS (lv_sub hl [2, 1, 0] rfl) hv
          · have hv := hv.2 c777
            refine lv_aload_n hx hb dX7_findOrbits_60 rfl (lv_at hl 0 rfl) (gg_X7_25 C0 hK hP dX7_findOrbits_61 (lv_iload_n hx hb dX7_findOrbits_64 rfl (lv_at hl 3 rfl) (lv_iload_n hx hb dX7_findOrbits_65 rfl (lv_at hl 1 rfl) ?_)))
            have hi778 := hv.1
            have hv := hv.2
            refine g_iastM hE hx hb hK hP hS (by decide) (fun _ => ga_38) hi778 dX7_findOrbits_66 (fun H locs hP hS => (lv_aload_n hx hb dX7_findOrbits_67 rfl (lv_at hl 0 rfl) (lv_iload_n hx hb dX7_findOrbits_68 rfl (lv_at hl 3 rfl) ?_)))
            refine g_iM (g_bV (As := [.int v3]) (rest := []) C0 hK hP kX7_landsIn ql_X7_87 (mX7_landsIn hE hv) (by decide) ge_X7 rfl rfl hl.1 rfl (Nat.le_of_ble_eq_true rfl) ⟨rfl, rfl, Nat.le_of_ble_eq_true rfl, Nat.le_of_ble_eq_true rfl⟩ dX7_findOrbits_69) hS (fun x779 ν780 τ781 H locs hv hP hS => ?_)
            refine lv_istore_n (lv' := [(3, .int x779), (0, .ref (gL E 32)), (1, .int v1), (2, .int v2)]) hx hb dX7_findOrbits_72 rfl hl (by decide) rfl (fun ls hl => (lv_goto (tgt := 49) hx hb dX7_findOrbits_73 (by decide) ?_))
            exact ih_49 v1 v2 x779 ν780 τ781 H locs ls hP hS (lv_sub hl [1, 2, 3, 0] rfl) hv
      have hv : vX7_findOrbits_28B Q (vX7_findOrbits_28 Q n_28) v1 v2 ν τ := hv
      unfold vX7_findOrbits_28B at hv
      refine lv_iload_n hx hb dX7_findOrbits_28 rfl (lv_at hl 2 rfl) (lv_aload_n hx hb dX7_findOrbits_29 rfl (lv_at hl 0 rfl) (gg_X7_60 C0 hK hP dX7_findOrbits_30 ?_))
      refine lv_icmp_ge (tgt := 85) hx hb dX7_findOrbits_33 (by decide) (fun c773 => ?_) (fun c773 => ?_)
      · have hv := hv.1 c773
        refine lv_iload_n hx hb dX7_findOrbits_85 rfl (lv_at hl 1 rfl) ?_
        exact g_retM hx hb hrt hlk hP hS rfl hv dX7_findOrbits_86
      · have hv := hv.2 c773
        refine lv_aload_n hx hb dX7_findOrbits_36 rfl (lv_at hl 0 rfl) (gg_X7_25 C0 hK hP dX7_findOrbits_37 (lv_iload_n hx hb dX7_findOrbits_40 rfl (lv_at hl 2 rfl) ?_))
        have hi774 := hv.1
        have hv := hv.2
        refine g_iald hx hb hK hP (by decide) ga_38 hi774 dX7_findOrbits_41 (lv_bipush (v := (-9)) hx hb dX7_findOrbits_42 (by decide) ?_)
        refine lv_icmp_ne (tgt := 79) hx hb dX7_findOrbits_44 (by decide) (fun c775 => ?_) (fun c775 => ?_)
        · have hv := hv.1 c775
          refine lv_iinc (v := (v2 + 1)) (lv' := [(2, .int (v2 + 1)), (0, .ref (gL E 32)), (1, .int v1)]) hx hb dX7_findOrbits_79 hl (k := 2) rfl rfl (by decide) rfl (fun ls hl => (lv_goto (tgt := 28) hx hb dX7_findOrbits_82 (by decide) ?_))
          exact ih_28 v1 (v2 + 1) ν τ H locs ls hP hS (lv_sub hl [1, 2, 0] rfl) hv
        · have hv := hv.2 c775
          refine lv_iload_n hx hb dX7_findOrbits_47 rfl (lv_at hl 2 rfl) (lv_istore_n (lv' := [(3, .int v2), (0, .ref (gL E 32)), (1, .int v1), (2, .int v2)]) hx hb dX7_findOrbits_48 rfl hl (by decide) rfl (fun ls hl => ?_))
          obtain ⟨nf, hv⟩ := hv
          exact h_49 nf v1 v2 v2 ν τ H locs ls hP hS (lv_sub hl [1, 2, 3, 0] rfl) hv
  have h_2 : ∀ (n_2 : Nat) (v1 : Int32) (ν : gM) (τ : gJ) (H : Heap) (locs : List Loc) (ls : Array Slot), va_P (gD E) vwCl (wl E μ ν τ) H → va_S (gA E) s.heap H locs → lv_has ls 4 [(0, .ref (gL E 32)), (1, .int v1)] → vX7_findOrbits_2 Q n_2 v1 ν τ → W p l e (gRm 1 21) s m args below meth c H locs 0 0 (MQ below (gQiM E Q μ) args s 0 0 (gA E)) (F0 m 2 ls []) := by
    intro n_2
    induction n_2 with
    | zero =>
      intro v1 ν τ H locs ls hP hS hl hv
      exact False.elim hv
    | succ n_2 ih_2 =>
      intro v1 ν τ H locs ls hP hS hl hv
      have hv : vX7_findOrbits_2B Q (vX7_findOrbits_2 Q n_2) v1 ν τ := hv
      unfold vX7_findOrbits_2B at hv
      refine lv_iload_n hx hb dX7_findOrbits_2 rfl (lv_at hl 1 rfl) (lv_aload_n hx hb dX7_findOrbits_3 rfl (lv_at hl 0 rfl) (gg_X7_60 C0 hK hP dX7_findOrbits_4 ?_))
      refine lv_icmp_ge (tgt := 24) hx hb dX7_findOrbits_7 (by decide) (fun c771 => ?_) (fun c771 => ?_)
      · have hv := hv.1 c771
        refine lv_iconst (v := 0) hx hb dX7_findOrbits_24 (by decide) (lv_istore_n (lv' := [(1, .int 0), (0, .ref (gL E 32))]) hx hb dX7_findOrbits_25 rfl hl (by decide) rfl (fun ls hl => (lv_iconst (v := 0) hx hb dX7_findOrbits_26 (by decide) (lv_istore_n (lv' := [(2, .int 0), (1, .int 0), (0, .ref (gL E 32))]) hx hb dX7_findOrbits_27 rfl hl (by decide) rfl (fun ls hl => ?_)))))
        obtain ⟨nf, hv⟩ := hv
        exact h_28 nf 0 0 ν τ H locs ls hP hS (lv_sub hl [2, 1, 0] rfl) hv
      · have hv := hv.2 c771
        refine lv_aload_n hx hb dX7_findOrbits_10 rfl (lv_at hl 0 rfl) (gg_X7_25 C0 hK hP dX7_findOrbits_11 (lv_iload_n hx hb dX7_findOrbits_14 rfl (lv_at hl 1 rfl) (lv_bipush (v := (-9)) hx hb dX7_findOrbits_15 (by decide) ?_)))
        have hi772 := hv.1
        have hv := hv.2
        refine g_iastM hE hx hb hK hP hS (by decide) (fun _ => ga_38) hi772 dX7_findOrbits_17 (fun H locs hP hS => (lv_iinc (v := (v1 + 1)) (lv' := [(1, .int (v1 + 1)), (0, .ref (gL E 32))]) hx hb dX7_findOrbits_18 hl (k := 1) rfl rfl (by decide) rfl (fun ls hl => (lv_goto (tgt := 2) hx hb dX7_findOrbits_21 (by decide) ?_))))
        exact ih_2 (v1 + 1) (up2 ν 38 v1.toNatClampNeg (-9)) τ H locs ls hP hS (lv_sub hl [1, 0] rfl) hv
  unfold vX7_findOrbits at hv
  refine lv_iconst (v := 0) hx hb dX7_findOrbits_0 (by decide) (lv_istore_n (lv' := [(1, .int 0), (0, .ref (gL E 32))]) hx hb dX7_findOrbits_1 rfl hl (by decide) rfl (fun ls hl => ?_))
  obtain ⟨nf, hv⟩ := hv
  exact h_2 nf 0 ν τ H locs ls hP hS (lv_sub hl [1, 0] rfl) hv
set_option maxHeartbeats 4000000 in
set_option maxRecDepth 100000 in
theorem mX7_greatestThrow {l : Launch} {E : gE} {μ ν : gM} {τ : gJ} {Q : Int32 → gM → gJ → Prop} (hE : gLok E)   (hv : vX7_greatestThrow ν τ Q) : Met l yX7_greatestThrow (gws yX7_greatestThrow cX7_greatestThrow 3 (some .int)) (gRm 0 0) (gPc E [.ref (gL E 32)] μ ν τ) (gQiM E Q μ) 0 0 (gA E) := by
  refine g_entr (lv := [(0, .ref (gL E 32))]) (by decide +kernel) (Nat.le_of_ble_eq_true rfl) rfl (fun p e s m args below meth c ls H locs hx hb hrt hlk C0 hK hP hS hl => ?_)
  have C0 : CallFix p m c cX7_greatestThrow 3 s args gTB RX7 := C0
  have h_4 : ∀ (n_4 : Nat) (v1 : Int32) (v2 : Int32) (ν : gM) (τ : gJ) (H : Heap) (locs : List Loc) (ls : Array Slot), va_P (gD E) vwCl (wl E μ ν τ) H → va_S (gA E) s.heap H locs → lv_has ls 3 [(0, .ref (gL E 32)), (1, .int v1), (2, .int v2)] → vX7_greatestThrow_4 Q n_4 v1 v2 ν τ → W p l e (gRm 0 0) s m args below meth c H locs 0 0 (MQ below (gQiM E Q μ) args s 0 0 (gA E)) (F0 m 4 ls []) := by
    intro n_4
    induction n_4 with
    | zero =>
      intro v1 v2 ν τ H locs ls hP hS hl hv
      exact False.elim hv
    | succ n_4 ih_4 =>
      intro v1 v2 ν τ H locs ls hP hS hl hv
      have hv : vX7_greatestThrow_4B Q (vX7_greatestThrow_4 Q n_4) v1 v2 ν τ := hv
      unfold vX7_greatestThrow_4B at hv
      refine lv_iload_n hx hb dX7_greatestThrow_4 rfl (lv_at hl 2 rfl) (lv_aload_n hx hb dX7_greatestThrow_5 rfl (lv_at hl 0 rfl) (gg_X7_60 C0 hK hP dX7_greatestThrow_6 ?_))
      refine lv_icmp_ge (tgt := 39) hx hb dX7_greatestThrow_9 (by decide) (fun c782 => ?_) (fun c782 => ?_)
      · have hv := hv.1 c782
        refine lv_iload_n hx hb dX7_greatestThrow_39 rfl (lv_at hl 1 rfl) ?_
        exact g_retM hx hb hrt hlk hP hS rfl hv dX7_greatestThrow_40
      · have hv := hv.2 c782
        refine lv_aload_n hx hb dX7_greatestThrow_12 rfl (lv_at hl 0 rfl) (gg_X7_19 C0 hK hP dX7_greatestThrow_13 (lv_iload_n hx hb dX7_greatestThrow_16 rfl (lv_at hl 2 rfl) ?_))
        have hi783 := hv.1
        have hv := hv.2
        refine g_iald hx hb hK hP (by decide) ga_36 hi783 dX7_greatestThrow_17 (lv_iload_n hx hb dX7_greatestThrow_18 rfl (lv_at hl 1 rfl) ?_)
        refine lv_icmp_le (tgt := 31) hx hb dX7_greatestThrow_19 (by decide) (fun c784 => ?_) (fun c784 => ?_)
        · have hv := hv.1 c784
          refine lv_iload_n hx hb dX7_greatestThrow_31 rfl (lv_at hl 1 rfl) (lv_istore_n (lv' := [(1, .int v1), (0, .ref (gL E 32)), (2, .int v2)]) hx hb dX7_greatestThrow_32 rfl hl (by decide) rfl (fun ls hl => (lv_iinc (v := (v2 + 1)) (lv' := [(2, .int (v2 + 1)), (1, .int v1), (0, .ref (gL E 32))]) hx hb dX7_greatestThrow_33 hl (k := 2) rfl rfl (by decide) rfl (fun ls hl => (lv_goto (tgt := 4) hx hb dX7_greatestThrow_36 (by decide) ?_)))))
          exact ih_4 v1 (v2 + 1) ν τ H locs ls hP hS (lv_sub hl [2, 1, 0] rfl) hv
        · have hv := hv.2 c784
          refine lv_aload_n hx hb dX7_greatestThrow_22 rfl (lv_at hl 0 rfl) (gg_X7_19 C0 hK hP dX7_greatestThrow_23 (lv_iload_n hx hb dX7_greatestThrow_26 rfl (lv_at hl 2 rfl) ?_))
          have hi785 := hv.1
          have hv := hv.2
          refine g_iald hx hb hK hP (by decide) ga_36 hi785 dX7_greatestThrow_27 (lv_goto (tgt := 32) hx hb dX7_greatestThrow_28 (by decide) (lv_istore_n (lv' := [(1, .int (ν 36 v2.toNatClampNeg)), (0, .ref (gL E 32)), (2, .int v2)]) hx hb dX7_greatestThrow_32 rfl hl (by decide) rfl (fun ls hl => (lv_iinc (v := (v2 + 1)) (lv' := [(2, .int (v2 + 1)), (1, .int (ν 36 v2.toNatClampNeg)), (0, .ref (gL E 32))]) hx hb dX7_greatestThrow_33 hl (k := 2) rfl rfl (by decide) rfl (fun ls hl => (lv_goto (tgt := 4) hx hb dX7_greatestThrow_36 (by decide) ?_))))))
          exact ih_4 (ν 36 v2.toNatClampNeg) (v2 + 1) ν τ H locs ls hP hS (lv_sub hl [2, 1, 0] rfl) hv
  unfold vX7_greatestThrow at hv
  refine lv_iconst (v := 0) hx hb dX7_greatestThrow_0 (by decide) (lv_istore_n (lv' := [(1, .int 0), (0, .ref (gL E 32))]) hx hb dX7_greatestThrow_1 rfl hl (by decide) rfl (fun ls hl => (lv_iconst (v := 0) hx hb dX7_greatestThrow_2 (by decide) (lv_istore_n (lv' := [(2, .int 0), (1, .int 0), (0, .ref (gL E 32))]) hx hb dX7_greatestThrow_3 rfl hl (by decide) rfl (fun ls hl => ?_)))))
  obtain ⟨nf, hv⟩ := hv
  exact h_4 nf 0 0 ν τ H locs ls hP hS (lv_sub hl [2, 1, 0] rfl) hv
set_option maxHeartbeats 4000000 in
set_option maxRecDepth 100000 in
theorem mX7_good {l : Launch} {E : gE} {μ ν : gM} {τ : gJ} {Q : Int32 → gM → gJ → Prop} (hE : gLok E) {a1 : Int32}  (hv : vX7_good a1 ν τ Q) : Met l yX7_good (gws yX7_good cX7_good 2 (some .int)) (gRm 3 63) (gPc E [.ref (gL E 32), .int a1] μ ν τ) (gQiM E Q μ) 0 0 (gA E) := by
  refine g_entr (lv := [(0, .ref (gL E 32)), (1, .int a1)]) (by decide +kernel) (Nat.le_of_ble_eq_true rfl) rfl (fun p e s m args below meth c ls H locs hx hb hrt hlk C0 hK hP hS hl => ?_)
  have C0 : CallFix p m c cX7_good 2 s args gTB RX7 := C0
  unfold vX7_good at hv
  refine lv_iload_n hx hb dX7_good_0 rfl (lv_at hl 1 rfl) (lv_iconst (v := 0) hx hb dX7_good_1 (by decide) (lv_iconst (v := 4) hx hb dX7_good_2 (by decide) ?_))
  refine g_iS (g_bS (As := [.int a1, .int 0, .int 4]) (rest := []) C0 hK hP kX7_within ql_X7_56 (mX7_within hE hv) rfl hl.1 rfl (Nat.le_of_ble_eq_true rfl) ⟨rfl, rfl, Nat.le_of_ble_eq_true rfl, Nat.le_of_ble_eq_true rfl⟩ dX7_good_3) hS (fun x786 H locs hv hP hS => ?_)
  refine lv_if_ne (tgt := 12) hx hb dX7_good_6 (by decide) (fun c787 => ?_) (fun c787 => ?_)
  · have hv := hv.1 c787
    refine lv_aload_n hx hb dX7_good_12 rfl (lv_at hl 0 rfl) ?_
    refine g_iM (g_bV (As := []) (rest := []) C0 hK hP kX7_isGood ql_X7_100 (mX7_isGood hE hv) (by decide) ge_X7 rfl rfl hl.1 rfl (Nat.le_of_ble_eq_true rfl) ⟨rfl, rfl, Nat.le_of_ble_eq_true rfl, Nat.le_of_ble_eq_true rfl⟩ dX7_good_13) hS (fun x788 ν789 τ790 H locs hv hP hS => ?_)
    refine lv_if_ne (tgt := 22) hx hb dX7_good_16 (by decide) (fun c791 => ?_) (fun c791 => ?_)
    · have hv := hv.1 c791
      refine lv_iload_n hx hb dX7_good_22 rfl (lv_at hl 1 rfl) ?_
      by_cases c792 : a1 = 0
      · refine lv_tableIn (tgt := 52) (off := 29) hx hb dX7_good_23 (by rw [c792]; decide) (by rw [c792]; decide) (by rw [c792]; rfl) (by decide) ?_
        have hv := hv.1 c792
        refine lv_aload_n hx hb dX7_good_52 rfl (lv_at hl 0 rfl) ?_
        refine g_iM (g_bV (As := []) (rest := []) C0 hK hP kX7_balls ql_X7_97 (mX7_balls hE hv) (by decide) ge_X7 rfl rfl hl.1 rfl (Nat.le_of_ble_eq_true rfl) ⟨rfl, rfl, Nat.le_of_ble_eq_true rfl, Nat.le_of_ble_eq_true rfl⟩ dX7_good_53) hS (fun x793 ν794 τ795 H locs hv hP hS => ?_)
        exact g_retM hx hb hrt hlk hP hS rfl hv dX7_good_56
      · have hv := hv.2 c792
        by_cases c796 : a1 = 1
        · refine lv_tableIn (tgt := 57) (off := 34) hx hb dX7_good_23 (by rw [c796]; decide) (by rw [c796]; decide) (by rw [c796]; rfl) (by decide) ?_
          have hv := hv.1 c796
          refine lv_aload_n hx hb dX7_good_57 rfl (lv_at hl 0 rfl) ?_
          refine g_iM (g_bV (As := []) (rest := []) C0 hK hP kX7_greatestThrow ql_X7_104 (mX7_greatestThrow hE hv) (by decide) ge_X7 rfl rfl hl.1 rfl (Nat.le_of_ble_eq_true rfl) ⟨rfl, rfl, Nat.le_of_ble_eq_true rfl, Nat.le_of_ble_eq_true rfl⟩ dX7_good_58) hS (fun x797 ν798 τ799 H locs hv hP hS => ?_)
          exact g_retM hx hb hrt hlk hP hS rfl hv dX7_good_61
        · have hv := hv.2 c796
          by_cases c800 : a1 = 2
          · refine lv_tableIn (tgt := 62) (off := 39) hx hb dX7_good_23 (by rw [c800]; decide) (by rw [c800]; decide) (by rw [c800]; rfl) (by decide) ?_
            have hv := hv.1 c800
            refine lv_aload_n hx hb dX7_good_62 rfl (lv_at hl 0 rfl) ?_
            refine g_iM (g_bV (As := []) (rest := []) C0 hK hP kX7_isPrime ql_X7_107 (mX7_isPrime hE hv) (by decide) ge_X7 rfl rfl hl.1 rfl (Nat.le_of_ble_eq_true rfl) ⟨rfl, rfl, Nat.le_of_ble_eq_true rfl, Nat.le_of_ble_eq_true rfl⟩ dX7_good_63) hS (fun x801 ν802 τ803 H locs hv hP hS => ?_)
            refine lv_if_eq (tgt := 73) hx hb dX7_good_66 (by decide) (fun c804 => ?_) (fun c804 => ?_)
            · have hv := hv.1 c804
              refine lv_iconst (v := 0) hx hb dX7_good_73 (by decide) ?_
              exact g_retM hx hb hrt hlk hP hS rfl hv dX7_good_74
            · have hv := hv.2 c804
              refine lv_iconst (v := 1) hx hb dX7_good_69 (by decide) (lv_goto (tgt := 74) hx hb dX7_good_70 (by decide) ?_)
              exact g_retM hx hb hrt hlk hP hS rfl hv dX7_good_74
          · have hv := hv.2 c800
            by_cases c805 : a1 = 3
            · refine lv_tableIn (tgt := 75) (off := 52) hx hb dX7_good_23 (by rw [c805]; decide) (by rw [c805]; decide) (by rw [c805]; rfl) (by decide) ?_
              have hv := hv.1 c805
              refine lv_aload_n hx hb dX7_good_75 rfl (lv_at hl 0 rfl) ?_
              refine g_iM (g_bV (As := []) (rest := []) C0 hK hP kX7_isGround ql_X7_110 (mX7_isGround hE hv) (by decide) ge_X7 rfl rfl hl.1 rfl (Nat.le_of_ble_eq_true rfl) ⟨rfl, rfl, Nat.le_of_ble_eq_true rfl, Nat.le_of_ble_eq_true rfl⟩ dX7_good_76) hS (fun x806 ν807 τ808 H locs hv hP hS => ?_)
              refine lv_if_eq (tgt := 86) hx hb dX7_good_79 (by decide) (fun c809 => ?_) (fun c809 => ?_)
              · have hv := hv.1 c809
                refine lv_iconst (v := 0) hx hb dX7_good_86 (by decide) ?_
                exact g_retM hx hb hrt hlk hP hS rfl hv dX7_good_87
              · have hv := hv.2 c809
                refine lv_iconst (v := 1) hx hb dX7_good_82 (by decide) (lv_goto (tgt := 87) hx hb dX7_good_83 (by decide) ?_)
                exact g_retM hx hb hrt hlk hP hS rfl hv dX7_good_87
            · have hv := hv.2 c805
              refine lv_tableOut (tgt := 88) hx hb dX7_good_23 (by have := ne_toInt (x := a1) (k := 0) (z := 0) (by decide) c792; have := ne_toInt (x := a1) (k := 1) (z := 1) (by decide) c796; have := ne_toInt (x := a1) (k := 2) (z := 2) (by decide) c800; have := ne_toInt (x := a1) (k := 3) (z := 3) (by decide) c805; omega) (by decide) ?_
              refine lv_aload_n hx hb dX7_good_88 rfl (lv_at hl 0 rfl) ?_
              refine g_iM (g_bV (As := []) (rest := []) C0 hK hP kX7_findOrbits ql_X7_113 (mX7_findOrbits hE hv) (by decide) ge_X7 rfl rfl hl.1 rfl (Nat.le_of_ble_eq_true rfl) ⟨rfl, rfl, Nat.le_of_ble_eq_true rfl, Nat.le_of_ble_eq_true rfl⟩ dX7_good_89) hS (fun x810 ν811 τ812 H locs hv hP hS => ?_)
              exact g_retM hx hb hrt hlk hP hS rfl hv dX7_good_92
    · have hv := hv.2 c791
      refine lv_bipush (v := (-3)) hx hb dX7_good_19 (by decide) ?_
      exact g_retM hx hb hrt hlk hP hS rfl hv dX7_good_21
  · have hv := hv.2 c787
    refine lv_bipush (v := (-2)) hx hb dX7_good_9 (by decide) ?_
    exact g_retM hx hb hrt hlk hP hS rfl hv dX7_good_11
set_option maxHeartbeats 4000000 in
set_option maxRecDepth 100000 in
theorem mX7_state {l : Launch} {E : gE} {μ ν : gM} {τ : gJ} {Q : Int32 → gM → gJ → Prop} (hE : gLok E) {a1 : Int32}  (hv : vX7_state a1 ν τ Q) : Met l yX7_state (gws yX7_state cX7_state 2 (some .int)) (gRm 3 63) (gPc E [.ref (gL E 32), .int a1] μ ν τ) (gQiM E Q μ) 0 0 (gA E) := by
  refine g_entr (lv := [(0, .ref (gL E 32)), (1, .int a1)]) (by decide +kernel) (Nat.le_of_ble_eq_true rfl) rfl (fun p e s m args below meth c ls H locs hx hb hrt hlk C0 hK hP hS hl => ?_)
  have C0 : CallFix p m c cX7_state 2 s args gTB RX7 := C0
  unfold vX7_state at hv
  refine lv_aload_n hx hb dX7_state_0 rfl (lv_at hl 0 rfl) (lv_iload_n hx hb dX7_state_1 rfl (lv_at hl 1 rfl) ?_)
  refine g_iM (g_bV (As := [.int a1]) (rest := []) C0 hK hP kX7_isBeat ql_X7_84 (mX7_isBeat hE hv) (by decide) ge_X7 rfl rfl hl.1 rfl (Nat.le_of_ble_eq_true rfl) ⟨rfl, rfl, Nat.le_of_ble_eq_true rfl, Nat.le_of_ble_eq_true rfl⟩ dX7_state_2) hS (fun x813 ν814 τ815 H locs hv hP hS => ?_)
  refine lv_if_ne (tgt := 10) hx hb dX7_state_5 (by decide) (fun c816 => ?_) (fun c816 => ?_)
  · have hv := hv.1 c816
    refine lv_aload_n hx hb dX7_state_10 rfl (lv_at hl 0 rfl) ?_
    refine g_iM (g_bV (As := []) (rest := []) C0 hK hP kX7_isGood ql_X7_100 (mX7_isGood hE hv) (by decide) ge_X7 rfl rfl hl.1 rfl (Nat.le_of_ble_eq_true rfl) ⟨rfl, rfl, Nat.le_of_ble_eq_true rfl, Nat.le_of_ble_eq_true rfl⟩ dX7_state_11) hS (fun x817 ν818 τ819 H locs hv hP hS => ?_)
    refine lv_if_eq (tgt := 25) hx hb dX7_state_14 (by decide) (fun c820 => ?_) (fun c820 => ?_)
    · have hv := hv.1 c820
      refine lv_bipush (v := (-3)) hx hb dX7_state_25 (by decide) ?_
      exact g_retM hx hb hrt hlk hP hS rfl hv dX7_state_27
    · have hv := hv.2 c820
      refine lv_aload_n hx hb dX7_state_17 rfl (lv_at hl 0 rfl) (lv_iload_n hx hb dX7_state_18 rfl (lv_at hl 1 rfl) ?_)
      refine g_iM (g_bV (As := [.int a1]) (rest := []) C0 hK hP kX7_stateAhead ql_X7_94 (mX7_stateAhead hE hv) (by decide) ge_X7 rfl rfl hl.1 rfl (Nat.le_of_ble_eq_true rfl) ⟨rfl, rfl, Nat.le_of_ble_eq_true rfl, Nat.le_of_ble_eq_true rfl⟩ dX7_state_19) hS (fun x821 ν822 τ823 H locs hv hP hS => ?_)
      refine lv_goto (tgt := 27) hx hb dX7_state_22 (by decide) ?_
      exact g_retM hx hb hrt hlk hP hS rfl hv dX7_state_27
  · have hv := hv.2 c816
    refine lv_iconst (v := (-1)) hx hb dX7_state_8 (by decide) ?_
    exact g_retM hx hb hrt hlk hP hS rfl hv dX7_state_9
set_option maxHeartbeats 4000000 in
set_option maxRecDepth 100000 in
theorem mX7_layBalls {l : Launch} {E : gE} {μ ν : gM} {τ : gJ} {Q : gM → gJ → Prop} (hE : gLok E)   (hv : vX7_layBalls ν τ Q) : Met l yX7_layBalls (gws yX7_layBalls cX7_layBalls 4 none) (gRm 0 0) (gPc E [.ref (gL E 32)] μ ν τ) (gQvM E Q μ) 0 0 (gA E) := by
  refine g_entr (lv := [(0, .ref (gL E 32))]) (by decide +kernel) (Nat.le_of_ble_eq_true rfl) rfl (fun p e s m args below meth c ls H locs hx hb hrt hlk C0 hK hP hS hl => ?_)
  have C0 : CallFix p m c cX7_layBalls 4 s args gTB RX7 := C0
  have h_27 : ∀ (n_27 : Nat) (v1 : Int32) (v2 : Int32) (ν : gM) (τ : gJ) (H : Heap) (locs : List Loc) (ls : Array Slot), va_P (gD E) vwCl (wl E μ ν τ) H → va_S (gA E) s.heap H locs → lv_has ls 4 [(0, .ref (gL E 32)), (1, .int v1), (2, .int v2)] → vX7_layBalls_27 Q n_27 v1 v2 ν τ → W p l e (gRm 0 0) s m args below meth c H locs 0 0 (MQ below (gQvM E Q μ) args s 0 0 (gA E)) (F0 m 27 ls []) := by
    intro n_27
    induction n_27 with
    | zero =>
      intro v1 v2 ν τ H locs ls hP hS hl hv
      exact False.elim hv
    | succ n_27 ih_27 =>
      intro v1 v2 ν τ H locs ls hP hS hl hv
      have hv : vX7_layBalls_27B Q (vX7_layBalls_27 Q n_27) v1 v2 ν τ := hv
      unfold vX7_layBalls_27B at hv
      refine lv_iload_n hx hb dX7_layBalls_27 rfl (lv_at hl 2 rfl) (lv_sipush (v := 999) hx hb dX7_layBalls_28 (by decide) ?_)
      refine lv_icmp_gt (tgt := 91) hx hb dX7_layBalls_31 (by decide) (fun c826 => ?_) (fun c826 => ?_)
      · have hv := hv.1 c826
        exact g_vretM hx hb hrt hlk hP hS hv dX7_layBalls_91
      · have hv := hv.2 c826
        refine lv_aload_n hx hb dX7_layBalls_34 rfl (lv_at hl 0 rfl) (gg_X7_19 C0 hK hP dX7_layBalls_35 (lv_iload_n hx hb dX7_layBalls_38 rfl (lv_at hl 2 rfl) (lv_aload_n hx hb dX7_layBalls_39 rfl (lv_at hl 0 rfl) (gg_X7_60 C0 hK hP dX7_layBalls_40 ?_))))
        have hd := hv.1
        have hv := hv.2
        refine lv_irem hx hb dX7_layBalls_43 hd ?_
        have hi827 := hv.1
        have hv := hv.2
        refine g_iald hx hb hK hP (by decide) ga_36 hi827 dX7_layBalls_44 (lv_istore_n (lv' := [(3, .int (ν 36 (v2 - v2 / (ν 32 5) * (ν 32 5)).toNatClampNeg)), (0, .ref (gL E 32)), (1, .int v1), (2, .int v2)]) hx hb dX7_layBalls_45 rfl hl (by decide) rfl (fun ls hl => (lv_iload_n hx hb dX7_layBalls_46 rfl (lv_at hl 0 rfl) ?_)))
        refine lv_if_le (tgt := 85) hx hb dX7_layBalls_47 (by decide) (fun c828 => ?_) (fun c828 => ?_)
        · have hv := hv.1 c828
          refine lv_iinc (v := (v2 + 1)) (lv' := [(2, .int (v2 + 1)), (3, .int (ν 36 (v2 - v2 / (ν 32 5) * (ν 32 5)).toNatClampNeg)), (0, .ref (gL E 32)), (1, .int v1)]) hx hb dX7_layBalls_85 hl (k := 3) rfl rfl (by decide) rfl (fun ls hl => (lv_goto (tgt := 27) hx hb dX7_layBalls_88 (by decide) ?_))
          exact ih_27 v1 (v2 + 1) ν τ H locs ls hP hS (lv_sub hl [2, 3, 0] rfl) hv
        · have hv := hv.2 c828
          refine lv_aload_n hx hb dX7_layBalls_50 rfl (lv_at hl 1 rfl) (gg_X7_28 C0 hK hP dX7_layBalls_51 (lv_iload_n hx hb dX7_layBalls_54 rfl (lv_at hl 3 rfl) ?_))
          have hi829 := hv.1
          have hv := hv.2
          refine g_iald hx hb hK hP (by decide) ga_39 hi829 dX7_layBalls_55 (lv_bipush (v := (-9)) hx hb dX7_layBalls_56 (by decide) ?_)
          refine lv_icmp_ne (tgt := 71) hx hb dX7_layBalls_58 (by decide) (fun c830 => ?_) (fun c830 => ?_)
          · have hv := hv.1 c830
            refine lv_aload_n hx hb dX7_layBalls_71 rfl (lv_at hl 1 rfl) (gg_X7_28 C0 hK hP dX7_layBalls_72 (lv_iload_n hx hb dX7_layBalls_75 rfl (lv_at hl 3 rfl) (lv_iload_n hx hb dX7_layBalls_76 rfl (lv_at hl 0 rfl) (lv_iadd hx hb dX7_layBalls_77 (lv_aload_n hx hb dX7_layBalls_78 rfl (lv_at hl 1 rfl) (gg_X7_28 C0 hK hP dX7_layBalls_79 (lv_iload_n hx hb dX7_layBalls_82 rfl (lv_at hl 3 rfl) ?_)))))))
            have hi831 := hv.1
            have hv := hv.2
            refine g_iald hx hb hK hP (by decide) ga_39 hi831 dX7_layBalls_83 ?_
            have hi832 := hv.1
            have hv := hv.2
            refine g_iastM hE hx hb hK hP hS (by decide) (fun _ => ga_39) hi832 dX7_layBalls_84 (fun H locs hP hS => (lv_iinc (v := (v2 + 1)) (lv' := [(2, .int (v2 + 1)), (3, .int (ν 36 (v2 - v2 / (ν 32 5) * (ν 32 5)).toNatClampNeg)), (0, .ref (gL E 32)), (1, .int v1)]) hx hb dX7_layBalls_85 hl (k := 3) rfl rfl (by decide) rfl (fun ls hl => (lv_goto (tgt := 27) hx hb dX7_layBalls_88 (by decide) ?_))))
            exact ih_27 v1 (v2 + 1) (up2 ν 39 (v2 + (ν 36 (v2 - v2 / (ν 32 5) * (ν 32 5)).toNatClampNeg)).toNatClampNeg (ν 39 v2.toNatClampNeg)) τ H locs ls hP hS (lv_sub hl [2, 3, 0] rfl) hv
          · have hv := hv.2 c830
            refine lv_aload_n hx hb dX7_layBalls_61 rfl (lv_at hl 1 rfl) (gg_X7_28 C0 hK hP dX7_layBalls_62 (lv_iload_n hx hb dX7_layBalls_65 rfl (lv_at hl 3 rfl) (lv_iload_n hx hb dX7_layBalls_66 rfl (lv_at hl 2 rfl) ?_)))
            have hi833 := hv.1
            have hv := hv.2
            refine g_iastM hE hx hb hK hP hS (by decide) (fun _ => ga_39) hi833 dX7_layBalls_67 (fun H locs hP hS => (lv_iinc (v := (v1 + 1)) (lv' := [(1, .int (v1 + 1)), (3, .int (ν 36 (v2 - v2 / (ν 32 5) * (ν 32 5)).toNatClampNeg)), (0, .ref (gL E 32)), (2, .int v2)]) hx hb dX7_layBalls_68 hl (k := 2) rfl rfl (by decide) rfl (fun ls hl => (lv_aload_n hx hb dX7_layBalls_71 rfl (lv_at hl 2 rfl) (gg_X7_28 C0 hK hP dX7_layBalls_72 (lv_iload_n hx hb dX7_layBalls_75 rfl (lv_at hl 3 rfl) (lv_iload_n hx hb dX7_layBalls_76 rfl (lv_at hl 1 rfl) (lv_iadd hx hb dX7_layBalls_77 (lv_aload_n hx hb dX7_layBalls_78 rfl (lv_at hl 2 rfl) (gg_X7_28 C0 hK hP dX7_layBalls_79 (lv_iload_n hx hb dX7_layBalls_82 rfl (lv_at hl 3 rfl) ?_)))))))))))
            have hi834 := hv.1
            have hv := hv.2
            refine g_iald hx hb hK hP (by decide) ga_39 hi834 dX7_layBalls_83 ?_
            have hi835 := hv.1
            have hv := hv.2
            refine g_iastM hE hx hb hK hP hS (by decide) (fun _ => ga_39) hi835 dX7_layBalls_84 (fun H locs hP hS => (lv_iinc (v := (v2 + 1)) (lv' := [(2, .int (v2 + 1)), (1, .int (v1 + 1)), (3, .int (ν 36 (v2 - v2 / (ν 32 5) * (ν 32 5)).toNatClampNeg)), (0, .ref (gL E 32))]) hx hb dX7_layBalls_85 hl (k := 3) rfl rfl (by decide) rfl (fun ls hl => (lv_goto (tgt := 27) hx hb dX7_layBalls_88 (by decide) ?_))))
            exact ih_27 (v1 + 1) (v2 + 1) (up2 (up2 ν 39 v2.toNatClampNeg v1) 39 (v2 + (ν 36 (v2 - v2 / (ν 32 5) * (ν 32 5)).toNatClampNeg)).toNatClampNeg ((up2 ν 39 v2.toNatClampNeg v1) 39 v2.toNatClampNeg)) τ H locs ls hP hS (lv_sub hl [3, 1, 0] rfl) hv
  have h_2 : ∀ (n_2 : Nat) (v1 : Int32) (ν : gM) (τ : gJ) (H : Heap) (locs : List Loc) (ls : Array Slot), va_P (gD E) vwCl (wl E μ ν τ) H → va_S (gA E) s.heap H locs → lv_has ls 4 [(0, .ref (gL E 32)), (1, .int v1)] → vX7_layBalls_2 Q n_2 v1 ν τ → W p l e (gRm 0 0) s m args below meth c H locs 0 0 (MQ below (gQvM E Q μ) args s 0 0 (gA E)) (F0 m 2 ls []) := by
    intro n_2
    induction n_2 with
    | zero =>
      intro v1 ν τ H locs ls hP hS hl hv
      exact False.elim hv
    | succ n_2 ih_2 =>
      intro v1 ν τ H locs ls hP hS hl hv
      have hv : vX7_layBalls_2B Q (vX7_layBalls_2 Q n_2) v1 ν τ := hv
      unfold vX7_layBalls_2B at hv
      refine lv_iload_n hx hb dX7_layBalls_2 rfl (lv_at hl 1 rfl) (lv_sipush (v := 1010) hx hb dX7_layBalls_3 (by decide) ?_)
      refine lv_icmp_ge (tgt := 23) hx hb dX7_layBalls_6 (by decide) (fun c824 => ?_) (fun c824 => ?_)
      · have hv := hv.1 c824
        refine lv_iconst (v := 0) hx hb dX7_layBalls_23 (by decide) (lv_istore_n (lv' := [(1, .int 0), (0, .ref (gL E 32))]) hx hb dX7_layBalls_24 rfl hl (by decide) rfl (fun ls hl => (lv_iconst (v := 0) hx hb dX7_layBalls_25 (by decide) (lv_istore_n (lv' := [(2, .int 0), (1, .int 0), (0, .ref (gL E 32))]) hx hb dX7_layBalls_26 rfl hl (by decide) rfl (fun ls hl => ?_)))))
        obtain ⟨nf, hv⟩ := hv
        exact h_27 nf 0 0 ν τ H locs ls hP hS (lv_sub hl [2, 1, 0] rfl) hv
      · have hv := hv.2 c824
        refine lv_aload_n hx hb dX7_layBalls_9 rfl (lv_at hl 0 rfl) (gg_X7_28 C0 hK hP dX7_layBalls_10 (lv_iload_n hx hb dX7_layBalls_13 rfl (lv_at hl 1 rfl) (lv_bipush (v := (-9)) hx hb dX7_layBalls_14 (by decide) ?_)))
        have hi825 := hv.1
        have hv := hv.2
        refine g_iastM hE hx hb hK hP hS (by decide) (fun _ => ga_39) hi825 dX7_layBalls_16 (fun H locs hP hS => (lv_iinc (v := (v1 + 1)) (lv' := [(1, .int (v1 + 1)), (0, .ref (gL E 32))]) hx hb dX7_layBalls_17 hl (k := 1) rfl rfl (by decide) rfl (fun ls hl => (lv_goto (tgt := 2) hx hb dX7_layBalls_20 (by decide) ?_))))
        exact ih_2 (v1 + 1) (up2 ν 39 v1.toNatClampNeg (-9)) τ H locs ls hP hS (lv_sub hl [1, 0] rfl) hv
  unfold vX7_layBalls at hv
  refine lv_iconst (v := 0) hx hb dX7_layBalls_0 (by decide) (lv_istore_n (lv' := [(1, .int 0), (0, .ref (gL E 32))]) hx hb dX7_layBalls_1 rfl hl (by decide) rfl (fun ls hl => ?_))
  obtain ⟨nf, hv⟩ := hv
  exact h_2 nf 0 ν τ H locs ls hP hS (lv_sub hl [1, 0] rfl) hv
set_option maxHeartbeats 4000000 in
set_option maxRecDepth 100000 in
theorem mX7_ball {l : Launch} {E : gE} {μ ν : gM} {τ : gJ} {Q : Int32 → gM → gJ → Prop} (hE : gLok E) {a1 : Int32}  (hv : vX7_ball a1 ν τ Q) : Met l yX7_ball (gws yX7_ball cX7_ball 2 (some .int)) (gRm 3 63) (gPc E [.ref (gL E 32), .int a1] μ ν τ) (gQiM E Q μ) 0 0 (gA E) := by
  refine g_entr (lv := [(0, .ref (gL E 32)), (1, .int a1)]) (by decide +kernel) (Nat.le_of_ble_eq_true rfl) rfl (fun p e s m args below meth c ls H locs hx hb hrt hlk C0 hK hP hS hl => ?_)
  have C0 : CallFix p m c cX7_ball 2 s args gTB RX7 := C0
  unfold vX7_ball at hv
  refine lv_iload_n hx hb dX7_ball_0 rfl (lv_at hl 1 rfl) (lv_iconst (v := 0) hx hb dX7_ball_1 (by decide) (lv_sipush (v := 999) hx hb dX7_ball_2 (by decide) ?_))
  refine g_iS (g_bS (As := [.int a1, .int 0, .int 999]) (rest := []) C0 hK hP kX7_within ql_X7_56 (mX7_within hE hv) rfl hl.1 rfl (Nat.le_of_ble_eq_true rfl) ⟨rfl, rfl, Nat.le_of_ble_eq_true rfl, Nat.le_of_ble_eq_true rfl⟩ dX7_ball_5) hS (fun x836 H locs hv hP hS => ?_)
  refine lv_if_ne (tgt := 14) hx hb dX7_ball_8 (by decide) (fun c837 => ?_) (fun c837 => ?_)
  · have hv := hv.1 c837
    refine lv_aload_n hx hb dX7_ball_14 rfl (lv_at hl 0 rfl) ?_
    refine g_iM (g_bV (As := []) (rest := []) C0 hK hP kX7_isGood ql_X7_100 (mX7_isGood hE hv) (by decide) ge_X7 rfl rfl hl.1 rfl (Nat.le_of_ble_eq_true rfl) ⟨rfl, rfl, Nat.le_of_ble_eq_true rfl, Nat.le_of_ble_eq_true rfl⟩ dX7_ball_15) hS (fun x838 ν839 τ840 H locs hv hP hS => ?_)
    refine lv_if_ne (tgt := 24) hx hb dX7_ball_18 (by decide) (fun c841 => ?_) (fun c841 => ?_)
    · have hv := hv.1 c841
      refine lv_aload_n hx hb dX7_ball_24 rfl (lv_at hl 0 rfl) ?_
      refine g_vM (g_bV (As := []) (rest := []) C0 hK hP kX7_layBalls ql_X7_116 (mX7_layBalls hE hv) (by decide) ge_X7 rfl rfl hl.1 rfl (Nat.le_of_ble_eq_true rfl) ⟨rfl, rfl, Nat.le_of_ble_eq_true rfl, Nat.le_of_ble_eq_true rfl⟩ dX7_ball_25) hS (fun ν843 τ844 H locs hv hP hS => ?_)
      refine lv_aload_n hx hb dX7_ball_28 rfl (lv_at hl 0 rfl) (gg_X7_28 C0 hK hP dX7_ball_29 (lv_iload_n hx hb dX7_ball_32 rfl (lv_at hl 1 rfl) ?_))
      have hi845 := hv.1
      have hv := hv.2
      refine g_iald hx hb hK hP (by decide) ga_39 hi845 dX7_ball_33 ?_
      exact g_retM hx hb hrt hlk hP hS rfl hv dX7_ball_34
    · have hv := hv.2 c841
      refine lv_bipush (v := (-3)) hx hb dX7_ball_21 (by decide) ?_
      exact g_retM hx hb hrt hlk hP hS rfl hv dX7_ball_23
  · have hv := hv.2 c837
    refine lv_bipush (v := (-2)) hx hb dX7_ball_11 (by decide) ?_
    exact g_retM hx hb hrt hlk hP hS rfl hv dX7_ball_13
set_option maxHeartbeats 4000000 in
set_option maxRecDepth 100000 in
theorem mX7_orbit {l : Launch} {E : gE} {μ ν : gM} {τ : gJ} {Q : Int32 → gM → gJ → Prop} (hE : gLok E) {a1 : Int32}  (hv : vX7_orbit a1 ν τ Q) : Met l yX7_orbit (gws yX7_orbit cX7_orbit 2 (some .int)) (gRm 3 63) (gPc E [.ref (gL E 32), .int a1] μ ν τ) (gQiM E Q μ) 0 0 (gA E) := by
  refine g_entr (lv := [(0, .ref (gL E 32)), (1, .int a1)]) (by decide +kernel) (Nat.le_of_ble_eq_true rfl) rfl (fun p e s m args below meth c ls H locs hx hb hrt hlk C0 hK hP hS hl => ?_)
  have C0 : CallFix p m c cX7_orbit 2 s args gTB RX7 := C0
  unfold vX7_orbit at hv
  refine lv_aload_n hx hb dX7_orbit_0 rfl (lv_at hl 0 rfl) (lv_iload_n hx hb dX7_orbit_1 rfl (lv_at hl 1 rfl) ?_)
  refine g_iM (g_bV (As := [.int a1]) (rest := []) C0 hK hP kX7_isBeat ql_X7_84 (mX7_isBeat hE hv) (by decide) ge_X7 rfl rfl hl.1 rfl (Nat.le_of_ble_eq_true rfl) ⟨rfl, rfl, Nat.le_of_ble_eq_true rfl, Nat.le_of_ble_eq_true rfl⟩ dX7_orbit_2) hS (fun x846 ν847 τ848 H locs hv hP hS => ?_)
  refine lv_if_ne (tgt := 10) hx hb dX7_orbit_5 (by decide) (fun c849 => ?_) (fun c849 => ?_)
  · have hv := hv.1 c849
    refine lv_aload_n hx hb dX7_orbit_10 rfl (lv_at hl 0 rfl) ?_
    refine g_iM (g_bV (As := []) (rest := []) C0 hK hP kX7_isGood ql_X7_100 (mX7_isGood hE hv) (by decide) ge_X7 rfl rfl hl.1 rfl (Nat.le_of_ble_eq_true rfl) ⟨rfl, rfl, Nat.le_of_ble_eq_true rfl, Nat.le_of_ble_eq_true rfl⟩ dX7_orbit_11) hS (fun x850 ν851 τ852 H locs hv hP hS => ?_)
    refine lv_if_ne (tgt := 20) hx hb dX7_orbit_14 (by decide) (fun c853 => ?_) (fun c853 => ?_)
    · have hv := hv.1 c853
      refine lv_aload_n hx hb dX7_orbit_20 rfl (lv_at hl 0 rfl) ?_
      refine g_iM (g_bV (As := []) (rest := []) C0 hK hP kX7_findOrbits ql_X7_113 (mX7_findOrbits hE hv) (by decide) ge_X7 rfl rfl hl.1 rfl (Nat.le_of_ble_eq_true rfl) ⟨rfl, rfl, Nat.le_of_ble_eq_true rfl, Nat.le_of_ble_eq_true rfl⟩ dX7_orbit_21) hS (fun x854 ν855 τ856 H locs hv hP hS => ?_)
      refine lv_pop hx hb dX7_orbit_24 rfl (lv_aload_n hx hb dX7_orbit_25 rfl (lv_at hl 0 rfl) (gg_X7_25 C0 hK hP dX7_orbit_26 (lv_iload_n hx hb dX7_orbit_29 rfl (lv_at hl 1 rfl) ?_)))
      have hi857 := hv.1
      have hv := hv.2
      refine g_iald hx hb hK hP (by decide) ga_38 hi857 dX7_orbit_30 ?_
      exact g_retM hx hb hrt hlk hP hS rfl hv dX7_orbit_31
    · have hv := hv.2 c853
      refine lv_bipush (v := (-3)) hx hb dX7_orbit_17 (by decide) ?_
      exact g_retM hx hb hrt hlk hP hS rfl hv dX7_orbit_19
  · have hv := hv.2 c849
    refine lv_iconst (v := (-1)) hx hb dX7_orbit_8 (by decide) ?_
    exact g_retM hx hb hrt hlk hP hS rfl hv dX7_orbit_9
set_option maxHeartbeats 4000000 in
set_option maxRecDepth 100000 in
theorem mX7_hands {l : Launch} {E : gE} {μ ν : gM} {τ : gJ} {Q : Int32 → gM → gJ → Prop} (hE : gLok E) {a1 : Int32}  (hv : vX7_hands a1 ν τ Q) : Met l yX7_hands (gws yX7_hands cX7_hands 3 (some .int)) (gRm 1 22) (gPc E [.ref (gL E 32), .int a1] μ ν τ) (gQiM E Q μ) 0 0 (gA E) := by
  refine g_entr (lv := [(0, .ref (gL E 32)), (1, .int a1)]) (by decide +kernel) (Nat.le_of_ble_eq_true rfl) rfl (fun p e s m args below meth c ls H locs hx hb hrt hlk C0 hK hP hS hl => ?_)
  have C0 : CallFix p m c cX7_hands 3 s args gTB RX7 := C0
  unfold vX7_hands at hv
  refine lv_iload_n hx hb dX7_hands_0 rfl (lv_at hl 1 rfl) (lv_iconst (v := 1) hx hb dX7_hands_1 (by decide) (lv_iconst (v := 4) hx hb dX7_hands_2 (by decide) ?_))
  refine g_iS (g_bS (As := [.int a1, .int 1, .int 4]) (rest := []) C0 hK hP kX7_within ql_X7_56 (mX7_within hE hv) rfl hl.1 rfl (Nat.le_of_ble_eq_true rfl) ⟨rfl, rfl, Nat.le_of_ble_eq_true rfl, Nat.le_of_ble_eq_true rfl⟩ dX7_hands_3) hS (fun x858 H locs hv hP hS => ?_)
  refine lv_if_ne (tgt := 12) hx hb dX7_hands_6 (by decide) (fun c859 => ?_) (fun c859 => ?_)
  · have hv := hv.1 c859
    refine lv_aload_n hx hb dX7_hands_12 rfl (lv_at hl 0 rfl) (gg_X7_60 C0 hK hP dX7_hands_13 ?_)
    refine lv_if_ne (tgt := 22) hx hb dX7_hands_16 (by decide) (fun c860 => ?_) (fun c860 => ?_)
    · have hv := hv.1 c860
      refine lv_aload_n hx hb dX7_hands_22 rfl (lv_at hl 0 rfl) (gg_X7_78 C0 hK hP dX7_hands_23 (lv_istore_n (lv' := [(2, .int (ν 32 7)), (0, .ref (gL E 32)), (1, .int a1)]) hx hb dX7_hands_26 rfl hl (by decide) rfl (fun ls hl => (lv_aload_n hx hb dX7_hands_27 rfl (lv_at hl 1 rfl) (lv_iload_n hx hb dX7_hands_28 rfl (lv_at hl 2 rfl) (gp_X7_78 hE C0 hK hP hS dX7_hands_29 (fun H locs hP hS => (lv_iload_n hx hb dX7_hands_32 rfl (lv_at hl 0 rfl) ?_))))))))
      exact g_retM hx hb hrt hlk hP hS rfl hv dX7_hands_33
    · have hv := hv.2 c860
      refine lv_bipush (v := (-3)) hx hb dX7_hands_19 (by decide) ?_
      exact g_retM hx hb hrt hlk hP hS rfl hv dX7_hands_21
  · have hv := hv.2 c859
    refine lv_bipush (v := (-2)) hx hb dX7_hands_9 (by decide) ?_
    exact g_retM hx hb hrt hlk hP hS rfl hv dX7_hands_11
set_option maxHeartbeats 4000000 in
set_option maxRecDepth 100000 in
theorem mX7_size {l : Launch} {E : gE} {μ ν : gM} {τ : gJ} {Q : Int32 → Prop} (hE : gLok E) {a0 : Int32}  (hv : vX7_size a0 Q) : Met l yX7_size (gws yX7_size cX7_size 3 (some .int)) (gRm 0 0) (gPc E [.int a0] μ ν τ) (gQiS E Q μ ν τ) 0 0 (gA E) := by
  refine g_entr (lv := [(0, .int a0)]) (by decide +kernel) (Nat.le_of_ble_eq_true rfl) rfl (fun p e s m args below meth c ls H locs hx hb hrt hlk C0 hK hP hS hl => ?_)
  have C0 : CallFix p m c cX7_size 3 s args gTB RX7 := C0
  have h_4 : ∀ (n_4 : Nat) (v1 : Int32) (v2 : Int32)  (H : Heap) (locs : List Loc) (ls : Array Slot), va_P (gD E) vwCl (wl E μ ν τ) H → va_S (gA E) s.heap H locs → lv_has ls 3 [(1, .int v1), (2, .int v2)] → vX7_size_4 a0 Q n_4 v1 v2 → W p l e (gRm 0 0) s m args below meth c H locs 0 0 (MQ below (gQiS E Q μ ν τ) args s 0 0 (gA E)) (F0 m 4 ls []) := by
    intro n_4
    induction n_4 with
    | zero =>
      intro v1 v2 H locs ls hP hS hl hv
      exact False.elim hv
    | succ n_4 ih_4 =>
      intro v1 v2 H locs ls hP hS hl hv
      have hv : vX7_size_4B a0 Q (vX7_size_4 a0 Q n_4) v1 v2 := hv
      unfold vX7_size_4B at hv
      refine lv_iload_n hx hb dX7_size_4 rfl (lv_at hl 1 rfl) ?_
      refine lv_if_le (tgt := 21) hx hb dX7_size_5 (by decide) (fun c861 => ?_) (fun c861 => ?_)
      · have hv := hv.1 c861
        refine lv_iload_n hx hb dX7_size_21 rfl (lv_at hl 0 rfl) ?_
        exact g_retS hx hb hrt hlk hP hS rfl hv dX7_size_22
      · have hv := hv.2 c861
        refine lv_iload_n hx hb dX7_size_8 rfl (lv_at hl 0 rfl) (lv_iload_n hx hb dX7_size_9 rfl (lv_at hl 1 rfl) (lv_iconst (v := 1) hx hb dX7_size_10 (by decide) (lv_iand hx hb dX7_size_11 (lv_iadd hx hb dX7_size_12 (lv_istore_n (lv' := [(1, .int (v1 + (v2 &&& 1))), (2, .int v2)]) hx hb dX7_size_13 rfl hl (by decide) rfl (fun ls hl => (lv_iload_n hx hb dX7_size_14 rfl (lv_at hl 1 rfl) (lv_iconst (v := 1) hx hb dX7_size_15 (by decide) (lv_ishr hx hb dX7_size_16 (lv_istore_n (lv' := [(2, .int (v2 >>> ((1 : Int32) &&& 31))), (1, .int (v1 + (v2 &&& 1)))]) hx hb dX7_size_17 rfl hl (by decide) rfl (fun ls hl => ?_)))))))))))
        refine lv_goto (tgt := 4) hx hb dX7_size_18 (by decide) ?_
        exact ih_4 (v1 + (v2 &&& 1)) (v2 >>> ((1 : Int32) &&& 31)) H locs ls hP hS (lv_sub hl [1, 0] rfl) hv
  unfold vX7_size at hv
  refine lv_iconst (v := 0) hx hb dX7_size_0 (by decide) (lv_istore_n (lv' := [(1, .int 0), (0, .int a0)]) hx hb dX7_size_1 rfl hl (by decide) rfl (fun ls hl => (lv_iload_n hx hb dX7_size_2 rfl (lv_at hl 1 rfl) (lv_istore_n (lv' := [(2, .int a0), (1, .int 0), (0, .int a0)]) hx hb dX7_size_3 rfl hl (by decide) rfl (fun ls hl => ?_)))))
  obtain ⟨nf, hv⟩ := hv
  exact h_4 nf 0 a0 H locs ls hP hS (lv_sub hl [1, 0] rfl) hv
set_option maxHeartbeats 4000000 in
set_option maxRecDepth 100000 in
theorem mX7_beat {l : Launch} {E : gE} {μ ν : gM} {τ : gJ} {Q : Int32 → gM → gJ → Prop} (hE : gLok E) {a1 : Int32} {a2 : Int32}  (hv : vX7_beat a1 a2 ν τ Q) : Met l yX7_beat (gws yX7_beat cX7_beat 4 (some .int)) (gRm 3 63) (gPc E [.ref (gL E 32), .int a1, .int a2] μ ν τ) (gQiM E Q μ) 0 0 (gA E) := by
  refine g_entr (lv := [(0, .ref (gL E 32)), (1, .int a1), (2, .int a2)]) (by decide +kernel) (Nat.le_of_ble_eq_true rfl) rfl (fun p e s m args below meth c ls H locs hx hb hrt hlk C0 hK hP hS hl => ?_)
  have C0 : CallFix p m c cX7_beat 4 s args gTB RX7 := C0
  unfold vX7_beat at hv
  refine lv_iload_n hx hb dX7_beat_0 rfl (lv_at hl 1 rfl) (lv_iconst (v := 0) hx hb dX7_beat_1 (by decide) (lv_sipush (v := 999) hx hb dX7_beat_2 (by decide) ?_))
  refine g_iS (g_bS (As := [.int a1, .int 0, .int 999]) (rest := []) C0 hK hP kX7_within ql_X7_56 (mX7_within hE hv) rfl hl.1 rfl (Nat.le_of_ble_eq_true rfl) ⟨rfl, rfl, Nat.le_of_ble_eq_true rfl, Nat.le_of_ble_eq_true rfl⟩ dX7_beat_5) hS (fun x862 H locs hv hP hS => ?_)
  refine lv_if_eq (tgt := 20) hx hb dX7_beat_8 (by decide) (fun c863 => ?_) (fun c863 => ?_)
  · have hv := hv.1 c863
    refine lv_bipush (v := (-2)) hx hb dX7_beat_20 (by decide) ?_
    exact g_retM hx hb hrt hlk hP hS rfl hv dX7_beat_22
  · have hv := hv.2 c863
    refine lv_iload_n hx hb dX7_beat_11 rfl (lv_at hl 2 rfl) (lv_iconst (v := 0) hx hb dX7_beat_12 (by decide) (lv_iconst (v := 2) hx hb dX7_beat_13 (by decide) ?_))
    refine g_iS (g_bS (As := [.int a2, .int 0, .int 2]) (rest := []) C0 hK hP kX7_within ql_X7_56 (mX7_within hE hv) rfl hl.1 rfl (Nat.le_of_ble_eq_true rfl) ⟨rfl, rfl, Nat.le_of_ble_eq_true rfl, Nat.le_of_ble_eq_true rfl⟩ dX7_beat_14) hS (fun x864 H locs hv hP hS => ?_)
    refine lv_if_ne (tgt := 23) hx hb dX7_beat_17 (by decide) (fun c865 => ?_) (fun c865 => ?_)
    · have hv := hv.1 c865
      refine lv_aload_n hx hb dX7_beat_23 rfl (lv_at hl 0 rfl) ?_
      refine g_iM (g_bV (As := []) (rest := []) C0 hK hP kX7_isGood ql_X7_100 (mX7_isGood hE hv) (by decide) ge_X7 rfl rfl hl.1 rfl (Nat.le_of_ble_eq_true rfl) ⟨rfl, rfl, Nat.le_of_ble_eq_true rfl, Nat.le_of_ble_eq_true rfl⟩ dX7_beat_24) hS (fun x866 ν867 τ868 H locs hv hP hS => ?_)
      refine lv_if_ne (tgt := 33) hx hb dX7_beat_27 (by decide) (fun c869 => ?_) (fun c869 => ?_)
      · have hv := hv.1 c869
        refine lv_aload_n hx hb dX7_beat_33 rfl (lv_at hl 0 rfl) (gg_X7_19 C0 hK hP dX7_beat_34 (lv_iload_n hx hb dX7_beat_37 rfl (lv_at hl 1 rfl) (lv_aload_n hx hb dX7_beat_38 rfl (lv_at hl 0 rfl) (gg_X7_60 C0 hK hP dX7_beat_39 ?_))))
        have hd := hv.1
        have hv := hv.2
        refine lv_irem hx hb dX7_beat_42 hd ?_
        have hi870 := hv.1
        have hv := hv.2
        refine g_iald hx hb hK hP (by decide) ga_36 hi870 dX7_beat_43 (lv_istore_n (lv' := [(3, .int (ν867 36 (a1 - a1 / (ν867 32 5) * (ν867 32 5)).toNatClampNeg)), (0, .ref (gL E 32)), (1, .int a1), (2, .int a2)]) hx hb dX7_beat_44 rfl hl (by decide) rfl (fun ls hl => (lv_iload_n hx hb dX7_beat_45 rfl (lv_at hl 3 rfl) ?_)))
        refine lv_if_ne (tgt := 56) hx hb dX7_beat_46 (by decide) (fun c871 => ?_) (fun c871 => ?_)
        · have hv := hv.1 c871
          refine lv_iload_n hx hb dX7_beat_56 rfl (lv_at hl 3 rfl) (lv_iconst (v := 1) hx hb dX7_beat_57 (by decide) ?_)
          refine lv_icmp_ne (tgt := 81) hx hb dX7_beat_58 (by decide) (fun c872 => ?_) (fun c872 => ?_)
          · have hv := hv.1 c872
            refine lv_aload_n hx hb dX7_beat_81 rfl (lv_at hl 1 rfl) (lv_iload_n hx hb dX7_beat_82 rfl (lv_at hl 2 rfl) (lv_aload_n hx hb dX7_beat_83 rfl (lv_at hl 1 rfl) (gg_X7_60 C0 hK hP dX7_beat_84 ?_)))
            have hd := hv.1
            have hv := hv.2
            refine lv_irem hx hb dX7_beat_87 hd ?_
            refine g_iM (g_bV (As := [.int (a1 - a1 / (ν867 32 5) * (ν867 32 5))]) (rest := []) C0 hK hP kX7_stateAhead ql_X7_94 (mX7_stateAhead hE hv) (by decide) ge_X7 rfl rfl hl.1 rfl (Nat.le_of_ble_eq_true rfl) ⟨rfl, rfl, Nat.le_of_ble_eq_true rfl, Nat.le_of_ble_eq_true rfl⟩ dX7_beat_88) hS (fun x873 ν874 τ875 H locs hv hP hS => ?_)
            refine lv_iconst (v := 1) hx hb dX7_beat_91 (by decide) (lv_ishr hx hb dX7_beat_92 ?_)
            refine g_iS (g_bS (As := [.int (x873 >>> ((1 : Int32) &&& 31))]) (rest := []) C0 hK hP kX7_size ql_X7_119 (mX7_size hE hv) rfl hl.1 rfl (Nat.le_of_ble_eq_true rfl) ⟨rfl, rfl, Nat.le_of_ble_eq_true rfl, Nat.le_of_ble_eq_true rfl⟩ dX7_beat_93) hS (fun x876 H locs hv hP hS => ?_)
            exact g_retM hx hb hrt hlk hP hS rfl hv dX7_beat_96
          · have hv := hv.2 c872
            refine lv_iload_n hx hb dX7_beat_61 rfl (lv_at hl 0 rfl) ?_
            refine lv_if_ne (tgt := 70) hx hb dX7_beat_62 (by decide) (fun c877 => ?_) (fun c877 => ?_)
            · have hv := hv.1 c877
              refine lv_iload_n hx hb dX7_beat_70 rfl (lv_at hl 2 rfl) (lv_iload_n hx hb dX7_beat_71 rfl (lv_at hl 0 rfl) (lv_iadd hx hb dX7_beat_72 (lv_aload_n hx hb dX7_beat_73 rfl (lv_at hl 1 rfl) (gg_X7_78 C0 hK hP dX7_beat_74 ?_))))
              have hd := hv.1
              have hv := hv.2
              refine lv_irem hx hb dX7_beat_77 hd (lv_goto (tgt := 96) hx hb dX7_beat_78 (by decide) ?_)
              exact g_retM hx hb hrt hlk hP hS rfl hv dX7_beat_96
            · have hv := hv.2 c877
              refine lv_bipush (v := (-9)) hx hb dX7_beat_65 (by decide) (lv_goto (tgt := 96) hx hb dX7_beat_67 (by decide) ?_)
              exact g_retM hx hb hrt hlk hP hS rfl hv dX7_beat_96
        · have hv := hv.2 c871
          refine lv_iload_n hx hb dX7_beat_49 rfl (lv_at hl 2 rfl) (lv_aload_n hx hb dX7_beat_50 rfl (lv_at hl 1 rfl) (gg_X7_78 C0 hK hP dX7_beat_51 ?_))
          have hd := hv.1
          have hv := hv.2
          refine lv_irem hx hb dX7_beat_54 hd ?_
          exact g_retM hx hb hrt hlk hP hS rfl hv dX7_beat_55
      · have hv := hv.2 c869
        refine lv_bipush (v := (-3)) hx hb dX7_beat_30 (by decide) ?_
        exact g_retM hx hb hrt hlk hP hS rfl hv dX7_beat_32
    · have hv := hv.2 c865
      refine lv_bipush (v := (-2)) hx hb dX7_beat_20 (by decide) ?_
      exact g_retM hx hb hrt hlk hP hS rfl hv dX7_beat_22
set_option maxHeartbeats 4000000 in
set_option maxRecDepth 100000 in
theorem mX7_swap {l : Launch} {E : gE} {μ ν : gM} {τ : gJ} {Q : Int32 → gM → gJ → Prop} (hE : gLok E) {a1 : Int32} {a2 : Int32}  (hv : vX7_swap a1 a2 ν τ Q) : Met l yX7_swap (gws yX7_swap cX7_swap 5 (some .int)) (gRm 1 21) (gPc E [.ref (gL E 32), .int a1, .int a2] μ ν τ) (gQiM E Q μ) 0 0 (gA E) := by
  refine g_entr (lv := [(0, .ref (gL E 32)), (1, .int a1), (2, .int a2)]) (by decide +kernel) (Nat.le_of_ble_eq_true rfl) rfl (fun p e s m args below meth c ls H locs hx hb hrt hlk C0 hK hP hS hl => ?_)
  have C0 : CallFix p m c cX7_swap 5 s args gTB RX7 := C0
  unfold vX7_swap at hv
  refine lv_aload_n hx hb dX7_swap_0 rfl (lv_at hl 0 rfl) (lv_iload_n hx hb dX7_swap_1 rfl (lv_at hl 1 rfl) ?_)
  refine g_iM (g_bV (As := [.int a1]) (rest := []) C0 hK hP kX7_isBeat ql_X7_84 (mX7_isBeat hE hv) (by decide) ge_X7 rfl rfl hl.1 rfl (Nat.le_of_ble_eq_true rfl) ⟨rfl, rfl, Nat.le_of_ble_eq_true rfl, Nat.le_of_ble_eq_true rfl⟩ dX7_swap_2) hS (fun x878 ν879 τ880 H locs hv hP hS => ?_)
  refine lv_if_eq (tgt := 21) hx hb dX7_swap_5 (by decide) (fun c881 => ?_) (fun c881 => ?_)
  · have hv := hv.1 c881
    refine lv_iconst (v := (-1)) hx hb dX7_swap_21 (by decide) ?_
    exact g_retM hx hb hrt hlk hP hS rfl hv dX7_swap_22
  · have hv := hv.2 c881
    refine lv_aload_n hx hb dX7_swap_8 rfl (lv_at hl 0 rfl) (lv_iload_n hx hb dX7_swap_9 rfl (lv_at hl 2 rfl) ?_)
    refine g_iM (g_bV (As := [.int a2]) (rest := []) C0 hK hP kX7_isBeat ql_X7_84 (mX7_isBeat hE hv) (by decide) ge_X7 rfl rfl hl.1 rfl (Nat.le_of_ble_eq_true rfl) ⟨rfl, rfl, Nat.le_of_ble_eq_true rfl, Nat.le_of_ble_eq_true rfl⟩ dX7_swap_10) hS (fun x882 ν883 τ884 H locs hv hP hS => ?_)
    refine lv_if_eq (tgt := 21) hx hb dX7_swap_13 (by decide) (fun c885 => ?_) (fun c885 => ?_)
    · have hv := hv.1 c885
      refine lv_iconst (v := (-1)) hx hb dX7_swap_21 (by decide) ?_
      exact g_retM hx hb hrt hlk hP hS rfl hv dX7_swap_22
    · have hv := hv.2 c885
      refine lv_iload_n hx hb dX7_swap_16 rfl (lv_at hl 2 rfl) (lv_iload_n hx hb dX7_swap_17 rfl (lv_at hl 1 rfl) ?_)
      refine lv_icmp_gt (tgt := 23) hx hb dX7_swap_18 (by decide) (fun c886 => ?_) (fun c886 => ?_)
      · have hv := hv.1 c886
        refine lv_aload_n hx hb dX7_swap_23 rfl (lv_at hl 0 rfl) (gg_X7_19 C0 hK hP dX7_swap_24 (lv_iload_n hx hb dX7_swap_27 rfl (lv_at hl 2 rfl) ?_))
        have hi887 := hv.1
        have hv := hv.2
        refine g_iald hx hb hK hP (by decide) ga_36 hi887 dX7_swap_28 (lv_iload_n hx hb dX7_swap_29 rfl (lv_at hl 2 rfl) (lv_iadd hx hb dX7_swap_30 (lv_iload_n hx hb dX7_swap_31 rfl (lv_at hl 1 rfl) (lv_isub hx hb dX7_swap_32 (lv_istore_n (lv' := [(3, .int (((ν883 36 a2.toNatClampNeg) + a2) - a1)), (0, .ref (gL E 32)), (1, .int a1), (2, .int a2)]) hx hb dX7_swap_33 rfl hl (by decide) rfl (fun ls hl => (lv_aload_n hx hb dX7_swap_34 rfl (lv_at hl 1 rfl) (gg_X7_19 C0 hK hP dX7_swap_35 (lv_iload_n hx hb dX7_swap_38 rfl (lv_at hl 2 rfl) ?_)))))))))
        have hi888 := hv.1
        have hv := hv.2
        refine g_iald hx hb hK hP (by decide) ga_36 hi888 dX7_swap_39 (lv_iload_n hx hb dX7_swap_40 rfl (lv_at hl 3 rfl) (lv_isub hx hb dX7_swap_41 (lv_iload_n hx hb dX7_swap_42 rfl (lv_at hl 2 rfl) (lv_iadd hx hb dX7_swap_43 (lv_istore (lv' := [(4, .int (((ν883 36 a1.toNatClampNeg) - a2) + a1)), (3, .int (((ν883 36 a2.toNatClampNeg) + a2) - a1)), (0, .ref (gL E 32)), (1, .int a1), (2, .int a2)]) hx hb dX7_swap_44 hl (by decide) rfl (fun ls hl => (lv_iload hx hb dX7_swap_46 (lv_at hl 0 rfl) ?_)))))))
        refine lv_if_ge (tgt := 54) hx hb dX7_swap_48 (by decide) (fun c889 => ?_) (fun c889 => ?_)
        · have hv := hv.1 c889
          refine lv_iload_n hx hb dX7_swap_54 rfl (lv_at hl 1 rfl) (lv_bipush (v := 9) hx hb dX7_swap_55 (by decide) ?_)
          refine lv_icmp_le (tgt := 63) hx hb dX7_swap_57 (by decide) (fun c890 => ?_) (fun c890 => ?_)
          · have hv := hv.1 c890
            refine lv_aload_n hx hb dX7_swap_63 rfl (lv_at hl 2 rfl) (gg_X7_19 C0 hK hP dX7_swap_64 (lv_iload_n hx hb dX7_swap_67 rfl (lv_at hl 3 rfl) (lv_iload_n hx hb dX7_swap_68 rfl (lv_at hl 1 rfl) ?_)))
            have hi891 := hv.1
            have hv := hv.2
            refine g_iastM hE hx hb hK hP hS (by decide) (fun _ => ga_36) hi891 dX7_swap_69 (fun H locs hP hS => (lv_aload_n hx hb dX7_swap_70 rfl (lv_at hl 2 rfl) (gg_X7_19 C0 hK hP dX7_swap_71 (lv_iload_n hx hb dX7_swap_74 rfl (lv_at hl 4 rfl) (lv_iload hx hb dX7_swap_75 (lv_at hl 0 rfl) ?_)))))
            have hi892 := hv.1
            have hv := hv.2
            refine g_iastM hE hx hb hK hP hS (by decide) (fun _ => ga_36) hi892 dX7_swap_77 (fun H locs hP hS => (lv_iconst (v := 1) hx hb dX7_swap_78 (by decide) ?_))
            exact g_retM hx hb hrt hlk hP hS rfl hv dX7_swap_79
          · have hv := hv.2 c890
            refine lv_bipush (v := (-4)) hx hb dX7_swap_60 (by decide) ?_
            exact g_retM hx hb hrt hlk hP hS rfl hv dX7_swap_62
        · have hv := hv.2 c889
          refine lv_bipush (v := (-3)) hx hb dX7_swap_51 (by decide) ?_
          exact g_retM hx hb hrt hlk hP hS rfl hv dX7_swap_53
      · have hv := hv.2 c886
        refine lv_iconst (v := (-1)) hx hb dX7_swap_21 (by decide) ?_
        exact g_retM hx hb hrt hlk hP hS rfl hv dX7_swap_22
set_option maxHeartbeats 4000000 in
set_option maxRecDepth 100000 in
theorem mX7_takeNext {l : Launch} {E : gE} {μ ν : gM} {τ : gJ} {Q : gM → gJ → Prop} (hE : gLok E)   (hv : vX7_takeNext ν τ Q) : Met l yX7_takeNext (gws yX7_takeNext cX7_takeNext 2 none) (gRm 0 0) (gPc E [.ref (gL E 32)] μ ν τ) (gQvM E Q μ) 0 0 (gA E) := by
  refine g_entr (lv := [(0, .ref (gL E 32))]) (by decide +kernel) (Nat.le_of_ble_eq_true rfl) rfl (fun p e s m args below meth c ls H locs hx hb hrt hlk C0 hK hP hS hl => ?_)
  have C0 : CallFix p m c cX7_takeNext 2 s args gTB RX7 := C0
  have h_2 : ∀ (n_2 : Nat) (v1 : Int32) (ν : gM) (τ : gJ) (H : Heap) (locs : List Loc) (ls : Array Slot), va_P (gD E) vwCl (wl E μ ν τ) H → va_S (gA E) s.heap H locs → lv_has ls 2 [(0, .ref (gL E 32)), (1, .int v1)] → vX7_takeNext_2 Q n_2 v1 ν τ → W p l e (gRm 0 0) s m args below meth c H locs 0 0 (MQ below (gQvM E Q μ) args s 0 0 (gA E)) (F0 m 2 ls []) := by
    intro n_2
    induction n_2 with
    | zero =>
      intro v1 ν τ H locs ls hP hS hl hv
      exact False.elim hv
    | succ n_2 ih_2 =>
      intro v1 ν τ H locs ls hP hS hl hv
      have hv : vX7_takeNext_2B Q (vX7_takeNext_2 Q n_2) v1 ν τ := hv
      unfold vX7_takeNext_2B at hv
      refine lv_iload_n hx hb dX7_takeNext_2 rfl (lv_at hl 1 rfl) (lv_aload_n hx hb dX7_takeNext_3 rfl (lv_at hl 0 rfl) (gg_X7_60 C0 hK hP dX7_takeNext_4 ?_))
      refine lv_icmp_ge (tgt := 28) hx hb dX7_takeNext_7 (by decide) (fun c893 => ?_) (fun c893 => ?_)
      · have hv := hv.1 c893
        exact g_vretM hx hb hrt hlk hP hS hv dX7_takeNext_28
      · have hv := hv.2 c893
        refine lv_aload_n hx hb dX7_takeNext_10 rfl (lv_at hl 0 rfl) (gg_X7_19 C0 hK hP dX7_takeNext_11 (lv_iload_n hx hb dX7_takeNext_14 rfl (lv_at hl 1 rfl) (lv_aload_n hx hb dX7_takeNext_15 rfl (lv_at hl 0 rfl) (gg_X7_31 C0 hK hP dX7_takeNext_16 (lv_iload_n hx hb dX7_takeNext_19 rfl (lv_at hl 1 rfl) ?_)))))
        have hi894 := hv.1
        have hv := hv.2
        refine g_iald hx hb hK hP (by decide) ga_40 hi894 dX7_takeNext_20 ?_
        have hi895 := hv.1
        have hv := hv.2
        refine g_iastM hE hx hb hK hP hS (by decide) (fun _ => ga_36) hi895 dX7_takeNext_21 (fun H locs hP hS => (lv_iinc (v := (v1 + 1)) (lv' := [(1, .int (v1 + 1)), (0, .ref (gL E 32))]) hx hb dX7_takeNext_22 hl (k := 1) rfl rfl (by decide) rfl (fun ls hl => (lv_goto (tgt := 2) hx hb dX7_takeNext_25 (by decide) ?_))))
        exact ih_2 (v1 + 1) (up2 ν 36 v1.toNatClampNeg (ν 40 v1.toNatClampNeg)) τ H locs ls hP hS (lv_sub hl [1, 0] rfl) hv
  unfold vX7_takeNext at hv
  refine lv_iconst (v := 0) hx hb dX7_takeNext_0 (by decide) (lv_istore_n (lv' := [(1, .int 0), (0, .ref (gL E 32))]) hx hb dX7_takeNext_1 rfl hl (by decide) rfl (fun ls hl => ?_))
  obtain ⟨nf, hv⟩ := hv
  exact h_2 nf 0 ν τ H locs ls hP hS (lv_sub hl [1, 0] rfl) hv
set_option maxHeartbeats 4000000 in
set_option maxRecDepth 100000 in
theorem mX7_turn {l : Launch} {E : gE} {μ ν : gM} {τ : gJ} {Q : Int32 → gM → gJ → Prop} (hE : gLok E) {a1 : Int32}  (hv : vX7_turn a1 ν τ Q) : Met l yX7_turn (gws yX7_turn cX7_turn 3 (some .int)) (gRm 1 22) (gPc E [.ref (gL E 32), .int a1] μ ν τ) (gQiM E Q μ) 0 0 (gA E) := by
  refine g_entr (lv := [(0, .ref (gL E 32)), (1, .int a1)]) (by decide +kernel) (Nat.le_of_ble_eq_true rfl) rfl (fun p e s m args below meth c ls H locs hx hb hrt hlk C0 hK hP hS hl => ?_)
  have C0 : CallFix p m c cX7_turn 3 s args gTB RX7 := C0
  have h_25 : ∀ (n_25 : Nat) (v2 : Int32) (ν : gM) (τ : gJ) (H : Heap) (locs : List Loc) (ls : Array Slot), va_P (gD E) vwCl (wl E μ ν τ) H → va_S (gA E) s.heap H locs → lv_has ls 3 [(0, .ref (gL E 32)), (1, .int a1), (2, .int v2)] → vX7_turn_25 a1 Q n_25 v2 ν τ → W p l e (gRm 1 22) s m args below meth c H locs 0 0 (MQ below (gQiM E Q μ) args s 0 0 (gA E)) (F0 m 25 ls []) := by
    intro n_25
    induction n_25 with
    | zero =>
      intro v2 ν τ H locs ls hP hS hl hv
      exact False.elim hv
    | succ n_25 ih_25 =>
      intro v2 ν τ H locs ls hP hS hl hv
      have hv : vX7_turn_25B a1 Q (vX7_turn_25 a1 Q n_25) v2 ν τ := hv
      unfold vX7_turn_25B at hv
      refine lv_iload_n hx hb dX7_turn_25 rfl (lv_at hl 2 rfl) (lv_aload_n hx hb dX7_turn_26 rfl (lv_at hl 0 rfl) (gg_X7_60 C0 hK hP dX7_turn_27 ?_))
      refine lv_icmp_ge (tgt := 58) hx hb dX7_turn_30 (by decide) (fun c899 => ?_) (fun c899 => ?_)
      · have hv := hv.1 c899
        refine lv_aload_n hx hb dX7_turn_58 rfl (lv_at hl 0 rfl) ?_
        refine g_vM (g_bV (As := []) (rest := []) C0 hK hP kX7_takeNext ql_X7_122 (mX7_takeNext hE hv) (by decide) ge_X7 rfl rfl hl.1 rfl (Nat.le_of_ble_eq_true rfl) ⟨rfl, rfl, Nat.le_of_ble_eq_true rfl, Nat.le_of_ble_eq_true rfl⟩ dX7_turn_59) hS (fun ν901 τ902 H locs hv hP hS => ?_)
        refine lv_aload_n hx hb dX7_turn_62 rfl (lv_at hl 0 rfl) (gg_X7_19 C0 hK hP dX7_turn_63 (lv_iconst (v := 0) hx hb dX7_turn_66 (by decide) ?_))
        have hi903 := hv.1
        have hv := hv.2
        refine g_iald hx hb hK hP (by decide) ga_36 hi903 dX7_turn_67 ?_
        exact g_retM hx hb hrt hlk hP hS rfl hv dX7_turn_68
      · have hv := hv.2 c899
        refine lv_aload_n hx hb dX7_turn_33 rfl (lv_at hl 0 rfl) (gg_X7_31 C0 hK hP dX7_turn_34 (lv_iload_n hx hb dX7_turn_37 rfl (lv_at hl 2 rfl) (lv_aload_n hx hb dX7_turn_38 rfl (lv_at hl 0 rfl) (gg_X7_19 C0 hK hP dX7_turn_39 (lv_iload_n hx hb dX7_turn_42 rfl (lv_at hl 2 rfl) (lv_iload_n hx hb dX7_turn_43 rfl (lv_at hl 1 rfl) (lv_iadd hx hb dX7_turn_44 (lv_aload_n hx hb dX7_turn_45 rfl (lv_at hl 0 rfl) (gg_X7_60 C0 hK hP dX7_turn_46 ?_)))))))))
        have hd := hv.1
        have hv := hv.2
        refine lv_irem hx hb dX7_turn_49 hd ?_
        have hi904 := hv.1
        have hv := hv.2
        refine g_iald hx hb hK hP (by decide) ga_36 hi904 dX7_turn_50 ?_
        have hi905 := hv.1
        have hv := hv.2
        refine g_iastM hE hx hb hK hP hS (by decide) (fun _ => ga_40) hi905 dX7_turn_51 (fun H locs hP hS => (lv_iinc (v := (v2 + 1)) (lv' := [(2, .int (v2 + 1)), (0, .ref (gL E 32)), (1, .int a1)]) hx hb dX7_turn_52 hl (k := 2) rfl rfl (by decide) rfl (fun ls hl => (lv_goto (tgt := 25) hx hb dX7_turn_55 (by decide) ?_))))
        exact ih_25 (v2 + 1) (up2 ν 40 v2.toNatClampNeg (ν 36 ((v2 + a1) - (v2 + a1) / (ν 32 5) * (ν 32 5)).toNatClampNeg)) τ H locs ls hP hS (lv_sub hl [1, 2, 0] rfl) hv
  unfold vX7_turn at hv
  refine lv_iload_n hx hb dX7_turn_0 rfl (lv_at hl 1 rfl) (lv_iconst (v := 0) hx hb dX7_turn_1 (by decide) (lv_bipush (v := 7) hx hb dX7_turn_2 (by decide) ?_))
  refine g_iS (g_bS (As := [.int a1, .int 0, .int 7]) (rest := []) C0 hK hP kX7_within ql_X7_56 (mX7_within hE hv) rfl hl.1 rfl (Nat.le_of_ble_eq_true rfl) ⟨rfl, rfl, Nat.le_of_ble_eq_true rfl, Nat.le_of_ble_eq_true rfl⟩ dX7_turn_4) hS (fun x896 H locs hv hP hS => ?_)
  refine lv_if_ne (tgt := 13) hx hb dX7_turn_7 (by decide) (fun c897 => ?_) (fun c897 => ?_)
  · have hv := hv.1 c897
    refine lv_aload_n hx hb dX7_turn_13 rfl (lv_at hl 0 rfl) (gg_X7_60 C0 hK hP dX7_turn_14 ?_)
    refine lv_if_ne (tgt := 23) hx hb dX7_turn_17 (by decide) (fun c898 => ?_) (fun c898 => ?_)
    · have hv := hv.1 c898
      refine lv_iconst (v := 0) hx hb dX7_turn_23 (by decide) (lv_istore_n (lv' := [(2, .int 0), (0, .ref (gL E 32)), (1, .int a1)]) hx hb dX7_turn_24 rfl hl (by decide) rfl (fun ls hl => ?_))
      obtain ⟨nf, hv⟩ := hv
      exact h_25 nf 0 ν τ H locs ls hP hS (lv_sub hl [1, 2, 0] rfl) hv
    · have hv := hv.2 c898
      refine lv_bipush (v := (-3)) hx hb dX7_turn_20 (by decide) ?_
      exact g_retM hx hb hrt hlk hP hS rfl hv dX7_turn_22
  · have hv := hv.2 c897
    refine lv_bipush (v := (-2)) hx hb dX7_turn_10 (by decide) ?_
    exact g_retM hx hb hrt hlk hP hS rfl hv dX7_turn_12
set_option maxHeartbeats 4000000 in
set_option maxRecDepth 100000 in
theorem mX7_backward {l : Launch} {E : gE} {μ ν : gM} {τ : gJ} {Q : Int32 → gM → gJ → Prop} (hE : gLok E)   (hv : vX7_backward ν τ Q) : Met l yX7_backward (gws yX7_backward cX7_backward 2 (some .int)) (gRm 3 63) (gPc E [.ref (gL E 32)] μ ν τ) (gQiM E Q μ) 0 0 (gA E) := by
  refine g_entr (lv := [(0, .ref (gL E 32))]) (by decide +kernel) (Nat.le_of_ble_eq_true rfl) rfl (fun p e s m args below meth c ls H locs hx hb hrt hlk C0 hK hP hS hl => ?_)
  have C0 : CallFix p m c cX7_backward 2 s args gTB RX7 := C0
  have h_12 : ∀ (n_12 : Nat) (v1 : Int32) (ν : gM) (τ : gJ) (H : Heap) (locs : List Loc) (ls : Array Slot), va_P (gD E) vwCl (wl E μ ν τ) H → va_S (gA E) s.heap H locs → lv_has ls 2 [(0, .ref (gL E 32)), (1, .int v1)] → vX7_backward_12 Q n_12 v1 ν τ → W p l e (gRm 3 63) s m args below meth c H locs 0 0 (MQ below (gQiM E Q μ) args s 0 0 (gA E)) (F0 m 12 ls []) := by
    intro n_12
    induction n_12 with
    | zero =>
      intro v1 ν τ H locs ls hP hS hl hv
      exact False.elim hv
    | succ n_12 ih_12 =>
      intro v1 ν τ H locs ls hP hS hl hv
      have hv : vX7_backward_12B Q (vX7_backward_12 Q n_12) v1 ν τ := hv
      unfold vX7_backward_12B at hv
      refine lv_iload_n hx hb dX7_backward_12 rfl (lv_at hl 1 rfl) (lv_aload_n hx hb dX7_backward_13 rfl (lv_at hl 0 rfl) (gg_X7_60 C0 hK hP dX7_backward_14 ?_))
      refine lv_icmp_ge (tgt := 49) hx hb dX7_backward_17 (by decide) (fun c910 => ?_) (fun c910 => ?_)
      · have hv := hv.1 c910
        refine lv_aload_n hx hb dX7_backward_49 rfl (lv_at hl 0 rfl) ?_
        refine g_vM (g_bV (As := []) (rest := []) C0 hK hP kX7_takeNext ql_X7_122 (mX7_takeNext hE hv) (by decide) ge_X7 rfl rfl hl.1 rfl (Nat.le_of_ble_eq_true rfl) ⟨rfl, rfl, Nat.le_of_ble_eq_true rfl, Nat.le_of_ble_eq_true rfl⟩ dX7_backward_50) hS (fun ν912 τ913 H locs hv hP hS => ?_)
        refine lv_aload_n hx hb dX7_backward_53 rfl (lv_at hl 0 rfl) (gg_X7_19 C0 hK hP dX7_backward_54 (lv_iconst (v := 0) hx hb dX7_backward_57 (by decide) ?_))
        have hi914 := hv.1
        have hv := hv.2
        refine g_iald hx hb hK hP (by decide) ga_36 hi914 dX7_backward_58 ?_
        exact g_retM hx hb hrt hlk hP hS rfl hv dX7_backward_59
      · have hv := hv.2 c910
        refine lv_aload_n hx hb dX7_backward_20 rfl (lv_at hl 0 rfl) (gg_X7_31 C0 hK hP dX7_backward_21 (lv_aload_n hx hb dX7_backward_24 rfl (lv_at hl 0 rfl) (gg_X7_60 C0 hK hP dX7_backward_25 (lv_iconst (v := 1) hx hb dX7_backward_28 (by decide) (lv_isub hx hb dX7_backward_29 (lv_aload_n hx hb dX7_backward_30 rfl (lv_at hl 0 rfl) (lv_iload_n hx hb dX7_backward_31 rfl (lv_at hl 1 rfl) ?_)))))))
        refine g_iM (g_bV (As := [.int v1]) (rest := [.int ((ν 32 5) - 1), .ref (gL E 40)]) C0 hK hP kX7_landsIn ql_X7_87 (mX7_landsIn hE hv) (by decide) ge_X7 rfl rfl hl.1 rfl (Nat.le_of_ble_eq_true rfl) ⟨rfl, rfl, Nat.le_of_ble_eq_true rfl, Nat.le_of_ble_eq_true rfl⟩ dX7_backward_32) hS (fun x915 ν916 τ917 H locs hv hP hS => ?_)
        refine lv_isub hx hb dX7_backward_35 (lv_aload_n hx hb dX7_backward_36 rfl (lv_at hl 0 rfl) (gg_X7_19 C0 hK hP dX7_backward_37 (lv_iload_n hx hb dX7_backward_40 rfl (lv_at hl 1 rfl) ?_)))
        have hi918 := hv.1
        have hv := hv.2
        refine g_iald hx hb hK hP (by decide) ga_36 hi918 dX7_backward_41 ?_
        have hi919 := hv.1
        have hv := hv.2
        refine g_iastM hE hx hb hK hP hS (by decide) (fun _ => ga_40) hi919 dX7_backward_42 (fun H locs hP hS => (lv_iinc (v := (v1 + 1)) (lv' := [(1, .int (v1 + 1)), (0, .ref (gL E 32))]) hx hb dX7_backward_43 hl (k := 1) rfl rfl (by decide) rfl (fun ls hl => (lv_goto (tgt := 12) hx hb dX7_backward_46 (by decide) ?_))))
        exact ih_12 (v1 + 1) (up2 ν916 40 (((ν 32 5) - 1) - x915).toNatClampNeg (ν916 36 v1.toNatClampNeg)) τ917 H locs ls hP hS (lv_sub hl [1, 0] rfl) hv
  unfold vX7_backward at hv
  refine lv_aload_n hx hb dX7_backward_0 rfl (lv_at hl 0 rfl) ?_
  refine g_iM (g_bV (As := []) (rest := []) C0 hK hP kX7_isGood ql_X7_100 (mX7_isGood hE hv) (by decide) ge_X7 rfl rfl hl.1 rfl (Nat.le_of_ble_eq_true rfl) ⟨rfl, rfl, Nat.le_of_ble_eq_true rfl, Nat.le_of_ble_eq_true rfl⟩ dX7_backward_1) hS (fun x906 ν907 τ908 H locs hv hP hS => ?_)
  refine lv_if_ne (tgt := 10) hx hb dX7_backward_4 (by decide) (fun c909 => ?_) (fun c909 => ?_)
  · have hv := hv.1 c909
    refine lv_iconst (v := 0) hx hb dX7_backward_10 (by decide) (lv_istore_n (lv' := [(1, .int 0), (0, .ref (gL E 32))]) hx hb dX7_backward_11 rfl hl (by decide) rfl (fun ls hl => ?_))
    obtain ⟨nf, hv⟩ := hv
    exact h_12 nf 0 ν907 τ908 H locs ls hP hS (lv_sub hl [1, 0] rfl) hv
  · have hv := hv.2 c909
    refine lv_bipush (v := (-3)) hx hb dX7_backward_7 (by decide) ?_
    exact g_retM hx hb hrt hlk hP hS rfl hv dX7_backward_9
set_option maxHeartbeats 4000000 in
set_option maxRecDepth 100000 in
theorem mX7_isGreater {l : Launch} {E : gE} {μ ν : gM} {τ : gJ} {Q : Int32 → gM → gJ → Prop} (hE : gLok E) {a1 : Int32} {a2 : Int32}  (hv : vX7_isGreater a1 a2 ν τ Q) : Met l yX7_isGreater (gws yX7_isGreater cX7_isGreater 6 (some .boolean)) (gRm 0 0) (gPc E [.ref (gL E 32), .int a1, .int a2] μ ν τ) (gQiM E Q μ) 0 0 (gA E) := by
  refine g_entr (lv := [(0, .ref (gL E 32)), (1, .int a1), (2, .int a2)]) (by decide +kernel) (Nat.le_of_ble_eq_true rfl) rfl (fun p e s m args below meth c ls H locs hx hb hrt hlk C0 hK hP hS hl => ?_)
  have C0 : CallFix p m c cX7_isGreater 6 s args gTB RX7 := C0
  have h_2 : ∀ (n_2 : Nat) (v3 : Int32) (ν : gM) (τ : gJ) (H : Heap) (locs : List Loc) (ls : Array Slot), va_P (gD E) vwCl (wl E μ ν τ) H → va_S (gA E) s.heap H locs → lv_has ls 6 [(0, .ref (gL E 32)), (1, .int a1), (2, .int a2), (3, .int v3)] → vX7_isGreater_2 a1 a2 Q n_2 v3 ν τ → W p l e (gRm 0 0) s m args below meth c H locs 0 0 (MQ below (gQiM E Q μ) args s 0 0 (gA E)) (F0 m 2 ls []) := by
    intro n_2
    induction n_2 with
    | zero =>
      intro v3 ν τ H locs ls hP hS hl hv
      exact False.elim hv
    | succ n_2 ih_2 =>
      intro v3 ν τ H locs ls hP hS hl hv
      have hv : vX7_isGreater_2B a1 a2 Q (vX7_isGreater_2 a1 a2 Q n_2) v3 ν τ := hv
      unfold vX7_isGreater_2B at hv
      refine lv_iload_n hx hb dX7_isGreater_2 rfl (lv_at hl 3 rfl) (lv_aload_n hx hb dX7_isGreater_3 rfl (lv_at hl 0 rfl) (gg_X7_60 C0 hK hP dX7_isGreater_4 ?_))
      refine lv_icmp_ge (tgt := 66) hx hb dX7_isGreater_7 (by decide) (fun c920 => ?_) (fun c920 => ?_)
      · have hv := hv.1 c920
        refine lv_iconst (v := 0) hx hb dX7_isGreater_66 (by decide) ?_
        exact g_retM hx hb hrt hlk hP hS rfl hv dX7_isGreater_67
      · have hv := hv.2 c920
        refine lv_aload_n hx hb dX7_isGreater_10 rfl (lv_at hl 0 rfl) (gg_X7_19 C0 hK hP dX7_isGreater_11 (lv_iload_n hx hb dX7_isGreater_14 rfl (lv_at hl 3 rfl) (lv_iload_n hx hb dX7_isGreater_15 rfl (lv_at hl 1 rfl) (lv_iadd hx hb dX7_isGreater_16 (lv_aload_n hx hb dX7_isGreater_17 rfl (lv_at hl 0 rfl) (gg_X7_60 C0 hK hP dX7_isGreater_18 ?_))))))
        have hd := hv.1
        have hv := hv.2
        refine lv_irem hx hb dX7_isGreater_21 hd ?_
        have hi921 := hv.1
        have hv := hv.2
        refine g_iald hx hb hK hP (by decide) ga_36 hi921 dX7_isGreater_22 (lv_istore (lv' := [(4, .int (ν 36 ((v3 + a1) - (v3 + a1) / (ν 32 5) * (ν 32 5)).toNatClampNeg)), (0, .ref (gL E 32)), (1, .int a1), (2, .int a2), (3, .int v3)]) hx hb dX7_isGreater_23 hl (by decide) rfl (fun ls hl => (lv_aload_n hx hb dX7_isGreater_25 rfl (lv_at hl 1 rfl) (gg_X7_19 C0 hK hP dX7_isGreater_26 (lv_iload_n hx hb dX7_isGreater_29 rfl (lv_at hl 4 rfl) (lv_iload_n hx hb dX7_isGreater_30 rfl (lv_at hl 3 rfl) (lv_iadd hx hb dX7_isGreater_31 (lv_aload_n hx hb dX7_isGreater_32 rfl (lv_at hl 1 rfl) (gg_X7_60 C0 hK hP dX7_isGreater_33 ?_)))))))))
        have hd := hv.1
        have hv := hv.2
        refine lv_irem hx hb dX7_isGreater_36 hd ?_
        have hi922 := hv.1
        have hv := hv.2
        refine g_iald hx hb hK hP (by decide) ga_36 hi922 dX7_isGreater_37 (lv_istore (lv' := [(5, .int (ν 36 ((v3 + a2) - (v3 + a2) / (ν 32 5) * (ν 32 5)).toNatClampNeg)), (4, .int (ν 36 ((v3 + a1) - (v3 + a1) / (ν 32 5) * (ν 32 5)).toNatClampNeg)), (0, .ref (gL E 32)), (1, .int a1), (2, .int a2), (3, .int v3)]) hx hb dX7_isGreater_38 hl (by decide) rfl (fun ls hl => (lv_iload hx hb dX7_isGreater_40 (lv_at hl 1 rfl) (lv_iload hx hb dX7_isGreater_42 (lv_at hl 0 rfl) ?_))))
        refine lv_icmp_eq (tgt := 60) hx hb dX7_isGreater_44 (by decide) (fun c923 => ?_) (fun c923 => ?_)
        · have hv := hv.1 c923
          refine lv_iinc (v := (v3 + 1)) (lv' := [(3, .int (v3 + 1)), (5, .int (ν 36 ((v3 + a2) - (v3 + a2) / (ν 32 5) * (ν 32 5)).toNatClampNeg)), (4, .int (ν 36 ((v3 + a1) - (v3 + a1) / (ν 32 5) * (ν 32 5)).toNatClampNeg)), (0, .ref (gL E 32)), (1, .int a1), (2, .int a2)]) hx hb dX7_isGreater_60 hl (k := 5) rfl rfl (by decide) rfl (fun ls hl => (lv_goto (tgt := 2) hx hb dX7_isGreater_63 (by decide) ?_))
          exact ih_2 (v3 + 1) ν τ H locs ls hP hS (lv_sub hl [3, 4, 5, 0] rfl) hv
        · have hv := hv.2 c923
          refine lv_iload hx hb dX7_isGreater_47 (lv_at hl 1 rfl) (lv_iload hx hb dX7_isGreater_49 (lv_at hl 0 rfl) ?_)
          refine lv_icmp_le (tgt := 58) hx hb dX7_isGreater_51 (by decide) (fun c924 => ?_) (fun c924 => ?_)
          · have hv := hv.1 c924
            refine lv_iconst (v := 0) hx hb dX7_isGreater_58 (by decide) ?_
            exact g_retM hx hb hrt hlk hP hS rfl hv dX7_isGreater_59
          · have hv := hv.2 c924
            refine lv_iconst (v := 1) hx hb dX7_isGreater_54 (by decide) (lv_goto (tgt := 59) hx hb dX7_isGreater_55 (by decide) ?_)
            exact g_retM hx hb hrt hlk hP hS rfl hv dX7_isGreater_59
  unfold vX7_isGreater at hv
  refine lv_iconst (v := 0) hx hb dX7_isGreater_0 (by decide) (lv_istore_n (lv' := [(3, .int 0), (0, .ref (gL E 32)), (1, .int a1), (2, .int a2)]) hx hb dX7_isGreater_1 rfl hl (by decide) rfl (fun ls hl => ?_))
  obtain ⟨nf, hv⟩ := hv
  exact h_2 nf 0 ν τ H locs ls hP hS (lv_sub hl [1, 2, 3, 0] rfl) hv
set_option maxHeartbeats 4000000 in
set_option maxRecDepth 100000 in
theorem mX7_greatest {l : Launch} {E : gE} {μ ν : gM} {τ : gJ} {Q : Int32 → gM → gJ → Prop} (hE : gLok E) {a1 : Int32}  (hv : vX7_greatest a1 ν τ Q) : Met l yX7_greatest (gws yX7_greatest cX7_greatest 4 (some .int)) (gRm 1 25) (gPc E [.ref (gL E 32), .int a1] μ ν τ) (gQiM E Q μ) 0 0 (gA E) := by
  refine g_entr (lv := [(0, .ref (gL E 32)), (1, .int a1)]) (by decide +kernel) (Nat.le_of_ble_eq_true rfl) rfl (fun p e s m args below meth c ls H locs hx hb hrt hlk C0 hK hP hS hl => ?_)
  have C0 : CallFix p m c cX7_greatest 4 s args gTB RX7 := C0
  have h_14 : ∀ (n_14 : Nat) (v2 : Int32) (v3 : Int32) (ν : gM) (τ : gJ) (H : Heap) (locs : List Loc) (ls : Array Slot), va_P (gD E) vwCl (wl E μ ν τ) H → va_S (gA E) s.heap H locs → lv_has ls 4 [(0, .ref (gL E 32)), (1, .int a1), (2, .int v2), (3, .int v3)] → vX7_greatest_14 a1 Q n_14 v2 v3 ν τ → W p l e (gRm 1 25) s m args below meth c H locs 0 0 (MQ below (gQiM E Q μ) args s 0 0 (gA E)) (F0 m 14 ls []) := by
    intro n_14
    induction n_14 with
    | zero =>
      intro v2 v3 ν τ H locs ls hP hS hl hv
      exact False.elim hv
    | succ n_14 ih_14 =>
      intro v2 v3 ν τ H locs ls hP hS hl hv
      have hv : vX7_greatest_14B a1 Q (vX7_greatest_14 a1 Q n_14) v2 v3 ν τ := hv
      unfold vX7_greatest_14B at hv
      refine lv_iload_n hx hb dX7_greatest_14 rfl (lv_at hl 3 rfl) (lv_aload_n hx hb dX7_greatest_15 rfl (lv_at hl 0 rfl) (gg_X7_60 C0 hK hP dX7_greatest_16 ?_))
      refine lv_icmp_ge (tgt := 43) hx hb dX7_greatest_19 (by decide) (fun c929 => ?_) (fun c929 => ?_)
      · have hv := hv.1 c929
        refine lv_aload_n hx hb dX7_greatest_43 rfl (lv_at hl 0 rfl) (gg_X7_19 C0 hK hP dX7_greatest_44 (lv_iload_n hx hb dX7_greatest_47 rfl (lv_at hl 1 rfl) (lv_iload_n hx hb dX7_greatest_48 rfl (lv_at hl 2 rfl) (lv_iadd hx hb dX7_greatest_49 (lv_aload_n hx hb dX7_greatest_50 rfl (lv_at hl 0 rfl) (gg_X7_60 C0 hK hP dX7_greatest_51 ?_))))))
        have hd := hv.1
        have hv := hv.2
        refine lv_irem hx hb dX7_greatest_54 hd ?_
        have hi930 := hv.1
        have hv := hv.2
        refine g_iald hx hb hK hP (by decide) ga_36 hi930 dX7_greatest_55 ?_
        exact g_retM hx hb hrt hlk hP hS rfl hv dX7_greatest_56
      · have hv := hv.2 c929
        refine lv_aload_n hx hb dX7_greatest_22 rfl (lv_at hl 0 rfl) (lv_iload_n hx hb dX7_greatest_23 rfl (lv_at hl 3 rfl) (lv_iload_n hx hb dX7_greatest_24 rfl (lv_at hl 2 rfl) ?_))
        refine g_iM (g_bV (As := [.int v3, .int v2]) (rest := []) C0 hK hP kX7_isGreater ql_X7_125 (mX7_isGreater hE hv) (by decide) ge_X7 rfl rfl hl.1 rfl (Nat.le_of_ble_eq_true rfl) ⟨rfl, rfl, Nat.le_of_ble_eq_true rfl, Nat.le_of_ble_eq_true rfl⟩ dX7_greatest_25) hS (fun x931 ν932 τ933 H locs hv hP hS => ?_)
        refine lv_if_eq (tgt := 35) hx hb dX7_greatest_28 (by decide) (fun c934 => ?_) (fun c934 => ?_)
        · have hv := hv.1 c934
          refine lv_iload_n hx hb dX7_greatest_35 rfl (lv_at hl 2 rfl) (lv_istore_n (lv' := [(2, .int v2), (0, .ref (gL E 32)), (1, .int a1), (3, .int v3)]) hx hb dX7_greatest_36 rfl hl (by decide) rfl (fun ls hl => (lv_iinc (v := (v3 + 1)) (lv' := [(3, .int (v3 + 1)), (2, .int v2), (0, .ref (gL E 32)), (1, .int a1)]) hx hb dX7_greatest_37 hl (k := 3) rfl rfl (by decide) rfl (fun ls hl => (lv_goto (tgt := 14) hx hb dX7_greatest_40 (by decide) ?_)))))
          exact ih_14 v2 (v3 + 1) ν932 τ933 H locs ls hP hS (lv_sub hl [2, 3, 1, 0] rfl) hv
        · have hv := hv.2 c934
          refine lv_iload_n hx hb dX7_greatest_31 rfl (lv_at hl 3 rfl) (lv_goto (tgt := 36) hx hb dX7_greatest_32 (by decide) (lv_istore_n (lv' := [(2, .int v3), (0, .ref (gL E 32)), (1, .int a1), (3, .int v3)]) hx hb dX7_greatest_36 rfl hl (by decide) rfl (fun ls hl => (lv_iinc (v := (v3 + 1)) (lv' := [(3, .int (v3 + 1)), (2, .int v3), (0, .ref (gL E 32)), (1, .int a1)]) hx hb dX7_greatest_37 hl (k := 3) rfl rfl (by decide) rfl (fun ls hl => (lv_goto (tgt := 14) hx hb dX7_greatest_40 (by decide) ?_))))))
          exact ih_14 v3 (v3 + 1) ν932 τ933 H locs ls hP hS (lv_sub hl [2, 3, 1, 0] rfl) hv
  unfold vX7_greatest at hv
  refine lv_aload_n hx hb dX7_greatest_0 rfl (lv_at hl 0 rfl) (lv_iload_n hx hb dX7_greatest_1 rfl (lv_at hl 1 rfl) ?_)
  refine g_iM (g_bV (As := [.int a1]) (rest := []) C0 hK hP kX7_isBeat ql_X7_84 (mX7_isBeat hE hv) (by decide) ge_X7 rfl rfl hl.1 rfl (Nat.le_of_ble_eq_true rfl) ⟨rfl, rfl, Nat.le_of_ble_eq_true rfl, Nat.le_of_ble_eq_true rfl⟩ dX7_greatest_2) hS (fun x925 ν926 τ927 H locs hv hP hS => ?_)
  refine lv_if_ne (tgt := 10) hx hb dX7_greatest_5 (by decide) (fun c928 => ?_) (fun c928 => ?_)
  · have hv := hv.1 c928
    refine lv_iconst (v := 0) hx hb dX7_greatest_10 (by decide) (lv_istore_n (lv' := [(2, .int 0), (0, .ref (gL E 32)), (1, .int a1)]) hx hb dX7_greatest_11 rfl hl (by decide) rfl (fun ls hl => (lv_iconst (v := 1) hx hb dX7_greatest_12 (by decide) (lv_istore_n (lv' := [(3, .int 1), (2, .int 0), (0, .ref (gL E 32)), (1, .int a1)]) hx hb dX7_greatest_13 rfl hl (by decide) rfl (fun ls hl => ?_)))))
    obtain ⟨nf, hv⟩ := hv
    exact h_14 nf 0 1 ν926 τ927 H locs ls hP hS (lv_sub hl [2, 3, 1, 0] rfl) hv
  · have hv := hv.2 c928
    refine lv_iconst (v := (-1)) hx hb dX7_greatest_8 (by decide) ?_
    exact g_retM hx hb hrt hlk hP hS rfl hv dX7_greatest_9
set_option maxHeartbeats 4000000 in
set_option maxRecDepth 100000 in
theorem mX7_isImage {l : Launch} {E : gE} {μ ν : gM} {τ : gJ} {Q : Int32 → Prop} (hE : gLok E) {a0 : Int32}  (hv : vX7_isImage a0 Q) : Met l yX7_isImage (gws yX7_isImage cX7_isImage 1 (some .boolean)) (gRm 1 22) (gPc E [.int a0] μ ν τ) (gQiS E Q μ ν τ) 0 0 (gA E) := by
  refine g_entr (lv := [(0, .int a0)]) (by decide +kernel) (Nat.le_of_ble_eq_true rfl) rfl (fun p e s m args below meth c ls H locs hx hb hrt hlk C0 hK hP hS hl => ?_)
  have C0 : CallFix p m c cX7_isImage 1 s args gTB RX7 := C0
  unfold vX7_isImage at hv
  refine lv_iload_n hx hb dX7_isImage_0 rfl (lv_at hl 0 rfl) (lv_iconst (v := 0) hx hb dX7_isImage_1 (by decide) (lv_iconst (v := 2) hx hb dX7_isImage_2 (by decide) ?_))
  refine g_iS (g_bS (As := [.int a0, .int 0, .int 2]) (rest := []) C0 hK hP kX7_within ql_X7_56 (mX7_within hE hv) rfl hl.1 rfl (Nat.le_of_ble_eq_true rfl) ⟨rfl, rfl, Nat.le_of_ble_eq_true rfl, Nat.le_of_ble_eq_true rfl⟩ dX7_isImage_3) hS (fun x935 H locs hv hP hS => ?_)
  exact g_retS hx hb hrt hlk hP hS hv.1 hv.2 dX7_isImage_6
set_option maxHeartbeats 4000000 in
set_option maxRecDepth 100000 in
theorem mX7_keep {l : Launch} {E : gE} {μ ν : gM} {τ : gJ} {Q : Int32 → gM → gJ → Prop} (hE : gLok E) {a1 : Int32}  (hv : vX7_keep a1 ν τ Q) : Met l yX7_keep (gws yX7_keep cX7_keep 3 (some .int)) (gRm 2 42) (gPc E [.ref (gL E 32), .int a1] μ ν τ) (gQiM E Q μ) 0 0 (gA E) := by
  refine g_entr (lv := [(0, .ref (gL E 32)), (1, .int a1)]) (by decide +kernel) (Nat.le_of_ble_eq_true rfl) rfl (fun p e s m args below meth c ls H locs hx hb hrt hlk C0 hK hP hS hl => ?_)
  have C0 : CallFix p m c cX7_keep 3 s args gTB RX7 := C0
  have h_31 : ∀ (n_31 : Nat) (v2 : Int32) (ν : gM) (τ : gJ) (H : Heap) (locs : List Loc) (ls : Array Slot), va_P (gD E) vwCl (wl E μ ν τ) H → va_S (gA E) s.heap H locs → lv_has ls 3 [(0, .ref (gL E 32)), (1, .int a1), (2, .int v2)] → vX7_keep_31 a1 Q n_31 v2 ν τ → W p l e (gRm 2 42) s m args below meth c H locs 0 0 (MQ below (gQiM E Q μ) args s 0 0 (gA E)) (F0 m 31 ls []) := by
    intro n_31
    induction n_31 with
    | zero =>
      intro v2 ν τ H locs ls hP hS hl hv
      exact False.elim hv
    | succ n_31 ih_31 =>
      intro v2 ν τ H locs ls hP hS hl hv
      have hv : vX7_keep_31B a1 Q (vX7_keep_31 a1 Q n_31) v2 ν τ := hv
      unfold vX7_keep_31B at hv
      refine lv_iload_n hx hb dX7_keep_31 rfl (lv_at hl 2 rfl) (lv_aload_n hx hb dX7_keep_32 rfl (lv_at hl 0 rfl) (gg_X7_60 C0 hK hP dX7_keep_33 ?_))
      refine lv_icmp_ge (tgt := 62) hx hb dX7_keep_36 (by decide) (fun c940 => ?_) (fun c940 => ?_)
      · have hv := hv.1 c940
        refine lv_iconst (v := 1) hx hb dX7_keep_62 (by decide) ?_
        exact g_retM hx hb hrt hlk hP hS rfl hv dX7_keep_63
      · have hv := hv.2 c940
        refine lv_aload_n hx hb dX7_keep_39 rfl (lv_at hl 0 rfl) (gg_X7_37 C0 hK hP dX7_keep_40 (lv_bipush (v := 8) hx hb dX7_keep_43 (by decide) (lv_iload_n hx hb dX7_keep_45 rfl (lv_at hl 1 rfl) (lv_imul hx hb dX7_keep_46 (lv_iload_n hx hb dX7_keep_47 rfl (lv_at hl 2 rfl) (lv_iadd hx hb dX7_keep_48 (lv_aload_n hx hb dX7_keep_49 rfl (lv_at hl 0 rfl) (gg_X7_19 C0 hK hP dX7_keep_50 (lv_iload_n hx hb dX7_keep_53 rfl (lv_at hl 2 rfl) ?_)))))))))
        have hi941 := hv.1
        have hv := hv.2
        refine g_iald hx hb hK hP (by decide) ga_36 hi941 dX7_keep_54 ?_
        have hi942 := hv.1
        have hv := hv.2
        refine g_iastM hE hx hb hK hP hS (by decide) (fun _ => ga_42) hi942 dX7_keep_55 (fun H locs hP hS => (lv_iinc (v := (v2 + 1)) (lv' := [(2, .int (v2 + 1)), (0, .ref (gL E 32)), (1, .int a1)]) hx hb dX7_keep_56 hl (k := 2) rfl rfl (by decide) rfl (fun ls hl => (lv_goto (tgt := 31) hx hb dX7_keep_59 (by decide) ?_))))
        exact ih_31 (v2 + 1) (up2 ν 42 ((8 * a1) + v2).toNatClampNeg (ν 36 v2.toNatClampNeg)) τ H locs ls hP hS (lv_sub hl [1, 2, 0] rfl) hv
  unfold vX7_keep at hv
  refine lv_iload_n hx hb dX7_keep_0 rfl (lv_at hl 1 rfl) ?_
  refine g_iS (g_bS (As := [.int a1]) (rest := []) C0 hK hP kX7_isImage ql_X7_129 (mX7_isImage hE hv) rfl hl.1 rfl (Nat.le_of_ble_eq_true rfl) ⟨rfl, rfl, Nat.le_of_ble_eq_true rfl, Nat.le_of_ble_eq_true rfl⟩ dX7_keep_1) hS (fun x936 H locs hv hP hS => ?_)
  refine lv_if_ne (tgt := 9) hx hb dX7_keep_4 (by decide) (fun c937 => ?_) (fun c937 => ?_)
  · have hv := hv.1 c937
    refine lv_aload_n hx hb dX7_keep_9 rfl (lv_at hl 0 rfl) (gg_X7_60 C0 hK hP dX7_keep_10 ?_)
    refine lv_if_ne (tgt := 19) hx hb dX7_keep_13 (by decide) (fun c938 => ?_) (fun c938 => ?_)
    · have hv := hv.1 c938
      refine lv_aload_n hx hb dX7_keep_19 rfl (lv_at hl 0 rfl) (gg_X7_34 C0 hK hP dX7_keep_20 (lv_iload_n hx hb dX7_keep_23 rfl (lv_at hl 1 rfl) (lv_aload_n hx hb dX7_keep_24 rfl (lv_at hl 0 rfl) (gg_X7_60 C0 hK hP dX7_keep_25 ?_))))
      have hi939 := hv.1
      have hv := hv.2
      refine g_iastM hE hx hb hK hP hS (by decide) (fun _ => ga_41) hi939 dX7_keep_28 (fun H locs hP hS => (lv_iconst (v := 0) hx hb dX7_keep_29 (by decide) (lv_istore_n (lv' := [(2, .int 0), (0, .ref (gL E 32)), (1, .int a1)]) hx hb dX7_keep_30 rfl hl (by decide) rfl (fun ls hl => ?_))))
      obtain ⟨nf, hv⟩ := hv
      exact h_31 nf 0 (up2 ν 41 a1.toNatClampNeg (ν 32 5)) τ H locs ls hP hS (lv_sub hl [1, 2, 0] rfl) hv
    · have hv := hv.2 c938
      refine lv_bipush (v := (-3)) hx hb dX7_keep_16 (by decide) ?_
      exact g_retM hx hb hrt hlk hP hS rfl hv dX7_keep_18
  · have hv := hv.2 c937
    refine lv_iconst (v := (-1)) hx hb dX7_keep_7 (by decide) ?_
    exact g_retM hx hb hrt hlk hP hS rfl hv dX7_keep_8
set_option maxHeartbeats 4000000 in
set_option maxRecDepth 100000 in
theorem mX7_back {l : Launch} {E : gE} {μ ν : gM} {τ : gJ} {Q : Int32 → gM → gJ → Prop} (hE : gLok E) {a1 : Int32}  (hv : vX7_back a1 ν τ Q) : Met l yX7_back (gws yX7_back cX7_back 3 (some .int)) (gRm 2 42) (gPc E [.ref (gL E 32), .int a1] μ ν τ) (gQiM E Q μ) 0 0 (gA E) := by
  refine g_entr (lv := [(0, .ref (gL E 32)), (1, .int a1)]) (by decide +kernel) (Nat.le_of_ble_eq_true rfl) rfl (fun p e s m args below meth c ls H locs hx hb hrt hlk C0 hK hP hS hl => ?_)
  have C0 : CallFix p m c cX7_back 3 s args gTB RX7 := C0
  have h_33 : ∀ (n_33 : Nat) (v2 : Int32) (ν : gM) (τ : gJ) (H : Heap) (locs : List Loc) (ls : Array Slot), va_P (gD E) vwCl (wl E μ ν τ) H → va_S (gA E) s.heap H locs → lv_has ls 3 [(0, .ref (gL E 32)), (1, .int a1), (2, .int v2)] → vX7_back_33 a1 Q n_33 v2 ν τ → W p l e (gRm 2 42) s m args below meth c H locs 0 0 (MQ below (gQiM E Q μ) args s 0 0 (gA E)) (F0 m 33 ls []) := by
    intro n_33
    induction n_33 with
    | zero =>
      intro v2 ν τ H locs ls hP hS hl hv
      exact False.elim hv
    | succ n_33 ih_33 =>
      intro v2 ν τ H locs ls hP hS hl hv
      have hv : vX7_back_33B a1 Q (vX7_back_33 a1 Q n_33) v2 ν τ := hv
      unfold vX7_back_33B at hv
      refine lv_iload_n hx hb dX7_back_33 rfl (lv_at hl 2 rfl) (lv_aload_n hx hb dX7_back_34 rfl (lv_at hl 0 rfl) (gg_X7_60 C0 hK hP dX7_back_35 ?_))
      refine lv_icmp_ge (tgt := 64) hx hb dX7_back_38 (by decide) (fun c948 => ?_) (fun c948 => ?_)
      · have hv := hv.1 c948
        refine lv_aload_n hx hb dX7_back_64 rfl (lv_at hl 0 rfl) (gg_X7_60 C0 hK hP dX7_back_65 ?_)
        exact g_retM hx hb hrt hlk hP hS rfl hv dX7_back_68
      · have hv := hv.2 c948
        refine lv_aload_n hx hb dX7_back_41 rfl (lv_at hl 0 rfl) (gg_X7_19 C0 hK hP dX7_back_42 (lv_iload_n hx hb dX7_back_45 rfl (lv_at hl 2 rfl) (lv_aload_n hx hb dX7_back_46 rfl (lv_at hl 0 rfl) (gg_X7_37 C0 hK hP dX7_back_47 (lv_bipush (v := 8) hx hb dX7_back_50 (by decide) (lv_iload_n hx hb dX7_back_52 rfl (lv_at hl 1 rfl) (lv_imul hx hb dX7_back_53 (lv_iload_n hx hb dX7_back_54 rfl (lv_at hl 2 rfl) (lv_iadd hx hb dX7_back_55 ?_)))))))))
        have hi949 := hv.1
        have hv := hv.2
        refine g_iald hx hb hK hP (by decide) ga_42 hi949 dX7_back_56 ?_
        have hi950 := hv.1
        have hv := hv.2
        refine g_iastM hE hx hb hK hP hS (by decide) (fun _ => ga_36) hi950 dX7_back_57 (fun H locs hP hS => (lv_iinc (v := (v2 + 1)) (lv' := [(2, .int (v2 + 1)), (0, .ref (gL E 32)), (1, .int a1)]) hx hb dX7_back_58 hl (k := 2) rfl rfl (by decide) rfl (fun ls hl => (lv_goto (tgt := 33) hx hb dX7_back_61 (by decide) ?_))))
        exact ih_33 (v2 + 1) (up2 ν 36 v2.toNatClampNeg (ν 42 ((8 * a1) + v2).toNatClampNeg)) τ H locs ls hP hS (lv_sub hl [1, 2, 0] rfl) hv
  unfold vX7_back at hv
  refine lv_iload_n hx hb dX7_back_0 rfl (lv_at hl 1 rfl) ?_
  refine g_iS (g_bS (As := [.int a1]) (rest := []) C0 hK hP kX7_isImage ql_X7_129 (mX7_isImage hE hv) rfl hl.1 rfl (Nat.le_of_ble_eq_true rfl) ⟨rfl, rfl, Nat.le_of_ble_eq_true rfl, Nat.le_of_ble_eq_true rfl⟩ dX7_back_1) hS (fun x943 H locs hv hP hS => ?_)
  refine lv_if_ne (tgt := 9) hx hb dX7_back_4 (by decide) (fun c944 => ?_) (fun c944 => ?_)
  · have hv := hv.1 c944
    refine lv_aload_n hx hb dX7_back_9 rfl (lv_at hl 0 rfl) (gg_X7_34 C0 hK hP dX7_back_10 (lv_iload_n hx hb dX7_back_13 rfl (lv_at hl 1 rfl) ?_))
    have hi945 := hv.1
    have hv := hv.2
    refine g_iald hx hb hK hP (by decide) ga_41 hi945 dX7_back_14 ?_
    refine lv_if_ne (tgt := 21) hx hb dX7_back_15 (by decide) (fun c946 => ?_) (fun c946 => ?_)
    · have hv := hv.1 c946
      refine lv_aload_n hx hb dX7_back_21 rfl (lv_at hl 0 rfl) (lv_aload_n hx hb dX7_back_22 rfl (lv_at hl 0 rfl) (gg_X7_34 C0 hK hP dX7_back_23 (lv_iload_n hx hb dX7_back_26 rfl (lv_at hl 1 rfl) ?_)))
      have hi947 := hv.1
      have hv := hv.2
      refine g_iald hx hb hK hP (by decide) ga_41 hi947 dX7_back_27 (gp_X7_60 hE C0 hK hP hS dX7_back_28 (fun H locs hP hS => (lv_iconst (v := 0) hx hb dX7_back_31 (by decide) (lv_istore_n (lv' := [(2, .int 0), (0, .ref (gL E 32)), (1, .int a1)]) hx hb dX7_back_32 rfl hl (by decide) rfl (fun ls hl => ?_)))))
      obtain ⟨nf, hv⟩ := hv
      exact h_33 nf 0 (up2 ν 32 5 (ν 41 a1.toNatClampNeg)) τ H locs ls hP hS (lv_sub hl [1, 2, 0] rfl) hv
    · have hv := hv.2 c946
      refine lv_bipush (v := (-3)) hx hb dX7_back_18 (by decide) ?_
      exact g_retM hx hb hrt hlk hP hS rfl hv dX7_back_20
  · have hv := hv.2 c944
    refine lv_iconst (v := (-1)) hx hb dX7_back_7 (by decide) ?_
    exact g_retM hx hb hrt hlk hP hS rfl hv dX7_back_8
set_option maxHeartbeats 4000000 in
set_option maxRecDepth 100000 in
theorem mX7_isTurned {l : Launch} {E : gE} {μ ν : gM} {τ : gJ} {Q : Int32 → gM → gJ → Prop} (hE : gLok E) {a1 : Int32} {a2 : Int32}  (hv : vX7_isTurned a1 a2 ν τ Q) : Met l yX7_isTurned (gws yX7_isTurned cX7_isTurned 4 (some .boolean)) (gRm 0 0) (gPc E [.ref (gL E 32), .int a1, .int a2] μ ν τ) (gQiM E Q μ) 0 0 (gA E) := by
  refine g_entr (lv := [(0, .ref (gL E 32)), (1, .int a1), (2, .int a2)]) (by decide +kernel) (Nat.le_of_ble_eq_true rfl) rfl (fun p e s m args below meth c ls H locs hx hb hrt hlk C0 hK hP hS hl => ?_)
  have C0 : CallFix p m c cX7_isTurned 4 s args gTB RX7 := C0
  have h_2 : ∀ (n_2 : Nat) (v3 : Int32) (ν : gM) (τ : gJ) (H : Heap) (locs : List Loc) (ls : Array Slot), va_P (gD E) vwCl (wl E μ ν τ) H → va_S (gA E) s.heap H locs → lv_has ls 4 [(0, .ref (gL E 32)), (1, .int a1), (2, .int a2), (3, .int v3)] → vX7_isTurned_2 a1 a2 Q n_2 v3 ν τ → W p l e (gRm 0 0) s m args below meth c H locs 0 0 (MQ below (gQiM E Q μ) args s 0 0 (gA E)) (F0 m 2 ls []) := by
    intro n_2
    induction n_2 with
    | zero =>
      intro v3 ν τ H locs ls hP hS hl hv
      exact False.elim hv
    | succ n_2 ih_2 =>
      intro v3 ν τ H locs ls hP hS hl hv
      have hv : vX7_isTurned_2B a1 a2 Q (vX7_isTurned_2 a1 a2 Q n_2) v3 ν τ := hv
      unfold vX7_isTurned_2B at hv
      refine lv_iload_n hx hb dX7_isTurned_2 rfl (lv_at hl 3 rfl) (lv_aload_n hx hb dX7_isTurned_3 rfl (lv_at hl 0 rfl) (gg_X7_60 C0 hK hP dX7_isTurned_4 ?_))
      refine lv_icmp_ge (tgt := 45) hx hb dX7_isTurned_7 (by decide) (fun c951 => ?_) (fun c951 => ?_)
      · have hv := hv.1 c951
        refine lv_iconst (v := 1) hx hb dX7_isTurned_45 (by decide) ?_
        exact g_retM hx hb hrt hlk hP hS rfl hv dX7_isTurned_46
      · have hv := hv.2 c951
        refine lv_aload_n hx hb dX7_isTurned_10 rfl (lv_at hl 0 rfl) (gg_X7_37 C0 hK hP dX7_isTurned_11 (lv_bipush (v := 8) hx hb dX7_isTurned_14 (by decide) (lv_iload_n hx hb dX7_isTurned_16 rfl (lv_at hl 1 rfl) (lv_imul hx hb dX7_isTurned_17 (lv_iload_n hx hb dX7_isTurned_18 rfl (lv_at hl 3 rfl) (lv_iadd hx hb dX7_isTurned_19 ?_))))))
        have hi952 := hv.1
        have hv := hv.2
        refine g_iald hx hb hK hP (by decide) ga_42 hi952 dX7_isTurned_20 (lv_aload_n hx hb dX7_isTurned_21 rfl (lv_at hl 0 rfl) (gg_X7_19 C0 hK hP dX7_isTurned_22 (lv_iload_n hx hb dX7_isTurned_25 rfl (lv_at hl 3 rfl) (lv_iload_n hx hb dX7_isTurned_26 rfl (lv_at hl 2 rfl) (lv_iadd hx hb dX7_isTurned_27 (lv_aload_n hx hb dX7_isTurned_28 rfl (lv_at hl 0 rfl) (gg_X7_60 C0 hK hP dX7_isTurned_29 ?_)))))))
        have hd := hv.1
        have hv := hv.2
        refine lv_irem hx hb dX7_isTurned_32 hd ?_
        have hi953 := hv.1
        have hv := hv.2
        refine g_iald hx hb hK hP (by decide) ga_36 hi953 dX7_isTurned_33 ?_
        refine lv_icmp_eq (tgt := 39) hx hb dX7_isTurned_34 (by decide) (fun c954 => ?_) (fun c954 => ?_)
        · have hv := hv.1 c954
          refine lv_iinc (v := (v3 + 1)) (lv' := [(3, .int (v3 + 1)), (0, .ref (gL E 32)), (1, .int a1), (2, .int a2)]) hx hb dX7_isTurned_39 hl (k := 3) rfl rfl (by decide) rfl (fun ls hl => (lv_goto (tgt := 2) hx hb dX7_isTurned_42 (by decide) ?_))
          exact ih_2 (v3 + 1) ν τ H locs ls hP hS (lv_sub hl [1, 2, 3, 0] rfl) hv
        · have hv := hv.2 c954
          refine lv_iconst (v := 0) hx hb dX7_isTurned_37 (by decide) ?_
          exact g_retM hx hb hrt hlk hP hS rfl hv dX7_isTurned_38
  unfold vX7_isTurned at hv
  refine lv_iconst (v := 0) hx hb dX7_isTurned_0 (by decide) (lv_istore_n (lv' := [(3, .int 0), (0, .ref (gL E 32)), (1, .int a1), (2, .int a2)]) hx hb dX7_isTurned_1 rfl hl (by decide) rfl (fun ls hl => ?_))
  obtain ⟨nf, hv⟩ := hv
  exact h_2 nf 0 ν τ H locs ls hP hS (lv_sub hl [1, 2, 3, 0] rfl) hv
set_option maxHeartbeats 4000000 in
set_option maxRecDepth 100000 in
theorem mX7_like {l : Launch} {E : gE} {μ ν : gM} {τ : gJ} {Q : Int32 → gM → gJ → Prop} (hE : gLok E) {a1 : Int32}  (hv : vX7_like a1 ν τ Q) : Met l yX7_like (gws yX7_like cX7_like 3 (some .int)) (gRm 2 42) (gPc E [.ref (gL E 32), .int a1] μ ν τ) (gQiM E Q μ) 0 0 (gA E) := by
  refine g_entr (lv := [(0, .ref (gL E 32)), (1, .int a1)]) (by decide +kernel) (Nat.le_of_ble_eq_true rfl) rfl (fun p e s m args below meth c ls H locs hx hb hrt hlk C0 hK hP hS hl => ?_)
  have C0 : CallFix p m c cX7_like 3 s args gTB RX7 := C0
  have h_30 : ∀ (n_30 : Nat) (v2 : Int32) (ν : gM) (τ : gJ) (H : Heap) (locs : List Loc) (ls : Array Slot), va_P (gD E) vwCl (wl E μ ν τ) H → va_S (gA E) s.heap H locs → lv_has ls 3 [(0, .ref (gL E 32)), (1, .int a1), (2, .int v2)] → vX7_like_30 a1 Q n_30 v2 ν τ → W p l e (gRm 2 42) s m args below meth c H locs 0 0 (MQ below (gQiM E Q μ) args s 0 0 (gA E)) (F0 m 30 ls []) := by
    intro n_30
    induction n_30 with
    | zero =>
      intro v2 ν τ H locs ls hP hS hl hv
      exact False.elim hv
    | succ n_30 ih_30 =>
      intro v2 ν τ H locs ls hP hS hl hv
      have hv : vX7_like_30B a1 Q (vX7_like_30 a1 Q n_30) v2 ν τ := hv
      unfold vX7_like_30B at hv
      refine lv_iload_n hx hb dX7_like_30 rfl (lv_at hl 2 rfl) (lv_aload_n hx hb dX7_like_31 rfl (lv_at hl 0 rfl) (gg_X7_60 C0 hK hP dX7_like_32 ?_))
      refine lv_icmp_ge (tgt := 68) hx hb dX7_like_35 (by decide) (fun c960 => ?_) (fun c960 => ?_)
      · have hv := hv.1 c960
        refine lv_iconst (v := 0) hx hb dX7_like_68 (by decide) ?_
        exact g_retM hx hb hrt hlk hP hS rfl hv dX7_like_69
      · have hv := hv.2 c960
        refine lv_aload_n hx hb dX7_like_38 rfl (lv_at hl 0 rfl) (gg_X7_34 C0 hK hP dX7_like_39 (lv_iload_n hx hb dX7_like_42 rfl (lv_at hl 1 rfl) ?_))
        have hi961 := hv.1
        have hv := hv.2
        refine g_iald hx hb hK hP (by decide) ga_41 hi961 dX7_like_43 (lv_aload_n hx hb dX7_like_44 rfl (lv_at hl 0 rfl) (gg_X7_60 C0 hK hP dX7_like_45 ?_))
        refine lv_icmp_ne (tgt := 68) hx hb dX7_like_48 (by decide) (fun c962 => ?_) (fun c962 => ?_)
        · have hv := hv.1 c962
          refine lv_iconst (v := 0) hx hb dX7_like_68 (by decide) ?_
          exact g_retM hx hb hrt hlk hP hS rfl hv dX7_like_69
        · have hv := hv.2 c962
          refine lv_aload_n hx hb dX7_like_51 rfl (lv_at hl 0 rfl) (lv_iload_n hx hb dX7_like_52 rfl (lv_at hl 1 rfl) (lv_iload_n hx hb dX7_like_53 rfl (lv_at hl 2 rfl) ?_))
          refine g_iM (g_bV (As := [.int a1, .int v2]) (rest := []) C0 hK hP kX7_isTurned ql_X7_132 (mX7_isTurned hE hv) (by decide) ge_X7 rfl rfl hl.1 rfl (Nat.le_of_ble_eq_true rfl) ⟨rfl, rfl, Nat.le_of_ble_eq_true rfl, Nat.le_of_ble_eq_true rfl⟩ dX7_like_54) hS (fun x963 ν964 τ965 H locs hv hP hS => ?_)
          refine lv_if_eq (tgt := 62) hx hb dX7_like_57 (by decide) (fun c966 => ?_) (fun c966 => ?_)
          · have hv := hv.1 c966
            refine lv_iinc (v := (v2 + 1)) (lv' := [(2, .int (v2 + 1)), (0, .ref (gL E 32)), (1, .int a1)]) hx hb dX7_like_62 hl (k := 2) rfl rfl (by decide) rfl (fun ls hl => (lv_goto (tgt := 30) hx hb dX7_like_65 (by decide) ?_))
            exact ih_30 (v2 + 1) ν964 τ965 H locs ls hP hS (lv_sub hl [1, 2, 0] rfl) hv
          · have hv := hv.2 c966
            refine lv_iconst (v := 1) hx hb dX7_like_60 (by decide) ?_
            exact g_retM hx hb hrt hlk hP hS rfl hv dX7_like_61
  unfold vX7_like at hv
  refine lv_iload_n hx hb dX7_like_0 rfl (lv_at hl 1 rfl) ?_
  refine g_iS (g_bS (As := [.int a1]) (rest := []) C0 hK hP kX7_isImage ql_X7_129 (mX7_isImage hE hv) rfl hl.1 rfl (Nat.le_of_ble_eq_true rfl) ⟨rfl, rfl, Nat.le_of_ble_eq_true rfl, Nat.le_of_ble_eq_true rfl⟩ dX7_like_1) hS (fun x955 H locs hv hP hS => ?_)
  refine lv_if_ne (tgt := 9) hx hb dX7_like_4 (by decide) (fun c956 => ?_) (fun c956 => ?_)
  · have hv := hv.1 c956
    refine lv_aload_n hx hb dX7_like_9 rfl (lv_at hl 0 rfl) (gg_X7_34 C0 hK hP dX7_like_10 (lv_iload_n hx hb dX7_like_13 rfl (lv_at hl 1 rfl) ?_))
    have hi957 := hv.1
    have hv := hv.2
    refine g_iald hx hb hK hP (by decide) ga_41 hi957 dX7_like_14 ?_
    refine lv_if_eq (tgt := 25) hx hb dX7_like_15 (by decide) (fun c958 => ?_) (fun c958 => ?_)
    · have hv := hv.1 c958
      refine lv_bipush (v := (-3)) hx hb dX7_like_25 (by decide) ?_
      exact g_retM hx hb hrt hlk hP hS rfl hv dX7_like_27
    · have hv := hv.2 c958
      refine lv_aload_n hx hb dX7_like_18 rfl (lv_at hl 0 rfl) (gg_X7_60 C0 hK hP dX7_like_19 ?_)
      refine lv_if_ne (tgt := 28) hx hb dX7_like_22 (by decide) (fun c959 => ?_) (fun c959 => ?_)
      · have hv := hv.1 c959
        refine lv_iconst (v := 0) hx hb dX7_like_28 (by decide) (lv_istore_n (lv' := [(2, .int 0), (0, .ref (gL E 32)), (1, .int a1)]) hx hb dX7_like_29 rfl hl (by decide) rfl (fun ls hl => ?_))
        obtain ⟨nf, hv⟩ := hv
        exact h_30 nf 0 ν τ H locs ls hP hS (lv_sub hl [1, 2, 0] rfl) hv
      · have hv := hv.2 c959
        refine lv_bipush (v := (-3)) hx hb dX7_like_25 (by decide) ?_
        exact g_retM hx hb hrt hlk hP hS rfl hv dX7_like_27
  · have hv := hv.2 c956
    refine lv_iconst (v := (-1)) hx hb dX7_like_7 (by decide) ?_
    exact g_retM hx hb hrt hlk hP hS rfl hv dX7_like_8
set_option maxHeartbeats 4000000 in
set_option maxRecDepth 100000 in
theorem mX7_spot {l : Launch} {E : gE} {μ ν : gM} {τ : gJ} {Q : Int32 → Prop} (hE : gLok E) {a0 : Int32} {a1 : Int32}  (hv : vX7_spot a0 a1 Q) : Met l yX7_spot (gws yX7_spot cX7_spot 2 (some .int)) (gRm 0 0) (gPc E [.int a0, .int a1] μ ν τ) (gQiS E Q μ ν τ) 0 0 (gA E) := by
  refine g_entr (lv := [(0, .int a0), (1, .int a1)]) (by decide +kernel) (Nat.le_of_ble_eq_true rfl) rfl (fun p e s m args below meth c ls H locs hx hb hrt hlk C0 hK hP hS hl => ?_)
  have C0 : CallFix p m c cX7_spot 2 s args gTB RX7 := C0
  unfold vX7_spot at hv
  refine lv_bipush (v := 81) hx hb dX7_spot_0 (by decide) (lv_iload_n hx hb dX7_spot_2 rfl (lv_at hl 0 rfl) (lv_imul hx hb dX7_spot_3 (lv_iload_n hx hb dX7_spot_4 rfl (lv_at hl 1 rfl) (lv_iadd hx hb dX7_spot_5 ?_))))
  exact g_retS hx hb hrt hlk hP hS rfl hv dX7_spot_6
set_option maxHeartbeats 4000000 in
set_option maxRecDepth 100000 in
theorem mX7_mayThrow {l : Launch} {E : gE} {μ ν : gM} {τ : gJ} {Q : Int32 → gM → gJ → Prop} (hE : gLok E) {a1 : Int32} {a2 : Int32}  (hv : vX7_mayThrow a1 a2 ν τ Q) : Met l yX7_mayThrow (gws yX7_mayThrow cX7_mayThrow 3 (some .boolean)) (gRm 0 0) (gPc E [.ref (gL E 32), .int a1, .int a2] μ ν τ) (gQiM E Q μ) 0 0 (gA E) := by
  refine g_entr (lv := [(0, .ref (gL E 32)), (1, .int a1), (2, .int a2)]) (by decide +kernel) (Nat.le_of_ble_eq_true rfl) rfl (fun p e s m args below meth c ls H locs hx hb hrt hlk C0 hK hP hS hl => ?_)
  have C0 : CallFix p m c cX7_mayThrow 3 s args gTB RX7 := C0
  unfold vX7_mayThrow at hv
  refine lv_aload_n hx hb dX7_mayThrow_0 rfl (lv_at hl 0 rfl) (gg_X7_40 C0 hK hP dX7_mayThrow_1 (lv_iload_n hx hb dX7_mayThrow_4 rfl (lv_at hl 1 rfl) ?_))
  have hi967 := hv.1
  have hv := hv.2
  refine g_iald hx hb hK hP (by decide) ga_43 hi967 dX7_mayThrow_5 (lv_iconst (v := (-1)) hx hb dX7_mayThrow_6 (by decide) ?_)
  refine lv_icmp_ne (tgt := 26) hx hb dX7_mayThrow_7 (by decide) (fun c968 => ?_) (fun c968 => ?_)
  · have hv := hv.1 c968
    refine lv_aload_n hx hb dX7_mayThrow_26 rfl (lv_at hl 0 rfl) (gg_X7_40 C0 hK hP dX7_mayThrow_27 (lv_iload_n hx hb dX7_mayThrow_30 rfl (lv_at hl 1 rfl) ?_))
    have hi969 := hv.1
    have hv := hv.2
    refine g_iald hx hb hK hP (by decide) ga_43 hi969 dX7_mayThrow_31 (lv_iload_n hx hb dX7_mayThrow_32 rfl (lv_at hl 2 rfl) ?_)
    refine lv_icmp_ne (tgt := 40) hx hb dX7_mayThrow_33 (by decide) (fun c970 => ?_) (fun c970 => ?_)
    · have hv := hv.1 c970
      refine lv_iconst (v := 0) hx hb dX7_mayThrow_40 (by decide) ?_
      exact g_retM hx hb hrt hlk hP hS rfl hv dX7_mayThrow_41
    · have hv := hv.2 c970
      refine lv_iconst (v := 1) hx hb dX7_mayThrow_36 (by decide) (lv_goto (tgt := 41) hx hb dX7_mayThrow_37 (by decide) ?_)
      exact g_retM hx hb hrt hlk hP hS rfl hv dX7_mayThrow_41
  · have hv := hv.2 c968
    refine lv_iload_n hx hb dX7_mayThrow_10 rfl (lv_at hl 2 rfl) (lv_aload_n hx hb dX7_mayThrow_11 rfl (lv_at hl 0 rfl) (gg_X7_135 C0 hK hP dX7_mayThrow_12 ?_))
    refine lv_icmp_gt (tgt := 22) hx hb dX7_mayThrow_15 (by decide) (fun c971 => ?_) (fun c971 => ?_)
    · have hv := hv.1 c971
      refine lv_iconst (v := 0) hx hb dX7_mayThrow_22 (by decide) (lv_goto (tgt := 41) hx hb dX7_mayThrow_23 (by decide) ?_)
      exact g_retM hx hb hrt hlk hP hS rfl hv dX7_mayThrow_41
    · have hv := hv.2 c971
      refine lv_iconst (v := 1) hx hb dX7_mayThrow_18 (by decide) (lv_goto (tgt := 41) hx hb dX7_mayThrow_19 (by decide) ?_)
      exact g_retM hx hb hrt hlk hP hS rfl hv dX7_mayThrow_41
set_option maxHeartbeats 4000000 in
set_option maxRecDepth 100000 in
theorem mX7_addFills {l : Launch} {E : gE} {μ ν : gM} {τ : gJ} {Q : gM → gJ → Prop} (hE : gLok E) {a1 : Int32} {a2 : Int32} {a3 : Int32}  (hv : vX7_addFills a1 a2 a3 ν τ Q) : Met l yX7_addFills (gws yX7_addFills cX7_addFills 5 none) (gRm 1 21) (gPc E [.ref (gL E 32), .int a1, .int a2, .int a3] μ ν τ) (gQvM E Q μ) 0 0 (gA E) := by
  refine g_entr (lv := [(0, .ref (gL E 32)), (1, .int a1), (2, .int a2), (3, .int a3)]) (by decide +kernel) (Nat.le_of_ble_eq_true rfl) rfl (fun p e s m args below meth c ls H locs hx hb hrt hlk C0 hK hP hS hl => ?_)
  have C0 : CallFix p m c cX7_addFills 5 s args gTB RX7 := C0
  have h_3 : ∀ (n_3 : Nat) (v4 : Int32) (ν : gM) (τ : gJ) (H : Heap) (locs : List Loc) (ls : Array Slot), va_P (gD E) vwCl (wl E μ ν τ) H → va_S (gA E) s.heap H locs → lv_has ls 5 [(0, .ref (gL E 32)), (1, .int a1), (2, .int a2), (3, .int a3), (4, .int v4)] → vX7_addFills_3 a1 a2 a3 Q n_3 v4 ν τ → W p l e (gRm 1 21) s m args below meth c H locs 0 0 (MQ below (gQvM E Q μ) args s 0 0 (gA E)) (F0 m 3 ls []) := by
    intro n_3
    induction n_3 with
    | zero =>
      intro v4 ν τ H locs ls hP hS hl hv
      exact False.elim hv
    | succ n_3 ih_3 =>
      intro v4 ν τ H locs ls hP hS hl hv
      have hv : vX7_addFills_3B a1 a2 a3 Q (vX7_addFills_3 a1 a2 a3 Q n_3) v4 ν τ := hv
      unfold vX7_addFills_3B at hv
      refine lv_iload hx hb dX7_addFills_3 (lv_at hl 4 rfl) (lv_bipush (v := 80) hx hb dX7_addFills_5 (by decide) ?_)
      refine lv_icmp_gt (tgt := 43) hx hb dX7_addFills_7 (by decide) (fun c984 => ?_) (fun c984 => ?_)
      · have hv := hv.1 c984
        exact g_vretM hx hb hrt hlk hP hS hv dX7_addFills_43
      · have hv := hv.2 c984
        refine lv_aload_n hx hb dX7_addFills_10 rfl (lv_at hl 0 rfl) (gg_X7_43 C0 hK hP dX7_addFills_11 (lv_iload_n hx hb dX7_addFills_14 rfl (lv_at hl 1 rfl) (lv_iload hx hb dX7_addFills_15 (lv_at hl 4 rfl) ?_)))
        refine g_iS (g_bS (As := [.int a1, .int v4]) (rest := [.ref (gL E 44)]) C0 hK hP kX7_spot ql_X7_141 (mX7_spot hE hv) rfl hl.1 rfl (Nat.le_of_ble_eq_true rfl) ⟨rfl, rfl, Nat.le_of_ble_eq_true rfl, Nat.le_of_ble_eq_true rfl⟩ dX7_addFills_17) hS (fun x985 H locs hv hP hS => ?_)
        refine lv_dup2_11 hx hb dX7_addFills_20 rfl rfl ?_
        have hi986 := hv.1
        have hv := hv.2
        refine g_lald hx hb hK hP hi986 dX7_addFills_21 (lv_aload_n hx hb dX7_addFills_22 rfl (lv_at hl 0 rfl) (gg_X7_43 C0 hK hP dX7_addFills_23 (lv_iload_n hx hb dX7_addFills_26 rfl (lv_at hl 2 rfl) (lv_iload hx hb dX7_addFills_27 (lv_at hl 4 rfl) (lv_iload_n hx hb dX7_addFills_29 rfl (lv_at hl 3 rfl) (lv_isub hx hb dX7_addFills_30 ?_))))))
        refine g_iS (g_bS (As := [.int a2, .int (v4 - a3)]) (rest := [.ref (gL E 44), .long (τ x985.toNatClampNeg), .int x985, .ref (gL E 44)]) C0 hK hP kX7_spot ql_X7_141 (mX7_spot hE hv) rfl hl.1 rfl (Nat.le_of_ble_eq_true rfl) ⟨rfl, rfl, Nat.le_of_ble_eq_true rfl, Nat.le_of_ble_eq_true rfl⟩ dX7_addFills_31) hS (fun x987 H locs hv hP hS => ?_)
        have hi988 := hv.1
        have hv := hv.2
        refine g_lald hx hb hK hP hi988 dX7_addFills_34 (lv_ladd hx hb dX7_addFills_35 ?_)
        have hi989 := hv.1
        have hv := hv.2
        refine g_last hE hx hb hK hP hS hi989 dX7_addFills_36 (fun H locs hP hS => (lv_iinc (v := (v4 + 1)) (lv' := [(4, .int (v4 + 1)), (0, .ref (gL E 32)), (1, .int a1), (2, .int a2), (3, .int a3)]) hx hb dX7_addFills_37 hl (k := 4) rfl rfl (by decide) rfl (fun ls hl => (lv_goto (tgt := 3) hx hb dX7_addFills_40 (by decide) ?_))))
        exact ih_3 (v4 + 1) ν (vp_updL τ x985.toNatClampNeg ((τ x985.toNatClampNeg) + (τ x987.toNatClampNeg))) H locs ls hP hS (lv_sub hl [1, 2, 3, 4, 0] rfl) hv
  unfold vX7_addFills at hv
  refine lv_iload_n hx hb dX7_addFills_0 rfl (lv_at hl 3 rfl) (lv_istore (lv' := [(4, .int a3), (0, .ref (gL E 32)), (1, .int a1), (2, .int a2), (3, .int a3)]) hx hb dX7_addFills_1 hl (by decide) rfl (fun ls hl => ?_))
  obtain ⟨nf, hv⟩ := hv
  exact h_3 nf a3 ν τ H locs ls hP hS (lv_sub hl [1, 2, 3, 4, 0] rfl) hv
set_option maxHeartbeats 4000000 in
set_option maxRecDepth 100000 in
theorem mX7_layFills {l : Launch} {E : gE} {μ ν : gM} {τ : gJ} {Q : gM → gJ → Prop} (hE : gLok E)   (hv : vX7_layFills ν τ Q) : Met l yX7_layFills (gws yX7_layFills cX7_layFills 6 none) (gRm 2 45) (gPc E [.ref (gL E 32)] μ ν τ) (gQvM E Q μ) 0 0 (gA E) := by
  refine g_entr (lv := [(0, .ref (gL E 32))]) (by decide +kernel) (Nat.le_of_ble_eq_true rfl) rfl (fun p e s m args below meth c ls H locs hx hb hrt hlk C0 hK hP hS hl => ?_)
  have C0 : CallFix p m c cX7_layFills 6 s args gTB RX7 := C0
  have h_46 : ∀ (n_46 : Nat) (v2 : Int32) (ν : gM) (τ : gJ) (H : Heap) (locs : List Loc) (ls : Array Slot), va_P (gD E) vwCl (wl E μ ν τ) H → va_S (gA E) s.heap H locs → lv_has ls 6 [(0, .ref (gL E 32)), (2, .int v2)] → vX7_layFills_46 Q n_46 v2 ν τ → W p l e (gRm 2 45) s m args below meth c H locs 0 0 (MQ below (gQvM E Q μ) args s 0 0 (gA E)) (F0 m 46 ls []) := by
    intro n_46
    induction n_46 with
    | zero =>
      intro v2 ν τ H locs ls hP hS hl hv
      exact False.elim hv
    | succ n_46 ih_46 =>
      intro v2 ν τ H locs ls hP hS hl hv
      have h_58 : ∀ (n_58 : Nat) (v2 : Int32) (v3 : Int32) (v4 : Int32) (ν : gM) (τ : gJ) (H : Heap) (locs : List Loc) (ls : Array Slot), va_P (gD E) vwCl (wl E μ ν τ) H → va_S (gA E) s.heap H locs → lv_has ls 6 [(0, .ref (gL E 32)), (2, .int v2), (3, .int v3), (4, .int v4)] → vX7_layFills_58 Q (vX7_layFills_46 Q n_46) n_58 v2 v3 v4 ν τ → W p l e (gRm 2 45) s m args below meth c H locs 0 0 (MQ below (gQvM E Q μ) args s 0 0 (gA E)) (F0 m 58 ls []) := by
        intro n_58
        induction n_58 with
        | zero =>
          intro v2 v3 v4 ν τ H locs ls hP hS hl hv
          exact False.elim hv
        | succ n_58 ih_58 =>
          intro v2 v3 v4 ν τ H locs ls hP hS hl hv
          have hv : vX7_layFills_58B Q (vX7_layFills_46 Q n_46) (vX7_layFills_58 Q (vX7_layFills_46 Q n_46) n_58) v2 v3 v4 ν τ := hv
          unfold vX7_layFills_58B at hv
          refine lv_iload hx hb dX7_layFills_58 (lv_at hl 3 rfl) (lv_bipush (v := 9) hx hb dX7_layFills_60 (by decide) ?_)
          refine lv_icmp_gt (tgt := 112) hx hb dX7_layFills_62 (by decide) (fun c978 => ?_) (fun c978 => ?_)
          · have hv := hv.1 c978
            refine lv_iinc (v := (v2 + (-1))) (lv' := [(2, .int (v2 + (-1))), (0, .ref (gL E 32)), (3, .int v3), (4, .int v4)]) hx hb dX7_layFills_112 hl (k := 1) rfl rfl (by decide) rfl (fun ls hl => (lv_goto (tgt := 46) hx hb dX7_layFills_115 (by decide) ?_))
            exact ih_46 (v2 + (-1)) ν τ H locs ls hP hS (lv_sub hl [1, 0] rfl) hv
          · have hv := hv.2 c978
            refine lv_iconst (v := 1) hx hb dX7_layFills_65 (by decide) (lv_iload_n hx hb dX7_layFills_66 rfl (lv_at hl 2 rfl) (lv_iload hx hb dX7_layFills_67 (lv_at hl 3 rfl) (lv_iadd hx hb dX7_layFills_69 (lv_aload_n hx hb dX7_layFills_70 rfl (lv_at hl 0 rfl) (gg_X7_138 C0 hK hP dX7_layFills_71 ?_)))))
            have hd := hv.1
            have hv := hv.2
            refine lv_irem hx hb dX7_layFills_74 hd (lv_ishl hx hb dX7_layFills_75 (lv_istore (lv' := [(5, .int ((1 : Int32) <<< (((v3 + v4) - (v3 + v4) / (ν 32 15) * (ν 32 15)) &&& 31))), (0, .ref (gL E 32)), (2, .int v2), (3, .int v3), (4, .int v4)]) hx hb dX7_layFills_76 hl (by decide) rfl (fun ls hl => (lv_aload_n hx hb dX7_layFills_78 rfl (lv_at hl 1 rfl) (lv_iload_n hx hb dX7_layFills_79 rfl (lv_at hl 3 rfl) (lv_iload hx hb dX7_layFills_80 (lv_at hl 4 rfl) ?_))))))
            refine g_iM (g_bV (As := [.int v3, .int v4]) (rest := []) C0 hK hP kX7_mayThrow ql_X7_145 (mX7_mayThrow hE hv) (by decide) ge_X7 rfl rfl hl.1 rfl (Nat.le_of_ble_eq_true rfl) ⟨rfl, rfl, Nat.le_of_ble_eq_true rfl, Nat.le_of_ble_eq_true rfl⟩ dX7_layFills_82) hS (fun x979 ν980 τ981 H locs hv hP hS => ?_)
            refine lv_if_eq (tgt := 106) hx hb dX7_layFills_85 (by decide) (fun c982 => ?_) (fun c982 => ?_)
            · have hv := hv.1 c982
              refine lv_iinc (v := (v4 + 1)) (lv' := [(4, .int (v4 + 1)), (5, .int ((1 : Int32) <<< (((v3 + v4) - (v3 + v4) / (ν 32 15) * (ν 32 15)) &&& 31))), (0, .ref (gL E 32)), (2, .int v2), (3, .int v3)]) hx hb dX7_layFills_106 hl (k := 4) rfl rfl (by decide) rfl (fun ls hl => (lv_goto (tgt := 58) hx hb dX7_layFills_109 (by decide) ?_))
              exact ih_58 v2 v3 (v4 + 1) ν980 τ981 H locs ls hP hS (lv_sub hl [2, 3, 4, 0] rfl) hv
            · have hv := hv.2 c982
              refine lv_iload_n hx hb dX7_layFills_88 rfl (lv_at hl 2 rfl) (lv_iload hx hb dX7_layFills_89 (lv_at hl 0 rfl) (lv_iand hx hb dX7_layFills_91 ?_))
              refine lv_if_ne (tgt := 106) hx hb dX7_layFills_92 (by decide) (fun c983 => ?_) (fun c983 => ?_)
              · have hv := hv.1 c983
                refine lv_iinc (v := (v4 + 1)) (lv' := [(4, .int (v4 + 1)), (5, .int ((1 : Int32) <<< (((v3 + v4) - (v3 + v4) / (ν 32 15) * (ν 32 15)) &&& 31))), (0, .ref (gL E 32)), (2, .int v2), (3, .int v3)]) hx hb dX7_layFills_106 hl (k := 4) rfl rfl (by decide) rfl (fun ls hl => (lv_goto (tgt := 58) hx hb dX7_layFills_109 (by decide) ?_))
                exact ih_58 v2 v3 (v4 + 1) ν980 τ981 H locs ls hP hS (lv_sub hl [2, 3, 4, 0] rfl) hv
              · have hv := hv.2 c983
                refine lv_aload_n hx hb dX7_layFills_95 rfl (lv_at hl 1 rfl) (lv_iload_n hx hb dX7_layFills_96 rfl (lv_at hl 2 rfl) (lv_iload_n hx hb dX7_layFills_97 rfl (lv_at hl 2 rfl) (lv_iload hx hb dX7_layFills_98 (lv_at hl 0 rfl) (lv_ior hx hb dX7_layFills_100 (lv_iload hx hb dX7_layFills_101 (lv_at hl 4 rfl) ?_)))))
                refine g_vM (g_bV (As := [.int v2, .int (v2 ||| ((1 : Int32) <<< (((v3 + v4) - (v3 + v4) / (ν 32 15) * (ν 32 15)) &&& 31))), .int v4]) (rest := []) C0 hK hP kX7_addFills ql_X7_148 (mX7_addFills hE hv) (by decide) ge_X7 rfl rfl hl.1 rfl (Nat.le_of_ble_eq_true rfl) ⟨rfl, rfl, Nat.le_of_ble_eq_true rfl, Nat.le_of_ble_eq_true rfl⟩ dX7_layFills_103) hS (fun ν991 τ992 H locs hv hP hS => ?_)
                refine lv_iinc (v := (v4 + 1)) (lv' := [(4, .int (v4 + 1)), (5, .int ((1 : Int32) <<< (((v3 + v4) - (v3 + v4) / (ν 32 15) * (ν 32 15)) &&& 31))), (0, .ref (gL E 32)), (2, .int v2), (3, .int v3)]) hx hb dX7_layFills_106 hl (k := 4) rfl rfl (by decide) rfl (fun ls hl => (lv_goto (tgt := 58) hx hb dX7_layFills_109 (by decide) ?_))
                exact ih_58 v2 v3 (v4 + 1) ν991 τ992 H locs ls hP hS (lv_sub hl [2, 3, 4, 0] rfl) hv
      have hv : vX7_layFills_46B Q (vX7_layFills_46 Q n_46) v2 ν τ := hv
      unfold vX7_layFills_46B at hv
      refine lv_iload_n hx hb dX7_layFills_46 rfl (lv_at hl 1 rfl) ?_
      refine lv_if_lt (tgt := 118) hx hb dX7_layFills_47 (by decide) (fun c976 => ?_) (fun c976 => ?_)
      · have hv := hv.1 c976
        exact g_vretM hx hb hrt hlk hP hS hv dX7_layFills_118
      · have hv := hv.2 c976
        refine lv_iload_n hx hb dX7_layFills_50 rfl (lv_at hl 1 rfl) ?_
        refine g_iS (g_bS (As := [.int v2]) (rest := []) C0 hK hP kX7_size ql_X7_119 (mX7_size hE hv) rfl hl.1 rfl (Nat.le_of_ble_eq_true rfl) ⟨rfl, rfl, Nat.le_of_ble_eq_true rfl, Nat.le_of_ble_eq_true rfl⟩ dX7_layFills_51) hS (fun x977 H locs hv hP hS => ?_)
        refine lv_istore_n (lv' := [(3, .int x977), (0, .ref (gL E 32)), (2, .int v2)]) hx hb dX7_layFills_54 rfl hl (by decide) rfl (fun ls hl => (lv_iconst (v := 0) hx hb dX7_layFills_55 (by decide) (lv_istore (lv' := [(4, .int 0), (3, .int x977), (0, .ref (gL E 32)), (2, .int v2)]) hx hb dX7_layFills_56 hl (by decide) rfl (fun ls hl => ?_))))
        obtain ⟨nf, hv⟩ := hv
        exact h_58 nf v2 x977 0 ν τ H locs ls hP hS (lv_sub hl [2, 3, 1, 0] rfl) hv
  have h_11 : ∀ (n_11 : Nat) (v1 : Int32) (v2 : Int32) (ν : gM) (τ : gJ) (H : Heap) (locs : List Loc) (ls : Array Slot), va_P (gD E) vwCl (wl E μ ν τ) H → va_S (gA E) s.heap H locs → lv_has ls 6 [(0, .ref (gL E 32)), (1, .int v1), (2, .int v2)] → vX7_layFills_11 Q n_11 v1 v2 ν τ → W p l e (gRm 2 45) s m args below meth c H locs 0 0 (MQ below (gQvM E Q μ) args s 0 0 (gA E)) (F0 m 11 ls []) := by
    intro n_11
    induction n_11 with
    | zero =>
      intro v1 v2 ν τ H locs ls hP hS hl hv
      exact False.elim hv
    | succ n_11 ih_11 =>
      intro v1 v2 ν τ H locs ls hP hS hl hv
      have hv : vX7_layFills_11B Q (vX7_layFills_11 Q n_11) v1 v2 ν τ := hv
      unfold vX7_layFills_11B at hv
      refine lv_iload_n hx hb dX7_layFills_11 rfl (lv_at hl 2 rfl) (lv_sipush (v := 20736) hx hb dX7_layFills_12 (by decide) ?_)
      refine lv_icmp_ge (tgt := 31) hx hb dX7_layFills_15 (by decide) (fun c972 => ?_) (fun c972 => ?_)
      · have hv := hv.1 c972
        refine lv_aload_n hx hb dX7_layFills_31 rfl (lv_at hl 0 rfl) (gg_X7_43 C0 hK hP dX7_layFills_32 (lv_iload_n hx hb dX7_layFills_35 rfl (lv_at hl 1 rfl) (lv_iconst (v := 0) hx hb dX7_layFills_36 (by decide) ?_)))
        refine g_iS (g_bS (As := [.int v1, .int 0]) (rest := [.ref (gL E 44)]) C0 hK hP kX7_spot ql_X7_141 (mX7_spot hE hv) rfl hl.1 rfl (Nat.le_of_ble_eq_true rfl) ⟨rfl, rfl, Nat.le_of_ble_eq_true rfl, Nat.le_of_ble_eq_true rfl⟩ dX7_layFills_37) hS (fun x973 H locs hv hP hS => ?_)
        refine lv_lconst (v := 1) hx hb dX7_layFills_40 (by decide) ?_
        have hi974 := hv.1
        have hv := hv.2
        refine g_last hE hx hb hK hP hS hi974 dX7_layFills_41 (fun H locs hP hS => (lv_iload_n hx hb dX7_layFills_42 rfl (lv_at hl 1 rfl) (lv_iconst (v := 1) hx hb dX7_layFills_43 (by decide) (lv_isub hx hb dX7_layFills_44 (lv_istore_n (lv' := [(2, .int (v1 - 1)), (0, .ref (gL E 32)), (1, .int v1)]) hx hb dX7_layFills_45 rfl hl (by decide) rfl (fun ls hl => ?_))))))
        obtain ⟨nf, hv⟩ := hv
        exact h_46 nf (v1 - 1) ν (vp_updL τ x973.toNatClampNeg (1 : Int64)) H locs ls hP hS (lv_sub hl [1, 0] rfl) hv
      · have hv := hv.2 c972
        refine lv_aload_n hx hb dX7_layFills_18 rfl (lv_at hl 0 rfl) (gg_X7_43 C0 hK hP dX7_layFills_19 (lv_iload_n hx hb dX7_layFills_22 rfl (lv_at hl 2 rfl) (lv_lconst (v := 0) hx hb dX7_layFills_23 (by decide) ?_)))
        have hi975 := hv.1
        have hv := hv.2
        refine g_last hE hx hb hK hP hS hi975 dX7_layFills_24 (fun H locs hP hS => (lv_iinc (v := (v2 + 1)) (lv' := [(2, .int (v2 + 1)), (0, .ref (gL E 32)), (1, .int v1)]) hx hb dX7_layFills_25 hl (k := 2) rfl rfl (by decide) rfl (fun ls hl => (lv_goto (tgt := 11) hx hb dX7_layFills_28 (by decide) ?_))))
        exact ih_11 v1 (v2 + 1) ν (vp_updL τ v2.toNatClampNeg (0 : Int64)) H locs ls hP hS (lv_sub hl [1, 2, 0] rfl) hv
  unfold vX7_layFills at hv
  refine lv_iconst (v := 1) hx hb dX7_layFills_0 (by decide) (lv_aload_n hx hb dX7_layFills_1 rfl (lv_at hl 0 rfl) (gg_X7_138 C0 hK hP dX7_layFills_2 (lv_ishl hx hb dX7_layFills_5 (lv_iconst (v := 1) hx hb dX7_layFills_6 (by decide) (lv_isub hx hb dX7_layFills_7 (lv_istore_n (lv' := [(1, .int (((1 : Int32) <<< ((ν 32 15) &&& 31)) - 1)), (0, .ref (gL E 32))]) hx hb dX7_layFills_8 rfl hl (by decide) rfl (fun ls hl => (lv_iconst (v := 0) hx hb dX7_layFills_9 (by decide) (lv_istore_n (lv' := [(2, .int 0), (1, .int (((1 : Int32) <<< ((ν 32 15) &&& 31)) - 1)), (0, .ref (gL E 32))]) hx hb dX7_layFills_10 rfl hl (by decide) rfl (fun ls hl => ?_))))))))))
  obtain ⟨nf, hv⟩ := hv
  exact h_11 nf (((1 : Int32) <<< ((ν 32 15) &&& 31)) - 1) 0 ν τ H locs ls hP hS (lv_sub hl [2, 1, 0] rfl) hv
set_option maxHeartbeats 4000000 in
set_option maxRecDepth 100000 in
theorem mX7_howMany {l : Launch} {E : gE} {μ ν : gM} {τ : gJ} {Q : Int64 → gM → gJ → Prop} (hE : gLok E) {a1 : Int32} {a2 : Int32} {a3 : Int32}  (hv : vX7_howMany a1 a2 a3 ν τ Q) : Met l yX7_howMany (gws yX7_howMany cX7_howMany 5 (some .long)) (gRm 3 70) (gPc E [.ref (gL E 32), .int a1, .int a2, .int a3] μ ν τ) (gQlM E Q μ) 0 0 (gA E) := by
  refine g_entr (lv := [(0, .ref (gL E 32)), (1, .int a1), (2, .int a2), (3, .int a3)]) (by decide +kernel) (Nat.le_of_ble_eq_true rfl) rfl (fun p e s m args below meth c ls H locs hx hb hrt hlk C0 hK hP hS hl => ?_)
  have C0 : CallFix p m c cX7_howMany 5 s args gTB RX7 := C0
  have h_47 : ∀ (n_47 : Nat) (v4 : Int32) (ν : gM) (τ : gJ) (H : Heap) (locs : List Loc) (ls : Array Slot), va_P (gD E) vwCl (wl E μ ν τ) H → va_S (gA E) s.heap H locs → lv_has ls 5 [(0, .ref (gL E 32)), (1, .int a1), (2, .int a2), (4, .int v4)] → vX7_howMany_47 a1 a2 a3 Q n_47 v4 ν τ → W p l e (gRm 3 70) s m args below meth c H locs 0 0 (MQ below (gQlM E Q μ) args s 0 0 (gA E)) (F0 m 47 ls []) := by
    intro n_47
    induction n_47 with
    | zero =>
      intro v4 ν τ H locs ls hP hS hl hv
      exact False.elim hv
    | succ n_47 ih_47 =>
      intro v4 ν τ H locs ls hP hS hl hv
      have hv : vX7_howMany_47B a1 a2 a3 Q (vX7_howMany_47 a1 a2 a3 Q n_47) v4 ν τ := hv
      unfold vX7_howMany_47B at hv
      refine lv_iload hx hb dX7_howMany_47 (lv_at hl 3 rfl) (lv_iload_n hx hb dX7_howMany_49 rfl (lv_at hl 1 rfl) ?_)
      refine lv_icmp_ge (tgt := 67) hx hb dX7_howMany_50 (by decide) (fun c999 => ?_) (fun c999 => ?_)
      · have hv := hv.1 c999
        refine lv_aload_n hx hb dX7_howMany_67 rfl (lv_at hl 0 rfl) ?_
        refine g_vM (g_bV (As := []) (rest := []) C0 hK hP kX7_layFills ql_X7_152 (mX7_layFills hE hv) (by decide) ge_X7 rfl rfl hl.1 rfl (Nat.le_of_ble_eq_true rfl) ⟨rfl, rfl, Nat.le_of_ble_eq_true rfl, Nat.le_of_ble_eq_true rfl⟩ dX7_howMany_68) hS (fun ν1001 τ1002 H locs hv hP hS => ?_)
        refine lv_iload_n hx hb dX7_howMany_71 rfl (lv_at hl 1 rfl) (lv_iload_n hx hb dX7_howMany_72 rfl (lv_at hl 2 rfl) (lv_imul hx hb dX7_howMany_73 (lv_bipush (v := 80) hx hb dX7_howMany_74 (by decide) ?_)))
        refine lv_icmp_le (tgt := 83) hx hb dX7_howMany_76 (by decide) (fun c1003 => ?_) (fun c1003 => ?_)
        · have hv := hv.1 c1003
          refine lv_aload_n hx hb dX7_howMany_83 rfl (lv_at hl 0 rfl) (gg_X7_43 C0 hK hP dX7_howMany_84 (lv_iconst (v := 0) hx hb dX7_howMany_87 (by decide) (lv_iload_n hx hb dX7_howMany_88 rfl (lv_at hl 1 rfl) (lv_iload_n hx hb dX7_howMany_89 rfl (lv_at hl 2 rfl) (lv_imul hx hb dX7_howMany_90 ?_)))))
          refine g_iS (g_bS (As := [.int 0, .int (a1 * a2)]) (rest := [.ref (gL E 44)]) C0 hK hP kX7_spot ql_X7_141 (mX7_spot hE hv) rfl hl.1 rfl (Nat.le_of_ble_eq_true rfl) ⟨rfl, rfl, Nat.le_of_ble_eq_true rfl, Nat.le_of_ble_eq_true rfl⟩ dX7_howMany_91) hS (fun x1004 H locs hv hP hS => ?_)
          have hi1005 := hv.1
          have hv := hv.2
          refine g_lald hx hb hK hP hi1005 dX7_howMany_94 ?_
          exact g_lretM hx hb hrt hlk hP hS hv dX7_howMany_95
        · have hv := hv.2 c1003
          refine lv_lconst (v := 0) hx hb dX7_howMany_79 (by decide) (lv_goto (tgt := 95) hx hb dX7_howMany_80 (by decide) ?_)
          exact g_lretM hx hb hrt hlk hP hS hv dX7_howMany_95
      · have hv := hv.2 c999
        refine lv_aload_n hx hb dX7_howMany_53 rfl (lv_at hl 0 rfl) (gg_X7_40 C0 hK hP dX7_howMany_54 (lv_iload hx hb dX7_howMany_57 (lv_at hl 3 rfl) (lv_iconst (v := (-1)) hx hb dX7_howMany_59 (by decide) ?_)))
        have hi1006 := hv.1
        have hv := hv.2
        refine g_iastM hE hx hb hK hP hS (by decide) (fun _ => ga_43) hi1006 dX7_howMany_60 (fun H locs hP hS => (lv_iinc (v := (v4 + 1)) (lv' := [(4, .int (v4 + 1)), (0, .ref (gL E 32)), (1, .int a1), (2, .int a2)]) hx hb dX7_howMany_61 hl (k := 3) rfl rfl (by decide) rfl (fun ls hl => (lv_goto (tgt := 47) hx hb dX7_howMany_64 (by decide) ?_))))
        exact ih_47 (v4 + 1) (up2 ν 43 v4.toNatClampNeg (-1)) τ H locs ls hP hS (lv_sub hl [1, 2, 3, 0] rfl) hv
  unfold vX7_howMany at hv
  refine lv_iload_n hx hb dX7_howMany_0 rfl (lv_at hl 1 rfl) (lv_iconst (v := 1) hx hb dX7_howMany_1 (by decide) (lv_bipush (v := 8) hx hb dX7_howMany_2 (by decide) ?_))
  refine g_iS (g_bS (As := [.int a1, .int 1, .int 8]) (rest := []) C0 hK hP kX7_within ql_X7_56 (mX7_within hE hv) rfl hl.1 rfl (Nat.le_of_ble_eq_true rfl) ⟨rfl, rfl, Nat.le_of_ble_eq_true rfl, Nat.le_of_ble_eq_true rfl⟩ dX7_howMany_4) hS (fun x993 H locs hv hP hS => ?_)
  refine lv_if_eq (tgt := 30) hx hb dX7_howMany_7 (by decide) (fun c994 => ?_) (fun c994 => ?_)
  · have hv := hv.1 c994
    refine lv_ldc2 (v := -9223372036854775808) hx hb C0.2.2.2.1 (C0.2.2.2.2 _ (gTB_at 837 rfl rfl)) dX7_howMany_30 ?_
    exact g_lretM hx hb hrt hlk hP hS hv dX7_howMany_33
  · have hv := hv.2 c994
    refine lv_iload_n hx hb dX7_howMany_10 rfl (lv_at hl 2 rfl) (lv_iconst (v := 0) hx hb dX7_howMany_11 (by decide) (lv_bipush (v := 9) hx hb dX7_howMany_12 (by decide) ?_))
    refine g_iS (g_bS (As := [.int a2, .int 0, .int 9]) (rest := []) C0 hK hP kX7_within ql_X7_56 (mX7_within hE hv) rfl hl.1 rfl (Nat.le_of_ble_eq_true rfl) ⟨rfl, rfl, Nat.le_of_ble_eq_true rfl, Nat.le_of_ble_eq_true rfl⟩ dX7_howMany_14) hS (fun x995 H locs hv hP hS => ?_)
    refine lv_if_eq (tgt := 30) hx hb dX7_howMany_17 (by decide) (fun c996 => ?_) (fun c996 => ?_)
    · have hv := hv.1 c996
      refine lv_ldc2 (v := -9223372036854775808) hx hb C0.2.2.2.1 (C0.2.2.2.2 _ (gTB_at 837 rfl rfl)) dX7_howMany_30 ?_
      exact g_lretM hx hb hrt hlk hP hS hv dX7_howMany_33
    · have hv := hv.2 c996
      refine lv_iload_n hx hb dX7_howMany_20 rfl (lv_at hl 3 rfl) (lv_iconst (v := 0) hx hb dX7_howMany_21 (by decide) (lv_bipush (v := 9) hx hb dX7_howMany_22 (by decide) ?_))
      refine g_iS (g_bS (As := [.int a3, .int 0, .int 9]) (rest := []) C0 hK hP kX7_within ql_X7_56 (mX7_within hE hv) rfl hl.1 rfl (Nat.le_of_ble_eq_true rfl) ⟨rfl, rfl, Nat.le_of_ble_eq_true rfl, Nat.le_of_ble_eq_true rfl⟩ dX7_howMany_24) hS (fun x997 H locs hv hP hS => ?_)
      refine lv_if_ne (tgt := 34) hx hb dX7_howMany_27 (by decide) (fun c998 => ?_) (fun c998 => ?_)
      · have hv := hv.1 c998
        refine lv_aload_n hx hb dX7_howMany_34 rfl (lv_at hl 0 rfl) (lv_iload_n hx hb dX7_howMany_35 rfl (lv_at hl 1 rfl) (gp_X7_138 hE C0 hK hP hS dX7_howMany_36 (fun H locs hP hS => (lv_aload_n hx hb dX7_howMany_39 rfl (lv_at hl 0 rfl) (lv_iload_n hx hb dX7_howMany_40 rfl (lv_at hl 3 rfl) (gp_X7_135 hE C0 hK hP hS dX7_howMany_41 (fun H locs hP hS => (lv_iconst (v := 0) hx hb dX7_howMany_44 (by decide) (lv_istore (lv' := [(4, .int 0), (0, .ref (gL E 32)), (1, .int a1), (2, .int a2), (3, .int a3)]) hx hb dX7_howMany_45 hl (by decide) rfl (fun ls hl => ?_))))))))))
        obtain ⟨nf, hv⟩ := hv
        exact h_47 nf 0 (up2 (up2 ν 32 15 a1) 32 16 a3) τ H locs ls hP hS (lv_sub hl [1, 2, 3, 0] rfl) hv
      · have hv := hv.2 c998
        refine lv_ldc2 (v := -9223372036854775808) hx hb C0.2.2.2.1 (C0.2.2.2.2 _ (gTB_at 837 rfl rfl)) dX7_howMany_30 ?_
        exact g_lretM hx hb hrt hlk hP hS hv dX7_howMany_33
set_option maxHeartbeats 4000000 in
set_option maxRecDepth 100000 in
theorem mX7_thrownTo {l : Launch} {E : gE} {μ ν : gM} {τ : gJ} {Q : Int32 → Prop} (hE : gLok E) {a0 : Int32} {a1 : Int32}  (hv : vX7_thrownTo a0 a1 Q) : Met l yX7_thrownTo (gws yX7_thrownTo cX7_thrownTo 2 (some .int)) (gRm 0 0) (gPc E [.int a0, .int a1] μ ν τ) (gQiS E Q μ ν τ) 0 0 (gA E) := by
  refine g_entr (lv := [(0, .int a0), (1, .int a1)]) (by decide +kernel) (Nat.le_of_ble_eq_true rfl) rfl (fun p e s m args below meth c ls H locs hx hb hrt hlk C0 hK hP hS hl => ?_)
  have C0 : CallFix p m c cX7_thrownTo 2 s args gTB RX7 := C0
  unfold vX7_thrownTo at hv
  refine lv_iload_n hx hb dX7_thrownTo_0 rfl (lv_at hl 0 rfl) (lv_iconst (v := 1) hx hb dX7_thrownTo_1 (by decide) (lv_iload_n hx hb dX7_thrownTo_2 rfl (lv_at hl 1 rfl) (lv_ishl hx hb dX7_thrownTo_3 (lv_ior hx hb dX7_thrownTo_4 (lv_iconst (v := 1) hx hb dX7_thrownTo_5 (by decide) (lv_ishr hx hb dX7_thrownTo_6 ?_))))))
  exact g_retS hx hb hrt hlk hP hS rfl hv dX7_thrownTo_7
set_option maxHeartbeats 4000000 in
set_option maxRecDepth 100000 in
theorem mX7_mayGo {l : Launch} {E : gE} {μ ν : gM} {τ : gJ} {Q : Int32 → Prop} (hE : gLok E) {a0 : Int32} {a1 : Int32} {a2 : Int32}  (hv : vX7_mayGo a0 a1 a2 Q) : Met l yX7_mayGo (gws yX7_mayGo cX7_mayGo 3 (some .boolean)) (gRm 0 0) (gPc E [.int a0, .int a1, .int a2] μ ν τ) (gQiS E Q μ ν τ) 0 0 (gA E) := by
  refine g_entr (lv := [(0, .int a0), (1, .int a1), (2, .int a2)]) (by decide +kernel) (Nat.le_of_ble_eq_true rfl) rfl (fun p e s m args below meth c ls H locs hx hb hrt hlk C0 hK hP hS hl => ?_)
  have C0 : CallFix p m c cX7_mayGo 3 s args gTB RX7 := C0
  unfold vX7_mayGo at hv
  refine lv_iload_n hx hb dX7_mayGo_0 rfl (lv_at hl 0 rfl) (lv_iconst (v := 1) hx hb dX7_mayGo_1 (by decide) (lv_iand hx hb dX7_mayGo_2 ?_))
  refine lv_if_ne (tgt := 18) hx hb dX7_mayGo_3 (by decide) (fun c1007 => ?_) (fun c1007 => ?_)
  · have hv := hv.1 c1007
    refine lv_iload_n hx hb dX7_mayGo_18 rfl (lv_at hl 1 rfl) ?_
    refine lv_if_le (tgt := 39) hx hb dX7_mayGo_19 (by decide) (fun c1008 => ?_) (fun c1008 => ?_)
    · have hv := hv.1 c1008
      refine lv_iconst (v := 0) hx hb dX7_mayGo_39 (by decide) ?_
      exact g_retS hx hb hrt hlk hP hS rfl hv dX7_mayGo_40
    · have hv := hv.2 c1008
      refine lv_iload_n hx hb dX7_mayGo_22 rfl (lv_at hl 1 rfl) (lv_iload_n hx hb dX7_mayGo_23 rfl (lv_at hl 2 rfl) ?_)
      refine lv_icmp_gt (tgt := 39) hx hb dX7_mayGo_24 (by decide) (fun c1009 => ?_) (fun c1009 => ?_)
      · have hv := hv.1 c1009
        refine lv_iconst (v := 0) hx hb dX7_mayGo_39 (by decide) ?_
        exact g_retS hx hb hrt hlk hP hS rfl hv dX7_mayGo_40
      · have hv := hv.2 c1009
        refine lv_iload_n hx hb dX7_mayGo_27 rfl (lv_at hl 0 rfl) (lv_iload_n hx hb dX7_mayGo_28 rfl (lv_at hl 1 rfl) (lv_ishr hx hb dX7_mayGo_29 (lv_iconst (v := 1) hx hb dX7_mayGo_30 (by decide) (lv_iand hx hb dX7_mayGo_31 ?_))))
        refine lv_if_ne (tgt := 39) hx hb dX7_mayGo_32 (by decide) (fun c1010 => ?_) (fun c1010 => ?_)
        · have hv := hv.1 c1010
          refine lv_iconst (v := 0) hx hb dX7_mayGo_39 (by decide) ?_
          exact g_retS hx hb hrt hlk hP hS rfl hv dX7_mayGo_40
        · have hv := hv.2 c1010
          refine lv_iconst (v := 1) hx hb dX7_mayGo_35 (by decide) (lv_goto (tgt := 40) hx hb dX7_mayGo_36 (by decide) ?_)
          exact g_retS hx hb hrt hlk hP hS rfl hv dX7_mayGo_40
  · have hv := hv.2 c1007
    refine lv_iload_n hx hb dX7_mayGo_6 rfl (lv_at hl 1 rfl) ?_
    refine lv_if_ne (tgt := 14) hx hb dX7_mayGo_7 (by decide) (fun c1011 => ?_) (fun c1011 => ?_)
    · have hv := hv.1 c1011
      refine lv_iconst (v := 0) hx hb dX7_mayGo_14 (by decide) (lv_goto (tgt := 40) hx hb dX7_mayGo_15 (by decide) ?_)
      exact g_retS hx hb hrt hlk hP hS rfl hv dX7_mayGo_40
    · have hv := hv.2 c1011
      refine lv_iconst (v := 1) hx hb dX7_mayGo_10 (by decide) (lv_goto (tgt := 40) hx hb dX7_mayGo_11 (by decide) ?_)
      exact g_retS hx hb hrt hlk hP hS rfl hv dX7_mayGo_40
set_option maxHeartbeats 4000000 in
set_option maxRecDepth 100000 in
theorem mX7_goesTo {l : Launch} {E : gE} {μ ν : gM} {τ : gJ} {Q : Int32 → Prop} (hE : gLok E) {a0 : Int32} {a1 : Int32}  (hv : vX7_goesTo a0 a1 Q) : Met l yX7_goesTo (gws yX7_goesTo cX7_goesTo 2 (some .int)) (gRm 1 21) (gPc E [.int a0, .int a1] μ ν τ) (gQiS E Q μ ν τ) 0 0 (gA E) := by
  refine g_entr (lv := [(0, .int a0), (1, .int a1)]) (by decide +kernel) (Nat.le_of_ble_eq_true rfl) rfl (fun p e s m args below meth c ls H locs hx hb hrt hlk C0 hK hP hS hl => ?_)
  have C0 : CallFix p m c cX7_goesTo 2 s args gTB RX7 := C0
  unfold vX7_goesTo at hv
  refine lv_iload_n hx hb dX7_goesTo_0 rfl (lv_at hl 1 rfl) ?_
  refine lv_if_ne (tgt := 10) hx hb dX7_goesTo_1 (by decide) (fun c1012 => ?_) (fun c1012 => ?_)
  · have hv := hv.1 c1012
    refine lv_iload_n hx hb dX7_goesTo_10 rfl (lv_at hl 0 rfl) (lv_iload_n hx hb dX7_goesTo_11 rfl (lv_at hl 1 rfl) ?_)
    refine g_iS (g_bS (As := [.int a0, .int a1]) (rest := []) C0 hK hP kX7_thrownTo ql_X7_155 (mX7_thrownTo hE hv) rfl hl.1 rfl (Nat.le_of_ble_eq_true rfl) ⟨rfl, rfl, Nat.le_of_ble_eq_true rfl, Nat.le_of_ble_eq_true rfl⟩ dX7_goesTo_12) hS (fun x1013 H locs hv hP hS => ?_)
    exact g_retS hx hb hrt hlk hP hS rfl hv dX7_goesTo_15
  · have hv := hv.2 c1012
    refine lv_iload_n hx hb dX7_goesTo_4 rfl (lv_at hl 0 rfl) (lv_iconst (v := 1) hx hb dX7_goesTo_5 (by decide) (lv_ishr hx hb dX7_goesTo_6 (lv_goto (tgt := 15) hx hb dX7_goesTo_7 (by decide) ?_)))
    exact g_retS hx hb hrt hlk hP hS rfl hv dX7_goesTo_15
set_option maxHeartbeats 4000000 in
set_option maxRecDepth 100000 in
theorem mX7_findFar {l : Launch} {E : gE} {μ ν : gM} {τ : gJ} {Q : gM → gJ → Prop} (hE : gLok E) {a1 : Int32} {a2 : Int32}  (hv : vX7_findFar a1 a2 ν τ Q) : Met l yX7_findFar (gws yX7_findFar cX7_findFar 7 none) (gRm 2 42) (gPc E [.ref (gL E 32), .int a1, .int a2] μ ν τ) (gQvM E Q μ) 0 0 (gA E) := by
  refine g_entr (lv := [(0, .ref (gL E 32)), (1, .int a1), (2, .int a2)]) (by decide +kernel) (Nat.le_of_ble_eq_true rfl) rfl (fun p e s m args below meth c ls H locs hx hb hrt hlk C0 hK hP hS hl => ?_)
  have C0 : CallFix p m c cX7_findFar 7 s args gTB RX7 := C0
  have h_37 : ∀ (n_37 : Nat) (v3 : Int32) (v4 : Int32) (ν : gM) (τ : gJ) (H : Heap) (locs : List Loc) (ls : Array Slot), va_P (gD E) vwCl (wl E μ ν τ) H → va_S (gA E) s.heap H locs → lv_has ls 7 [(0, .ref (gL E 32)), (2, .int a2), (3, .int v3), (4, .int v4)] → vX7_findFar_37 a1 a2 Q n_37 v3 v4 ν τ → W p l e (gRm 2 42) s m args below meth c H locs 0 0 (MQ below (gQvM E Q μ) args s 0 0 (gA E)) (F0 m 37 ls []) := by
    intro n_37
    induction n_37 with
    | zero =>
      intro v3 v4 ν τ H locs ls hP hS hl hv
      exact False.elim hv
    | succ n_37 ih_37 =>
      intro v3 v4 ν τ H locs ls hP hS hl hv
      have h_46 : ∀ (n_46 : Nat) (v3 : Int32) (v4 : Int32) (v5 : Int32) (ν : gM) (τ : gJ) (H : Heap) (locs : List Loc) (ls : Array Slot), va_P (gD E) vwCl (wl E μ ν τ) H → va_S (gA E) s.heap H locs → lv_has ls 7 [(0, .ref (gL E 32)), (2, .int a2), (3, .int v3), (4, .int v4), (5, .int v5)] → vX7_findFar_46 a1 a2 Q (vX7_findFar_37 a1 a2 Q n_37) n_46 v3 v4 v5 ν τ → W p l e (gRm 2 42) s m args below meth c H locs 0 0 (MQ below (gQvM E Q μ) args s 0 0 (gA E)) (F0 m 46 ls []) := by
        intro n_46
        induction n_46 with
        | zero =>
          intro v3 v4 v5 ν τ H locs ls hP hS hl hv
          exact False.elim hv
        | succ n_46 ih_46 =>
          intro v3 v4 v5 ν τ H locs ls hP hS hl hv
          have h_57 : ∀ (n_57 : Nat) (v3 : Int32) (v4 : Int32) (v5 : Int32) (v6 : Int32) (ν : gM) (τ : gJ) (H : Heap) (locs : List Loc) (ls : Array Slot), va_P (gD E) vwCl (wl E μ ν τ) H → va_S (gA E) s.heap H locs → lv_has ls 7 [(0, .ref (gL E 32)), (2, .int a2), (3, .int v3), (4, .int v4), (5, .int v5), (6, .int v6)] → vX7_findFar_57 a1 a2 Q (vX7_findFar_37 a1 a2 Q n_37) (vX7_findFar_46 a1 a2 Q (vX7_findFar_37 a1 a2 Q n_37) n_46) n_57 v3 v4 v5 v6 ν τ → W p l e (gRm 2 42) s m args below meth c H locs 0 0 (MQ below (gQvM E Q μ) args s 0 0 (gA E)) (F0 m 57 ls []) := by
            intro n_57
            induction n_57 with
            | zero =>
              intro v3 v4 v5 v6 ν τ H locs ls hP hS hl hv
              exact False.elim hv
            | succ n_57 ih_57 =>
              intro v3 v4 v5 v6 ν τ H locs ls hP hS hl hv
              have hv : vX7_findFar_57B a1 a2 Q (vX7_findFar_37 a1 a2 Q n_37) (vX7_findFar_46 a1 a2 Q (vX7_findFar_37 a1 a2 Q n_37) n_46) (vX7_findFar_57 a1 a2 Q (vX7_findFar_37 a1 a2 Q n_37) (vX7_findFar_46 a1 a2 Q (vX7_findFar_37 a1 a2 Q n_37) n_46) n_57) v3 v4 v5 v6 ν τ := hv
              unfold vX7_findFar_57B at hv
              refine lv_iload hx hb dX7_findFar_57 (lv_at hl 5 rfl) (lv_bipush (v := 9) hx hb dX7_findFar_59 (by decide) ?_)
              refine lv_icmp_gt (tgt := 123) hx hb dX7_findFar_61 (by decide) (fun c1020 => ?_) (fun c1020 => ?_)
              · have hv := hv.1 c1020
                refine lv_iinc (v := (v5 + 1)) (lv' := [(5, .int (v5 + 1)), (0, .ref (gL E 32)), (2, .int a2), (3, .int v3), (4, .int v4), (6, .int v6)]) hx hb dX7_findFar_123 hl (k := 4) rfl rfl (by decide) rfl (fun ls hl => (lv_goto (tgt := 46) hx hb dX7_findFar_126 (by decide) ?_))
                exact ih_46 v3 v4 (v5 + 1) ν τ H locs ls hP hS (lv_sub hl [1, 2, 3, 4, 0] rfl) hv
              · have hv := hv.2 c1020
                refine lv_aload_n hx hb dX7_findFar_64 rfl (lv_at hl 0 rfl) (gg_X7_47 C0 hK hP dX7_findFar_65 (lv_iload hx hb dX7_findFar_68 (lv_at hl 4 rfl) ?_))
                have hi1021 := hv.1
                have hv := hv.2
                refine g_iald hx hb hK hP (by decide) ga_45 hi1021 dX7_findFar_70 (lv_bipush (v := (-9)) hx hb dX7_findFar_71 (by decide) ?_)
                refine lv_icmp_ne (tgt := 123) hx hb dX7_findFar_73 (by decide) (fun c1022 => ?_) (fun c1022 => ?_)
                · have hv := hv.1 c1022
                  refine lv_iinc (v := (v5 + 1)) (lv' := [(5, .int (v5 + 1)), (0, .ref (gL E 32)), (2, .int a2), (3, .int v3), (4, .int v4), (6, .int v6)]) hx hb dX7_findFar_123 hl (k := 4) rfl rfl (by decide) rfl (fun ls hl => (lv_goto (tgt := 46) hx hb dX7_findFar_126 (by decide) ?_))
                  exact ih_46 v3 v4 (v5 + 1) ν τ H locs ls hP hS (lv_sub hl [1, 2, 3, 4, 0] rfl) hv
                · have hv := hv.2 c1022
                  refine lv_iload hx hb dX7_findFar_76 (lv_at hl 4 rfl) (lv_iload hx hb dX7_findFar_78 (lv_at hl 5 rfl) (lv_iload_n hx hb dX7_findFar_80 rfl (lv_at hl 1 rfl) ?_))
                  refine g_iS (g_bS (As := [.int v5, .int v6, .int a2]) (rest := []) C0 hK hP kX7_mayGo ql_X7_158 (mX7_mayGo hE hv) rfl hl.1 rfl (Nat.le_of_ble_eq_true rfl) ⟨rfl, rfl, Nat.le_of_ble_eq_true rfl, Nat.le_of_ble_eq_true rfl⟩ dX7_findFar_81) hS (fun x1023 H locs hv hP hS => ?_)
                  refine lv_if_eq (tgt := 117) hx hb dX7_findFar_84 (by decide) (fun c1024 => ?_) (fun c1024 => ?_)
                  · have hv := hv.1 c1024
                    refine lv_iinc (v := (v6 + 1)) (lv' := [(6, .int (v6 + 1)), (0, .ref (gL E 32)), (2, .int a2), (3, .int v3), (4, .int v4), (5, .int v5)]) hx hb dX7_findFar_117 hl (k := 5) rfl rfl (by decide) rfl (fun ls hl => (lv_goto (tgt := 57) hx hb dX7_findFar_120 (by decide) ?_))
                    exact ih_57 v3 v4 v5 (v6 + 1) ν τ H locs ls hP hS (lv_sub hl [1, 2, 3, 4, 5, 0] rfl) hv
                  · have hv := hv.2 c1024
                    refine lv_aload_n hx hb dX7_findFar_87 rfl (lv_at hl 0 rfl) (gg_X7_47 C0 hK hP dX7_findFar_88 (lv_iload hx hb dX7_findFar_91 (lv_at hl 4 rfl) (lv_iload hx hb dX7_findFar_93 (lv_at hl 5 rfl) ?_)))
                    refine g_iS (g_bS (As := [.int v5, .int v6]) (rest := [.ref (gL E 45)]) C0 hK hP kX7_goesTo ql_X7_161 (mX7_goesTo hE hv) rfl hl.1 rfl (Nat.le_of_ble_eq_true rfl) ⟨rfl, rfl, Nat.le_of_ble_eq_true rfl, Nat.le_of_ble_eq_true rfl⟩ dX7_findFar_95) hS (fun x1025 H locs hv hP hS => ?_)
                    have hi1026 := hv.1
                    have hv := hv.2
                    refine g_iald hx hb hK hP (by decide) ga_45 hi1026 dX7_findFar_98 (lv_iload hx hb dX7_findFar_99 (lv_at hl 3 rfl) ?_)
                    refine lv_icmp_ne (tgt := 117) hx hb dX7_findFar_101 (by decide) (fun c1027 => ?_) (fun c1027 => ?_)
                    · have hv := hv.1 c1027
                      refine lv_iinc (v := (v6 + 1)) (lv' := [(6, .int (v6 + 1)), (0, .ref (gL E 32)), (2, .int a2), (3, .int v3), (4, .int v4), (5, .int v5)]) hx hb dX7_findFar_117 hl (k := 5) rfl rfl (by decide) rfl (fun ls hl => (lv_goto (tgt := 57) hx hb dX7_findFar_120 (by decide) ?_))
                      exact ih_57 v3 v4 v5 (v6 + 1) ν τ H locs ls hP hS (lv_sub hl [1, 2, 3, 4, 5, 0] rfl) hv
                    · have hv := hv.2 c1027
                      refine lv_aload_n hx hb dX7_findFar_104 rfl (lv_at hl 0 rfl) (gg_X7_47 C0 hK hP dX7_findFar_105 (lv_iload hx hb dX7_findFar_108 (lv_at hl 4 rfl) (lv_iload hx hb dX7_findFar_110 (lv_at hl 3 rfl) (lv_iconst (v := 1) hx hb dX7_findFar_112 (by decide) (lv_iadd hx hb dX7_findFar_113 ?_)))))
                      have hi1028 := hv.1
                      have hv := hv.2
                      refine g_iastM hE hx hb hK hP hS (by decide) (fun _ => ga_45) hi1028 dX7_findFar_114 (fun H locs hP hS => (lv_iconst (v := 1) hx hb dX7_findFar_115 (by decide) (lv_istore_n (lv' := [(3, .int 1), (0, .ref (gL E 32)), (2, .int a2), (4, .int v4), (5, .int v5), (6, .int v6)]) hx hb dX7_findFar_116 rfl hl (by decide) rfl (fun ls hl => (lv_iinc (v := (v6 + 1)) (lv' := [(6, .int (v6 + 1)), (3, .int 1), (0, .ref (gL E 32)), (2, .int a2), (4, .int v4), (5, .int v5)]) hx hb dX7_findFar_117 hl (k := 5) rfl rfl (by decide) rfl (fun ls hl => (lv_goto (tgt := 57) hx hb dX7_findFar_120 (by decide) ?_)))))))
                      exact ih_57 1 v4 v5 (v6 + 1) (up2 ν 45 v5.toNatClampNeg (v4 + 1)) τ H locs ls hP hS (lv_sub hl [2, 3, 1, 4, 5, 0] rfl) hv
          have hv : vX7_findFar_46B a1 a2 Q (vX7_findFar_37 a1 a2 Q n_37) (vX7_findFar_46 a1 a2 Q (vX7_findFar_37 a1 a2 Q n_37) n_46) v3 v4 v5 ν τ := hv
          unfold vX7_findFar_46B at hv
          refine lv_iload hx hb dX7_findFar_46 (lv_at hl 4 rfl) (lv_sipush (v := 512) hx hb dX7_findFar_48 (by decide) ?_)
          refine lv_icmp_ge (tgt := 129) hx hb dX7_findFar_51 (by decide) (fun c1019 => ?_) (fun c1019 => ?_)
          · have hv := hv.1 c1019
            refine lv_iinc (v := (v4 + 1)) (lv' := [(4, .int (v4 + 1)), (0, .ref (gL E 32)), (2, .int a2), (3, .int v3), (5, .int v5)]) hx hb dX7_findFar_129 hl (k := 3) rfl rfl (by decide) rfl (fun ls hl => (lv_goto (tgt := 37) hx hb dX7_findFar_132 (by decide) ?_))
            exact ih_37 v3 (v4 + 1) ν τ H locs ls hP hS (lv_sub hl [1, 2, 3, 0] rfl) hv
          · have hv := hv.2 c1019
            refine lv_iconst (v := 0) hx hb dX7_findFar_54 (by decide) (lv_istore (lv' := [(6, .int 0), (0, .ref (gL E 32)), (2, .int a2), (3, .int v3), (4, .int v4), (5, .int v5)]) hx hb dX7_findFar_55 hl (by decide) rfl (fun ls hl => ?_))
            obtain ⟨nf, hv⟩ := hv
            exact h_57 nf v3 v4 v5 0 ν τ H locs ls hP hS (lv_sub hl [1, 2, 3, 4, 5, 0] rfl) hv
      have hv : vX7_findFar_37B a1 a2 Q (vX7_findFar_37 a1 a2 Q n_37) v3 v4 ν τ := hv
      unfold vX7_findFar_37B at hv
      refine lv_iload_n hx hb dX7_findFar_37 rfl (lv_at hl 2 rfl) ?_
      refine lv_if_eq (tgt := 135) hx hb dX7_findFar_38 (by decide) (fun c1018 => ?_) (fun c1018 => ?_)
      · have hv := hv.1 c1018
        exact g_vretM hx hb hrt hlk hP hS hv dX7_findFar_135
      · have hv := hv.2 c1018
        refine lv_iconst (v := 0) hx hb dX7_findFar_41 (by decide) (lv_istore_n (lv' := [(3, .int 0), (0, .ref (gL E 32)), (2, .int a2), (4, .int v4)]) hx hb dX7_findFar_42 rfl hl (by decide) rfl (fun ls hl => (lv_iconst (v := 0) hx hb dX7_findFar_43 (by decide) (lv_istore (lv' := [(5, .int 0), (3, .int 0), (0, .ref (gL E 32)), (2, .int a2), (4, .int v4)]) hx hb dX7_findFar_44 hl (by decide) rfl (fun ls hl => ?_)))))
        obtain ⟨nf, hv⟩ := hv
        exact h_46 nf 0 v4 0 ν τ H locs ls hP hS (lv_sub hl [2, 3, 1, 4, 0] rfl) hv
  have h_2 : ∀ (n_2 : Nat) (v3 : Int32) (ν : gM) (τ : gJ) (H : Heap) (locs : List Loc) (ls : Array Slot), va_P (gD E) vwCl (wl E μ ν τ) H → va_S (gA E) s.heap H locs → lv_has ls 7 [(0, .ref (gL E 32)), (1, .int a1), (2, .int a2), (3, .int v3)] → vX7_findFar_2 a1 a2 Q n_2 v3 ν τ → W p l e (gRm 2 42) s m args below meth c H locs 0 0 (MQ below (gQvM E Q μ) args s 0 0 (gA E)) (F0 m 2 ls []) := by
    intro n_2
    induction n_2 with
    | zero =>
      intro v3 ν τ H locs ls hP hS hl hv
      exact False.elim hv
    | succ n_2 ih_2 =>
      intro v3 ν τ H locs ls hP hS hl hv
      have hv : vX7_findFar_2B a1 a2 Q (vX7_findFar_2 a1 a2 Q n_2) v3 ν τ := hv
      unfold vX7_findFar_2B at hv
      refine lv_iload_n hx hb dX7_findFar_2 rfl (lv_at hl 3 rfl) (lv_sipush (v := 512) hx hb dX7_findFar_3 (by decide) ?_)
      refine lv_icmp_ge (tgt := 32) hx hb dX7_findFar_6 (by decide) (fun c1014 => ?_) (fun c1014 => ?_)
      · have hv := hv.1 c1014
        refine lv_iconst (v := 1) hx hb dX7_findFar_32 (by decide) (lv_istore_n (lv' := [(3, .int 1), (0, .ref (gL E 32)), (1, .int a1), (2, .int a2)]) hx hb dX7_findFar_33 rfl hl (by decide) rfl (fun ls hl => (lv_iconst (v := 0) hx hb dX7_findFar_34 (by decide) (lv_istore (lv' := [(4, .int 0), (3, .int 1), (0, .ref (gL E 32)), (1, .int a1), (2, .int a2)]) hx hb dX7_findFar_35 hl (by decide) rfl (fun ls hl => ?_)))))
        obtain ⟨nf, hv⟩ := hv
        exact h_37 nf 1 0 ν τ H locs ls hP hS (lv_sub hl [2, 4, 1, 0] rfl) hv
      · have hv := hv.2 c1014
        refine lv_aload_n hx hb dX7_findFar_9 rfl (lv_at hl 0 rfl) (gg_X7_47 C0 hK hP dX7_findFar_10 (lv_iload_n hx hb dX7_findFar_13 rfl (lv_at hl 3 rfl) (lv_iload_n hx hb dX7_findFar_14 rfl (lv_at hl 3 rfl) (lv_iload_n hx hb dX7_findFar_15 rfl (lv_at hl 1 rfl) ?_))))
        refine lv_icmp_ne (tgt := 23) hx hb dX7_findFar_16 (by decide) (fun c1015 => ?_) (fun c1015 => ?_)
        · have hv := hv.1 c1015
          refine lv_bipush (v := (-9)) hx hb dX7_findFar_23 (by decide) ?_
          have hi1016 := hv.1
          have hv := hv.2
          refine g_iastM hE hx hb hK hP hS (by decide) (fun _ => ga_45) hi1016 dX7_findFar_25 (fun H locs hP hS => (lv_iinc (v := (v3 + 1)) (lv' := [(3, .int (v3 + 1)), (0, .ref (gL E 32)), (1, .int a1), (2, .int a2)]) hx hb dX7_findFar_26 hl (k := 3) rfl rfl (by decide) rfl (fun ls hl => (lv_goto (tgt := 2) hx hb dX7_findFar_29 (by decide) ?_))))
          exact ih_2 (v3 + 1) (up2 ν 45 v3.toNatClampNeg (-9)) τ H locs ls hP hS (lv_sub hl [1, 2, 3, 0] rfl) hv
        · have hv := hv.2 c1015
          refine lv_iconst (v := 0) hx hb dX7_findFar_19 (by decide) (lv_goto (tgt := 25) hx hb dX7_findFar_20 (by decide) ?_)
          have hi1017 := hv.1
          have hv := hv.2
          refine g_iastM hE hx hb hK hP hS (by decide) (fun _ => ga_45) hi1017 dX7_findFar_25 (fun H locs hP hS => (lv_iinc (v := (v3 + 1)) (lv' := [(3, .int (v3 + 1)), (0, .ref (gL E 32)), (1, .int a1), (2, .int a2)]) hx hb dX7_findFar_26 hl (k := 3) rfl rfl (by decide) rfl (fun ls hl => (lv_goto (tgt := 2) hx hb dX7_findFar_29 (by decide) ?_))))
          exact ih_2 (v3 + 1) (up2 ν 45 v3.toNatClampNeg 0) τ H locs ls hP hS (lv_sub hl [1, 2, 3, 0] rfl) hv
  unfold vX7_findFar at hv
  refine lv_iconst (v := 0) hx hb dX7_findFar_0 (by decide) (lv_istore_n (lv' := [(3, .int 0), (0, .ref (gL E 32)), (1, .int a1), (2, .int a2)]) hx hb dX7_findFar_1 rfl hl (by decide) rfl (fun ls hl => ?_))
  obtain ⟨nf, hv⟩ := hv
  exact h_2 nf 0 ν τ H locs ls hP hS (lv_sub hl [1, 2, 3, 0] rfl) hv
set_option maxHeartbeats 4000000 in
set_option maxRecDepth 100000 in
theorem mX7_way {l : Launch} {E : gE} {μ ν : gM} {τ : gJ} {Q : Int32 → gM → gJ → Prop} (hE : gLok E) {a1 : Int32} {a2 : Int32} {a3 : Int32} {a4 : Int32}  (hv : vX7_way a1 a2 a3 a4 ν τ Q) : Met l yX7_way (gws yX7_way cX7_way 8 (some .int)) (gRm 3 68) (gPc E [.ref (gL E 32), .int a1, .int a2, .int a3, .int a4] μ ν τ) (gQiM E Q μ) 0 0 (gA E) := by
  refine g_entr (lv := [(0, .ref (gL E 32)), (1, .int a1), (2, .int a2), (3, .int a3), (4, .int a4)]) (by decide +kernel) (Nat.le_of_ble_eq_true rfl) rfl (fun p e s m args below meth c ls H locs hx hb hrt hlk C0 hK hP hS hl => ?_)
  have C0 : CallFix p m c cX7_way 8 s args gTB RX7 := C0
  have h_107 : ∀ (n_107 : Nat) (v5 : Int32) (v6 : Int32) (v7 : Int32) (ν : gM) (τ : gJ) (H : Heap) (locs : List Loc) (ls : Array Slot), va_P (gD E) vwCl (wl E μ ν τ) H → va_S (gA E) s.heap H locs → lv_has ls 8 [(0, .ref (gL E 32)), (1, .int a1), (3, .int a3), (4, .int a4), (5, .int v5), (6, .int v6), (7, .int v7)] → vX7_way_107 a1 a2 a3 a4 Q n_107 v5 v6 v7 ν τ → W p l e (gRm 3 68) s m args below meth c H locs 0 0 (MQ below (gQiM E Q μ) args s 0 0 (gA E)) (F0 m 107 ls []) := by
    intro n_107
    induction n_107 with
    | zero =>
      intro v5 v6 v7 ν τ H locs ls hP hS hl hv
      exact False.elim hv
    | succ n_107 ih_107 =>
      intro v5 v6 v7 ν τ H locs ls hP hS hl hv
      have h_117 : ∀ (n_117 : Nat) (v5 : Int32) (v6 : Int32) (v7 : Int32) (ν : gM) (τ : gJ) (H : Heap) (locs : List Loc) (ls : Array Slot), va_P (gD E) vwCl (wl E μ ν τ) H → va_S (gA E) s.heap H locs → lv_has ls 8 [(0, .ref (gL E 32)), (1, .int a1), (3, .int a3), (4, .int a4), (5, .int v5), (6, .int v6), (7, .int v7)] → vX7_way_117 a1 a2 a3 a4 Q (vX7_way_107 a1 a2 a3 a4 Q n_107) n_117 v5 v6 v7 ν τ → W p l e (gRm 3 68) s m args below meth c H locs 0 0 (MQ below (gQiM E Q μ) args s 0 0 (gA E)) (F0 m 117 ls []) := by
        intro n_117
        induction n_117 with
        | zero =>
          intro v5 v6 v7 ν τ H locs ls hP hS hl hv
          exact False.elim hv
        | succ n_117 ih_117 =>
          intro v5 v6 v7 ν τ H locs ls hP hS hl hv
          have hv : vX7_way_117B a1 a2 a3 a4 Q (vX7_way_107 a1 a2 a3 a4 Q n_107) (vX7_way_117 a1 a2 a3 a4 Q (vX7_way_107 a1 a2 a3 a4 Q n_107) n_117) v5 v6 v7 ν τ := hv
          unfold vX7_way_117B at hv
          refine lv_iload hx hb dX7_way_117 (lv_at hl 4 rfl) (lv_iload hx hb dX7_way_119 (lv_at hl 5 rfl) (lv_iload_n hx hb dX7_way_121 rfl (lv_at hl 2 rfl) ?_))
          refine g_iS (g_bS (As := [.int v5, .int v6, .int a3]) (rest := []) C0 hK hP kX7_mayGo ql_X7_158 (mX7_mayGo hE hv) rfl hl.1 rfl (Nat.le_of_ble_eq_true rfl) ⟨rfl, rfl, Nat.le_of_ble_eq_true rfl, Nat.le_of_ble_eq_true rfl⟩ dX7_way_122) hS (fun x1049 H locs hv hP hS => ?_)
          refine lv_if_eq (tgt := 154) hx hb dX7_way_125 (by decide) (fun c1050 => ?_) (fun c1050 => ?_)
          · have hv := hv.1 c1050
            refine lv_iinc (v := (v6 + 1)) (lv' := [(6, .int (v6 + 1)), (0, .ref (gL E 32)), (1, .int a1), (3, .int a3), (4, .int a4), (5, .int v5), (7, .int v7)]) hx hb dX7_way_154 hl (k := 5) rfl rfl (by decide) rfl (fun ls hl => (lv_goto (tgt := 117) hx hb dX7_way_157 (by decide) ?_))
            exact ih_117 v5 (v6 + 1) v7 ν τ H locs ls hP hS (lv_sub hl [1, 2, 3, 4, 5, 0, 6] rfl) hv
          · have hv := hv.2 c1050
            refine lv_aload_n hx hb dX7_way_128 rfl (lv_at hl 0 rfl) (gg_X7_47 C0 hK hP dX7_way_129 (lv_iload hx hb dX7_way_132 (lv_at hl 4 rfl) (lv_iload hx hb dX7_way_134 (lv_at hl 5 rfl) ?_)))
            refine g_iS (g_bS (As := [.int v5, .int v6]) (rest := [.ref (gL E 45)]) C0 hK hP kX7_goesTo ql_X7_161 (mX7_goesTo hE hv) rfl hl.1 rfl (Nat.le_of_ble_eq_true rfl) ⟨rfl, rfl, Nat.le_of_ble_eq_true rfl, Nat.le_of_ble_eq_true rfl⟩ dX7_way_136) hS (fun x1051 H locs hv hP hS => ?_)
            have hi1052 := hv.1
            have hv := hv.2
            refine g_iald hx hb hK hP (by decide) ga_45 hi1052 dX7_way_139 (lv_aload_n hx hb dX7_way_140 rfl (lv_at hl 0 rfl) (gg_X7_47 C0 hK hP dX7_way_141 (lv_iload_n hx hb dX7_way_144 rfl (lv_at hl 1 rfl) ?_)))
            have hi1053 := hv.1
            have hv := hv.2
            refine g_iald hx hb hK hP (by decide) ga_45 hi1053 dX7_way_145 (lv_iload hx hb dX7_way_146 (lv_at hl 6 rfl) (lv_isub hx hb dX7_way_148 (lv_iconst (v := 1) hx hb dX7_way_149 (by decide) (lv_isub hx hb dX7_way_150 ?_))))
            refine lv_icmp_eq (tgt := 160) hx hb dX7_way_151 (by decide) (fun c1054 => ?_) (fun c1054 => ?_)
            · have hv := hv.1 c1054
              refine lv_iload hx hb dX7_way_160 (lv_at hl 4 rfl) (lv_iload hx hb dX7_way_162 (lv_at hl 5 rfl) ?_)
              refine g_iS (g_bS (As := [.int v5, .int v6]) (rest := []) C0 hK hP kX7_goesTo ql_X7_161 (mX7_goesTo hE hv) rfl hl.1 rfl (Nat.le_of_ble_eq_true rfl) ⟨rfl, rfl, Nat.le_of_ble_eq_true rfl, Nat.le_of_ble_eq_true rfl⟩ dX7_way_164) hS (fun x1055 H locs hv hP hS => ?_)
              refine lv_istore (lv' := [(5, .int x1055), (0, .ref (gL E 32)), (1, .int a1), (3, .int a3), (4, .int a4), (6, .int v6), (7, .int v7)]) hx hb dX7_way_167 hl (by decide) rfl (fun ls hl => (lv_iinc (v := (v7 + 1)) (lv' := [(7, .int (v7 + 1)), (5, .int x1055), (0, .ref (gL E 32)), (1, .int a1), (3, .int a3), (4, .int a4), (6, .int v6)]) hx hb dX7_way_169 hl (k := 6) rfl rfl (by decide) rfl (fun ls hl => (lv_goto (tgt := 107) hx hb dX7_way_172 (by decide) ?_))))
              exact ih_107 x1055 v6 (v7 + 1) ν τ H locs ls hP hS (lv_sub hl [2, 3, 4, 5, 1, 6, 0] rfl) hv
            · have hv := hv.2 c1054
              refine lv_iinc (v := (v6 + 1)) (lv' := [(6, .int (v6 + 1)), (0, .ref (gL E 32)), (1, .int a1), (3, .int a3), (4, .int a4), (5, .int v5), (7, .int v7)]) hx hb dX7_way_154 hl (k := 5) rfl rfl (by decide) rfl (fun ls hl => (lv_goto (tgt := 117) hx hb dX7_way_157 (by decide) ?_))
              exact ih_117 v5 (v6 + 1) v7 ν τ H locs ls hP hS (lv_sub hl [1, 2, 3, 4, 5, 0, 6] rfl) hv
      have hv : vX7_way_107B a1 a2 a3 a4 Q (vX7_way_107 a1 a2 a3 a4 Q n_107) v5 v6 v7 ν τ := hv
      unfold vX7_way_107B at hv
      refine lv_iload hx hb dX7_way_107 (lv_at hl 6 rfl) (lv_iload hx hb dX7_way_109 (lv_at hl 3 rfl) ?_)
      refine lv_icmp_gt (tgt := 175) hx hb dX7_way_111 (by decide) (fun c1048 => ?_) (fun c1048 => ?_)
      · have hv := hv.1 c1048
        refine lv_iload hx hb dX7_way_175 (lv_at hl 5 rfl) ?_
        exact g_retM hx hb hrt hlk hP hS rfl hv dX7_way_177
      · have hv := hv.2 c1048
        refine lv_iconst (v := 0) hx hb dX7_way_114 (by decide) (lv_istore (lv' := [(6, .int 0), (0, .ref (gL E 32)), (1, .int a1), (3, .int a3), (4, .int a4), (5, .int v5), (7, .int v7)]) hx hb dX7_way_115 hl (by decide) rfl (fun ls hl => ?_))
        obtain ⟨nf, hv⟩ := hv
        exact h_117 nf v5 0 v7 ν τ H locs ls hP hS (lv_sub hl [1, 2, 3, 4, 5, 0, 6] rfl) hv
  unfold vX7_way at hv
  refine lv_iload_n hx hb dX7_way_0 rfl (lv_at hl 1 rfl) (lv_iconst (v := 0) hx hb dX7_way_1 (by decide) (lv_sipush (v := 511) hx hb dX7_way_2 (by decide) ?_))
  refine g_iS (g_bS (As := [.int a1, .int 0, .int 511]) (rest := []) C0 hK hP kX7_within ql_X7_56 (mX7_within hE hv) rfl hl.1 rfl (Nat.le_of_ble_eq_true rfl) ⟨rfl, rfl, Nat.le_of_ble_eq_true rfl, Nat.le_of_ble_eq_true rfl⟩ dX7_way_5) hS (fun x1029 H locs hv hP hS => ?_)
  refine lv_if_eq (tgt := 43) hx hb dX7_way_8 (by decide) (fun c1030 => ?_) (fun c1030 => ?_)
  · have hv := hv.1 c1030
    refine lv_bipush (v := (-2)) hx hb dX7_way_43 (by decide) ?_
    exact g_retM hx hb hrt hlk hP hS rfl hv dX7_way_45
  · have hv := hv.2 c1030
    refine lv_iload_n hx hb dX7_way_11 rfl (lv_at hl 2 rfl) (lv_iconst (v := 0) hx hb dX7_way_12 (by decide) (lv_sipush (v := 511) hx hb dX7_way_13 (by decide) ?_))
    refine g_iS (g_bS (As := [.int a2, .int 0, .int 511]) (rest := []) C0 hK hP kX7_within ql_X7_56 (mX7_within hE hv) rfl hl.1 rfl (Nat.le_of_ble_eq_true rfl) ⟨rfl, rfl, Nat.le_of_ble_eq_true rfl, Nat.le_of_ble_eq_true rfl⟩ dX7_way_16) hS (fun x1031 H locs hv hP hS => ?_)
    refine lv_if_eq (tgt := 43) hx hb dX7_way_19 (by decide) (fun c1032 => ?_) (fun c1032 => ?_)
    · have hv := hv.1 c1032
      refine lv_bipush (v := (-2)) hx hb dX7_way_43 (by decide) ?_
      exact g_retM hx hb hrt hlk hP hS rfl hv dX7_way_45
    · have hv := hv.2 c1032
      refine lv_iload_n hx hb dX7_way_22 rfl (lv_at hl 1 rfl) ?_
      refine g_iS (g_bS (As := [.int a1]) (rest := []) C0 hK hP kX7_size ql_X7_119 (mX7_size hE hv) rfl hl.1 rfl (Nat.le_of_ble_eq_true rfl) ⟨rfl, rfl, Nat.le_of_ble_eq_true rfl, Nat.le_of_ble_eq_true rfl⟩ dX7_way_23) hS (fun x1033 H locs hv hP hS => ?_)
      refine lv_iload_n hx hb dX7_way_26 rfl (lv_at hl 2 rfl) ?_
      refine g_iS (g_bS (As := [.int a2]) (rest := [.int x1033]) C0 hK hP kX7_size ql_X7_119 (mX7_size hE hv) rfl hl.1 rfl (Nat.le_of_ble_eq_true rfl) ⟨rfl, rfl, Nat.le_of_ble_eq_true rfl, Nat.le_of_ble_eq_true rfl⟩ dX7_way_27) hS (fun x1034 H locs hv hP hS => ?_)
      refine lv_icmp_ne (tgt := 43) hx hb dX7_way_30 (by decide) (fun c1035 => ?_) (fun c1035 => ?_)
      · have hv := hv.1 c1035
        refine lv_bipush (v := (-2)) hx hb dX7_way_43 (by decide) ?_
        exact g_retM hx hb hrt hlk hP hS rfl hv dX7_way_45
      · have hv := hv.2 c1035
        refine lv_iload_n hx hb dX7_way_33 rfl (lv_at hl 3 rfl) (lv_iconst (v := 0) hx hb dX7_way_34 (by decide) (lv_bipush (v := 9) hx hb dX7_way_35 (by decide) ?_))
        refine g_iS (g_bS (As := [.int a3, .int 0, .int 9]) (rest := []) C0 hK hP kX7_within ql_X7_56 (mX7_within hE hv) rfl hl.1 rfl (Nat.le_of_ble_eq_true rfl) ⟨rfl, rfl, Nat.le_of_ble_eq_true rfl, Nat.le_of_ble_eq_true rfl⟩ dX7_way_37) hS (fun x1036 H locs hv hP hS => ?_)
        refine lv_if_ne (tgt := 46) hx hb dX7_way_40 (by decide) (fun c1037 => ?_) (fun c1037 => ?_)
        · have hv := hv.1 c1037
          refine lv_iload hx hb dX7_way_46 (lv_at hl 4 rfl) (lv_iconst (v := (-1)) hx hb dX7_way_48 (by decide) ?_)
          refine lv_icmp_ge (tgt := 54) hx hb dX7_way_49 (by decide) (fun c1038 => ?_) (fun c1038 => ?_)
          · have hv := hv.1 c1038
            refine lv_aload_n hx hb dX7_way_54 rfl (lv_at hl 0 rfl) (lv_iload_n hx hb dX7_way_55 rfl (lv_at hl 2 rfl) (lv_iload_n hx hb dX7_way_56 rfl (lv_at hl 3 rfl) ?_))
            refine g_vM (g_bV (As := [.int a2, .int a3]) (rest := []) C0 hK hP kX7_findFar ql_X7_164 (mX7_findFar hE hv) (by decide) ge_X7 rfl rfl hl.1 rfl (Nat.le_of_ble_eq_true rfl) ⟨rfl, rfl, Nat.le_of_ble_eq_true rfl, Nat.le_of_ble_eq_true rfl⟩ dX7_way_57) hS (fun ν1040 τ1041 H locs hv hP hS => ?_)
            refine lv_aload_n hx hb dX7_way_60 rfl (lv_at hl 0 rfl) (gg_X7_47 C0 hK hP dX7_way_61 (lv_iload_n hx hb dX7_way_64 rfl (lv_at hl 1 rfl) ?_))
            have hi1042 := hv.1
            have hv := hv.2
            refine g_iald hx hb hK hP (by decide) ga_45 hi1042 dX7_way_65 (lv_bipush (v := (-9)) hx hb dX7_way_66 (by decide) ?_)
            refine lv_icmp_eq (tgt := 82) hx hb dX7_way_68 (by decide) (fun c1043 => ?_) (fun c1043 => ?_)
            · have hv := hv.1 c1043
              refine lv_bipush (v := (-9)) hx hb dX7_way_82 (by decide) ?_
              exact g_retM hx hb hrt hlk hP hS rfl hv dX7_way_84
            · have hv := hv.2 c1043
              refine lv_iload hx hb dX7_way_71 (lv_at hl 4 rfl) (lv_aload_n hx hb dX7_way_73 rfl (lv_at hl 0 rfl) (gg_X7_47 C0 hK hP dX7_way_74 (lv_iload_n hx hb dX7_way_77 rfl (lv_at hl 1 rfl) ?_)))
              have hi1044 := hv.1
              have hv := hv.2
              refine g_iald hx hb hK hP (by decide) ga_45 hi1044 dX7_way_78 ?_
              refine lv_icmp_lt (tgt := 85) hx hb dX7_way_79 (by decide) (fun c1045 => ?_) (fun c1045 => ?_)
              · have hv := hv.1 c1045
                refine lv_iload hx hb dX7_way_85 (lv_at hl 4 rfl) (lv_iconst (v := (-1)) hx hb dX7_way_87 (by decide) ?_)
                refine lv_icmp_ne (tgt := 98) hx hb dX7_way_88 (by decide) (fun c1046 => ?_) (fun c1046 => ?_)
                · have hv := hv.1 c1046
                  refine lv_iload_n hx hb dX7_way_98 rfl (lv_at hl 1 rfl) (lv_istore (lv' := [(5, .int a1), (0, .ref (gL E 32)), (1, .int a1), (2, .int a2), (3, .int a3), (4, .int a4)]) hx hb dX7_way_99 hl (by decide) rfl (fun ls hl => (lv_iconst (v := 0) hx hb dX7_way_101 (by decide) (lv_istore (lv' := [(6, .int 0), (5, .int a1), (0, .ref (gL E 32)), (1, .int a1), (2, .int a2), (3, .int a3), (4, .int a4)]) hx hb dX7_way_102 hl (by decide) rfl (fun ls hl => (lv_iconst (v := 0) hx hb dX7_way_104 (by decide) (lv_istore (lv' := [(7, .int 0), (6, .int 0), (5, .int a1), (0, .ref (gL E 32)), (1, .int a1), (2, .int a2), (3, .int a3), (4, .int a4)]) hx hb dX7_way_105 hl (by decide) rfl (fun ls hl => ?_))))))))
                  obtain ⟨nf, hv⟩ := hv
                  exact h_107 nf a1 0 0 ν1040 τ1041 H locs ls hP hS (lv_sub hl [3, 4, 6, 7, 2, 1, 0] rfl) hv
                · have hv := hv.2 c1046
                  refine lv_aload_n hx hb dX7_way_91 rfl (lv_at hl 0 rfl) (gg_X7_47 C0 hK hP dX7_way_92 (lv_iload_n hx hb dX7_way_95 rfl (lv_at hl 1 rfl) ?_))
                  have hi1047 := hv.1
                  have hv := hv.2
                  refine g_iald hx hb hK hP (by decide) ga_45 hi1047 dX7_way_96 ?_
                  exact g_retM hx hb hrt hlk hP hS rfl hv dX7_way_97
              · have hv := hv.2 c1045
                refine lv_bipush (v := (-9)) hx hb dX7_way_82 (by decide) ?_
                exact g_retM hx hb hrt hlk hP hS rfl hv dX7_way_84
          · have hv := hv.2 c1038
            refine lv_iconst (v := (-1)) hx hb dX7_way_52 (by decide) ?_
            exact g_retM hx hb hrt hlk hP hS rfl hv dX7_way_53
        · have hv := hv.2 c1037
          refine lv_bipush (v := (-2)) hx hb dX7_way_43 (by decide) ?_
          exact g_retM hx hb hrt hlk hP hS rfl hv dX7_way_45
set_option maxHeartbeats 4000000 in
set_option maxRecDepth 100000 in
theorem mX7_leadsOn {l : Launch} {E : gE} {μ ν : gM} {τ : gJ} {Q : Int32 → gM → gJ → Prop} (hE : gLok E) {a1 : Int32} {a2 : Int32} {a3 : Int32} {a4 : Int32}  (hv : vX7_leadsOn a1 a2 a3 a4 ν τ Q) : Met l yX7_leadsOn (gws yX7_leadsOn cX7_leadsOn 6 (some .boolean)) (gRm 1 22) (gPc E [.ref (gL E 32), .int a1, .int a2, .int a3, .int a4] μ ν τ) (gQiM E Q μ) 0 0 (gA E) := by
  refine g_entr (lv := [(0, .ref (gL E 32)), (1, .int a1), (2, .int a2), (3, .int a3), (4, .int a4)]) (by decide +kernel) (Nat.le_of_ble_eq_true rfl) rfl (fun p e s m args below meth c ls H locs hx hb hrt hlk C0 hK hP hS hl => ?_)
  have C0 : CallFix p m c cX7_leadsOn 6 s args gTB RX7 := C0
  unfold vX7_leadsOn at hv
  refine lv_iconst (v := 1) hx hb dX7_leadsOn_0 (by decide) (lv_iload_n hx hb dX7_leadsOn_1 rfl (lv_at hl 3 rfl) (lv_iload hx hb dX7_leadsOn_2 (lv_at hl 4 rfl) (lv_iadd hx hb dX7_leadsOn_4 (lv_aload_n hx hb dX7_leadsOn_5 rfl (lv_at hl 0 rfl) (gg_X7_138 C0 hK hP dX7_leadsOn_6 ?_)))))
  have hd := hv.1
  have hv := hv.2
  refine lv_irem hx hb dX7_leadsOn_9 hd (lv_ishl hx hb dX7_leadsOn_10 (lv_istore (lv' := [(5, .int ((1 : Int32) <<< (((a3 + a4) - (a3 + a4) / (ν 32 15) * (ν 32 15)) &&& 31))), (0, .ref (gL E 32)), (1, .int a1), (2, .int a2), (3, .int a3), (4, .int a4)]) hx hb dX7_leadsOn_11 hl (by decide) rfl (fun ls hl => (lv_aload_n hx hb dX7_leadsOn_13 rfl (lv_at hl 1 rfl) (lv_iload_n hx hb dX7_leadsOn_14 rfl (lv_at hl 4 rfl) (lv_iload hx hb dX7_leadsOn_15 (lv_at hl 5 rfl) ?_))))))
  refine g_iM (g_bV (As := [.int a3, .int a4]) (rest := []) C0 hK hP kX7_mayThrow ql_X7_145 (mX7_mayThrow hE hv) (by decide) ge_X7 rfl rfl hl.1 rfl (Nat.le_of_ble_eq_true rfl) ⟨rfl, rfl, Nat.le_of_ble_eq_true rfl, Nat.le_of_ble_eq_true rfl⟩ dX7_leadsOn_17) hS (fun x1088 ν1089 τ1090 H locs hv hP hS => ?_)
  refine lv_if_eq (tgt := 61) hx hb dX7_leadsOn_20 (by decide) (fun c1091 => ?_) (fun c1091 => ?_)
  · have hv := hv.1 c1091
    refine lv_iconst (v := 0) hx hb dX7_leadsOn_61 (by decide) ?_
    exact g_retM hx hb hrt hlk hP hS rfl hv dX7_leadsOn_62
  · have hv := hv.2 c1091
    refine lv_iload_n hx hb dX7_leadsOn_23 rfl (lv_at hl 2 rfl) (lv_iload hx hb dX7_leadsOn_24 (lv_at hl 0 rfl) (lv_iand hx hb dX7_leadsOn_26 ?_))
    refine lv_if_ne (tgt := 61) hx hb dX7_leadsOn_27 (by decide) (fun c1092 => ?_) (fun c1092 => ?_)
    · have hv := hv.1 c1092
      refine lv_iconst (v := 0) hx hb dX7_leadsOn_61 (by decide) ?_
      exact g_retM hx hb hrt hlk hP hS rfl hv dX7_leadsOn_62
    · have hv := hv.2 c1092
      refine lv_iload_n hx hb dX7_leadsOn_30 rfl (lv_at hl 3 rfl) (lv_iload hx hb dX7_leadsOn_31 (lv_at hl 5 rfl) ?_)
      refine lv_icmp_lt (tgt := 61) hx hb dX7_leadsOn_33 (by decide) (fun c1093 => ?_) (fun c1093 => ?_)
      · have hv := hv.1 c1093
        refine lv_iconst (v := 0) hx hb dX7_leadsOn_61 (by decide) ?_
        exact g_retM hx hb hrt hlk hP hS rfl hv dX7_leadsOn_62
      · have hv := hv.2 c1093
        refine lv_aload_n hx hb dX7_leadsOn_36 rfl (lv_at hl 1 rfl) (gg_X7_43 C0 hK hP dX7_leadsOn_37 (lv_iload_n hx hb dX7_leadsOn_40 rfl (lv_at hl 2 rfl) (lv_iload hx hb dX7_leadsOn_41 (lv_at hl 0 rfl) (lv_ior hx hb dX7_leadsOn_43 (lv_iload_n hx hb dX7_leadsOn_44 rfl (lv_at hl 3 rfl) (lv_iload hx hb dX7_leadsOn_45 (lv_at hl 5 rfl) (lv_isub hx hb dX7_leadsOn_47 ?_)))))))
        refine g_iS (g_bS (As := [.int (a1 ||| ((1 : Int32) <<< (((a3 + a4) - (a3 + a4) / (ν 32 15) * (ν 32 15)) &&& 31))), .int (a2 - a4)]) (rest := [.ref (gL E 44)]) C0 hK hP kX7_spot ql_X7_141 (mX7_spot hE hv) rfl hl.1 rfl (Nat.le_of_ble_eq_true rfl) ⟨rfl, rfl, Nat.le_of_ble_eq_true rfl, Nat.le_of_ble_eq_true rfl⟩ dX7_leadsOn_48) hS (fun x1094 H locs hv hP hS => ?_)
        have hi1095 := hv.1
        have hv := hv.2
        refine g_lald hx hb hK hP hi1095 dX7_leadsOn_51 (lv_lconst (v := 0) hx hb dX7_leadsOn_52 (by decide) (W.lcmp hx hb dX7_leadsOn_53 ?_))
        refine lv_if_le (tgt := 61) hx hb dX7_leadsOn_54 (by decide) (fun c1096 => ?_) (fun c1096 => ?_)
        · have hv := hv.1 c1096
          refine lv_iconst (v := 0) hx hb dX7_leadsOn_61 (by decide) ?_
          exact g_retM hx hb hrt hlk hP hS rfl hv dX7_leadsOn_62
        · have hv := hv.2 c1096
          refine lv_iconst (v := 1) hx hb dX7_leadsOn_57 (by decide) (lv_goto (tgt := 62) hx hb dX7_leadsOn_58 (by decide) ?_)
          exact g_retM hx hb hrt hlk hP hS rfl hv dX7_leadsOn_62
set_option maxHeartbeats 4000000 in
set_option maxRecDepth 100000 in
theorem mX7_firstFill {l : Launch} {E : gE} {μ ν : gM} {τ : gJ} {Q : Int64 → gM → gJ → Prop} (hE : gLok E) {a1 : Int32} {a2 : Int32}  (hv : vX7_firstFill a1 a2 ν τ Q) : Met l yX7_firstFill (gws yX7_firstFill cX7_firstFill 7 (some .long)) (gRm 2 47) (gPc E [.ref (gL E 32), .int a1, .int a2] μ ν τ) (gQlM E Q μ) 0 0 (gA E) := by
  refine g_entr (lv := [(0, .ref (gL E 32)), (1, .int a1), (2, .int a2)]) (by decide +kernel) (Nat.le_of_ble_eq_true rfl) rfl (fun p e s m args below meth c ls H locs hx hb hrt hlk C0 hK hP hS hl => ?_)
  have C0 : CallFix p m c cX7_firstFill 7 s args gTB RX7 := C0
  have h_11 : ∀ (n_11 : Nat) (v3 : Int32) (v4 : Int32) (v5 : Int32) (v6 : Int32) (ν : gM) (τ : gJ) (H : Heap) (locs : List Loc) (ls : Array Slot), va_P (gD E) vwCl (wl E μ ν τ) H → va_S (gA E) s.heap H locs → lv_has ls 7 [(0, .ref (gL E 32)), (2, .int a2), (3, .int v3), (4, .int v4), (5, .int v5), (6, .int v6)] → vX7_firstFill_11 a1 a2 Q n_11 v3 v4 v5 v6 ν τ → W p l e (gRm 2 47) s m args below meth c H locs 0 0 (MQ below (gQlM E Q μ) args s 0 0 (gA E)) (F0 m 11 ls []) := by
    intro n_11
    induction n_11 with
    | zero =>
      intro v3 v4 v5 v6 ν τ H locs ls hP hS hl hv
      exact False.elim hv
    | succ n_11 ih_11 =>
      intro v3 v4 v5 v6 ν τ H locs ls hP hS hl hv
      have h_20 : ∀ (n_20 : Nat) (v3 : Int32) (v4 : Int32) (v5 : Int32) (v6 : Int32) (ν : gM) (τ : gJ) (H : Heap) (locs : List Loc) (ls : Array Slot), va_P (gD E) vwCl (wl E μ ν τ) H → va_S (gA E) s.heap H locs → lv_has ls 7 [(0, .ref (gL E 32)), (2, .int a2), (3, .int v3), (4, .int v4), (5, .int v5), (6, .int v6)] → vX7_firstFill_20 a1 a2 Q (vX7_firstFill_11 a1 a2 Q n_11) n_20 v3 v4 v5 v6 ν τ → W p l e (gRm 2 47) s m args below meth c H locs 0 0 (MQ below (gQlM E Q μ) args s 0 0 (gA E)) (F0 m 20 ls []) := by
        intro n_20
        induction n_20 with
        | zero =>
          intro v3 v4 v5 v6 ν τ H locs ls hP hS hl hv
          exact False.elim hv
        | succ n_20 ih_20 =>
          intro v3 v4 v5 v6 ν τ H locs ls hP hS hl hv
          have hv : vX7_firstFill_20B a1 a2 Q (vX7_firstFill_11 a1 a2 Q n_11) (vX7_firstFill_20 a1 a2 Q (vX7_firstFill_11 a1 a2 Q n_11) n_20) v3 v4 v5 v6 ν τ := hv
          unfold vX7_firstFill_20B at hv
          refine lv_aload_n hx hb dX7_firstFill_20 rfl (lv_at hl 0 rfl) (lv_iload_n hx hb dX7_firstFill_21 rfl (lv_at hl 2 rfl) (lv_iload hx hb dX7_firstFill_22 (lv_at hl 3 rfl) (lv_iload hx hb dX7_firstFill_24 (lv_at hl 5 rfl) (lv_iload hx hb dX7_firstFill_26 (lv_at hl 4 rfl) ?_))))
          refine g_iM (g_bV (As := [.int v3, .int v4, .int v6, .int v5]) (rest := []) C0 hK hP kX7_leadsOn ql_X7_176 (mX7_leadsOn hE hv) (by decide) ge_X7 rfl rfl hl.1 rfl (Nat.le_of_ble_eq_true rfl) ⟨rfl, rfl, Nat.le_of_ble_eq_true rfl, Nat.le_of_ble_eq_true rfl⟩ dX7_firstFill_28) hS (fun x1097 ν1098 τ1099 H locs hv hP hS => ?_)
          refine lv_if_ne (tgt := 40) hx hb dX7_firstFill_31 (by decide) (fun c1100 => ?_) (fun c1100 => ?_)
          · have hv := hv.1 c1100
            refine lv_iload_n hx hb dX7_firstFill_40 rfl (lv_at hl 2 rfl) (lv_iconst (v := 1) hx hb dX7_firstFill_41 (by decide) (lv_iload hx hb dX7_firstFill_42 (lv_at hl 5 rfl) (lv_iload hx hb dX7_firstFill_44 (lv_at hl 4 rfl) (lv_iadd hx hb dX7_firstFill_46 (lv_aload_n hx hb dX7_firstFill_47 rfl (lv_at hl 0 rfl) (gg_X7_138 C0 hK hP dX7_firstFill_48 ?_))))))
            have hd := hv.1
            have hv := hv.2
            refine lv_irem hx hb dX7_firstFill_51 hd (lv_ishl hx hb dX7_firstFill_52 (lv_ior hx hb dX7_firstFill_53 (lv_istore_n (lv' := [(3, .int (v3 ||| ((1 : Int32) <<< (((v6 + v5) - (v6 + v5) / (ν1098 32 15) * (ν1098 32 15)) &&& 31)))), (0, .ref (gL E 32)), (2, .int a2), (4, .int v4), (5, .int v5), (6, .int v6)]) hx hb dX7_firstFill_54 rfl hl (by decide) rfl (fun ls hl => (lv_iload hx hb dX7_firstFill_55 (lv_at hl 3 rfl) (lv_iload hx hb dX7_firstFill_57 (lv_at hl 4 rfl) (lv_isub hx hb dX7_firstFill_59 (lv_istore (lv' := [(4, .int (v4 - v5)), (3, .int (v3 ||| ((1 : Int32) <<< (((v6 + v5) - (v6 + v5) / (ν1098 32 15) * (ν1098 32 15)) &&& 31)))), (0, .ref (gL E 32)), (2, .int a2), (5, .int v5), (6, .int v6)]) hx hb dX7_firstFill_60 hl (by decide) rfl (fun ls hl => (lv_iinc (v := (v6 + 1)) (lv' := [(6, .int (v6 + 1)), (4, .int (v4 - v5)), (3, .int (v3 ||| ((1 : Int32) <<< (((v6 + v5) - (v6 + v5) / (ν1098 32 15) * (ν1098 32 15)) &&& 31)))), (0, .ref (gL E 32)), (2, .int a2), (5, .int v5)]) hx hb dX7_firstFill_62 hl (k := 5) rfl rfl (by decide) rfl (fun ls hl => (lv_goto (tgt := 11) hx hb dX7_firstFill_65 (by decide) ?_))))))))))))
            exact ih_11 (v3 ||| ((1 : Int32) <<< (((v6 + v5) - (v6 + v5) / (ν1098 32 15) * (ν1098 32 15)) &&& 31))) (v4 - v5) v5 (v6 + 1) ν1098 τ1099 H locs ls hP hS (lv_sub hl [3, 4, 2, 1, 5, 0] rfl) hv
          · have hv := hv.2 c1100
            refine lv_iinc (v := (v5 + 1)) (lv' := [(5, .int (v5 + 1)), (0, .ref (gL E 32)), (2, .int a2), (3, .int v3), (4, .int v4), (6, .int v6)]) hx hb dX7_firstFill_34 hl (k := 4) rfl rfl (by decide) rfl (fun ls hl => (lv_goto (tgt := 20) hx hb dX7_firstFill_37 (by decide) ?_))
            exact ih_20 v3 v4 (v5 + 1) v6 ν1098 τ1099 H locs ls hP hS (lv_sub hl [1, 2, 3, 4, 0, 5] rfl) hv
      have hv : vX7_firstFill_11B a1 a2 Q (vX7_firstFill_11 a1 a2 Q n_11) v3 v4 v5 v6 ν τ := hv
      unfold vX7_firstFill_11B at hv
      refine lv_iload hx hb dX7_firstFill_11 (lv_at hl 5 rfl) (lv_iload_n hx hb dX7_firstFill_13 rfl (lv_at hl 1 rfl) ?_)
      refine lv_icmp_gt (tgt := 68) hx hb dX7_firstFill_14 (by decide) (fun c1087 => ?_) (fun c1087 => ?_)
      · have hv := hv.1 c1087
        refine lv_iload hx hb dX7_firstFill_68 (lv_at hl 4 rfl) (lv_i2l hx hb dX7_firstFill_70 rfl ?_)
        exact g_lretM hx hb hrt hlk hP hS hv dX7_firstFill_71
      · have hv := hv.2 c1087
        refine lv_iconst (v := 0) hx hb dX7_firstFill_17 (by decide) (lv_istore (lv' := [(5, .int 0), (0, .ref (gL E 32)), (2, .int a2), (3, .int v3), (4, .int v4), (6, .int v6)]) hx hb dX7_firstFill_18 hl (by decide) rfl (fun ls hl => ?_))
        obtain ⟨nf, hv⟩ := hv
        exact h_20 nf v3 v4 0 v6 ν τ H locs ls hP hS (lv_sub hl [1, 2, 3, 4, 0, 5] rfl) hv
  unfold vX7_firstFill at hv
  refine lv_iconst (v := 0) hx hb dX7_firstFill_0 (by decide) (lv_istore_n (lv' := [(3, .int 0), (0, .ref (gL E 32)), (1, .int a1), (2, .int a2)]) hx hb dX7_firstFill_1 rfl hl (by decide) rfl (fun ls hl => (lv_iload_n hx hb dX7_firstFill_2 rfl (lv_at hl 2 rfl) (lv_istore (lv' := [(4, .int a1), (3, .int 0), (0, .ref (gL E 32)), (1, .int a1), (2, .int a2)]) hx hb dX7_firstFill_3 hl (by decide) rfl (fun ls hl => (lv_iconst (v := 0) hx hb dX7_firstFill_5 (by decide) (lv_istore (lv' := [(5, .int 0), (4, .int a1), (3, .int 0), (0, .ref (gL E 32)), (1, .int a1), (2, .int a2)]) hx hb dX7_firstFill_6 hl (by decide) rfl (fun ls hl => (lv_iconst (v := 0) hx hb dX7_firstFill_8 (by decide) (lv_istore (lv' := [(6, .int 0), (5, .int 0), (4, .int a1), (3, .int 0), (0, .ref (gL E 32)), (1, .int a1), (2, .int a2)]) hx hb dX7_firstFill_9 hl (by decide) rfl (fun ls hl => ?_)))))))))))
  obtain ⟨nf, hv⟩ := hv
  exact h_11 nf 0 a1 0 0 ν τ H locs ls hP hS (lv_sub hl [4, 6, 3, 2, 1, 0] rfl) hv
set_option maxHeartbeats 4000000 in
set_option maxRecDepth 100000 in
theorem mX7_filled {l : Launch} {E : gE} {μ ν : gM} {τ : gJ} {Q : Int64 → gM → gJ → Prop} (hE : gLok E) {a1 : Int32} {a2 : Int32} {a3 : Int32} {a4 : Int32} {a5 : Int32} {a6 : Int32}  (hv : vX7_filled a1 a2 a3 a4 a5 a6 ν τ Q) : Met l yX7_filled (gws yX7_filled cX7_filled 10 (some .long)) (gRm 3 73) (gPc E [.ref (gL E 32), .int a1, .int a2, .int a3, .int a4, .int a5, .int a6] μ ν τ) (gQlM E Q μ) 0 0 (gA E) := by
  refine g_entr (lv := [(0, .ref (gL E 32)), (1, .int a1), (2, .int a2), (3, .int a3), (4, .int a4), (5, .int a5), (6, .int a6)]) (by decide +kernel) (Nat.le_of_ble_eq_true rfl) rfl (fun p e s m args below meth c ls H locs hx hb hrt hlk C0 hK hP hS hl => ?_)
  have C0 : CallFix p m c cX7_filled 10 s args gTB RX7 := C0
  have h_190 : ∀ (t0 : Int64) (ν : gM) (τ : gJ) (H : Heap) (locs : List Loc) (ls : Array Slot), va_P (gD E) vwCl (wl E μ ν τ) H → va_S (gA E) s.heap H locs → lv_has ls 10 [(0, .ref (gL E 32)), (4, .int a4), (5, .int a5), (6, .int a6)] → vX7_filled_190 a1 a2 a3 a4 a5 a6 Q t0 ν τ → W p l e (gRm 3 73) s m args below meth c H locs 0 0 (MQ below (gQlM E Q μ) args s 0 0 (gA E)) (F0 m 190 ls [.long t0]) := by
    intro t0 ν τ H locs ls hP hS hl hv
    unfold vX7_filled_190 at hv
    refine lv_lstore (lv' := [(8, .long t0), (0, .ref (gL E 32)), (4, .int a4), (5, .int a5), (6, .int a6)]) hx hb dX7_filled_190 hl (by decide) rfl (fun ls hl => (lv_iload hx hb dX7_filled_192 (lv_at hl 4 rfl) (lv_iconst (v := (-1)) hx hb dX7_filled_194 (by decide) ?_)))
    refine lv_icmp_ne (tgt := 203) hx hb dX7_filled_195 (by decide) (fun c1085 => ?_) (fun c1085 => ?_)
    · have hv := hv.1 c1085
      refine lv_lload hx hb dX7_filled_203 (lv_at hl 0 rfl) (lv_lconst (v := 0) hx hb dX7_filled_205 (by decide) (W.lcmp hx hb dX7_filled_206 ?_))
      refine lv_if_ne (tgt := 216) hx hb dX7_filled_207 (by decide) (fun c1086 => ?_) (fun c1086 => ?_)
      · have hv := hv.1 c1086
        refine lv_aload_n hx hb dX7_filled_216 rfl (lv_at hl 1 rfl) (lv_iload hx hb dX7_filled_217 (lv_at hl 2 rfl) (lv_iload hx hb dX7_filled_219 (lv_at hl 3 rfl) (lv_imul hx hb dX7_filled_221 (lv_iload hx hb dX7_filled_222 (lv_at hl 4 rfl) ?_))))
        refine g_lM (g_bV (As := [.int (a4 * a5), .int a6]) (rest := []) C0 hK hP kX7_firstFill ql_X7_172 (mX7_firstFill hE hv) (by decide) ge_X7 rfl rfl hl.1 rfl (Nat.le_of_ble_eq_true rfl) ⟨rfl, rfl, Nat.le_of_ble_eq_true rfl, Nat.le_of_ble_eq_true rfl⟩ dX7_filled_224) hS (fun x1101 ν1102 τ1103 H locs hv hP hS => ?_)
        exact g_lretM hx hb hrt hlk hP hS hv dX7_filled_227
      · have hv := hv.2 c1086
        refine lv_ldc2 (v := -9223372036854775808) hx hb C0.2.2.2.1 (C0.2.2.2.2 _ (gTB_at 837 rfl rfl)) dX7_filled_210 (lv_goto (tgt := 227) hx hb dX7_filled_213 (by decide) ?_)
        exact g_lretM hx hb hrt hlk hP hS hv dX7_filled_227
    · have hv := hv.2 c1085
      refine lv_lload hx hb dX7_filled_198 (lv_at hl 0 rfl) (lv_goto (tgt := 227) hx hb dX7_filled_200 (by decide) ?_)
      exact g_lretM hx hb hrt hlk hP hS hv dX7_filled_227
  have h_75 : ∀ (n_75 : Nat) (v8 : Int32) (ν : gM) (τ : gJ) (H : Heap) (locs : List Loc) (ls : Array Slot), va_P (gD E) vwCl (wl E μ ν τ) H → va_S (gA E) s.heap H locs → lv_has ls 10 [(0, .ref (gL E 32)), (1, .int a1), (3, .int a3), (4, .int a4), (5, .int a5), (6, .int a6), (8, .int v8)] → vX7_filled_75 a1 a2 a3 a4 a5 a6 Q n_75 v8 ν τ → W p l e (gRm 3 73) s m args below meth c H locs 0 0 (MQ below (gQlM E Q μ) args s 0 0 (gA E)) (F0 m 75 ls []) := by
    intro n_75
    induction n_75 with
    | zero =>
      intro v8 ν τ H locs ls hP hS hl hv
      exact False.elim hv
    | succ n_75 ih_75 =>
      intro v8 ν τ H locs ls hP hS hl hv
      have hv : vX7_filled_75B a1 a2 a3 a4 a5 a6 Q (vX7_filled_75 a1 a2 a3 a4 a5 a6 Q n_75) v8 ν τ := hv
      unfold vX7_filled_75B at hv
      refine lv_iload hx hb dX7_filled_75 (lv_at hl 6 rfl) (lv_iload hx hb dX7_filled_77 (lv_at hl 3 rfl) ?_)
      refine lv_icmp_ge (tgt := 129) hx hb dX7_filled_79 (by decide) (fun c1071 => ?_) (fun c1071 => ?_)
      · have hv := hv.1 c1071
        refine lv_iload hx hb dX7_filled_129 (lv_at hl 5 rfl) (lv_iconst (v := (-1)) hx hb dX7_filled_131 (by decide) (lv_iload hx hb dX7_filled_132 (lv_at hl 3 rfl) (lv_iconst (v := 1) hx hb dX7_filled_134 (by decide) (lv_isub hx hb dX7_filled_135 ?_))))
        refine g_iS (g_bS (As := [.int a6, .int (-1), .int (a4 - 1)]) (rest := []) C0 hK hP kX7_within ql_X7_56 (mX7_within hE hv) rfl hl.1 rfl (Nat.le_of_ble_eq_true rfl) ⟨rfl, rfl, Nat.le_of_ble_eq_true rfl, Nat.le_of_ble_eq_true rfl⟩ dX7_filled_136) hS (fun x1072 H locs hv hP hS => ?_)
        refine lv_if_ne (tgt := 146) hx hb dX7_filled_139 (by decide) (fun c1073 => ?_) (fun c1073 => ?_)
        · have hv := hv.1 c1073
          refine lv_aload_n hx hb dX7_filled_146 rfl (lv_at hl 0 rfl) (lv_iload hx hb dX7_filled_147 (lv_at hl 3 rfl) (gp_X7_138 hE C0 hK hP hS dX7_filled_149 (fun H locs hP hS => (lv_aload_n hx hb dX7_filled_152 rfl (lv_at hl 0 rfl) (lv_bipush (v := 9) hx hb dX7_filled_153 (by decide) (gp_X7_135 hE C0 hK hP hS dX7_filled_155 (fun H locs hP hS => (lv_aload_n hx hb dX7_filled_158 rfl (lv_at hl 0 rfl) ?_))))))))
          refine g_vM (g_bV (As := []) (rest := []) C0 hK hP kX7_layFills ql_X7_152 (mX7_layFills hE hv) (by decide) ge_X7 rfl rfl hl.1 rfl (Nat.le_of_ble_eq_true rfl) ⟨rfl, rfl, Nat.le_of_ble_eq_true rfl, Nat.le_of_ble_eq_true rfl⟩ dX7_filled_159) hS (fun ν1075 τ1076 H locs hv hP hS => ?_)
          refine lv_iload hx hb dX7_filled_162 (lv_at hl 3 rfl) (lv_iload hx hb dX7_filled_164 (lv_at hl 4 rfl) (lv_imul hx hb dX7_filled_166 (lv_bipush (v := 80) hx hb dX7_filled_167 (by decide) ?_)))
          refine lv_icmp_le (tgt := 176) hx hb dX7_filled_169 (by decide) (fun c1077 => ?_) (fun c1077 => ?_)
          · have hv := hv.1 c1077
            refine lv_aload_n hx hb dX7_filled_176 rfl (lv_at hl 0 rfl) (gg_X7_43 C0 hK hP dX7_filled_177 (lv_iconst (v := 0) hx hb dX7_filled_180 (by decide) (lv_iload hx hb dX7_filled_181 (lv_at hl 3 rfl) (lv_iload hx hb dX7_filled_183 (lv_at hl 4 rfl) (lv_imul hx hb dX7_filled_185 ?_)))))
            refine g_iS (g_bS (As := [.int 0, .int (a4 * a5)]) (rest := [.ref (gL E 44)]) C0 hK hP kX7_spot ql_X7_141 (mX7_spot hE hv) rfl hl.1 rfl (Nat.le_of_ble_eq_true rfl) ⟨rfl, rfl, Nat.le_of_ble_eq_true rfl, Nat.le_of_ble_eq_true rfl⟩ dX7_filled_186) hS (fun x1078 H locs hv hP hS => ?_)
            have hi1079 := hv.1
            have hv := hv.2
            refine g_lald hx hb hK hP hi1079 dX7_filled_189 ?_
            exact h_190 (τ1076 x1078.toNatClampNeg) ν1075 τ1076 H locs ls hP hS (lv_sub hl [0, 3, 4, 5] rfl) hv
          · have hv := hv.2 c1077
            refine lv_lconst (v := 0) hx hb dX7_filled_172 (by decide) (lv_goto (tgt := 190) hx hb dX7_filled_173 (by decide) ?_)
            exact h_190 (0 : Int64) ν1075 τ1076 H locs ls hP hS (lv_sub hl [0, 3, 4, 5] rfl) hv
        · have hv := hv.2 c1073
          refine lv_ldc2 (v := -9223372036854775808) hx hb C0.2.2.2.1 (C0.2.2.2.2 _ (gTB_at 837 rfl rfl)) dX7_filled_142 ?_
          exact g_lretM hx hb hrt hlk hP hS hv dX7_filled_145
      · have hv := hv.2 c1071
        refine lv_aload_n hx hb dX7_filled_82 rfl (lv_at hl 0 rfl) (gg_X7_40 C0 hK hP dX7_filled_83 (lv_iload hx hb dX7_filled_86 (lv_at hl 6 rfl) (lv_aload_n hx hb dX7_filled_88 rfl (lv_at hl 0 rfl) (gg_X7_16 C0 hK hP dX7_filled_89 (lv_bipush (v := 40) hx hb dX7_filled_92 (by decide) (lv_iload_n hx hb dX7_filled_94 rfl (lv_at hl 1 rfl) (lv_imul hx hb dX7_filled_95 (lv_iload_n hx hb dX7_filled_96 rfl (lv_at hl 2 rfl) (lv_iadd hx hb dX7_filled_97 ?_)))))))))
        refine lv_iload hx hb dX7_filled_98 (lv_at hl 6 rfl) (lv_iadd hx hb dX7_filled_100 ?_)
        have hi1080 := hv.1
        have hv := hv.2
        refine g_iald hx hb hK hP (by decide) ga_35 hi1080 dX7_filled_101 ?_
        have hi1081 := hv.1
        have hv := hv.2
        refine g_iastM hE hx hb hK hP hS (by decide) (fun _ => ga_43) hi1081 dX7_filled_102 (fun H locs hP hS => (lv_aload_n hx hb dX7_filled_103 rfl (lv_at hl 0 rfl) (gg_X7_40 C0 hK hP dX7_filled_104 (lv_iload hx hb dX7_filled_107 (lv_at hl 6 rfl) ?_))))
        have hi1082 := hv.1
        have hv := hv.2
        refine g_iald hx hb hK hP (by decide) ga_43 hi1082 dX7_filled_109 (lv_iconst (v := (-1)) hx hb dX7_filled_110 (by decide) (lv_bipush (v := 9) hx hb dX7_filled_111 (by decide) ?_))
        refine g_iS (g_bS (As := [.int ((up2 ν 43 v8.toNatClampNeg (ν 35 (((40 * a1) + a3) + v8).toNatClampNeg)) 43 v8.toNatClampNeg), .int (-1), .int 9]) (rest := []) C0 hK hP kX7_within ql_X7_56 (mX7_within hE hv) rfl hl.1 rfl (Nat.le_of_ble_eq_true rfl) ⟨rfl, rfl, Nat.le_of_ble_eq_true rfl, Nat.le_of_ble_eq_true rfl⟩ dX7_filled_113) hS (fun x1083 H locs hv hP hS => ?_)
        refine lv_if_ne (tgt := 123) hx hb dX7_filled_116 (by decide) (fun c1084 => ?_) (fun c1084 => ?_)
        · have hv := hv.1 c1084
          refine lv_iinc (v := (v8 + 1)) (lv' := [(8, .int (v8 + 1)), (0, .ref (gL E 32)), (1, .int a1), (3, .int a3), (4, .int a4), (5, .int a5), (6, .int a6)]) hx hb dX7_filled_123 hl (k := 6) rfl rfl (by decide) rfl (fun ls hl => (lv_goto (tgt := 75) hx hb dX7_filled_126 (by decide) ?_))
          exact ih_75 (v8 + 1) (up2 ν 43 v8.toNatClampNeg (ν 35 (((40 * a1) + a3) + v8).toNatClampNeg)) τ H locs ls hP hS (lv_sub hl [1, 2, 3, 4, 5, 6, 0] rfl) hv
        · have hv := hv.2 c1084
          refine lv_ldc2 (v := -9223372036854775808) hx hb C0.2.2.2.1 (C0.2.2.2.2 _ (gTB_at 837 rfl rfl)) dX7_filled_119 ?_
          exact g_lretM hx hb hrt hlk hP hS hv dX7_filled_122
  unfold vX7_filled at hv
  refine lv_aload_n hx hb dX7_filled_0 rfl (lv_at hl 0 rfl) (lv_iconst (v := 0) hx hb dX7_filled_1 (by decide) (gp_X7_50 hE C0 hK hP hS dX7_filled_2 (fun H locs hP hS => (lv_iload_n hx hb dX7_filled_5 rfl (lv_at hl 1 rfl) ?_))))
  refine g_iS (g_bS (As := [.int a1]) (rest := []) C0 hK hP kX7_isSheet ql_X7_63 (mX7_isSheet hE hv) rfl hl.1 rfl (Nat.le_of_ble_eq_true rfl) ⟨rfl, rfl, Nat.le_of_ble_eq_true rfl, Nat.le_of_ble_eq_true rfl⟩ dX7_filled_6) hS (fun x1056 H locs hv hP hS => ?_)
  refine lv_if_eq (tgt := 30) hx hb dX7_filled_9 (by decide) (fun c1057 => ?_) (fun c1057 => ?_)
  · have hv := hv.1 c1057
    refine lv_ldc2 (v := -9223372036854775808) hx hb C0.2.2.2.1 (C0.2.2.2.2 _ (gTB_at 837 rfl rfl)) dX7_filled_30 ?_
    exact g_lretM hx hb hrt hlk hP hS hv dX7_filled_33
  · have hv := hv.2 c1057
    refine lv_iload_n hx hb dX7_filled_12 rfl (lv_at hl 2 rfl) ?_
    refine g_iS (g_bS (As := [.int a2]) (rest := []) C0 hK hP kX7_isSort ql_X7_67 (mX7_isSort hE hv) rfl hl.1 rfl (Nat.le_of_ble_eq_true rfl) ⟨rfl, rfl, Nat.le_of_ble_eq_true rfl, Nat.le_of_ble_eq_true rfl⟩ dX7_filled_13) hS (fun x1058 H locs hv hP hS => ?_)
    refine lv_if_eq (tgt := 30) hx hb dX7_filled_16 (by decide) (fun c1059 => ?_) (fun c1059 => ?_)
    · have hv := hv.1 c1059
      refine lv_ldc2 (v := -9223372036854775808) hx hb C0.2.2.2.1 (C0.2.2.2.2 _ (gTB_at 837 rfl rfl)) dX7_filled_30 ?_
      exact g_lretM hx hb hrt hlk hP hS hv dX7_filled_33
    · have hv := hv.2 c1059
      refine lv_iload hx hb dX7_filled_19 (lv_at hl 5 rfl) (lv_iconst (v := 0) hx hb dX7_filled_21 (by decide) (lv_bipush (v := 9) hx hb dX7_filled_22 (by decide) ?_))
      refine g_iS (g_bS (As := [.int a5, .int 0, .int 9]) (rest := []) C0 hK hP kX7_within ql_X7_56 (mX7_within hE hv) rfl hl.1 rfl (Nat.le_of_ble_eq_true rfl) ⟨rfl, rfl, Nat.le_of_ble_eq_true rfl, Nat.le_of_ble_eq_true rfl⟩ dX7_filled_24) hS (fun x1060 H locs hv hP hS => ?_)
      refine lv_if_ne (tgt := 34) hx hb dX7_filled_27 (by decide) (fun c1061 => ?_) (fun c1061 => ?_)
      · have hv := hv.1 c1061
        refine lv_aload_n hx hb dX7_filled_34 rfl (lv_at hl 0 rfl) (lv_iload_n hx hb dX7_filled_35 rfl (lv_at hl 1 rfl) (lv_iload_n hx hb dX7_filled_36 rfl (lv_at hl 2 rfl) (lv_iload_n hx hb dX7_filled_37 rfl (lv_at hl 3 rfl) (lv_iload hx hb dX7_filled_38 (lv_at hl 4 rfl) ?_))))
        refine g_iM (g_bV (As := [.int a1, .int a2, .int a3, .int a4]) (rest := []) C0 hK hP kX7_against ql_X7_70 (mX7_against hE hv) (by decide) ge_X7 rfl rfl hl.1 rfl (Nat.le_of_ble_eq_true rfl) ⟨rfl, rfl, Nat.le_of_ble_eq_true rfl, Nat.le_of_ble_eq_true rfl⟩ dX7_filled_40) hS (fun x1062 ν1063 τ1064 H locs hv hP hS => ?_)
        refine lv_istore (lv' := [(7, .int x1062), (0, .ref (gL E 32)), (1, .int a1), (2, .int a2), (3, .int a3), (4, .int a4), (5, .int a5), (6, .int a6)]) hx hb dX7_filled_43 hl (by decide) rfl (fun ls hl => (lv_iload hx hb dX7_filled_45 (lv_at hl 0 rfl) ?_))
        refine lv_if_eq (tgt := 57) hx hb dX7_filled_47 (by decide) (fun c1065 => ?_) (fun c1065 => ?_)
        · have hv := hv.1 c1065
          refine lv_iload hx hb dX7_filled_57 (lv_at hl 5 rfl) (lv_iconst (v := 1) hx hb dX7_filled_59 (by decide) (lv_bipush (v := 8) hx hb dX7_filled_60 (by decide) ?_))
          refine g_iS (g_bS (As := [.int a4, .int 1, .int 8]) (rest := []) C0 hK hP kX7_within ql_X7_56 (mX7_within hE hv) rfl hl.1 rfl (Nat.le_of_ble_eq_true rfl) ⟨rfl, rfl, Nat.le_of_ble_eq_true rfl, Nat.le_of_ble_eq_true rfl⟩ dX7_filled_62) hS (fun x1066 H locs hv hP hS => ?_)
          refine lv_if_ne (tgt := 72) hx hb dX7_filled_65 (by decide) (fun c1067 => ?_) (fun c1067 => ?_)
          · have hv := hv.1 c1067
            refine lv_iconst (v := 0) hx hb dX7_filled_72 (by decide) (lv_istore (lv' := [(8, .int 0), (7, .int x1062), (0, .ref (gL E 32)), (1, .int a1), (2, .int a2), (3, .int a3), (4, .int a4), (5, .int a5), (6, .int a6)]) hx hb dX7_filled_73 hl (by decide) rfl (fun ls hl => ?_))
            obtain ⟨nf, hv⟩ := hv
            exact h_75 nf 0 ν1063 τ1064 H locs ls hP hS (lv_sub hl [2, 3, 5, 6, 7, 8, 0] rfl) hv
          · have hv := hv.2 c1067
            refine lv_ldc2 (v := -9223372036854775808) hx hb C0.2.2.2.1 (C0.2.2.2.2 _ (gTB_at 837 rfl rfl)) dX7_filled_68 ?_
            exact g_lretM hx hb hrt hlk hP hS hv dX7_filled_71
        · have hv := hv.2 c1065
          refine lv_aload_n hx hb dX7_filled_50 rfl (lv_at hl 1 rfl) (lv_iload hx hb dX7_filled_51 (lv_at hl 0 rfl) ?_)
          refine g_lM (g_bV (As := [.int x1062]) (rest := []) C0 hK hP kX7_lost ql_X7_168 (mX7_lost hE hv) (by decide) ge_X7 rfl rfl hl.1 rfl (Nat.le_of_ble_eq_true rfl) ⟨rfl, rfl, Nat.le_of_ble_eq_true rfl, Nat.le_of_ble_eq_true rfl⟩ dX7_filled_53) hS (fun x1068 ν1069 τ1070 H locs hv hP hS => ?_)
          exact g_lretM hx hb hrt hlk hP hS hv dX7_filled_56
      · have hv := hv.2 c1061
        refine lv_ldc2 (v := -9223372036854775808) hx hb C0.2.2.2.1 (C0.2.2.2.2 _ (gTB_at 837 rfl rfl)) dX7_filled_30 ?_
        exact g_lretM hx hb hrt hlk hP hS hv dX7_filled_33
set_option maxHeartbeats 4000000 in
set_option maxRecDepth 100000 in
theorem mX7_isBall {l : Launch} {E : gE} {μ ν : gM} {τ : gJ} {Q : Int32 → Prop} (hE : gLok E) {a0 : Int32}  (hv : vX7_isBall a0 Q) : Met l yX7_isBall (gws yX7_isBall cX7_isBall 1 (some .boolean)) (gRm 1 22) (gPc E [.int a0] μ ν τ) (gQiS E Q μ ν τ) 0 0 (gA E) := by
  refine g_entr (lv := [(0, .int a0)]) (by decide +kernel) (Nat.le_of_ble_eq_true rfl) rfl (fun p e s m args below meth c ls H locs hx hb hrt hlk C0 hK hP hS hl => ?_)
  have C0 : CallFix p m c cX7_isBall 1 s args gTB RX7 := C0
  unfold vX7_isBall at hv
  refine lv_iload_n hx hb dX7_isBall_0 rfl (lv_at hl 0 rfl) (lv_iconst (v := 0) hx hb dX7_isBall_1 (by decide) (lv_bipush (v := 9) hx hb dX7_isBall_2 (by decide) ?_))
  refine g_iS (g_bS (As := [.int a0, .int 0, .int 9]) (rest := []) C0 hK hP kX7_within ql_X7_56 (mX7_within hE hv) rfl hl.1 rfl (Nat.le_of_ble_eq_true rfl) ⟨rfl, rfl, Nat.le_of_ble_eq_true rfl, Nat.le_of_ble_eq_true rfl⟩ dX7_isBall_4) hS (fun x1104 H locs hv hP hS => ?_)
  exact g_retS hx hb hrt hlk hP hS hv.1 hv.2 dX7_isBall_7
set_option maxHeartbeats 4000000 in
set_option maxRecDepth 100000 in
theorem mX7_kind {l : Launch} {E : gE} {μ ν : gM} {τ : gJ} {Q : Int32 → gM → gJ → Prop} (hE : gLok E) {a1 : Int32} {a2 : Int32}  (hv : vX7_kind a1 a2 ν τ Q) : Met l yX7_kind (gws yX7_kind cX7_kind 4 (some .int)) (gRm 2 42) (gPc E [.ref (gL E 32), .int a1, .int a2] μ ν τ) (gQiM E Q μ) 0 0 (gA E) := by
  refine g_entr (lv := [(0, .ref (gL E 32)), (1, .int a1), (2, .int a2)]) (by decide +kernel) (Nat.le_of_ble_eq_true rfl) rfl (fun p e s m args below meth c ls H locs hx hb hrt hlk C0 hK hP hS hl => ?_)
  have C0 : CallFix p m c cX7_kind 4 s args gTB RX7 := C0
  unfold vX7_kind at hv
  refine lv_iload_n hx hb dX7_kind_0 rfl (lv_at hl 1 rfl) ?_
  refine g_iS (g_bS (As := [.int a1]) (rest := []) C0 hK hP kX7_isBall ql_X7_180 (mX7_isBall hE hv) rfl hl.1 rfl (Nat.le_of_ble_eq_true rfl) ⟨rfl, rfl, Nat.le_of_ble_eq_true rfl, Nat.le_of_ble_eq_true rfl⟩ dX7_kind_1) hS (fun x1105 H locs hv hP hS => ?_)
  refine lv_if_ne (tgt := 9) hx hb dX7_kind_4 (by decide) (fun c1106 => ?_) (fun c1106 => ?_)
  · have hv := hv.1 c1106
    refine lv_iload_n hx hb dX7_kind_9 rfl (lv_at hl 2 rfl) (lv_iconst (v := 0) hx hb dX7_kind_10 (by decide) (lv_iconst (v := 2) hx hb dX7_kind_11 (by decide) ?_))
    refine g_iS (g_bS (As := [.int a2, .int 0, .int 2]) (rest := []) C0 hK hP kX7_within ql_X7_56 (mX7_within hE hv) rfl hl.1 rfl (Nat.le_of_ble_eq_true rfl) ⟨rfl, rfl, Nat.le_of_ble_eq_true rfl, Nat.le_of_ble_eq_true rfl⟩ dX7_kind_12) hS (fun x1107 H locs hv hP hS => ?_)
    refine lv_if_ne (tgt := 21) hx hb dX7_kind_15 (by decide) (fun c1108 => ?_) (fun c1108 => ?_)
    · have hv := hv.1 c1108
      refine lv_aload_n hx hb dX7_kind_21 rfl (lv_at hl 0 rfl) (gg_X7_22 C0 hK hP dX7_kind_22 (lv_iload_n hx hb dX7_kind_25 rfl (lv_at hl 1 rfl) ?_))
      have hi1109 := hv.1
      have hv := hv.2
      refine g_iald hx hb hK hP (by decide) ga_37 hi1109 dX7_kind_26 (lv_istore_n (lv' := [(3, .int (ν 37 a1.toNatClampNeg)), (0, .ref (gL E 32)), (1, .int a1), (2, .int a2)]) hx hb dX7_kind_27 rfl hl (by decide) rfl (fun ls hl => (lv_aload_n hx hb dX7_kind_28 rfl (lv_at hl 1 rfl) (gg_X7_22 C0 hK hP dX7_kind_29 (lv_iload_n hx hb dX7_kind_32 rfl (lv_at hl 2 rfl) (lv_iload_n hx hb dX7_kind_33 rfl (lv_at hl 3 rfl) ?_))))))
      have hi1110 := hv.1
      have hv := hv.2
      refine g_iastM hE hx hb hK hP hS (by decide) (fun _ => ga_37) hi1110 dX7_kind_34 (fun H locs hP hS => (lv_iload_n hx hb dX7_kind_35 rfl (lv_at hl 0 rfl) ?_))
      exact g_retM hx hb hrt hlk hP hS rfl hv dX7_kind_36
    · have hv := hv.2 c1108
      refine lv_bipush (v := (-2)) hx hb dX7_kind_18 (by decide) ?_
      exact g_retM hx hb hrt hlk hP hS rfl hv dX7_kind_20
  · have hv := hv.2 c1106
    refine lv_iconst (v := (-1)) hx hb dX7_kind_7 (by decide) ?_
    exact g_retM hx hb hrt hlk hP hS rfl hv dX7_kind_8
set_option maxHeartbeats 4000000 in
set_option maxRecDepth 100000 in
theorem mX7_mayGoTo {l : Launch} {E : gE} {μ ν : gM} {τ : gJ} {Q : Int32 → gM → gJ → Prop} (hE : gLok E) {a1 : Int32}  (hv : vX7_mayGoTo a1 ν τ Q) : Met l yX7_mayGoTo (gws yX7_mayGoTo cX7_mayGoTo 2 (some .int)) (gRm 0 0) (gPc E [.ref (gL E 32), .int a1] μ ν τ) (gQiM E Q μ) 0 0 (gA E) := by
  refine g_entr (lv := [(0, .ref (gL E 32)), (1, .int a1)]) (by decide +kernel) (Nat.le_of_ble_eq_true rfl) rfl (fun p e s m args below meth c ls H locs hx hb hrt hlk C0 hK hP hS hl => ?_)
  have C0 : CallFix p m c cX7_mayGoTo 2 s args gTB RX7 := C0
  unfold vX7_mayGoTo at hv
  refine lv_aload_n hx hb dX7_mayGoTo_0 rfl (lv_at hl 0 rfl) (gg_X7_22 C0 hK hP dX7_mayGoTo_1 (lv_iload_n hx hb dX7_mayGoTo_4 rfl (lv_at hl 1 rfl) ?_))
  have hi1111 := hv.1
  have hv := hv.2
  refine g_iald hx hb hK hP (by decide) ga_37 hi1111 dX7_mayGoTo_5 ?_
  refine lv_if_ne (tgt := 14) hx hb dX7_mayGoTo_6 (by decide) (fun c1112 => ?_) (fun c1112 => ?_)
  · have hv := hv.1 c1112
    refine lv_aload_n hx hb dX7_mayGoTo_14 rfl (lv_at hl 0 rfl) (gg_X7_22 C0 hK hP dX7_mayGoTo_15 (lv_iload_n hx hb dX7_mayGoTo_18 rfl (lv_at hl 1 rfl) ?_))
    have hi1113 := hv.1
    have hv := hv.2
    refine g_iald hx hb hK hP (by decide) ga_37 hi1113 dX7_mayGoTo_19 (lv_iconst (v := 1) hx hb dX7_mayGoTo_20 (by decide) ?_)
    refine lv_icmp_ne (tgt := 29) hx hb dX7_mayGoTo_21 (by decide) (fun c1114 => ?_) (fun c1114 => ?_)
    · have hv := hv.1 c1114
      refine lv_iconst (v := 4) hx hb dX7_mayGoTo_29 (by decide) ?_
      exact g_retM hx hb hrt hlk hP hS rfl hv dX7_mayGoTo_30
    · have hv := hv.2 c1114
      refine lv_bipush (v := 6) hx hb dX7_mayGoTo_24 (by decide) (lv_goto (tgt := 30) hx hb dX7_mayGoTo_26 (by decide) ?_)
      exact g_retM hx hb hrt hlk hP hS rfl hv dX7_mayGoTo_30
  · have hv := hv.2 c1112
    refine lv_bipush (v := 9) hx hb dX7_mayGoTo_9 (by decide) (lv_goto (tgt := 30) hx hb dX7_mayGoTo_11 (by decide) ?_)
    exact g_retM hx hb hrt hlk hP hS rfl hv dX7_mayGoTo_30
set_option maxHeartbeats 4000000 in
set_option maxRecDepth 100000 in
theorem mX7_broken {l : Launch} {E : gE} {μ ν : gM} {τ : gJ} {Q : Int32 → gM → gJ → Prop} (hE : gLok E)   (hv : vX7_broken ν τ Q) : Met l yX7_broken (gws yX7_broken cX7_broken 3 (some .int)) (gRm 3 63) (gPc E [.ref (gL E 32)] μ ν τ) (gQiM E Q μ) 0 0 (gA E) := by
  refine g_entr (lv := [(0, .ref (gL E 32))]) (by decide +kernel) (Nat.le_of_ble_eq_true rfl) rfl (fun p e s m args below meth c ls H locs hx hb hrt hlk C0 hK hP hS hl => ?_)
  have C0 : CallFix p m c cX7_broken 3 s args gTB RX7 := C0
  have h_18 : ∀ (n_18 : Nat) (v1 : Int32) (v2 : Int32) (ν : gM) (τ : gJ) (H : Heap) (locs : List Loc) (ls : Array Slot), va_P (gD E) vwCl (wl E μ ν τ) H → va_S (gA E) s.heap H locs → lv_has ls 3 [(0, .ref (gL E 32)), (1, .int v1), (2, .int v2)] → vX7_broken_18 Q n_18 v1 v2 ν τ → W p l e (gRm 3 63) s m args below meth c H locs 0 0 (MQ below (gQiM E Q μ) args s 0 0 (gA E)) (F0 m 18 ls []) := by
    intro n_18
    induction n_18 with
    | zero =>
      intro v1 v2 ν τ H locs ls hP hS hl hv
      exact False.elim hv
    | succ n_18 ih_18 =>
      intro v1 v2 ν τ H locs ls hP hS hl hv
      have hv : vX7_broken_18B Q (vX7_broken_18 Q n_18) v1 v2 ν τ := hv
      unfold vX7_broken_18B at hv
      refine lv_iload_n hx hb dX7_broken_18 rfl (lv_at hl 2 rfl) (lv_sipush (v := 999) hx hb dX7_broken_19 (by decide) ?_)
      refine lv_icmp_gt (tgt := 81) hx hb dX7_broken_22 (by decide) (fun c1122 => ?_) (fun c1122 => ?_)
      · have hv := hv.1 c1122
        refine lv_iload_n hx hb dX7_broken_81 rfl (lv_at hl 1 rfl) ?_
        exact g_retM hx hb hrt hlk hP hS rfl hv dX7_broken_82
      · have hv := hv.2 c1122
        refine lv_iload_n hx hb dX7_broken_25 rfl (lv_at hl 1 rfl) (lv_aload_n hx hb dX7_broken_26 rfl (lv_at hl 0 rfl) (gg_X7_28 C0 hK hP dX7_broken_27 (lv_iload_n hx hb dX7_broken_30 rfl (lv_at hl 2 rfl) ?_)))
        have hi1123 := hv.1
        have hv := hv.2
        refine g_iald hx hb hK hP (by decide) ga_39 hi1123 dX7_broken_31 (lv_bipush (v := (-9)) hx hb dX7_broken_32 (by decide) ?_)
        refine lv_icmp_eq (tgt := 72) hx hb dX7_broken_34 (by decide) (fun c1124 => ?_) (fun c1124 => ?_)
        · have hv := hv.1 c1124
          refine lv_iconst (v := 0) hx hb dX7_broken_72 (by decide) (lv_ior hx hb dX7_broken_73 (lv_istore_n (lv' := [(1, .int (v1 ||| 0)), (0, .ref (gL E 32)), (2, .int v2)]) hx hb dX7_broken_74 rfl hl (by decide) rfl (fun ls hl => (lv_iinc (v := (v2 + 1)) (lv' := [(2, .int (v2 + 1)), (1, .int (v1 ||| 0)), (0, .ref (gL E 32))]) hx hb dX7_broken_75 hl (k := 2) rfl rfl (by decide) rfl (fun ls hl => (lv_goto (tgt := 18) hx hb dX7_broken_78 (by decide) ?_))))))
          exact ih_18 (v1 ||| 0) (v2 + 1) ν τ H locs ls hP hS (lv_sub hl [2, 1, 0] rfl) hv
        · have hv := hv.2 c1124
          refine lv_aload_n hx hb dX7_broken_37 rfl (lv_at hl 0 rfl) (gg_X7_19 C0 hK hP dX7_broken_38 (lv_iload_n hx hb dX7_broken_41 rfl (lv_at hl 2 rfl) (lv_aload_n hx hb dX7_broken_42 rfl (lv_at hl 0 rfl) (gg_X7_60 C0 hK hP dX7_broken_43 ?_))))
          have hd := hv.1
          have hv := hv.2
          refine lv_irem hx hb dX7_broken_46 hd ?_
          have hi1125 := hv.1
          have hv := hv.2
          refine g_iald hx hb hK hP (by decide) ga_36 hi1125 dX7_broken_47 (lv_aload_n hx hb dX7_broken_48 rfl (lv_at hl 0 rfl) (lv_aload_n hx hb dX7_broken_49 rfl (lv_at hl 0 rfl) (gg_X7_28 C0 hK hP dX7_broken_50 (lv_iload_n hx hb dX7_broken_53 rfl (lv_at hl 2 rfl) ?_))))
          have hi1126 := hv.1
          have hv := hv.2
          refine g_iald hx hb hK hP (by decide) ga_39 hi1126 dX7_broken_54 ?_
          refine g_iM (g_bV (As := [.int (ν 39 v2.toNatClampNeg)]) (rest := [.int (ν 36 (v2 - v2 / (ν 32 5) * (ν 32 5)).toNatClampNeg), .int v1]) C0 hK hP kX7_mayGoTo ql_X7_183 (mX7_mayGoTo hE hv) (by decide) ge_X7 rfl rfl hl.1 rfl (Nat.le_of_ble_eq_true rfl) ⟨rfl, rfl, Nat.le_of_ble_eq_true rfl, Nat.le_of_ble_eq_true rfl⟩ dX7_broken_55) hS (fun x1127 ν1128 τ1129 H locs hv hP hS => ?_)
          refine lv_icmp_le (tgt := 72) hx hb dX7_broken_58 (by decide) (fun c1130 => ?_) (fun c1130 => ?_)
          · have hv := hv.1 c1130
            refine lv_iconst (v := 0) hx hb dX7_broken_72 (by decide) (lv_ior hx hb dX7_broken_73 (lv_istore_n (lv' := [(1, .int (v1 ||| 0)), (0, .ref (gL E 32)), (2, .int v2)]) hx hb dX7_broken_74 rfl hl (by decide) rfl (fun ls hl => (lv_iinc (v := (v2 + 1)) (lv' := [(2, .int (v2 + 1)), (1, .int (v1 ||| 0)), (0, .ref (gL E 32))]) hx hb dX7_broken_75 hl (k := 2) rfl rfl (by decide) rfl (fun ls hl => (lv_goto (tgt := 18) hx hb dX7_broken_78 (by decide) ?_))))))
            exact ih_18 (v1 ||| 0) (v2 + 1) ν1128 τ1129 H locs ls hP hS (lv_sub hl [2, 1, 0] rfl) hv
          · have hv := hv.2 c1130
            refine lv_iconst (v := 1) hx hb dX7_broken_61 (by decide) (lv_aload_n hx hb dX7_broken_62 rfl (lv_at hl 0 rfl) (gg_X7_28 C0 hK hP dX7_broken_63 (lv_iload_n hx hb dX7_broken_66 rfl (lv_at hl 2 rfl) ?_)))
            have hi1131 := hv.1
            have hv := hv.2
            refine g_iald hx hb hK hP (by decide) ga_39 hi1131 dX7_broken_67 (lv_ishl hx hb dX7_broken_68 (lv_goto (tgt := 73) hx hb dX7_broken_69 (by decide) (lv_ior hx hb dX7_broken_73 (lv_istore_n (lv' := [(1, .int (v1 ||| ((1 : Int32) <<< ((ν1128 39 v2.toNatClampNeg) &&& 31)))), (0, .ref (gL E 32)), (2, .int v2)]) hx hb dX7_broken_74 rfl hl (by decide) rfl (fun ls hl => (lv_iinc (v := (v2 + 1)) (lv' := [(2, .int (v2 + 1)), (1, .int (v1 ||| ((1 : Int32) <<< ((ν1128 39 v2.toNatClampNeg) &&& 31)))), (0, .ref (gL E 32))]) hx hb dX7_broken_75 hl (k := 2) rfl rfl (by decide) rfl (fun ls hl => (lv_goto (tgt := 18) hx hb dX7_broken_78 (by decide) ?_))))))))
            exact ih_18 (v1 ||| ((1 : Int32) <<< ((ν1128 39 v2.toNatClampNeg) &&& 31))) (v2 + 1) ν1128 τ1129 H locs ls hP hS (lv_sub hl [2, 1, 0] rfl) hv
  unfold vX7_broken at hv
  refine lv_aload_n hx hb dX7_broken_0 rfl (lv_at hl 0 rfl) ?_
  refine g_iM (g_bV (As := []) (rest := []) C0 hK hP kX7_isGood ql_X7_100 (mX7_isGood hE hv) (by decide) ge_X7 rfl rfl hl.1 rfl (Nat.le_of_ble_eq_true rfl) ⟨rfl, rfl, Nat.le_of_ble_eq_true rfl, Nat.le_of_ble_eq_true rfl⟩ dX7_broken_1) hS (fun x1115 ν1116 τ1117 H locs hv hP hS => ?_)
  refine lv_if_ne (tgt := 10) hx hb dX7_broken_4 (by decide) (fun c1118 => ?_) (fun c1118 => ?_)
  · have hv := hv.1 c1118
    refine lv_aload_n hx hb dX7_broken_10 rfl (lv_at hl 0 rfl) ?_
    refine g_vM (g_bV (As := []) (rest := []) C0 hK hP kX7_layBalls ql_X7_116 (mX7_layBalls hE hv) (by decide) ge_X7 rfl rfl hl.1 rfl (Nat.le_of_ble_eq_true rfl) ⟨rfl, rfl, Nat.le_of_ble_eq_true rfl, Nat.le_of_ble_eq_true rfl⟩ dX7_broken_11) hS (fun ν1120 τ1121 H locs hv hP hS => ?_)
    refine lv_iconst (v := 0) hx hb dX7_broken_14 (by decide) (lv_istore_n (lv' := [(1, .int 0), (0, .ref (gL E 32))]) hx hb dX7_broken_15 rfl hl (by decide) rfl (fun ls hl => (lv_iconst (v := 0) hx hb dX7_broken_16 (by decide) (lv_istore_n (lv' := [(2, .int 0), (1, .int 0), (0, .ref (gL E 32))]) hx hb dX7_broken_17 rfl hl (by decide) rfl (fun ls hl => ?_)))))
    obtain ⟨nf, hv⟩ := hv
    exact h_18 nf 0 0 ν1120 τ1121 H locs ls hP hS (lv_sub hl [2, 1, 0] rfl) hv
  · have hv := hv.2 c1118
    refine lv_bipush (v := (-3)) hx hb dX7_broken_7 (by decide) ?_
    exact g_retM hx hb hrt hlk hP hS rfl hv dX7_broken_9
set_option maxHeartbeats 4000000 in
set_option maxRecDepth 100000 in
theorem mX7_drop {l : Launch} {E : gE} {μ ν : gM} {τ : gJ} {Q : Int32 → gM → gJ → Prop} (hE : gLok E) {a1 : Int32}  (hv : vX7_drop a1 ν τ Q) : Met l yX7_drop (gws yX7_drop cX7_drop 3 (some .int)) (gRm 1 22) (gPc E [.ref (gL E 32), .int a1] μ ν τ) (gQiM E Q μ) 0 0 (gA E) := by
  refine g_entr (lv := [(0, .ref (gL E 32)), (1, .int a1)]) (by decide +kernel) (Nat.le_of_ble_eq_true rfl) rfl (fun p e s m args below meth c ls H locs hx hb hrt hlk C0 hK hP hS hl => ?_)
  have C0 : CallFix p m c cX7_drop 3 s args gTB RX7 := C0
  unfold vX7_drop at hv
  refine lv_iload_n hx hb dX7_drop_0 rfl (lv_at hl 1 rfl) (lv_iconst (v := 0) hx hb dX7_drop_1 (by decide) (lv_sipush (v := 1023) hx hb dX7_drop_2 (by decide) ?_))
  refine g_iS (g_bS (As := [.int a1, .int 0, .int 1023]) (rest := []) C0 hK hP kX7_within ql_X7_56 (mX7_within hE hv) rfl hl.1 rfl (Nat.le_of_ble_eq_true rfl) ⟨rfl, rfl, Nat.le_of_ble_eq_true rfl, Nat.le_of_ble_eq_true rfl⟩ dX7_drop_5) hS (fun x1132 H locs hv hP hS => ?_)
  refine lv_if_ne (tgt := 14) hx hb dX7_drop_8 (by decide) (fun c1133 => ?_) (fun c1133 => ?_)
  · have hv := hv.1 c1133
    refine lv_aload_n hx hb dX7_drop_14 rfl (lv_at hl 0 rfl) (gg_X7_60 C0 hK hP dX7_drop_15 ?_)
    refine lv_if_ne (tgt := 24) hx hb dX7_drop_18 (by decide) (fun c1134 => ?_) (fun c1134 => ?_)
    · have hv := hv.1 c1134
      refine lv_aload_n hx hb dX7_drop_24 rfl (lv_at hl 0 rfl) (gg_X7_81 C0 hK hP dX7_drop_25 (lv_istore_n (lv' := [(2, .int (ν 32 9)), (0, .ref (gL E 32)), (1, .int a1)]) hx hb dX7_drop_28 rfl hl (by decide) rfl (fun ls hl => (lv_aload_n hx hb dX7_drop_29 rfl (lv_at hl 1 rfl) (lv_iload_n hx hb dX7_drop_30 rfl (lv_at hl 2 rfl) (gp_X7_81 hE C0 hK hP hS dX7_drop_31 (fun H locs hP hS => (lv_iload_n hx hb dX7_drop_34 rfl (lv_at hl 0 rfl) ?_))))))))
      exact g_retM hx hb hrt hlk hP hS rfl hv dX7_drop_35
    · have hv := hv.2 c1134
      refine lv_bipush (v := (-3)) hx hb dX7_drop_21 (by decide) ?_
      exact g_retM hx hb hrt hlk hP hS rfl hv dX7_drop_23
  · have hv := hv.2 c1133
    refine lv_bipush (v := (-2)) hx hb dX7_drop_11 (by decide) ?_
    exact g_retM hx hb hrt hlk hP hS rfl hv dX7_drop_13
