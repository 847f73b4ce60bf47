set_option maxHeartbeats 4000000 in
set_option maxRecDepth 100000 in
theorem mX6_like {l : Launch} {E : gE} {μ ν : gM} {τ : gJ} {Q : Int32 → gM → Prop} (hE : gLok E) {a1 : Int32}  (hv : vX6_like a1 μ Q) : Met l yX6_like (gws yX6_like cX6_like 2 (some .int)) (gRm 5 113) (gPc E [.ref (gL E 31), .int a1] μ ν τ) (gQiX E Q ν τ) 0 0 (gA E) := by
  refine g_entr (lv := [(0, .ref (gL E 31)), (1, .int a1)]) (by decide +kernel) (Nat.le_of_ble_eq_true rfl) rfl (fun p e s m args below meth c ls H locs hx hb hrt hlk C0 hK hP hS hl => ?_)
  have C0 : CallFix p m c cX6_like 2 s args gTB RX6 := C0
  unfold vX6_like at hv
  refine lv_iload_n hx hb dX6_like_0 rfl (lv_at hl 1 rfl) ?_
  refine g_iS (g_bS (As := [.int a1]) (rest := []) C0 hK hP kX6_isImage ql_X6_165 (mX6_isImage hE hv) rfl hl.1 rfl (Nat.le_of_ble_eq_true rfl) ⟨rfl, rfl, Nat.le_of_ble_eq_true rfl, Nat.le_of_ble_eq_true rfl⟩ dX6_like_1) hS (fun x448 H locs hv hP hS => ?_)
  refine lv_if_ne (tgt := 9) hx hb dX6_like_4 (by decide) (fun c449 => ?_) (fun c449 => ?_)
  · have hv := hv.1 c449
    refine lv_aload_n hx hb dX6_like_9 rfl (lv_at hl 0 rfl) (gg_X6_21 C0 hK hP dX6_like_10 (lv_iload_n hx hb dX6_like_13 rfl (lv_at hl 1 rfl) ?_))
    have hi450 := hv.1
    have hv := hv.2
    refine g_aaR hx hb hK hP hi450 dX6_like_14 ?_
    refine g_iX (g_bV (As := []) (rest := []) C0 hK hP kX3_isThere ql_X6_96 (mX3_isThere hE (vin_im hi450) hv) (by have := (vin_im hi450); omega) (gen_row (vin_im hi450)) rfl rfl hl.1 rfl (Nat.le_of_ble_eq_true rfl) ⟨rfl, rfl, Nat.le_of_ble_eq_true rfl, Nat.le_of_ble_eq_true rfl⟩ dX6_like_15) hS (fun x451 μ452 H locs hv hP hS => ?_)
    refine lv_if_eq (tgt := 31) hx hb dX6_like_18 (by decide) (fun c453 => ?_) (fun c453 => ?_)
    · have hv := hv.1 c453
      refine lv_bipush (v := (-3)) hx hb dX6_like_31 (by decide) ?_
      exact g_retX hx hb hrt hlk hP hS rfl hv dX6_like_33
    · have hv := hv.2 c453
      refine lv_aload_n hx hb dX6_like_21 rfl (lv_at hl 0 rfl) (gg_X6_12 C0 hK hP dX6_like_22 ?_)
      refine g_iX (g_bV (As := []) (rest := []) C0 hK hP kX3_isThere ql_X6_96 (mX3_isThere hE (by decide) hv) (by decide) (gen_row (by decide)) rfl rfl hl.1 rfl (Nat.le_of_ble_eq_true rfl) ⟨rfl, rfl, Nat.le_of_ble_eq_true rfl, Nat.le_of_ble_eq_true rfl⟩ dX6_like_25) hS (fun x454 μ455 H locs hv hP hS => ?_)
      refine lv_if_ne (tgt := 34) hx hb dX6_like_28 (by decide) (fun c456 => ?_) (fun c456 => ?_)
      · have hv := hv.1 c456
        refine lv_aload_n hx hb dX6_like_34 rfl (lv_at hl 0 rfl) (gg_X6_12 C0 hK hP dX6_like_35 (lv_aload_n hx hb dX6_like_38 rfl (lv_at hl 0 rfl) (gg_X6_21 C0 hK hP dX6_like_39 (lv_iload_n hx hb dX6_like_42 rfl (lv_at hl 1 rfl) ?_))))
        have hi457 := hv.1
        have hv := hv.2
        refine g_aaR hx hb hK hP hi457 dX6_like_43 ?_
        refine g_iX (g_bV (As := [.ref (gL E (2 + a1.toNatClampNeg))]) (rest := []) C0 hK hP kX3_isTurned ql_X6_168 (mX3_isTurned hE (by decide) (vin_im hi457) hv) (by decide) (gen_row (by decide)) rfl rfl hl.1 rfl (Nat.le_of_ble_eq_true rfl) ⟨rfl, rfl, Nat.le_of_ble_eq_true rfl, Nat.le_of_ble_eq_true rfl⟩ dX6_like_44) hS (fun x458 μ459 H locs hv hP hS => ?_)
        refine lv_if_eq (tgt := 54) hx hb dX6_like_47 (by decide) (fun c460 => ?_) (fun c460 => ?_)
        · have hv := hv.1 c460
          refine lv_iconst (v := 0) hx hb dX6_like_54 (by decide) ?_
          exact g_retX hx hb hrt hlk hP hS rfl hv dX6_like_55
        · have hv := hv.2 c460
          refine lv_iconst (v := 1) hx hb dX6_like_50 (by decide) (lv_goto (tgt := 55) hx hb dX6_like_51 (by decide) ?_)
          exact g_retX hx hb hrt hlk hP hS rfl hv dX6_like_55
      · have hv := hv.2 c456
        refine lv_bipush (v := (-3)) hx hb dX6_like_31 (by decide) ?_
        exact g_retX hx hb hrt hlk hP hS rfl hv dX6_like_33
  · have hv := hv.2 c449
    refine lv_iconst (v := (-1)) hx hb dX6_like_7 (by decide) ?_
    exact g_retX hx hb hrt hlk hP hS rfl hv dX6_like_8
set_option maxHeartbeats 4000000 in
set_option maxRecDepth 100000 in
theorem mX6_howMany {l : Launch} {E : gE} {μ ν : gM} {τ : gJ} {Q : Int64 → gM → Prop} (hE : gLok E) {a1 : Int32} {a2 : Int32} {a3 : Int32}  (hv : vX6_howMany a1 a2 a3 μ Q) : Met l yX6_howMany (gws yX6_howMany cX6_howMany 5 (some .long)) (gRm 2 55) (gPc E [.ref (gL E 31), .int a1, .int a2, .int a3] μ ν τ) (gQlX E Q ν τ) 0 0 (gA E) := by
  refine g_entr (lv := [(0, .ref (gL E 31)), (1, .int a1), (2, .int a2), (3, .int a3)]) (by decide +kernel) (Nat.le_of_ble_eq_true rfl) rfl (fun p e s m args below meth c ls H locs hx hb hrt hlk C0 hK hP hS hl => ?_)
  have C0 : CallFix p m c cX6_howMany 5 s args gTB RX6 := C0
  have h_37 : ∀ (n_37 : Nat) (v4 : Int32) (μ : gM) (H : Heap) (locs : List Loc) (ls : Array Slot), va_P (gD E) vwCl (wl E μ ν τ) H → va_S (gA E) s.heap H locs → lv_has ls 5 [(0, .ref (gL E 31)), (1, .int a1), (2, .int a2), (3, .int a3), (4, .int v4)] → vX6_howMany_37 a1 a2 a3 Q n_37 v4 μ → W p l e (gRm 2 55) s m args below meth c H locs 0 0 (MQ below (gQlX E Q ν τ) args s 0 0 (gA E)) (F0 m 37 ls []) := by
    intro n_37
    induction n_37 with
    | zero =>
      intro v4 μ H locs ls hP hS hl hv
      exact False.elim hv
    | succ n_37 ih_37 =>
      intro v4 μ H locs ls hP hS hl hv
      have hv : vX6_howMany_37B a1 a2 a3 Q (vX6_howMany_37 a1 a2 a3 Q n_37) v4 μ := hv
      unfold vX6_howMany_37B at hv
      refine lv_iload hx hb dX6_howMany_37 (lv_at hl 4 rfl) (lv_iload_n hx hb dX6_howMany_39 rfl (lv_at hl 1 rfl) ?_)
      refine lv_icmp_ge (tgt := 60) hx hb dX6_howMany_40 (by decide) (fun c467 => ?_) (fun c467 => ?_)
      · have hv := hv.1 c467
        refine lv_aload_n hx hb dX6_howMany_60 rfl (lv_at hl 0 rfl) (gg_X6_55 C0 hK hP dX6_howMany_61 (lv_iload_n hx hb dX6_howMany_64 rfl (lv_at hl 1 rfl) (lv_iload_n hx hb dX6_howMany_65 rfl (lv_at hl 2 rfl) ?_)))
        refine g_iX (g_bV (As := [.int a1, .int a2]) (rest := []) C0 hK hP kX0_count ql_X6_178 (mX0_count hE hv) (by decide) ge_X0 rfl rfl hl.1 rfl (Nat.le_of_ble_eq_true rfl) ⟨rfl, rfl, Nat.le_of_ble_eq_true rfl, Nat.le_of_ble_eq_true rfl⟩ dX6_howMany_66) hS (fun x468 μ469 H locs hv hP hS => ?_)
        refine lv_i2l hx hb dX6_howMany_69 rfl ?_
        exact g_lretX hx hb hrt hlk hP hS hv dX6_howMany_70
      · have hv := hv.2 c467
        refine lv_aload_n hx hb dX6_howMany_43 rfl (lv_at hl 0 rfl) (gg_X6_55 C0 hK hP dX6_howMany_44 (lv_iload hx hb dX6_howMany_47 (lv_at hl 4 rfl) (lv_iconst (v := 0) hx hb dX6_howMany_49 (by decide) (lv_iload_n hx hb dX6_howMany_50 rfl (lv_at hl 3 rfl) ?_))))
        refine g_vX (g_bV (As := [.int v4, .int 0, .int a3]) (rest := []) C0 hK hP kX0_allow ql_X6_174 (mX0_allow hE hv) (by decide) ge_X0 rfl rfl hl.1 rfl (Nat.le_of_ble_eq_true rfl) ⟨rfl, rfl, Nat.le_of_ble_eq_true rfl, Nat.le_of_ble_eq_true rfl⟩ dX6_howMany_51) hS (fun μ471 H locs hv hP hS => ?_)
        refine lv_iinc (v := (v4 + 1)) (lv' := [(4, .int (v4 + 1)), (0, .ref (gL E 31)), (1, .int a1), (2, .int a2), (3, .int a3)]) hx hb dX6_howMany_54 hl (k := 4) rfl rfl (by decide) rfl (fun ls hl => (lv_goto (tgt := 37) hx hb dX6_howMany_57 (by decide) ?_))
        exact ih_37 (v4 + 1) μ471 H locs ls hP hS (lv_sub hl [1, 2, 3, 4, 0] rfl) hv
  unfold vX6_howMany at hv
  refine lv_iload_n hx hb dX6_howMany_0 rfl (lv_at hl 1 rfl) (lv_iconst (v := 1) hx hb dX6_howMany_1 (by decide) (lv_bipush (v := 8) hx hb dX6_howMany_2 (by decide) ?_))
  refine g_iS (g_bS (As := [.int a1, .int 1, .int 8]) (rest := []) C0 hK hP kX6_isWithin ql_X6_104 (mX6_isWithin hE hv) rfl hl.1 rfl (Nat.le_of_ble_eq_true rfl) ⟨rfl, rfl, Nat.le_of_ble_eq_true rfl, Nat.le_of_ble_eq_true rfl⟩ dX6_howMany_4) hS (fun x461 H locs hv hP hS => ?_)
  refine lv_if_eq (tgt := 30) hx hb dX6_howMany_7 (by decide) (fun c462 => ?_) (fun c462 => ?_)
  · have hv := hv.1 c462
    refine lv_ldc2 (v := -9223372036854775808) hx hb C0.2.2.2.1 (C0.2.2.2.2 _ (gTB_at 418 rfl rfl)) dX6_howMany_30 ?_
    exact g_lretX hx hb hrt hlk hP hS hv dX6_howMany_33
  · have hv := hv.2 c462
    refine lv_iload_n hx hb dX6_howMany_10 rfl (lv_at hl 2 rfl) (lv_iconst (v := 0) hx hb dX6_howMany_11 (by decide) (lv_bipush (v := 9) hx hb dX6_howMany_12 (by decide) ?_))
    refine g_iS (g_bS (As := [.int a2, .int 0, .int 9]) (rest := []) C0 hK hP kX6_isWithin ql_X6_104 (mX6_isWithin hE hv) rfl hl.1 rfl (Nat.le_of_ble_eq_true rfl) ⟨rfl, rfl, Nat.le_of_ble_eq_true rfl, Nat.le_of_ble_eq_true rfl⟩ dX6_howMany_14) hS (fun x463 H locs hv hP hS => ?_)
    refine lv_if_eq (tgt := 30) hx hb dX6_howMany_17 (by decide) (fun c464 => ?_) (fun c464 => ?_)
    · have hv := hv.1 c464
      refine lv_ldc2 (v := -9223372036854775808) hx hb C0.2.2.2.1 (C0.2.2.2.2 _ (gTB_at 418 rfl rfl)) dX6_howMany_30 ?_
      exact g_lretX hx hb hrt hlk hP hS hv dX6_howMany_33
    · have hv := hv.2 c464
      refine lv_iload_n hx hb dX6_howMany_20 rfl (lv_at hl 3 rfl) (lv_iconst (v := 0) hx hb dX6_howMany_21 (by decide) (lv_bipush (v := 9) hx hb dX6_howMany_22 (by decide) ?_))
      refine g_iS (g_bS (As := [.int a3, .int 0, .int 9]) (rest := []) C0 hK hP kX6_isWithin ql_X6_104 (mX6_isWithin hE hv) rfl hl.1 rfl (Nat.le_of_ble_eq_true rfl) ⟨rfl, rfl, Nat.le_of_ble_eq_true rfl, Nat.le_of_ble_eq_true rfl⟩ dX6_howMany_24) hS (fun x465 H locs hv hP hS => ?_)
      refine lv_if_ne (tgt := 34) hx hb dX6_howMany_27 (by decide) (fun c466 => ?_) (fun c466 => ?_)
      · have hv := hv.1 c466
        refine lv_iconst (v := 0) hx hb dX6_howMany_34 (by decide) (lv_istore (lv' := [(4, .int 0), (0, .ref (gL E 31)), (1, .int a1), (2, .int a2), (3, .int a3)]) hx hb dX6_howMany_35 hl (by decide) rfl (fun ls hl => ?_))
        obtain ⟨nf, hv⟩ := hv
        exact h_37 nf 0 μ H locs ls hP hS (lv_sub hl [1, 2, 3, 4, 0] rfl) hv
      · have hv := hv.2 c466
        refine lv_ldc2 (v := -9223372036854775808) hx hb C0.2.2.2.1 (C0.2.2.2.2 _ (gTB_at 418 rfl rfl)) dX6_howMany_30 ?_
        exact g_lretX hx hb hrt hlk hP hS hv dX6_howMany_33
set_option maxHeartbeats 4000000 in
set_option maxRecDepth 100000 in
theorem mX6_way {l : Launch} {E : gE} {μ ν : gM} {τ : gJ} {Q : Int32 → gM → Prop} (hE : gLok E) {a1 : Int32} {a2 : Int32} {a3 : Int32} {a4 : Int32}  (hv : vX6_way a1 a2 a3 a4 μ Q) : Met l yX6_way (gws yX6_way cX6_way 5 (some .int)) (gRm 4 93) (gPc E [.ref (gL E 31), .int a1, .int a2, .int a3, .int a4] μ ν τ) (gQiX E Q ν τ) 0 0 (gA E) := by
  refine g_entr (lv := [(0, .ref (gL E 31)), (1, .int a1), (2, .int a2), (3, .int a3), (4, .int a4)]) (by decide +kernel) (Nat.le_of_ble_eq_true rfl) rfl (fun p e s m args below meth c ls H locs hx hb hrt hlk C0 hK hP hS hl => ?_)
  have C0 : CallFix p m c cX6_way 5 s args gTB RX6 := C0
  unfold vX6_way at hv
  refine lv_iload_n hx hb dX6_way_0 rfl (lv_at hl 1 rfl) (lv_iconst (v := 0) hx hb dX6_way_1 (by decide) (lv_sipush (v := 511) hx hb dX6_way_2 (by decide) ?_))
  refine g_iS (g_bS (As := [.int a1, .int 0, .int 511]) (rest := []) C0 hK hP kX6_isWithin ql_X6_104 (mX6_isWithin hE hv) rfl hl.1 rfl (Nat.le_of_ble_eq_true rfl) ⟨rfl, rfl, Nat.le_of_ble_eq_true rfl, Nat.le_of_ble_eq_true rfl⟩ dX6_way_5) hS (fun x472 H locs hv hP hS => ?_)
  refine lv_if_eq (tgt := 43) hx hb dX6_way_8 (by decide) (fun c473 => ?_) (fun c473 => ?_)
  · have hv := hv.1 c473
    refine lv_bipush (v := (-2)) hx hb dX6_way_43 (by decide) ?_
    exact g_retX hx hb hrt hlk hP hS rfl hv dX6_way_45
  · have hv := hv.2 c473
    refine lv_iload_n hx hb dX6_way_11 rfl (lv_at hl 2 rfl) (lv_iconst (v := 0) hx hb dX6_way_12 (by decide) (lv_sipush (v := 511) hx hb dX6_way_13 (by decide) ?_))
    refine g_iS (g_bS (As := [.int a2, .int 0, .int 511]) (rest := []) C0 hK hP kX6_isWithin ql_X6_104 (mX6_isWithin hE hv) rfl hl.1 rfl (Nat.le_of_ble_eq_true rfl) ⟨rfl, rfl, Nat.le_of_ble_eq_true rfl, Nat.le_of_ble_eq_true rfl⟩ dX6_way_16) hS (fun x474 H locs hv hP hS => ?_)
    refine lv_if_eq (tgt := 43) hx hb dX6_way_19 (by decide) (fun c475 => ?_) (fun c475 => ?_)
    · have hv := hv.1 c475
      refine lv_bipush (v := (-2)) hx hb dX6_way_43 (by decide) ?_
      exact g_retX hx hb hrt hlk hP hS rfl hv dX6_way_45
    · have hv := hv.2 c475
      refine lv_iload_n hx hb dX6_way_22 rfl (lv_at hl 1 rfl) ?_
      refine g_iS (g_bS (As := [.int a1]) (rest := []) C0 hK hP kJ6_bitCount_0f7a4 ql_X6_142 (mJ6_bitCount_0f7a4 hE hv) rfl hl.1 rfl (Nat.le_of_ble_eq_true rfl) ⟨rfl, rfl, Nat.le_of_ble_eq_true rfl, Nat.le_of_ble_eq_true rfl⟩ dX6_way_23) hS (fun x476 H locs hv hP hS => ?_)
      refine lv_iload_n hx hb dX6_way_26 rfl (lv_at hl 2 rfl) ?_
      refine g_iS (g_bS (As := [.int a2]) (rest := [.int x476]) C0 hK hP kJ6_bitCount_0f7a4 ql_X6_142 (mJ6_bitCount_0f7a4 hE hv) rfl hl.1 rfl (Nat.le_of_ble_eq_true rfl) ⟨rfl, rfl, Nat.le_of_ble_eq_true rfl, Nat.le_of_ble_eq_true rfl⟩ dX6_way_27) hS (fun x477 H locs hv hP hS => ?_)
      refine lv_icmp_ne (tgt := 43) hx hb dX6_way_30 (by decide) (fun c478 => ?_) (fun c478 => ?_)
      · have hv := hv.1 c478
        refine lv_bipush (v := (-2)) hx hb dX6_way_43 (by decide) ?_
        exact g_retX hx hb hrt hlk hP hS rfl hv dX6_way_45
      · have hv := hv.2 c478
        refine lv_iload_n hx hb dX6_way_33 rfl (lv_at hl 3 rfl) (lv_iconst (v := 0) hx hb dX6_way_34 (by decide) (lv_bipush (v := 9) hx hb dX6_way_35 (by decide) ?_))
        refine g_iS (g_bS (As := [.int a3, .int 0, .int 9]) (rest := []) C0 hK hP kX6_isWithin ql_X6_104 (mX6_isWithin hE hv) rfl hl.1 rfl (Nat.le_of_ble_eq_true rfl) ⟨rfl, rfl, Nat.le_of_ble_eq_true rfl, Nat.le_of_ble_eq_true rfl⟩ dX6_way_37) hS (fun x479 H locs hv hP hS => ?_)
        refine lv_if_ne (tgt := 46) hx hb dX6_way_40 (by decide) (fun c480 => ?_) (fun c480 => ?_)
        · have hv := hv.1 c480
          refine lv_iload hx hb dX6_way_46 (lv_at hl 4 rfl) (lv_iconst (v := (-1)) hx hb dX6_way_48 (by decide) ?_)
          refine lv_icmp_ge (tgt := 54) hx hb dX6_way_49 (by decide) (fun c481 => ?_) (fun c481 => ?_)
          · have hv := hv.1 c481
            refine lv_aload_n hx hb dX6_way_54 rfl (lv_at hl 0 rfl) (gg_X6_48 C0 hK hP dX6_way_55 (lv_iload_n hx hb dX6_way_58 rfl (lv_at hl 2 rfl) (lv_iload_n hx hb dX6_way_59 rfl (lv_at hl 3 rfl) ?_)))
            refine g_vX (g_bV (As := [.int a2, .int a3]) (rest := []) C0 hK hP kX5_measure ql_X6_181 (mX5_measure hE hv) (by decide) ge_X5 rfl rfl hl.1 rfl (Nat.le_of_ble_eq_true rfl) ⟨rfl, rfl, Nat.le_of_ble_eq_true rfl, Nat.le_of_ble_eq_true rfl⟩ dX6_way_60) hS (fun μ483 H locs hv hP hS => ?_)
            refine lv_iload hx hb dX6_way_63 (lv_at hl 4 rfl) (lv_iconst (v := (-1)) hx hb dX6_way_65 (by decide) ?_)
            refine lv_icmp_ne (tgt := 80) hx hb dX6_way_66 (by decide) (fun c484 => ?_) (fun c484 => ?_)
            · have hv := hv.1 c484
              refine lv_aload_n hx hb dX6_way_80 rfl (lv_at hl 0 rfl) (gg_X6_48 C0 hK hP dX6_way_81 (lv_iload_n hx hb dX6_way_84 rfl (lv_at hl 1 rfl) (lv_iload_n hx hb dX6_way_85 rfl (lv_at hl 3 rfl) (lv_iload hx hb dX6_way_86 (lv_at hl 4 rfl) ?_))))
              refine g_iX (g_bV (As := [.int a1, .int a3, .int a4]) (rest := []) C0 hK hP kX5_throwOnWay ql_X6_187 (mX5_throwOnWay hE hv) (by decide) ge_X5 rfl rfl hl.1 rfl (Nat.le_of_ble_eq_true rfl) ⟨rfl, rfl, Nat.le_of_ble_eq_true rfl, Nat.le_of_ble_eq_true rfl⟩ dX6_way_88) hS (fun x485 μ486 H locs hv hP hS => ?_)
              exact g_retX hx hb hrt hlk hP hS rfl hv dX6_way_91
            · have hv := hv.2 c484
              refine lv_aload_n hx hb dX6_way_69 rfl (lv_at hl 0 rfl) (gg_X6_48 C0 hK hP dX6_way_70 (lv_iload_n hx hb dX6_way_73 rfl (lv_at hl 1 rfl) ?_))
              refine g_iX (g_bV (As := [.int a1]) (rest := []) C0 hK hP kX5_beatsFrom ql_X6_184 (mX5_beatsFrom hE hv) (by decide) ge_X5 rfl rfl hl.1 rfl (Nat.le_of_ble_eq_true rfl) ⟨rfl, rfl, Nat.le_of_ble_eq_true rfl, Nat.le_of_ble_eq_true rfl⟩ dX6_way_74) hS (fun x487 μ488 H locs hv hP hS => ?_)
              refine lv_goto (tgt := 91) hx hb dX6_way_77 (by decide) ?_
              exact g_retX hx hb hrt hlk hP hS rfl hv dX6_way_91
          · have hv := hv.2 c481
            refine lv_iconst (v := (-1)) hx hb dX6_way_52 (by decide) ?_
            exact g_retX hx hb hrt hlk hP hS rfl hv dX6_way_53
        · have hv := hv.2 c480
          refine lv_bipush (v := (-2)) hx hb dX6_way_43 (by decide) ?_
          exact g_retX hx hb hrt hlk hP hS rfl hv dX6_way_45
set_option maxHeartbeats 4000000 in
set_option maxRecDepth 100000 in
theorem mX6_areOpenOrThrows {l : Launch} {E : gE} {μ ν : gM} {τ : gJ} {Q : Int32 → gM → Prop} (hE : gLok E) {r0 : Nat} {a1 : Int32} {a2 : Int32} (hr0 : r0 < 4) (hv : vX6_areOpenOrThrows r0 a1 a2 μ Q) : Met l yX6_areOpenOrThrows (gws yX6_areOpenOrThrows cX6_areOpenOrThrows 4 (some .boolean)) (gRm 2 43) (gPc E [.ref (gL E (10 + r0)), .int a1, .int a2] μ ν τ) (gQiX E Q ν τ) 0 0 (gA E) := by
  refine g_entr (lv := [(0, .ref (gL E (10 + r0))), (1, .int a1), (2, .int a2)]) (by decide +kernel) (Nat.le_of_ble_eq_true rfl) rfl (fun p e s m args below meth c ls H locs hx hb hrt hlk C0 hK hP hS hl => ?_)
  have C0 : CallFix p m c cX6_areOpenOrThrows 4 s args gTB RX6 := C0
  have h_2 : ∀ (n_2 : Nat) (v3 : Int32) (μ : gM) (H : Heap) (locs : List Loc) (ls : Array Slot), va_P (gD E) vwCl (wl E μ ν τ) H → va_S (gA E) s.heap H locs → lv_has ls 4 [(0, .ref (gL E (10 + r0))), (1, .int a1), (2, .int a2), (3, .int v3)] → vX6_areOpenOrThrows_2 r0 a1 a2 Q n_2 v3 μ → W p l e (gRm 2 43) s m args below meth c H locs 0 0 (MQ below (gQiX E Q ν τ) args s 0 0 (gA E)) (F0 m 2 ls []) := by
    intro n_2
    induction n_2 with
    | zero =>
      intro v3 μ H locs ls hP hS hl hv
      exact False.elim hv
    | succ n_2 ih_2 =>
      intro v3 μ H locs ls hP hS hl hv
      have hv : vX6_areOpenOrThrows_2B r0 a1 a2 Q (vX6_areOpenOrThrows_2 r0 a1 a2 Q n_2) v3 μ := hv
      unfold vX6_areOpenOrThrows_2B at hv
      refine lv_iload_n hx hb dX6_areOpenOrThrows_2 rfl (lv_at hl 3 rfl) (lv_iload_n hx hb dX6_areOpenOrThrows_3 rfl (lv_at hl 2 rfl) ?_)
      refine lv_icmp_ge (tgt := 31) hx hb dX6_areOpenOrThrows_4 (by decide) (fun c502 => ?_) (fun c502 => ?_)
      · have hv := hv.1 c502
        refine lv_iconst (v := 1) hx hb dX6_areOpenOrThrows_31 (by decide) ?_
        exact g_retX hx hb hrt hlk hP hS rfl hv dX6_areOpenOrThrows_32
      · have hv := hv.2 c502
        refine lv_aload_n hx hb dX6_areOpenOrThrows_7 rfl (lv_at hl 0 rfl) (lv_iload_n hx hb dX6_areOpenOrThrows_8 rfl (lv_at hl 1 rfl) (lv_iload_n hx hb dX6_areOpenOrThrows_9 rfl (lv_at hl 3 rfl) (lv_iadd hx hb dX6_areOpenOrThrows_10 ?_)))
        refine g_iX (g_bV (As := [.int (a1 + v3)]) (rest := []) C0 hK hP kX4_read ql_X6_235 (mX4_read hE hr0 hv) (by have := hr0; omega) (gen_sheet hr0) rfl rfl hl.1 rfl (Nat.le_of_ble_eq_true rfl) ⟨rfl, rfl, Nat.le_of_ble_eq_true rfl, Nat.le_of_ble_eq_true rfl⟩ dX6_areOpenOrThrows_11) hS (fun x503 μ504 H locs hv hP hS => ?_)
        refine lv_iconst (v := (-1)) hx hb dX6_areOpenOrThrows_14 (by decide) (lv_bipush (v := 9) hx hb dX6_areOpenOrThrows_15 (by decide) ?_)
        refine g_iS (g_bS (As := [.int x503, .int (-1), .int 9]) (rest := []) C0 hK hP kX6_isWithin ql_X6_104 (mX6_isWithin hE hv) rfl hl.1 rfl (Nat.le_of_ble_eq_true rfl) ⟨rfl, rfl, Nat.le_of_ble_eq_true rfl, Nat.le_of_ble_eq_true rfl⟩ dX6_areOpenOrThrows_17) hS (fun x505 H locs hv hP hS => ?_)
        refine lv_if_ne (tgt := 25) hx hb dX6_areOpenOrThrows_20 (by decide) (fun c506 => ?_) (fun c506 => ?_)
        · have hv := hv.1 c506
          refine lv_iinc (v := (v3 + 1)) (lv' := [(3, .int (v3 + 1)), (0, .ref (gL E (10 + r0))), (1, .int a1), (2, .int a2)]) hx hb dX6_areOpenOrThrows_25 hl (k := 3) rfl rfl (by decide) rfl (fun ls hl => (lv_goto (tgt := 2) hx hb dX6_areOpenOrThrows_28 (by decide) ?_))
          exact ih_2 (v3 + 1) μ504 H locs ls hP hS (lv_sub hl [1, 2, 3, 0] rfl) hv
        · have hv := hv.2 c506
          refine lv_iconst (v := 0) hx hb dX6_areOpenOrThrows_23 (by decide) ?_
          exact g_retX hx hb hrt hlk hP hS rfl hv dX6_areOpenOrThrows_24
  unfold vX6_areOpenOrThrows at hv
  refine lv_iconst (v := 0) hx hb dX6_areOpenOrThrows_0 (by decide) (lv_istore_n (lv' := [(3, .int 0), (0, .ref (gL E (10 + r0))), (1, .int a1), (2, .int a2)]) hx hb dX6_areOpenOrThrows_1 rfl hl (by decide) rfl (fun ls hl => ?_))
  obtain ⟨nf, hv⟩ := hv
  exact h_2 nf 0 μ H locs ls hP hS (lv_sub hl [1, 2, 3, 0] rfl) hv
set_option maxHeartbeats 4000000 in
set_option maxRecDepth 100000 in
theorem mX6_allowCells {l : Launch} {E : gE} {μ ν : gM} {τ : gJ} {Q : gM → Prop} (hE : gLok E) {r1 : Nat} {a2 : Int32} {a3 : Int32} (hr1 : r1 < 4) (hv : vX6_allowCells r1 a2 a3 μ Q) : Met l yX6_allowCells (gws yX6_allowCells cX6_allowCells 6 none) (gRm 2 45) (gPc E [.ref (gL E 31), .ref (gL E (10 + r1)), .int a2, .int a3] μ ν τ) (gQvX E Q ν τ) 0 0 (gA E) := by
  refine g_entr (lv := [(0, .ref (gL E 31)), (1, .ref (gL E (10 + r1))), (2, .int a2), (3, .int a3)]) (by decide +kernel) (Nat.le_of_ble_eq_true rfl) rfl (fun p e s m args below meth c ls H locs hx hb hrt hlk C0 hK hP hS hl => ?_)
  have C0 : CallFix p m c cX6_allowCells 6 s args gTB RX6 := C0
  have h_3 : ∀ (n_3 : Nat) (v4 : Int32) (μ : gM) (H : Heap) (locs : List Loc) (ls : Array Slot), va_P (gD E) vwCl (wl E μ ν τ) H → va_S (gA E) s.heap H locs → lv_has ls 6 [(0, .ref (gL E 31)), (1, .ref (gL E (10 + r1))), (2, .int a2), (3, .int a3), (4, .int v4)] → vX6_allowCells_3 r1 a2 a3 Q n_3 v4 μ → W p l e (gRm 2 45) s m args below meth c H locs 0 0 (MQ below (gQvX E Q ν τ) args s 0 0 (gA E)) (F0 m 3 ls []) := by
    intro n_3
    induction n_3 with
    | zero =>
      intro v4 μ H locs ls hP hS hl hv
      exact False.elim hv
    | succ n_3 ih_3 =>
      intro v4 μ H locs ls hP hS hl hv
      have hv : vX6_allowCells_3B r1 a2 a3 Q (vX6_allowCells_3 r1 a2 a3 Q n_3) v4 μ := hv
      unfold vX6_allowCells_3B at hv
      refine lv_iload hx hb dX6_allowCells_3 (lv_at hl 4 rfl) (lv_iload_n hx hb dX6_allowCells_5 rfl (lv_at hl 3 rfl) ?_)
      refine lv_icmp_ge (tgt := 59) hx hb dX6_allowCells_6 (by decide) (fun c513 => ?_) (fun c513 => ?_)
      · have hv := hv.1 c513
        exact g_vretX hx hb hrt hlk hP hS hv dX6_allowCells_59
      · have hv := hv.2 c513
        refine lv_aload_n hx hb dX6_allowCells_9 rfl (lv_at hl 1 rfl) (lv_iload_n hx hb dX6_allowCells_10 rfl (lv_at hl 2 rfl) (lv_iload hx hb dX6_allowCells_11 (lv_at hl 4 rfl) (lv_iadd hx hb dX6_allowCells_13 ?_)))
        refine g_iX (g_bV (As := [.int (a2 + v4)]) (rest := []) C0 hK hP kX4_read ql_X6_235 (mX4_read hE hr1 hv) (by have := hr1; omega) (gen_sheet hr1) rfl rfl hl.1 rfl (Nat.le_of_ble_eq_true rfl) ⟨rfl, rfl, Nat.le_of_ble_eq_true rfl, Nat.le_of_ble_eq_true rfl⟩ dX6_allowCells_14) hS (fun x514 μ515 H locs hv hP hS => ?_)
        refine lv_istore (lv' := [(5, .int x514), (0, .ref (gL E 31)), (1, .ref (gL E (10 + r1))), (2, .int a2), (3, .int a3), (4, .int v4)]) hx hb dX6_allowCells_17 hl (by decide) rfl (fun ls hl => (lv_iload hx hb dX6_allowCells_19 (lv_at hl 0 rfl) (lv_iconst (v := (-1)) hx hb dX6_allowCells_21 (by decide) ?_)))
        refine lv_icmp_ne (tgt := 40) hx hb dX6_allowCells_22 (by decide) (fun c516 => ?_) (fun c516 => ?_)
        · have hv := hv.1 c516
          refine lv_aload_n hx hb dX6_allowCells_40 rfl (lv_at hl 1 rfl) (gg_X6_55 C0 hK hP dX6_allowCells_41 (lv_iload hx hb dX6_allowCells_44 (lv_at hl 5 rfl) (lv_iload hx hb dX6_allowCells_46 (lv_at hl 0 rfl) (lv_iload hx hb dX6_allowCells_48 (lv_at hl 0 rfl) ?_))))
          refine g_vX (g_bV (As := [.int v4, .int x514, .int x514]) (rest := []) C0 hK hP kX0_allow ql_X6_174 (mX0_allow hE hv) (by decide) ge_X0 rfl rfl hl.1 rfl (Nat.le_of_ble_eq_true rfl) ⟨rfl, rfl, Nat.le_of_ble_eq_true rfl, Nat.le_of_ble_eq_true rfl⟩ dX6_allowCells_50) hS (fun μ518 H locs hv hP hS => ?_)
          refine lv_iinc (v := (v4 + 1)) (lv' := [(4, .int (v4 + 1)), (5, .int x514), (0, .ref (gL E 31)), (1, .ref (gL E (10 + r1))), (2, .int a2), (3, .int a3)]) hx hb dX6_allowCells_53 hl (k := 5) rfl rfl (by decide) rfl (fun ls hl => (lv_goto (tgt := 3) hx hb dX6_allowCells_56 (by decide) ?_))
          exact ih_3 (v4 + 1) μ518 H locs ls hP hS (lv_sub hl [2, 3, 4, 5, 0] rfl) hv
        · have hv := hv.2 c516
          refine lv_aload_n hx hb dX6_allowCells_25 rfl (lv_at hl 1 rfl) (gg_X6_55 C0 hK hP dX6_allowCells_26 (lv_iload hx hb dX6_allowCells_29 (lv_at hl 5 rfl) (lv_iconst (v := 0) hx hb dX6_allowCells_31 (by decide) (lv_bipush (v := 9) hx hb dX6_allowCells_32 (by decide) ?_))))
          refine g_vX (g_bV (As := [.int v4, .int 0, .int 9]) (rest := []) C0 hK hP kX0_allow ql_X6_174 (mX0_allow hE hv) (by decide) ge_X0 rfl rfl hl.1 rfl (Nat.le_of_ble_eq_true rfl) ⟨rfl, rfl, Nat.le_of_ble_eq_true rfl, Nat.le_of_ble_eq_true rfl⟩ dX6_allowCells_34) hS (fun μ520 H locs hv hP hS => ?_)
          refine lv_goto (tgt := 53) hx hb dX6_allowCells_37 (by decide) (lv_iinc (v := (v4 + 1)) (lv' := [(4, .int (v4 + 1)), (5, .int x514), (0, .ref (gL E 31)), (1, .ref (gL E (10 + r1))), (2, .int a2), (3, .int a3)]) hx hb dX6_allowCells_53 hl (k := 5) rfl rfl (by decide) rfl (fun ls hl => (lv_goto (tgt := 3) hx hb dX6_allowCells_56 (by decide) ?_)))
          exact ih_3 (v4 + 1) μ520 H locs ls hP hS (lv_sub hl [2, 3, 4, 5, 0] rfl) hv
  unfold vX6_allowCells at hv
  refine lv_iconst (v := 0) hx hb dX6_allowCells_0 (by decide) (lv_istore (lv' := [(4, .int 0), (0, .ref (gL E 31)), (1, .ref (gL E (10 + r1))), (2, .int a2), (3, .int a3)]) hx hb dX6_allowCells_1 hl (by decide) rfl (fun ls hl => ?_))
  obtain ⟨nf, hv⟩ := hv
  exact h_3 nf 0 μ H locs ls hP hS (lv_sub hl [1, 2, 3, 4, 0] rfl) hv
set_option maxHeartbeats 4000000 in
set_option maxRecDepth 100000 in
theorem mX6_filled {l : Launch} {E : gE} {μ ν : gM} {τ : gJ} {Q : Int64 → gM → Prop} (hE : gLok E) {a1 : Int32} {a2 : Int32} {a3 : Int32} {a4 : Int32} {a5 : Int32} {a6 : Int32}  (hv : vX6_filled a1 a2 a3 a4 a5 a6 μ Q) : Met l yX6_filled (gws yX6_filled cX6_filled 8 (some .long)) (gRm 3 74) (gPc E [.ref (gL E 31), .int a1, .int a2, .int a3, .int a4, .int a5, .int a6] μ ν τ) (gQlX E Q ν τ) 0 0 (gA E) := by
  refine g_entr (lv := [(0, .ref (gL E 31)), (1, .int a1), (2, .int a2), (3, .int a3), (4, .int a4), (5, .int a5), (6, .int a6)]) (by decide +kernel) (Nat.le_of_ble_eq_true rfl) rfl (fun p e s m args below meth c ls H locs hx hb hrt hlk C0 hK hP hS hl => ?_)
  have C0 : CallFix p m c cX6_filled 8 s args gTB RX6 := C0
  unfold vX6_filled at hv
  refine lv_aload_n hx hb dX6_filled_0 rfl (lv_at hl 0 rfl) (lv_iconst (v := 0) hx hb dX6_filled_1 (by decide) (gp_X6_64 hE C0 hK hP hS dX6_filled_2 (fun H locs hP hS => (lv_iload_n hx hb dX6_filled_5 rfl (lv_at hl 1 rfl) ?_))))
  refine g_iS (g_bS (As := [.int a1]) (rest := []) C0 hK hP kX6_isSheet ql_X6_67 (mX6_isSheet hE hv) rfl hl.1 rfl (Nat.le_of_ble_eq_true rfl) ⟨rfl, rfl, Nat.le_of_ble_eq_true rfl, Nat.le_of_ble_eq_true rfl⟩ dX6_filled_6) hS (fun x489 H locs hv hP hS => ?_)
  refine lv_if_eq (tgt := 30) hx hb dX6_filled_9 (by decide) (fun c490 => ?_) (fun c490 => ?_)
  · have hv := hv.1 c490
    refine lv_ldc2 (v := -9223372036854775808) hx hb C0.2.2.2.1 (C0.2.2.2.2 _ (gTB_at 418 rfl rfl)) dX6_filled_30 ?_
    exact g_lretX hx hb hrt hlk hP hS hv dX6_filled_33
  · have hv := hv.2 c490
    refine lv_iload_n hx hb dX6_filled_12 rfl (lv_at hl 2 rfl) ?_
    refine g_iS (g_bS (As := [.int a2]) (rest := []) C0 hK hP kX6_isSort ql_X6_71 (mX6_isSort hE hv) rfl hl.1 rfl (Nat.le_of_ble_eq_true rfl) ⟨rfl, rfl, Nat.le_of_ble_eq_true rfl, Nat.le_of_ble_eq_true rfl⟩ dX6_filled_13) hS (fun x491 H locs hv hP hS => ?_)
    refine lv_if_eq (tgt := 30) hx hb dX6_filled_16 (by decide) (fun c492 => ?_) (fun c492 => ?_)
    · have hv := hv.1 c492
      refine lv_ldc2 (v := -9223372036854775808) hx hb C0.2.2.2.1 (C0.2.2.2.2 _ (gTB_at 418 rfl rfl)) dX6_filled_30 ?_
      exact g_lretX hx hb hrt hlk hP hS hv dX6_filled_33
    · have hv := hv.2 c492
      refine lv_iload hx hb dX6_filled_19 (lv_at hl 5 rfl) (lv_iconst (v := 0) hx hb dX6_filled_21 (by decide) (lv_bipush (v := 9) hx hb dX6_filled_22 (by decide) ?_))
      refine g_iS (g_bS (As := [.int a5, .int 0, .int 9]) (rest := []) C0 hK hP kX6_isWithin ql_X6_104 (mX6_isWithin hE hv) rfl hl.1 rfl (Nat.le_of_ble_eq_true rfl) ⟨rfl, rfl, Nat.le_of_ble_eq_true rfl, Nat.le_of_ble_eq_true rfl⟩ dX6_filled_24) hS (fun x493 H locs hv hP hS => ?_)
      refine lv_if_ne (tgt := 34) hx hb dX6_filled_27 (by decide) (fun c494 => ?_) (fun c494 => ?_)
      · have hv := hv.1 c494
        refine lv_aload_n hx hb dX6_filled_34 rfl (lv_at hl 0 rfl) (lv_aload_n hx hb dX6_filled_35 rfl (lv_at hl 0 rfl) (gg_X6_27 C0 hK hP dX6_filled_36 (lv_iload_n hx hb dX6_filled_39 rfl (lv_at hl 1 rfl) ?_)))
        have hi495 := hv.1
        have hv := hv.2
        refine g_aaS hx hb hK hP hi495 dX6_filled_40 (lv_iload_n hx hb dX6_filled_41 rfl (lv_at hl 2 rfl) (lv_iload_n hx hb dX6_filled_42 rfl (lv_at hl 3 rfl) (lv_iload hx hb dX6_filled_43 (lv_at hl 4 rfl) ?_)))
        refine g_iX (g_bV (As := [.int a2, .int a3, .int a4]) (rest := [.ref (gL E 31)]) C0 hK hP kX4_faultOfCells ql_X6_74 (mX4_faultOfCells hE (vin_lt hi495) hv) (by have := (vin_lt hi495); omega) (gen_sheet (vin_lt hi495)) rfl rfl hl.1 rfl (Nat.le_of_ble_eq_true rfl) ⟨rfl, rfl, Nat.le_of_ble_eq_true rfl, Nat.le_of_ble_eq_true rfl⟩ dX6_filled_45) hS (fun x496 μ497 H locs hv hP hS => ?_)
        refine gp_X6_64 hE C0 hK hP hS dX6_filled_48 (fun H locs hP hS => (lv_aload_n hx hb dX6_filled_51 rfl (lv_at hl 0 rfl) (gg_X6_64 C0 hK hP dX6_filled_52 ?_)))
        refine lv_if_ne (tgt := 97) hx hb dX6_filled_55 (by decide) (fun c498 => ?_) (fun c498 => ?_)
        · have hv := hv.1 c498
          refine lv_ldc2 (v := -9223372036854775808) hx hb C0.2.2.2.1 (C0.2.2.2.2 _ (gTB_at 418 rfl rfl)) dX6_filled_97 ?_
          exact g_lretX hx hb hrt hlk hP hS hv dX6_filled_100
        · have hv := hv.2 c498
          refine lv_iload hx hb dX6_filled_58 (lv_at hl 4 rfl) (lv_iconst (v := 1) hx hb dX6_filled_60 (by decide) (lv_bipush (v := 8) hx hb dX6_filled_61 (by decide) ?_))
          refine g_iS (g_bS (As := [.int a4, .int 1, .int 8]) (rest := []) C0 hK hP kX6_isWithin ql_X6_104 (mX6_isWithin hE hv) rfl hl.1 rfl (Nat.le_of_ble_eq_true rfl) ⟨rfl, rfl, Nat.le_of_ble_eq_true rfl, Nat.le_of_ble_eq_true rfl⟩ dX6_filled_63) hS (fun x499 H locs hv hP hS => ?_)
          refine lv_if_eq (tgt := 97) hx hb dX6_filled_66 (by decide) (fun c500 => ?_) (fun c500 => ?_)
          · have hv := hv.1 c500
            refine lv_ldc2 (v := -9223372036854775808) hx hb C0.2.2.2.1 (C0.2.2.2.2 _ (gTB_at 418 rfl rfl)) dX6_filled_97 ?_
            exact g_lretX hx hb hrt hlk hP hS hv dX6_filled_100
          · have hv := hv.2 c500
            refine lv_aload_n hx hb dX6_filled_69 rfl (lv_at hl 0 rfl) (gg_X6_27 C0 hK hP dX6_filled_70 (lv_iload_n hx hb dX6_filled_73 rfl (lv_at hl 1 rfl) ?_))
            have hi501 := hv.1
            have hv := hv.2
            refine g_aaS hx hb hK hP hi501 dX6_filled_74 (lv_iload_n hx hb dX6_filled_75 rfl (lv_at hl 3 rfl) (lv_iload hx hb dX6_filled_76 (lv_at hl 4 rfl) ?_))
            refine g_iX (g_bS (As := [.ref (gL E (10 + a1.toNatClampNeg)), .int a3, .int a4]) (rest := []) C0 hK hP kX6_areOpenOrThrows ql_X6_190 (mX6_areOpenOrThrows hE (vin_lt hi501) hv) rfl hl.1 rfl (Nat.le_of_ble_eq_true rfl) ⟨rfl, rfl, Nat.le_of_ble_eq_true rfl, Nat.le_of_ble_eq_true rfl⟩ dX6_filled_78) hS (fun x507 μ508 H locs hv hP hS => ?_)
            refine lv_if_eq (tgt := 97) hx hb dX6_filled_81 (by decide) (fun c509 => ?_) (fun c509 => ?_)
            · have hv := hv.1 c509
              refine lv_ldc2 (v := -9223372036854775808) hx hb C0.2.2.2.1 (C0.2.2.2.2 _ (gTB_at 418 rfl rfl)) dX6_filled_97 ?_
              exact g_lretX hx hb hrt hlk hP hS hv dX6_filled_100
            · have hv := hv.2 c509
              refine lv_iload hx hb dX6_filled_84 (lv_at hl 6 rfl) (lv_iconst (v := (-1)) hx hb dX6_filled_86 (by decide) (lv_iload hx hb dX6_filled_87 (lv_at hl 4 rfl) (lv_iconst (v := 1) hx hb dX6_filled_89 (by decide) (lv_isub hx hb dX6_filled_90 ?_))))
              refine g_iS (g_bS (As := [.int a6, .int (-1), .int (a4 - 1)]) (rest := []) C0 hK hP kX6_isWithin ql_X6_104 (mX6_isWithin hE hv) rfl hl.1 rfl (Nat.le_of_ble_eq_true rfl) ⟨rfl, rfl, Nat.le_of_ble_eq_true rfl, Nat.le_of_ble_eq_true rfl⟩ dX6_filled_91) hS (fun x510 H locs hv hP hS => ?_)
              refine lv_if_ne (tgt := 101) hx hb dX6_filled_94 (by decide) (fun c511 => ?_) (fun c511 => ?_)
              · have hv := hv.1 c511
                refine lv_aload_n hx hb dX6_filled_101 rfl (lv_at hl 0 rfl) (lv_aload_n hx hb dX6_filled_102 rfl (lv_at hl 0 rfl) (gg_X6_27 C0 hK hP dX6_filled_103 (lv_iload_n hx hb dX6_filled_106 rfl (lv_at hl 1 rfl) ?_)))
                have hi512 := hv.1
                have hv := hv.2
                refine g_aaS hx hb hK hP hi512 dX6_filled_107 (lv_iload_n hx hb dX6_filled_108 rfl (lv_at hl 3 rfl) (lv_iload hx hb dX6_filled_109 (lv_at hl 4 rfl) ?_))
                refine g_vX (g_bV (As := [.ref (gL E (10 + a1.toNatClampNeg)), .int a3, .int a4]) (rest := []) C0 hK hP kX6_allowCells ql_X6_194 (mX6_allowCells hE (vin_lt hi512) hv) (by decide) ge_X6 rfl rfl hl.1 rfl (Nat.le_of_ble_eq_true rfl) ⟨rfl, rfl, Nat.le_of_ble_eq_true rfl, Nat.le_of_ble_eq_true rfl⟩ dX6_filled_111) hS (fun μ522 H locs hv hP hS => ?_)
                refine lv_aload_n hx hb dX6_filled_114 rfl (lv_at hl 0 rfl) (gg_X6_55 C0 hK hP dX6_filled_115 (lv_iload hx hb dX6_filled_118 (lv_at hl 4 rfl) (lv_iload hx hb dX6_filled_120 (lv_at hl 5 rfl) ?_)))
                refine g_iX (g_bV (As := [.int a4, .int a5]) (rest := []) C0 hK hP kX0_count ql_X6_178 (mX0_count hE hv) (by decide) ge_X0 rfl rfl hl.1 rfl (Nat.le_of_ble_eq_true rfl) ⟨rfl, rfl, Nat.le_of_ble_eq_true rfl, Nat.le_of_ble_eq_true rfl⟩ dX6_filled_122) hS (fun x523 μ524 H locs hv hP hS => ?_)
                refine lv_istore (lv' := [(7, .int x523), (0, .ref (gL E 31)), (1, .int a1), (2, .int a2), (3, .int a3), (4, .int a4), (5, .int a5), (6, .int a6)]) hx hb dX6_filled_125 hl (by decide) rfl (fun ls hl => (lv_iload hx hb dX6_filled_127 (lv_at hl 7 rfl) (lv_iconst (v := (-1)) hx hb dX6_filled_129 (by decide) ?_)))
                refine lv_icmp_ne (tgt := 137) hx hb dX6_filled_130 (by decide) (fun c525 => ?_) (fun c525 => ?_)
                · have hv := hv.1 c525
                  refine lv_iload hx hb dX6_filled_137 (lv_at hl 0 rfl) ?_
                  refine lv_if_ne (tgt := 148) hx hb dX6_filled_139 (by decide) (fun c526 => ?_) (fun c526 => ?_)
                  · have hv := hv.1 c526
                    refine lv_aload_n hx hb dX6_filled_148 rfl (lv_at hl 1 rfl) (gg_X6_55 C0 hK hP dX6_filled_149 (lv_iload hx hb dX6_filled_152 (lv_at hl 5 rfl) (lv_iload hx hb dX6_filled_154 (lv_at hl 6 rfl) (lv_iload hx hb dX6_filled_156 (lv_at hl 7 rfl) ?_))))
                    refine g_iX (g_bV (As := [.int a4, .int a5, .int a6]) (rest := []) C0 hK hP kX0_throwOfFirst ql_X6_197 (mX0_throwOfFirst hE hv) (by decide) ge_X0 rfl rfl hl.1 rfl (Nat.le_of_ble_eq_true rfl) ⟨rfl, rfl, Nat.le_of_ble_eq_true rfl, Nat.le_of_ble_eq_true rfl⟩ dX6_filled_158) hS (fun x527 μ528 H locs hv hP hS => ?_)
                    refine lv_i2l hx hb dX6_filled_161 rfl ?_
                    exact g_lretX hx hb hrt hlk hP hS hv dX6_filled_162
                  · have hv := hv.2 c526
                    refine lv_ldc2 (v := -9223372036854775808) hx hb C0.2.2.2.1 (C0.2.2.2.2 _ (gTB_at 418 rfl rfl)) dX6_filled_142 (lv_goto (tgt := 162) hx hb dX6_filled_145 (by decide) ?_)
                    exact g_lretX hx hb hrt hlk hP hS hv dX6_filled_162
                · have hv := hv.2 c525
                  refine lv_iload hx hb dX6_filled_133 (lv_at hl 0 rfl) (lv_i2l hx hb dX6_filled_135 rfl ?_)
                  exact g_lretX hx hb hrt hlk hP hS hv dX6_filled_136
              · have hv := hv.2 c511
                refine lv_ldc2 (v := -9223372036854775808) hx hb C0.2.2.2.1 (C0.2.2.2.2 _ (gTB_at 418 rfl rfl)) dX6_filled_97 ?_
                exact g_lretX hx hb hrt hlk hP hS hv dX6_filled_100
      · have hv := hv.2 c494
        refine lv_ldc2 (v := -9223372036854775808) hx hb C0.2.2.2.1 (C0.2.2.2.2 _ (gTB_at 418 rfl rfl)) dX6_filled_30 ?_
        exact g_lretX hx hb hrt hlk hP hS hv dX6_filled_33
set_option maxHeartbeats 4000000 in
set_option maxRecDepth 100000 in
theorem mX6_isKind {l : Launch} {E : gE} {μ ν : gM} {τ : gJ} {Q : Int32 → Prop} (hE : gLok E) {a0 : Int32}  (hv : vX6_isKind a0 Q) : Met l yX6_isKind (gws yX6_isKind cX6_isKind 1 (some .boolean)) (gRm 1 22) (gPc E [.int a0] μ ν τ) (gQiS E Q μ ν τ) 0 0 (gA E) := by
  refine g_entr (lv := [(0, .int a0)]) (by decide +kernel) (Nat.le_of_ble_eq_true rfl) rfl (fun p e s m args below meth c ls H locs hx hb hrt hlk C0 hK hP hS hl => ?_)
  have C0 : CallFix p m c cX6_isKind 1 s args gTB RX6 := C0
  unfold vX6_isKind at hv
  refine lv_iload_n hx hb dX6_isKind_0 rfl (lv_at hl 0 rfl) (lv_iconst (v := 0) hx hb dX6_isKind_1 (by decide) (lv_iconst (v := 2) hx hb dX6_isKind_2 (by decide) ?_))
  refine g_iS (g_bS (As := [.int a0, .int 0, .int 2]) (rest := []) C0 hK hP kX6_isWithin ql_X6_104 (mX6_isWithin hE hv) rfl hl.1 rfl (Nat.le_of_ble_eq_true rfl) ⟨rfl, rfl, Nat.le_of_ble_eq_true rfl, Nat.le_of_ble_eq_true rfl⟩ dX6_isKind_3) hS (fun x531 H locs hv hP hS => ?_)
  exact g_retS hx hb hrt hlk hP hS hv.1 hv.2 dX6_isKind_6
set_option maxHeartbeats 4000000 in
set_option maxRecDepth 100000 in
theorem mX6_kind {l : Launch} {E : gE} {μ ν : gM} {τ : gJ} {Q : Int32 → gM → Prop} (hE : gLok E) {a1 : Int32} {a2 : Int32}  (hv : vX6_kind a1 a2 μ Q) : Met l yX6_kind (gws yX6_kind cX6_kind 4 (some .int)) (gRm 3 64) (gPc E [.ref (gL E 31), .int a1, .int a2] μ ν τ) (gQiX E Q ν τ) 0 0 (gA E) := by
  refine g_entr (lv := [(0, .ref (gL E 31)), (1, .int a1), (2, .int a2)]) (by decide +kernel) (Nat.le_of_ble_eq_true rfl) rfl (fun p e s m args below meth c ls H locs hx hb hrt hlk C0 hK hP hS hl => ?_)
  have C0 : CallFix p m c cX6_kind 4 s args gTB RX6 := C0
  unfold vX6_kind at hv
  refine lv_iload_n hx hb dX6_kind_0 rfl (lv_at hl 1 rfl) ?_
  refine g_iS (g_bS (As := [.int a1]) (rest := []) C0 hK hP kX6_isBall ql_X6_200 (mX6_isBall hE hv) rfl hl.1 rfl (Nat.le_of_ble_eq_true rfl) ⟨rfl, rfl, Nat.le_of_ble_eq_true rfl, Nat.le_of_ble_eq_true rfl⟩ dX6_kind_1) hS (fun x529 H locs hv hP hS => ?_)
  refine lv_if_ne (tgt := 9) hx hb dX6_kind_4 (by decide) (fun c530 => ?_) (fun c530 => ?_)
  · have hv := hv.1 c530
    refine lv_iload_n hx hb dX6_kind_9 rfl (lv_at hl 2 rfl) ?_
    refine g_iS (g_bS (As := [.int a2]) (rest := []) C0 hK hP kX6_isKind ql_X6_203 (mX6_isKind hE hv) rfl hl.1 rfl (Nat.le_of_ble_eq_true rfl) ⟨rfl, rfl, Nat.le_of_ble_eq_true rfl, Nat.le_of_ble_eq_true rfl⟩ dX6_kind_10) hS (fun x532 H locs hv hP hS => ?_)
    refine lv_if_ne (tgt := 19) hx hb dX6_kind_13 (by decide) (fun c533 => ?_) (fun c533 => ?_)
    · have hv := hv.1 c533
      refine lv_aload_n hx hb dX6_kind_19 rfl (lv_at hl 0 rfl) (gg_X6_41 C0 hK hP dX6_kind_20 (lv_iload_n hx hb dX6_kind_23 rfl (lv_at hl 1 rfl) ?_))
      refine g_iX (g_bV (As := [.int a1]) (rest := []) C0 hK hP kX2_kindOf ql_X6_206 (mX2_kindOf hE hv) (by decide) ge_X2 rfl rfl hl.1 rfl (Nat.le_of_ble_eq_true rfl) ⟨rfl, rfl, Nat.le_of_ble_eq_true rfl, Nat.le_of_ble_eq_true rfl⟩ dX6_kind_24) hS (fun x534 μ535 H locs hv hP hS => ?_)
      refine lv_istore_n (lv' := [(3, .int x534), (0, .ref (gL E 31)), (1, .int a1), (2, .int a2)]) hx hb dX6_kind_27 rfl hl (by decide) rfl (fun ls hl => (lv_aload_n hx hb dX6_kind_28 rfl (lv_at hl 1 rfl) (gg_X6_41 C0 hK hP dX6_kind_29 (lv_iload_n hx hb dX6_kind_32 rfl (lv_at hl 2 rfl) (lv_iload_n hx hb dX6_kind_33 rfl (lv_at hl 3 rfl) ?_)))))
      refine g_vX (g_bV (As := [.int a1, .int a2]) (rest := []) C0 hK hP kX2_setKind ql_X6_209 (mX2_setKind hE hv) (by decide) ge_X2 rfl rfl hl.1 rfl (Nat.le_of_ble_eq_true rfl) ⟨rfl, rfl, Nat.le_of_ble_eq_true rfl, Nat.le_of_ble_eq_true rfl⟩ dX6_kind_34) hS (fun μ537 H locs hv hP hS => ?_)
      refine lv_iload_n hx hb dX6_kind_37 rfl (lv_at hl 0 rfl) ?_
      exact g_retX hx hb hrt hlk hP hS rfl hv dX6_kind_38
    · have hv := hv.2 c533
      refine lv_bipush (v := (-2)) hx hb dX6_kind_16 (by decide) ?_
      exact g_retX hx hb hrt hlk hP hS rfl hv dX6_kind_18
  · have hv := hv.2 c530
    refine lv_iconst (v := (-1)) hx hb dX6_kind_7 (by decide) ?_
    exact g_retX hx hb hrt hlk hP hS rfl hv dX6_kind_8
set_option maxHeartbeats 4000000 in
set_option maxRecDepth 100000 in
theorem mX6_broken {l : Launch} {E : gE} {μ ν : gM} {τ : gJ} {Q : Int32 → gM → Prop} (hE : gLok E)   (hv : vX6_broken μ Q) : Met l yX6_broken (gws yX6_broken cX6_broken 4 (some .int)) (gRm 5 106) (gPc E [.ref (gL E 31)] μ ν τ) (gQiX E Q ν τ) 0 0 (gA E) := by
  refine g_entr (lv := [(0, .ref (gL E 31))]) (by decide +kernel) (Nat.le_of_ble_eq_true rfl) rfl (fun p e s m args below meth c ls H locs hx hb hrt hlk C0 hK hP hS hl => ?_)
  have C0 : CallFix p m c cX6_broken 4 s args gTB RX6 := C0
  have h_24 : ∀ (n_24 : Nat) (v1 : Int32) (v2 : Int32) (μ : gM) (H : Heap) (locs : List Loc) (ls : Array Slot), va_P (gD E) vwCl (wl E μ ν τ) H → va_S (gA E) s.heap H locs → lv_has ls 4 [(0, .ref (gL E 31)), (1, .int v1), (2, .int v2)] → vX6_broken_24 Q n_24 v1 v2 μ → W p l e (gRm 5 106) s m args below meth c H locs 0 0 (MQ below (gQiX E Q ν τ) args s 0 0 (gA E)) (F0 m 24 ls []) := by
    intro n_24
    induction n_24 with
    | zero =>
      intro v1 v2 μ H locs ls hP hS hl hv
      exact False.elim hv
    | succ n_24 ih_24 =>
      intro v1 v2 μ H locs ls hP hS hl hv
      have hv : vX6_broken_24B Q (vX6_broken_24 Q n_24) v1 v2 μ := hv
      unfold vX6_broken_24B at hv
      refine lv_iload_n hx hb dX6_broken_24 rfl (lv_at hl 2 rfl) (lv_bipush (v := 81) hx hb dX6_broken_25 (by decide) ?_)
      refine lv_icmp_ge (tgt := 84) hx hb dX6_broken_27 (by decide) (fun c543 => ?_) (fun c543 => ?_)
      · have hv := hv.1 c543
        refine lv_iload_n hx hb dX6_broken_84 rfl (lv_at hl 1 rfl) ?_
        exact g_retX hx hb hrt hlk hP hS rfl hv dX6_broken_85
      · have hv := hv.2 c543
        refine lv_aload_n hx hb dX6_broken_30 rfl (lv_at hl 0 rfl) (gg_X6_34 C0 hK hP dX6_broken_31 (lv_iload_n hx hb dX6_broken_34 rfl (lv_at hl 2 rfl) (lv_aload_n hx hb dX6_broken_35 rfl (lv_at hl 0 rfl) (gg_X6_12 C0 hK hP dX6_broken_36 (lv_iload_n hx hb dX6_broken_39 rfl (lv_at hl 2 rfl) ?_)))))
        refine g_iX (g_bV (As := [.int v2]) (rest := [.int v2, .ref (gL E 18)]) C0 hK hP kX3_heightIn ql_X6_92 (mX3_heightIn hE (by decide) hv) (by decide) (gen_row (by decide)) rfl rfl hl.1 rfl (Nat.le_of_ble_eq_true rfl) ⟨rfl, rfl, Nat.le_of_ble_eq_true rfl, Nat.le_of_ble_eq_true rfl⟩ dX6_broken_40) hS (fun x544 μ545 H locs hv hP hS => ?_)
        refine g_iX (g_bV (As := [.int v2, .int x544]) (rest := []) C0 hK hP kX1_pass ql_X6_132 (mX1_pass hE hv) (by decide) ge_X1 rfl rfl hl.1 rfl (Nat.le_of_ble_eq_true rfl) ⟨rfl, rfl, Nat.le_of_ble_eq_true rfl, Nat.le_of_ble_eq_true rfl⟩ dX6_broken_43) hS (fun x546 μ547 H locs hv hP hS => ?_)
        refine lv_istore_n (lv' := [(3, .int x546), (0, .ref (gL E 31)), (1, .int v1), (2, .int v2)]) hx hb dX6_broken_46 rfl hl (by decide) rfl (fun ls hl => (lv_iload_n hx hb dX6_broken_47 rfl (lv_at hl 0 rfl) (lv_bipush (v := (-9)) hx hb dX6_broken_48 (by decide) ?_)))
        refine lv_icmp_eq (tgt := 78) hx hb dX6_broken_50 (by decide) (fun c548 => ?_) (fun c548 => ?_)
        · have hv := hv.1 c548
          refine lv_iinc (v := (v2 + 1)) (lv' := [(2, .int (v2 + 1)), (3, .int x546), (0, .ref (gL E 31)), (1, .int v1)]) hx hb dX6_broken_78 hl (k := 3) rfl rfl (by decide) rfl (fun ls hl => (lv_goto (tgt := 24) hx hb dX6_broken_81 (by decide) ?_))
          exact ih_24 v1 (v2 + 1) μ547 H locs ls hP hS (lv_sub hl [2, 3, 0] rfl) hv
        · have hv := hv.2 c548
          refine lv_aload_n hx hb dX6_broken_53 rfl (lv_at hl 1 rfl) (gg_X6_12 C0 hK hP dX6_broken_54 (lv_iload_n hx hb dX6_broken_57 rfl (lv_at hl 3 rfl) ?_))
          refine g_iX (g_bV (As := [.int v2]) (rest := []) C0 hK hP kX3_heightIn ql_X6_92 (mX3_heightIn hE (by decide) hv) (by decide) (gen_row (by decide)) rfl rfl hl.1 rfl (Nat.le_of_ble_eq_true rfl) ⟨rfl, rfl, Nat.le_of_ble_eq_true rfl, Nat.le_of_ble_eq_true rfl⟩ dX6_broken_58) hS (fun x549 μ550 H locs hv hP hS => ?_)
          refine lv_aload_n hx hb dX6_broken_61 rfl (lv_at hl 1 rfl) (gg_X6_41 C0 hK hP dX6_broken_62 (lv_iload_n hx hb dX6_broken_65 rfl (lv_at hl 0 rfl) ?_))
          refine g_iX (g_bV (As := [.int x546]) (rest := [.int x549]) C0 hK hP kX2_mayGo ql_X6_212 (mX2_mayGo hE hv) (by decide) ge_X2 rfl rfl hl.1 rfl (Nat.le_of_ble_eq_true rfl) ⟨rfl, rfl, Nat.le_of_ble_eq_true rfl, Nat.le_of_ble_eq_true rfl⟩ dX6_broken_66) hS (fun x551 μ552 H locs hv hP hS => ?_)
          refine lv_icmp_le (tgt := 78) hx hb dX6_broken_69 (by decide) (fun c553 => ?_) (fun c553 => ?_)
          · have hv := hv.1 c553
            refine lv_iinc (v := (v2 + 1)) (lv' := [(2, .int (v2 + 1)), (3, .int x546), (0, .ref (gL E 31)), (1, .int v1)]) hx hb dX6_broken_78 hl (k := 3) rfl rfl (by decide) rfl (fun ls hl => (lv_goto (tgt := 24) hx hb dX6_broken_81 (by decide) ?_))
            exact ih_24 v1 (v2 + 1) μ552 H locs ls hP hS (lv_sub hl [2, 3, 0] rfl) hv
          · have hv := hv.2 c553
            refine lv_iload_n hx hb dX6_broken_72 rfl (lv_at hl 2 rfl) (lv_iconst (v := 1) hx hb dX6_broken_73 (by decide) (lv_iload_n hx hb dX6_broken_74 rfl (lv_at hl 0 rfl) (lv_ishl hx hb dX6_broken_75 (lv_ior hx hb dX6_broken_76 (lv_istore_n (lv' := [(1, .int (v1 ||| ((1 : Int32) <<< (x546 &&& 31)))), (3, .int x546), (0, .ref (gL E 31)), (2, .int v2)]) hx hb dX6_broken_77 rfl hl (by decide) rfl (fun ls hl => (lv_iinc (v := (v2 + 1)) (lv' := [(2, .int (v2 + 1)), (1, .int (v1 ||| ((1 : Int32) <<< (x546 &&& 31)))), (3, .int x546), (0, .ref (gL E 31))]) hx hb dX6_broken_78 hl (k := 3) rfl rfl (by decide) rfl (fun ls hl => (lv_goto (tgt := 24) hx hb dX6_broken_81 (by decide) ?_)))))))))
            exact ih_24 (v1 ||| ((1 : Int32) <<< (x546 &&& 31))) (v2 + 1) μ552 H locs ls hP hS (lv_sub hl [3, 1, 0] rfl) hv
  unfold vX6_broken at hv
  refine lv_aload_n hx hb dX6_broken_0 rfl (lv_at hl 0 rfl) (gg_X6_12 C0 hK hP dX6_broken_1 ?_)
  refine g_iX (g_bV (As := []) (rest := []) C0 hK hP kX3_isGood ql_X6_108 (mX3_isGood hE (by decide) hv) (by decide) (gen_row (by decide)) rfl rfl hl.1 rfl (Nat.le_of_ble_eq_true rfl) ⟨rfl, rfl, Nat.le_of_ble_eq_true rfl, Nat.le_of_ble_eq_true rfl⟩ dX6_broken_4) hS (fun x538 μ539 H locs hv hP hS => ?_)
  refine lv_if_ne (tgt := 13) hx hb dX6_broken_7 (by decide) (fun c540 => ?_) (fun c540 => ?_)
  · have hv := hv.1 c540
    refine lv_aload_n hx hb dX6_broken_13 rfl (lv_at hl 0 rfl) (gg_X6_34 C0 hK hP dX6_broken_14 ?_)
    refine g_vX (g_bV (As := []) (rest := []) C0 hK hP kX1_begin ql_X6_129 (mX1_begin hE hv) (by decide) ge_X1 rfl rfl hl.1 rfl (Nat.le_of_ble_eq_true rfl) ⟨rfl, rfl, Nat.le_of_ble_eq_true rfl, Nat.le_of_ble_eq_true rfl⟩ dX6_broken_17) hS (fun μ542 H locs hv hP hS => ?_)
    refine lv_iconst (v := 0) hx hb dX6_broken_20 (by decide) (lv_istore_n (lv' := [(1, .int 0), (0, .ref (gL E 31))]) hx hb dX6_broken_21 rfl hl (by decide) rfl (fun ls hl => (lv_iconst (v := 0) hx hb dX6_broken_22 (by decide) (lv_istore_n (lv' := [(2, .int 0), (1, .int 0), (0, .ref (gL E 31))]) hx hb dX6_broken_23 rfl hl (by decide) rfl (fun ls hl => ?_)))))
    obtain ⟨nf, hv⟩ := hv
    exact h_24 nf 0 0 μ542 H locs ls hP hS (lv_sub hl [2, 1, 0] rfl) hv
  · have hv := hv.2 c540
    refine lv_bipush (v := (-3)) hx hb dX6_broken_10 (by decide) ?_
    exact g_retX hx hb hrt hlk hP hS rfl hv dX6_broken_12
set_option maxHeartbeats 4000000 in
set_option maxRecDepth 100000 in
theorem mX6_drop {l : Launch} {E : gE} {μ ν : gM} {τ : gJ} {Q : Int32 → gM → Prop} (hE : gLok E) {a1 : Int32}  (hv : vX6_drop a1 μ Q) : Met l yX6_drop (gws yX6_drop cX6_drop 3 (some .int)) (gRm 1 22) (gPc E [.ref (gL E 31), .int a1] μ ν τ) (gQiX E Q ν τ) 0 0 (gA E) := by
  refine g_entr (lv := [(0, .ref (gL E 31)), (1, .int a1)]) (by decide +kernel) (Nat.le_of_ble_eq_true rfl) rfl (fun p e s m args below meth c ls H locs hx hb hrt hlk C0 hK hP hS hl => ?_)
  have C0 : CallFix p m c cX6_drop 3 s args gTB RX6 := C0
  unfold vX6_drop at hv
  refine lv_iload_n hx hb dX6_drop_0 rfl (lv_at hl 1 rfl) (lv_iconst (v := 0) hx hb dX6_drop_1 (by decide) (lv_sipush (v := 1023) hx hb dX6_drop_2 (by decide) ?_))
  refine g_iS (g_bS (As := [.int a1, .int 0, .int 1023]) (rest := []) C0 hK hP kX6_isWithin ql_X6_104 (mX6_isWithin hE hv) rfl hl.1 rfl (Nat.le_of_ble_eq_true rfl) ⟨rfl, rfl, Nat.le_of_ble_eq_true rfl, Nat.le_of_ble_eq_true rfl⟩ dX6_drop_5) hS (fun x554 H locs hv hP hS => ?_)
  refine lv_if_ne (tgt := 14) hx hb dX6_drop_8 (by decide) (fun c555 => ?_) (fun c555 => ?_)
  · have hv := hv.1 c555
    refine lv_aload_n hx hb dX6_drop_14 rfl (lv_at hl 0 rfl) (gg_X6_12 C0 hK hP dX6_drop_15 ?_)
    refine g_iX (g_bV (As := []) (rest := []) C0 hK hP kX3_isThere ql_X6_96 (mX3_isThere hE (by decide) hv) (by decide) (gen_row (by decide)) rfl rfl hl.1 rfl (Nat.le_of_ble_eq_true rfl) ⟨rfl, rfl, Nat.le_of_ble_eq_true rfl, Nat.le_of_ble_eq_true rfl⟩ dX6_drop_18) hS (fun x556 μ557 H locs hv hP hS => ?_)
    refine lv_if_ne (tgt := 27) hx hb dX6_drop_21 (by decide) (fun c558 => ?_) (fun c558 => ?_)
    · have hv := hv.1 c558
      refine lv_aload_n hx hb dX6_drop_27 rfl (lv_at hl 0 rfl) (gg_X6_215 C0 hK hP dX6_drop_28 (lv_istore_n (lv' := [(2, .int (μ557 31 9)), (0, .ref (gL E 31)), (1, .int a1)]) hx hb dX6_drop_31 rfl hl (by decide) rfl (fun ls hl => (lv_aload_n hx hb dX6_drop_32 rfl (lv_at hl 1 rfl) (lv_iload_n hx hb dX6_drop_33 rfl (lv_at hl 2 rfl) (gp_X6_215 hE C0 hK hP hS dX6_drop_34 (fun H locs hP hS => (lv_iload_n hx hb dX6_drop_37 rfl (lv_at hl 0 rfl) ?_))))))))
      exact g_retX hx hb hrt hlk hP hS rfl hv dX6_drop_38
    · have hv := hv.2 c558
      refine lv_bipush (v := (-3)) hx hb dX6_drop_24 (by decide) ?_
      exact g_retX hx hb hrt hlk hP hS rfl hv dX6_drop_26
  · have hv := hv.2 c555
    refine lv_bipush (v := (-2)) hx hb dX6_drop_11 (by decide) ?_
    exact g_retX hx hb hrt hlk hP hS rfl hv dX6_drop_13
set_option maxHeartbeats 4000000 in
set_option maxRecDepth 100000 in
theorem mX6_empty {l : Launch} {E : gE} {μ ν : gM} {τ : gJ} {Q : Int32 → gM → Prop} (hE : gLok E) {a1 : Int32}  (hv : vX6_empty a1 μ Q) : Met l yX6_empty (gws yX6_empty cX6_empty 5 (some .int)) (gRm 5 106) (gPc E [.ref (gL E 31), .int a1] μ ν τ) (gQiX E Q ν τ) 0 0 (gA E) := by
  refine g_entr (lv := [(0, .ref (gL E 31)), (1, .int a1)]) (by decide +kernel) (Nat.le_of_ble_eq_true rfl) rfl (fun p e s m args below meth c ls H locs hx hb hrt hlk C0 hK hP hS hl => ?_)
  have C0 : CallFix p m c cX6_empty 5 s args gTB RX6 := C0
  have h_38 : ∀ (n_38 : Nat) (v2 : Int32) (v3 : Int32) (μ : gM) (H : Heap) (locs : List Loc) (ls : Array Slot), va_P (gD E) vwCl (wl E μ ν τ) H → va_S (gA E) s.heap H locs → lv_has ls 5 [(0, .ref (gL E 31)), (1, .int a1), (2, .int v2), (3, .int v3)] → vX6_empty_38 a1 Q n_38 v2 v3 μ → W p l e (gRm 5 106) s m args below meth c H locs 0 0 (MQ below (gQiX E Q ν τ) args s 0 0 (gA E)) (F0 m 38 ls []) := by
    intro n_38
    induction n_38 with
    | zero =>
      intro v2 v3 μ H locs ls hP hS hl hv
      exact False.elim hv
    | succ n_38 ih_38 =>
      intro v2 v3 μ H locs ls hP hS hl hv
      have hv : vX6_empty_38B a1 Q (vX6_empty_38 a1 Q n_38) v2 v3 μ := hv
      unfold vX6_empty_38B at hv
      refine lv_iload_n hx hb dX6_empty_38 rfl (lv_at hl 3 rfl) (lv_iload_n hx hb dX6_empty_39 rfl (lv_at hl 1 rfl) ?_)
      refine lv_icmp_gt (tgt := 90) hx hb dX6_empty_40 (by decide) (fun c566 => ?_) (fun c566 => ?_)
      · have hv := hv.1 c566
        refine lv_iload_n hx hb dX6_empty_90 rfl (lv_at hl 2 rfl) ?_
        exact g_retX hx hb hrt hlk hP hS rfl hv dX6_empty_91
      · have hv := hv.2 c566
        refine lv_aload_n hx hb dX6_empty_43 rfl (lv_at hl 0 rfl) (gg_X6_34 C0 hK hP dX6_empty_44 (lv_iload_n hx hb dX6_empty_47 rfl (lv_at hl 3 rfl) (lv_aload_n hx hb dX6_empty_48 rfl (lv_at hl 0 rfl) (gg_X6_12 C0 hK hP dX6_empty_49 (lv_iload_n hx hb dX6_empty_52 rfl (lv_at hl 3 rfl) ?_)))))
        refine g_iX (g_bV (As := [.int v3]) (rest := [.int v3, .ref (gL E 18)]) C0 hK hP kX3_heightIn ql_X6_92 (mX3_heightIn hE (by decide) hv) (by decide) (gen_row (by decide)) rfl rfl hl.1 rfl (Nat.le_of_ble_eq_true rfl) ⟨rfl, rfl, Nat.le_of_ble_eq_true rfl, Nat.le_of_ble_eq_true rfl⟩ dX6_empty_53) hS (fun x567 μ568 H locs hv hP hS => ?_)
        refine g_iX (g_bV (As := [.int v3, .int x567]) (rest := []) C0 hK hP kX1_pass ql_X6_132 (mX1_pass hE hv) (by decide) ge_X1 rfl rfl hl.1 rfl (Nat.le_of_ble_eq_true rfl) ⟨rfl, rfl, Nat.le_of_ble_eq_true rfl, Nat.le_of_ble_eq_true rfl⟩ dX6_empty_56) hS (fun x569 μ570 H locs hv hP hS => ?_)
        refine lv_istore (lv' := [(4, .int x569), (0, .ref (gL E 31)), (1, .int a1), (2, .int v2), (3, .int v3)]) hx hb dX6_empty_59 hl (by decide) rfl (fun ls hl => (lv_iload hx hb dX6_empty_61 (lv_at hl 0 rfl) (lv_bipush (v := (-9)) hx hb dX6_empty_63 (by decide) ?_)))
        refine lv_icmp_eq (tgt := 84) hx hb dX6_empty_65 (by decide) (fun c571 => ?_) (fun c571 => ?_)
        · have hv := hv.1 c571
          refine lv_iinc (v := (v3 + 1)) (lv' := [(3, .int (v3 + 1)), (4, .int x569), (0, .ref (gL E 31)), (1, .int a1), (2, .int v2)]) hx hb dX6_empty_84 hl (k := 4) rfl rfl (by decide) rfl (fun ls hl => (lv_goto (tgt := 38) hx hb dX6_empty_87 (by decide) ?_))
          exact ih_38 v2 (v3 + 1) μ570 H locs ls hP hS (lv_sub hl [2, 3, 4, 0] rfl) hv
        · have hv := hv.2 c571
          refine lv_aload_n hx hb dX6_empty_68 rfl (lv_at hl 1 rfl) (gg_X6_215 C0 hK hP dX6_empty_69 (lv_iload hx hb dX6_empty_72 (lv_at hl 0 rfl) (lv_ishr hx hb dX6_empty_74 (lv_iconst (v := 1) hx hb dX6_empty_75 (by decide) (lv_iand hx hb dX6_empty_76 (lv_iconst (v := 1) hx hb dX6_empty_77 (by decide) ?_))))))
          refine lv_icmp_ne (tgt := 84) hx hb dX6_empty_78 (by decide) (fun c572 => ?_) (fun c572 => ?_)
          · have hv := hv.1 c572
            refine lv_iinc (v := (v3 + 1)) (lv' := [(3, .int (v3 + 1)), (4, .int x569), (0, .ref (gL E 31)), (1, .int a1), (2, .int v2)]) hx hb dX6_empty_84 hl (k := 4) rfl rfl (by decide) rfl (fun ls hl => (lv_goto (tgt := 38) hx hb dX6_empty_87 (by decide) ?_))
            exact ih_38 v2 (v3 + 1) μ570 H locs ls hP hS (lv_sub hl [2, 3, 4, 0] rfl) hv
          · have hv := hv.2 c572
            refine lv_iinc (v := (v2 + 1)) (lv' := [(2, .int (v2 + 1)), (4, .int x569), (0, .ref (gL E 31)), (1, .int a1), (3, .int v3)]) hx hb dX6_empty_81 hl (k := 3) rfl rfl (by decide) rfl (fun ls hl => (lv_iinc (v := (v3 + 1)) (lv' := [(3, .int (v3 + 1)), (2, .int (v2 + 1)), (4, .int x569), (0, .ref (gL E 31)), (1, .int a1)]) hx hb dX6_empty_84 hl (k := 4) rfl rfl (by decide) rfl (fun ls hl => (lv_goto (tgt := 38) hx hb dX6_empty_87 (by decide) ?_))))
            exact ih_38 (v2 + 1) (v3 + 1) μ570 H locs ls hP hS (lv_sub hl [3, 4, 1, 0] rfl) hv
  unfold vX6_empty at hv
  refine lv_iload_n hx hb dX6_empty_0 rfl (lv_at hl 1 rfl) (lv_iconst (v := 0) hx hb dX6_empty_1 (by decide) (lv_sipush (v := 999) hx hb dX6_empty_2 (by decide) ?_))
  refine g_iS (g_bS (As := [.int a1, .int 0, .int 999]) (rest := []) C0 hK hP kX6_isWithin ql_X6_104 (mX6_isWithin hE hv) rfl hl.1 rfl (Nat.le_of_ble_eq_true rfl) ⟨rfl, rfl, Nat.le_of_ble_eq_true rfl, Nat.le_of_ble_eq_true rfl⟩ dX6_empty_5) hS (fun x559 H locs hv hP hS => ?_)
  refine lv_if_ne (tgt := 14) hx hb dX6_empty_8 (by decide) (fun c560 => ?_) (fun c560 => ?_)
  · have hv := hv.1 c560
    refine lv_aload_n hx hb dX6_empty_14 rfl (lv_at hl 0 rfl) (gg_X6_12 C0 hK hP dX6_empty_15 ?_)
    refine g_iX (g_bV (As := []) (rest := []) C0 hK hP kX3_isGood ql_X6_108 (mX3_isGood hE (by decide) hv) (by decide) (gen_row (by decide)) rfl rfl hl.1 rfl (Nat.le_of_ble_eq_true rfl) ⟨rfl, rfl, Nat.le_of_ble_eq_true rfl, Nat.le_of_ble_eq_true rfl⟩ dX6_empty_18) hS (fun x561 μ562 H locs hv hP hS => ?_)
    refine lv_if_ne (tgt := 27) hx hb dX6_empty_21 (by decide) (fun c563 => ?_) (fun c563 => ?_)
    · have hv := hv.1 c563
      refine lv_aload_n hx hb dX6_empty_27 rfl (lv_at hl 0 rfl) (gg_X6_34 C0 hK hP dX6_empty_28 ?_)
      refine g_vX (g_bV (As := []) (rest := []) C0 hK hP kX1_begin ql_X6_129 (mX1_begin hE hv) (by decide) ge_X1 rfl rfl hl.1 rfl (Nat.le_of_ble_eq_true rfl) ⟨rfl, rfl, Nat.le_of_ble_eq_true rfl, Nat.le_of_ble_eq_true rfl⟩ dX6_empty_31) hS (fun μ565 H locs hv hP hS => ?_)
      refine lv_iconst (v := 0) hx hb dX6_empty_34 (by decide) (lv_istore_n (lv' := [(2, .int 0), (0, .ref (gL E 31)), (1, .int a1)]) hx hb dX6_empty_35 rfl hl (by decide) rfl (fun ls hl => (lv_iconst (v := 0) hx hb dX6_empty_36 (by decide) (lv_istore_n (lv' := [(3, .int 0), (2, .int 0), (0, .ref (gL E 31)), (1, .int a1)]) hx hb dX6_empty_37 rfl hl (by decide) rfl (fun ls hl => ?_)))))
      obtain ⟨nf, hv⟩ := hv
      exact h_38 nf 0 0 μ565 H locs ls hP hS (lv_sub hl [2, 3, 1, 0] rfl) hv
    · have hv := hv.2 c563
      refine lv_bipush (v := (-3)) hx hb dX6_empty_24 (by decide) ?_
      exact g_retX hx hb hrt hlk hP hS rfl hv dX6_empty_26
  · have hv := hv.2 c560
    refine lv_bipush (v := (-2)) hx hb dX6_empty_11 (by decide) ?_
    exact g_retX hx hb hrt hlk hP hS rfl hv dX6_empty_13
set_option maxHeartbeats 4000000 in
set_option maxRecDepth 100000 in
theorem mX6_faulted {l : Launch} {E : gE} {μ ν : gM} {τ : gJ} {Q : Int32 → gM → Prop} (hE : gLok E) {a1 : Int32}  (hv : vX6_faulted a1 μ Q) : Met l yX6_faulted (gws yX6_faulted cX6_faulted 2 (some .int)) (gRm 0 0) (gPc E [.ref (gL E 31), .int a1] μ ν τ) (gQiX E Q ν τ) 0 0 (gA E) := by
  refine g_entr (lv := [(0, .ref (gL E 31)), (1, .int a1)]) (by decide +kernel) (Nat.le_of_ble_eq_true rfl) rfl (fun p e s m args below meth c ls H locs hx hb hrt hlk C0 hK hP hS hl => ?_)
  have C0 : CallFix p m c cX6_faulted 2 s args gTB RX6 := C0
  unfold vX6_faulted at hv
  refine lv_aload_n hx hb dX6_faulted_0 rfl (lv_at hl 0 rfl) (lv_iload_n hx hb dX6_faulted_1 rfl (lv_at hl 1 rfl) (gp_X6_64 hE C0 hK hP hS dX6_faulted_2 (fun H locs hP hS => (lv_bipush (v := (-10)) hx hb dX6_faulted_5 (by decide) (lv_iload_n hx hb dX6_faulted_7 rfl (lv_at hl 1 rfl) (lv_isub hx hb dX6_faulted_8 ?_))))))
  exact g_retX hx hb hrt hlk hP hS rfl hv dX6_faulted_9
set_option maxHeartbeats 4000000 in
set_option maxRecDepth 100000 in
theorem mX6_sheet {l : Launch} {E : gE} {μ ν : gM} {τ : gJ} {Q : Int32 → gM → Prop} (hE : gLok E) {a1 : Int32} {a2 : Int32} {a3 : Int32}  (hv : vX6_sheet a1 a2 a3 μ Q) : Met l yX6_sheet (gws yX6_sheet cX6_sheet 4 (some .int)) (gRm 2 45) (gPc E [.ref (gL E 31), .int a1, .int a2, .int a3] μ ν τ) (gQiX E Q ν τ) 0 0 (gA E) := by
  refine g_entr (lv := [(0, .ref (gL E 31)), (1, .int a1), (2, .int a2), (3, .int a3)]) (by decide +kernel) (Nat.le_of_ble_eq_true rfl) rfl (fun p e s m args below meth c ls H locs hx hb hrt hlk C0 hK hP hS hl => ?_)
  have C0 : CallFix p m c cX6_sheet 4 s args gTB RX6 := C0
  unfold vX6_sheet at hv
  refine lv_aload_n hx hb dX6_sheet_0 rfl (lv_at hl 0 rfl) (lv_iconst (v := 0) hx hb dX6_sheet_1 (by decide) (gp_X6_64 hE C0 hK hP hS dX6_sheet_2 (fun H locs hP hS => (lv_iload_n hx hb dX6_sheet_5 rfl (lv_at hl 1 rfl) ?_))))
  refine g_iS (g_bS (As := [.int a1]) (rest := []) C0 hK hP kX6_isSheet ql_X6_67 (mX6_isSheet hE hv) rfl hl.1 rfl (Nat.le_of_ble_eq_true rfl) ⟨rfl, rfl, Nat.le_of_ble_eq_true rfl, Nat.le_of_ble_eq_true rfl⟩ dX6_sheet_6) hS (fun x573 H locs hv hP hS => ?_)
  refine lv_if_ne (tgt := 14) hx hb dX6_sheet_9 (by decide) (fun c574 => ?_) (fun c574 => ?_)
  · have hv := hv.1 c574
    refine lv_iload_n hx hb dX6_sheet_14 rfl (lv_at hl 2 rfl) ?_
    refine g_iS (g_bS (As := [.int a2]) (rest := []) C0 hK hP kX6_isSort ql_X6_71 (mX6_isSort hE hv) rfl hl.1 rfl (Nat.le_of_ble_eq_true rfl) ⟨rfl, rfl, Nat.le_of_ble_eq_true rfl, Nat.le_of_ble_eq_true rfl⟩ dX6_sheet_15) hS (fun x575 H locs hv hP hS => ?_)
    refine lv_if_eq (tgt := 27) hx hb dX6_sheet_18 (by decide) (fun c576 => ?_) (fun c576 => ?_)
    · have hv := hv.1 c576
      refine lv_bipush (v := (-2)) hx hb dX6_sheet_27 (by decide) ?_
      exact g_retX hx hb hrt hlk hP hS rfl hv dX6_sheet_29
    · have hv := hv.2 c576
      refine lv_iload_n hx hb dX6_sheet_21 rfl (lv_at hl 3 rfl) (lv_bipush (v := 40) hx hb dX6_sheet_22 (by decide) ?_)
      refine lv_icmp_le (tgt := 30) hx hb dX6_sheet_24 (by decide) (fun c577 => ?_) (fun c577 => ?_)
      · have hv := hv.1 c577
        refine lv_iload_n hx hb dX6_sheet_30 rfl (lv_at hl 3 rfl) ?_
        refine lv_if_ge (tgt := 40) hx hb dX6_sheet_31 (by decide) (fun c578 => ?_) (fun c578 => ?_)
        · have hv := hv.1 c578
          refine lv_aload_n hx hb dX6_sheet_40 rfl (lv_at hl 0 rfl) (gg_X6_27 C0 hK hP dX6_sheet_41 (lv_iload_n hx hb dX6_sheet_44 rfl (lv_at hl 1 rfl) ?_))
          have hi579 := hv.1
          have hv := hv.2
          refine g_aaS hx hb hK hP hi579 dX6_sheet_45 (lv_iload_n hx hb dX6_sheet_46 rfl (lv_at hl 2 rfl) (lv_iload_n hx hb dX6_sheet_47 rfl (lv_at hl 3 rfl) ?_))
          refine g_vX (g_bV (As := [.int a2, .int a3]) (rest := []) C0 hK hP kX4_renew ql_X6_221 (mX4_renew hE (vin_lt hi579) hv) (by have := (vin_lt hi579); omega) (gen_sheet (vin_lt hi579)) rfl rfl hl.1 rfl (Nat.le_of_ble_eq_true rfl) ⟨rfl, rfl, Nat.le_of_ble_eq_true rfl, Nat.le_of_ble_eq_true rfl⟩ dX6_sheet_48) hS (fun μ581 H locs hv hP hS => ?_)
          refine lv_iconst (v := 1) hx hb dX6_sheet_51 (by decide) ?_
          exact g_retX hx hb hrt hlk hP hS rfl hv dX6_sheet_52
        · have hv := hv.2 c578
          refine lv_aload_n hx hb dX6_sheet_34 rfl (lv_at hl 0 rfl) (lv_iconst (v := 4) hx hb dX6_sheet_35 (by decide) ?_)
          refine g_iX (g_bV (As := [.int 4]) (rest := []) C0 hK hP kX6_faulted ql_X6_218 (mX6_faulted hE hv) (by decide) ge_X6 rfl rfl hl.1 rfl (Nat.le_of_ble_eq_true rfl) ⟨rfl, rfl, Nat.le_of_ble_eq_true rfl, Nat.le_of_ble_eq_true rfl⟩ dX6_sheet_36) hS (fun x582 μ583 H locs hv hP hS => ?_)
          exact g_retX hx hb hrt hlk hP hS rfl hv dX6_sheet_39
      · have hv := hv.2 c577
        refine lv_bipush (v := (-2)) hx hb dX6_sheet_27 (by decide) ?_
        exact g_retX hx hb hrt hlk hP hS rfl hv dX6_sheet_29
  · have hv := hv.2 c574
    refine lv_iconst (v := (-1)) hx hb dX6_sheet_12 (by decide) ?_
    exact g_retX hx hb hrt hlk hP hS rfl hv dX6_sheet_13
set_option maxHeartbeats 4000000 in
set_option maxRecDepth 100000 in
theorem mX6_lose {l : Launch} {E : gE} {μ ν : gM} {τ : gJ} {Q : Int32 → gM → Prop} (hE : gLok E) {a1 : Int32}  (hv : vX6_lose a1 μ Q) : Met l yX6_lose (gws yX6_lose cX6_lose 2 (some .int)) (gRm 2 42) (gPc E [.ref (gL E 31), .int a1] μ ν τ) (gQiX E Q ν τ) 0 0 (gA E) := by
  refine g_entr (lv := [(0, .ref (gL E 31)), (1, .int a1)]) (by decide +kernel) (Nat.le_of_ble_eq_true rfl) rfl (fun p e s m args below meth c ls H locs hx hb hrt hlk C0 hK hP hS hl => ?_)
  have C0 : CallFix p m c cX6_lose 2 s args gTB RX6 := C0
  unfold vX6_lose at hv
  refine lv_iload_n hx hb dX6_lose_0 rfl (lv_at hl 1 rfl) ?_
  refine g_iS (g_bS (As := [.int a1]) (rest := []) C0 hK hP kX6_isSheet ql_X6_67 (mX6_isSheet hE hv) rfl hl.1 rfl (Nat.le_of_ble_eq_true rfl) ⟨rfl, rfl, Nat.le_of_ble_eq_true rfl, Nat.le_of_ble_eq_true rfl⟩ dX6_lose_1) hS (fun x584 H locs hv hP hS => ?_)
  refine lv_if_ne (tgt := 9) hx hb dX6_lose_4 (by decide) (fun c585 => ?_) (fun c585 => ?_)
  · have hv := hv.1 c585
    refine lv_aload_n hx hb dX6_lose_9 rfl (lv_at hl 0 rfl) (gg_X6_27 C0 hK hP dX6_lose_10 (lv_iload_n hx hb dX6_lose_13 rfl (lv_at hl 1 rfl) ?_))
    have hi586 := hv.1
    have hv := hv.2
    refine g_aaS hx hb hK hP hi586 dX6_lose_14 ?_
    refine g_iX (g_bV (As := []) (rest := []) C0 hK hP kX4_clear ql_X6_224 (mX4_clear hE (vin_lt hi586) hv) (by have := (vin_lt hi586); omega) (gen_sheet (vin_lt hi586)) rfl rfl hl.1 rfl (Nat.le_of_ble_eq_true rfl) ⟨rfl, rfl, Nat.le_of_ble_eq_true rfl, Nat.le_of_ble_eq_true rfl⟩ dX6_lose_15) hS (fun x587 μ588 H locs hv hP hS => ?_)
    refine lv_if_eq (tgt := 25) hx hb dX6_lose_18 (by decide) (fun c589 => ?_) (fun c589 => ?_)
    · have hv := hv.1 c589
      refine lv_iconst (v := 0) hx hb dX6_lose_25 (by decide) ?_
      exact g_retX hx hb hrt hlk hP hS rfl hv dX6_lose_26
    · have hv := hv.2 c589
      refine lv_iconst (v := 1) hx hb dX6_lose_21 (by decide) (lv_goto (tgt := 26) hx hb dX6_lose_22 (by decide) ?_)
      exact g_retX hx hb hrt hlk hP hS rfl hv dX6_lose_26
  · have hv := hv.2 c585
    refine lv_iconst (v := (-1)) hx hb dX6_lose_7 (by decide) ?_
    exact g_retX hx hb hrt hlk hP hS rfl hv dX6_lose_8
set_option maxHeartbeats 4000000 in
set_option maxRecDepth 100000 in
theorem mX6_put {l : Launch} {E : gE} {μ ν : gM} {τ : gJ} {Q : Int32 → gM → Prop} (hE : gLok E) {a1 : Int32} {a2 : Int32} {a3 : Int32}  (hv : vX6_put a1 a2 a3 μ Q) : Met l yX6_put (gws yX6_put cX6_put 4 (some .int)) (gRm 2 44) (gPc E [.ref (gL E 31), .int a1, .int a2, .int a3] μ ν τ) (gQiX E Q ν τ) 0 0 (gA E) := by
  refine g_entr (lv := [(0, .ref (gL E 31)), (1, .int a1), (2, .int a2), (3, .int a3)]) (by decide +kernel) (Nat.le_of_ble_eq_true rfl) rfl (fun p e s m args below meth c ls H locs hx hb hrt hlk C0 hK hP hS hl => ?_)
  have C0 : CallFix p m c cX6_put 4 s args gTB RX6 := C0
  unfold vX6_put at hv
  refine lv_aload_n hx hb dX6_put_0 rfl (lv_at hl 0 rfl) (lv_iconst (v := 0) hx hb dX6_put_1 (by decide) (gp_X6_64 hE C0 hK hP hS dX6_put_2 (fun H locs hP hS => (lv_iload_n hx hb dX6_put_5 rfl (lv_at hl 1 rfl) ?_))))
  refine g_iS (g_bS (As := [.int a1]) (rest := []) C0 hK hP kX6_isSheet ql_X6_67 (mX6_isSheet hE hv) rfl hl.1 rfl (Nat.le_of_ble_eq_true rfl) ⟨rfl, rfl, Nat.le_of_ble_eq_true rfl, Nat.le_of_ble_eq_true rfl⟩ dX6_put_6) hS (fun x590 H locs hv hP hS => ?_)
  refine lv_if_ne (tgt := 14) hx hb dX6_put_9 (by decide) (fun c591 => ?_) (fun c591 => ?_)
  · have hv := hv.1 c591
    refine lv_aload_n hx hb dX6_put_14 rfl (lv_at hl 0 rfl) (gg_X6_27 C0 hK hP dX6_put_15 (lv_iload_n hx hb dX6_put_18 rfl (lv_at hl 1 rfl) ?_))
    have hi592 := hv.1
    have hv := hv.2
    refine g_aaS hx hb hK hP hi592 dX6_put_19 ?_
    refine g_iX (g_bV (As := []) (rest := []) C0 hK hP kX4_isThere ql_X6_227 (mX4_isThere hE (vin_lt hi592) hv) (by have := (vin_lt hi592); omega) (gen_sheet (vin_lt hi592)) rfl rfl hl.1 rfl (Nat.le_of_ble_eq_true rfl) ⟨rfl, rfl, Nat.le_of_ble_eq_true rfl, Nat.le_of_ble_eq_true rfl⟩ dX6_put_20) hS (fun x593 μ594 H locs hv hP hS => ?_)
    refine lv_if_ne (tgt := 32) hx hb dX6_put_23 (by decide) (fun c595 => ?_) (fun c595 => ?_)
    · have hv := hv.1 c595
      refine lv_aload_n hx hb dX6_put_32 rfl (lv_at hl 0 rfl) (gg_X6_27 C0 hK hP dX6_put_33 (lv_iload_n hx hb dX6_put_36 rfl (lv_at hl 1 rfl) ?_))
      have hi596 := hv.1
      have hv := hv.2
      refine g_aaS hx hb hK hP hi596 dX6_put_37 (lv_iload_n hx hb dX6_put_38 rfl (lv_at hl 2 rfl) (lv_iconst (v := 1) hx hb dX6_put_39 (by decide) ?_))
      refine g_iX (g_bV (As := [.int a2, .int 1]) (rest := []) C0 hK hP kX4_holds ql_X6_228 (mX4_holds hE (vin_lt hi596) hv) (by have := (vin_lt hi596); omega) (gen_sheet (vin_lt hi596)) rfl rfl hl.1 rfl (Nat.le_of_ble_eq_true rfl) ⟨rfl, rfl, Nat.le_of_ble_eq_true rfl, Nat.le_of_ble_eq_true rfl⟩ dX6_put_40) hS (fun x597 μ598 H locs hv hP hS => ?_)
      refine lv_if_ne (tgt := 52) hx hb dX6_put_43 (by decide) (fun c599 => ?_) (fun c599 => ?_)
      · have hv := hv.1 c599
        refine lv_aload_n hx hb dX6_put_52 rfl (lv_at hl 0 rfl) (gg_X6_27 C0 hK hP dX6_put_53 (lv_iload_n hx hb dX6_put_56 rfl (lv_at hl 1 rfl) ?_))
        have hi600 := hv.1
        have hv := hv.2
        refine g_aaS hx hb hK hP hi600 dX6_put_57 (lv_iload_n hx hb dX6_put_58 rfl (lv_at hl 2 rfl) (lv_iload_n hx hb dX6_put_59 rfl (lv_at hl 3 rfl) ?_))
        refine g_vX (g_bV (As := [.int a2, .int a3]) (rest := []) C0 hK hP kX4_write ql_X6_232 (mX4_write hE (vin_lt hi600) hv) (by have := (vin_lt hi600); omega) (gen_sheet (vin_lt hi600)) rfl rfl hl.1 rfl (Nat.le_of_ble_eq_true rfl) ⟨rfl, rfl, Nat.le_of_ble_eq_true rfl, Nat.le_of_ble_eq_true rfl⟩ dX6_put_60) hS (fun μ602 H locs hv hP hS => ?_)
        refine lv_iconst (v := 1) hx hb dX6_put_63 (by decide) ?_
        exact g_retX hx hb hrt hlk hP hS rfl hv dX6_put_64
      · have hv := hv.2 c599
        refine lv_aload_n hx hb dX6_put_46 rfl (lv_at hl 0 rfl) (lv_iconst (v := 3) hx hb dX6_put_47 (by decide) ?_)
        refine g_iX (g_bV (As := [.int 3]) (rest := []) C0 hK hP kX6_faulted ql_X6_218 (mX6_faulted hE hv) (by decide) ge_X6 rfl rfl hl.1 rfl (Nat.le_of_ble_eq_true rfl) ⟨rfl, rfl, Nat.le_of_ble_eq_true rfl, Nat.le_of_ble_eq_true rfl⟩ dX6_put_48) hS (fun x603 μ604 H locs hv hP hS => ?_)
        exact g_retX hx hb hrt hlk hP hS rfl hv dX6_put_51
    · have hv := hv.2 c595
      refine lv_aload_n hx hb dX6_put_26 rfl (lv_at hl 0 rfl) (lv_iconst (v := 1) hx hb dX6_put_27 (by decide) ?_)
      refine g_iX (g_bV (As := [.int 1]) (rest := []) C0 hK hP kX6_faulted ql_X6_218 (mX6_faulted hE hv) (by decide) ge_X6 rfl rfl hl.1 rfl (Nat.le_of_ble_eq_true rfl) ⟨rfl, rfl, Nat.le_of_ble_eq_true rfl, Nat.le_of_ble_eq_true rfl⟩ dX6_put_28) hS (fun x605 μ606 H locs hv hP hS => ?_)
      exact g_retX hx hb hrt hlk hP hS rfl hv dX6_put_31
  · have hv := hv.2 c591
    refine lv_iconst (v := (-1)) hx hb dX6_put_12 (by decide) ?_
    exact g_retX hx hb hrt hlk hP hS rfl hv dX6_put_13
set_option maxHeartbeats 4000000 in
set_option maxRecDepth 100000 in
theorem mX6_cell {l : Launch} {E : gE} {μ ν : gM} {τ : gJ} {Q : Int64 → gM → Prop} (hE : gLok E) {a1 : Int32} {a2 : Int32} {a3 : Int32}  (hv : vX6_cell a1 a2 a3 μ Q) : Met l yX6_cell (gws yX6_cell cX6_cell 4 (some .long)) (gRm 2 45) (gPc E [.ref (gL E 31), .int a1, .int a2, .int a3] μ ν τ) (gQlX E Q ν τ) 0 0 (gA E) := by
  refine g_entr (lv := [(0, .ref (gL E 31)), (1, .int a1), (2, .int a2), (3, .int a3)]) (by decide +kernel) (Nat.le_of_ble_eq_true rfl) rfl (fun p e s m args below meth c ls H locs hx hb hrt hlk C0 hK hP hS hl => ?_)
  have C0 : CallFix p m c cX6_cell 4 s args gTB RX6 := C0
  unfold vX6_cell at hv
  refine lv_aload_n hx hb dX6_cell_0 rfl (lv_at hl 0 rfl) (lv_iconst (v := 0) hx hb dX6_cell_1 (by decide) (gp_X6_64 hE C0 hK hP hS dX6_cell_2 (fun H locs hP hS => (lv_iload_n hx hb dX6_cell_5 rfl (lv_at hl 1 rfl) ?_))))
  refine g_iS (g_bS (As := [.int a1]) (rest := []) C0 hK hP kX6_isSheet ql_X6_67 (mX6_isSheet hE hv) rfl hl.1 rfl (Nat.le_of_ble_eq_true rfl) ⟨rfl, rfl, Nat.le_of_ble_eq_true rfl, Nat.le_of_ble_eq_true rfl⟩ dX6_cell_6) hS (fun x607 H locs hv hP hS => ?_)
  refine lv_if_eq (tgt := 19) hx hb dX6_cell_9 (by decide) (fun c608 => ?_) (fun c608 => ?_)
  · have hv := hv.1 c608
    refine lv_ldc2 (v := -9223372036854775808) hx hb C0.2.2.2.1 (C0.2.2.2.2 _ (gTB_at 418 rfl rfl)) dX6_cell_19 ?_
    exact g_lretX hx hb hrt hlk hP hS hv dX6_cell_22
  · have hv := hv.2 c608
    refine lv_iload_n hx hb dX6_cell_12 rfl (lv_at hl 3 rfl) ?_
    refine g_iS (g_bS (As := [.int a3]) (rest := []) C0 hK hP kX6_isSort ql_X6_71 (mX6_isSort hE hv) rfl hl.1 rfl (Nat.le_of_ble_eq_true rfl) ⟨rfl, rfl, Nat.le_of_ble_eq_true rfl, Nat.le_of_ble_eq_true rfl⟩ dX6_cell_13) hS (fun x609 H locs hv hP hS => ?_)
    refine lv_if_ne (tgt := 23) hx hb dX6_cell_16 (by decide) (fun c610 => ?_) (fun c610 => ?_)
    · have hv := hv.1 c610
      refine lv_aload_n hx hb dX6_cell_23 rfl (lv_at hl 0 rfl) (lv_aload_n hx hb dX6_cell_24 rfl (lv_at hl 0 rfl) (gg_X6_27 C0 hK hP dX6_cell_25 (lv_iload_n hx hb dX6_cell_28 rfl (lv_at hl 1 rfl) ?_)))
      have hi611 := hv.1
      have hv := hv.2
      refine g_aaS hx hb hK hP hi611 dX6_cell_29 (lv_iload_n hx hb dX6_cell_30 rfl (lv_at hl 3 rfl) (lv_iload_n hx hb dX6_cell_31 rfl (lv_at hl 2 rfl) (lv_iconst (v := 1) hx hb dX6_cell_32 (by decide) ?_)))
      refine g_iX (g_bV (As := [.int a3, .int a2, .int 1]) (rest := [.ref (gL E 31)]) C0 hK hP kX4_faultOfCells ql_X6_74 (mX4_faultOfCells hE (vin_lt hi611) hv) (by have := (vin_lt hi611); omega) (gen_sheet (vin_lt hi611)) rfl rfl hl.1 rfl (Nat.le_of_ble_eq_true rfl) ⟨rfl, rfl, Nat.le_of_ble_eq_true rfl, Nat.le_of_ble_eq_true rfl⟩ dX6_cell_33) hS (fun x612 μ613 H locs hv hP hS => ?_)
      refine gp_X6_64 hE C0 hK hP hS dX6_cell_36 (fun H locs hP hS => (lv_aload_n hx hb dX6_cell_39 rfl (lv_at hl 0 rfl) (gg_X6_64 C0 hK hP dX6_cell_40 ?_)))
      refine lv_if_eq (tgt := 52) hx hb dX6_cell_43 (by decide) (fun c614 => ?_) (fun c614 => ?_)
      · have hv := hv.1 c614
        refine lv_aload_n hx hb dX6_cell_52 rfl (lv_at hl 0 rfl) (gg_X6_27 C0 hK hP dX6_cell_53 (lv_iload_n hx hb dX6_cell_56 rfl (lv_at hl 1 rfl) ?_))
        have hi615 := hv.1
        have hv := hv.2
        refine g_aaS hx hb hK hP hi615 dX6_cell_57 (lv_iload_n hx hb dX6_cell_58 rfl (lv_at hl 2 rfl) ?_)
        refine g_iX (g_bV (As := [.int a2]) (rest := []) C0 hK hP kX4_read ql_X6_235 (mX4_read hE (vin_lt hi615) hv) (by have := (vin_lt hi615); omega) (gen_sheet (vin_lt hi615)) rfl rfl hl.1 rfl (Nat.le_of_ble_eq_true rfl) ⟨rfl, rfl, Nat.le_of_ble_eq_true rfl, Nat.le_of_ble_eq_true rfl⟩ dX6_cell_59) hS (fun x616 μ617 H locs hv hP hS => ?_)
        refine lv_i2l hx hb dX6_cell_62 rfl ?_
        exact g_lretX hx hb hrt hlk hP hS hv dX6_cell_63
      · have hv := hv.2 c614
        refine lv_ldc2 (v := -9223372036854775808) hx hb C0.2.2.2.1 (C0.2.2.2.2 _ (gTB_at 418 rfl rfl)) dX6_cell_46 (lv_goto (tgt := 63) hx hb dX6_cell_49 (by decide) ?_)
        exact g_lretX hx hb hrt hlk hP hS hv dX6_cell_63
    · have hv := hv.2 c610
      refine lv_ldc2 (v := -9223372036854775808) hx hb C0.2.2.2.1 (C0.2.2.2.2 _ (gTB_at 418 rfl rfl)) dX6_cell_19 ?_
      exact g_lretX hx hb hrt hlk hP hS hv dX6_cell_22
set_option maxHeartbeats 4000000 in
set_option maxRecDepth 100000 in
theorem mX6_copy {l : Launch} {E : gE} {μ ν : gM} {τ : gJ} {Q : Int32 → gM → Prop} (hE : gLok E) {a1 : Int32} {a2 : Int32} {a3 : Int32} {a4 : Int32} {a5 : Int32}  (hv : vX6_copy a1 a2 a3 a4 a5 μ Q) : Met l yX6_copy (gws yX6_copy cX6_copy 8 (some .int)) (gRm 2 60) (gPc E [.ref (gL E 31), .int a1, .int a2, .int a3, .int a4, .int a5] μ ν τ) (gQiX E Q ν τ) 0 0 (gA E) := by
  refine g_entr (lv := [(0, .ref (gL E 31)), (1, .int a1), (2, .int a2), (3, .int a3), (4, .int a4), (5, .int a5)]) (by decide +kernel) (Nat.le_of_ble_eq_true rfl) rfl (fun p e s m args below meth c ls H locs hx hb hrt hlk C0 hK hP hS hl => ?_)
  have C0 : CallFix p m c cX6_copy 8 s args gTB RX6 := C0
  unfold vX6_copy at hv
  refine lv_aload_n hx hb dX6_copy_0 rfl (lv_at hl 0 rfl) (lv_iconst (v := 0) hx hb dX6_copy_1 (by decide) (gp_X6_64 hE C0 hK hP hS dX6_copy_2 (fun H locs hP hS => (lv_iload_n hx hb dX6_copy_5 rfl (lv_at hl 1 rfl) ?_))))
  refine g_iS (g_bS (As := [.int a1]) (rest := []) C0 hK hP kX6_isSheet ql_X6_67 (mX6_isSheet hE hv) rfl hl.1 rfl (Nat.le_of_ble_eq_true rfl) ⟨rfl, rfl, Nat.le_of_ble_eq_true rfl, Nat.le_of_ble_eq_true rfl⟩ dX6_copy_6) hS (fun x618 H locs hv hP hS => ?_)
  refine lv_if_eq (tgt := 19) hx hb dX6_copy_9 (by decide) (fun c619 => ?_) (fun c619 => ?_)
  · have hv := hv.1 c619
    refine lv_iconst (v := (-1)) hx hb dX6_copy_19 (by decide) ?_
    exact g_retX hx hb hrt hlk hP hS rfl hv dX6_copy_20
  · have hv := hv.2 c619
    refine lv_iload_n hx hb dX6_copy_12 rfl (lv_at hl 3 rfl) ?_
    refine g_iS (g_bS (As := [.int a3]) (rest := []) C0 hK hP kX6_isSheet ql_X6_67 (mX6_isSheet hE hv) rfl hl.1 rfl (Nat.le_of_ble_eq_true rfl) ⟨rfl, rfl, Nat.le_of_ble_eq_true rfl, Nat.le_of_ble_eq_true rfl⟩ dX6_copy_13) hS (fun x620 H locs hv hP hS => ?_)
    refine lv_if_ne (tgt := 21) hx hb dX6_copy_16 (by decide) (fun c621 => ?_) (fun c621 => ?_)
    · have hv := hv.1 c621
      refine lv_aload_n hx hb dX6_copy_21 rfl (lv_at hl 0 rfl) (gg_X6_27 C0 hK hP dX6_copy_22 (lv_iload_n hx hb dX6_copy_25 rfl (lv_at hl 1 rfl) ?_))
      have hi622 := hv.1
      have hv := hv.2
      refine g_aaS hx hb hK hP hi622 dX6_copy_26 (lv_astore (lv' := [(6, .ref (gL E (10 + a1.toNatClampNeg))), (0, .ref (gL E 31)), (1, .int a1), (2, .int a2), (3, .int a3), (4, .int a4), (5, .int a5)]) hx hb dX6_copy_27 hl (by decide) rfl (fun ls hl => (lv_aload_n hx hb dX6_copy_29 rfl (lv_at hl 1 rfl) (gg_X6_27 C0 hK hP dX6_copy_30 (lv_iload_n hx hb dX6_copy_33 rfl (lv_at hl 4 rfl) ?_)))))
      have hi623 := hv.1
      have hv := hv.2
      refine g_aaS hx hb hK hP hi623 dX6_copy_34 (lv_astore (lv' := [(7, .ref (gL E (10 + a3.toNatClampNeg))), (6, .ref (gL E (10 + a1.toNatClampNeg))), (0, .ref (gL E 31)), (1, .int a1), (2, .int a2), (3, .int a3), (4, .int a4), (5, .int a5)]) hx hb dX6_copy_35 hl (by decide) rfl (fun ls hl => (lv_aload hx hb dX6_copy_37 (lv_at hl 1 rfl) ?_)))
      refine g_iX (g_bV (As := []) (rest := []) C0 hK hP kX4_isThere ql_X6_227 (mX4_isThere hE (vin_lt hi622) hv) (by have := (vin_lt hi622); omega) (gen_sheet (vin_lt hi622)) rfl rfl hl.1 rfl (Nat.le_of_ble_eq_true rfl) ⟨rfl, rfl, Nat.le_of_ble_eq_true rfl, Nat.le_of_ble_eq_true rfl⟩ dX6_copy_39) hS (fun x624 μ625 H locs hv hP hS => ?_)
      refine lv_if_eq (tgt := 53) hx hb dX6_copy_42 (by decide) (fun c626 => ?_) (fun c626 => ?_)
      · have hv := hv.1 c626
        refine lv_aload_n hx hb dX6_copy_53 rfl (lv_at hl 2 rfl) (lv_iconst (v := 1) hx hb dX6_copy_54 (by decide) ?_)
        refine g_iX (g_bV (As := [.int 1]) (rest := []) C0 hK hP kX6_faulted ql_X6_218 (mX6_faulted hE hv) (by decide) ge_X6 rfl rfl hl.1 rfl (Nat.le_of_ble_eq_true rfl) ⟨rfl, rfl, Nat.le_of_ble_eq_true rfl, Nat.le_of_ble_eq_true rfl⟩ dX6_copy_55) hS (fun x627 μ628 H locs hv hP hS => ?_)
        exact g_retX hx hb hrt hlk hP hS rfl hv dX6_copy_58
      · have hv := hv.2 c626
        refine lv_aload hx hb dX6_copy_45 (lv_at hl 0 rfl) ?_
        refine g_iX (g_bV (As := []) (rest := []) C0 hK hP kX4_isThere ql_X6_227 (mX4_isThere hE (vin_lt hi623) hv) (by have := (vin_lt hi623); omega) (gen_sheet (vin_lt hi623)) rfl rfl hl.1 rfl (Nat.le_of_ble_eq_true rfl) ⟨rfl, rfl, Nat.le_of_ble_eq_true rfl, Nat.le_of_ble_eq_true rfl⟩ dX6_copy_47) hS (fun x629 μ630 H locs hv hP hS => ?_)
        refine lv_if_ne (tgt := 59) hx hb dX6_copy_50 (by decide) (fun c631 => ?_) (fun c631 => ?_)
        · have hv := hv.1 c631
          refine lv_aload hx hb dX6_copy_59 (lv_at hl 1 rfl) (gg_X6_238 C0 hK hP (vin_lt hi622) dX6_copy_61 (lv_aload hx hb dX6_copy_64 (lv_at hl 0 rfl) (gg_X6_238 C0 hK hP (vin_lt hi623) dX6_copy_66 ?_)))
          refine lv_icmp_eq (tgt := 78) hx hb dX6_copy_69 (by decide) (fun c632 => ?_) (fun c632 => ?_)
          · have hv := hv.1 c632
            refine lv_iload hx hb dX6_copy_78 (lv_at hl 7 rfl) ?_
            refine lv_if_lt (tgt := 106) hx hb dX6_copy_80 (by decide) (fun c633 => ?_) (fun c633 => ?_)
            · have hv := hv.1 c633
              refine lv_aload_n hx hb dX6_copy_106 rfl (lv_at hl 2 rfl) (lv_iconst (v := 3) hx hb dX6_copy_107 (by decide) ?_)
              refine g_iX (g_bV (As := [.int 3]) (rest := []) C0 hK hP kX6_faulted ql_X6_218 (mX6_faulted hE hv) (by decide) ge_X6 rfl rfl hl.1 rfl (Nat.le_of_ble_eq_true rfl) ⟨rfl, rfl, Nat.le_of_ble_eq_true rfl, Nat.le_of_ble_eq_true rfl⟩ dX6_copy_108) hS (fun x634 μ635 H locs hv hP hS => ?_)
              exact g_retX hx hb hrt hlk hP hS rfl hv dX6_copy_111
            · have hv := hv.2 c633
              refine lv_aload hx hb dX6_copy_83 (lv_at hl 1 rfl) (lv_iload_n hx hb dX6_copy_85 rfl (lv_at hl 4 rfl) (lv_iload hx hb dX6_copy_86 (lv_at hl 7 rfl) ?_))
              refine g_iX (g_bV (As := [.int a2, .int a5]) (rest := []) C0 hK hP kX4_holds ql_X6_228 (mX4_holds hE (vin_lt hi622) hv) (by have := (vin_lt hi622); omega) (gen_sheet (vin_lt hi622)) rfl rfl hl.1 rfl (Nat.le_of_ble_eq_true rfl) ⟨rfl, rfl, Nat.le_of_ble_eq_true rfl, Nat.le_of_ble_eq_true rfl⟩ dX6_copy_88) hS (fun x636 μ637 H locs hv hP hS => ?_)
              refine lv_if_eq (tgt := 106) hx hb dX6_copy_91 (by decide) (fun c638 => ?_) (fun c638 => ?_)
              · have hv := hv.1 c638
                refine lv_aload_n hx hb dX6_copy_106 rfl (lv_at hl 2 rfl) (lv_iconst (v := 3) hx hb dX6_copy_107 (by decide) ?_)
                refine g_iX (g_bV (As := [.int 3]) (rest := []) C0 hK hP kX6_faulted ql_X6_218 (mX6_faulted hE hv) (by decide) ge_X6 rfl rfl hl.1 rfl (Nat.le_of_ble_eq_true rfl) ⟨rfl, rfl, Nat.le_of_ble_eq_true rfl, Nat.le_of_ble_eq_true rfl⟩ dX6_copy_108) hS (fun x639 μ640 H locs hv hP hS => ?_)
                exact g_retX hx hb hrt hlk hP hS rfl hv dX6_copy_111
              · have hv := hv.2 c638
                refine lv_aload hx hb dX6_copy_94 (lv_at hl 0 rfl) (lv_iload hx hb dX6_copy_96 (lv_at hl 6 rfl) (lv_iload hx hb dX6_copy_98 (lv_at hl 7 rfl) ?_))
                refine g_iX (g_bV (As := [.int a4, .int a5]) (rest := []) C0 hK hP kX4_holds ql_X6_228 (mX4_holds hE (vin_lt hi623) hv) (by have := (vin_lt hi623); omega) (gen_sheet (vin_lt hi623)) rfl rfl hl.1 rfl (Nat.le_of_ble_eq_true rfl) ⟨rfl, rfl, Nat.le_of_ble_eq_true rfl, Nat.le_of_ble_eq_true rfl⟩ dX6_copy_100) hS (fun x641 μ642 H locs hv hP hS => ?_)
                refine lv_if_ne (tgt := 112) hx hb dX6_copy_103 (by decide) (fun c643 => ?_) (fun c643 => ?_)
                · have hv := hv.1 c643
                  refine lv_aload hx hb dX6_copy_112 (lv_at hl 1 rfl) (gg_X6_241 C0 hK hP (vin_lt hi622) dX6_copy_114 (lv_iload_n hx hb dX6_copy_117 rfl (lv_at hl 4 rfl) (lv_aload hx hb dX6_copy_118 (lv_at hl 0 rfl) (gg_X6_241 C0 hK hP (vin_lt hi623) dX6_copy_120 (lv_iload hx hb dX6_copy_123 (lv_at hl 6 rfl) (lv_iload hx hb dX6_copy_125 (lv_at hl 7 rfl) ?_))))))
                  obtain ⟨⟨hc1, hc2, hc3, hc4, hc5⟩, hv⟩ := hv
                  refine g_copy hE hx hb (C0.2.2.1.trans hl.1.symm) C0 hK hP hS (vin_lt hi622) (vin_lt hi623) ql_X6_245 hc1 hc2 hc3 hc4 hc5 (Nat.le_of_ble_eq_true rfl) (Nat.le_of_ble_eq_true rfl) dX6_copy_127 (fun H locs hP hS => (lv_iload hx hb dX6_copy_130 (lv_at hl 7 rfl) ?_))
                  exact g_retX hx hb hrt hlk hP hS rfl hv dX6_copy_132
                · have hv := hv.2 c643
                  refine lv_aload_n hx hb dX6_copy_106 rfl (lv_at hl 2 rfl) (lv_iconst (v := 3) hx hb dX6_copy_107 (by decide) ?_)
                  refine g_iX (g_bV (As := [.int 3]) (rest := []) C0 hK hP kX6_faulted ql_X6_218 (mX6_faulted hE hv) (by decide) ge_X6 rfl rfl hl.1 rfl (Nat.le_of_ble_eq_true rfl) ⟨rfl, rfl, Nat.le_of_ble_eq_true rfl, Nat.le_of_ble_eq_true rfl⟩ dX6_copy_108) hS (fun x644 μ645 H locs hv hP hS => ?_)
                  exact g_retX hx hb hrt hlk hP hS rfl hv dX6_copy_111
          · have hv := hv.2 c632
            refine lv_aload_n hx hb dX6_copy_72 rfl (lv_at hl 2 rfl) (lv_iconst (v := 2) hx hb dX6_copy_73 (by decide) ?_)
            refine g_iX (g_bV (As := [.int 2]) (rest := []) C0 hK hP kX6_faulted ql_X6_218 (mX6_faulted hE hv) (by decide) ge_X6 rfl rfl hl.1 rfl (Nat.le_of_ble_eq_true rfl) ⟨rfl, rfl, Nat.le_of_ble_eq_true rfl, Nat.le_of_ble_eq_true rfl⟩ dX6_copy_74) hS (fun x646 μ647 H locs hv hP hS => ?_)
            exact g_retX hx hb hrt hlk hP hS rfl hv dX6_copy_77
        · have hv := hv.2 c631
          refine lv_aload_n hx hb dX6_copy_53 rfl (lv_at hl 2 rfl) (lv_iconst (v := 1) hx hb dX6_copy_54 (by decide) ?_)
          refine g_iX (g_bV (As := [.int 1]) (rest := []) C0 hK hP kX6_faulted ql_X6_218 (mX6_faulted hE hv) (by decide) ge_X6 rfl rfl hl.1 rfl (Nat.le_of_ble_eq_true rfl) ⟨rfl, rfl, Nat.le_of_ble_eq_true rfl, Nat.le_of_ble_eq_true rfl⟩ dX6_copy_55) hS (fun x648 μ649 H locs hv hP hS => ?_)
          exact g_retX hx hb hrt hlk hP hS rfl hv dX6_copy_58
    · have hv := hv.2 c621
      refine lv_iconst (v := (-1)) hx hb dX6_copy_19 (by decide) ?_
      exact g_retX hx hb hrt hlk hP hS rfl hv dX6_copy_20
set_option maxHeartbeats 4000000 in
set_option maxRecDepth 100000 in
theorem mX6_tell {l : Launch} {E : gE} {μ ν : gM} {τ : gJ} {Q : Int32 → gM → Prop} (hE : gLok E) {a1 : Int32}  (hv : vX6_tell a1 μ Q) : Met l yX6_tell (gws yX6_tell cX6_tell 2 (some .int)) (gRm 5 105) (gPc E [.ref (gL E 31), .int a1] μ ν τ) (gQiX E Q ν τ) 0 0 (gA E) := by
  refine g_entr (lv := [(0, .ref (gL E 31)), (1, .int a1)]) (by decide +kernel) (Nat.le_of_ble_eq_true rfl) rfl (fun p e s m args below meth c ls H locs hx hb hrt hlk C0 hK hP hS hl => ?_)
  have C0 : CallFix p m c cX6_tell 2 s args gTB RX6 := C0
  unfold vX6_tell at hv
  refine lv_iload_n hx hb dX6_tell_0 rfl (lv_at hl 1 rfl) ?_
  refine g_iS (g_bS (As := [.int a1]) (rest := []) C0 hK hP kX6_isBall ql_X6_200 (mX6_isBall hE hv) rfl hl.1 rfl (Nat.le_of_ble_eq_true rfl) ⟨rfl, rfl, Nat.le_of_ble_eq_true rfl, Nat.le_of_ble_eq_true rfl⟩ dX6_tell_1) hS (fun x650 H locs hv hP hS => ?_)
  refine lv_if_eq (tgt := 18) hx hb dX6_tell_4 (by decide) (fun c651 => ?_) (fun c651 => ?_)
  · have hv := hv.1 c651
    refine lv_iconst (v := (-1)) hx hb dX6_tell_18 (by decide) ?_
    exact g_retX hx hb hrt hlk hP hS rfl hv dX6_tell_19
  · have hv := hv.2 c651
    refine lv_aload_n hx hb dX6_tell_7 rfl (lv_at hl 0 rfl) (gg_X6_41 C0 hK hP dX6_tell_8 (lv_iload_n hx hb dX6_tell_11 rfl (lv_at hl 1 rfl) ?_))
    refine g_iX (g_bV (As := [.int a1]) (rest := []) C0 hK hP kX2_telling ql_X6_251 (mX2_telling hE hv) (by decide) ge_X2 rfl rfl hl.1 rfl (Nat.le_of_ble_eq_true rfl) ⟨rfl, rfl, Nat.le_of_ble_eq_true rfl, Nat.le_of_ble_eq_true rfl⟩ dX6_tell_12) hS (fun x652 μ653 H locs hv hP hS => ?_)
    refine lv_goto (tgt := 19) hx hb dX6_tell_15 (by decide) ?_
    exact g_retX hx hb hrt hlk hP hS rfl hv dX6_tell_19
set_option maxHeartbeats 4000000 in
set_option maxRecDepth 100000 in
theorem mX6_call {l : Launch} {E : gE} {μ ν : gM} {τ : gJ} {Q : Int32 → gM → Prop} (hE : gLok E) {a1 : Int32}  (hv : vX6_call a1 μ Q) : Met l yX6_call (gws yX6_call cX6_call 2 (some .int)) (gRm 5 105) (gPc E [.ref (gL E 31), .int a1] μ ν τ) (gQiX E Q ν τ) 0 0 (gA E) := by
  refine g_entr (lv := [(0, .ref (gL E 31)), (1, .int a1)]) (by decide +kernel) (Nat.le_of_ble_eq_true rfl) rfl (fun p e s m args below meth c ls H locs hx hb hrt hlk C0 hK hP hS hl => ?_)
  have C0 : CallFix p m c cX6_call 2 s args gTB RX6 := C0
  unfold vX6_call at hv
  refine lv_iload_n hx hb dX6_call_0 rfl (lv_at hl 1 rfl) ?_
  refine g_iS (g_bS (As := [.int a1]) (rest := []) C0 hK hP kX6_isBall ql_X6_200 (mX6_isBall hE hv) rfl hl.1 rfl (Nat.le_of_ble_eq_true rfl) ⟨rfl, rfl, Nat.le_of_ble_eq_true rfl, Nat.le_of_ble_eq_true rfl⟩ dX6_call_1) hS (fun x654 H locs hv hP hS => ?_)
  refine lv_if_eq (tgt := 18) hx hb dX6_call_4 (by decide) (fun c655 => ?_) (fun c655 => ?_)
  · have hv := hv.1 c655
    refine lv_iconst (v := (-1)) hx hb dX6_call_18 (by decide) ?_
    exact g_retX hx hb hrt hlk hP hS rfl hv dX6_call_19
  · have hv := hv.2 c655
    refine lv_aload_n hx hb dX6_call_7 rfl (lv_at hl 0 rfl) (gg_X6_41 C0 hK hP dX6_call_8 (lv_iload_n hx hb dX6_call_11 rfl (lv_at hl 1 rfl) ?_))
    refine g_iX (g_bV (As := [.int a1]) (rest := []) C0 hK hP kX2_calling ql_X6_254 (mX2_calling hE hv) (by decide) ge_X2 rfl rfl hl.1 rfl (Nat.le_of_ble_eq_true rfl) ⟨rfl, rfl, Nat.le_of_ble_eq_true rfl, Nat.le_of_ble_eq_true rfl⟩ dX6_call_12) hS (fun x656 μ657 H locs hv hP hS => ?_)
    refine lv_goto (tgt := 19) hx hb dX6_call_15 (by decide) ?_
    exact g_retX hx hb hrt hlk hP hS rfl hv dX6_call_19
set_option maxHeartbeats 4000000 in
set_option maxRecDepth 100000 in
theorem mX6_as {l : Launch} {E : gE} {μ ν : gM} {τ : gJ} {Q : Int32 → gM → Prop} (hE : gLok E) {a1 : Int32} {a2 : Int32}  (hv : vX6_as a1 a2 μ Q) : Met l yX6_as (gws yX6_as cX6_as 3 (some .int)) (gRm 3 63) (gPc E [.ref (gL E 31), .int a1, .int a2] μ ν τ) (gQiX E Q ν τ) 0 0 (gA E) := by
  refine g_entr (lv := [(0, .ref (gL E 31)), (1, .int a1), (2, .int a2)]) (by decide +kernel) (Nat.le_of_ble_eq_true rfl) rfl (fun p e s m args below meth c ls H locs hx hb hrt hlk C0 hK hP hS hl => ?_)
  have C0 : CallFix p m c cX6_as 3 s args gTB RX6 := C0
  unfold vX6_as at hv
  refine lv_aload_n hx hb dX6_as_0 rfl (lv_at hl 0 rfl) (lv_iconst (v := 0) hx hb dX6_as_1 (by decide) (gp_X6_64 hE C0 hK hP hS dX6_as_2 (fun H locs hP hS => (lv_iload_n hx hb dX6_as_5 rfl (lv_at hl 1 rfl) ?_))))
  refine g_iS (g_bS (As := [.int a1]) (rest := []) C0 hK hP kX6_isBall ql_X6_200 (mX6_isBall hE hv) rfl hl.1 rfl (Nat.le_of_ble_eq_true rfl) ⟨rfl, rfl, Nat.le_of_ble_eq_true rfl, Nat.le_of_ble_eq_true rfl⟩ dX6_as_6) hS (fun x658 H locs hv hP hS => ?_)
  refine lv_if_ne (tgt := 14) hx hb dX6_as_9 (by decide) (fun c659 => ?_) (fun c659 => ?_)
  · have hv := hv.1 c659
    refine lv_iload_n hx hb dX6_as_14 rfl (lv_at hl 2 rfl) ?_
    refine g_iS (g_bS (As := [.int a2]) (rest := []) C0 hK hP kX6_isKind ql_X6_203 (mX6_isKind hE hv) rfl hl.1 rfl (Nat.le_of_ble_eq_true rfl) ⟨rfl, rfl, Nat.le_of_ble_eq_true rfl, Nat.le_of_ble_eq_true rfl⟩ dX6_as_15) hS (fun x660 H locs hv hP hS => ?_)
    refine lv_if_ne (tgt := 24) hx hb dX6_as_18 (by decide) (fun c661 => ?_) (fun c661 => ?_)
    · have hv := hv.1 c661
      refine lv_aload_n hx hb dX6_as_24 rfl (lv_at hl 0 rfl) (gg_X6_41 C0 hK hP dX6_as_25 (lv_iload_n hx hb dX6_as_28 rfl (lv_at hl 1 rfl) ?_))
      refine g_iX (g_bV (As := [.int a1]) (rest := []) C0 hK hP kX2_kindOf ql_X6_206 (mX2_kindOf hE hv) (by decide) ge_X2 rfl rfl hl.1 rfl (Nat.le_of_ble_eq_true rfl) ⟨rfl, rfl, Nat.le_of_ble_eq_true rfl, Nat.le_of_ble_eq_true rfl⟩ dX6_as_29) hS (fun x662 μ663 H locs hv hP hS => ?_)
      refine lv_iload_n hx hb dX6_as_32 rfl (lv_at hl 2 rfl) ?_
      refine lv_icmp_lt (tgt := 40) hx hb dX6_as_33 (by decide) (fun c664 => ?_) (fun c664 => ?_)
      · have hv := hv.1 c664
        refine lv_aload_n hx hb dX6_as_40 rfl (lv_at hl 0 rfl) (lv_iconst (v := 2) hx hb dX6_as_41 (by decide) ?_)
        refine g_iX (g_bV (As := [.int 2]) (rest := []) C0 hK hP kX6_faulted ql_X6_218 (mX6_faulted hE hv) (by decide) ge_X6 rfl rfl hl.1 rfl (Nat.le_of_ble_eq_true rfl) ⟨rfl, rfl, Nat.le_of_ble_eq_true rfl, Nat.le_of_ble_eq_true rfl⟩ dX6_as_42) hS (fun x665 μ666 H locs hv hP hS => ?_)
        exact g_retX hx hb hrt hlk hP hS rfl hv dX6_as_45
      · have hv := hv.2 c664
        refine lv_iconst (v := 1) hx hb dX6_as_36 (by decide) (lv_goto (tgt := 45) hx hb dX6_as_37 (by decide) ?_)
        exact g_retX hx hb hrt hlk hP hS rfl hv dX6_as_45
    · have hv := hv.2 c661
      refine lv_bipush (v := (-2)) hx hb dX6_as_21 (by decide) ?_
      exact g_retX hx hb hrt hlk hP hS rfl hv dX6_as_23
  · have hv := hv.2 c659
    refine lv_iconst (v := (-1)) hx hb dX6_as_12 (by decide) ?_
    exact g_retX hx hb hrt hlk hP hS rfl hv dX6_as_13
set_option maxHeartbeats 4000000 in
set_option maxRecDepth 100000 in
theorem mX6_trace {l : Launch} {E : gE} {μ ν : gM} {τ : gJ} {Q : Int32 → gM → Prop} (hE : gLok E)   (hv : vX6_trace μ Q) : Met l yX6_trace (gws yX6_trace cX6_trace 1 (some .int)) (gRm 0 0) (gPc E [.ref (gL E 31)] μ ν τ) (gQiX E Q ν τ) 0 0 (gA E) := by
  refine g_entr (lv := [(0, .ref (gL E 31))]) (by decide +kernel) (Nat.le_of_ble_eq_true rfl) rfl (fun p e s m args below meth c ls H locs hx hb hrt hlk C0 hK hP hS hl => ?_)
  have C0 : CallFix p m c cX6_trace 1 s args gTB RX6 := C0
  unfold vX6_trace at hv
  refine lv_aload_n hx hb dX6_trace_0 rfl (lv_at hl 0 rfl) (gg_X6_41 C0 hK hP dX6_trace_1 (gg_X6_257 C0 hK hP dX6_trace_4 ?_))
  exact g_retX hx hb hrt hlk hP hS rfl hv dX6_trace_7
set_option maxHeartbeats 4000000 in
set_option maxRecDepth 100000 in
theorem mX6_fault {l : Launch} {E : gE} {μ ν : gM} {τ : gJ} {Q : Int32 → gM → Prop} (hE : gLok E)   (hv : vX6_fault μ Q) : Met l yX6_fault (gws yX6_fault cX6_fault 1 (some .int)) (gRm 0 0) (gPc E [.ref (gL E 31)] μ ν τ) (gQiX E Q ν τ) 0 0 (gA E) := by
  refine g_entr (lv := [(0, .ref (gL E 31))]) (by decide +kernel) (Nat.le_of_ble_eq_true rfl) rfl (fun p e s m args below meth c ls H locs hx hb hrt hlk C0 hK hP hS hl => ?_)
  have C0 : CallFix p m c cX6_fault 1 s args gTB RX6 := C0
  unfold vX6_fault at hv
  refine lv_aload_n hx hb dX6_fault_0 rfl (lv_at hl 0 rfl) (gg_X6_64 C0 hK hP dX6_fault_1 ?_)
  exact g_retX hx hb hrt hlk hP hS rfl hv dX6_fault_4
set_option maxHeartbeats 4000000 in
set_option maxRecDepth 100000 in
theorem mX6_imageCount {l : Launch} {E : gE} {μ ν : gM} {τ : gJ} {Q : Int32 → gM → Prop} (hE : gLok E)   (hv : vX6_imageCount μ Q) : Met l yX6_imageCount (gws yX6_imageCount cX6_imageCount 3 (some .int)) (gRm 1 20) (gPc E [.ref (gL E 31)] μ ν τ) (gQiX E Q ν τ) 0 0 (gA E) := by
  refine g_entr (lv := [(0, .ref (gL E 31))]) (by decide +kernel) (Nat.le_of_ble_eq_true rfl) rfl (fun p e s m args below meth c ls H locs hx hb hrt hlk C0 hK hP hS hl => ?_)
  have C0 : CallFix p m c cX6_imageCount 3 s args gTB RX6 := C0
  have h_4 : ∀ (n_4 : Nat) (v1 : Int32) (v2 : Int32) (μ : gM) (H : Heap) (locs : List Loc) (ls : Array Slot), va_P (gD E) vwCl (wl E μ ν τ) H → va_S (gA E) s.heap H locs → lv_has ls 3 [(0, .ref (gL E 31)), (1, .int v1), (2, .int v2)] → vX6_imageCount_4 Q n_4 v1 v2 μ → W p l e (gRm 1 20) s m args below meth c H locs 0 0 (MQ below (gQiX E Q ν τ) args s 0 0 (gA E)) (F0 m 4 ls []) := by
    intro n_4
    induction n_4 with
    | zero =>
      intro v1 v2 μ H locs ls hP hS hl hv
      exact False.elim hv
    | succ n_4 ih_4 =>
      intro v1 v2 μ H locs ls hP hS hl hv
      have hv : vX6_imageCount_4B Q (vX6_imageCount_4 Q n_4) v1 v2 μ := hv
      unfold vX6_imageCount_4B at hv
      refine lv_iload_n hx hb dX6_imageCount_4 rfl (lv_at hl 2 rfl) (lv_iconst (v := 3) hx hb dX6_imageCount_5 (by decide) ?_)
      refine lv_icmp_ge (tgt := 30) hx hb dX6_imageCount_6 (by decide) (fun c673 => ?_) (fun c673 => ?_)
      · have hv := hv.1 c673
        refine lv_iload_n hx hb dX6_imageCount_30 rfl (lv_at hl 1 rfl) ?_
        exact g_retX hx hb hrt hlk hP hS rfl hv dX6_imageCount_31
      · have hv := hv.2 c673
        refine lv_aload_n hx hb dX6_imageCount_9 rfl (lv_at hl 0 rfl) (gg_X6_21 C0 hK hP dX6_imageCount_10 (lv_iload_n hx hb dX6_imageCount_13 rfl (lv_at hl 2 rfl) ?_))
        have hi674 := hv.1
        have hv := hv.2
        refine g_aaR hx hb hK hP hi674 dX6_imageCount_14 ?_
        refine g_iX (g_bV (As := []) (rest := []) C0 hK hP kX3_isThere ql_X6_96 (mX3_isThere hE (vin_im hi674) hv) (by have := (vin_im hi674); omega) (gen_row (vin_im hi674)) rfl rfl hl.1 rfl (Nat.le_of_ble_eq_true rfl) ⟨rfl, rfl, Nat.le_of_ble_eq_true rfl, Nat.le_of_ble_eq_true rfl⟩ dX6_imageCount_15) hS (fun x675 μ676 H locs hv hP hS => ?_)
        refine lv_if_eq (tgt := 24) hx hb dX6_imageCount_18 (by decide) (fun c677 => ?_) (fun c677 => ?_)
        · have hv := hv.1 c677
          refine lv_iinc (v := (v2 + 1)) (lv' := [(2, .int (v2 + 1)), (0, .ref (gL E 31)), (1, .int v1)]) hx hb dX6_imageCount_24 hl (k := 2) rfl rfl (by decide) rfl (fun ls hl => (lv_goto (tgt := 4) hx hb dX6_imageCount_27 (by decide) ?_))
          exact ih_4 v1 (v2 + 1) μ676 H locs ls hP hS (lv_sub hl [1, 2, 0] rfl) hv
        · have hv := hv.2 c677
          refine lv_iinc (v := (v1 + 1)) (lv' := [(1, .int (v1 + 1)), (0, .ref (gL E 31)), (2, .int v2)]) hx hb dX6_imageCount_21 hl (k := 1) rfl rfl (by decide) rfl (fun ls hl => (lv_iinc (v := (v2 + 1)) (lv' := [(2, .int (v2 + 1)), (1, .int (v1 + 1)), (0, .ref (gL E 31))]) hx hb dX6_imageCount_24 hl (k := 2) rfl rfl (by decide) rfl (fun ls hl => (lv_goto (tgt := 4) hx hb dX6_imageCount_27 (by decide) ?_))))
          exact ih_4 (v1 + 1) (v2 + 1) μ676 H locs ls hP hS (lv_sub hl [2, 1, 0] rfl) hv
  unfold vX6_imageCount at hv
  refine lv_iconst (v := 0) hx hb dX6_imageCount_0 (by decide) (lv_istore_n (lv' := [(1, .int 0), (0, .ref (gL E 31))]) hx hb dX6_imageCount_1 rfl hl (by decide) rfl (fun ls hl => (lv_iconst (v := 0) hx hb dX6_imageCount_2 (by decide) (lv_istore_n (lv' := [(2, .int 0), (1, .int 0), (0, .ref (gL E 31))]) hx hb dX6_imageCount_3 rfl hl (by decide) rfl (fun ls hl => ?_)))))
  obtain ⟨nf, hv⟩ := hv
  exact h_4 nf 0 0 μ H locs ls hP hS (lv_sub hl [2, 1, 0] rfl) hv
set_option maxHeartbeats 4000000 in
set_option maxRecDepth 100000 in
theorem mX6_many {l : Launch} {E : gE} {μ ν : gM} {τ : gJ} {Q : Int32 → gM → Prop} (hE : gLok E) {a1 : Int32}  (hv : vX6_many a1 μ Q) : Met l yX6_many (gws yX6_many cX6_many 2 (some .int)) (gRm 2 42) (gPc E [.ref (gL E 31), .int a1] μ ν τ) (gQiX E Q ν τ) 0 0 (gA E) := by
  refine g_entr (lv := [(0, .ref (gL E 31)), (1, .int a1)]) (by decide +kernel) (Nat.le_of_ble_eq_true rfl) rfl (fun p e s m args below meth c ls H locs hx hb hrt hlk C0 hK hP hS hl => ?_)
  have C0 : CallFix p m c cX6_many 2 s args gTB RX6 := C0
  unfold vX6_many at hv
  refine lv_iload_n hx hb dX6_many_0 rfl (lv_at hl 1 rfl) ?_
  by_cases c667 : a1 = 0
  · refine lv_tableIn (tgt := 28) (off := 27) hx hb dX6_many_1 (by rw [c667]; decide) (by rw [c667]; decide) (by rw [c667]; rfl) (by decide) ?_
    have hv := hv.1 c667
    refine lv_aload_n hx hb dX6_many_28 rfl (lv_at hl 0 rfl) (gg_X6_12 C0 hK hP dX6_many_29 (gg_X6_86 C0 hK hP (by decide) dX6_many_32 ?_))
    exact g_retX hx hb hrt hlk hP hS rfl hv dX6_many_35
  · have hv := hv.2 c667
    by_cases c668 : a1 = 1
    · refine lv_tableIn (tgt := 36) (off := 35) hx hb dX6_many_1 (by rw [c668]; decide) (by rw [c668]; decide) (by rw [c668]; rfl) (by decide) ?_
      have hv := hv.1 c668
      refine lv_aload_n hx hb dX6_many_36 rfl (lv_at hl 0 rfl) (gg_X6_12 C0 hK hP dX6_many_37 ?_)
      refine g_iX (g_bV (As := []) (rest := []) C0 hK hP kX3_isThere ql_X6_96 (mX3_isThere hE (by decide) hv) (by decide) (gen_row (by decide)) rfl rfl hl.1 rfl (Nat.le_of_ble_eq_true rfl) ⟨rfl, rfl, Nat.le_of_ble_eq_true rfl, Nat.le_of_ble_eq_true rfl⟩ dX6_many_40) hS (fun x669 μ670 H locs hv hP hS => ?_)
      refine lv_if_eq (tgt := 53) hx hb dX6_many_43 (by decide) (fun c671 => ?_) (fun c671 => ?_)
      · have hv := hv.1 c671
        refine lv_iconst (v := 0) hx hb dX6_many_53 (by decide) ?_
        exact g_retX hx hb hrt hlk hP hS rfl hv dX6_many_54
      · have hv := hv.2 c671
        refine lv_aload_n hx hb dX6_many_46 rfl (lv_at hl 0 rfl) (gg_X6_59 C0 hK hP dX6_many_47 (lv_goto (tgt := 54) hx hb dX6_many_50 (by decide) ?_))
        exact g_retX hx hb hrt hlk hP hS rfl hv dX6_many_54
    · have hv := hv.2 c668
      by_cases c672 : a1 = 2
      · refine lv_tableIn (tgt := 55) (off := 54) hx hb dX6_many_1 (by rw [c672]; decide) (by rw [c672]; decide) (by rw [c672]; rfl) (by decide) ?_
        have hv := hv.1 c672
        refine lv_aload_n hx hb dX6_many_55 rfl (lv_at hl 0 rfl) ?_
        refine g_iX (g_bV (As := []) (rest := []) C0 hK hP kX6_imageCount ql_X6_260 (mX6_imageCount hE hv) (by decide) ge_X6 rfl rfl hl.1 rfl (Nat.le_of_ble_eq_true rfl) ⟨rfl, rfl, Nat.le_of_ble_eq_true rfl, Nat.le_of_ble_eq_true rfl⟩ dX6_many_56) hS (fun x678 μ679 H locs hv hP hS => ?_)
        exact g_retX hx hb hrt hlk hP hS rfl hv dX6_many_59
      · have hv := hv.2 c672
        refine lv_tableOut (tgt := 60) hx hb dX6_many_1 (by have := ne_toInt (x := a1) (k := 0) (z := 0) (by decide) c667; have := ne_toInt (x := a1) (k := 1) (z := 1) (by decide) c668; have := ne_toInt (x := a1) (k := 2) (z := 2) (by decide) c672; omega) (by decide) ?_
        refine lv_bipush (v := (-2)) hx hb dX6_many_60 (by decide) ?_
        exact g_retX hx hb hrt hlk hP hS rfl hv dX6_many_62
