set_option maxHeartbeats 4000000 in
set_option maxRecDepth 100000 in
theorem mX6_isWithin {l : Launch} {E : gE} {μ ν : gM} {τ : gJ} {Q : Int32 → Prop} (hE : gLok E) {a0 : Int32} {a1 : Int32} {a2 : Int32}  (hv : vX6_isWithin a0 a1 a2 Q) : Met l yX6_isWithin (gws yX6_isWithin cX6_isWithin 3 (some .boolean)) (gRm 0 0) (gPc E [.int a0, .int a1, .int a2] μ ν τ) (gQiS E Q μ ν τ) 0 0 (gA E) := by
  refine g_entr (lv := [(0, .int a0), (1, .int a1), (2, .int a2)]) (by decide +kernel) (Nat.le_of_ble_eq_true rfl) rfl (fun p e s m args below meth c ls H locs hx hb hrt hlk C0 hK hP hS hl => ?_)
  have C0 : CallFix p m c cX6_isWithin 3 s args gTB RX6 := C0
  unfold vX6_isWithin at hv
  refine lv_iload_n hx hb dX6_isWithin_0 rfl (lv_at hl 0 rfl) (lv_iload_n hx hb dX6_isWithin_1 rfl (lv_at hl 1 rfl) ?_)
  refine lv_icmp_lt (tgt := 14) hx hb dX6_isWithin_2 (by decide) (fun c1 => ?_) (fun c1 => ?_)
  · have hv := hv.1 c1
    refine lv_iconst (v := 0) hx hb dX6_isWithin_14 (by decide) ?_
    exact g_retS hx hb hrt hlk hP hS rfl hv dX6_isWithin_15
  · have hv := hv.2 c1
    refine lv_iload_n hx hb dX6_isWithin_5 rfl (lv_at hl 0 rfl) (lv_iload_n hx hb dX6_isWithin_6 rfl (lv_at hl 2 rfl) ?_)
    refine lv_icmp_gt (tgt := 14) hx hb dX6_isWithin_7 (by decide) (fun c2 => ?_) (fun c2 => ?_)
    · have hv := hv.1 c2
      refine lv_iconst (v := 0) hx hb dX6_isWithin_14 (by decide) ?_
      exact g_retS hx hb hrt hlk hP hS rfl hv dX6_isWithin_15
    · have hv := hv.2 c2
      refine lv_iconst (v := 1) hx hb dX6_isWithin_10 (by decide) (lv_goto (tgt := 15) hx hb dX6_isWithin_11 (by decide) ?_)
      exact g_retS hx hb hrt hlk hP hS rfl hv dX6_isWithin_15
set_option maxHeartbeats 4000000 in
set_option maxRecDepth 100000 in
theorem mX0_allow {l : Launch} {E : gE} {μ ν : gM} {τ : gJ} {Q : gM → Prop} (hE : gLok E) {a1 : Int32} {a2 : Int32} {a3 : Int32}  (hv : vX0_allow a1 a2 a3 μ Q) : Met l yX0_allow (gws yX0_allow cX0_allow 4 none) (gRm 1 22) (gPc E [.ref (gL E 25), .int a1, .int a2, .int a3] μ ν τ) (gQvX E Q ν τ) 0 0 (gA E) := by
  refine g_entr (lv := [(0, .ref (gL E 25)), (1, .int a1), (2, .int a2), (3, .int a3)]) (by decide +kernel) (Nat.le_of_ble_eq_true rfl) rfl (fun p e s m args below meth c ls H locs hx hb hrt hlk C0 hK hP hS hl => ?_)
  have C0 : CallFix p m c cX0_allow 4 s args gTB RX0 := C0
  unfold vX0_allow at hv
  refine lv_iload_n hx hb dX0_allow_0 rfl (lv_at hl 1 rfl) (lv_iconst (v := 0) hx hb dX0_allow_1 (by decide) (lv_bipush (v := 7) hx hb dX0_allow_2 (by decide) ?_))
  refine g_iS (g_bSN (As := [.int a1, .int 0, .int 7]) (rest := []) C0 hK hP kX6_isWithin ql_X0_21 (mX6_isWithin hE hv) rfl hl.1 rfl (Nat.le_of_ble_eq_true rfl) ⟨rfl, rfl, Nat.le_of_ble_eq_true rfl, Nat.le_of_ble_eq_true rfl⟩ dX0_allow_4) hS (fun x3 H locs hv hP hS => ?_)
  refine lv_if_eq (tgt := 24) hx hb dX0_allow_7 (by decide) (fun c4 => ?_) (fun c4 => ?_)
  · have hv := hv.1 c4
    exact g_vretX hx hb hrt hlk hP hS hv dX0_allow_24
  · have hv := hv.2 c4
    refine lv_aload_n hx hb dX0_allow_10 rfl (lv_at hl 0 rfl) (gg_X0_9 C0 hK hP dX0_allow_11 (lv_iload_n hx hb dX0_allow_14 rfl (lv_at hl 1 rfl) (lv_iload_n hx hb dX0_allow_15 rfl (lv_at hl 2 rfl) ?_)))
    have hi5 := hv.1
    have hv := hv.2
    refine g_iastX hE hx hb hK hP hS (by decide) (fun _ => ga_26) hi5 dX0_allow_16 (fun H locs hP hS => (lv_aload_n hx hb dX0_allow_17 rfl (lv_at hl 0 rfl) (gg_X0_15 C0 hK hP dX0_allow_18 (lv_iload_n hx hb dX0_allow_21 rfl (lv_at hl 1 rfl) (lv_iload_n hx hb dX0_allow_22 rfl (lv_at hl 3 rfl) ?_)))))
    have hi6 := hv.1
    have hv := hv.2
    refine g_iastX hE hx hb hK hP hS (by decide) (fun _ => ga_27) hi6 dX0_allow_23 (fun H locs hP hS => ?_)
    exact g_vretX hx hb hrt hlk hP hS hv dX0_allow_24
set_option maxHeartbeats 4000000 in
set_option maxRecDepth 100000 in
theorem mJ7_fill_53178 {l : Launch} {E : gE} {μ ν : gM} {τ : gJ} {Q : gM → Prop} (hE : gLok E) {b0 : Nat} {n0 : Nat} {a1 : Int32} (hb0 : b0 < 46) (hg0 : ∀ μ : gM, gen E μ ν τ b0 = .inl (gI E, n0, .inl (μ b0))) (hv : vJ7_fill_53178 b0 n0 a1 μ Q) : Met l yJ7_fill_53178 (gws yJ7_fill_53178 cJ7_fill_53178 4 none) (gRm 0 0) (gPc E [.ref (gL E b0), .int a1] μ ν τ) (gQvX E Q ν τ) 0 0 (gA E) := by
  refine g_entr (lv := [(0, .ref (gL E b0)), (1, .int a1)]) (by decide +kernel) (Nat.le_of_ble_eq_true rfl) rfl (fun p e s m args below meth c ls H locs hx hb hrt hlk C0 hK hP hS hl => ?_)
  have C0 : CallFix p m c cJ7_fill_53178 4 s args gTB RJ7 := C0
  have h_5 : ∀ (n_5 : Nat) (v2 : Int32) (v3 : Int32) (μ : gM) (H : Heap) (locs : List Loc) (ls : Array Slot), va_P (gD E) vwCl (wl E μ ν τ) H → va_S (gA E) s.heap H locs → lv_has ls 4 [(0, .ref (gL E b0)), (1, .int a1), (2, .int v2), (3, .int v3)] → vJ7_fill_53178_5 b0 n0 a1 Q n_5 v2 v3 μ → W p l e (gRm 0 0) s m args below meth c H locs 0 0 (MQ below (gQvX E Q ν τ) args s 0 0 (gA E)) (F0 m 5 ls []) := by
    intro n_5
    induction n_5 with
    | zero =>
      intro v2 v3 μ H locs ls hP hS hl hv
      exact False.elim hv
    | succ n_5 ih_5 =>
      intro v2 v3 μ H locs ls hP hS hl hv
      have hv : vJ7_fill_53178_5B b0 n0 a1 Q (vJ7_fill_53178_5 b0 n0 a1 Q n_5) v2 v3 μ := hv
      unfold vJ7_fill_53178_5B at hv
      refine lv_iload_n hx hb dJ7_fill_53178_5 rfl (lv_at hl 2 rfl) (lv_iload_n hx hb dJ7_fill_53178_6 rfl (lv_at hl 3 rfl) ?_)
      refine lv_icmp_ge (tgt := 20) hx hb dJ7_fill_53178_7 (by decide) (fun c11 => ?_) (fun c11 => ?_)
      · have hv := hv.1 c11
        exact g_vretX hx hb hrt hlk hP hS hv dJ7_fill_53178_20
      · have hv := hv.2 c11
        refine lv_aload_n hx hb dJ7_fill_53178_10 rfl (lv_at hl 0 rfl) (lv_iload_n hx hb dJ7_fill_53178_11 rfl (lv_at hl 2 rfl) (lv_iload_n hx hb dJ7_fill_53178_12 rfl (lv_at hl 1 rfl) ?_))
        have hi12 := hv.1
        have hv := hv.2
        refine g_iastX hE hx hb hK hP hS hb0 hg0 hi12 dJ7_fill_53178_13 (fun H locs hP hS => (lv_iinc (v := (v2 + 1)) (lv' := [(2, .int (v2 + 1)), (0, .ref (gL E b0)), (1, .int a1), (3, .int v3)]) hx hb dJ7_fill_53178_14 hl (k := 2) rfl rfl (by decide) rfl (fun ls hl => (lv_goto (tgt := 5) hx hb dJ7_fill_53178_17 (by decide) ?_))))
        exact ih_5 (v2 + 1) v3 (up2 μ b0 v2.toNatClampNeg a1) H locs ls hP hS (lv_sub hl [1, 2, 0, 3] rfl) hv
  unfold vJ7_fill_53178 at hv
  refine lv_iconst (v := 0) hx hb dJ7_fill_53178_0 (by decide) (lv_istore_n (lv' := [(2, .int 0), (0, .ref (gL E b0)), (1, .int a1)]) hx hb dJ7_fill_53178_1 rfl hl (by decide) rfl (fun ls hl => (lv_aload_n hx hb dJ7_fill_53178_2 rfl (lv_at hl 1 rfl) (g_alen (v := (nI n0)) hx hb hK hP hb0 (hg0 _) rfl dJ7_fill_53178_3 (lv_istore_n (lv' := [(3, .int (nI n0)), (2, .int 0), (0, .ref (gL E b0)), (1, .int a1)]) hx hb dJ7_fill_53178_4 rfl hl (by decide) rfl (fun ls hl => ?_))))))
  obtain ⟨nf, hv⟩ := hv
  exact h_5 nf 0 (nI n0) μ H locs ls hP hS (lv_sub hl [2, 3, 1, 0] rfl) hv
set_option maxHeartbeats 4000000 in
set_option maxRecDepth 100000 in
theorem mJ6_bitCount_0f7a4 {l : Launch} {E : gE} {μ ν : gM} {τ : gJ} {Q : Int32 → Prop} (hE : gLok E) {a0 : Int32}  (hv : vJ6_bitCount_0f7a4 a0 Q) : Met l yJ6_bitCount_0f7a4 (gws yJ6_bitCount_0f7a4 cJ6_bitCount_0f7a4 1 (some .int)) (gRm 0 0) (gPc E [.int a0] μ ν τ) (gQiS E Q μ ν τ) 0 0 (gA E) := by
  refine g_entr (lv := [(0, .int a0)]) (by decide +kernel) (Nat.le_of_ble_eq_true rfl) rfl (fun p e s m args below meth c ls H locs hx hb hrt hlk C0 hK hP hS hl => ?_)
  have C0 : CallFix p m c cJ6_bitCount_0f7a4 1 s args gTB RJ6 := C0
  unfold vJ6_bitCount_0f7a4 at hv
  refine lv_iload_n hx hb dJ6_bitCount_0f7a4_0 rfl (lv_at hl 0 rfl) (lv_iload_n hx hb dJ6_bitCount_0f7a4_1 rfl (lv_at hl 0 rfl) (lv_iconst (v := 1) hx hb dJ6_bitCount_0f7a4_2 (by decide) (lv_iushr hx hb dJ6_bitCount_0f7a4_3 rfl (lv_ldcw (v := 1431655765) hx hb C0.2.2.2.1 (C0.2.2.2.2 _ (gTB_at 353 rfl rfl)) dJ6_bitCount_0f7a4_4 (lv_iand hx hb dJ6_bitCount_0f7a4_7 (lv_isub hx hb dJ6_bitCount_0f7a4_8 (lv_istore_n (lv' := [(0, .int (a0 - ((a0.toUInt32 >>> ((1 : Int32).toUInt32 &&& Int32.toUInt32 31)).toInt32 &&& 1431655765)))]) hx hb dJ6_bitCount_0f7a4_9 rfl hl (by decide) rfl (fun ls hl => (lv_iload_n hx hb dJ6_bitCount_0f7a4_10 rfl (lv_at hl 0 rfl) (lv_ldcw (v := 858993459) hx hb C0.2.2.2.1 (C0.2.2.2.2 _ (gTB_at 354 rfl rfl)) dJ6_bitCount_0f7a4_11 ?_))))))))))
  refine lv_iand hx hb dJ6_bitCount_0f7a4_14 (lv_iload_n hx hb dJ6_bitCount_0f7a4_15 rfl (lv_at hl 0 rfl) (lv_iconst (v := 2) hx hb dJ6_bitCount_0f7a4_16 (by decide) (lv_iushr hx hb dJ6_bitCount_0f7a4_17 rfl (lv_ldcw (v := 858993459) hx hb C0.2.2.2.1 (C0.2.2.2.2 _ (gTB_at 354 rfl rfl)) dJ6_bitCount_0f7a4_18 (lv_iand hx hb dJ6_bitCount_0f7a4_21 (lv_iadd hx hb dJ6_bitCount_0f7a4_22 (lv_istore_n (lv' := [(0, .int (((a0 - ((a0.toUInt32 >>> ((1 : Int32).toUInt32 &&& Int32.toUInt32 31)).toInt32 &&& 1431655765)) &&& 858993459) + (((a0 - ((a0.toUInt32 >>> ((1 : Int32).toUInt32 &&& Int32.toUInt32 31)).toInt32 &&& 1431655765)).toUInt32 >>> ((2 : Int32).toUInt32 &&& Int32.toUInt32 31)).toInt32 &&& 858993459)))]) hx hb dJ6_bitCount_0f7a4_23 rfl hl (by decide) rfl (fun ls hl => (lv_iload_n hx hb dJ6_bitCount_0f7a4_24 rfl (lv_at hl 0 rfl) (lv_iload_n hx hb dJ6_bitCount_0f7a4_25 rfl (lv_at hl 0 rfl) ?_))))))))))
  refine lv_iconst (v := 4) hx hb dJ6_bitCount_0f7a4_26 (by decide) (lv_iushr hx hb dJ6_bitCount_0f7a4_27 rfl (lv_iadd hx hb dJ6_bitCount_0f7a4_28 (lv_ldcw (v := 252645135) hx hb C0.2.2.2.1 (C0.2.2.2.2 _ (gTB_at 355 rfl rfl)) dJ6_bitCount_0f7a4_29 (lv_iand hx hb dJ6_bitCount_0f7a4_32 (lv_istore_n (lv' := [(0, .int (((((a0 - ((a0.toUInt32 >>> ((1 : Int32).toUInt32 &&& Int32.toUInt32 31)).toInt32 &&& 1431655765)) &&& 858993459) + (((a0 - ((a0.toUInt32 >>> ((1 : Int32).toUInt32 &&& Int32.toUInt32 31)).toInt32 &&& 1431655765)).toUInt32 >>> ((2 : Int32).toUInt32 &&& Int32.toUInt32 31)).toInt32 &&& 858993459)) + ((((a0 - ((a0.toUInt32 >>> ((1 : Int32).toUInt32 &&& Int32.toUInt32 31)).toInt32 &&& 1431655765)) &&& 858993459) + (((a0 - ((a0.toUInt32 >>> ((1 : Int32).toUInt32 &&& Int32.toUInt32 31)).toInt32 &&& 1431655765)).toUInt32 >>> ((2 : Int32).toUInt32 &&& Int32.toUInt32 31)).toInt32 &&& 858993459)).toUInt32 >>> ((4 : Int32).toUInt32 &&& Int32.toUInt32 31)).toInt32) &&& 252645135))]) hx hb dJ6_bitCount_0f7a4_33 rfl hl (by decide) rfl (fun ls hl => (lv_iload_n hx hb dJ6_bitCount_0f7a4_34 rfl (lv_at hl 0 rfl) (lv_iload_n hx hb dJ6_bitCount_0f7a4_35 rfl (lv_at hl 0 rfl) (lv_bipush (v := 8) hx hb dJ6_bitCount_0f7a4_36 (by decide) (lv_iushr hx hb dJ6_bitCount_0f7a4_38 rfl ?_))))))))))
  refine lv_iadd hx hb dJ6_bitCount_0f7a4_39 (lv_istore_n (lv' := [(0, .int ((((((a0 - ((a0.toUInt32 >>> ((1 : Int32).toUInt32 &&& Int32.toUInt32 31)).toInt32 &&& 1431655765)) &&& 858993459) + (((a0 - ((a0.toUInt32 >>> ((1 : Int32).toUInt32 &&& Int32.toUInt32 31)).toInt32 &&& 1431655765)).toUInt32 >>> ((2 : Int32).toUInt32 &&& Int32.toUInt32 31)).toInt32 &&& 858993459)) + ((((a0 - ((a0.toUInt32 >>> ((1 : Int32).toUInt32 &&& Int32.toUInt32 31)).toInt32 &&& 1431655765)) &&& 858993459) + (((a0 - ((a0.toUInt32 >>> ((1 : Int32).toUInt32 &&& Int32.toUInt32 31)).toInt32 &&& 1431655765)).toUInt32 >>> ((2 : Int32).toUInt32 &&& Int32.toUInt32 31)).toInt32 &&& 858993459)).toUInt32 >>> ((4 : Int32).toUInt32 &&& Int32.toUInt32 31)).toInt32) &&& 252645135) + ((((((a0 - ((a0.toUInt32 >>> ((1 : Int32).toUInt32 &&& Int32.toUInt32 31)).toInt32 &&& 1431655765)) &&& 858993459) + (((a0 - ((a0.toUInt32 >>> ((1 : Int32).toUInt32 &&& Int32.toUInt32 31)).toInt32 &&& 1431655765)).toUInt32 >>> ((2 : Int32).toUInt32 &&& Int32.toUInt32 31)).toInt32 &&& 858993459)) + ((((a0 - ((a0.toUInt32 >>> ((1 : Int32).toUInt32 &&& Int32.toUInt32 31)).toInt32 &&& 1431655765)) &&& 858993459) + (((a0 - ((a0.toUInt32 >>> ((1 : Int32).toUInt32 &&& Int32.toUInt32 31)).toInt32 &&& 1431655765)).toUInt32 >>> ((2 : Int32).toUInt32 &&& Int32.toUInt32 31)).toInt32 &&& 858993459)).toUInt32 >>> ((4 : Int32).toUInt32 &&& Int32.toUInt32 31)).toInt32) &&& 252645135).toUInt32 >>> ((8 : Int32).toUInt32 &&& Int32.toUInt32 31)).toInt32))]) hx hb dJ6_bitCount_0f7a4_40 rfl hl (by decide) rfl (fun ls hl => (lv_iload_n hx hb dJ6_bitCount_0f7a4_41 rfl (lv_at hl 0 rfl) (lv_iload_n hx hb dJ6_bitCount_0f7a4_42 rfl (lv_at hl 0 rfl) (lv_bipush (v := 16) hx hb dJ6_bitCount_0f7a4_43 (by decide) (lv_iushr hx hb dJ6_bitCount_0f7a4_45 rfl (lv_iadd hx hb dJ6_bitCount_0f7a4_46 (lv_istore_n (lv' := [(0, .int (((((((a0 - ((a0.toUInt32 >>> ((1 : Int32).toUInt32 &&& Int32.toUInt32 31)).toInt32 &&& 1431655765)) &&& 858993459) + (((a0 - ((a0.toUInt32 >>> ((1 : Int32).toUInt32 &&& Int32.toUInt32 31)).toInt32 &&& 1431655765)).toUInt32 >>> ((2 : Int32).toUInt32 &&& Int32.toUInt32 31)).toInt32 &&& 858993459)) + ((((a0 - ((a0.toUInt32 >>> ((1 : Int32).toUInt32 &&& Int32.toUInt32 31)).toInt32 &&& 1431655765)) &&& 858993459) + (((a0 - ((a0.toUInt32 >>> ((1 : Int32).toUInt32 &&& Int32.toUInt32 31)).toInt32 &&& 1431655765)).toUInt32 >>> ((2 : Int32).toUInt32 &&& Int32.toUInt32 31)).toInt32 &&& 858993459)).toUInt32 >>> ((4 : Int32).toUInt32 &&& Int32.toUInt32 31)).toInt32) &&& 252645135) + ((((((a0 - ((a0.toUInt32 >>> ((1 : Int32).toUInt32 &&& Int32.toUInt32 31)).toInt32 &&& 1431655765)) &&& 858993459) + (((a0 - ((a0.toUInt32 >>> ((1 : Int32).toUInt32 &&& Int32.toUInt32 31)).toInt32 &&& 1431655765)).toUInt32 >>> ((2 : Int32).toUInt32 &&& Int32.toUInt32 31)).toInt32 &&& 858993459)) + ((((a0 - ((a0.toUInt32 >>> ((1 : Int32).toUInt32 &&& Int32.toUInt32 31)).toInt32 &&& 1431655765)) &&& 858993459) + (((a0 - ((a0.toUInt32 >>> ((1 : Int32).toUInt32 &&& Int32.toUInt32 31)).toInt32 &&& 1431655765)).toUInt32 >>> ((2 : Int32).toUInt32 &&& Int32.toUInt32 31)).toInt32 &&& 858993459)).toUInt32 >>> ((4 : Int32).toUInt32 &&& Int32.toUInt32 31)).toInt32) &&& 252645135).toUInt32 >>> ((8 : Int32).toUInt32 &&& Int32.toUInt32 31)).toInt32) + (((((((a0 - ((a0.toUInt32 >>> ((1 : Int32).toUInt32 &&& Int32.toUInt32 31)).toInt32 &&& 1431655765)) &&& 858993459) + (((a0 - ((a0.toUInt32 >>> ((1 : Int32).toUInt32 &&& Int32.toUInt32 31)).toInt32 &&& 1431655765)).toUInt32 >>> ((2 : Int32).toUInt32 &&& Int32.toUInt32 31)).toInt32 &&& 858993459)) + ((((a0 - ((a0.toUInt32 >>> ((1 : Int32).toUInt32 &&& Int32.toUInt32 31)).toInt32 &&& 1431655765)) &&& 858993459) + (((a0 - ((a0.toUInt32 >>> ((1 : Int32).toUInt32 &&& Int32.toUInt32 31)).toInt32 &&& 1431655765)).toUInt32 >>> ((2 : Int32).toUInt32 &&& Int32.toUInt32 31)).toInt32 &&& 858993459)).toUInt32 >>> ((4 : Int32).toUInt32 &&& Int32.toUInt32 31)).toInt32) &&& 252645135) + ((((((a0 - ((a0.toUInt32 >>> ((1 : Int32).toUInt32 &&& Int32.toUInt32 31)).toInt32 &&& 1431655765)) &&& 858993459) + (((a0 - ((a0.toUInt32 >>> ((1 : Int32).toUInt32 &&& Int32.toUInt32 31)).toInt32 &&& 1431655765)).toUInt32 >>> ((2 : Int32).toUInt32 &&& Int32.toUInt32 31)).toInt32 &&& 858993459)) + ((((a0 - ((a0.toUInt32 >>> ((1 : Int32).toUInt32 &&& Int32.toUInt32 31)).toInt32 &&& 1431655765)) &&& 858993459) + (((a0 - ((a0.toUInt32 >>> ((1 : Int32).toUInt32 &&& Int32.toUInt32 31)).toInt32 &&& 1431655765)).toUInt32 >>> ((2 : Int32).toUInt32 &&& Int32.toUInt32 31)).toInt32 &&& 858993459)).toUInt32 >>> ((4 : Int32).toUInt32 &&& Int32.toUInt32 31)).toInt32) &&& 252645135).toUInt32 >>> ((8 : Int32).toUInt32 &&& Int32.toUInt32 31)).toInt32).toUInt32 >>> ((16 : Int32).toUInt32 &&& Int32.toUInt32 31)).toInt32))]) hx hb dJ6_bitCount_0f7a4_47 rfl hl (by decide) rfl (fun ls hl => (lv_iload_n hx hb dJ6_bitCount_0f7a4_48 rfl (lv_at hl 0 rfl) (lv_bipush (v := 63) hx hb dJ6_bitCount_0f7a4_49 (by decide) ?_)))))))))))
  refine lv_iand hx hb dJ6_bitCount_0f7a4_51 ?_
  exact g_retS hx hb hrt hlk hP hS rfl hv dJ6_bitCount_0f7a4_52
set_option maxHeartbeats 4000000 in
set_option maxRecDepth 100000 in
theorem mX0_addThrow {l : Launch} {E : gE} {μ ν : gM} {τ : gJ} {Q : gM → Prop} (hE : gLok E) {a1 : Int32} {a2 : Int32} {a3 : Int32} {a4 : Int32}  (hv : vX0_addThrow a1 a2 a3 a4 μ Q) : Met l yX0_addThrow (gws yX0_addThrow cX0_addThrow 10 none) (gRm 0 0) (gPc E [.ref (gL E 25), .int a1, .int a2, .int a3, .int a4] μ ν τ) (gQvX E Q ν τ) 0 0 (gA E) := by
  refine g_entr (lv := [(0, .ref (gL E 25)), (1, .int a1), (2, .int a2), (3, .int a3), (4, .int a4)]) (by decide +kernel) (Nat.le_of_ble_eq_true rfl) rfl (fun p e s m args below meth c ls H locs hx hb hrt hlk C0 hK hP hS hl => ?_)
  have C0 : CallFix p m c cX0_addThrow 10 s args gTB RX0 := C0
  have h_44 : ∀ (n_44 : Nat) (v7 : Int32) (v8 : Int32) (v9 : Int32) (μ : gM) (H : Heap) (locs : List Loc) (ls : Array Slot), va_P (gD E) vwCl (wl E μ ν τ) H → va_S (gA E) s.heap H locs → lv_has ls 10 [(0, .ref (gL E 25)), (2, .int a2), (7, .int v7), (8, .int v8), (9, .int v9)] → vX0_addThrow_44 a1 a2 a3 a4 Q n_44 v7 v8 v9 μ → W p l e (gRm 0 0) s m args below meth c H locs 0 0 (MQ below (gQvX E Q ν τ) args s 0 0 (gA E)) (F0 m 44 ls []) := by
    intro n_44
    induction n_44 with
    | zero =>
      intro v7 v8 v9 μ H locs ls hP hS hl hv
      exact False.elim hv
    | succ n_44 ih_44 =>
      intro v7 v8 v9 μ H locs ls hP hS hl hv
      have hv : vX0_addThrow_44B a1 a2 a3 a4 Q (vX0_addThrow_44 a1 a2 a3 a4 Q n_44) v7 v8 v9 μ := hv
      unfold vX0_addThrow_44B at hv
      refine lv_iload hx hb dX0_addThrow_44 (lv_at hl 4 rfl) (lv_iload_n hx hb dX0_addThrow_46 rfl (lv_at hl 1 rfl) ?_)
      refine lv_icmp_gt (tgt := 79) hx hb dX0_addThrow_47 (by decide) (fun c23 => ?_) (fun c23 => ?_)
      · have hv := hv.1 c23
        exact g_vretX hx hb hrt hlk hP hS hv dX0_addThrow_79
      · have hv := hv.2 c23
        refine lv_aload_n hx hb dX0_addThrow_50 rfl (lv_at hl 0 rfl) (gg_X0_18 C0 hK hP dX0_addThrow_51 (lv_iload hx hb dX0_addThrow_54 (lv_at hl 2 rfl) (lv_iload hx hb dX0_addThrow_56 (lv_at hl 4 rfl) (lv_iadd hx hb dX0_addThrow_58 (lv_dup2_11 hx hb dX0_addThrow_59 rfl rfl ?_)))))
        have hi24 := hv.1
        have hv := hv.2
        refine g_iald hx hb hK hP (by decide) ga_28 hi24 dX0_addThrow_60 (lv_aload_n hx hb dX0_addThrow_61 rfl (lv_at hl 0 rfl) (gg_X0_18 C0 hK hP dX0_addThrow_62 (lv_iload hx hb dX0_addThrow_65 (lv_at hl 3 rfl) (lv_iload hx hb dX0_addThrow_67 (lv_at hl 4 rfl) (lv_iadd hx hb dX0_addThrow_69 ?_)))))
        have hi25 := hv.1
        have hv := hv.2
        refine g_iald hx hb hK hP (by decide) ga_28 hi25 dX0_addThrow_70 (lv_iadd hx hb dX0_addThrow_71 ?_)
        have hi26 := hv.1
        have hv := hv.2
        refine g_iastX hE hx hb hK hP hS (by decide) (fun _ => ga_28) hi26 dX0_addThrow_72 (fun H locs hP hS => (lv_iinc (v := (v9 + 1)) (lv' := [(9, .int (v9 + 1)), (0, .ref (gL E 25)), (2, .int a2), (7, .int v7), (8, .int v8)]) hx hb dX0_addThrow_73 hl (k := 4) rfl rfl (by decide) rfl (fun ls hl => (lv_goto (tgt := 44) hx hb dX0_addThrow_76 (by decide) ?_))))
        exact ih_44 v7 v8 (v9 + 1) (up2 μ 28 (v7 + v9).toNatClampNeg ((μ 28 (v7 + v9).toNatClampNeg) + (μ 28 (v8 + v9).toNatClampNeg))) H locs ls hP hS (lv_sub hl [1, 2, 3, 4, 0] rfl) hv
  unfold vX0_addThrow at hv
  refine lv_iconst (v := 1) hx hb dX0_addThrow_0 (by decide) (lv_iload hx hb dX0_addThrow_1 (lv_at hl 4 rfl) (lv_iload_n hx hb dX0_addThrow_3 rfl (lv_at hl 1 rfl) ?_))
  have hd := hv.1
  have hv := hv.2
  refine lv_irem hx hb dX0_addThrow_4 hd (lv_ishl hx hb dX0_addThrow_5 (lv_istore (lv' := [(5, .int ((1 : Int32) <<< ((a4 - a4 / a1 * a1) &&& 31))), (0, .ref (gL E 25)), (1, .int a1), (2, .int a2), (3, .int a3), (4, .int a4)]) hx hb dX0_addThrow_6 hl (by decide) rfl (fun ls hl => (lv_iload_n hx hb dX0_addThrow_8 rfl (lv_at hl 4 rfl) (lv_iload hx hb dX0_addThrow_9 (lv_at hl 0 rfl) (lv_iand hx hb dX0_addThrow_11 ?_))))))
  refine lv_if_eq (tgt := 16) hx hb dX0_addThrow_12 (by decide) (fun c22 => ?_) (fun c22 => ?_)
  · have hv := hv.1 c22
    refine lv_iload hx hb dX0_addThrow_16 (lv_at hl 5 rfl) (lv_iload_n hx hb dX0_addThrow_18 rfl (lv_at hl 2 rfl) ?_)
    have hd := hv.1
    have hv := hv.2
    refine lv_idiv hx hb dX0_addThrow_19 hd (lv_istore (lv' := [(6, .int (a4 / a1)), (5, .int ((1 : Int32) <<< ((a4 - a4 / a1 * a1) &&& 31))), (0, .ref (gL E 25)), (1, .int a1), (2, .int a2), (3, .int a3), (4, .int a4)]) hx hb dX0_addThrow_20 hl (by decide) rfl (fun ls hl => (lv_iload_n hx hb dX0_addThrow_22 rfl (lv_at hl 5 rfl) (lv_bipush (v := 10) hx hb dX0_addThrow_23 (by decide) (lv_imul hx hb dX0_addThrow_25 (lv_istore (lv' := [(7, .int (a3 * 10)), (6, .int (a4 / a1)), (5, .int ((1 : Int32) <<< ((a4 - a4 / a1 * a1) &&& 31))), (0, .ref (gL E 25)), (1, .int a1), (2, .int a2), (3, .int a3), (4, .int a4)]) hx hb dX0_addThrow_26 hl (by decide) rfl (fun ls hl => (lv_iload_n hx hb dX0_addThrow_28 rfl (lv_at hl 6 rfl) (lv_iload hx hb dX0_addThrow_29 (lv_at hl 2 rfl) (lv_ior hx hb dX0_addThrow_31 (lv_bipush (v := 10) hx hb dX0_addThrow_32 (by decide) ?_)))))))))))
    refine lv_imul hx hb dX0_addThrow_34 (lv_iload hx hb dX0_addThrow_35 (lv_at hl 1 rfl) (lv_isub hx hb dX0_addThrow_37 (lv_istore (lv' := [(8, .int (((a3 ||| ((1 : Int32) <<< ((a4 - a4 / a1 * a1) &&& 31))) * 10) - (a4 / a1))), (7, .int (a3 * 10)), (6, .int (a4 / a1)), (5, .int ((1 : Int32) <<< ((a4 - a4 / a1 * a1) &&& 31))), (0, .ref (gL E 25)), (1, .int a1), (2, .int a2), (3, .int a3), (4, .int a4)]) hx hb dX0_addThrow_38 hl (by decide) rfl (fun ls hl => (lv_iload hx hb dX0_addThrow_40 (lv_at hl 2 rfl) (lv_istore (lv' := [(9, .int (a4 / a1)), (8, .int (((a3 ||| ((1 : Int32) <<< ((a4 - a4 / a1 * a1) &&& 31))) * 10) - (a4 / a1))), (7, .int (a3 * 10)), (6, .int (a4 / a1)), (5, .int ((1 : Int32) <<< ((a4 - a4 / a1 * a1) &&& 31))), (0, .ref (gL E 25)), (1, .int a1), (2, .int a2), (3, .int a3), (4, .int a4)]) hx hb dX0_addThrow_42 hl (by decide) rfl (fun ls hl => ?_)))))))
    obtain ⟨nf, hv⟩ := hv
    exact h_44 nf (a3 * 10) (((a3 ||| ((1 : Int32) <<< ((a4 - a4 / a1 * a1) &&& 31))) * 10) - (a4 / a1)) (a4 / a1) μ H locs ls hP hS (lv_sub hl [5, 7, 2, 1, 0] rfl) hv
  · have hv := hv.2 c22
    exact g_vretX hx hb hrt hlk hP hS hv dX0_addThrow_15
set_option maxHeartbeats 4000000 in
set_option maxRecDepth 100000 in
theorem mX0_count {l : Launch} {E : gE} {μ ν : gM} {τ : gJ} {Q : Int32 → gM → Prop} (hE : gLok E) {a1 : Int32} {a2 : Int32}  (hv : vX0_count a1 a2 μ Q) : Met l yX0_count (gws yX0_count cX0_count 7 (some .int)) (gRm 1 29) (gPc E [.ref (gL E 25), .int a1, .int a2] μ ν τ) (gQiX E Q ν τ) 0 0 (gA E) := by
  refine g_entr (lv := [(0, .ref (gL E 25)), (1, .int a1), (2, .int a2)]) (by decide +kernel) (Nat.le_of_ble_eq_true rfl) rfl (fun p e s m args below meth c ls H locs hx hb hrt hlk C0 hK hP hS hl => ?_)
  have C0 : CallFix p m c cX0_count 7 s args gTB RX0 := C0
  have h_51 : ∀ (n_51 : Nat) (v4 : Int32) (μ : gM) (H : Heap) (locs : List Loc) (ls : Array Slot), va_P (gD E) vwCl (wl E μ ν τ) H → va_S (gA E) s.heap H locs → lv_has ls 7 [(0, .ref (gL E 25)), (1, .int a1), (2, .int a2), (4, .int v4)] → vX0_count_51 a1 a2 Q n_51 v4 μ → W p l e (gRm 1 29) s m args below meth c H locs 0 0 (MQ below (gQiX E Q ν τ) args s 0 0 (gA E)) (F0 m 51 ls []) := by
    intro n_51
    induction n_51 with
    | zero =>
      intro v4 μ H locs ls hP hS hl hv
      exact False.elim hv
    | succ n_51 ih_51 =>
      intro v4 μ H locs ls hP hS hl hv
      have h_72 : ∀ (n_72 : Nat) (v4 : Int32) (v5 : Int32) (v6 : Int32) (μ : gM) (H : Heap) (locs : List Loc) (ls : Array Slot), va_P (gD E) vwCl (wl E μ ν τ) H → va_S (gA E) s.heap H locs → lv_has ls 7 [(0, .ref (gL E 25)), (1, .int a1), (2, .int a2), (4, .int v4), (5, .int v5), (6, .int v6)] → vX0_count_72 a1 a2 Q (vX0_count_51 a1 a2 Q n_51) n_72 v4 v5 v6 μ → W p l e (gRm 1 29) s m args below meth c H locs 0 0 (MQ below (gQiX E Q ν τ) args s 0 0 (gA E)) (F0 m 72 ls []) := by
        intro n_72
        induction n_72 with
        | zero =>
          intro v4 v5 v6 μ H locs ls hP hS hl hv
          exact False.elim hv
        | succ n_72 ih_72 =>
          intro v4 v5 v6 μ H locs ls hP hS hl hv
          have hv : vX0_count_72B a1 a2 Q (vX0_count_51 a1 a2 Q n_51) (vX0_count_72 a1 a2 Q (vX0_count_51 a1 a2 Q n_51) n_72) v4 v5 v6 μ := hv
          unfold vX0_count_72B at hv
          refine lv_iload hx hb dX0_count_72 (lv_at hl 5 rfl) (lv_aload_n hx hb dX0_count_74 rfl (lv_at hl 0 rfl) (gg_X0_15 C0 hK hP dX0_count_75 (lv_iload hx hb dX0_count_78 (lv_at hl 4 rfl) ?_)))
          have hi20 := hv.1
          have hv := hv.2
          refine g_iald hx hb hK hP (by decide) ga_27 hi20 dX0_count_80 ?_
          refine lv_icmp_gt (tgt := 103) hx hb dX0_count_81 (by decide) (fun c21 => ?_) (fun c21 => ?_)
          · have hv := hv.1 c21
            refine lv_iinc (v := (v4 + (-1))) (lv' := [(4, .int (v4 + (-1))), (0, .ref (gL E 25)), (1, .int a1), (2, .int a2), (5, .int v5), (6, .int v6)]) hx hb dX0_count_103 hl (k := 3) rfl rfl (by decide) rfl (fun ls hl => (lv_goto (tgt := 51) hx hb dX0_count_106 (by decide) ?_))
            exact ih_51 (v4 + (-1)) μ H locs ls hP hS (lv_sub hl [1, 2, 3, 0] rfl) hv
          · have hv := hv.2 c21
            refine lv_aload_n hx hb dX0_count_84 rfl (lv_at hl 0 rfl) (lv_iload_n hx hb dX0_count_85 rfl (lv_at hl 1 rfl) (lv_iload_n hx hb dX0_count_86 rfl (lv_at hl 2 rfl) (lv_iload hx hb dX0_count_87 (lv_at hl 3 rfl) (lv_iload hx hb dX0_count_89 (lv_at hl 4 rfl) (lv_iload hx hb dX0_count_91 (lv_at hl 5 rfl) (lv_iadd hx hb dX0_count_93 ?_))))))
            refine g_vX (g_bV (As := [.int a1, .int a2, .int v4, .int (v5 + v6)]) (rest := []) C0 hK hP kX0_addThrow ql_X0_37 (mX0_addThrow hE hv) (by decide) ge_X0 rfl rfl hl.1 rfl (Nat.le_of_ble_eq_true rfl) ⟨rfl, rfl, Nat.le_of_ble_eq_true rfl, Nat.le_of_ble_eq_true rfl⟩ dX0_count_94) hS (fun μ28 H locs hv hP hS => ?_)
            refine lv_iinc (v := (v6 + 1)) (lv' := [(6, .int (v6 + 1)), (0, .ref (gL E 25)), (1, .int a1), (2, .int a2), (4, .int v4), (5, .int v5)]) hx hb dX0_count_97 hl (k := 5) rfl rfl (by decide) rfl (fun ls hl => (lv_goto (tgt := 72) hx hb dX0_count_100 (by decide) ?_))
            exact ih_72 v4 v5 (v6 + 1) μ28 H locs ls hP hS (lv_sub hl [1, 2, 3, 4, 5, 0] rfl) hv
      have hv : vX0_count_51B a1 a2 Q (vX0_count_51 a1 a2 Q n_51) v4 μ := hv
      unfold vX0_count_51B at hv
      refine lv_iload hx hb dX0_count_51 (lv_at hl 3 rfl) ?_
      refine lv_if_lt (tgt := 109) hx hb dX0_count_53 (by decide) (fun c16 => ?_) (fun c16 => ?_)
      · have hv := hv.1 c16
        refine lv_aload_n hx hb dX0_count_109 rfl (lv_at hl 0 rfl) (gg_X0_18 C0 hK hP dX0_count_110 (lv_iload_n hx hb dX0_count_113 rfl (lv_at hl 2 rfl) ?_))
        have hi17 := hv.1
        have hv := hv.2
        refine g_iald hx hb hK hP (by decide) ga_28 hi17 dX0_count_114 ?_
        exact g_retX hx hb hrt hlk hP hS rfl hv dX0_count_115
      · have hv := hv.2 c16
        refine lv_iload hx hb dX0_count_56 (lv_at hl 3 rfl) ?_
        refine g_iS (g_bS (As := [.int v4]) (rest := []) C0 hK hP kJ6_bitCount_0f7a4 ql_X0_31 (mJ6_bitCount_0f7a4 hE hv) rfl hl.1 rfl (Nat.le_of_ble_eq_true rfl) ⟨rfl, rfl, Nat.le_of_ble_eq_true rfl, Nat.le_of_ble_eq_true rfl⟩ dX0_count_58) hS (fun x18 H locs hv hP hS => ?_)
        refine lv_istore (lv' := [(5, .int x18), (0, .ref (gL E 25)), (1, .int a1), (2, .int a2), (4, .int v4)]) hx hb dX0_count_61 hl (by decide) rfl (fun ls hl => (lv_aload_n hx hb dX0_count_63 rfl (lv_at hl 1 rfl) (gg_X0_9 C0 hK hP dX0_count_64 (lv_iload hx hb dX0_count_67 (lv_at hl 0 rfl) ?_))))
        have hi19 := hv.1
        have hv := hv.2
        refine g_iald hx hb hK hP (by decide) ga_26 hi19 dX0_count_69 (lv_istore (lv' := [(6, .int (μ 26 x18.toNatClampNeg)), (5, .int x18), (0, .ref (gL E 25)), (1, .int a1), (2, .int a2), (4, .int v4)]) hx hb dX0_count_70 hl (by decide) rfl (fun ls hl => ?_))
        obtain ⟨nf, hv⟩ := hv
        exact h_72 nf v4 x18 (μ 26 x18.toNatClampNeg) μ H locs ls hP hS (lv_sub hl [2, 3, 4, 5, 1, 0] rfl) hv
  unfold vX0_count at hv
  refine lv_iload_n hx hb dX0_count_0 rfl (lv_at hl 1 rfl) (lv_iconst (v := 1) hx hb dX0_count_1 (by decide) (lv_bipush (v := 8) hx hb dX0_count_2 (by decide) ?_))
  refine g_iS (g_bSN (As := [.int a1, .int 1, .int 8]) (rest := []) C0 hK hP kX6_isWithin ql_X0_21 (mX6_isWithin hE hv) rfl hl.1 rfl (Nat.le_of_ble_eq_true rfl) ⟨rfl, rfl, Nat.le_of_ble_eq_true rfl, Nat.le_of_ble_eq_true rfl⟩ dX0_count_4) hS (fun x7 H locs hv hP hS => ?_)
  refine lv_if_eq (tgt := 20) hx hb dX0_count_7 (by decide) (fun c8 => ?_) (fun c8 => ?_)
  · have hv := hv.1 c8
    refine lv_iconst (v := 0) hx hb dX0_count_20 (by decide) ?_
    exact g_retX hx hb hrt hlk hP hS rfl hv dX0_count_21
  · have hv := hv.2 c8
    refine lv_iload_n hx hb dX0_count_10 rfl (lv_at hl 2 rfl) (lv_iconst (v := 0) hx hb dX0_count_11 (by decide) (lv_bipush (v := 9) hx hb dX0_count_12 (by decide) ?_))
    refine g_iS (g_bSN (As := [.int a2, .int 0, .int 9]) (rest := []) C0 hK hP kX6_isWithin ql_X0_21 (mX6_isWithin hE hv) rfl hl.1 rfl (Nat.le_of_ble_eq_true rfl) ⟨rfl, rfl, Nat.le_of_ble_eq_true rfl, Nat.le_of_ble_eq_true rfl⟩ dX0_count_14) hS (fun x9 H locs hv hP hS => ?_)
    refine lv_if_ne (tgt := 22) hx hb dX0_count_17 (by decide) (fun c10 => ?_) (fun c10 => ?_)
    · have hv := hv.1 c10
      refine lv_aload_n hx hb dX0_count_22 rfl (lv_at hl 0 rfl) (gg_X0_18 C0 hK hP dX0_count_23 (lv_iconst (v := 0) hx hb dX0_count_26 (by decide) ?_))
      refine g_vX (g_bS (As := [.ref (gL E 28), .int 0]) (rest := []) C0 hK hP kJ7_fill_53178 ql_X0_25 (mJ7_fill_53178 hE (by decide) (fun _ => ga_28) hv) rfl hl.1 rfl (Nat.le_of_ble_eq_true rfl) ⟨rfl, rfl, Nat.le_of_ble_eq_true rfl, Nat.le_of_ble_eq_true rfl⟩ dX0_count_27) hS (fun μ14 H locs hv hP hS => ?_)
      refine lv_iconst (v := 1) hx hb dX0_count_30 (by decide) (lv_iload_n hx hb dX0_count_31 rfl (lv_at hl 1 rfl) (lv_ishl hx hb dX0_count_32 (lv_iconst (v := 1) hx hb dX0_count_33 (by decide) (lv_isub hx hb dX0_count_34 (lv_istore_n (lv' := [(3, .int (((1 : Int32) <<< (a1 &&& 31)) - 1)), (0, .ref (gL E 25)), (1, .int a1), (2, .int a2)]) hx hb dX0_count_35 rfl hl (by decide) rfl (fun ls hl => (lv_aload_n hx hb dX0_count_36 rfl (lv_at hl 1 rfl) (gg_X0_18 C0 hK hP dX0_count_37 (lv_iload_n hx hb dX0_count_40 rfl (lv_at hl 0 rfl) (lv_bipush (v := 10) hx hb dX0_count_41 (by decide) ?_))))))))))
      refine lv_imul hx hb dX0_count_43 (lv_iconst (v := 1) hx hb dX0_count_44 (by decide) ?_)
      have hi15 := hv.1
      have hv := hv.2
      refine g_iastX hE hx hb hK hP hS (by decide) (fun _ => ga_28) hi15 dX0_count_45 (fun H locs hP hS => (lv_iload_n hx hb dX0_count_46 rfl (lv_at hl 0 rfl) (lv_iconst (v := 1) hx hb dX0_count_47 (by decide) (lv_isub hx hb dX0_count_48 (lv_istore (lv' := [(4, .int ((((1 : Int32) <<< (a1 &&& 31)) - 1) - 1)), (3, .int (((1 : Int32) <<< (a1 &&& 31)) - 1)), (0, .ref (gL E 25)), (1, .int a1), (2, .int a2)]) hx hb dX0_count_49 hl (by decide) rfl (fun ls hl => ?_))))))
      obtain ⟨nf, hv⟩ := hv
      exact h_51 nf ((((1 : Int32) <<< (a1 &&& 31)) - 1) - 1) (up2 μ14 28 ((((1 : Int32) <<< (a1 &&& 31)) - 1) * 10).toNatClampNeg 1) H locs ls hP hS (lv_sub hl [2, 3, 4, 0] rfl) hv
    · have hv := hv.2 c10
      refine lv_iconst (v := 0) hx hb dX0_count_20 (by decide) ?_
      exact g_retX hx hb hrt hlk hP hS rfl hv dX0_count_21
set_option maxHeartbeats 4000000 in
set_option maxRecDepth 100000 in
theorem mX0_firstThrow {l : Launch} {E : gE} {μ ν : gM} {τ : gJ} {Q : Int32 → gM → Prop} (hE : gLok E) {a1 : Int32} {a2 : Int32} {a3 : Int32}  (hv : vX0_firstThrow a1 a2 a3 μ Q) : Met l yX0_firstThrow (gws yX0_firstThrow cX0_firstThrow 8 (some .int)) (gRm 1 20) (gPc E [.ref (gL E 25), .int a1, .int a2, .int a3] μ ν τ) (gQiX E Q ν τ) 0 0 (gA E) := by
  refine g_entr (lv := [(0, .ref (gL E 25)), (1, .int a1), (2, .int a2), (3, .int a3)]) (by decide +kernel) (Nat.le_of_ble_eq_true rfl) rfl (fun p e s m args below meth c ls H locs hx hb hrt hlk C0 hK hP hS hl => ?_)
  have C0 : CallFix p m c cX0_firstThrow 8 s args gTB RX0 := C0
  have h_23 : ∀ (n_23 : Nat) (v4 : Int32) (v5 : Int32) (μ : gM) (H : Heap) (locs : List Loc) (ls : Array Slot), va_P (gD E) vwCl (wl E μ ν τ) H → va_S (gA E) s.heap H locs → lv_has ls 8 [(0, .ref (gL E 25)), (1, .int a1), (2, .int a2), (3, .int a3), (4, .int v4), (5, .int v5)] → vX0_firstThrow_23 a1 a2 a3 Q n_23 v4 v5 μ → W p l e (gRm 1 20) s m args below meth c H locs 0 0 (MQ below (gQiX E Q ν τ) args s 0 0 (gA E)) (F0 m 23 ls []) := by
    intro n_23
    induction n_23 with
    | zero =>
      intro v4 v5 μ H locs ls hP hS hl hv
      exact False.elim hv
    | succ n_23 ih_23 =>
      intro v4 v5 μ H locs ls hP hS hl hv
      have hv : vX0_firstThrow_23B a1 a2 a3 Q (vX0_firstThrow_23 a1 a2 a3 Q n_23) v4 v5 μ := hv
      unfold vX0_firstThrow_23B at hv
      refine lv_iload hx hb dX0_firstThrow_23 (lv_at hl 5 rfl) (lv_aload_n hx hb dX0_firstThrow_25 rfl (lv_at hl 0 rfl) (gg_X0_15 C0 hK hP dX0_firstThrow_26 (lv_iload hx hb dX0_firstThrow_29 (lv_at hl 4 rfl) ?_)))
      have hi35 := hv.1
      have hv := hv.2
      refine g_iald hx hb hK hP (by decide) ga_27 hi35 dX0_firstThrow_31 ?_
      refine lv_icmp_ge (tgt := 96) hx hb dX0_firstThrow_32 (by decide) (fun c36 => ?_) (fun c36 => ?_)
      · have hv := hv.1 c36
        refine lv_aload_n hx hb dX0_firstThrow_96 rfl (lv_at hl 0 rfl) (gg_X0_15 C0 hK hP dX0_firstThrow_97 (lv_iload hx hb dX0_firstThrow_100 (lv_at hl 4 rfl) ?_))
        have hi37 := hv.1
        have hv := hv.2
        refine g_iald hx hb hK hP (by decide) ga_27 hi37 dX0_firstThrow_102 ?_
        exact g_retX hx hb hrt hlk hP hS rfl hv dX0_firstThrow_103
      · have hv := hv.2 c36
        refine lv_iconst (v := 1) hx hb dX0_firstThrow_35 (by decide) (lv_iload hx hb dX0_firstThrow_36 (lv_at hl 4 rfl) (lv_iload hx hb dX0_firstThrow_38 (lv_at hl 5 rfl) (lv_iadd hx hb dX0_firstThrow_40 (lv_iload_n hx hb dX0_firstThrow_41 rfl (lv_at hl 1 rfl) ?_))))
        have hd := hv.1
        have hv := hv.2
        refine lv_irem hx hb dX0_firstThrow_42 hd (lv_ishl hx hb dX0_firstThrow_43 (lv_istore (lv' := [(6, .int ((1 : Int32) <<< (((v4 + v5) - (v4 + v5) / a1 * a1) &&& 31))), (0, .ref (gL E 25)), (1, .int a1), (2, .int a2), (3, .int a3), (4, .int v4), (5, .int v5)]) hx hb dX0_firstThrow_44 hl (by decide) rfl (fun ls hl => (lv_iload_n hx hb dX0_firstThrow_46 rfl (lv_at hl 4 rfl) (lv_iload hx hb dX0_firstThrow_47 (lv_at hl 5 rfl) (lv_iload hx hb dX0_firstThrow_49 (lv_at hl 6 rfl) (lv_iadd hx hb dX0_firstThrow_51 (lv_iload_n hx hb dX0_firstThrow_52 rfl (lv_at hl 2 rfl) ?_))))))))
        have hd := hv.1
        have hv := hv.2
        refine lv_idiv hx hb dX0_firstThrow_53 hd (lv_isub hx hb dX0_firstThrow_54 (lv_istore (lv' := [(7, .int (a3 - ((v4 + v5) / a1))), (6, .int ((1 : Int32) <<< (((v4 + v5) - (v4 + v5) / a1 * a1) &&& 31))), (0, .ref (gL E 25)), (1, .int a1), (2, .int a2), (3, .int a3), (4, .int v4), (5, .int v5)]) hx hb dX0_firstThrow_55 hl (by decide) rfl (fun ls hl => (lv_iload_n hx hb dX0_firstThrow_57 rfl (lv_at hl 4 rfl) (lv_iload hx hb dX0_firstThrow_58 (lv_at hl 1 rfl) (lv_iand hx hb dX0_firstThrow_60 ?_))))))
        refine lv_if_ne (tgt := 90) hx hb dX0_firstThrow_61 (by decide) (fun c38 => ?_) (fun c38 => ?_)
        · have hv := hv.1 c38
          refine lv_iinc (v := (v5 + 1)) (lv' := [(5, .int (v5 + 1)), (7, .int (a3 - ((v4 + v5) / a1))), (6, .int ((1 : Int32) <<< (((v4 + v5) - (v4 + v5) / a1 * a1) &&& 31))), (0, .ref (gL E 25)), (1, .int a1), (2, .int a2), (3, .int a3), (4, .int v4)]) hx hb dX0_firstThrow_90 hl (k := 7) rfl rfl (by decide) rfl (fun ls hl => (lv_goto (tgt := 23) hx hb dX0_firstThrow_93 (by decide) ?_))
          exact ih_23 v4 (v5 + 1) μ H locs ls hP hS (lv_sub hl [3, 4, 5, 6, 7, 0] rfl) hv
        · have hv := hv.2 c38
          refine lv_iload hx hb dX0_firstThrow_64 (lv_at hl 0 rfl) ?_
          refine lv_if_lt (tgt := 90) hx hb dX0_firstThrow_66 (by decide) (fun c39 => ?_) (fun c39 => ?_)
          · have hv := hv.1 c39
            refine lv_iinc (v := (v5 + 1)) (lv' := [(5, .int (v5 + 1)), (7, .int (a3 - ((v4 + v5) / a1))), (6, .int ((1 : Int32) <<< (((v4 + v5) - (v4 + v5) / a1 * a1) &&& 31))), (0, .ref (gL E 25)), (1, .int a1), (2, .int a2), (3, .int a3), (4, .int v4)]) hx hb dX0_firstThrow_90 hl (k := 7) rfl rfl (by decide) rfl (fun ls hl => (lv_goto (tgt := 23) hx hb dX0_firstThrow_93 (by decide) ?_))
            exact ih_23 v4 (v5 + 1) μ H locs ls hP hS (lv_sub hl [3, 4, 5, 6, 7, 0] rfl) hv
          · have hv := hv.2 c39
            refine lv_aload_n hx hb dX0_firstThrow_69 rfl (lv_at hl 2 rfl) (gg_X0_18 C0 hK hP dX0_firstThrow_70 (lv_iload_n hx hb dX0_firstThrow_73 rfl (lv_at hl 4 rfl) (lv_iload hx hb dX0_firstThrow_74 (lv_at hl 1 rfl) (lv_ior hx hb dX0_firstThrow_76 (lv_bipush (v := 10) hx hb dX0_firstThrow_77 (by decide) (lv_imul hx hb dX0_firstThrow_79 (lv_iload hx hb dX0_firstThrow_80 (lv_at hl 0 rfl) (lv_iadd hx hb dX0_firstThrow_82 ?_))))))))
            have hi40 := hv.1
            have hv := hv.2
            refine g_iald hx hb hK hP (by decide) ga_28 hi40 dX0_firstThrow_83 ?_
            refine lv_if_le (tgt := 90) hx hb dX0_firstThrow_84 (by decide) (fun c41 => ?_) (fun c41 => ?_)
            · have hv := hv.1 c41
              refine lv_iinc (v := (v5 + 1)) (lv' := [(5, .int (v5 + 1)), (7, .int (a3 - ((v4 + v5) / a1))), (6, .int ((1 : Int32) <<< (((v4 + v5) - (v4 + v5) / a1 * a1) &&& 31))), (0, .ref (gL E 25)), (1, .int a1), (2, .int a2), (3, .int a3), (4, .int v4)]) hx hb dX0_firstThrow_90 hl (k := 7) rfl rfl (by decide) rfl (fun ls hl => (lv_goto (tgt := 23) hx hb dX0_firstThrow_93 (by decide) ?_))
              exact ih_23 v4 (v5 + 1) μ H locs ls hP hS (lv_sub hl [3, 4, 5, 6, 7, 0] rfl) hv
            · have hv := hv.2 c41
              refine lv_iload hx hb dX0_firstThrow_87 (lv_at hl 7 rfl) ?_
              exact g_retX hx hb hrt hlk hP hS rfl hv dX0_firstThrow_89
  unfold vX0_firstThrow at hv
  refine lv_iload_n hx hb dX0_firstThrow_0 rfl (lv_at hl 2 rfl) ?_
  refine g_iS (g_bS (As := [.int a2]) (rest := []) C0 hK hP kJ6_bitCount_0f7a4 ql_X0_31 (mJ6_bitCount_0f7a4 hE hv) rfl hl.1 rfl (Nat.le_of_ble_eq_true rfl) ⟨rfl, rfl, Nat.le_of_ble_eq_true rfl, Nat.le_of_ble_eq_true rfl⟩ dX0_firstThrow_1) hS (fun x32 H locs hv hP hS => ?_)
  refine lv_istore (lv' := [(4, .int x32), (0, .ref (gL E 25)), (1, .int a1), (2, .int a2), (3, .int a3)]) hx hb dX0_firstThrow_4 hl (by decide) rfl (fun ls hl => (lv_iload hx hb dX0_firstThrow_6 (lv_at hl 0 rfl) (lv_iload_n hx hb dX0_firstThrow_8 rfl (lv_at hl 2 rfl) ?_)))
  refine lv_icmp_lt (tgt := 14) hx hb dX0_firstThrow_9 (by decide) (fun c33 => ?_) (fun c33 => ?_)
  · have hv := hv.1 c33
    refine lv_aload_n hx hb dX0_firstThrow_14 rfl (lv_at hl 1 rfl) (gg_X0_9 C0 hK hP dX0_firstThrow_15 (lv_iload hx hb dX0_firstThrow_18 (lv_at hl 0 rfl) ?_))
    have hi34 := hv.1
    have hv := hv.2
    refine g_iald hx hb hK hP (by decide) ga_26 hi34 dX0_firstThrow_20 (lv_istore (lv' := [(5, .int (μ 26 x32.toNatClampNeg)), (4, .int x32), (0, .ref (gL E 25)), (1, .int a1), (2, .int a2), (3, .int a3)]) hx hb dX0_firstThrow_21 hl (by decide) rfl (fun ls hl => ?_))
    obtain ⟨nf, hv⟩ := hv
    exact h_23 nf x32 (μ 26 x32.toNatClampNeg) μ H locs ls hP hS (lv_sub hl [2, 3, 4, 5, 1, 0] rfl) hv
  · have hv := hv.2 c33
    refine lv_iconst (v := 0) hx hb dX0_firstThrow_12 (by decide) ?_
    exact g_retX hx hb hrt hlk hP hS rfl hv dX0_firstThrow_13
set_option maxHeartbeats 4000000 in
set_option maxRecDepth 100000 in
theorem mX0_throwOfFirst {l : Launch} {E : gE} {μ ν : gM} {τ : gJ} {Q : Int32 → gM → Prop} (hE : gLok E) {a1 : Int32} {a2 : Int32} {a3 : Int32}  (hv : vX0_throwOfFirst a1 a2 a3 μ Q) : Met l yX0_throwOfFirst (gws yX0_throwOfFirst cX0_throwOfFirst 8 (some .int)) (gRm 2 47) (gPc E [.ref (gL E 25), .int a1, .int a2, .int a3] μ ν τ) (gQiX E Q ν τ) 0 0 (gA E) := by
  refine g_entr (lv := [(0, .ref (gL E 25)), (1, .int a1), (2, .int a2), (3, .int a3)]) (by decide +kernel) (Nat.le_of_ble_eq_true rfl) rfl (fun p e s m args below meth c ls H locs hx hb hrt hlk C0 hK hP hS hl => ?_)
  have C0 : CallFix p m c cX0_throwOfFirst 8 s args gTB RX0 := C0
  have h_12 : ∀ (n_12 : Nat) (v4 : Int32) (v5 : Int32) (v6 : Int32) (v7 : Int32) (μ : gM) (H : Heap) (locs : List Loc) (ls : Array Slot), va_P (gD E) vwCl (wl E μ ν τ) H → va_S (gA E) s.heap H locs → lv_has ls 8 [(0, .ref (gL E 25)), (1, .int a1), (3, .int a3), (4, .int v4), (5, .int v5), (6, .int v6), (7, .int v7)] → vX0_throwOfFirst_12 a1 a2 a3 Q n_12 v4 v5 v6 v7 μ → W p l e (gRm 2 47) s m args below meth c H locs 0 0 (MQ below (gQiX E Q ν τ) args s 0 0 (gA E)) (F0 m 12 ls []) := by
    intro n_12
    induction n_12 with
    | zero =>
      intro v4 v5 v6 v7 μ H locs ls hP hS hl hv
      exact False.elim hv
    | succ n_12 ih_12 =>
      intro v4 v5 v6 v7 μ H locs ls hP hS hl hv
      have hv : vX0_throwOfFirst_12B a1 a2 a3 Q (vX0_throwOfFirst_12 a1 a2 a3 Q n_12) v4 v5 v6 v7 μ := hv
      unfold vX0_throwOfFirst_12B at hv
      refine lv_iload hx hb dX0_throwOfFirst_12 (lv_at hl 6 rfl) (lv_iload_n hx hb dX0_throwOfFirst_14 rfl (lv_at hl 2 rfl) ?_)
      refine lv_icmp_gt (tgt := 71) hx hb dX0_throwOfFirst_15 (by decide) (fun c29 => ?_) (fun c29 => ?_)
      · have hv := hv.1 c29
        refine lv_iload hx hb dX0_throwOfFirst_71 (lv_at hl 5 rfl) ?_
        exact g_retX hx hb hrt hlk hP hS rfl hv dX0_throwOfFirst_73
      · have hv := hv.2 c29
        refine lv_iload_n hx hb dX0_throwOfFirst_18 rfl (lv_at hl 1 rfl) (lv_iconst (v := 1) hx hb dX0_throwOfFirst_19 (by decide) (lv_bipush (v := 8) hx hb dX0_throwOfFirst_20 (by decide) ?_))
        refine g_iS (g_bSN (As := [.int a1, .int 1, .int 8]) (rest := []) C0 hK hP kX6_isWithin ql_X0_21 (mX6_isWithin hE hv) rfl hl.1 rfl (Nat.le_of_ble_eq_true rfl) ⟨rfl, rfl, Nat.le_of_ble_eq_true rfl, Nat.le_of_ble_eq_true rfl⟩ dX0_throwOfFirst_22) hS (fun x30 H locs hv hP hS => ?_)
        refine lv_if_eq (tgt := 71) hx hb dX0_throwOfFirst_25 (by decide) (fun c31 => ?_) (fun c31 => ?_)
        · have hv := hv.1 c31
          refine lv_iload hx hb dX0_throwOfFirst_71 (lv_at hl 5 rfl) ?_
          exact g_retX hx hb hrt hlk hP hS rfl hv dX0_throwOfFirst_73
        · have hv := hv.2 c31
          refine lv_aload_n hx hb dX0_throwOfFirst_28 rfl (lv_at hl 0 rfl) (lv_iload_n hx hb dX0_throwOfFirst_29 rfl (lv_at hl 1 rfl) (lv_iload hx hb dX0_throwOfFirst_30 (lv_at hl 3 rfl) (lv_iload hx hb dX0_throwOfFirst_32 (lv_at hl 4 rfl) ?_)))
          refine g_iX (g_bV (As := [.int a1, .int v4, .int v5]) (rest := []) C0 hK hP kX0_firstThrow ql_X0_41 (mX0_firstThrow hE hv) (by decide) ge_X0 rfl rfl hl.1 rfl (Nat.le_of_ble_eq_true rfl) ⟨rfl, rfl, Nat.le_of_ble_eq_true rfl, Nat.le_of_ble_eq_true rfl⟩ dX0_throwOfFirst_34) hS (fun x42 μ43 H locs hv hP hS => ?_)
          refine lv_istore (lv' := [(6, .int x42), (0, .ref (gL E 25)), (1, .int a1), (3, .int a3), (4, .int v4), (5, .int v5), (7, .int v7)]) hx hb dX0_throwOfFirst_37 hl (by decide) rfl (fun ls hl => (lv_iload hx hb dX0_throwOfFirst_39 (lv_at hl 4 rfl) (lv_iconst (v := 1) hx hb dX0_throwOfFirst_41 (by decide) (lv_iload hx hb dX0_throwOfFirst_42 (lv_at hl 6 rfl) (lv_iload hx hb dX0_throwOfFirst_44 (lv_at hl 0 rfl) (lv_iadd hx hb dX0_throwOfFirst_46 (lv_iload_n hx hb dX0_throwOfFirst_47 rfl (lv_at hl 2 rfl) ?_)))))))
          have hd := hv.1
          have hv := hv.2
          refine lv_irem hx hb dX0_throwOfFirst_48 hd (lv_ishl hx hb dX0_throwOfFirst_49 (lv_ior hx hb dX0_throwOfFirst_50 (lv_istore (lv' := [(4, .int (v4 ||| ((1 : Int32) <<< (((v7 + x42) - (v7 + x42) / a1 * a1) &&& 31)))), (6, .int x42), (0, .ref (gL E 25)), (1, .int a1), (3, .int a3), (5, .int v5), (7, .int v7)]) hx hb dX0_throwOfFirst_51 hl (by decide) rfl (fun ls hl => (lv_iload hx hb dX0_throwOfFirst_53 (lv_at hl 5 rfl) (lv_iload hx hb dX0_throwOfFirst_55 (lv_at hl 6 rfl) (lv_iload hx hb dX0_throwOfFirst_57 (lv_at hl 1 rfl) (lv_iadd hx hb dX0_throwOfFirst_59 (lv_iload_n hx hb dX0_throwOfFirst_60 rfl (lv_at hl 3 rfl) ?_)))))))))
          have hd := hv.1
          have hv := hv.2
          refine lv_idiv hx hb dX0_throwOfFirst_61 hd (lv_isub hx hb dX0_throwOfFirst_62 (lv_istore (lv' := [(5, .int (v5 - ((v7 + x42) / a1))), (4, .int (v4 ||| ((1 : Int32) <<< (((v7 + x42) - (v7 + x42) / a1 * a1) &&& 31)))), (6, .int x42), (0, .ref (gL E 25)), (1, .int a1), (3, .int a3), (7, .int v7)]) hx hb dX0_throwOfFirst_63 hl (by decide) rfl (fun ls hl => (lv_iinc (v := (v7 + 1)) (lv' := [(7, .int (v7 + 1)), (5, .int (v5 - ((v7 + x42) / a1))), (4, .int (v4 ||| ((1 : Int32) <<< (((v7 + x42) - (v7 + x42) / a1 * a1) &&& 31)))), (6, .int x42), (0, .ref (gL E 25)), (1, .int a1), (3, .int a3)]) hx hb dX0_throwOfFirst_65 hl (k := 6) rfl rfl (by decide) rfl (fun ls hl => (lv_goto (tgt := 12) hx hb dX0_throwOfFirst_68 (by decide) ?_))))))
          exact ih_12 (v4 ||| ((1 : Int32) <<< (((v7 + x42) - (v7 + x42) / a1 * a1) &&& 31))) (v5 - ((v7 + x42) / a1)) x42 (v7 + 1) μ43 H locs ls hP hS (lv_sub hl [4, 5, 6, 2, 1, 3, 0] rfl) hv
  unfold vX0_throwOfFirst at hv
  refine lv_iconst (v := 0) hx hb dX0_throwOfFirst_0 (by decide) (lv_istore (lv' := [(4, .int 0), (0, .ref (gL E 25)), (1, .int a1), (2, .int a2), (3, .int a3)]) hx hb dX0_throwOfFirst_1 hl (by decide) rfl (fun ls hl => (lv_iload_n hx hb dX0_throwOfFirst_3 rfl (lv_at hl 3 rfl) (lv_istore (lv' := [(5, .int a2), (4, .int 0), (0, .ref (gL E 25)), (1, .int a1), (2, .int a2), (3, .int a3)]) hx hb dX0_throwOfFirst_4 hl (by decide) rfl (fun ls hl => (lv_iconst (v := 0) hx hb dX0_throwOfFirst_6 (by decide) (lv_istore (lv' := [(6, .int 0), (5, .int a2), (4, .int 0), (0, .ref (gL E 25)), (1, .int a1), (2, .int a2), (3, .int a3)]) hx hb dX0_throwOfFirst_7 hl (by decide) rfl (fun ls hl => (lv_iconst (v := 0) hx hb dX0_throwOfFirst_9 (by decide) (lv_istore (lv' := [(7, .int 0), (6, .int 0), (5, .int a2), (4, .int 0), (0, .ref (gL E 25)), (1, .int a1), (2, .int a2), (3, .int a3)]) hx hb dX0_throwOfFirst_10 hl (by decide) rfl (fun ls hl => ?_)))))))))))
  obtain ⟨nf, hv⟩ := hv
  exact h_12 nf 0 a2 0 0 μ H locs ls hP hS (lv_sub hl [4, 5, 7, 3, 2, 1, 0] rfl) hv
set_option maxHeartbeats 4000000 in
set_option maxRecDepth 100000 in
theorem mX1_begin {l : Launch} {E : gE} {μ ν : gM} {τ : gJ} {Q : gM → Prop} (hE : gLok E)   (hv : vX1_begin μ Q) : Met l yX1_begin (gws yX1_begin cX1_begin 1 none) (gRm 1 23) (gPc E [.ref (gL E 18)] μ ν τ) (gQvX E Q ν τ) 0 0 (gA E) := by
  refine g_entr (lv := [(0, .ref (gL E 18))]) (by decide +kernel) (Nat.le_of_ble_eq_true rfl) rfl (fun p e s m args below meth c ls H locs hx hb hrt hlk C0 hK hP hS hl => ?_)
  have C0 : CallFix p m c cX1_begin 1 s args gTB RX1 := C0
  unfold vX1_begin at hv
  refine lv_aload_n hx hb dX1_begin_0 rfl (lv_at hl 0 rfl) (gg_X1_9 C0 hK hP dX1_begin_1 (lv_bipush (v := (-9)) hx hb dX1_begin_4 (by decide) ?_))
  refine g_vX (g_bS (As := [.ref (gL E 19), .int (-9)]) (rest := []) C0 hK hP kJ7_fill_53178 ql_X1_15 (mJ7_fill_53178 hE (by decide) (fun _ => ga_19) hv) rfl hl.1 rfl (Nat.le_of_ble_eq_true rfl) ⟨rfl, rfl, Nat.le_of_ble_eq_true rfl, Nat.le_of_ble_eq_true rfl⟩ dX1_begin_6) hS (fun μ45 H locs hv hP hS => ?_)
  refine lv_aload_n hx hb dX1_begin_9 rfl (lv_at hl 0 rfl) (lv_iconst (v := 0) hx hb dX1_begin_10 (by decide) (gp_X1_21 hE C0 hK hP hS dX1_begin_11 (fun H locs hP hS => ?_)))
  exact g_vretX hx hb hrt hlk hP hS hv dX1_begin_14
set_option maxHeartbeats 4000000 in
set_option maxRecDepth 100000 in
theorem mX1_pass {l : Launch} {E : gE} {μ ν : gM} {τ : gJ} {Q : Int32 → gM → Prop} (hE : gLok E) {a1 : Int32} {a2 : Int32}  (hv : vX1_pass a1 a2 μ Q) : Met l yX1_pass (gws yX1_pass cX1_pass 5 (some .int)) (gRm 0 0) (gPc E [.ref (gL E 18), .int a1, .int a2] μ ν τ) (gQiX E Q ν τ) 0 0 (gA E) := by
  refine g_entr (lv := [(0, .ref (gL E 18)), (1, .int a1), (2, .int a2)]) (by decide +kernel) (Nat.le_of_ble_eq_true rfl) rfl (fun p e s m args below meth c ls H locs hx hb hrt hlk C0 hK hP hS hl => ?_)
  have C0 : CallFix p m c cX1_pass 5 s args gTB RX1 := C0
  have h_51 : ∀ (v3 : Int32) (v4 : Int32) (μ : gM) (H : Heap) (locs : List Loc) (ls : Array Slot), va_P (gD E) vwCl (wl E μ ν τ) H → va_S (gA E) s.heap H locs → lv_has ls 5 [(0, .ref (gL E 18)), (1, .int a1), (2, .int a2), (3, .int v3), (4, .int v4)] → vX1_pass_51 a1 a2 Q v3 v4 μ → W p l e (gRm 0 0) s m args below meth c H locs 0 0 (MQ below (gQiX E Q ν τ) args s 0 0 (gA E)) (F0 m 51 ls []) := by
    intro v3 v4 μ H locs ls hP hS hl hv
    unfold vX1_pass_51 at hv
    refine lv_aload_n hx hb dX1_pass_51 rfl (lv_at hl 0 rfl) (gg_X1_9 C0 hK hP dX1_pass_52 (lv_iload_n hx hb dX1_pass_55 rfl (lv_at hl 3 rfl) (lv_bipush (v := (-9)) hx hb dX1_pass_56 (by decide) ?_)))
    have hi50 := hv.1
    have hv := hv.2
    refine g_iastX hE hx hb hK hP hS (by decide) (fun _ => ga_19) hi50 dX1_pass_58 (fun H locs hP hS => (lv_aload_n hx hb dX1_pass_59 rfl (lv_at hl 0 rfl) (gg_X1_9 C0 hK hP dX1_pass_60 (lv_iload_n hx hb dX1_pass_63 rfl (lv_at hl 1 rfl) (lv_iload_n hx hb dX1_pass_64 rfl (lv_at hl 2 rfl) (lv_iadd hx hb dX1_pass_65 (lv_aload_n hx hb dX1_pass_66 rfl (lv_at hl 0 rfl) (gg_X1_9 C0 hK hP dX1_pass_67 (g_alen (v := 10) hx hb hK hP (by decide) ga_19 (by decide) dX1_pass_70 (lv_irem hx hb dX1_pass_71 (by decide) ?_))))))))))
    refine lv_iload hx hb dX1_pass_72 (lv_at hl 4 rfl) ?_
    have hi51 := hv.1
    have hv := hv.2
    refine g_iastX hE hx hb hK hP hS (by decide) (fun _ => ga_19) hi51 dX1_pass_74 (fun H locs hP hS => (lv_iload hx hb dX1_pass_75 (lv_at hl 4 rfl) ?_))
    exact g_retX hx hb hrt hlk hP hS rfl hv dX1_pass_77
  unfold vX1_pass at hv
  refine lv_iload_n hx hb dX1_pass_0 rfl (lv_at hl 1 rfl) ?_
  refine lv_if_lt (tgt := 9) hx hb dX1_pass_1 (by decide) (fun c46 => ?_) (fun c46 => ?_)
  · have hv := hv.1 c46
    refine lv_bipush (v := (-9)) hx hb dX1_pass_9 (by decide) ?_
    exact g_retX hx hb hrt hlk hP hS rfl hv dX1_pass_11
  · have hv := hv.2 c46
    refine lv_iload_n hx hb dX1_pass_4 rfl (lv_at hl 2 rfl) (lv_iconst (v := 1) hx hb dX1_pass_5 (by decide) ?_)
    refine lv_icmp_ge (tgt := 12) hx hb dX1_pass_6 (by decide) (fun c47 => ?_) (fun c47 => ?_)
    · have hv := hv.1 c47
      refine lv_iload_n hx hb dX1_pass_12 rfl (lv_at hl 1 rfl) (lv_aload_n hx hb dX1_pass_13 rfl (lv_at hl 0 rfl) (gg_X1_9 C0 hK hP dX1_pass_14 (g_alen (v := 10) hx hb hK hP (by decide) ga_19 (by decide) dX1_pass_17 (lv_irem hx hb dX1_pass_18 (by decide) (lv_istore_n (lv' := [(3, .int (a1 - a1 / 10 * 10)), (0, .ref (gL E 18)), (1, .int a1), (2, .int a2)]) hx hb dX1_pass_19 rfl hl (by decide) rfl (fun ls hl => (lv_aload_n hx hb dX1_pass_20 rfl (lv_at hl 1 rfl) (gg_X1_9 C0 hK hP dX1_pass_21 (lv_iload_n hx hb dX1_pass_24 rfl (lv_at hl 0 rfl) ?_)))))))))
      have hi48 := hv.1
      have hv := hv.2
      refine g_iald hx hb hK hP (by decide) ga_19 hi48 dX1_pass_25 (lv_istore (lv' := [(4, .int (μ 19 (a1 - a1 / 10 * 10).toNatClampNeg)), (3, .int (a1 - a1 / 10 * 10)), (0, .ref (gL E 18)), (1, .int a1), (2, .int a2)]) hx hb dX1_pass_26 hl (by decide) rfl (fun ls hl => (lv_iload hx hb dX1_pass_28 (lv_at hl 0 rfl) (lv_bipush (v := (-9)) hx hb dX1_pass_30 (by decide) ?_))))
      refine lv_icmp_ne (tgt := 51) hx hb dX1_pass_32 (by decide) (fun c49 => ?_) (fun c49 => ?_)
      · have hv := hv.1 c49
        exact h_51 (a1 - a1 / 10 * 10) (μ 19 (a1 - a1 / 10 * 10).toNatClampNeg) μ H locs ls hP hS (lv_sub hl [2, 3, 4, 1, 0] rfl) hv
      · have hv := hv.2 c49
        refine lv_aload_n hx hb dX1_pass_35 rfl (lv_at hl 2 rfl) (gg_X1_21 C0 hK hP dX1_pass_36 (lv_istore (lv' := [(4, .int (μ 18 1)), (3, .int (a1 - a1 / 10 * 10)), (0, .ref (gL E 18)), (1, .int a1), (2, .int a2)]) hx hb dX1_pass_39 hl (by decide) rfl (fun ls hl => (lv_aload_n hx hb dX1_pass_41 rfl (lv_at hl 2 rfl) (lv_dup hx hb dX1_pass_42 rfl (gg_X1_21 C0 hK hP dX1_pass_43 (lv_iconst (v := 1) hx hb dX1_pass_46 (by decide) (lv_iadd hx hb dX1_pass_47 (gp_X1_21 hE C0 hK hP hS dX1_pass_48 (fun H locs hP hS => ?_))))))))))
        exact h_51 (a1 - a1 / 10 * 10) (μ 18 1) (up2 μ 18 1 ((μ 18 1) + 1)) H locs ls hP hS (lv_sub hl [2, 3, 4, 1, 0] rfl) hv
    · have hv := hv.2 c47
      refine lv_bipush (v := (-9)) hx hb dX1_pass_9 (by decide) ?_
      exact g_retX hx hb hrt hlk hP hS rfl hv dX1_pass_11
set_option maxHeartbeats 4000000 in
set_option maxRecDepth 100000 in
theorem mX2_reset {l : Launch} {E : gE} {μ ν : gM} {τ : gJ} {Q : gM → Prop} (hE : gLok E)   (hv : vX2_reset μ Q) : Met l yX2_reset (gws yX2_reset cX2_reset 1 none) (gRm 1 23) (gPc E [.ref (gL E 20)] μ ν τ) (gQvX E Q ν τ) 0 0 (gA E) := by
  refine g_entr (lv := [(0, .ref (gL E 20))]) (by decide +kernel) (Nat.le_of_ble_eq_true rfl) rfl (fun p e s m args below meth c ls H locs hx hb hrt hlk C0 hK hP hS hl => ?_)
  have C0 : CallFix p m c cX2_reset 1 s args gTB RX2 := C0
  unfold vX2_reset at hv
  refine lv_aload_n hx hb dX2_reset_0 rfl (lv_at hl 0 rfl) (gg_X2_9 C0 hK hP dX2_reset_1 (lv_iconst (v := 0) hx hb dX2_reset_4 (by decide) ?_))
  refine g_vX (g_bS (As := [.ref (gL E 21), .int 0]) (rest := []) C0 hK hP kJ7_fill_53178 ql_X2_15 (mJ7_fill_53178 hE (by decide) (fun _ => ga_21) hv) rfl hl.1 rfl (Nat.le_of_ble_eq_true rfl) ⟨rfl, rfl, Nat.le_of_ble_eq_true rfl, Nat.le_of_ble_eq_true rfl⟩ dX2_reset_5) hS (fun μ53 H locs hv hP hS => ?_)
  exact g_vretX hx hb hrt hlk hP hS hv dX2_reset_8
set_option maxHeartbeats 4000000 in
set_option maxRecDepth 100000 in
theorem mX6_isBall {l : Launch} {E : gE} {μ ν : gM} {τ : gJ} {Q : Int32 → Prop} (hE : gLok E) {a0 : Int32}  (hv : vX6_isBall a0 Q) : Met l yX6_isBall (gws yX6_isBall cX6_isBall 1 (some .boolean)) (gRm 1 22) (gPc E [.int a0] μ ν τ) (gQiS E Q μ ν τ) 0 0 (gA E) := by
  refine g_entr (lv := [(0, .int a0)]) (by decide +kernel) (Nat.le_of_ble_eq_true rfl) rfl (fun p e s m args below meth c ls H locs hx hb hrt hlk C0 hK hP hS hl => ?_)
  have C0 : CallFix p m c cX6_isBall 1 s args gTB RX6 := C0
  unfold vX6_isBall at hv
  refine lv_iload_n hx hb dX6_isBall_0 rfl (lv_at hl 0 rfl) (lv_iconst (v := 0) hx hb dX6_isBall_1 (by decide) (lv_bipush (v := 9) hx hb dX6_isBall_2 (by decide) ?_))
  refine g_iS (g_bS (As := [.int a0, .int 0, .int 9]) (rest := []) C0 hK hP kX6_isWithin ql_X6_104 (mX6_isWithin hE hv) rfl hl.1 rfl (Nat.le_of_ble_eq_true rfl) ⟨rfl, rfl, Nat.le_of_ble_eq_true rfl, Nat.le_of_ble_eq_true rfl⟩ dX6_isBall_4) hS (fun x54 H locs hv hP hS => ?_)
  exact g_retS hx hb hrt hlk hP hS hv.1 hv.2 dX6_isBall_7
set_option maxHeartbeats 4000000 in
set_option maxRecDepth 100000 in
theorem mX2_kindOf {l : Launch} {E : gE} {μ ν : gM} {τ : gJ} {Q : Int32 → gM → Prop} (hE : gLok E) {a1 : Int32}  (hv : vX2_kindOf a1 μ Q) : Met l yX2_kindOf (gws yX2_kindOf cX2_kindOf 2 (some .int)) (gRm 2 42) (gPc E [.ref (gL E 20), .int a1] μ ν τ) (gQiX E Q ν τ) 0 0 (gA E) := by
  refine g_entr (lv := [(0, .ref (gL E 20)), (1, .int a1)]) (by decide +kernel) (Nat.le_of_ble_eq_true rfl) rfl (fun p e s m args below meth c ls H locs hx hb hrt hlk C0 hK hP hS hl => ?_)
  have C0 : CallFix p m c cX2_kindOf 2 s args gTB RX2 := C0
  unfold vX2_kindOf at hv
  refine lv_iload_n hx hb dX2_kindOf_0 rfl (lv_at hl 1 rfl) ?_
  refine g_iS (g_bSN (As := [.int a1]) (rest := []) C0 hK hP kX6_isBall ql_X2_21 (mX6_isBall hE hv) rfl hl.1 rfl (Nat.le_of_ble_eq_true rfl) ⟨rfl, rfl, Nat.le_of_ble_eq_true rfl, Nat.le_of_ble_eq_true rfl⟩ dX2_kindOf_1) hS (fun x55 H locs hv hP hS => ?_)
  refine lv_if_eq (tgt := 16) hx hb dX2_kindOf_4 (by decide) (fun c56 => ?_) (fun c56 => ?_)
  · have hv := hv.1 c56
    refine lv_iconst (v := 0) hx hb dX2_kindOf_16 (by decide) ?_
    exact g_retX hx hb hrt hlk hP hS rfl hv dX2_kindOf_17
  · have hv := hv.2 c56
    refine lv_aload_n hx hb dX2_kindOf_7 rfl (lv_at hl 0 rfl) (gg_X2_9 C0 hK hP dX2_kindOf_8 (lv_iload_n hx hb dX2_kindOf_11 rfl (lv_at hl 1 rfl) ?_))
    have hi57 := hv.1
    have hv := hv.2
    refine g_iald hx hb hK hP (by decide) ga_21 hi57 dX2_kindOf_12 (lv_goto (tgt := 17) hx hb dX2_kindOf_13 (by decide) ?_)
    exact g_retX hx hb hrt hlk hP hS rfl hv dX2_kindOf_17
set_option maxHeartbeats 4000000 in
set_option maxRecDepth 100000 in
theorem mX2_setKind {l : Launch} {E : gE} {μ ν : gM} {τ : gJ} {Q : gM → Prop} (hE : gLok E) {a1 : Int32} {a2 : Int32}  (hv : vX2_setKind a1 a2 μ Q) : Met l yX2_setKind (gws yX2_setKind cX2_setKind 3 none) (gRm 2 42) (gPc E [.ref (gL E 20), .int a1, .int a2] μ ν τ) (gQvX E Q ν τ) 0 0 (gA E) := by
  refine g_entr (lv := [(0, .ref (gL E 20)), (1, .int a1), (2, .int a2)]) (by decide +kernel) (Nat.le_of_ble_eq_true rfl) rfl (fun p e s m args below meth c ls H locs hx hb hrt hlk C0 hK hP hS hl => ?_)
  have C0 : CallFix p m c cX2_setKind 3 s args gTB RX2 := C0
  unfold vX2_setKind at hv
  refine lv_iload_n hx hb dX2_setKind_0 rfl (lv_at hl 1 rfl) ?_
  refine g_iS (g_bSN (As := [.int a1]) (rest := []) C0 hK hP kX6_isBall ql_X2_21 (mX6_isBall hE hv) rfl hl.1 rfl (Nat.le_of_ble_eq_true rfl) ⟨rfl, rfl, Nat.le_of_ble_eq_true rfl, Nat.le_of_ble_eq_true rfl⟩ dX2_setKind_1) hS (fun x58 H locs hv hP hS => ?_)
  refine lv_if_eq (tgt := 14) hx hb dX2_setKind_4 (by decide) (fun c59 => ?_) (fun c59 => ?_)
  · have hv := hv.1 c59
    exact g_vretX hx hb hrt hlk hP hS hv dX2_setKind_14
  · have hv := hv.2 c59
    refine lv_aload_n hx hb dX2_setKind_7 rfl (lv_at hl 0 rfl) (gg_X2_9 C0 hK hP dX2_setKind_8 (lv_iload_n hx hb dX2_setKind_11 rfl (lv_at hl 1 rfl) (lv_iload_n hx hb dX2_setKind_12 rfl (lv_at hl 2 rfl) ?_)))
    have hi60 := hv.1
    have hv := hv.2
    refine g_iastX hE hx hb hK hP hS (by decide) (fun _ => ga_21) hi60 dX2_setKind_13 (fun H locs hP hS => ?_)
    exact g_vretX hx hb hrt hlk hP hS hv dX2_setKind_14
set_option maxHeartbeats 4000000 in
set_option maxRecDepth 100000 in
theorem mX2_mayGo {l : Launch} {E : gE} {μ ν : gM} {τ : gJ} {Q : Int32 → gM → Prop} (hE : gLok E) {a1 : Int32}  (hv : vX2_mayGo a1 μ Q) : Met l yX2_mayGo (gws yX2_mayGo cX2_mayGo 2 (some .int)) (gRm 3 63) (gPc E [.ref (gL E 20), .int a1] μ ν τ) (gQiX E Q ν τ) 0 0 (gA E) := by
  refine g_entr (lv := [(0, .ref (gL E 20)), (1, .int a1)]) (by decide +kernel) (Nat.le_of_ble_eq_true rfl) rfl (fun p e s m args below meth c ls H locs hx hb hrt hlk C0 hK hP hS hl => ?_)
  have C0 : CallFix p m c cX2_mayGo 2 s args gTB RX2 := C0
  unfold vX2_mayGo at hv
  refine lv_aload_n hx hb dX2_mayGo_0 rfl (lv_at hl 0 rfl) (lv_iload_n hx hb dX2_mayGo_1 rfl (lv_at hl 1 rfl) ?_)
  refine g_iX (g_bV (As := [.int a1]) (rest := []) C0 hK hP kX2_kindOf ql_X2_25 (mX2_kindOf hE hv) (by decide) ge_X2 rfl rfl hl.1 rfl (Nat.le_of_ble_eq_true rfl) ⟨rfl, rfl, Nat.le_of_ble_eq_true rfl, Nat.le_of_ble_eq_true rfl⟩ dX2_mayGo_2) hS (fun x61 μ62 H locs hv hP hS => ?_)
  by_cases c63 : x61 = 1
  · refine lv_lookup (tgt := 34) (off := 29) hx hb dX2_mayGo_5 (by decide) (by rw [c63]; decide) (by decide) ?_
    have hv := hv.1 c63
    refine lv_bipush (v := 6) hx hb dX2_mayGo_34 (by decide) ?_
    exact g_retX hx hb hrt hlk hP hS rfl hv dX2_mayGo_36
  · have hv := hv.2 c63
    by_cases c64 : x61 = 2
    · refine lv_lookup (tgt := 32) (off := 27) hx hb dX2_mayGo_5 (by decide) (by rw [c64]; decide) (by decide) ?_
      have hv := hv.1 c64
      refine lv_iconst (v := 4) hx hb dX2_mayGo_32 (by decide) ?_
      exact g_retX hx hb hrt hlk hP hS rfl hv dX2_mayGo_33
    · have hv := hv.2 c64
      refine lv_lookup (tgt := 37) (off := 32) hx hb dX2_mayGo_5 (by decide) (by have := ne_toInt (x := x61) (k := 1) (z := 1) (by decide) c63; have := ne_toInt (x := x61) (k := 2) (z := 2) (by decide) c64; simp [Op.lookupswitch.offset]; omega) (by decide) ?_
      refine lv_bipush (v := 9) hx hb dX2_mayGo_37 (by decide) ?_
      exact g_retX hx hb hrt hlk hP hS rfl hv dX2_mayGo_39
set_option maxHeartbeats 4000000 in
set_option maxRecDepth 100000 in
theorem mX2_leave {l : Launch} {E : gE} {μ ν : gM} {τ : gJ} {Q : gM → Prop} (hE : gLok E) {a1 : Int32}  (hv : vX2_leave a1 μ Q) : Met l yX2_leave (gws yX2_leave cX2_leave 2 none) (gRm 0 0) (gPc E [.ref (gL E 20), .int a1] μ ν τ) (gQvX E Q ν τ) 0 0 (gA E) := by
  refine g_entr (lv := [(0, .ref (gL E 20)), (1, .int a1)]) (by decide +kernel) (Nat.le_of_ble_eq_true rfl) rfl (fun p e s m args below meth c ls H locs hx hb hrt hlk C0 hK hP hS hl => ?_)
  have C0 : CallFix p m c cX2_leave 2 s args gTB RX2 := C0
  unfold vX2_leave at hv
  refine lv_aload_n hx hb dX2_leave_0 rfl (lv_at hl 0 rfl) (lv_bipush (v := 31) hx hb dX2_leave_1 (by decide) (lv_aload_n hx hb dX2_leave_3 rfl (lv_at hl 0 rfl) (gg_X2_45 C0 hK hP dX2_leave_4 (lv_imul hx hb dX2_leave_7 (lv_iload_n hx hb dX2_leave_8 rfl (lv_at hl 1 rfl) (lv_iadd hx hb dX2_leave_9 (gp_X2_45 hE C0 hK hP hS dX2_leave_10 (fun H locs hP hS => ?_))))))))
  exact g_vretX hx hb hrt hlk hP hS hv dX2_leave_13
set_option maxHeartbeats 4000000 in
set_option maxRecDepth 100000 in
theorem mX2_tellingOfBall {l : Launch} {E : gE} {μ ν : gM} {τ : gJ} {Q : Int32 → gM → Prop} (hE : gLok E) {a1 : Int32}  (hv : vX2_tellingOfBall a1 μ Q) : Met l yX2_tellingOfBall (gws yX2_tellingOfBall cX2_tellingOfBall 2 (some .int)) (gRm 1 21) (gPc E [.ref (gL E 20), .int a1] μ ν τ) (gQiX E Q ν τ) 0 0 (gA E) := by
  refine g_entr (lv := [(0, .ref (gL E 20)), (1, .int a1)]) (by decide +kernel) (Nat.le_of_ble_eq_true rfl) rfl (fun p e s m args below meth c ls H locs hx hb hrt hlk C0 hK hP hS hl => ?_)
  have C0 : CallFix p m c cX2_tellingOfBall 2 s args gTB RX2 := C0
  unfold vX2_tellingOfBall at hv
  refine lv_aload_n hx hb dX2_tellingOfBall_0 rfl (lv_at hl 0 rfl) (lv_iconst (v := 1) hx hb dX2_tellingOfBall_1 (by decide) ?_)
  refine g_vX (g_bV (As := [.int 1]) (rest := []) C0 hK hP kX2_leave ql_X2_38 (mX2_leave hE hv) (by decide) ge_X2 rfl rfl hl.1 rfl (Nat.le_of_ble_eq_true rfl) ⟨rfl, rfl, Nat.le_of_ble_eq_true rfl, Nat.le_of_ble_eq_true rfl⟩ dX2_tellingOfBall_2) hS (fun μ71 H locs hv hP hS => ?_)
  refine lv_iload_n hx hb dX2_tellingOfBall_5 rfl (lv_at hl 1 rfl) ?_
  exact g_retX hx hb hrt hlk hP hS rfl hv dX2_tellingOfBall_6
set_option maxHeartbeats 4000000 in
set_option maxRecDepth 100000 in
theorem mX2_tellingOfHeavy {l : Launch} {E : gE} {μ ν : gM} {τ : gJ} {Q : Int32 → gM → Prop} (hE : gLok E) {a1 : Int32}  (hv : vX2_tellingOfHeavy a1 μ Q) : Met l yX2_tellingOfHeavy (gws yX2_tellingOfHeavy cX2_tellingOfHeavy 2 (some .int)) (gRm 2 42) (gPc E [.ref (gL E 20), .int a1] μ ν τ) (gQiX E Q ν τ) 0 0 (gA E) := by
  refine g_entr (lv := [(0, .ref (gL E 20)), (1, .int a1)]) (by decide +kernel) (Nat.le_of_ble_eq_true rfl) rfl (fun p e s m args below meth c ls H locs hx hb hrt hlk C0 hK hP hS hl => ?_)
  have C0 : CallFix p m c cX2_tellingOfHeavy 2 s args gTB RX2 := C0
  unfold vX2_tellingOfHeavy at hv
  refine lv_aload_n hx hb dX2_tellingOfHeavy_0 rfl (lv_at hl 0 rfl) (lv_iconst (v := 2) hx hb dX2_tellingOfHeavy_1 (by decide) ?_)
  refine g_vX (g_bV (As := [.int 2]) (rest := []) C0 hK hP kX2_leave ql_X2_38 (mX2_leave hE hv) (by decide) ge_X2 rfl rfl hl.1 rfl (Nat.le_of_ble_eq_true rfl) ⟨rfl, rfl, Nat.le_of_ble_eq_true rfl, Nat.le_of_ble_eq_true rfl⟩ dX2_tellingOfHeavy_2) hS (fun μ69 H locs hv hP hS => ?_)
  refine lv_aload_n hx hb dX2_tellingOfHeavy_5 rfl (lv_at hl 0 rfl) (lv_iload_n hx hb dX2_tellingOfHeavy_6 rfl (lv_at hl 1 rfl) ?_)
  refine g_iX (g_bV (As := [.int a1]) (rest := []) C0 hK hP kX2_tellingOfBall ql_X2_35 (mX2_tellingOfBall hE hv) (by decide) ge_X2 rfl rfl hl.1 rfl (Nat.le_of_ble_eq_true rfl) ⟨rfl, rfl, Nat.le_of_ble_eq_true rfl, Nat.le_of_ble_eq_true rfl⟩ dX2_tellingOfHeavy_7) hS (fun x72 μ73 H locs hv hP hS => ?_)
  refine lv_bipush (v := 100) hx hb dX2_tellingOfHeavy_10 (by decide) (lv_iadd hx hb dX2_tellingOfHeavy_12 ?_)
  exact g_retX hx hb hrt hlk hP hS rfl hv dX2_tellingOfHeavy_13
set_option maxHeartbeats 4000000 in
set_option maxRecDepth 100000 in
theorem mX2_tellingOfEgg {l : Launch} {E : gE} {μ ν : gM} {τ : gJ} {Q : Int32 → gM → Prop} (hE : gLok E) {a1 : Int32}  (hv : vX2_tellingOfEgg a1 μ Q) : Met l yX2_tellingOfEgg (gws yX2_tellingOfEgg cX2_tellingOfEgg 2 (some .int)) (gRm 3 63) (gPc E [.ref (gL E 20), .int a1] μ ν τ) (gQiX E Q ν τ) 0 0 (gA E) := by
  refine g_entr (lv := [(0, .ref (gL E 20)), (1, .int a1)]) (by decide +kernel) (Nat.le_of_ble_eq_true rfl) rfl (fun p e s m args below meth c ls H locs hx hb hrt hlk C0 hK hP hS hl => ?_)
  have C0 : CallFix p m c cX2_tellingOfEgg 2 s args gTB RX2 := C0
  unfold vX2_tellingOfEgg at hv
  refine lv_aload_n hx hb dX2_tellingOfEgg_0 rfl (lv_at hl 0 rfl) (lv_iconst (v := 3) hx hb dX2_tellingOfEgg_1 (by decide) ?_)
  refine g_vX (g_bV (As := [.int 3]) (rest := []) C0 hK hP kX2_leave ql_X2_38 (mX2_leave hE hv) (by decide) ge_X2 rfl rfl hl.1 rfl (Nat.le_of_ble_eq_true rfl) ⟨rfl, rfl, Nat.le_of_ble_eq_true rfl, Nat.le_of_ble_eq_true rfl⟩ dX2_tellingOfEgg_2) hS (fun μ78 H locs hv hP hS => ?_)
  refine lv_aload_n hx hb dX2_tellingOfEgg_5 rfl (lv_at hl 0 rfl) (lv_iload_n hx hb dX2_tellingOfEgg_6 rfl (lv_at hl 1 rfl) ?_)
  refine g_iX (g_bV (As := [.int a1]) (rest := []) C0 hK hP kX2_tellingOfHeavy ql_X2_32 (mX2_tellingOfHeavy hE hv) (by decide) ge_X2 rfl rfl hl.1 rfl (Nat.le_of_ble_eq_true rfl) ⟨rfl, rfl, Nat.le_of_ble_eq_true rfl, Nat.le_of_ble_eq_true rfl⟩ dX2_tellingOfEgg_7) hS (fun x79 μ80 H locs hv hP hS => ?_)
  refine lv_aload_n hx hb dX2_tellingOfEgg_10 rfl (lv_at hl 0 rfl) (lv_iload_n hx hb dX2_tellingOfEgg_11 rfl (lv_at hl 1 rfl) ?_)
  refine g_iX (g_bV (As := [.int a1]) (rest := [.int x79]) C0 hK hP kX2_tellingOfBall ql_X2_35 (mX2_tellingOfBall hE hv) (by decide) ge_X2 rfl rfl hl.1 rfl (Nat.le_of_ble_eq_true rfl) ⟨rfl, rfl, Nat.le_of_ble_eq_true rfl, Nat.le_of_ble_eq_true rfl⟩ dX2_tellingOfEgg_12) hS (fun x81 μ82 H locs hv hP hS => ?_)
  refine lv_iadd hx hb dX2_tellingOfEgg_15 ?_
  exact g_retX hx hb hrt hlk hP hS rfl hv dX2_tellingOfEgg_16
set_option maxHeartbeats 4000000 in
set_option maxRecDepth 100000 in
theorem mX2_telling {l : Launch} {E : gE} {μ ν : gM} {τ : gJ} {Q : Int32 → gM → Prop} (hE : gLok E) {a1 : Int32}  (hv : vX2_telling a1 μ Q) : Met l yX2_telling (gws yX2_telling cX2_telling 2 (some .int)) (gRm 4 84) (gPc E [.ref (gL E 20), .int a1] μ ν τ) (gQiX E Q ν τ) 0 0 (gA E) := by
  refine g_entr (lv := [(0, .ref (gL E 20)), (1, .int a1)]) (by decide +kernel) (Nat.le_of_ble_eq_true rfl) rfl (fun p e s m args below meth c ls H locs hx hb hrt hlk C0 hK hP hS hl => ?_)
  have C0 : CallFix p m c cX2_telling 2 s args gTB RX2 := C0
  unfold vX2_telling at hv
  refine lv_aload_n hx hb dX2_telling_0 rfl (lv_at hl 0 rfl) (lv_iload_n hx hb dX2_telling_1 rfl (lv_at hl 1 rfl) ?_)
  refine g_iX (g_bV (As := [.int a1]) (rest := []) C0 hK hP kX2_kindOf ql_X2_25 (mX2_kindOf hE hv) (by decide) ge_X2 rfl rfl hl.1 rfl (Nat.le_of_ble_eq_true rfl) ⟨rfl, rfl, Nat.le_of_ble_eq_true rfl, Nat.le_of_ble_eq_true rfl⟩ dX2_telling_2) hS (fun x65 μ66 H locs hv hP hS => ?_)
  by_cases c67 : x65 = 1
  · refine lv_lookup (tgt := 38) (off := 33) hx hb dX2_telling_5 (by decide) (by rw [c67]; decide) (by decide) ?_
    have hv := hv.1 c67
    refine lv_aload_n hx hb dX2_telling_38 rfl (lv_at hl 0 rfl) (lv_iload_n hx hb dX2_telling_39 rfl (lv_at hl 1 rfl) ?_)
    refine g_iX (g_bV (As := [.int a1]) (rest := []) C0 hK hP kX2_tellingOfHeavy ql_X2_32 (mX2_tellingOfHeavy hE hv) (by decide) ge_X2 rfl rfl hl.1 rfl (Nat.le_of_ble_eq_true rfl) ⟨rfl, rfl, Nat.le_of_ble_eq_true rfl, Nat.le_of_ble_eq_true rfl⟩ dX2_telling_40) hS (fun x74 μ75 H locs hv hP hS => ?_)
    exact g_retX hx hb hrt hlk hP hS rfl hv dX2_telling_43
  · have hv := hv.2 c67
    by_cases c76 : x65 = 2
    · refine lv_lookup (tgt := 32) (off := 27) hx hb dX2_telling_5 (by decide) (by rw [c76]; decide) (by decide) ?_
      have hv := hv.1 c76
      refine lv_aload_n hx hb dX2_telling_32 rfl (lv_at hl 0 rfl) (lv_iload_n hx hb dX2_telling_33 rfl (lv_at hl 1 rfl) ?_)
      refine g_iX (g_bV (As := [.int a1]) (rest := []) C0 hK hP kX2_tellingOfEgg ql_X2_29 (mX2_tellingOfEgg hE hv) (by decide) ge_X2 rfl rfl hl.1 rfl (Nat.le_of_ble_eq_true rfl) ⟨rfl, rfl, Nat.le_of_ble_eq_true rfl, Nat.le_of_ble_eq_true rfl⟩ dX2_telling_34) hS (fun x83 μ84 H locs hv hP hS => ?_)
      exact g_retX hx hb hrt hlk hP hS rfl hv dX2_telling_37
    · have hv := hv.2 c76
      refine lv_lookup (tgt := 44) (off := 39) hx hb dX2_telling_5 (by decide) (by have := ne_toInt (x := x65) (k := 1) (z := 1) (by decide) c67; have := ne_toInt (x := x65) (k := 2) (z := 2) (by decide) c76; simp [Op.lookupswitch.offset]; omega) (by decide) ?_
      refine lv_aload_n hx hb dX2_telling_44 rfl (lv_at hl 0 rfl) (lv_iload_n hx hb dX2_telling_45 rfl (lv_at hl 1 rfl) ?_)
      refine g_iX (g_bV (As := [.int a1]) (rest := []) C0 hK hP kX2_tellingOfBall ql_X2_35 (mX2_tellingOfBall hE hv) (by decide) ge_X2 rfl rfl hl.1 rfl (Nat.le_of_ble_eq_true rfl) ⟨rfl, rfl, Nat.le_of_ble_eq_true rfl, Nat.le_of_ble_eq_true rfl⟩ dX2_telling_46) hS (fun x85 μ86 H locs hv hP hS => ?_)
      exact g_retX hx hb hrt hlk hP hS rfl hv dX2_telling_49
set_option maxHeartbeats 4000000 in
set_option maxRecDepth 100000 in
theorem mX2_calling {l : Launch} {E : gE} {μ ν : gM} {τ : gJ} {Q : Int32 → gM → Prop} (hE : gLok E) {a1 : Int32}  (hv : vX2_calling a1 μ Q) : Met l yX2_calling (gws yX2_calling cX2_calling 2 (some .int)) (gRm 4 84) (gPc E [.ref (gL E 20), .int a1] μ ν τ) (gQiX E Q ν τ) 0 0 (gA E) := by
  refine g_entr (lv := [(0, .ref (gL E 20)), (1, .int a1)]) (by decide +kernel) (Nat.le_of_ble_eq_true rfl) rfl (fun p e s m args below meth c ls H locs hx hb hrt hlk C0 hK hP hS hl => ?_)
  have C0 : CallFix p m c cX2_calling 2 s args gTB RX2 := C0
  unfold vX2_calling at hv
  refine lv_aload_n hx hb dX2_calling_0 rfl (lv_at hl 0 rfl) (lv_iload_n hx hb dX2_calling_1 rfl (lv_at hl 1 rfl) ?_)
  refine g_iX (g_bV (As := [.int a1]) (rest := []) C0 hK hP kX2_kindOf ql_X2_25 (mX2_kindOf hE hv) (by decide) ge_X2 rfl rfl hl.1 rfl (Nat.le_of_ble_eq_true rfl) ⟨rfl, rfl, Nat.le_of_ble_eq_true rfl, Nat.le_of_ble_eq_true rfl⟩ dX2_calling_2) hS (fun x87 μ88 H locs hv hP hS => ?_)
  refine lv_iconst (v := 2) hx hb dX2_calling_5 (by decide) ?_
  refine lv_icmp_ne (tgt := 17) hx hb dX2_calling_6 (by decide) (fun c89 => ?_) (fun c89 => ?_)
  · have hv := hv.1 c89
    refine lv_aload_n hx hb dX2_calling_17 rfl (lv_at hl 0 rfl) (lv_iconst (v := 4) hx hb dX2_calling_18 (by decide) ?_)
    refine g_vX (g_bV (As := [.int 4]) (rest := []) C0 hK hP kX2_leave ql_X2_38 (mX2_leave hE hv) (by decide) ge_X2 rfl rfl hl.1 rfl (Nat.le_of_ble_eq_true rfl) ⟨rfl, rfl, Nat.le_of_ble_eq_true rfl, Nat.le_of_ble_eq_true rfl⟩ dX2_calling_19) hS (fun μ91 H locs hv hP hS => ?_)
    refine lv_aload_n hx hb dX2_calling_22 rfl (lv_at hl 0 rfl) (lv_iload_n hx hb dX2_calling_23 rfl (lv_at hl 1 rfl) ?_)
    refine g_iX (g_bV (As := [.int a1]) (rest := []) C0 hK hP kX2_mayGo ql_X2_42 (mX2_mayGo hE hv) (by decide) ge_X2 rfl rfl hl.1 rfl (Nat.le_of_ble_eq_true rfl) ⟨rfl, rfl, Nat.le_of_ble_eq_true rfl, Nat.le_of_ble_eq_true rfl⟩ dX2_calling_24) hS (fun x92 μ93 H locs hv hP hS => ?_)
    exact g_retX hx hb hrt hlk hP hS rfl hv dX2_calling_27
  · have hv := hv.2 c89
    refine lv_aload_n hx hb dX2_calling_9 rfl (lv_at hl 0 rfl) (lv_iconst (v := 5) hx hb dX2_calling_10 (by decide) ?_)
    refine g_vX (g_bV (As := [.int 5]) (rest := []) C0 hK hP kX2_leave ql_X2_38 (mX2_leave hE hv) (by decide) ge_X2 rfl rfl hl.1 rfl (Nat.le_of_ble_eq_true rfl) ⟨rfl, rfl, Nat.le_of_ble_eq_true rfl, Nat.le_of_ble_eq_true rfl⟩ dX2_calling_11) hS (fun μ95 H locs hv hP hS => ?_)
    refine lv_bipush (v := 70) hx hb dX2_calling_14 (by decide) ?_
    exact g_retX hx hb hrt hlk hP hS rfl hv dX2_calling_16
set_option maxHeartbeats 4000000 in
set_option maxRecDepth 100000 in
theorem mX3_isThere {l : Launch} {E : gE} {μ ν : gM} {τ : gJ} {Q : Int32 → gM → Prop} (hE : gLok E) {r : Nat} (hr : r < 5) (hv : vX3_isThere r μ Q) : Met l yX3_isThere (gws yX3_isThere cX3_isThere 1 (some .boolean)) (gRm 0 0) (gPc E [.ref (gL E r)] μ ν τ) (gQiX E Q ν τ) 0 0 (gA E) := by
  refine g_entr (lv := [(0, .ref (gL E r))]) (by decide +kernel) (Nat.le_of_ble_eq_true rfl) rfl (fun p e s m args below meth c ls H locs hx hb hrt hlk C0 hK hP hS hl => ?_)
  have C0 : CallFix p m c cX3_isThere 1 s args gTB RX3 := C0
  unfold vX3_isThere at hv
  refine lv_aload_n hx hb dX3_isThere_0 rfl (lv_at hl 0 rfl) (gg_X3_15 C0 hK hP hr dX3_isThere_1 ?_)
  refine lv_if_le (tgt := 11) hx hb dX3_isThere_4 (by decide) (fun c96 => ?_) (fun c96 => ?_)
  · have hv := hv.1 c96
    refine lv_iconst (v := 0) hx hb dX3_isThere_11 (by decide) ?_
    exact g_retX hx hb hrt hlk hP hS rfl hv dX3_isThere_12
  · have hv := hv.2 c96
    refine lv_iconst (v := 1) hx hb dX3_isThere_7 (by decide) (lv_goto (tgt := 12) hx hb dX3_isThere_8 (by decide) ?_)
    exact g_retX hx hb hrt hlk hP hS rfl hv dX3_isThere_12
set_option maxHeartbeats 4000000 in
set_option maxRecDepth 100000 in
theorem mX3_hasBeat {l : Launch} {E : gE} {μ ν : gM} {τ : gJ} {Q : Int32 → gM → Prop} (hE : gLok E) {r : Nat} {a1 : Int32} (hr : r < 5) (hv : vX3_hasBeat r a1 μ Q) : Met l yX3_hasBeat (gws yX3_hasBeat cX3_hasBeat 2 (some .boolean)) (gRm 0 0) (gPc E [.ref (gL E r), .int a1] μ ν τ) (gQiX E Q ν τ) 0 0 (gA E) := by
  refine g_entr (lv := [(0, .ref (gL E r)), (1, .int a1)]) (by decide +kernel) (Nat.le_of_ble_eq_true rfl) rfl (fun p e s m args below meth c ls H locs hx hb hrt hlk C0 hK hP hS hl => ?_)
  have C0 : CallFix p m c cX3_hasBeat 2 s args gTB RX3 := C0
  unfold vX3_hasBeat at hv
  refine lv_iload_n hx hb dX3_hasBeat_0 rfl (lv_at hl 1 rfl) ?_
  refine lv_if_lt (tgt := 16) hx hb dX3_hasBeat_1 (by decide) (fun c97 => ?_) (fun c97 => ?_)
  · have hv := hv.1 c97
    refine lv_iconst (v := 0) hx hb dX3_hasBeat_16 (by decide) ?_
    exact g_retX hx hb hrt hlk hP hS rfl hv dX3_hasBeat_17
  · have hv := hv.2 c97
    refine lv_iload_n hx hb dX3_hasBeat_4 rfl (lv_at hl 1 rfl) (lv_aload_n hx hb dX3_hasBeat_5 rfl (lv_at hl 0 rfl) (gg_X3_15 C0 hK hP hr dX3_hasBeat_6 ?_))
    refine lv_icmp_ge (tgt := 16) hx hb dX3_hasBeat_9 (by decide) (fun c98 => ?_) (fun c98 => ?_)
    · have hv := hv.1 c98
      refine lv_iconst (v := 0) hx hb dX3_hasBeat_16 (by decide) ?_
      exact g_retX hx hb hrt hlk hP hS rfl hv dX3_hasBeat_17
    · have hv := hv.2 c98
      refine lv_iconst (v := 1) hx hb dX3_hasBeat_12 (by decide) (lv_goto (tgt := 17) hx hb dX3_hasBeat_13 (by decide) ?_)
      exact g_retX hx hb hrt hlk hP hS rfl hv dX3_hasBeat_17
set_option maxHeartbeats 4000000 in
set_option maxRecDepth 100000 in
theorem mJ9_floorMod_7cf53 {l : Launch} {E : gE} {μ ν : gM} {τ : gJ} {Q : Int32 → Prop} (hE : gLok E) {a0 : Int32} {a1 : Int32}  (hv : vJ9_floorMod_7cf53 a0 a1 Q) : Met l yJ9_floorMod_7cf53 (gws yJ9_floorMod_7cf53 cJ9_floorMod_7cf53 3 (some .int)) (gRm 0 0) (gPc E [.int a0, .int a1] μ ν τ) (gQiS E Q μ ν τ) 0 0 (gA E) := by
  refine g_entr (lv := [(0, .int a0), (1, .int a1)]) (by decide +kernel) (Nat.le_of_ble_eq_true rfl) rfl (fun p e s m args below meth c ls H locs hx hb hrt hlk C0 hK hP hS hl => ?_)
  have C0 : CallFix p m c cJ9_floorMod_7cf53 3 s args gTB RJ9 := C0
  unfold vJ9_floorMod_7cf53 at hv
  refine lv_iload_n hx hb dJ9_floorMod_7cf53_0 rfl (lv_at hl 0 rfl) (lv_iload_n hx hb dJ9_floorMod_7cf53_1 rfl (lv_at hl 1 rfl) ?_)
  have hd := hv.1
  have hv := hv.2
  refine lv_irem hx hb dJ9_floorMod_7cf53_2 hd (lv_istore_n (lv' := [(2, .int (a0 - a0 / a1 * a1)), (0, .int a0), (1, .int a1)]) hx hb dJ9_floorMod_7cf53_3 rfl hl (by decide) rfl (fun ls hl => (lv_iload_n hx hb dJ9_floorMod_7cf53_4 rfl (lv_at hl 1 rfl) (lv_iload_n hx hb dJ9_floorMod_7cf53_5 rfl (lv_at hl 2 rfl) (lv_ixor hx hb dJ9_floorMod_7cf53_6 ?_)))))
  refine lv_if_ge (tgt := 18) hx hb dJ9_floorMod_7cf53_7 (by decide) (fun c100 => ?_) (fun c100 => ?_)
  · have hv := hv.1 c100
    refine lv_iload_n hx hb dJ9_floorMod_7cf53_18 rfl (lv_at hl 0 rfl) ?_
    exact g_retS hx hb hrt hlk hP hS rfl hv dJ9_floorMod_7cf53_19
  · have hv := hv.2 c100
    refine lv_iload_n hx hb dJ9_floorMod_7cf53_10 rfl (lv_at hl 0 rfl) ?_
    refine lv_if_eq (tgt := 18) hx hb dJ9_floorMod_7cf53_11 (by decide) (fun c101 => ?_) (fun c101 => ?_)
    · have hv := hv.1 c101
      refine lv_iload_n hx hb dJ9_floorMod_7cf53_18 rfl (lv_at hl 0 rfl) ?_
      exact g_retS hx hb hrt hlk hP hS rfl hv dJ9_floorMod_7cf53_19
    · have hv := hv.2 c101
      refine lv_iload_n hx hb dJ9_floorMod_7cf53_14 rfl (lv_at hl 0 rfl) (lv_iload_n hx hb dJ9_floorMod_7cf53_15 rfl (lv_at hl 2 rfl) (lv_iadd hx hb dJ9_floorMod_7cf53_16 ?_))
      exact g_retS hx hb hrt hlk hP hS rfl hv dJ9_floorMod_7cf53_17
set_option maxHeartbeats 4000000 in
set_option maxRecDepth 100000 in
theorem mX3_heightIn {l : Launch} {E : gE} {μ ν : gM} {τ : gJ} {Q : Int32 → gM → Prop} (hE : gLok E) {r : Nat} {a1 : Int32} (hr : r < 5) (hv : vX3_heightIn r a1 μ Q) : Met l yX3_heightIn (gws yX3_heightIn cX3_heightIn 2 (some .int)) (gRm 1 22) (gPc E [.ref (gL E r), .int a1] μ ν τ) (gQiX E Q ν τ) 0 0 (gA E) := by
  refine g_entr (lv := [(0, .ref (gL E r)), (1, .int a1)]) (by decide +kernel) (Nat.le_of_ble_eq_true rfl) rfl (fun p e s m args below meth c ls H locs hx hb hrt hlk C0 hK hP hS hl => ?_)
  have C0 : CallFix p m c cX3_heightIn 2 s args gTB RX3 := C0
  unfold vX3_heightIn at hv
  refine lv_aload_n hx hb dX3_heightIn_0 rfl (lv_at hl 0 rfl) (gg_X3_15 C0 hK hP hr dX3_heightIn_1 (lv_iconst (v := 1) hx hb dX3_heightIn_4 (by decide) ?_))
  refine lv_icmp_ge (tgt := 12) hx hb dX3_heightIn_5 (by decide) (fun c99 => ?_) (fun c99 => ?_)
  · have hv := hv.1 c99
    refine lv_aload_n hx hb dX3_heightIn_12 rfl (lv_at hl 0 rfl) (gg_X3_9 C0 hK hP hr dX3_heightIn_13 (lv_iload_n hx hb dX3_heightIn_16 rfl (lv_at hl 1 rfl) (lv_aload_n hx hb dX3_heightIn_17 rfl (lv_at hl 0 rfl) (gg_X3_15 C0 hK hP hr dX3_heightIn_18 ?_))))
    refine g_iS (g_bS (As := [.int a1, .int (μ r 1)]) (rest := [.ref (gL E (5 + r))]) C0 hK hP kJ9_floorMod_7cf53 ql_X3_19 (mJ9_floorMod_7cf53 hE hv) rfl hl.1 rfl (Nat.le_of_ble_eq_true rfl) ⟨rfl, rfl, Nat.le_of_ble_eq_true rfl, Nat.le_of_ble_eq_true rfl⟩ dX3_heightIn_21) hS (fun x102 H locs hv hP hS => ?_)
    have hi103 := hv.1
    have hv := hv.2
    refine g_iald hx hb hK hP (by have := hr; omega) (gen_hts hr) hi103 dX3_heightIn_24 ?_
    exact g_retX hx hb hrt hlk hP hS rfl hv dX3_heightIn_25
  · have hv := hv.2 c99
    refine lv_iconst (v := 0) hx hb dX3_heightIn_8 (by decide) (lv_goto (tgt := 25) hx hb dX3_heightIn_9 (by decide) ?_)
    exact g_retX hx hb hrt hlk hP hS rfl hv dX3_heightIn_25
set_option maxHeartbeats 4000000 in
set_option maxRecDepth 100000 in
theorem mX3_setHeight {l : Launch} {E : gE} {μ ν : gM} {τ : gJ} {Q : gM → Prop} (hE : gLok E) {r : Nat} {a1 : Int32} {a2 : Int32} (hr : r < 5) (hv : vX3_setHeight r a1 a2 μ Q) : Met l yX3_setHeight (gws yX3_setHeight cX3_setHeight 3 none) (gRm 1 21) (gPc E [.ref (gL E r), .int a1, .int a2] μ ν τ) (gQvX E Q ν τ) 0 0 (gA E) := by
  refine g_entr (lv := [(0, .ref (gL E r)), (1, .int a1), (2, .int a2)]) (by decide +kernel) (Nat.le_of_ble_eq_true rfl) rfl (fun p e s m args below meth c ls H locs hx hb hrt hlk C0 hK hP hS hl => ?_)
  have C0 : CallFix p m c cX3_setHeight 3 s args gTB RX3 := C0
  unfold vX3_setHeight at hv
  refine lv_aload_n hx hb dX3_setHeight_0 rfl (lv_at hl 0 rfl) (lv_iload_n hx hb dX3_setHeight_1 rfl (lv_at hl 1 rfl) ?_)
  refine g_iX (g_bV (As := [.int a1]) (rest := []) C0 hK hP kX3_hasBeat ql_X3_25 (mX3_hasBeat hE hr hv) (by have := hr; omega) (gen_row hr) rfl rfl hl.1 rfl (Nat.le_of_ble_eq_true rfl) ⟨rfl, rfl, Nat.le_of_ble_eq_true rfl, Nat.le_of_ble_eq_true rfl⟩ dX3_setHeight_2) hS (fun x104 μ105 H locs hv hP hS => ?_)
  refine lv_if_eq (tgt := 15) hx hb dX3_setHeight_5 (by decide) (fun c106 => ?_) (fun c106 => ?_)
  · have hv := hv.1 c106
    exact g_vretX hx hb hrt hlk hP hS hv dX3_setHeight_15
  · have hv := hv.2 c106
    refine lv_aload_n hx hb dX3_setHeight_8 rfl (lv_at hl 0 rfl) (gg_X3_9 C0 hK hP hr dX3_setHeight_9 (lv_iload_n hx hb dX3_setHeight_12 rfl (lv_at hl 1 rfl) (lv_iload_n hx hb dX3_setHeight_13 rfl (lv_at hl 2 rfl) ?_)))
    have hi107 := hv.1
    have hv := hv.2
    refine g_iastX hE hx hb hK hP hS (by have := hr; omega) (fun _ => gen_hts hr) hi107 dX3_setHeight_14 (fun H locs hP hS => ?_)
    exact g_vretX hx hb hrt hlk hP hS hv dX3_setHeight_15
set_option maxHeartbeats 4000000 in
set_option maxRecDepth 100000 in
theorem mX3_landingOf {l : Launch} {E : gE} {μ ν : gM} {τ : gJ} {Q : Int32 → gM → Prop} (hE : gLok E) {r : Nat} {a1 : Int32} (hr : r < 5) (hv : vX3_landingOf r a1 μ Q) : Met l yX3_landingOf (gws yX3_landingOf cX3_landingOf 2 (some .int)) (gRm 2 43) (gPc E [.ref (gL E r), .int a1] μ ν τ) (gQiX E Q ν τ) 0 0 (gA E) := by
  refine g_entr (lv := [(0, .ref (gL E r)), (1, .int a1)]) (by decide +kernel) (Nat.le_of_ble_eq_true rfl) rfl (fun p e s m args below meth c ls H locs hx hb hrt hlk C0 hK hP hS hl => ?_)
  have C0 : CallFix p m c cX3_landingOf 2 s args gTB RX3 := C0
  unfold vX3_landingOf at hv
  refine lv_aload_n hx hb dX3_landingOf_0 rfl (lv_at hl 0 rfl) (gg_X3_15 C0 hK hP hr dX3_landingOf_1 (lv_iconst (v := 1) hx hb dX3_landingOf_4 (by decide) ?_))
  refine lv_icmp_ge (tgt := 12) hx hb dX3_landingOf_5 (by decide) (fun c108 => ?_) (fun c108 => ?_)
  · have hv := hv.1 c108
    refine lv_iload_n hx hb dX3_landingOf_12 rfl (lv_at hl 1 rfl) (lv_aload_n hx hb dX3_landingOf_13 rfl (lv_at hl 0 rfl) (lv_iload_n hx hb dX3_landingOf_14 rfl (lv_at hl 1 rfl) ?_))
    refine g_iX (g_bV (As := [.int a1]) (rest := [.int a1]) C0 hK hP kX3_heightIn ql_X3_29 (mX3_heightIn hE hr hv) (by have := hr; omega) (gen_row hr) rfl rfl hl.1 rfl (Nat.le_of_ble_eq_true rfl) ⟨rfl, rfl, Nat.le_of_ble_eq_true rfl, Nat.le_of_ble_eq_true rfl⟩ dX3_landingOf_15) hS (fun x109 μ110 H locs hv hP hS => ?_)
    refine lv_iadd hx hb dX3_landingOf_18 (lv_aload_n hx hb dX3_landingOf_19 rfl (lv_at hl 0 rfl) (gg_X3_15 C0 hK hP hr dX3_landingOf_20 ?_))
    refine g_iS (g_bS (As := [.int (a1 + x109), .int (μ110 r 1)]) (rest := []) C0 hK hP kJ9_floorMod_7cf53 ql_X3_19 (mJ9_floorMod_7cf53 hE hv) rfl hl.1 rfl (Nat.le_of_ble_eq_true rfl) ⟨rfl, rfl, Nat.le_of_ble_eq_true rfl, Nat.le_of_ble_eq_true rfl⟩ dX3_landingOf_23) hS (fun x111 H locs hv hP hS => ?_)
    exact g_retX hx hb hrt hlk hP hS rfl hv dX3_landingOf_26
  · have hv := hv.2 c108
    refine lv_iconst (v := 0) hx hb dX3_landingOf_8 (by decide) (lv_goto (tgt := 26) hx hb dX3_landingOf_9 (by decide) ?_)
    exact g_retX hx hb hrt hlk hP hS rfl hv dX3_landingOf_26
set_option maxHeartbeats 4000000 in
set_option maxRecDepth 100000 in
theorem mX3_firstClash {l : Launch} {E : gE} {μ ν : gM} {τ : gJ} {Q : Int32 → gM → Prop} (hE : gLok E) {r : Nat} (hr : r < 5) (hv : vX3_firstClash r μ Q) : Met l yX3_firstClash (gws yX3_firstClash cX3_firstClash 3 (some .int)) (gRm 3 64) (gPc E [.ref (gL E r)] μ ν τ) (gQiX E Q ν τ) 0 0 (gA E) := by
  refine g_entr (lv := [(0, .ref (gL E r))]) (by decide +kernel) (Nat.le_of_ble_eq_true rfl) rfl (fun p e s m args below meth c ls H locs hx hb hrt hlk C0 hK hP hS hl => ?_)
  have C0 : CallFix p m c cX3_firstClash 3 s args gTB RX3 := C0
  have h_2 : ∀ (n_2 : Nat) (v1 : Int32) (μ : gM) (H : Heap) (locs : List Loc) (ls : Array Slot), va_P (gD E) vwCl (wl E μ ν τ) H → va_S (gA E) s.heap H locs → lv_has ls 3 [(0, .ref (gL E r)), (1, .int v1)] → vX3_firstClash_2 r Q n_2 v1 μ → W p l e (gRm 3 64) s m args below meth c H locs 0 0 (MQ below (gQiX E Q ν τ) args s 0 0 (gA E)) (F0 m 2 ls []) := by
    intro n_2
    induction n_2 with
    | zero =>
      intro v1 μ H locs ls hP hS hl hv
      exact False.elim hv
    | succ n_2 ih_2 =>
      intro v1 μ H locs ls hP hS hl hv
      have h_14 : ∀ (n_14 : Nat) (v1 : Int32) (v2 : Int32) (μ : gM) (H : Heap) (locs : List Loc) (ls : Array Slot), va_P (gD E) vwCl (wl E μ ν τ) H → va_S (gA E) s.heap H locs → lv_has ls 3 [(0, .ref (gL E r)), (1, .int v1), (2, .int v2)] → vX3_firstClash_14 r Q (vX3_firstClash_2 r Q n_2) n_14 v1 v2 μ → W p l e (gRm 3 64) s m args below meth c H locs 0 0 (MQ below (gQiX E Q ν τ) args s 0 0 (gA E)) (F0 m 14 ls []) := by
        intro n_14
        induction n_14 with
        | zero =>
          intro v1 v2 μ H locs ls hP hS hl hv
          exact False.elim hv
        | succ n_14 ih_14 =>
          intro v1 v2 μ H locs ls hP hS hl hv
          have hv : vX3_firstClash_14B r Q (vX3_firstClash_2 r Q n_2) (vX3_firstClash_14 r Q (vX3_firstClash_2 r Q n_2) n_14) v1 v2 μ := hv
          unfold vX3_firstClash_14B at hv
          refine lv_iload_n hx hb dX3_firstClash_14 rfl (lv_at hl 2 rfl) (lv_aload_n hx hb dX3_firstClash_15 rfl (lv_at hl 0 rfl) (gg_X3_15 C0 hK hP hr dX3_firstClash_16 ?_))
          refine lv_icmp_ge (tgt := 48) hx hb dX3_firstClash_19 (by decide) (fun c113 => ?_) (fun c113 => ?_)
          · have hv := hv.1 c113
            refine lv_iinc (v := (v1 + 1)) (lv' := [(1, .int (v1 + 1)), (0, .ref (gL E r)), (2, .int v2)]) hx hb dX3_firstClash_48 hl (k := 1) rfl rfl (by decide) rfl (fun ls hl => (lv_goto (tgt := 2) hx hb dX3_firstClash_51 (by decide) ?_))
            exact ih_2 (v1 + 1) μ H locs ls hP hS (lv_sub hl [1, 0] rfl) hv
          · have hv := hv.2 c113
            refine lv_aload_n hx hb dX3_firstClash_22 rfl (lv_at hl 0 rfl) (lv_iload_n hx hb dX3_firstClash_23 rfl (lv_at hl 1 rfl) ?_)
            refine g_iX (g_bV (As := [.int v1]) (rest := []) C0 hK hP kX3_landingOf ql_X3_33 (mX3_landingOf hE hr hv) (by have := hr; omega) (gen_row hr) rfl rfl hl.1 rfl (Nat.le_of_ble_eq_true rfl) ⟨rfl, rfl, Nat.le_of_ble_eq_true rfl, Nat.le_of_ble_eq_true rfl⟩ dX3_firstClash_24) hS (fun x114 μ115 H locs hv hP hS => ?_)
            refine lv_aload_n hx hb dX3_firstClash_27 rfl (lv_at hl 0 rfl) (lv_iload_n hx hb dX3_firstClash_28 rfl (lv_at hl 2 rfl) ?_)
            refine g_iX (g_bV (As := [.int v2]) (rest := [.int x114]) C0 hK hP kX3_landingOf ql_X3_33 (mX3_landingOf hE hr hv) (by have := hr; omega) (gen_row hr) rfl rfl hl.1 rfl (Nat.le_of_ble_eq_true rfl) ⟨rfl, rfl, Nat.le_of_ble_eq_true rfl, Nat.le_of_ble_eq_true rfl⟩ dX3_firstClash_29) hS (fun x116 μ117 H locs hv hP hS => ?_)
            refine lv_icmp_ne (tgt := 42) hx hb dX3_firstClash_32 (by decide) (fun c118 => ?_) (fun c118 => ?_)
            · have hv := hv.1 c118
              refine lv_iinc (v := (v2 + 1)) (lv' := [(2, .int (v2 + 1)), (0, .ref (gL E r)), (1, .int v1)]) hx hb dX3_firstClash_42 hl (k := 2) rfl rfl (by decide) rfl (fun ls hl => (lv_goto (tgt := 14) hx hb dX3_firstClash_45 (by decide) ?_))
              exact ih_14 v1 (v2 + 1) μ117 H locs ls hP hS (lv_sub hl [1, 2, 0] rfl) hv
            · have hv := hv.2 c118
              refine lv_bipush (v := 10) hx hb dX3_firstClash_35 (by decide) (lv_iload_n hx hb dX3_firstClash_37 rfl (lv_at hl 1 rfl) (lv_imul hx hb dX3_firstClash_38 (lv_iload_n hx hb dX3_firstClash_39 rfl (lv_at hl 2 rfl) (lv_iadd hx hb dX3_firstClash_40 ?_))))
              exact g_retX hx hb hrt hlk hP hS rfl hv dX3_firstClash_41
      have hv : vX3_firstClash_2B r Q (vX3_firstClash_2 r Q n_2) v1 μ := hv
      unfold vX3_firstClash_2B at hv
      refine lv_iload_n hx hb dX3_firstClash_2 rfl (lv_at hl 1 rfl) (lv_aload_n hx hb dX3_firstClash_3 rfl (lv_at hl 0 rfl) (gg_X3_15 C0 hK hP hr dX3_firstClash_4 ?_))
      refine lv_icmp_ge (tgt := 54) hx hb dX3_firstClash_7 (by decide) (fun c112 => ?_) (fun c112 => ?_)
      · have hv := hv.1 c112
        refine lv_bipush (v := (-9)) hx hb dX3_firstClash_54 (by decide) ?_
        exact g_retX hx hb hrt hlk hP hS rfl hv dX3_firstClash_56
      · have hv := hv.2 c112
        refine lv_iload_n hx hb dX3_firstClash_10 rfl (lv_at hl 1 rfl) (lv_iconst (v := 1) hx hb dX3_firstClash_11 (by decide) (lv_iadd hx hb dX3_firstClash_12 (lv_istore_n (lv' := [(2, .int (v1 + 1)), (0, .ref (gL E r)), (1, .int v1)]) hx hb dX3_firstClash_13 rfl hl (by decide) rfl (fun ls hl => ?_))))
        obtain ⟨nf, hv⟩ := hv
        exact h_14 nf v1 (v1 + 1) μ H locs ls hP hS (lv_sub hl [1, 2, 0] rfl) hv
  unfold vX3_firstClash at hv
  refine lv_iconst (v := 0) hx hb dX3_firstClash_0 (by decide) (lv_istore_n (lv' := [(1, .int 0), (0, .ref (gL E r))]) hx hb dX3_firstClash_1 rfl hl (by decide) rfl (fun ls hl => ?_))
  obtain ⟨nf, hv⟩ := hv
  exact h_2 nf 0 μ H locs ls hP hS (lv_sub hl [1, 0] rfl) hv
set_option maxHeartbeats 4000000 in
set_option maxRecDepth 100000 in
theorem mX3_isGood {l : Launch} {E : gE} {μ ν : gM} {τ : gJ} {Q : Int32 → gM → Prop} (hE : gLok E) {r : Nat} (hr : r < 5) (hv : vX3_isGood r μ Q) : Met l yX3_isGood (gws yX3_isGood cX3_isGood 1 (some .boolean)) (gRm 4 86) (gPc E [.ref (gL E r)] μ ν τ) (gQiX E Q ν τ) 0 0 (gA E) := by
  refine g_entr (lv := [(0, .ref (gL E r))]) (by decide +kernel) (Nat.le_of_ble_eq_true rfl) rfl (fun p e s m args below meth c ls H locs hx hb hrt hlk C0 hK hP hS hl => ?_)
  have C0 : CallFix p m c cX3_isGood 1 s args gTB RX3 := C0
  unfold vX3_isGood at hv
  refine lv_aload_n hx hb dX3_isGood_0 rfl (lv_at hl 0 rfl) ?_
  refine g_iX (g_bV (As := []) (rest := []) C0 hK hP kX3_isThere ql_X3_36 (mX3_isThere hE hr hv) (by have := hr; omega) (gen_row hr) rfl rfl hl.1 rfl (Nat.le_of_ble_eq_true rfl) ⟨rfl, rfl, Nat.le_of_ble_eq_true rfl, Nat.le_of_ble_eq_true rfl⟩ dX3_isGood_1) hS (fun x119 μ120 H locs hv hP hS => ?_)
  refine lv_if_eq (tgt := 20) hx hb dX3_isGood_4 (by decide) (fun c121 => ?_) (fun c121 => ?_)
  · have hv := hv.1 c121
    refine lv_iconst (v := 0) hx hb dX3_isGood_20 (by decide) ?_
    exact g_retX hx hb hrt hlk hP hS rfl hv dX3_isGood_21
  · have hv := hv.2 c121
    refine lv_aload_n hx hb dX3_isGood_7 rfl (lv_at hl 0 rfl) ?_
    refine g_iX (g_bV (As := []) (rest := []) C0 hK hP kX3_firstClash ql_X3_40 (mX3_firstClash hE hr hv) (by have := hr; omega) (gen_row hr) rfl rfl hl.1 rfl (Nat.le_of_ble_eq_true rfl) ⟨rfl, rfl, Nat.le_of_ble_eq_true rfl, Nat.le_of_ble_eq_true rfl⟩ dX3_isGood_8) hS (fun x122 μ123 H locs hv hP hS => ?_)
    refine lv_bipush (v := (-9)) hx hb dX3_isGood_11 (by decide) ?_
    refine lv_icmp_ne (tgt := 20) hx hb dX3_isGood_13 (by decide) (fun c124 => ?_) (fun c124 => ?_)
    · have hv := hv.1 c124
      refine lv_iconst (v := 0) hx hb dX3_isGood_20 (by decide) ?_
      exact g_retX hx hb hrt hlk hP hS rfl hv dX3_isGood_21
    · have hv := hv.2 c124
      refine lv_iconst (v := 1) hx hb dX3_isGood_16 (by decide) (lv_goto (tgt := 21) hx hb dX3_isGood_17 (by decide) ?_)
      exact g_retX hx hb hrt hlk hP hS rfl hv dX3_isGood_21
set_option maxHeartbeats 4000000 in
set_option maxRecDepth 100000 in
theorem mX3_ballCount {l : Launch} {E : gE} {μ ν : gM} {τ : gJ} {Q : Int32 → gM → Prop} (hE : gLok E) {r : Nat} (hr : r < 5) (hv : vX3_ballCount r μ Q) : Met l yX3_ballCount (gws yX3_ballCount cX3_ballCount 3 (some .int)) (gRm 0 0) (gPc E [.ref (gL E r)] μ ν τ) (gQiX E Q ν τ) 0 0 (gA E) := by
  refine g_entr (lv := [(0, .ref (gL E r))]) (by decide +kernel) (Nat.le_of_ble_eq_true rfl) rfl (fun p e s m args below meth c ls H locs hx hb hrt hlk C0 hK hP hS hl => ?_)
  have C0 : CallFix p m c cX3_ballCount 3 s args gTB RX3 := C0
  have h_4 : ∀ (n_4 : Nat) (v1 : Int32) (v2 : Int32) (μ : gM) (H : Heap) (locs : List Loc) (ls : Array Slot), va_P (gD E) vwCl (wl E μ ν τ) H → va_S (gA E) s.heap H locs → lv_has ls 3 [(0, .ref (gL E r)), (1, .int v1), (2, .int v2)] → vX3_ballCount_4 r Q n_4 v1 v2 μ → W p l e (gRm 0 0) s m args below meth c H locs 0 0 (MQ below (gQiX E Q ν τ) args s 0 0 (gA E)) (F0 m 4 ls []) := by
    intro n_4
    induction n_4 with
    | zero =>
      intro v1 v2 μ H locs ls hP hS hl hv
      exact False.elim hv
    | succ n_4 ih_4 =>
      intro v1 v2 μ H locs ls hP hS hl hv
      have hv : vX3_ballCount_4B r Q (vX3_ballCount_4 r Q n_4) v1 v2 μ := hv
      unfold vX3_ballCount_4B at hv
      refine lv_iload_n hx hb dX3_ballCount_4 rfl (lv_at hl 2 rfl) (lv_aload_n hx hb dX3_ballCount_5 rfl (lv_at hl 0 rfl) (gg_X3_15 C0 hK hP hr dX3_ballCount_6 ?_))
      refine lv_icmp_ge (tgt := 27) hx hb dX3_ballCount_9 (by decide) (fun c125 => ?_) (fun c125 => ?_)
      · have hv := hv.1 c125
        refine lv_aload_n hx hb dX3_ballCount_27 rfl (lv_at hl 0 rfl) (gg_X3_15 C0 hK hP hr dX3_ballCount_28 (lv_iconst (v := 1) hx hb dX3_ballCount_31 (by decide) ?_))
        refine lv_icmp_ge (tgt := 39) hx hb dX3_ballCount_32 (by decide) (fun c126 => ?_) (fun c126 => ?_)
        · have hv := hv.1 c126
          refine lv_iload_n hx hb dX3_ballCount_39 rfl (lv_at hl 1 rfl) (lv_aload_n hx hb dX3_ballCount_40 rfl (lv_at hl 0 rfl) (gg_X3_15 C0 hK hP hr dX3_ballCount_41 ?_))
          have hd := hv.1
          have hv := hv.2
          refine lv_idiv hx hb dX3_ballCount_44 hd ?_
          exact g_retX hx hb hrt hlk hP hS rfl hv dX3_ballCount_45
        · have hv := hv.2 c126
          refine lv_iconst (v := 0) hx hb dX3_ballCount_35 (by decide) (lv_goto (tgt := 45) hx hb dX3_ballCount_36 (by decide) ?_)
          exact g_retX hx hb hrt hlk hP hS rfl hv dX3_ballCount_45
      · have hv := hv.2 c125
        refine lv_iload_n hx hb dX3_ballCount_12 rfl (lv_at hl 1 rfl) (lv_aload_n hx hb dX3_ballCount_13 rfl (lv_at hl 0 rfl) (gg_X3_9 C0 hK hP hr dX3_ballCount_14 (lv_iload_n hx hb dX3_ballCount_17 rfl (lv_at hl 2 rfl) ?_)))
        have hi127 := hv.1
        have hv := hv.2
        refine g_iald hx hb hK hP (by have := hr; omega) (gen_hts hr) hi127 dX3_ballCount_18 (lv_iadd hx hb dX3_ballCount_19 (lv_istore_n (lv' := [(1, .int (v1 + (μ (5 + r) v2.toNatClampNeg))), (0, .ref (gL E r)), (2, .int v2)]) hx hb dX3_ballCount_20 rfl hl (by decide) rfl (fun ls hl => (lv_iinc (v := (v2 + 1)) (lv' := [(2, .int (v2 + 1)), (1, .int (v1 + (μ (5 + r) v2.toNatClampNeg))), (0, .ref (gL E r))]) hx hb dX3_ballCount_21 hl (k := 2) rfl rfl (by decide) rfl (fun ls hl => (lv_goto (tgt := 4) hx hb dX3_ballCount_24 (by decide) ?_))))))
        exact ih_4 (v1 + (μ (5 + r) v2.toNatClampNeg)) (v2 + 1) μ H locs ls hP hS (lv_sub hl [2, 1, 0] rfl) hv
  unfold vX3_ballCount at hv
  refine lv_iconst (v := 0) hx hb dX3_ballCount_0 (by decide) (lv_istore_n (lv' := [(1, .int 0), (0, .ref (gL E r))]) hx hb dX3_ballCount_1 rfl hl (by decide) rfl (fun ls hl => (lv_iconst (v := 0) hx hb dX3_ballCount_2 (by decide) (lv_istore_n (lv' := [(2, .int 0), (1, .int 0), (0, .ref (gL E r))]) hx hb dX3_ballCount_3 rfl hl (by decide) rfl (fun ls hl => ?_)))))
  obtain ⟨nf, hv⟩ := hv
  exact h_4 nf 0 0 μ H locs ls hP hS (lv_sub hl [2, 1, 0] rfl) hv
set_option maxHeartbeats 4000000 in
set_option maxRecDepth 100000 in
theorem mJ9_max_7cf53 {l : Launch} {E : gE} {μ ν : gM} {τ : gJ} {Q : Int32 → Prop} (hE : gLok E) {a0 : Int32} {a1 : Int32}  (hv : vJ9_max_7cf53 a0 a1 Q) : Met l yJ9_max_7cf53 (gws yJ9_max_7cf53 cJ9_max_7cf53 2 (some .int)) (gRm 0 0) (gPc E [.int a0, .int a1] μ ν τ) (gQiS E Q μ ν τ) 0 0 (gA E) := by
  refine g_entr (lv := [(0, .int a0), (1, .int a1)]) (by decide +kernel) (Nat.le_of_ble_eq_true rfl) rfl (fun p e s m args below meth c ls H locs hx hb hrt hlk C0 hK hP hS hl => ?_)
  have C0 : CallFix p m c cJ9_max_7cf53 2 s args gTB RJ9 := C0
  unfold vJ9_max_7cf53 at hv
  refine lv_iload_n hx hb dJ9_max_7cf53_0 rfl (lv_at hl 0 rfl) (lv_iload_n hx hb dJ9_max_7cf53_1 rfl (lv_at hl 1 rfl) ?_)
  refine lv_icmp_lt (tgt := 9) hx hb dJ9_max_7cf53_2 (by decide) (fun c130 => ?_) (fun c130 => ?_)
  · have hv := hv.1 c130
    refine lv_iload_n hx hb dJ9_max_7cf53_9 rfl (lv_at hl 1 rfl) ?_
    exact g_retS hx hb hrt hlk hP hS rfl hv dJ9_max_7cf53_10
  · have hv := hv.2 c130
    refine lv_iload_n hx hb dJ9_max_7cf53_5 rfl (lv_at hl 0 rfl) (lv_goto (tgt := 10) hx hb dJ9_max_7cf53_6 (by decide) ?_)
    exact g_retS hx hb hrt hlk hP hS rfl hv dJ9_max_7cf53_10
set_option maxHeartbeats 4000000 in
set_option maxRecDepth 100000 in
theorem mX3_greatestHeight {l : Launch} {E : gE} {μ ν : gM} {τ : gJ} {Q : Int32 → gM → Prop} (hE : gLok E) {r : Nat} (hr : r < 5) (hv : vX3_greatestHeight r μ Q) : Met l yX3_greatestHeight (gws yX3_greatestHeight cX3_greatestHeight 3 (some .int)) (gRm 1 21) (gPc E [.ref (gL E r)] μ ν τ) (gQiX E Q ν τ) 0 0 (gA E) := by
  refine g_entr (lv := [(0, .ref (gL E r))]) (by decide +kernel) (Nat.le_of_ble_eq_true rfl) rfl (fun p e s m args below meth c ls H locs hx hb hrt hlk C0 hK hP hS hl => ?_)
  have C0 : CallFix p m c cX3_greatestHeight 3 s args gTB RX3 := C0
  have h_4 : ∀ (n_4 : Nat) (v1 : Int32) (v2 : Int32) (μ : gM) (H : Heap) (locs : List Loc) (ls : Array Slot), va_P (gD E) vwCl (wl E μ ν τ) H → va_S (gA E) s.heap H locs → lv_has ls 3 [(0, .ref (gL E r)), (1, .int v1), (2, .int v2)] → vX3_greatestHeight_4 r Q n_4 v1 v2 μ → W p l e (gRm 1 21) s m args below meth c H locs 0 0 (MQ below (gQiX E Q ν τ) args s 0 0 (gA E)) (F0 m 4 ls []) := by
    intro n_4
    induction n_4 with
    | zero =>
      intro v1 v2 μ H locs ls hP hS hl hv
      exact False.elim hv
    | succ n_4 ih_4 =>
      intro v1 v2 μ H locs ls hP hS hl hv
      have hv : vX3_greatestHeight_4B r Q (vX3_greatestHeight_4 r Q n_4) v1 v2 μ := hv
      unfold vX3_greatestHeight_4B at hv
      refine lv_iload_n hx hb dX3_greatestHeight_4 rfl (lv_at hl 2 rfl) (lv_aload_n hx hb dX3_greatestHeight_5 rfl (lv_at hl 0 rfl) (gg_X3_15 C0 hK hP hr dX3_greatestHeight_6 ?_))
      refine lv_icmp_ge (tgt := 29) hx hb dX3_greatestHeight_9 (by decide) (fun c128 => ?_) (fun c128 => ?_)
      · have hv := hv.1 c128
        refine lv_iload_n hx hb dX3_greatestHeight_29 rfl (lv_at hl 1 rfl) ?_
        exact g_retX hx hb hrt hlk hP hS rfl hv dX3_greatestHeight_30
      · have hv := hv.2 c128
        refine lv_iload_n hx hb dX3_greatestHeight_12 rfl (lv_at hl 1 rfl) (lv_aload_n hx hb dX3_greatestHeight_13 rfl (lv_at hl 0 rfl) (gg_X3_9 C0 hK hP hr dX3_greatestHeight_14 (lv_iload_n hx hb dX3_greatestHeight_17 rfl (lv_at hl 2 rfl) ?_)))
        have hi129 := hv.1
        have hv := hv.2
        refine g_iald hx hb hK hP (by have := hr; omega) (gen_hts hr) hi129 dX3_greatestHeight_18 ?_
        refine g_iS (g_bS (As := [.int v1, .int (μ (5 + r) v2.toNatClampNeg)]) (rest := []) C0 hK hP kJ9_max_7cf53 ql_X3_44 (mJ9_max_7cf53 hE hv) rfl hl.1 rfl (Nat.le_of_ble_eq_true rfl) ⟨rfl, rfl, Nat.le_of_ble_eq_true rfl, Nat.le_of_ble_eq_true rfl⟩ dX3_greatestHeight_19) hS (fun x131 H locs hv hP hS => ?_)
        refine lv_istore_n (lv' := [(1, .int x131), (0, .ref (gL E r)), (2, .int v2)]) hx hb dX3_greatestHeight_22 rfl hl (by decide) rfl (fun ls hl => (lv_iinc (v := (v2 + 1)) (lv' := [(2, .int (v2 + 1)), (1, .int x131), (0, .ref (gL E r))]) hx hb dX3_greatestHeight_23 hl (k := 2) rfl rfl (by decide) rfl (fun ls hl => (lv_goto (tgt := 4) hx hb dX3_greatestHeight_26 (by decide) ?_))))
        exact ih_4 x131 (v2 + 1) μ H locs ls hP hS (lv_sub hl [2, 1, 0] rfl) hv
  unfold vX3_greatestHeight at hv
  refine lv_iconst (v := 0) hx hb dX3_greatestHeight_0 (by decide) (lv_istore_n (lv' := [(1, .int 0), (0, .ref (gL E r))]) hx hb dX3_greatestHeight_1 rfl hl (by decide) rfl (fun ls hl => (lv_iconst (v := 0) hx hb dX3_greatestHeight_2 (by decide) (lv_istore_n (lv' := [(2, .int 0), (1, .int 0), (0, .ref (gL E r))]) hx hb dX3_greatestHeight_3 rfl hl (by decide) rfl (fun ls hl => ?_)))))
  obtain ⟨nf, hv⟩ := hv
  exact h_4 nf 0 0 μ H locs ls hP hS (lv_sub hl [2, 1, 0] rfl) hv
set_option maxHeartbeats 4000000 in
set_option maxRecDepth 100000 in
theorem mX3_stateAhead {l : Launch} {E : gE} {μ ν : gM} {τ : gJ} {Q : Int32 → gM → Prop} (hE : gLok E) {r : Nat} {a1 : Int32} (hr : r < 5) (hv : vX3_stateAhead r a1 μ Q) : Met l yX3_stateAhead (gws yX3_stateAhead cX3_stateAhead 5 (some .int)) (gRm 2 43) (gPc E [.ref (gL E r), .int a1] μ ν τ) (gQiX E Q ν τ) 0 0 (gA E) := by
  refine g_entr (lv := [(0, .ref (gL E r)), (1, .int a1)]) (by decide +kernel) (Nat.le_of_ble_eq_true rfl) rfl (fun p e s m args below meth c ls H locs hx hb hrt hlk C0 hK hP hS hl => ?_)
  have C0 : CallFix p m c cX3_stateAhead 5 s args gTB RX3 := C0
  have h_4 : ∀ (n_4 : Nat) (v2 : Int32) (v3 : Int32) (μ : gM) (H : Heap) (locs : List Loc) (ls : Array Slot), va_P (gD E) vwCl (wl E μ ν τ) H → va_S (gA E) s.heap H locs → lv_has ls 5 [(0, .ref (gL E r)), (1, .int a1), (2, .int v2), (3, .int v3)] → vX3_stateAhead_4 r a1 Q n_4 v2 v3 μ → W p l e (gRm 2 43) s m args below meth c H locs 0 0 (MQ below (gQiX E Q ν τ) args s 0 0 (gA E)) (F0 m 4 ls []) := by
    intro n_4
    induction n_4 with
    | zero =>
      intro v2 v3 μ H locs ls hP hS hl hv
      exact False.elim hv
    | succ n_4 ih_4 =>
      intro v2 v3 μ H locs ls hP hS hl hv
      have hv : vX3_stateAhead_4B r a1 Q (vX3_stateAhead_4 r a1 Q n_4) v2 v3 μ := hv
      unfold vX3_stateAhead_4B at hv
      refine lv_iload_n hx hb dX3_stateAhead_4 rfl (lv_at hl 3 rfl) (lv_bipush (v := 9) hx hb dX3_stateAhead_5 (by decide) ?_)
      refine lv_icmp_gt (tgt := 39) hx hb dX3_stateAhead_7 (by decide) (fun c132 => ?_) (fun c132 => ?_)
      · have hv := hv.1 c132
        refine lv_iload_n hx hb dX3_stateAhead_39 rfl (lv_at hl 2 rfl) ?_
        exact g_retX hx hb hrt hlk hP hS rfl hv dX3_stateAhead_40
      · have hv := hv.2 c132
        refine lv_aload_n hx hb dX3_stateAhead_10 rfl (lv_at hl 0 rfl) (lv_iload_n hx hb dX3_stateAhead_11 rfl (lv_at hl 1 rfl) (lv_iload_n hx hb dX3_stateAhead_12 rfl (lv_at hl 3 rfl) (lv_isub hx hb dX3_stateAhead_13 ?_)))
        refine g_iX (g_bV (As := [.int (a1 - v3)]) (rest := []) C0 hK hP kX3_heightIn ql_X3_29 (mX3_heightIn hE hr hv) (by have := hr; omega) (gen_row hr) rfl rfl hl.1 rfl (Nat.le_of_ble_eq_true rfl) ⟨rfl, rfl, Nat.le_of_ble_eq_true rfl, Nat.le_of_ble_eq_true rfl⟩ dX3_stateAhead_14) hS (fun x133 μ134 H locs hv hP hS => ?_)
        refine lv_iload_n hx hb dX3_stateAhead_17 rfl (lv_at hl 3 rfl) (lv_isub hx hb dX3_stateAhead_18 (lv_istore (lv' := [(4, .int (x133 - v3)), (0, .ref (gL E r)), (1, .int a1), (2, .int v2), (3, .int v3)]) hx hb dX3_stateAhead_19 hl (by decide) rfl (fun ls hl => (lv_iload hx hb dX3_stateAhead_21 (lv_at hl 0 rfl) ?_))))
        refine lv_if_lt (tgt := 33) hx hb dX3_stateAhead_23 (by decide) (fun c135 => ?_) (fun c135 => ?_)
        · have hv := hv.1 c135
          refine lv_iinc (v := (v3 + 1)) (lv' := [(3, .int (v3 + 1)), (4, .int (x133 - v3)), (0, .ref (gL E r)), (1, .int a1), (2, .int v2)]) hx hb dX3_stateAhead_33 hl (k := 4) rfl rfl (by decide) rfl (fun ls hl => (lv_goto (tgt := 4) hx hb dX3_stateAhead_36 (by decide) ?_))
          exact ih_4 v2 (v3 + 1) μ134 H locs ls hP hS (lv_sub hl [2, 3, 4, 0] rfl) hv
        · have hv := hv.2 c135
          refine lv_iload_n hx hb dX3_stateAhead_26 rfl (lv_at hl 3 rfl) (lv_iconst (v := 1) hx hb dX3_stateAhead_27 (by decide) (lv_iload hx hb dX3_stateAhead_28 (lv_at hl 0 rfl) (lv_ishl hx hb dX3_stateAhead_30 (lv_ior hx hb dX3_stateAhead_31 (lv_istore_n (lv' := [(2, .int (v2 ||| ((1 : Int32) <<< ((x133 - v3) &&& 31)))), (4, .int (x133 - v3)), (0, .ref (gL E r)), (1, .int a1), (3, .int v3)]) hx hb dX3_stateAhead_32 rfl hl (by decide) rfl (fun ls hl => (lv_iinc (v := (v3 + 1)) (lv' := [(3, .int (v3 + 1)), (2, .int (v2 ||| ((1 : Int32) <<< ((x133 - v3) &&& 31)))), (4, .int (x133 - v3)), (0, .ref (gL E r)), (1, .int a1)]) hx hb dX3_stateAhead_33 hl (k := 4) rfl rfl (by decide) rfl (fun ls hl => (lv_goto (tgt := 4) hx hb dX3_stateAhead_36 (by decide) ?_)))))))))
          exact ih_4 (v2 ||| ((1 : Int32) <<< ((x133 - v3) &&& 31))) (v3 + 1) μ134 H locs ls hP hS (lv_sub hl [3, 4, 1, 0] rfl) hv
  unfold vX3_stateAhead at hv
  refine lv_iconst (v := 0) hx hb dX3_stateAhead_0 (by decide) (lv_istore_n (lv' := [(2, .int 0), (0, .ref (gL E r)), (1, .int a1)]) hx hb dX3_stateAhead_1 rfl hl (by decide) rfl (fun ls hl => (lv_iconst (v := 1) hx hb dX3_stateAhead_2 (by decide) (lv_istore_n (lv' := [(3, .int 1), (2, .int 0), (0, .ref (gL E r)), (1, .int a1)]) hx hb dX3_stateAhead_3 rfl hl (by decide) rfl (fun ls hl => ?_)))))
  obtain ⟨nf, hv⟩ := hv
  exact h_4 nf 0 1 μ H locs ls hP hS (lv_sub hl [2, 3, 1, 0] rfl) hv
set_option maxHeartbeats 4000000 in
set_option maxRecDepth 100000 in
theorem mX3_isPrime {l : Launch} {E : gE} {μ ν : gM} {τ : gJ} {Q : Int32 → gM → Prop} (hE : gLok E) {r : Nat} (hr : r < 5) (hv : vX3_isPrime r μ Q) : Met l yX3_isPrime (gws yX3_isPrime cX3_isPrime 3 (some .boolean)) (gRm 3 67) (gPc E [.ref (gL E r)] μ ν τ) (gQiX E Q ν τ) 0 0 (gA E) := by
  refine g_entr (lv := [(0, .ref (gL E r))]) (by decide +kernel) (Nat.le_of_ble_eq_true rfl) rfl (fun p e s m args below meth c ls H locs hx hb hrt hlk C0 hK hP hS hl => ?_)
  have C0 : CallFix p m c cX3_isPrime 3 s args gTB RX3 := C0
  have h_2 : ∀ (n_2 : Nat) (v1 : Int32) (μ : gM) (H : Heap) (locs : List Loc) (ls : Array Slot), va_P (gD E) vwCl (wl E μ ν τ) H → va_S (gA E) s.heap H locs → lv_has ls 3 [(0, .ref (gL E r)), (1, .int v1)] → vX3_isPrime_2 r Q n_2 v1 μ → W p l e (gRm 3 67) s m args below meth c H locs 0 0 (MQ below (gQiX E Q ν τ) args s 0 0 (gA E)) (F0 m 2 ls []) := by
    intro n_2
    induction n_2 with
    | zero =>
      intro v1 μ H locs ls hP hS hl hv
      exact False.elim hv
    | succ n_2 ih_2 =>
      intro v1 μ H locs ls hP hS hl hv
      have h_14 : ∀ (n_14 : Nat) (v1 : Int32) (v2 : Int32) (μ : gM) (H : Heap) (locs : List Loc) (ls : Array Slot), va_P (gD E) vwCl (wl E μ ν τ) H → va_S (gA E) s.heap H locs → lv_has ls 3 [(0, .ref (gL E r)), (1, .int v1), (2, .int v2)] → vX3_isPrime_14 r Q (vX3_isPrime_2 r Q n_2) n_14 v1 v2 μ → W p l e (gRm 3 67) s m args below meth c H locs 0 0 (MQ below (gQiX E Q ν τ) args s 0 0 (gA E)) (F0 m 14 ls []) := by
        intro n_14
        induction n_14 with
        | zero =>
          intro v1 v2 μ H locs ls hP hS hl hv
          exact False.elim hv
        | succ n_14 ih_14 =>
          intro v1 v2 μ H locs ls hP hS hl hv
          have hv : vX3_isPrime_14B r Q (vX3_isPrime_2 r Q n_2) (vX3_isPrime_14 r Q (vX3_isPrime_2 r Q n_2) n_14) v1 v2 μ := hv
          unfold vX3_isPrime_14B at hv
          refine lv_iload_n hx hb dX3_isPrime_14 rfl (lv_at hl 2 rfl) (lv_aload_n hx hb dX3_isPrime_15 rfl (lv_at hl 0 rfl) (gg_X3_15 C0 hK hP hr dX3_isPrime_16 ?_))
          refine lv_icmp_ge (tgt := 43) hx hb dX3_isPrime_19 (by decide) (fun c137 => ?_) (fun c137 => ?_)
          · have hv := hv.1 c137
            refine lv_iinc (v := (v1 + 1)) (lv' := [(1, .int (v1 + 1)), (0, .ref (gL E r)), (2, .int v2)]) hx hb dX3_isPrime_43 hl (k := 1) rfl rfl (by decide) rfl (fun ls hl => (lv_goto (tgt := 2) hx hb dX3_isPrime_46 (by decide) ?_))
            exact ih_2 (v1 + 1) μ H locs ls hP hS (lv_sub hl [1, 0] rfl) hv
          · have hv := hv.2 c137
            refine lv_aload_n hx hb dX3_isPrime_22 rfl (lv_at hl 0 rfl) (lv_iload_n hx hb dX3_isPrime_23 rfl (lv_at hl 1 rfl) ?_)
            refine g_iX (g_bV (As := [.int v1]) (rest := []) C0 hK hP kX3_stateAhead ql_X3_47 (mX3_stateAhead hE hr hv) (by have := hr; omega) (gen_row hr) rfl rfl hl.1 rfl (Nat.le_of_ble_eq_true rfl) ⟨rfl, rfl, Nat.le_of_ble_eq_true rfl, Nat.le_of_ble_eq_true rfl⟩ dX3_isPrime_24) hS (fun x138 μ139 H locs hv hP hS => ?_)
            refine lv_aload_n hx hb dX3_isPrime_27 rfl (lv_at hl 0 rfl) (lv_iload_n hx hb dX3_isPrime_28 rfl (lv_at hl 2 rfl) ?_)
            refine g_iX (g_bV (As := [.int v2]) (rest := [.int x138]) C0 hK hP kX3_stateAhead ql_X3_47 (mX3_stateAhead hE hr hv) (by have := hr; omega) (gen_row hr) rfl rfl hl.1 rfl (Nat.le_of_ble_eq_true rfl) ⟨rfl, rfl, Nat.le_of_ble_eq_true rfl, Nat.le_of_ble_eq_true rfl⟩ dX3_isPrime_29) hS (fun x140 μ141 H locs hv hP hS => ?_)
            refine lv_icmp_ne (tgt := 37) hx hb dX3_isPrime_32 (by decide) (fun c142 => ?_) (fun c142 => ?_)
            · have hv := hv.1 c142
              refine lv_iinc (v := (v2 + 1)) (lv' := [(2, .int (v2 + 1)), (0, .ref (gL E r)), (1, .int v1)]) hx hb dX3_isPrime_37 hl (k := 2) rfl rfl (by decide) rfl (fun ls hl => (lv_goto (tgt := 14) hx hb dX3_isPrime_40 (by decide) ?_))
              exact ih_14 v1 (v2 + 1) μ141 H locs ls hP hS (lv_sub hl [1, 2, 0] rfl) hv
            · have hv := hv.2 c142
              refine lv_iconst (v := 0) hx hb dX3_isPrime_35 (by decide) ?_
              exact g_retX hx hb hrt hlk hP hS rfl hv dX3_isPrime_36
      have hv : vX3_isPrime_2B r Q (vX3_isPrime_2 r Q n_2) v1 μ := hv
      unfold vX3_isPrime_2B at hv
      refine lv_iload_n hx hb dX3_isPrime_2 rfl (lv_at hl 1 rfl) (lv_aload_n hx hb dX3_isPrime_3 rfl (lv_at hl 0 rfl) (gg_X3_15 C0 hK hP hr dX3_isPrime_4 ?_))
      refine lv_icmp_ge (tgt := 49) hx hb dX3_isPrime_7 (by decide) (fun c136 => ?_) (fun c136 => ?_)
      · have hv := hv.1 c136
        refine lv_iconst (v := 1) hx hb dX3_isPrime_49 (by decide) ?_
        exact g_retX hx hb hrt hlk hP hS rfl hv dX3_isPrime_50
      · have hv := hv.2 c136
        refine lv_iload_n hx hb dX3_isPrime_10 rfl (lv_at hl 1 rfl) (lv_iconst (v := 1) hx hb dX3_isPrime_11 (by decide) (lv_iadd hx hb dX3_isPrime_12 (lv_istore_n (lv' := [(2, .int (v1 + 1)), (0, .ref (gL E r)), (1, .int v1)]) hx hb dX3_isPrime_13 rfl hl (by decide) rfl (fun ls hl => ?_))))
        obtain ⟨nf, hv⟩ := hv
        exact h_14 nf v1 (v1 + 1) μ H locs ls hP hS (lv_sub hl [1, 2, 0] rfl) hv
  unfold vX3_isPrime at hv
  refine lv_iconst (v := 0) hx hb dX3_isPrime_0 (by decide) (lv_istore_n (lv' := [(1, .int 0), (0, .ref (gL E r))]) hx hb dX3_isPrime_1 rfl hl (by decide) rfl (fun ls hl => ?_))
  obtain ⟨nf, hv⟩ := hv
  exact h_2 nf 0 μ H locs ls hP hS (lv_sub hl [1, 0] rfl) hv
set_option maxHeartbeats 4000000 in
set_option maxRecDepth 100000 in
theorem mX3_isGround {l : Launch} {E : gE} {μ ν : gM} {τ : gJ} {Q : Int32 → gM → Prop} (hE : gLok E) {r : Nat} (hr : r < 5) (hv : vX3_isGround r μ Q) : Met l yX3_isGround (gws yX3_isGround cX3_isGround 3 (some .boolean)) (gRm 3 67) (gPc E [.ref (gL E r)] μ ν τ) (gQiX E Q ν τ) 0 0 (gA E) := by
  refine g_entr (lv := [(0, .ref (gL E r))]) (by decide +kernel) (Nat.le_of_ble_eq_true rfl) rfl (fun p e s m args below meth c ls H locs hx hb hrt hlk C0 hK hP hS hl => ?_)
  have C0 : CallFix p m c cX3_isGround 3 s args gTB RX3 := C0
  have h_11 : ∀ (n_11 : Nat) (v1 : Int32) (v2 : Int32) (μ : gM) (H : Heap) (locs : List Loc) (ls : Array Slot), va_P (gD E) vwCl (wl E μ ν τ) H → va_S (gA E) s.heap H locs → lv_has ls 3 [(0, .ref (gL E r)), (1, .int v1), (2, .int v2)] → vX3_isGround_11 r Q n_11 v1 v2 μ → W p l e (gRm 3 67) s m args below meth c H locs 0 0 (MQ below (gQiX E Q ν τ) args s 0 0 (gA E)) (F0 m 11 ls []) := by
    intro n_11
    induction n_11 with
    | zero =>
      intro v1 v2 μ H locs ls hP hS hl hv
      exact False.elim hv
    | succ n_11 ih_11 =>
      intro v1 v2 μ H locs ls hP hS hl hv
      have hv : vX3_isGround_11B r Q (vX3_isGround_11 r Q n_11) v1 v2 μ := hv
      unfold vX3_isGround_11B at hv
      refine lv_iload_n hx hb dX3_isGround_11 rfl (lv_at hl 2 rfl) (lv_aload_n hx hb dX3_isGround_12 rfl (lv_at hl 0 rfl) (gg_X3_15 C0 hK hP hr dX3_isGround_13 ?_))
      refine lv_icmp_ge (tgt := 36) hx hb dX3_isGround_16 (by decide) (fun c145 => ?_) (fun c145 => ?_)
      · have hv := hv.1 c145
        refine lv_iconst (v := 0) hx hb dX3_isGround_36 (by decide) ?_
        exact g_retX hx hb hrt hlk hP hS rfl hv dX3_isGround_37
      · have hv := hv.2 c145
        refine lv_aload_n hx hb dX3_isGround_19 rfl (lv_at hl 0 rfl) (lv_iload_n hx hb dX3_isGround_20 rfl (lv_at hl 2 rfl) ?_)
        refine g_iX (g_bV (As := [.int v2]) (rest := []) C0 hK hP kX3_stateAhead ql_X3_47 (mX3_stateAhead hE hr hv) (by have := hr; omega) (gen_row hr) rfl rfl hl.1 rfl (Nat.le_of_ble_eq_true rfl) ⟨rfl, rfl, Nat.le_of_ble_eq_true rfl, Nat.le_of_ble_eq_true rfl⟩ dX3_isGround_21) hS (fun x146 μ147 H locs hv hP hS => ?_)
        refine lv_iload_n hx hb dX3_isGround_24 rfl (lv_at hl 1 rfl) ?_
        refine lv_icmp_ne (tgt := 30) hx hb dX3_isGround_25 (by decide) (fun c148 => ?_) (fun c148 => ?_)
        · have hv := hv.1 c148
          refine lv_iinc (v := (v2 + 1)) (lv' := [(2, .int (v2 + 1)), (0, .ref (gL E r)), (1, .int v1)]) hx hb dX3_isGround_30 hl (k := 2) rfl rfl (by decide) rfl (fun ls hl => (lv_goto (tgt := 11) hx hb dX3_isGround_33 (by decide) ?_))
          exact ih_11 v1 (v2 + 1) μ147 H locs ls hP hS (lv_sub hl [1, 2, 0] rfl) hv
        · have hv := hv.2 c148
          refine lv_iconst (v := 1) hx hb dX3_isGround_28 (by decide) ?_
          exact g_retX hx hb hrt hlk hP hS rfl hv dX3_isGround_29
  unfold vX3_isGround at hv
  refine lv_iconst (v := 1) hx hb dX3_isGround_0 (by decide) (lv_aload_n hx hb dX3_isGround_1 rfl (lv_at hl 0 rfl) ?_)
  refine g_iX (g_bV (As := []) (rest := [.int 1]) C0 hK hP kX3_ballCount ql_X3_50 (mX3_ballCount hE hr hv) (by have := hr; omega) (gen_row hr) rfl rfl hl.1 rfl (Nat.le_of_ble_eq_true rfl) ⟨rfl, rfl, Nat.le_of_ble_eq_true rfl, Nat.le_of_ble_eq_true rfl⟩ dX3_isGround_2) hS (fun x143 μ144 H locs hv hP hS => ?_)
  refine lv_ishl hx hb dX3_isGround_5 (lv_iconst (v := 1) hx hb dX3_isGround_6 (by decide) (lv_isub hx hb dX3_isGround_7 (lv_istore_n (lv' := [(1, .int (((1 : Int32) <<< (x143 &&& 31)) - 1)), (0, .ref (gL E r))]) hx hb dX3_isGround_8 rfl hl (by decide) rfl (fun ls hl => (lv_iconst (v := 0) hx hb dX3_isGround_9 (by decide) (lv_istore_n (lv' := [(2, .int 0), (1, .int (((1 : Int32) <<< (x143 &&& 31)) - 1)), (0, .ref (gL E r))]) hx hb dX3_isGround_10 rfl hl (by decide) rfl (fun ls hl => ?_)))))))
  obtain ⟨nf, hv⟩ := hv
  exact h_11 nf (((1 : Int32) <<< (x143 &&& 31)) - 1) 0 μ144 H locs ls hP hS (lv_sub hl [2, 1, 0] rfl) hv
set_option maxHeartbeats 4000000 in
set_option maxRecDepth 100000 in
theorem mJ9_min_7cf53 {l : Launch} {E : gE} {μ ν : gM} {τ : gJ} {Q : Int32 → Prop} (hE : gLok E) {a0 : Int32} {a1 : Int32}  (hv : vJ9_min_7cf53 a0 a1 Q) : Met l yJ9_min_7cf53 (gws yJ9_min_7cf53 cJ9_min_7cf53 2 (some .int)) (gRm 0 0) (gPc E [.int a0, .int a1] μ ν τ) (gQiS E Q μ ν τ) 0 0 (gA E) := by
  refine g_entr (lv := [(0, .int a0), (1, .int a1)]) (by decide +kernel) (Nat.le_of_ble_eq_true rfl) rfl (fun p e s m args below meth c ls H locs hx hb hrt hlk C0 hK hP hS hl => ?_)
  have C0 : CallFix p m c cJ9_min_7cf53 2 s args gTB RJ9 := C0
  unfold vJ9_min_7cf53 at hv
  refine lv_iload_n hx hb dJ9_min_7cf53_0 rfl (lv_at hl 0 rfl) (lv_iload_n hx hb dJ9_min_7cf53_1 rfl (lv_at hl 1 rfl) ?_)
  refine lv_icmp_gt (tgt := 9) hx hb dJ9_min_7cf53_2 (by decide) (fun c152 => ?_) (fun c152 => ?_)
  · have hv := hv.1 c152
    refine lv_iload_n hx hb dJ9_min_7cf53_9 rfl (lv_at hl 1 rfl) ?_
    exact g_retS hx hb hrt hlk hP hS rfl hv dJ9_min_7cf53_10
  · have hv := hv.2 c152
    refine lv_iload_n hx hb dJ9_min_7cf53_5 rfl (lv_at hl 0 rfl) (lv_goto (tgt := 10) hx hb dJ9_min_7cf53_6 (by decide) ?_)
    exact g_retS hx hb hrt hlk hP hS rfl hv dJ9_min_7cf53_10
set_option maxHeartbeats 4000000 in
set_option maxRecDepth 100000 in
theorem mX3_leastInOrbit {l : Launch} {E : gE} {μ ν : gM} {τ : gJ} {Q : Int32 → gM → Prop} (hE : gLok E) {r : Nat} {a1 : Int32} (hr : r < 5) (hv : vX3_leastInOrbit r a1 μ Q) : Met l yX3_leastInOrbit (gws yX3_leastInOrbit cX3_leastInOrbit 5 (some .int)) (gRm 3 64) (gPc E [.ref (gL E r), .int a1] μ ν τ) (gQiX E Q ν τ) 0 0 (gA E) := by
  refine g_entr (lv := [(0, .ref (gL E r)), (1, .int a1)]) (by decide +kernel) (Nat.le_of_ble_eq_true rfl) rfl (fun p e s m args below meth c ls H locs hx hb hrt hlk C0 hK hP hS hl => ?_)
  have C0 : CallFix p m c cX3_leastInOrbit 5 s args gTB RX3 := C0
  have h_7 : ∀ (n_7 : Nat) (v2 : Int32) (v3 : Int32) (v4 : Int32) (μ : gM) (H : Heap) (locs : List Loc) (ls : Array Slot), va_P (gD E) vwCl (wl E μ ν τ) H → va_S (gA E) s.heap H locs → lv_has ls 5 [(0, .ref (gL E r)), (2, .int v2), (3, .int v3), (4, .int v4)] → vX3_leastInOrbit_7 r a1 Q n_7 v2 v3 v4 μ → W p l e (gRm 3 64) s m args below meth c H locs 0 0 (MQ below (gQiX E Q ν τ) args s 0 0 (gA E)) (F0 m 7 ls []) := by
    intro n_7
    induction n_7 with
    | zero =>
      intro v2 v3 v4 μ H locs ls hP hS hl hv
      exact False.elim hv
    | succ n_7 ih_7 =>
      intro v2 v3 v4 μ H locs ls hP hS hl hv
      have hv : vX3_leastInOrbit_7B r a1 Q (vX3_leastInOrbit_7 r a1 Q n_7) v2 v3 v4 μ := hv
      unfold vX3_leastInOrbit_7B at hv
      refine lv_iload hx hb dX3_leastInOrbit_7 (lv_at hl 3 rfl) (lv_aload_n hx hb dX3_leastInOrbit_9 rfl (lv_at hl 0 rfl) (gg_X3_15 C0 hK hP hr dX3_leastInOrbit_10 ?_))
      refine lv_icmp_ge (tgt := 34) hx hb dX3_leastInOrbit_13 (by decide) (fun c149 => ?_) (fun c149 => ?_)
      · have hv := hv.1 c149
        refine lv_iload_n hx hb dX3_leastInOrbit_34 rfl (lv_at hl 1 rfl) ?_
        exact g_retX hx hb hrt hlk hP hS rfl hv dX3_leastInOrbit_35
      · have hv := hv.2 c149
        refine lv_aload_n hx hb dX3_leastInOrbit_16 rfl (lv_at hl 0 rfl) (lv_iload_n hx hb dX3_leastInOrbit_17 rfl (lv_at hl 2 rfl) ?_)
        refine g_iX (g_bV (As := [.int v3]) (rest := []) C0 hK hP kX3_landingOf ql_X3_33 (mX3_landingOf hE hr hv) (by have := hr; omega) (gen_row hr) rfl rfl hl.1 rfl (Nat.le_of_ble_eq_true rfl) ⟨rfl, rfl, Nat.le_of_ble_eq_true rfl, Nat.le_of_ble_eq_true rfl⟩ dX3_leastInOrbit_18) hS (fun x150 μ151 H locs hv hP hS => ?_)
        refine lv_istore_n (lv' := [(3, .int x150), (0, .ref (gL E r)), (2, .int v2), (4, .int v4)]) hx hb dX3_leastInOrbit_21 rfl hl (by decide) rfl (fun ls hl => (lv_iload_n hx hb dX3_leastInOrbit_22 rfl (lv_at hl 2 rfl) (lv_iload_n hx hb dX3_leastInOrbit_23 rfl (lv_at hl 0 rfl) ?_)))
        refine g_iS (g_bS (As := [.int v2, .int x150]) (rest := []) C0 hK hP kJ9_min_7cf53 ql_X3_53 (mJ9_min_7cf53 hE hv) rfl hl.1 rfl (Nat.le_of_ble_eq_true rfl) ⟨rfl, rfl, Nat.le_of_ble_eq_true rfl, Nat.le_of_ble_eq_true rfl⟩ dX3_leastInOrbit_24) hS (fun x153 H locs hv hP hS => ?_)
        refine lv_istore_n (lv' := [(2, .int x153), (3, .int x150), (0, .ref (gL E r)), (4, .int v4)]) hx hb dX3_leastInOrbit_27 rfl hl (by decide) rfl (fun ls hl => (lv_iinc (v := (v4 + 1)) (lv' := [(4, .int (v4 + 1)), (2, .int x153), (3, .int x150), (0, .ref (gL E r))]) hx hb dX3_leastInOrbit_28 hl (k := 3) rfl rfl (by decide) rfl (fun ls hl => (lv_goto (tgt := 7) hx hb dX3_leastInOrbit_31 (by decide) ?_))))
        exact ih_7 x153 x150 (v4 + 1) μ151 H locs ls hP hS (lv_sub hl [3, 1, 2, 0] rfl) hv
  unfold vX3_leastInOrbit at hv
  refine lv_iload_n hx hb dX3_leastInOrbit_0 rfl (lv_at hl 1 rfl) (lv_istore_n (lv' := [(2, .int a1), (0, .ref (gL E r)), (1, .int a1)]) hx hb dX3_leastInOrbit_1 rfl hl (by decide) rfl (fun ls hl => (lv_iload_n hx hb dX3_leastInOrbit_2 rfl (lv_at hl 2 rfl) (lv_istore_n (lv' := [(3, .int a1), (2, .int a1), (0, .ref (gL E r)), (1, .int a1)]) hx hb dX3_leastInOrbit_3 rfl hl (by decide) rfl (fun ls hl => (lv_iconst (v := 0) hx hb dX3_leastInOrbit_4 (by decide) (lv_istore (lv' := [(4, .int 0), (3, .int a1), (2, .int a1), (0, .ref (gL E r)), (1, .int a1)]) hx hb dX3_leastInOrbit_5 hl (by decide) rfl (fun ls hl => ?_))))))))
  obtain ⟨nf, hv⟩ := hv
  exact h_7 nf a1 a1 0 μ H locs ls hP hS (lv_sub hl [3, 2, 1, 0] rfl) hv
set_option maxHeartbeats 4000000 in
set_option maxRecDepth 100000 in
theorem mX3_orbitsBelow {l : Launch} {E : gE} {μ ν : gM} {τ : gJ} {Q : Int32 → gM → Prop} (hE : gLok E) {r : Nat} {a1 : Int32} (hr : r < 5) (hv : vX3_orbitsBelow r a1 μ Q) : Met l yX3_orbitsBelow (gws yX3_orbitsBelow cX3_orbitsBelow 4 (some .int)) (gRm 4 88) (gPc E [.ref (gL E r), .int a1] μ ν τ) (gQiX E Q ν τ) 0 0 (gA E) := by
  refine g_entr (lv := [(0, .ref (gL E r)), (1, .int a1)]) (by decide +kernel) (Nat.le_of_ble_eq_true rfl) rfl (fun p e s m args below meth c ls H locs hx hb hrt hlk C0 hK hP hS hl => ?_)
  have C0 : CallFix p m c cX3_orbitsBelow 4 s args gTB RX3 := C0
  have h_4 : ∀ (n_4 : Nat) (v2 : Int32) (v3 : Int32) (μ : gM) (H : Heap) (locs : List Loc) (ls : Array Slot), va_P (gD E) vwCl (wl E μ ν τ) H → va_S (gA E) s.heap H locs → lv_has ls 4 [(0, .ref (gL E r)), (1, .int a1), (2, .int v2), (3, .int v3)] → vX3_orbitsBelow_4 r a1 Q n_4 v2 v3 μ → W p l e (gRm 4 88) s m args below meth c H locs 0 0 (MQ below (gQiX E Q ν τ) args s 0 0 (gA E)) (F0 m 4 ls []) := by
    intro n_4
    induction n_4 with
    | zero =>
      intro v2 v3 μ H locs ls hP hS hl hv
      exact False.elim hv
    | succ n_4 ih_4 =>
      intro v2 v3 μ H locs ls hP hS hl hv
      have hv : vX3_orbitsBelow_4B r a1 Q (vX3_orbitsBelow_4 r a1 Q n_4) v2 v3 μ := hv
      unfold vX3_orbitsBelow_4B at hv
      refine lv_iload_n hx hb dX3_orbitsBelow_4 rfl (lv_at hl 3 rfl) (lv_iload_n hx hb dX3_orbitsBelow_5 rfl (lv_at hl 1 rfl) ?_)
      refine lv_icmp_ge (tgt := 27) hx hb dX3_orbitsBelow_6 (by decide) (fun c154 => ?_) (fun c154 => ?_)
      · have hv := hv.1 c154
        refine lv_iload_n hx hb dX3_orbitsBelow_27 rfl (lv_at hl 2 rfl) ?_
        exact g_retX hx hb hrt hlk hP hS rfl hv dX3_orbitsBelow_28
      · have hv := hv.2 c154
        refine lv_aload_n hx hb dX3_orbitsBelow_9 rfl (lv_at hl 0 rfl) (lv_iload_n hx hb dX3_orbitsBelow_10 rfl (lv_at hl 3 rfl) ?_)
        refine g_iX (g_bV (As := [.int v3]) (rest := []) C0 hK hP kX3_leastInOrbit ql_X3_56 (mX3_leastInOrbit hE hr hv) (by have := hr; omega) (gen_row hr) rfl rfl hl.1 rfl (Nat.le_of_ble_eq_true rfl) ⟨rfl, rfl, Nat.le_of_ble_eq_true rfl, Nat.le_of_ble_eq_true rfl⟩ dX3_orbitsBelow_11) hS (fun x155 μ156 H locs hv hP hS => ?_)
        refine lv_iload_n hx hb dX3_orbitsBelow_14 rfl (lv_at hl 3 rfl) ?_
        refine lv_icmp_ne (tgt := 21) hx hb dX3_orbitsBelow_15 (by decide) (fun c157 => ?_) (fun c157 => ?_)
        · have hv := hv.1 c157
          refine lv_iinc (v := (v3 + 1)) (lv' := [(3, .int (v3 + 1)), (0, .ref (gL E r)), (1, .int a1), (2, .int v2)]) hx hb dX3_orbitsBelow_21 hl (k := 3) rfl rfl (by decide) rfl (fun ls hl => (lv_goto (tgt := 4) hx hb dX3_orbitsBelow_24 (by decide) ?_))
          exact ih_4 v2 (v3 + 1) μ156 H locs ls hP hS (lv_sub hl [1, 2, 3, 0] rfl) hv
        · have hv := hv.2 c157
          refine lv_iinc (v := (v2 + 1)) (lv' := [(2, .int (v2 + 1)), (0, .ref (gL E r)), (1, .int a1), (3, .int v3)]) hx hb dX3_orbitsBelow_18 hl (k := 2) rfl rfl (by decide) rfl (fun ls hl => (lv_iinc (v := (v3 + 1)) (lv' := [(3, .int (v3 + 1)), (2, .int (v2 + 1)), (0, .ref (gL E r)), (1, .int a1)]) hx hb dX3_orbitsBelow_21 hl (k := 3) rfl rfl (by decide) rfl (fun ls hl => (lv_goto (tgt := 4) hx hb dX3_orbitsBelow_24 (by decide) ?_))))
          exact ih_4 (v2 + 1) (v3 + 1) μ156 H locs ls hP hS (lv_sub hl [2, 3, 1, 0] rfl) hv
  unfold vX3_orbitsBelow at hv
  refine lv_iconst (v := 0) hx hb dX3_orbitsBelow_0 (by decide) (lv_istore_n (lv' := [(2, .int 0), (0, .ref (gL E r)), (1, .int a1)]) hx hb dX3_orbitsBelow_1 rfl hl (by decide) rfl (fun ls hl => (lv_iconst (v := 0) hx hb dX3_orbitsBelow_2 (by decide) (lv_istore_n (lv' := [(3, .int 0), (2, .int 0), (0, .ref (gL E r)), (1, .int a1)]) hx hb dX3_orbitsBelow_3 rfl hl (by decide) rfl (fun ls hl => ?_)))))
  obtain ⟨nf, hv⟩ := hv
  exact h_4 nf 0 0 μ H locs ls hP hS (lv_sub hl [2, 3, 1, 0] rfl) hv
set_option maxHeartbeats 4000000 in
set_option maxRecDepth 100000 in
theorem mX3_takeTurned {l : Launch} {E : gE} {μ ν : gM} {τ : gJ} {Q : gM → Prop} (hE : gLok E) {r : Nat} {r1 : Nat} {a2 : Int32} (hr : r < 5) (hr1 : r1 < 5) (hv : vX3_takeTurned r r1 a2 μ Q) : Met l yX3_takeTurned (gws yX3_takeTurned cX3_takeTurned 4 none) (gRm 2 43) (gPc E [.ref (gL E r), .ref (gL E r1), .int a2] μ ν τ) (gQvX E Q ν τ) 0 0 (gA E) := by
  refine g_entr (lv := [(0, .ref (gL E r)), (1, .ref (gL E r1)), (2, .int a2)]) (by decide +kernel) (Nat.le_of_ble_eq_true rfl) rfl (fun p e s m args below meth c ls H locs hx hb hrt hlk C0 hK hP hS hl => ?_)
  have C0 : CallFix p m c cX3_takeTurned 4 s args gTB RX3 := C0
  have h_10 : ∀ (n_10 : Nat) (v3 : Int32) (μ : gM) (H : Heap) (locs : List Loc) (ls : Array Slot), va_P (gD E) vwCl (wl E μ ν τ) H → va_S (gA E) s.heap H locs → lv_has ls 4 [(0, .ref (gL E r)), (1, .ref (gL E r1)), (2, .int a2), (3, .int v3)] → vX3_takeTurned_10 r r1 a2 Q n_10 v3 μ → W p l e (gRm 2 43) s m args below meth c H locs 0 0 (MQ below (gQvX E Q ν τ) args s 0 0 (gA E)) (F0 m 10 ls []) := by
    intro n_10
    induction n_10 with
    | zero =>
      intro v3 μ H locs ls hP hS hl hv
      exact False.elim hv
    | succ n_10 ih_10 =>
      intro v3 μ H locs ls hP hS hl hv
      have hv : vX3_takeTurned_10B r r1 a2 Q (vX3_takeTurned_10 r r1 a2 Q n_10) v3 μ := hv
      unfold vX3_takeTurned_10B at hv
      refine lv_iload_n hx hb dX3_takeTurned_10 rfl (lv_at hl 3 rfl) (lv_aload_n hx hb dX3_takeTurned_11 rfl (lv_at hl 0 rfl) (gg_X3_15 C0 hK hP hr dX3_takeTurned_12 ?_))
      refine lv_icmp_ge (tgt := 36) hx hb dX3_takeTurned_15 (by decide) (fun c158 => ?_) (fun c158 => ?_)
      · have hv := hv.1 c158
        exact g_vretX hx hb hrt hlk hP hS hv dX3_takeTurned_36
      · have hv := hv.2 c158
        refine lv_aload_n hx hb dX3_takeTurned_18 rfl (lv_at hl 0 rfl) (lv_iload_n hx hb dX3_takeTurned_19 rfl (lv_at hl 3 rfl) (lv_aload_n hx hb dX3_takeTurned_20 rfl (lv_at hl 1 rfl) (lv_iload_n hx hb dX3_takeTurned_21 rfl (lv_at hl 3 rfl) (lv_iload_n hx hb dX3_takeTurned_22 rfl (lv_at hl 2 rfl) (lv_iadd hx hb dX3_takeTurned_23 ?_)))))
        refine g_iX (g_bV (As := [.int (v3 + a2)]) (rest := [.int v3, .ref (gL E r)]) C0 hK hP kX3_heightIn ql_X3_29 (mX3_heightIn hE hr1 hv) (by have := hr1; omega) (gen_row hr1) rfl rfl hl.1 rfl (Nat.le_of_ble_eq_true rfl) ⟨rfl, rfl, Nat.le_of_ble_eq_true rfl, Nat.le_of_ble_eq_true rfl⟩ dX3_takeTurned_24) hS (fun x159 μ160 H locs hv hP hS => ?_)
        refine g_vX (g_bV (As := [.int v3, .int x159]) (rest := []) C0 hK hP kX3_setHeight ql_X3_63 (mX3_setHeight hE hr hv) (by have := hr; omega) (gen_row hr) rfl rfl hl.1 rfl (Nat.le_of_ble_eq_true rfl) ⟨rfl, rfl, Nat.le_of_ble_eq_true rfl, Nat.le_of_ble_eq_true rfl⟩ dX3_takeTurned_27) hS (fun μ162 H locs hv hP hS => ?_)
        refine lv_iinc (v := (v3 + 1)) (lv' := [(3, .int (v3 + 1)), (0, .ref (gL E r)), (1, .ref (gL E r1)), (2, .int a2)]) hx hb dX3_takeTurned_30 hl (k := 3) rfl rfl (by decide) rfl (fun ls hl => (lv_goto (tgt := 10) hx hb dX3_takeTurned_33 (by decide) ?_))
        exact ih_10 (v3 + 1) μ162 H locs ls hP hS (lv_sub hl [1, 2, 3, 0] rfl) hv
  unfold vX3_takeTurned at hv
  refine lv_aload_n hx hb dX3_takeTurned_0 rfl (lv_at hl 0 rfl) (lv_aload_n hx hb dX3_takeTurned_1 rfl (lv_at hl 1 rfl) (gg_X3_15 C0 hK hP hr1 dX3_takeTurned_2 (gp_X3_15 hE C0 hK hP hS hr dX3_takeTurned_5 (fun H locs hP hS => (lv_iconst (v := 0) hx hb dX3_takeTurned_8 (by decide) (lv_istore_n (lv' := [(3, .int 0), (0, .ref (gL E r)), (1, .ref (gL E r1)), (2, .int a2)]) hx hb dX3_takeTurned_9 rfl hl (by decide) rfl (fun ls hl => ?_)))))))
  obtain ⟨nf, hv⟩ := hv
  exact h_10 nf 0 (up2 μ r 1 (μ r1 1)) H locs ls hP hS (lv_sub hl [1, 2, 3, 0] rfl) hv
set_option maxHeartbeats 4000000 in
set_option maxRecDepth 100000 in
theorem mX3_take {l : Launch} {E : gE} {μ ν : gM} {τ : gJ} {Q : gM → Prop} (hE : gLok E) {r : Nat} {r1 : Nat} (hr : r < 5) (hr1 : r1 < 5) (hv : vX3_take r r1 μ Q) : Met l yX3_take (gws yX3_take cX3_take 2 none) (gRm 3 66) (gPc E [.ref (gL E r), .ref (gL E r1)] μ ν τ) (gQvX E Q ν τ) 0 0 (gA E) := by
  refine g_entr (lv := [(0, .ref (gL E r)), (1, .ref (gL E r1))]) (by decide +kernel) (Nat.le_of_ble_eq_true rfl) rfl (fun p e s m args below meth c ls H locs hx hb hrt hlk C0 hK hP hS hl => ?_)
  have C0 : CallFix p m c cX3_take 2 s args gTB RX3 := C0
  unfold vX3_take at hv
  refine lv_aload_n hx hb dX3_take_0 rfl (lv_at hl 0 rfl) (lv_aload_n hx hb dX3_take_1 rfl (lv_at hl 1 rfl) (lv_iconst (v := 0) hx hb dX3_take_2 (by decide) ?_))
  refine g_vX (g_bV (As := [.ref (gL E r1), .int 0]) (rest := []) C0 hK hP kX3_takeTurned ql_X3_59 (mX3_takeTurned hE hr hr1 hv) (by have := hr; omega) (gen_row hr) rfl rfl hl.1 rfl (Nat.le_of_ble_eq_true rfl) ⟨rfl, rfl, Nat.le_of_ble_eq_true rfl, Nat.le_of_ble_eq_true rfl⟩ dX3_take_3) hS (fun μ164 H locs hv hP hS => ?_)
  exact g_vretX hx hb hrt hlk hP hS hv dX3_take_6
set_option maxHeartbeats 4000000 in
set_option maxRecDepth 100000 in
theorem mX3_takeBackward {l : Launch} {E : gE} {μ ν : gM} {τ : gJ} {Q : gM → Prop} (hE : gLok E) {r : Nat} {r1 : Nat} (hr : r < 5) (hr1 : r1 < 5) (hv : vX3_takeBackward r r1 μ Q) : Met l yX3_takeBackward (gws yX3_takeBackward cX3_takeBackward 3 none) (gRm 3 64) (gPc E [.ref (gL E r), .ref (gL E r1)] μ ν τ) (gQvX E Q ν τ) 0 0 (gA E) := by
  refine g_entr (lv := [(0, .ref (gL E r)), (1, .ref (gL E r1))]) (by decide +kernel) (Nat.le_of_ble_eq_true rfl) rfl (fun p e s m args below meth c ls H locs hx hb hrt hlk C0 hK hP hS hl => ?_)
  have C0 : CallFix p m c cX3_takeBackward 3 s args gTB RX3 := C0
  have h_10 : ∀ (n_10 : Nat) (v2 : Int32) (μ : gM) (H : Heap) (locs : List Loc) (ls : Array Slot), va_P (gD E) vwCl (wl E μ ν τ) H → va_S (gA E) s.heap H locs → lv_has ls 3 [(0, .ref (gL E r)), (1, .ref (gL E r1)), (2, .int v2)] → vX3_takeBackward_10 r r1 Q n_10 v2 μ → W p l e (gRm 3 64) s m args below meth c H locs 0 0 (MQ below (gQvX E Q ν τ) args s 0 0 (gA E)) (F0 m 10 ls []) := by
    intro n_10
    induction n_10 with
    | zero =>
      intro v2 μ H locs ls hP hS hl hv
      exact False.elim hv
    | succ n_10 ih_10 =>
      intro v2 μ H locs ls hP hS hl hv
      have hv : vX3_takeBackward_10B r r1 Q (vX3_takeBackward_10 r r1 Q n_10) v2 μ := hv
      unfold vX3_takeBackward_10B at hv
      refine lv_iload_n hx hb dX3_takeBackward_10 rfl (lv_at hl 2 rfl) (lv_aload_n hx hb dX3_takeBackward_11 rfl (lv_at hl 0 rfl) (gg_X3_15 C0 hK hP hr dX3_takeBackward_12 ?_))
      refine lv_icmp_ge (tgt := 45) hx hb dX3_takeBackward_15 (by decide) (fun c165 => ?_) (fun c165 => ?_)
      · have hv := hv.1 c165
        exact g_vretX hx hb hrt hlk hP hS hv dX3_takeBackward_45
      · have hv := hv.2 c165
        refine lv_aload_n hx hb dX3_takeBackward_18 rfl (lv_at hl 0 rfl) (lv_aload_n hx hb dX3_takeBackward_19 rfl (lv_at hl 0 rfl) (gg_X3_15 C0 hK hP hr dX3_takeBackward_20 (lv_iconst (v := 1) hx hb dX3_takeBackward_23 (by decide) (lv_isub hx hb dX3_takeBackward_24 (lv_aload_n hx hb dX3_takeBackward_25 rfl (lv_at hl 1 rfl) (lv_iload_n hx hb dX3_takeBackward_26 rfl (lv_at hl 2 rfl) ?_))))))
        refine g_iX (g_bV (As := [.int v2]) (rest := [.int ((μ r 1) - 1), .ref (gL E r)]) C0 hK hP kX3_landingOf ql_X3_33 (mX3_landingOf hE hr1 hv) (by have := hr1; omega) (gen_row hr1) rfl rfl hl.1 rfl (Nat.le_of_ble_eq_true rfl) ⟨rfl, rfl, Nat.le_of_ble_eq_true rfl, Nat.le_of_ble_eq_true rfl⟩ dX3_takeBackward_27) hS (fun x166 μ167 H locs hv hP hS => ?_)
        refine lv_isub hx hb dX3_takeBackward_30 (lv_aload_n hx hb dX3_takeBackward_31 rfl (lv_at hl 1 rfl) (lv_iload_n hx hb dX3_takeBackward_32 rfl (lv_at hl 2 rfl) ?_))
        refine g_iX (g_bV (As := [.int v2]) (rest := [.int (((μ r 1) - 1) - x166), .ref (gL E r)]) C0 hK hP kX3_heightIn ql_X3_29 (mX3_heightIn hE hr1 hv) (by have := hr1; omega) (gen_row hr1) rfl rfl hl.1 rfl (Nat.le_of_ble_eq_true rfl) ⟨rfl, rfl, Nat.le_of_ble_eq_true rfl, Nat.le_of_ble_eq_true rfl⟩ dX3_takeBackward_33) hS (fun x168 μ169 H locs hv hP hS => ?_)
        refine g_vX (g_bV (As := [.int (((μ r 1) - 1) - x166), .int x168]) (rest := []) C0 hK hP kX3_setHeight ql_X3_63 (mX3_setHeight hE hr hv) (by have := hr; omega) (gen_row hr) rfl rfl hl.1 rfl (Nat.le_of_ble_eq_true rfl) ⟨rfl, rfl, Nat.le_of_ble_eq_true rfl, Nat.le_of_ble_eq_true rfl⟩ dX3_takeBackward_36) hS (fun μ171 H locs hv hP hS => ?_)
        refine lv_iinc (v := (v2 + 1)) (lv' := [(2, .int (v2 + 1)), (0, .ref (gL E r)), (1, .ref (gL E r1))]) hx hb dX3_takeBackward_39 hl (k := 2) rfl rfl (by decide) rfl (fun ls hl => (lv_goto (tgt := 10) hx hb dX3_takeBackward_42 (by decide) ?_))
        exact ih_10 (v2 + 1) μ171 H locs ls hP hS (lv_sub hl [1, 2, 0] rfl) hv
  unfold vX3_takeBackward at hv
  refine lv_aload_n hx hb dX3_takeBackward_0 rfl (lv_at hl 0 rfl) (lv_aload_n hx hb dX3_takeBackward_1 rfl (lv_at hl 1 rfl) (gg_X3_15 C0 hK hP hr1 dX3_takeBackward_2 (gp_X3_15 hE C0 hK hP hS hr dX3_takeBackward_5 (fun H locs hP hS => (lv_iconst (v := 0) hx hb dX3_takeBackward_8 (by decide) (lv_istore_n (lv' := [(2, .int 0), (0, .ref (gL E r)), (1, .ref (gL E r1))]) hx hb dX3_takeBackward_9 rfl hl (by decide) rfl (fun ls hl => ?_)))))))
  obtain ⟨nf, hv⟩ := hv
  exact h_10 nf 0 (up2 μ r 1 (μ r1 1)) H locs ls hP hS (lv_sub hl [1, 2, 0] rfl) hv
set_option maxHeartbeats 4000000 in
set_option maxRecDepth 100000 in
theorem mX3_isTurnGreater {l : Launch} {E : gE} {μ ν : gM} {τ : gJ} {Q : Int32 → gM → Prop} (hE : gLok E) {r : Nat} {a1 : Int32} {a2 : Int32} (hr : r < 5) (hv : vX3_isTurnGreater r a1 a2 μ Q) : Met l yX3_isTurnGreater (gws yX3_isTurnGreater cX3_isTurnGreater 5 (some .boolean)) (gRm 2 43) (gPc E [.ref (gL E r), .int a1, .int a2] μ ν τ) (gQiX E Q ν τ) 0 0 (gA E) := by
  refine g_entr (lv := [(0, .ref (gL E r)), (1, .int a1), (2, .int a2)]) (by decide +kernel) (Nat.le_of_ble_eq_true rfl) rfl (fun p e s m args below meth c ls H locs hx hb hrt hlk C0 hK hP hS hl => ?_)
  have C0 : CallFix p m c cX3_isTurnGreater 5 s args gTB RX3 := C0
  have h_2 : ∀ (n_2 : Nat) (v3 : Int32) (μ : gM) (H : Heap) (locs : List Loc) (ls : Array Slot), va_P (gD E) vwCl (wl E μ ν τ) H → va_S (gA E) s.heap H locs → lv_has ls 5 [(0, .ref (gL E r)), (1, .int a1), (2, .int a2), (3, .int v3)] → vX3_isTurnGreater_2 r a1 a2 Q n_2 v3 μ → W p l e (gRm 2 43) s m args below meth c H locs 0 0 (MQ below (gQiX E Q ν τ) args s 0 0 (gA E)) (F0 m 2 ls []) := by
    intro n_2
    induction n_2 with
    | zero =>
      intro v3 μ H locs ls hP hS hl hv
      exact False.elim hv
    | succ n_2 ih_2 =>
      intro v3 μ H locs ls hP hS hl hv
      have hv : vX3_isTurnGreater_2B r a1 a2 Q (vX3_isTurnGreater_2 r a1 a2 Q n_2) v3 μ := hv
      unfold vX3_isTurnGreater_2B at hv
      refine lv_iload_n hx hb dX3_isTurnGreater_2 rfl (lv_at hl 3 rfl) (lv_aload_n hx hb dX3_isTurnGreater_3 rfl (lv_at hl 0 rfl) (gg_X3_15 C0 hK hP hr dX3_isTurnGreater_4 ?_))
      refine lv_icmp_ge (tgt := 49) hx hb dX3_isTurnGreater_7 (by decide) (fun c173 => ?_) (fun c173 => ?_)
      · have hv := hv.1 c173
        refine lv_iconst (v := 0) hx hb dX3_isTurnGreater_49 (by decide) ?_
        exact g_retX hx hb hrt hlk hP hS rfl hv dX3_isTurnGreater_50
      · have hv := hv.2 c173
        refine lv_aload_n hx hb dX3_isTurnGreater_10 rfl (lv_at hl 0 rfl) (lv_iload_n hx hb dX3_isTurnGreater_11 rfl (lv_at hl 3 rfl) (lv_iload_n hx hb dX3_isTurnGreater_12 rfl (lv_at hl 1 rfl) (lv_iadd hx hb dX3_isTurnGreater_13 ?_)))
        refine g_iX (g_bV (As := [.int (v3 + a1)]) (rest := []) C0 hK hP kX3_heightIn ql_X3_29 (mX3_heightIn hE hr hv) (by have := hr; omega) (gen_row hr) rfl rfl hl.1 rfl (Nat.le_of_ble_eq_true rfl) ⟨rfl, rfl, Nat.le_of_ble_eq_true rfl, Nat.le_of_ble_eq_true rfl⟩ dX3_isTurnGreater_14) hS (fun x174 μ175 H locs hv hP hS => ?_)
        refine lv_aload_n hx hb dX3_isTurnGreater_17 rfl (lv_at hl 0 rfl) (lv_iload_n hx hb dX3_isTurnGreater_18 rfl (lv_at hl 3 rfl) (lv_iload_n hx hb dX3_isTurnGreater_19 rfl (lv_at hl 2 rfl) (lv_iadd hx hb dX3_isTurnGreater_20 ?_)))
        refine g_iX (g_bV (As := [.int (v3 + a2)]) (rest := [.int x174]) C0 hK hP kX3_heightIn ql_X3_29 (mX3_heightIn hE hr hv) (by have := hr; omega) (gen_row hr) rfl rfl hl.1 rfl (Nat.le_of_ble_eq_true rfl) ⟨rfl, rfl, Nat.le_of_ble_eq_true rfl, Nat.le_of_ble_eq_true rfl⟩ dX3_isTurnGreater_21) hS (fun x176 μ177 H locs hv hP hS => ?_)
        refine lv_isub hx hb dX3_isTurnGreater_24 (lv_istore (lv' := [(4, .int (x174 - x176)), (0, .ref (gL E r)), (1, .int a1), (2, .int a2), (3, .int v3)]) hx hb dX3_isTurnGreater_25 hl (by decide) rfl (fun ls hl => (lv_iload hx hb dX3_isTurnGreater_27 (lv_at hl 0 rfl) ?_)))
        refine lv_if_eq (tgt := 43) hx hb dX3_isTurnGreater_29 (by decide) (fun c178 => ?_) (fun c178 => ?_)
        · have hv := hv.1 c178
          refine lv_iinc (v := (v3 + 1)) (lv' := [(3, .int (v3 + 1)), (4, .int (x174 - x176)), (0, .ref (gL E r)), (1, .int a1), (2, .int a2)]) hx hb dX3_isTurnGreater_43 hl (k := 4) rfl rfl (by decide) rfl (fun ls hl => (lv_goto (tgt := 2) hx hb dX3_isTurnGreater_46 (by decide) ?_))
          exact ih_2 (v3 + 1) μ177 H locs ls hP hS (lv_sub hl [2, 3, 4, 0] rfl) hv
        · have hv := hv.2 c178
          refine lv_iload hx hb dX3_isTurnGreater_32 (lv_at hl 0 rfl) ?_
          refine lv_if_le (tgt := 41) hx hb dX3_isTurnGreater_34 (by decide) (fun c179 => ?_) (fun c179 => ?_)
          · have hv := hv.1 c179
            refine lv_iconst (v := 0) hx hb dX3_isTurnGreater_41 (by decide) ?_
            exact g_retX hx hb hrt hlk hP hS rfl hv dX3_isTurnGreater_42
          · have hv := hv.2 c179
            refine lv_iconst (v := 1) hx hb dX3_isTurnGreater_37 (by decide) (lv_goto (tgt := 42) hx hb dX3_isTurnGreater_38 (by decide) ?_)
            exact g_retX hx hb hrt hlk hP hS rfl hv dX3_isTurnGreater_42
  unfold vX3_isTurnGreater at hv
  refine lv_iconst (v := 0) hx hb dX3_isTurnGreater_0 (by decide) (lv_istore_n (lv' := [(3, .int 0), (0, .ref (gL E r)), (1, .int a1), (2, .int a2)]) hx hb dX3_isTurnGreater_1 rfl hl (by decide) rfl (fun ls hl => ?_))
  obtain ⟨nf, hv⟩ := hv
  exact h_2 nf 0 μ H locs ls hP hS (lv_sub hl [1, 2, 3, 0] rfl) hv
set_option maxHeartbeats 4000000 in
set_option maxRecDepth 100000 in
theorem mX3_greatestTurn {l : Launch} {E : gE} {μ ν : gM} {τ : gJ} {Q : Int32 → gM → Prop} (hE : gLok E) {r : Nat} (hr : r < 5) (hv : vX3_greatestTurn r μ Q) : Met l yX3_greatestTurn (gws yX3_greatestTurn cX3_greatestTurn 3 (some .int)) (gRm 3 67) (gPc E [.ref (gL E r)] μ ν τ) (gQiX E Q ν τ) 0 0 (gA E) := by
  refine g_entr (lv := [(0, .ref (gL E r))]) (by decide +kernel) (Nat.le_of_ble_eq_true rfl) rfl (fun p e s m args below meth c ls H locs hx hb hrt hlk C0 hK hP hS hl => ?_)
  have C0 : CallFix p m c cX3_greatestTurn 3 s args gTB RX3 := C0
  have h_4 : ∀ (n_4 : Nat) (v1 : Int32) (v2 : Int32) (μ : gM) (H : Heap) (locs : List Loc) (ls : Array Slot), va_P (gD E) vwCl (wl E μ ν τ) H → va_S (gA E) s.heap H locs → lv_has ls 3 [(0, .ref (gL E r)), (1, .int v1), (2, .int v2)] → vX3_greatestTurn_4 r Q n_4 v1 v2 μ → W p l e (gRm 3 67) s m args below meth c H locs 0 0 (MQ below (gQiX E Q ν τ) args s 0 0 (gA E)) (F0 m 4 ls []) := by
    intro n_4
    induction n_4 with
    | zero =>
      intro v1 v2 μ H locs ls hP hS hl hv
      exact False.elim hv
    | succ n_4 ih_4 =>
      intro v1 v2 μ H locs ls hP hS hl hv
      have hv : vX3_greatestTurn_4B r Q (vX3_greatestTurn_4 r Q n_4) v1 v2 μ := hv
      unfold vX3_greatestTurn_4B at hv
      refine lv_iload_n hx hb dX3_greatestTurn_4 rfl (lv_at hl 2 rfl) (lv_aload_n hx hb dX3_greatestTurn_5 rfl (lv_at hl 0 rfl) (gg_X3_15 C0 hK hP hr dX3_greatestTurn_6 ?_))
      refine lv_icmp_ge (tgt := 29) hx hb dX3_greatestTurn_9 (by decide) (fun c172 => ?_) (fun c172 => ?_)
      · have hv := hv.1 c172
        refine lv_iload_n hx hb dX3_greatestTurn_29 rfl (lv_at hl 1 rfl) ?_
        exact g_retX hx hb hrt hlk hP hS rfl hv dX3_greatestTurn_30
      · have hv := hv.2 c172
        refine lv_aload_n hx hb dX3_greatestTurn_12 rfl (lv_at hl 0 rfl) (lv_iload_n hx hb dX3_greatestTurn_13 rfl (lv_at hl 2 rfl) (lv_iload_n hx hb dX3_greatestTurn_14 rfl (lv_at hl 1 rfl) ?_))
        refine g_iX (g_bV (As := [.int v2, .int v1]) (rest := []) C0 hK hP kX3_isTurnGreater ql_X3_67 (mX3_isTurnGreater hE hr hv) (by have := hr; omega) (gen_row hr) rfl rfl hl.1 rfl (Nat.le_of_ble_eq_true rfl) ⟨rfl, rfl, Nat.le_of_ble_eq_true rfl, Nat.le_of_ble_eq_true rfl⟩ dX3_greatestTurn_15) hS (fun x180 μ181 H locs hv hP hS => ?_)
        refine lv_if_eq (tgt := 23) hx hb dX3_greatestTurn_18 (by decide) (fun c182 => ?_) (fun c182 => ?_)
        · have hv := hv.1 c182
          refine lv_iinc (v := (v2 + 1)) (lv' := [(2, .int (v2 + 1)), (0, .ref (gL E r)), (1, .int v1)]) hx hb dX3_greatestTurn_23 hl (k := 2) rfl rfl (by decide) rfl (fun ls hl => (lv_goto (tgt := 4) hx hb dX3_greatestTurn_26 (by decide) ?_))
          exact ih_4 v1 (v2 + 1) μ181 H locs ls hP hS (lv_sub hl [1, 2, 0] rfl) hv
        · have hv := hv.2 c182
          refine lv_iload_n hx hb dX3_greatestTurn_21 rfl (lv_at hl 2 rfl) (lv_istore_n (lv' := [(1, .int v2), (0, .ref (gL E r)), (2, .int v2)]) hx hb dX3_greatestTurn_22 rfl hl (by decide) rfl (fun ls hl => (lv_iinc (v := (v2 + 1)) (lv' := [(2, .int (v2 + 1)), (1, .int v2), (0, .ref (gL E r))]) hx hb dX3_greatestTurn_23 hl (k := 2) rfl rfl (by decide) rfl (fun ls hl => (lv_goto (tgt := 4) hx hb dX3_greatestTurn_26 (by decide) ?_)))))
          exact ih_4 v2 (v2 + 1) μ181 H locs ls hP hS (lv_sub hl [2, 1, 0] rfl) hv
  unfold vX3_greatestTurn at hv
  refine lv_iconst (v := 0) hx hb dX3_greatestTurn_0 (by decide) (lv_istore_n (lv' := [(1, .int 0), (0, .ref (gL E r))]) hx hb dX3_greatestTurn_1 rfl hl (by decide) rfl (fun ls hl => (lv_iconst (v := 1) hx hb dX3_greatestTurn_2 (by decide) (lv_istore_n (lv' := [(2, .int 1), (1, .int 0), (0, .ref (gL E r))]) hx hb dX3_greatestTurn_3 rfl hl (by decide) rfl (fun ls hl => ?_)))))
  obtain ⟨nf, hv⟩ := hv
  exact h_4 nf 0 1 μ H locs ls hP hS (lv_sub hl [2, 1, 0] rfl) hv
set_option maxHeartbeats 4000000 in
set_option maxRecDepth 100000 in
theorem mX3_isTurned {l : Launch} {E : gE} {μ ν : gM} {τ : gJ} {Q : Int32 → gM → Prop} (hE : gLok E) {r : Nat} {r1 : Nat} (hr : r < 5) (hr1 : r1 < 5) (hv : vX3_isTurned r r1 μ Q) : Met l yX3_isTurned (gws yX3_isTurned cX3_isTurned 5 (some .boolean)) (gRm 4 89) (gPc E [.ref (gL E r), .ref (gL E r1)] μ ν τ) (gQiX E Q ν τ) 0 0 (gA E) := by
  refine g_entr (lv := [(0, .ref (gL E r)), (1, .ref (gL E r1))]) (by decide +kernel) (Nat.le_of_ble_eq_true rfl) rfl (fun p e s m args below meth c ls H locs hx hb hrt hlk C0 hK hP hS hl => ?_)
  have C0 : CallFix p m c cX3_isTurned 5 s args gTB RX3 := C0
  have h_26 : ∀ (n_26 : Nat) (v2 : Int32) (v3 : Int32) (v4 : Int32) (μ : gM) (H : Heap) (locs : List Loc) (ls : Array Slot), va_P (gD E) vwCl (wl E μ ν τ) H → va_S (gA E) s.heap H locs → lv_has ls 5 [(0, .ref (gL E r)), (1, .ref (gL E r1)), (2, .int v2), (3, .int v3), (4, .int v4)] → vX3_isTurned_26 r r1 Q n_26 v2 v3 v4 μ → W p l e (gRm 4 89) s m args below meth c H locs 0 0 (MQ below (gQiX E Q ν τ) args s 0 0 (gA E)) (F0 m 26 ls []) := by
    intro n_26
    induction n_26 with
    | zero =>
      intro v2 v3 v4 μ H locs ls hP hS hl hv
      exact False.elim hv
    | succ n_26 ih_26 =>
      intro v2 v3 v4 μ H locs ls hP hS hl hv
      have hv : vX3_isTurned_26B r r1 Q (vX3_isTurned_26 r r1 Q n_26) v2 v3 v4 μ := hv
      unfold vX3_isTurned_26B at hv
      refine lv_iload hx hb dX3_isTurned_26 (lv_at hl 4 rfl) (lv_aload_n hx hb dX3_isTurned_28 rfl (lv_at hl 0 rfl) (gg_X3_15 C0 hK hP hr dX3_isTurned_29 ?_))
      refine lv_icmp_ge (tgt := 62) hx hb dX3_isTurned_32 (by decide) (fun c188 => ?_) (fun c188 => ?_)
      · have hv := hv.1 c188
        refine lv_iconst (v := 1) hx hb dX3_isTurned_62 (by decide) ?_
        exact g_retX hx hb hrt hlk hP hS rfl hv dX3_isTurned_63
      · have hv := hv.2 c188
        refine lv_aload_n hx hb dX3_isTurned_35 rfl (lv_at hl 0 rfl) (lv_iload hx hb dX3_isTurned_36 (lv_at hl 4 rfl) (lv_iload_n hx hb dX3_isTurned_38 rfl (lv_at hl 2 rfl) (lv_iadd hx hb dX3_isTurned_39 ?_)))
        refine g_iX (g_bV (As := [.int (v4 + v2)]) (rest := []) C0 hK hP kX3_heightIn ql_X3_29 (mX3_heightIn hE hr hv) (by have := hr; omega) (gen_row hr) rfl rfl hl.1 rfl (Nat.le_of_ble_eq_true rfl) ⟨rfl, rfl, Nat.le_of_ble_eq_true rfl, Nat.le_of_ble_eq_true rfl⟩ dX3_isTurned_40) hS (fun x189 μ190 H locs hv hP hS => ?_)
        refine lv_aload_n hx hb dX3_isTurned_43 rfl (lv_at hl 1 rfl) (lv_iload hx hb dX3_isTurned_44 (lv_at hl 4 rfl) (lv_iload_n hx hb dX3_isTurned_46 rfl (lv_at hl 3 rfl) (lv_iadd hx hb dX3_isTurned_47 ?_)))
        refine g_iX (g_bV (As := [.int (v4 + v3)]) (rest := [.int x189]) C0 hK hP kX3_heightIn ql_X3_29 (mX3_heightIn hE hr1 hv) (by have := hr1; omega) (gen_row hr1) rfl rfl hl.1 rfl (Nat.le_of_ble_eq_true rfl) ⟨rfl, rfl, Nat.le_of_ble_eq_true rfl, Nat.le_of_ble_eq_true rfl⟩ dX3_isTurned_48) hS (fun x191 μ192 H locs hv hP hS => ?_)
        refine lv_icmp_eq (tgt := 56) hx hb dX3_isTurned_51 (by decide) (fun c193 => ?_) (fun c193 => ?_)
        · have hv := hv.1 c193
          refine lv_iinc (v := (v4 + 1)) (lv' := [(4, .int (v4 + 1)), (0, .ref (gL E r)), (1, .ref (gL E r1)), (2, .int v2), (3, .int v3)]) hx hb dX3_isTurned_56 hl (k := 4) rfl rfl (by decide) rfl (fun ls hl => (lv_goto (tgt := 26) hx hb dX3_isTurned_59 (by decide) ?_))
          exact ih_26 v2 v3 (v4 + 1) μ192 H locs ls hP hS (lv_sub hl [1, 2, 3, 4, 0] rfl) hv
        · have hv := hv.2 c193
          refine lv_iconst (v := 0) hx hb dX3_isTurned_54 (by decide) ?_
          exact g_retX hx hb hrt hlk hP hS rfl hv dX3_isTurned_55
  unfold vX3_isTurned at hv
  refine lv_aload_n hx hb dX3_isTurned_0 rfl (lv_at hl 0 rfl) (gg_X3_15 C0 hK hP hr dX3_isTurned_1 (lv_aload_n hx hb dX3_isTurned_4 rfl (lv_at hl 1 rfl) (gg_X3_15 C0 hK hP hr1 dX3_isTurned_5 ?_)))
  refine lv_icmp_eq (tgt := 13) hx hb dX3_isTurned_8 (by decide) (fun c183 => ?_) (fun c183 => ?_)
  · have hv := hv.1 c183
    refine lv_aload_n hx hb dX3_isTurned_13 rfl (lv_at hl 0 rfl) ?_
    refine g_iX (g_bV (As := []) (rest := []) C0 hK hP kX3_greatestTurn ql_X3_71 (mX3_greatestTurn hE hr hv) (by have := hr; omega) (gen_row hr) rfl rfl hl.1 rfl (Nat.le_of_ble_eq_true rfl) ⟨rfl, rfl, Nat.le_of_ble_eq_true rfl, Nat.le_of_ble_eq_true rfl⟩ dX3_isTurned_14) hS (fun x184 μ185 H locs hv hP hS => ?_)
    refine lv_istore_n (lv' := [(2, .int x184), (0, .ref (gL E r)), (1, .ref (gL E r1))]) hx hb dX3_isTurned_17 rfl hl (by decide) rfl (fun ls hl => (lv_aload_n hx hb dX3_isTurned_18 rfl (lv_at hl 2 rfl) ?_))
    refine g_iX (g_bV (As := []) (rest := []) C0 hK hP kX3_greatestTurn ql_X3_71 (mX3_greatestTurn hE hr1 hv) (by have := hr1; omega) (gen_row hr1) rfl rfl hl.1 rfl (Nat.le_of_ble_eq_true rfl) ⟨rfl, rfl, Nat.le_of_ble_eq_true rfl, Nat.le_of_ble_eq_true rfl⟩ dX3_isTurned_19) hS (fun x186 μ187 H locs hv hP hS => ?_)
    refine lv_istore_n (lv' := [(3, .int x186), (2, .int x184), (0, .ref (gL E r)), (1, .ref (gL E r1))]) hx hb dX3_isTurned_22 rfl hl (by decide) rfl (fun ls hl => (lv_iconst (v := 0) hx hb dX3_isTurned_23 (by decide) (lv_istore (lv' := [(4, .int 0), (3, .int x186), (2, .int x184), (0, .ref (gL E r)), (1, .ref (gL E r1))]) hx hb dX3_isTurned_24 hl (by decide) rfl (fun ls hl => ?_))))
    obtain ⟨nf, hv⟩ := hv
    exact h_26 nf x184 x186 0 μ187 H locs ls hP hS (lv_sub hl [3, 4, 2, 1, 0] rfl) hv
  · have hv := hv.2 c183
    refine lv_iconst (v := 0) hx hb dX3_isTurned_11 (by decide) ?_
    exact g_retX hx hb hrt hlk hP hS rfl hv dX3_isTurned_12
set_option maxHeartbeats 4000000 in
set_option maxRecDepth 100000 in
theorem mX4_isThere {l : Launch} {E : gE} {μ ν : gM} {τ : gJ} {Q : Int32 → gM → Prop} (hE : gLok E) {r : Nat} (hr : r < 4) (hv : vX4_isThere r μ Q) : Met l yX4_isThere (gws yX4_isThere cX4_isThere 1 (some .boolean)) (gRm 0 0) (gPc E [.ref (gL E (10 + r))] μ ν τ) (gQiX E Q ν τ) 0 0 (gA E) := by
  refine g_entr (lv := [(0, .ref (gL E (10 + r)))]) (by decide +kernel) (Nat.le_of_ble_eq_true rfl) rfl (fun p e s m args below meth c ls H locs hx hb hrt hlk C0 hK hP hS hl => ?_)
  have C0 : CallFix p m c cX4_isThere 1 s args gTB RX4 := C0
  unfold vX4_isThere at hv
  refine lv_aload_n hx hb dX4_isThere_0 rfl (lv_at hl 0 rfl) (gg_X4_15 C0 hK hP hr dX4_isThere_1 (lv_iconst (v := (-1)) hx hb dX4_isThere_4 (by decide) ?_))
  refine lv_icmp_eq (tgt := 12) hx hb dX4_isThere_5 (by decide) (fun c194 => ?_) (fun c194 => ?_)
  · have hv := hv.1 c194
    refine lv_iconst (v := 0) hx hb dX4_isThere_12 (by decide) ?_
    exact g_retX hx hb hrt hlk hP hS rfl hv dX4_isThere_13
  · have hv := hv.2 c194
    refine lv_iconst (v := 1) hx hb dX4_isThere_8 (by decide) (lv_goto (tgt := 13) hx hb dX4_isThere_9 (by decide) ?_)
    exact g_retX hx hb hrt hlk hP hS rfl hv dX4_isThere_13
set_option maxHeartbeats 4000000 in
set_option maxRecDepth 100000 in
theorem mX4_renew {l : Launch} {E : gE} {μ ν : gM} {τ : gJ} {Q : gM → Prop} (hE : gLok E) {r : Nat} {a1 : Int32} {a2 : Int32} (hr : r < 4) (hv : vX4_renew r a1 a2 μ Q) : Met l yX4_renew (gws yX4_renew cX4_renew 3 none) (gRm 1 23) (gPc E [.ref (gL E (10 + r)), .int a1, .int a2] μ ν τ) (gQvX E Q ν τ) 0 0 (gA E) := by
  refine g_entr (lv := [(0, .ref (gL E (10 + r))), (1, .int a1), (2, .int a2)]) (by decide +kernel) (Nat.le_of_ble_eq_true rfl) rfl (fun p e s m args below meth c ls H locs hx hb hrt hlk C0 hK hP hS hl => ?_)
  have C0 : CallFix p m c cX4_renew 3 s args gTB RX4 := C0
  unfold vX4_renew at hv
  refine lv_aload_n hx hb dX4_renew_0 rfl (lv_at hl 0 rfl) (gg_X4_9 C0 hK hP hr dX4_renew_1 (lv_iconst (v := 0) hx hb dX4_renew_4 (by decide) ?_))
  refine g_vX (g_bS (As := [.ref (gL E (14 + r)), .int 0]) (rest := []) C0 hK hP kJ7_fill_53178 ql_X4_19 (mJ7_fill_53178 hE (by have := hr; omega) (fun _ => gen_cells hr) hv) rfl hl.1 rfl (Nat.le_of_ble_eq_true rfl) ⟨rfl, rfl, Nat.le_of_ble_eq_true rfl, Nat.le_of_ble_eq_true rfl⟩ dX4_renew_5) hS (fun μ196 H locs hv hP hS => ?_)
  refine lv_aload_n hx hb dX4_renew_8 rfl (lv_at hl 0 rfl) (lv_iload_n hx hb dX4_renew_9 rfl (lv_at hl 1 rfl) (gp_X4_25 hE C0 hK hP hS hr dX4_renew_10 (fun H locs hP hS => (lv_aload_n hx hb dX4_renew_13 rfl (lv_at hl 0 rfl) (lv_iload_n hx hb dX4_renew_14 rfl (lv_at hl 2 rfl) (gp_X4_15 hE C0 hK hP hS hr dX4_renew_15 (fun H locs hP hS => ?_)))))))
  exact g_vretX hx hb hrt hlk hP hS hv dX4_renew_18
set_option maxHeartbeats 4000000 in
set_option maxRecDepth 100000 in
theorem mX4_clear {l : Launch} {E : gE} {μ ν : gM} {τ : gJ} {Q : Int32 → gM → Prop} (hE : gLok E) {r : Nat} (hr : r < 4) (hv : vX4_clear r μ Q) : Met l yX4_clear (gws yX4_clear cX4_clear 2 (some .boolean)) (gRm 1 20) (gPc E [.ref (gL E (10 + r))] μ ν τ) (gQiX E Q ν τ) 0 0 (gA E) := by
  refine g_entr (lv := [(0, .ref (gL E (10 + r)))]) (by decide +kernel) (Nat.le_of_ble_eq_true rfl) rfl (fun p e s m args below meth c ls H locs hx hb hrt hlk C0 hK hP hS hl => ?_)
  have C0 : CallFix p m c cX4_clear 2 s args gTB RX4 := C0
  unfold vX4_clear at hv
  refine lv_aload_n hx hb dX4_clear_0 rfl (lv_at hl 0 rfl) ?_
  refine g_iX (g_bV (As := []) (rest := []) C0 hK hP kX4_isThere ql_X4_28 (mX4_isThere hE hr hv) (by have := hr; omega) (gen_sheet hr) rfl rfl hl.1 rfl (Nat.le_of_ble_eq_true rfl) ⟨rfl, rfl, Nat.le_of_ble_eq_true rfl, Nat.le_of_ble_eq_true rfl⟩ dX4_clear_1) hS (fun x197 μ198 H locs hv hP hS => ?_)
  refine lv_istore_n (lv' := [(1, .int x197), (0, .ref (gL E (10 + r)))]) hx hb dX4_clear_4 rfl hl (by decide) rfl (fun ls hl => (lv_aload_n hx hb dX4_clear_5 rfl (lv_at hl 1 rfl) (lv_iconst (v := (-1)) hx hb dX4_clear_6 (by decide) (gp_X4_15 hE C0 hK hP hS hr dX4_clear_7 (fun H locs hP hS => (lv_iload_n hx hb dX4_clear_10 rfl (lv_at hl 0 rfl) ?_))))))
  exact g_retX hx hb hrt hlk hP hS hv.1 hv.2 dX4_clear_11
set_option maxHeartbeats 4000000 in
set_option maxRecDepth 100000 in
theorem mX4_holds {l : Launch} {E : gE} {μ ν : gM} {τ : gJ} {Q : Int32 → gM → Prop} (hE : gLok E) {r : Nat} {a1 : Int32} {a2 : Int32} (hr : r < 4) (hv : vX4_holds r a1 a2 μ Q) : Met l yX4_holds (gws yX4_holds cX4_holds 3 (some .boolean)) (gRm 0 0) (gPc E [.ref (gL E (10 + r)), .int a1, .int a2] μ ν τ) (gQiX E Q ν τ) 0 0 (gA E) := by
  refine g_entr (lv := [(0, .ref (gL E (10 + r))), (1, .int a1), (2, .int a2)]) (by decide +kernel) (Nat.le_of_ble_eq_true rfl) rfl (fun p e s m args below meth c ls H locs hx hb hrt hlk C0 hK hP hS hl => ?_)
  have C0 : CallFix p m c cX4_holds 3 s args gTB RX4 := C0
  unfold vX4_holds at hv
  refine lv_iload_n hx hb dX4_holds_0 rfl (lv_at hl 1 rfl) ?_
  refine lv_if_lt (tgt := 26) hx hb dX4_holds_1 (by decide) (fun c199 => ?_) (fun c199 => ?_)
  · have hv := hv.1 c199
    refine lv_iconst (v := 0) hx hb dX4_holds_26 (by decide) ?_
    exact g_retX hx hb hrt hlk hP hS rfl hv dX4_holds_27
  · have hv := hv.2 c199
    refine lv_iload_n hx hb dX4_holds_4 rfl (lv_at hl 1 rfl) (lv_aload_n hx hb dX4_holds_5 rfl (lv_at hl 0 rfl) (gg_X4_15 C0 hK hP hr dX4_holds_6 ?_))
    refine lv_icmp_gt (tgt := 26) hx hb dX4_holds_9 (by decide) (fun c200 => ?_) (fun c200 => ?_)
    · have hv := hv.1 c200
      refine lv_iconst (v := 0) hx hb dX4_holds_26 (by decide) ?_
      exact g_retX hx hb hrt hlk hP hS rfl hv dX4_holds_27
    · have hv := hv.2 c200
      refine lv_iload_n hx hb dX4_holds_12 rfl (lv_at hl 2 rfl) (lv_aload_n hx hb dX4_holds_13 rfl (lv_at hl 0 rfl) (gg_X4_15 C0 hK hP hr dX4_holds_14 (lv_iload_n hx hb dX4_holds_17 rfl (lv_at hl 1 rfl) (lv_isub hx hb dX4_holds_18 ?_))))
      refine lv_icmp_gt (tgt := 26) hx hb dX4_holds_19 (by decide) (fun c201 => ?_) (fun c201 => ?_)
      · have hv := hv.1 c201
        refine lv_iconst (v := 0) hx hb dX4_holds_26 (by decide) ?_
        exact g_retX hx hb hrt hlk hP hS rfl hv dX4_holds_27
      · have hv := hv.2 c201
        refine lv_iconst (v := 1) hx hb dX4_holds_22 (by decide) (lv_goto (tgt := 27) hx hb dX4_holds_23 (by decide) ?_)
        exact g_retX hx hb hrt hlk hP hS rfl hv dX4_holds_27
set_option maxHeartbeats 4000000 in
set_option maxRecDepth 100000 in
theorem mX4_faultOfCells {l : Launch} {E : gE} {μ ν : gM} {τ : gJ} {Q : Int32 → gM → Prop} (hE : gLok E) {r : Nat} {a1 : Int32} {a2 : Int32} {a3 : Int32} (hr : r < 4) (hv : vX4_faultOfCells r a1 a2 a3 μ Q) : Met l yX4_faultOfCells (gws yX4_faultOfCells cX4_faultOfCells 4 (some .int)) (gRm 1 22) (gPc E [.ref (gL E (10 + r)), .int a1, .int a2, .int a3] μ ν τ) (gQiX E Q ν τ) 0 0 (gA E) := by
  refine g_entr (lv := [(0, .ref (gL E (10 + r))), (1, .int a1), (2, .int a2), (3, .int a3)]) (by decide +kernel) (Nat.le_of_ble_eq_true rfl) rfl (fun p e s m args below meth c ls H locs hx hb hrt hlk C0 hK hP hS hl => ?_)
  have C0 : CallFix p m c cX4_faultOfCells 4 s args gTB RX4 := C0
  unfold vX4_faultOfCells at hv
  refine lv_aload_n hx hb dX4_faultOfCells_0 rfl (lv_at hl 0 rfl) ?_
  refine g_iX (g_bV (As := []) (rest := []) C0 hK hP kX4_isThere ql_X4_28 (mX4_isThere hE hr hv) (by have := hr; omega) (gen_sheet hr) rfl rfl hl.1 rfl (Nat.le_of_ble_eq_true rfl) ⟨rfl, rfl, Nat.le_of_ble_eq_true rfl, Nat.le_of_ble_eq_true rfl⟩ dX4_faultOfCells_1) hS (fun x202 μ203 H locs hv hP hS => ?_)
  refine lv_if_ne (tgt := 9) hx hb dX4_faultOfCells_4 (by decide) (fun c204 => ?_) (fun c204 => ?_)
  · have hv := hv.1 c204
    refine lv_aload_n hx hb dX4_faultOfCells_9 rfl (lv_at hl 0 rfl) (gg_X4_25 C0 hK hP hr dX4_faultOfCells_10 (lv_iload_n hx hb dX4_faultOfCells_13 rfl (lv_at hl 1 rfl) ?_))
    refine lv_icmp_eq (tgt := 19) hx hb dX4_faultOfCells_14 (by decide) (fun c205 => ?_) (fun c205 => ?_)
    · have hv := hv.1 c205
      refine lv_iload_n hx hb dX4_faultOfCells_19 rfl (lv_at hl 3 rfl) ?_
      refine lv_if_ge (tgt := 25) hx hb dX4_faultOfCells_20 (by decide) (fun c206 => ?_) (fun c206 => ?_)
      · have hv := hv.1 c206
        refine lv_aload_n hx hb dX4_faultOfCells_25 rfl (lv_at hl 0 rfl) (lv_iload_n hx hb dX4_faultOfCells_26 rfl (lv_at hl 2 rfl) (lv_iload_n hx hb dX4_faultOfCells_27 rfl (lv_at hl 3 rfl) ?_))
        refine g_iX (g_bV (As := [.int a2, .int a3]) (rest := []) C0 hK hP kX4_holds ql_X4_32 (mX4_holds hE hr hv) (by have := hr; omega) (gen_sheet hr) rfl rfl hl.1 rfl (Nat.le_of_ble_eq_true rfl) ⟨rfl, rfl, Nat.le_of_ble_eq_true rfl, Nat.le_of_ble_eq_true rfl⟩ dX4_faultOfCells_28) hS (fun x207 μ208 H locs hv hP hS => ?_)
        refine lv_if_eq (tgt := 38) hx hb dX4_faultOfCells_31 (by decide) (fun c209 => ?_) (fun c209 => ?_)
        · have hv := hv.1 c209
          refine lv_iconst (v := 3) hx hb dX4_faultOfCells_38 (by decide) ?_
          exact g_retX hx hb hrt hlk hP hS rfl hv dX4_faultOfCells_39
        · have hv := hv.2 c209
          refine lv_iconst (v := 0) hx hb dX4_faultOfCells_34 (by decide) (lv_goto (tgt := 39) hx hb dX4_faultOfCells_35 (by decide) ?_)
          exact g_retX hx hb hrt hlk hP hS rfl hv dX4_faultOfCells_39
      · have hv := hv.2 c206
        refine lv_iconst (v := 4) hx hb dX4_faultOfCells_23 (by decide) ?_
        exact g_retX hx hb hrt hlk hP hS rfl hv dX4_faultOfCells_24
    · have hv := hv.2 c205
      refine lv_iconst (v := 2) hx hb dX4_faultOfCells_17 (by decide) ?_
      exact g_retX hx hb hrt hlk hP hS rfl hv dX4_faultOfCells_18
  · have hv := hv.2 c204
    refine lv_iconst (v := 1) hx hb dX4_faultOfCells_7 (by decide) ?_
    exact g_retX hx hb hrt hlk hP hS rfl hv dX4_faultOfCells_8
set_option maxHeartbeats 4000000 in
set_option maxRecDepth 100000 in
theorem mX4_read {l : Launch} {E : gE} {μ ν : gM} {τ : gJ} {Q : Int32 → gM → Prop} (hE : gLok E) {r : Nat} {a1 : Int32} (hr : r < 4) (hv : vX4_read r a1 μ Q) : Met l yX4_read (gws yX4_read cX4_read 2 (some .int)) (gRm 1 22) (gPc E [.ref (gL E (10 + r)), .int a1] μ ν τ) (gQiX E Q ν τ) 0 0 (gA E) := by
  refine g_entr (lv := [(0, .ref (gL E (10 + r))), (1, .int a1)]) (by decide +kernel) (Nat.le_of_ble_eq_true rfl) rfl (fun p e s m args below meth c ls H locs hx hb hrt hlk C0 hK hP hS hl => ?_)
  have C0 : CallFix p m c cX4_read 2 s args gTB RX4 := C0
  unfold vX4_read at hv
  refine lv_aload_n hx hb dX4_read_0 rfl (lv_at hl 0 rfl) (lv_iload_n hx hb dX4_read_1 rfl (lv_at hl 1 rfl) (lv_iconst (v := 1) hx hb dX4_read_2 (by decide) ?_))
  refine g_iX (g_bV (As := [.int a1, .int 1]) (rest := []) C0 hK hP kX4_holds ql_X4_32 (mX4_holds hE hr hv) (by have := hr; omega) (gen_sheet hr) rfl rfl hl.1 rfl (Nat.le_of_ble_eq_true rfl) ⟨rfl, rfl, Nat.le_of_ble_eq_true rfl, Nat.le_of_ble_eq_true rfl⟩ dX4_read_3) hS (fun x210 μ211 H locs hv hP hS => ?_)
  refine lv_if_eq (tgt := 18) hx hb dX4_read_6 (by decide) (fun c212 => ?_) (fun c212 => ?_)
  · have hv := hv.1 c212
    refine lv_iconst (v := 0) hx hb dX4_read_18 (by decide) ?_
    exact g_retX hx hb hrt hlk hP hS rfl hv dX4_read_19
  · have hv := hv.2 c212
    refine lv_aload_n hx hb dX4_read_9 rfl (lv_at hl 0 rfl) (gg_X4_9 C0 hK hP hr dX4_read_10 (lv_iload_n hx hb dX4_read_13 rfl (lv_at hl 1 rfl) ?_))
    have hi213 := hv.1
    have hv := hv.2
    refine g_iald hx hb hK hP (by have := hr; omega) (gen_cells hr) hi213 dX4_read_14 (lv_goto (tgt := 19) hx hb dX4_read_15 (by decide) ?_)
    exact g_retX hx hb hrt hlk hP hS rfl hv dX4_read_19
set_option maxHeartbeats 4000000 in
set_option maxRecDepth 100000 in
theorem mX4_cutToSort {l : Launch} {E : gE} {μ ν : gM} {τ : gJ} {Q : Int32 → gM → Prop} (hE : gLok E) {r : Nat} {a1 : Int32} (hr : r < 4) (hv : vX4_cutToSort r a1 μ Q) : Met l yX4_cutToSort (gws yX4_cutToSort cX4_cutToSort 2 (some .int)) (gRm 0 0) (gPc E [.ref (gL E (10 + r)), .int a1] μ ν τ) (gQiX E Q ν τ) 0 0 (gA E) := by
  refine g_entr (lv := [(0, .ref (gL E (10 + r))), (1, .int a1)]) (by decide +kernel) (Nat.le_of_ble_eq_true rfl) rfl (fun p e s m args below meth c ls H locs hx hb hrt hlk C0 hK hP hS hl => ?_)
  have C0 : CallFix p m c cX4_cutToSort 2 s args gTB RX4 := C0
  unfold vX4_cutToSort at hv
  refine lv_aload_n hx hb dX4_cutToSort_0 rfl (lv_at hl 0 rfl) (gg_X4_25 C0 hK hP hr dX4_cutToSort_1 ?_)
  by_cases c217 : (μ (10 + r) 2) = 0
  · refine lv_lookup (tgt := 32) (off := 28) hx hb dX4_cutToSort_4 (by decide) (by rw [c217]; decide) (by decide) ?_
    have hv := hv.1 c217
    refine lv_iload_n hx hb dX4_cutToSort_32 rfl (lv_at hl 1 rfl) (lv_i2b hx hb dX4_cutToSort_33 rfl ?_)
    exact g_retX hx hb hrt hlk hP hS rfl hv dX4_cutToSort_34
  · have hv := hv.2 c217
    by_cases c218 : (μ (10 + r) 2) = 1
    · refine lv_lookup (tgt := 35) (off := 31) hx hb dX4_cutToSort_4 (by decide) (by rw [c218]; decide) (by decide) ?_
      have hv := hv.1 c218
      refine lv_iload_n hx hb dX4_cutToSort_35 rfl (lv_at hl 1 rfl) (lv_i2s hx hb dX4_cutToSort_36 rfl ?_)
      exact g_retX hx hb hrt hlk hP hS rfl hv dX4_cutToSort_37
    · have hv := hv.2 c218
      refine lv_lookup (tgt := 38) (off := 34) hx hb dX4_cutToSort_4 (by decide) (by have := ne_toInt (x := (μ (10 + r) 2)) (k := 0) (z := 0) (by decide) c217; have := ne_toInt (x := (μ (10 + r) 2)) (k := 1) (z := 1) (by decide) c218; simp [Op.lookupswitch.offset]; omega) (by decide) ?_
      refine lv_iload_n hx hb dX4_cutToSort_38 rfl (lv_at hl 1 rfl) ?_
      exact g_retX hx hb hrt hlk hP hS rfl hv dX4_cutToSort_39
set_option maxHeartbeats 4000000 in
set_option maxRecDepth 100000 in
theorem mX4_write {l : Launch} {E : gE} {μ ν : gM} {τ : gJ} {Q : gM → Prop} (hE : gLok E) {r : Nat} {a1 : Int32} {a2 : Int32} (hr : r < 4) (hv : vX4_write r a1 a2 μ Q) : Met l yX4_write (gws yX4_write cX4_write 3 none) (gRm 1 22) (gPc E [.ref (gL E (10 + r)), .int a1, .int a2] μ ν τ) (gQvX E Q ν τ) 0 0 (gA E) := by
  refine g_entr (lv := [(0, .ref (gL E (10 + r))), (1, .int a1), (2, .int a2)]) (by decide +kernel) (Nat.le_of_ble_eq_true rfl) rfl (fun p e s m args below meth c ls H locs hx hb hrt hlk C0 hK hP hS hl => ?_)
  have C0 : CallFix p m c cX4_write 3 s args gTB RX4 := C0
  unfold vX4_write at hv
  refine lv_aload_n hx hb dX4_write_0 rfl (lv_at hl 0 rfl) (lv_iload_n hx hb dX4_write_1 rfl (lv_at hl 1 rfl) (lv_iconst (v := 1) hx hb dX4_write_2 (by decide) ?_))
  refine g_iX (g_bV (As := [.int a1, .int 1]) (rest := []) C0 hK hP kX4_holds ql_X4_32 (mX4_holds hE hr hv) (by have := hr; omega) (gen_sheet hr) rfl rfl hl.1 rfl (Nat.le_of_ble_eq_true rfl) ⟨rfl, rfl, Nat.le_of_ble_eq_true rfl, Nat.le_of_ble_eq_true rfl⟩ dX4_write_3) hS (fun x214 μ215 H locs hv hP hS => ?_)
  refine lv_if_eq (tgt := 20) hx hb dX4_write_6 (by decide) (fun c216 => ?_) (fun c216 => ?_)
  · have hv := hv.1 c216
    exact g_vretX hx hb hrt hlk hP hS hv dX4_write_20
  · have hv := hv.2 c216
    refine lv_aload_n hx hb dX4_write_9 rfl (lv_at hl 0 rfl) (gg_X4_9 C0 hK hP hr dX4_write_10 (lv_iload_n hx hb dX4_write_13 rfl (lv_at hl 1 rfl) (lv_aload_n hx hb dX4_write_14 rfl (lv_at hl 0 rfl) (lv_iload_n hx hb dX4_write_15 rfl (lv_at hl 2 rfl) ?_))))
    refine g_iX (g_bV (As := [.int a2]) (rest := [.int a1, .ref (gL E (14 + r))]) C0 hK hP kX4_cutToSort ql_X4_36 (mX4_cutToSort hE hr hv) (by have := hr; omega) (gen_sheet hr) rfl rfl hl.1 rfl (Nat.le_of_ble_eq_true rfl) ⟨rfl, rfl, Nat.le_of_ble_eq_true rfl, Nat.le_of_ble_eq_true rfl⟩ dX4_write_16) hS (fun x219 μ220 H locs hv hP hS => ?_)
    have hi221 := hv.1
    have hv := hv.2
    refine g_iastX hE hx hb hK hP hS (by have := hr; omega) (fun _ => gen_cells hr) hi221 dX4_write_19 (fun H locs hP hS => ?_)
    exact g_vretX hx hb hrt hlk hP hS hv dX4_write_20
set_option maxHeartbeats 4000000 in
set_option maxRecDepth 100000 in
theorem mX5_reach {l : Launch} {E : gE} {μ ν : gM} {τ : gJ} {Q : gM → Prop} (hE : gLok E) {a1 : Int32} {a2 : Int32}  (hv : vX5_reach a1 a2 μ Q) : Met l yX5_reach (gws yX5_reach cX5_reach 3 none) (gRm 1 22) (gPc E [.ref (gL E 22), .int a1, .int a2] μ ν τ) (gQvX E Q ν τ) 0 0 (gA E) := by
  refine g_entr (lv := [(0, .ref (gL E 22)), (1, .int a1), (2, .int a2)]) (by decide +kernel) (Nat.le_of_ble_eq_true rfl) rfl (fun p e s m args below meth c ls H locs hx hb hrt hlk C0 hK hP hS hl => ?_)
  have C0 : CallFix p m c cX5_reach 3 s args gTB RX5 := C0
  unfold vX5_reach at hv
  refine lv_iload_n hx hb dX5_reach_0 rfl (lv_at hl 1 rfl) (lv_iconst (v := 0) hx hb dX5_reach_1 (by decide) (lv_sipush (v := 511) hx hb dX5_reach_2 (by decide) ?_))
  refine g_iS (g_bSN (As := [.int a1, .int 0, .int 511]) (rest := []) C0 hK hP kX6_isWithin ql_X5_39 (mX6_isWithin hE hv) rfl hl.1 rfl (Nat.le_of_ble_eq_true rfl) ⟨rfl, rfl, Nat.le_of_ble_eq_true rfl, Nat.le_of_ble_eq_true rfl⟩ dX5_reach_5) hS (fun x224 H locs hv hP hS => ?_)
  refine lv_if_eq (tgt := 61) hx hb dX5_reach_8 (by decide) (fun c225 => ?_) (fun c225 => ?_)
  · have hv := hv.1 c225
    exact g_vretX hx hb hrt hlk hP hS hv dX5_reach_61
  · have hv := hv.2 c225
    refine lv_aload_n hx hb dX5_reach_11 rfl (lv_at hl 0 rfl) (gg_X5_9 C0 hK hP dX5_reach_12 (lv_iload_n hx hb dX5_reach_15 rfl (lv_at hl 1 rfl) ?_))
    have hi226 := hv.1
    have hv := hv.2
    refine g_iald hx hb hK hP (by decide) ga_23 hi226 dX5_reach_16 (lv_bipush (v := (-9)) hx hb dX5_reach_17 (by decide) ?_)
    refine lv_icmp_ne (tgt := 61) hx hb dX5_reach_19 (by decide) (fun c227 => ?_) (fun c227 => ?_)
    · have hv := hv.1 c227
      exact g_vretX hx hb hrt hlk hP hS hv dX5_reach_61
    · have hv := hv.2 c227
      refine lv_aload_n hx hb dX5_reach_22 rfl (lv_at hl 0 rfl) (gg_X5_24 C0 hK hP dX5_reach_23 (lv_aload_n hx hb dX5_reach_26 rfl (lv_at hl 0 rfl) (gg_X5_15 C0 hK hP dX5_reach_27 (g_alen (v := 512) hx hb hK hP (by decide) ga_24 (by decide) dX5_reach_30 ?_))))
      refine lv_icmp_ge (tgt := 61) hx hb dX5_reach_31 (by decide) (fun c228 => ?_) (fun c228 => ?_)
      · have hv := hv.1 c228
        exact g_vretX hx hb hrt hlk hP hS hv dX5_reach_61
      · have hv := hv.2 c228
        refine lv_aload_n hx hb dX5_reach_34 rfl (lv_at hl 0 rfl) (gg_X5_9 C0 hK hP dX5_reach_35 (lv_iload_n hx hb dX5_reach_38 rfl (lv_at hl 1 rfl) (lv_iload_n hx hb dX5_reach_39 rfl (lv_at hl 2 rfl) ?_)))
        have hi229 := hv.1
        have hv := hv.2
        refine g_iastX hE hx hb hK hP hS (by decide) (fun _ => ga_23) hi229 dX5_reach_40 (fun H locs hP hS => (lv_aload_n hx hb dX5_reach_41 rfl (lv_at hl 0 rfl) (gg_X5_15 C0 hK hP dX5_reach_42 (lv_aload_n hx hb dX5_reach_45 rfl (lv_at hl 0 rfl) (gg_X5_24 C0 hK hP dX5_reach_46 (lv_iload_n hx hb dX5_reach_49 rfl (lv_at hl 1 rfl) ?_))))))
        have hi230 := hv.1
        have hv := hv.2
        refine g_iastX hE hx hb hK hP hS (by decide) (fun _ => ga_24) hi230 dX5_reach_50 (fun H locs hP hS => (lv_aload_n hx hb dX5_reach_51 rfl (lv_at hl 0 rfl) (lv_dup hx hb dX5_reach_52 rfl (gg_X5_24 C0 hK hP dX5_reach_53 (lv_iconst (v := 1) hx hb dX5_reach_56 (by decide) (lv_iadd hx hb dX5_reach_57 (gp_X5_24 hE C0 hK hP hS dX5_reach_58 (fun H locs hP hS => ?_))))))))
        exact g_vretX hx hb hrt hlk hP hS hv dX5_reach_61
set_option maxHeartbeats 4000000 in
set_option maxRecDepth 100000 in
theorem mX5_beatsFrom {l : Launch} {E : gE} {μ ν : gM} {τ : gJ} {Q : Int32 → gM → Prop} (hE : gLok E) {a1 : Int32}  (hv : vX5_beatsFrom a1 μ Q) : Met l yX5_beatsFrom (gws yX5_beatsFrom cX5_beatsFrom 2 (some .int)) (gRm 1 22) (gPc E [.ref (gL E 22), .int a1] μ ν τ) (gQiX E Q ν τ) 0 0 (gA E) := by
  refine g_entr (lv := [(0, .ref (gL E 22)), (1, .int a1)]) (by decide +kernel) (Nat.le_of_ble_eq_true rfl) rfl (fun p e s m args below meth c ls H locs hx hb hrt hlk C0 hK hP hS hl => ?_)
  have C0 : CallFix p m c cX5_beatsFrom 2 s args gTB RX5 := C0
  unfold vX5_beatsFrom at hv
  refine lv_iload_n hx hb dX5_beatsFrom_0 rfl (lv_at hl 1 rfl) (lv_iconst (v := 0) hx hb dX5_beatsFrom_1 (by decide) (lv_sipush (v := 511) hx hb dX5_beatsFrom_2 (by decide) ?_))
  refine g_iS (g_bSN (As := [.int a1, .int 0, .int 511]) (rest := []) C0 hK hP kX6_isWithin ql_X5_39 (mX6_isWithin hE hv) rfl hl.1 rfl (Nat.le_of_ble_eq_true rfl) ⟨rfl, rfl, Nat.le_of_ble_eq_true rfl, Nat.le_of_ble_eq_true rfl⟩ dX5_beatsFrom_5) hS (fun x236 H locs hv hP hS => ?_)
  refine lv_if_eq (tgt := 20) hx hb dX5_beatsFrom_8 (by decide) (fun c237 => ?_) (fun c237 => ?_)
  · have hv := hv.1 c237
    refine lv_bipush (v := (-9)) hx hb dX5_beatsFrom_20 (by decide) ?_
    exact g_retX hx hb hrt hlk hP hS rfl hv dX5_beatsFrom_22
  · have hv := hv.2 c237
    refine lv_aload_n hx hb dX5_beatsFrom_11 rfl (lv_at hl 0 rfl) (gg_X5_9 C0 hK hP dX5_beatsFrom_12 (lv_iload_n hx hb dX5_beatsFrom_15 rfl (lv_at hl 1 rfl) ?_))
    have hi238 := hv.1
    have hv := hv.2
    refine g_iald hx hb hK hP (by decide) ga_23 hi238 dX5_beatsFrom_16 (lv_goto (tgt := 22) hx hb dX5_beatsFrom_17 (by decide) ?_)
    exact g_retX hx hb hrt hlk hP hS rfl hv dX5_beatsFrom_22
set_option maxHeartbeats 4000000 in
set_option maxRecDepth 100000 in
theorem mX5_reachFrom {l : Launch} {E : gE} {μ ν : gM} {τ : gJ} {Q : gM → Prop} (hE : gLok E) {a1 : Int32} {a2 : Int32}  (hv : vX5_reachFrom a1 a2 μ Q) : Met l yX5_reachFrom (gws yX5_reachFrom cX5_reachFrom 6 none) (gRm 2 44) (gPc E [.ref (gL E 22), .int a1, .int a2] μ ν τ) (gQvX E Q ν τ) 0 0 (gA E) := by
  refine g_entr (lv := [(0, .ref (gL E 22)), (1, .int a1), (2, .int a2)]) (by decide +kernel) (Nat.le_of_ble_eq_true rfl) rfl (fun p e s m args below meth c ls H locs hx hb hrt hlk C0 hK hP hS hl => ?_)
  have C0 : CallFix p m c cX5_reachFrom 6 s args gTB RX5 := C0
  have h_23 : ∀ (n_23 : Nat) (v3 : Int32) (v4 : Int32) (v5 : Int32) (μ : gM) (H : Heap) (locs : List Loc) (ls : Array Slot), va_P (gD E) vwCl (wl E μ ν τ) H → va_S (gA E) s.heap H locs → lv_has ls 6 [(0, .ref (gL E 22)), (2, .int a2), (3, .int v3), (4, .int v4), (5, .int v5)] → vX5_reachFrom_23 a1 a2 Q n_23 v3 v4 v5 μ → W p l e (gRm 2 44) s m args below meth c H locs 0 0 (MQ below (gQvX E Q ν τ) args s 0 0 (gA E)) (F0 m 23 ls []) := by
    intro n_23
    induction n_23 with
    | zero =>
      intro v3 v4 v5 μ H locs ls hP hS hl hv
      exact False.elim hv
    | succ n_23 ih_23 =>
      intro v3 v4 v5 μ H locs ls hP hS hl hv
      have hv : vX5_reachFrom_23B a1 a2 Q (vX5_reachFrom_23 a1 a2 Q n_23) v3 v4 v5 μ := hv
      unfold vX5_reachFrom_23B at hv
      refine lv_iload hx hb dX5_reachFrom_23 (lv_at hl 4 rfl) (lv_iload_n hx hb dX5_reachFrom_25 rfl (lv_at hl 1 rfl) ?_)
      refine lv_icmp_gt (tgt := 59) hx hb dX5_reachFrom_26 (by decide) (fun c243 => ?_) (fun c243 => ?_)
      · have hv := hv.1 c243
        exact g_vretX hx hb hrt hlk hP hS hv dX5_reachFrom_59
      · have hv := hv.2 c243
        refine lv_iload_n hx hb dX5_reachFrom_29 rfl (lv_at hl 2 rfl) (lv_iload hx hb dX5_reachFrom_30 (lv_at hl 4 rfl) (lv_ishr hx hb dX5_reachFrom_32 (lv_iconst (v := 1) hx hb dX5_reachFrom_33 (by decide) (lv_iand hx hb dX5_reachFrom_34 (lv_iconst (v := 1) hx hb dX5_reachFrom_35 (by decide) ?_)))))
        refine lv_icmp_ne (tgt := 53) hx hb dX5_reachFrom_36 (by decide) (fun c244 => ?_) (fun c244 => ?_)
        · have hv := hv.1 c244
          refine lv_iinc (v := (v5 + 1)) (lv' := [(5, .int (v5 + 1)), (0, .ref (gL E 22)), (2, .int a2), (3, .int v3), (4, .int v4)]) hx hb dX5_reachFrom_53 hl (k := 4) rfl rfl (by decide) rfl (fun ls hl => (lv_goto (tgt := 23) hx hb dX5_reachFrom_56 (by decide) ?_))
          exact ih_23 v3 v4 (v5 + 1) μ H locs ls hP hS (lv_sub hl [1, 2, 3, 4, 0] rfl) hv
        · have hv := hv.2 c244
          refine lv_aload_n hx hb dX5_reachFrom_39 rfl (lv_at hl 0 rfl) (lv_iload_n hx hb dX5_reachFrom_40 rfl (lv_at hl 2 rfl) (lv_iconst (v := 1) hx hb dX5_reachFrom_41 (by decide) (lv_iload hx hb dX5_reachFrom_42 (lv_at hl 4 rfl) (lv_ishl hx hb dX5_reachFrom_44 (lv_ixor hx hb dX5_reachFrom_45 (lv_iconst (v := 1) hx hb dX5_reachFrom_46 (by decide) (lv_ior hx hb dX5_reachFrom_47 (lv_iload hx hb dX5_reachFrom_48 (lv_at hl 3 rfl) ?_))))))))
          refine g_vX (g_bV (As := [.int ((v3 ^^^ ((1 : Int32) <<< (v5 &&& 31))) ||| 1), .int v4]) (rest := []) C0 hK hP kX5_reach ql_X5_28 (mX5_reach hE hv) (by decide) ge_X5 rfl rfl hl.1 rfl (Nat.le_of_ble_eq_true rfl) ⟨rfl, rfl, Nat.le_of_ble_eq_true rfl, Nat.le_of_ble_eq_true rfl⟩ dX5_reachFrom_50) hS (fun μ246 H locs hv hP hS => ?_)
          refine lv_iinc (v := (v5 + 1)) (lv' := [(5, .int (v5 + 1)), (0, .ref (gL E 22)), (2, .int a2), (3, .int v3), (4, .int v4)]) hx hb dX5_reachFrom_53 hl (k := 4) rfl rfl (by decide) rfl (fun ls hl => (lv_goto (tgt := 23) hx hb dX5_reachFrom_56 (by decide) ?_))
          exact ih_23 v3 v4 (v5 + 1) μ246 H locs ls hP hS (lv_sub hl [1, 2, 3, 4, 0] rfl) hv
  unfold vX5_reachFrom at hv
  refine lv_iload_n hx hb dX5_reachFrom_0 rfl (lv_at hl 1 rfl) (lv_iconst (v := 1) hx hb dX5_reachFrom_1 (by decide) (lv_ishl hx hb dX5_reachFrom_2 (lv_istore_n (lv' := [(3, .int (a1 <<< ((1 : Int32) &&& 31))), (0, .ref (gL E 22)), (1, .int a1), (2, .int a2)]) hx hb dX5_reachFrom_3 rfl hl (by decide) rfl (fun ls hl => (lv_aload_n hx hb dX5_reachFrom_4 rfl (lv_at hl 1 rfl) (lv_iload_n hx hb dX5_reachFrom_5 rfl (lv_at hl 2 rfl) ?_))))))
  refine g_iX (g_bV (As := [.int a1]) (rest := []) C0 hK hP kX5_beatsFrom ql_X5_35 (mX5_beatsFrom hE hv) (by decide) ge_X5 rfl rfl hl.1 rfl (Nat.le_of_ble_eq_true rfl) ⟨rfl, rfl, Nat.le_of_ble_eq_true rfl, Nat.le_of_ble_eq_true rfl⟩ dX5_reachFrom_6) hS (fun x239 μ240 H locs hv hP hS => ?_)
  refine lv_iconst (v := 1) hx hb dX5_reachFrom_9 (by decide) (lv_iadd hx hb dX5_reachFrom_10 (lv_istore (lv' := [(4, .int (x239 + 1)), (3, .int (a1 <<< ((1 : Int32) &&& 31))), (0, .ref (gL E 22)), (1, .int a1), (2, .int a2)]) hx hb dX5_reachFrom_11 hl (by decide) rfl (fun ls hl => (lv_aload_n hx hb dX5_reachFrom_13 rfl (lv_at hl 2 rfl) (lv_iload_n hx hb dX5_reachFrom_14 rfl (lv_at hl 1 rfl) (lv_iload hx hb dX5_reachFrom_15 (lv_at hl 0 rfl) ?_))))))
  refine g_vX (g_bV (As := [.int (a1 <<< ((1 : Int32) &&& 31)), .int (x239 + 1)]) (rest := []) C0 hK hP kX5_reach ql_X5_28 (mX5_reach hE hv) (by decide) ge_X5 rfl rfl hl.1 rfl (Nat.le_of_ble_eq_true rfl) ⟨rfl, rfl, Nat.le_of_ble_eq_true rfl, Nat.le_of_ble_eq_true rfl⟩ dX5_reachFrom_17) hS (fun μ242 H locs hv hP hS => ?_)
  refine lv_iconst (v := 1) hx hb dX5_reachFrom_20 (by decide) (lv_istore (lv' := [(5, .int 1), (4, .int (x239 + 1)), (3, .int (a1 <<< ((1 : Int32) &&& 31))), (0, .ref (gL E 22)), (1, .int a1), (2, .int a2)]) hx hb dX5_reachFrom_21 hl (by decide) rfl (fun ls hl => ?_))
  obtain ⟨nf, hv⟩ := hv
  exact h_23 nf (a1 <<< ((1 : Int32) &&& 31)) (x239 + 1) 1 μ242 H locs ls hP hS (lv_sub hl [3, 5, 2, 1, 0] rfl) hv
set_option maxHeartbeats 4000000 in
set_option maxRecDepth 100000 in
theorem mX5_measure {l : Launch} {E : gE} {μ ν : gM} {τ : gJ} {Q : gM → Prop} (hE : gLok E) {a1 : Int32} {a2 : Int32}  (hv : vX5_measure a1 a2 μ Q) : Met l yX5_measure (gws yX5_measure cX5_measure 4 none) (gRm 3 69) (gPc E [.ref (gL E 22), .int a1, .int a2] μ ν τ) (gQvX E Q ν τ) 0 0 (gA E) := by
  refine g_entr (lv := [(0, .ref (gL E 22)), (1, .int a1), (2, .int a2)]) (by decide +kernel) (Nat.le_of_ble_eq_true rfl) rfl (fun p e s m args below meth c ls H locs hx hb hrt hlk C0 hK hP hS hl => ?_)
  have C0 : CallFix p m c cX5_measure 4 s args gTB RX5 := C0
  have h_22 : ∀ (n_22 : Nat) (v3 : Int32) (μ : gM) (H : Heap) (locs : List Loc) (ls : Array Slot), va_P (gD E) vwCl (wl E μ ν τ) H → va_S (gA E) s.heap H locs → lv_has ls 4 [(0, .ref (gL E 22)), (2, .int a2), (3, .int v3)] → vX5_measure_22 a1 a2 Q n_22 v3 μ → W p l e (gRm 3 69) s m args below meth c H locs 0 0 (MQ below (gQvX E Q ν τ) args s 0 0 (gA E)) (F0 m 22 ls []) := by
    intro n_22
    induction n_22 with
    | zero =>
      intro v3 μ H locs ls hP hS hl hv
      exact False.elim hv
    | succ n_22 ih_22 =>
      intro v3 μ H locs ls hP hS hl hv
      have hv : vX5_measure_22B a1 a2 Q (vX5_measure_22 a1 a2 Q n_22) v3 μ := hv
      unfold vX5_measure_22B at hv
      refine lv_iload_n hx hb dX5_measure_22 rfl (lv_at hl 2 rfl) (lv_aload_n hx hb dX5_measure_23 rfl (lv_at hl 0 rfl) (gg_X5_24 C0 hK hP dX5_measure_24 ?_))
      refine lv_icmp_ge (tgt := 56) hx hb dX5_measure_27 (by decide) (fun c233 => ?_) (fun c233 => ?_)
      · have hv := hv.1 c233
        exact g_vretX hx hb hrt hlk hP hS hv dX5_measure_56
      · have hv := hv.2 c233
        refine lv_iload_n hx hb dX5_measure_30 rfl (lv_at hl 2 rfl) (lv_aload_n hx hb dX5_measure_31 rfl (lv_at hl 0 rfl) (gg_X5_15 C0 hK hP dX5_measure_32 (g_alen (v := 512) hx hb hK hP (by decide) ga_24 (by decide) dX5_measure_35 ?_)))
        refine lv_icmp_ge (tgt := 56) hx hb dX5_measure_36 (by decide) (fun c234 => ?_) (fun c234 => ?_)
        · have hv := hv.1 c234
          exact g_vretX hx hb hrt hlk hP hS hv dX5_measure_56
        · have hv := hv.2 c234
          refine lv_aload_n hx hb dX5_measure_39 rfl (lv_at hl 0 rfl) (lv_aload_n hx hb dX5_measure_40 rfl (lv_at hl 0 rfl) (gg_X5_15 C0 hK hP dX5_measure_41 (lv_iload_n hx hb dX5_measure_44 rfl (lv_at hl 2 rfl) ?_)))
          have hi235 := hv.1
          have hv := hv.2
          refine g_iald hx hb hK hP (by decide) ga_24 hi235 dX5_measure_45 (lv_iload_n hx hb dX5_measure_46 rfl (lv_at hl 1 rfl) ?_)
          refine g_vX (g_bV (As := [.int (μ 24 v3.toNatClampNeg), .int a2]) (rest := []) C0 hK hP kX5_reachFrom ql_X5_32 (mX5_reachFrom hE hv) (by decide) ge_X5 rfl rfl hl.1 rfl (Nat.le_of_ble_eq_true rfl) ⟨rfl, rfl, Nat.le_of_ble_eq_true rfl, Nat.le_of_ble_eq_true rfl⟩ dX5_measure_47) hS (fun μ248 H locs hv hP hS => ?_)
          refine lv_iinc (v := (v3 + 1)) (lv' := [(3, .int (v3 + 1)), (0, .ref (gL E 22)), (2, .int a2)]) hx hb dX5_measure_50 hl (k := 2) rfl rfl (by decide) rfl (fun ls hl => (lv_goto (tgt := 22) hx hb dX5_measure_53 (by decide) ?_))
          exact ih_22 (v3 + 1) μ248 H locs ls hP hS (lv_sub hl [1, 2, 0] rfl) hv
  unfold vX5_measure at hv
  refine lv_aload_n hx hb dX5_measure_0 rfl (lv_at hl 0 rfl) (gg_X5_9 C0 hK hP dX5_measure_1 (lv_bipush (v := (-9)) hx hb dX5_measure_4 (by decide) ?_))
  refine g_vX (g_bS (As := [.ref (gL E 23), .int (-9)]) (rest := []) C0 hK hP kJ7_fill_53178 ql_X5_18 (mJ7_fill_53178 hE (by decide) (fun _ => ga_23) hv) rfl hl.1 rfl (Nat.le_of_ble_eq_true rfl) ⟨rfl, rfl, Nat.le_of_ble_eq_true rfl, Nat.le_of_ble_eq_true rfl⟩ dX5_measure_6) hS (fun μ223 H locs hv hP hS => ?_)
  refine lv_aload_n hx hb dX5_measure_9 rfl (lv_at hl 0 rfl) (lv_iconst (v := 0) hx hb dX5_measure_10 (by decide) (gp_X5_24 hE C0 hK hP hS dX5_measure_11 (fun H locs hP hS => (lv_aload_n hx hb dX5_measure_14 rfl (lv_at hl 0 rfl) (lv_iload_n hx hb dX5_measure_15 rfl (lv_at hl 1 rfl) (lv_iconst (v := 0) hx hb dX5_measure_16 (by decide) ?_))))))
  refine g_vX (g_bV (As := [.int a1, .int 0]) (rest := []) C0 hK hP kX5_reach ql_X5_28 (mX5_reach hE hv) (by decide) ge_X5 rfl rfl hl.1 rfl (Nat.le_of_ble_eq_true rfl) ⟨rfl, rfl, Nat.le_of_ble_eq_true rfl, Nat.le_of_ble_eq_true rfl⟩ dX5_measure_17) hS (fun μ232 H locs hv hP hS => ?_)
  refine lv_iconst (v := 0) hx hb dX5_measure_20 (by decide) (lv_istore_n (lv' := [(3, .int 0), (0, .ref (gL E 22)), (1, .int a1), (2, .int a2)]) hx hb dX5_measure_21 rfl hl (by decide) rfl (fun ls hl => ?_))
  obtain ⟨nf, hv⟩ := hv
  exact h_22 nf 0 μ232 H locs ls hP hS (lv_sub hl [1, 3, 0] rfl) hv
set_option maxHeartbeats 4000000 in
set_option maxRecDepth 100000 in
theorem mX5_stateBehind {l : Launch} {E : gE} {μ ν : gM} {τ : gJ} {Q : Int32 → Prop} (hE : gLok E) {a0 : Int32} {a1 : Int32}  (hv : vX5_stateBehind a0 a1 Q) : Met l yX5_stateBehind (gws yX5_stateBehind cX5_stateBehind 3 (some .int)) (gRm 0 0) (gPc E [.int a0, .int a1] μ ν τ) (gQiS E Q μ ν τ) 0 0 (gA E) := by
  refine g_entr (lv := [(0, .int a0), (1, .int a1)]) (by decide +kernel) (Nat.le_of_ble_eq_true rfl) rfl (fun p e s m args below meth c ls H locs hx hb hrt hlk C0 hK hP hS hl => ?_)
  have C0 : CallFix p m c cX5_stateBehind 3 s args gTB RX5 := C0
  unfold vX5_stateBehind at hv
  refine lv_iload_n hx hb dX5_stateBehind_0 rfl (lv_at hl 1 rfl) ?_
  refine lv_if_ne (tgt := 8) hx hb dX5_stateBehind_1 (by decide) (fun c259 => ?_) (fun c259 => ?_)
  · have hv := hv.1 c259
    refine lv_iload_n hx hb dX5_stateBehind_8 rfl (lv_at hl 0 rfl) (lv_iconst (v := 1) hx hb dX5_stateBehind_9 (by decide) (lv_iload_n hx hb dX5_stateBehind_10 rfl (lv_at hl 1 rfl) (lv_ishl hx hb dX5_stateBehind_11 (lv_ior hx hb dX5_stateBehind_12 (lv_istore_n (lv' := [(2, .int (a0 ||| ((1 : Int32) <<< (a1 &&& 31)))), (0, .int a0), (1, .int a1)]) hx hb dX5_stateBehind_13 rfl hl (by decide) rfl (fun ls hl => (lv_iload_n hx hb dX5_stateBehind_14 rfl (lv_at hl 0 rfl) (lv_iconst (v := 1) hx hb dX5_stateBehind_15 (by decide) (lv_ishr hx hb dX5_stateBehind_16 ?_)))))))))
    exact g_retS hx hb hrt hlk hP hS rfl hv dX5_stateBehind_17
  · have hv := hv.2 c259
    refine lv_iload_n hx hb dX5_stateBehind_4 rfl (lv_at hl 0 rfl) (lv_goto (tgt := 13) hx hb dX5_stateBehind_5 (by decide) (lv_istore_n (lv' := [(2, .int a0), (0, .int a0), (1, .int a1)]) hx hb dX5_stateBehind_13 rfl hl (by decide) rfl (fun ls hl => (lv_iload_n hx hb dX5_stateBehind_14 rfl (lv_at hl 0 rfl) (lv_iconst (v := 1) hx hb dX5_stateBehind_15 (by decide) (lv_ishr hx hb dX5_stateBehind_16 ?_))))))
    exact g_retS hx hb hrt hlk hP hS rfl hv dX5_stateBehind_17
set_option maxHeartbeats 4000000 in
set_option maxRecDepth 100000 in
theorem mX5_leastThrow {l : Launch} {E : gE} {μ ν : gM} {τ : gJ} {Q : Int32 → gM → Prop} (hE : gLok E) {a1 : Int32} {a2 : Int32}  (hv : vX5_leastThrow a1 a2 μ Q) : Met l yX5_leastThrow (gws yX5_leastThrow cX5_leastThrow 5 (some .int)) (gRm 2 43) (gPc E [.ref (gL E 22), .int a1, .int a2] μ ν τ) (gQiX E Q ν τ) 0 0 (gA E) := by
  refine g_entr (lv := [(0, .ref (gL E 22)), (1, .int a1), (2, .int a2)]) (by decide +kernel) (Nat.le_of_ble_eq_true rfl) rfl (fun p e s m args below meth c ls H locs hx hb hrt hlk C0 hK hP hS hl => ?_)
  have C0 : CallFix p m c cX5_leastThrow 5 s args gTB RX5 := C0
  have h_19 : ∀ (n_19 : Nat) (v3 : Int32) (v4 : Int32) (μ : gM) (H : Heap) (locs : List Loc) (ls : Array Slot), va_P (gD E) vwCl (wl E μ ν τ) H → va_S (gA E) s.heap H locs → lv_has ls 5 [(0, .ref (gL E 22)), (1, .int a1), (2, .int a2), (3, .int v3), (4, .int v4)] → vX5_leastThrow_19 a1 a2 Q n_19 v3 v4 μ → W p l e (gRm 2 43) s m args below meth c H locs 0 0 (MQ below (gQiX E Q ν τ) args s 0 0 (gA E)) (F0 m 19 ls []) := by
    intro n_19
    induction n_19 with
    | zero =>
      intro v3 v4 μ H locs ls hP hS hl hv
      exact False.elim hv
    | succ n_19 ih_19 =>
      intro v3 v4 μ H locs ls hP hS hl hv
      have hv : vX5_leastThrow_19B a1 a2 Q (vX5_leastThrow_19 a1 a2 Q n_19) v3 v4 μ := hv
      unfold vX5_leastThrow_19B at hv
      refine lv_iload hx hb dX5_leastThrow_19 (lv_at hl 4 rfl) (lv_iload_n hx hb dX5_leastThrow_21 rfl (lv_at hl 2 rfl) ?_)
      refine lv_icmp_gt (tgt := 57) hx hb dX5_leastThrow_22 (by decide) (fun c257 => ?_) (fun c257 => ?_)
      · have hv := hv.1 c257
        refine lv_iconst (v := 0) hx hb dX5_leastThrow_57 (by decide) ?_
        exact g_retX hx hb hrt hlk hP hS rfl hv dX5_leastThrow_58
      · have hv := hv.2 c257
        refine lv_iload_n hx hb dX5_leastThrow_25 rfl (lv_at hl 1 rfl) (lv_iload hx hb dX5_leastThrow_26 (lv_at hl 4 rfl) (lv_ishr hx hb dX5_leastThrow_28 (lv_iconst (v := 1) hx hb dX5_leastThrow_29 (by decide) (lv_iand hx hb dX5_leastThrow_30 ?_))))
        refine lv_if_ne (tgt := 51) hx hb dX5_leastThrow_31 (by decide) (fun c258 => ?_) (fun c258 => ?_)
        · have hv := hv.1 c258
          refine lv_iinc (v := (v4 + 1)) (lv' := [(4, .int (v4 + 1)), (0, .ref (gL E 22)), (1, .int a1), (2, .int a2), (3, .int v3)]) hx hb dX5_leastThrow_51 hl (k := 4) rfl rfl (by decide) rfl (fun ls hl => (lv_goto (tgt := 19) hx hb dX5_leastThrow_54 (by decide) ?_))
          exact ih_19 v3 (v4 + 1) μ H locs ls hP hS (lv_sub hl [1, 2, 3, 4, 0] rfl) hv
        · have hv := hv.2 c258
          refine lv_aload_n hx hb dX5_leastThrow_34 rfl (lv_at hl 0 rfl) (lv_iload_n hx hb dX5_leastThrow_35 rfl (lv_at hl 1 rfl) (lv_iload hx hb dX5_leastThrow_36 (lv_at hl 4 rfl) ?_))
          refine g_iS (g_bS (As := [.int a1, .int v4]) (rest := [.ref (gL E 22)]) C0 hK hP kX5_stateBehind ql_X5_47 (mX5_stateBehind hE hv) rfl hl.1 rfl (Nat.le_of_ble_eq_true rfl) ⟨rfl, rfl, Nat.le_of_ble_eq_true rfl, Nat.le_of_ble_eq_true rfl⟩ dX5_leastThrow_38) hS (fun x260 H locs hv hP hS => ?_)
          refine g_iX (g_bV (As := [.int x260]) (rest := []) C0 hK hP kX5_beatsFrom ql_X5_35 (mX5_beatsFrom hE hv) (by decide) ge_X5 rfl rfl hl.1 rfl (Nat.le_of_ble_eq_true rfl) ⟨rfl, rfl, Nat.le_of_ble_eq_true rfl, Nat.le_of_ble_eq_true rfl⟩ dX5_leastThrow_41) hS (fun x261 μ262 H locs hv hP hS => ?_)
          refine lv_iload_n hx hb dX5_leastThrow_44 rfl (lv_at hl 3 rfl) ?_
          refine lv_icmp_ne (tgt := 51) hx hb dX5_leastThrow_45 (by decide) (fun c263 => ?_) (fun c263 => ?_)
          · have hv := hv.1 c263
            refine lv_iinc (v := (v4 + 1)) (lv' := [(4, .int (v4 + 1)), (0, .ref (gL E 22)), (1, .int a1), (2, .int a2), (3, .int v3)]) hx hb dX5_leastThrow_51 hl (k := 4) rfl rfl (by decide) rfl (fun ls hl => (lv_goto (tgt := 19) hx hb dX5_leastThrow_54 (by decide) ?_))
            exact ih_19 v3 (v4 + 1) μ262 H locs ls hP hS (lv_sub hl [1, 2, 3, 4, 0] rfl) hv
          · have hv := hv.2 c263
            refine lv_iload hx hb dX5_leastThrow_48 (lv_at hl 4 rfl) ?_
            exact g_retX hx hb hrt hlk hP hS rfl hv dX5_leastThrow_50
  unfold vX5_leastThrow at hv
  refine lv_iload_n hx hb dX5_leastThrow_0 rfl (lv_at hl 1 rfl) (lv_iconst (v := 1) hx hb dX5_leastThrow_1 (by decide) (lv_iand hx hb dX5_leastThrow_2 ?_))
  refine lv_if_ne (tgt := 8) hx hb dX5_leastThrow_3 (by decide) (fun c254 => ?_) (fun c254 => ?_)
  · have hv := hv.1 c254
    refine lv_aload_n hx hb dX5_leastThrow_8 rfl (lv_at hl 0 rfl) (lv_iload_n hx hb dX5_leastThrow_9 rfl (lv_at hl 1 rfl) ?_)
    refine g_iX (g_bV (As := [.int a1]) (rest := []) C0 hK hP kX5_beatsFrom ql_X5_35 (mX5_beatsFrom hE hv) (by decide) ge_X5 rfl rfl hl.1 rfl (Nat.le_of_ble_eq_true rfl) ⟨rfl, rfl, Nat.le_of_ble_eq_true rfl, Nat.le_of_ble_eq_true rfl⟩ dX5_leastThrow_10) hS (fun x255 μ256 H locs hv hP hS => ?_)
    refine lv_iconst (v := 1) hx hb dX5_leastThrow_13 (by decide) (lv_isub hx hb dX5_leastThrow_14 (lv_istore_n (lv' := [(3, .int (x255 - 1)), (0, .ref (gL E 22)), (1, .int a1), (2, .int a2)]) hx hb dX5_leastThrow_15 rfl hl (by decide) rfl (fun ls hl => (lv_iconst (v := 1) hx hb dX5_leastThrow_16 (by decide) (lv_istore (lv' := [(4, .int 1), (3, .int (x255 - 1)), (0, .ref (gL E 22)), (1, .int a1), (2, .int a2)]) hx hb dX5_leastThrow_17 hl (by decide) rfl (fun ls hl => ?_))))))
    obtain ⟨nf, hv⟩ := hv
    exact h_19 nf (x255 - 1) 1 μ256 H locs ls hP hS (lv_sub hl [2, 3, 4, 1, 0] rfl) hv
  · have hv := hv.2 c254
    refine lv_iconst (v := 0) hx hb dX5_leastThrow_6 (by decide) ?_
    exact g_retX hx hb hrt hlk hP hS rfl hv dX5_leastThrow_7
set_option maxHeartbeats 4000000 in
set_option maxRecDepth 100000 in
theorem mX5_throwOnWay {l : Launch} {E : gE} {μ ν : gM} {τ : gJ} {Q : Int32 → gM → Prop} (hE : gLok E) {a1 : Int32} {a2 : Int32} {a3 : Int32}  (hv : vX5_throwOnWay a1 a2 a3 μ Q) : Met l yX5_throwOnWay (gws yX5_throwOnWay cX5_throwOnWay 7 (some .int)) (gRm 3 67) (gPc E [.ref (gL E 22), .int a1, .int a2, .int a3] μ ν τ) (gQiX E Q ν τ) 0 0 (gA E) := by
  refine g_entr (lv := [(0, .ref (gL E 22)), (1, .int a1), (2, .int a2), (3, .int a3)]) (by decide +kernel) (Nat.le_of_ble_eq_true rfl) rfl (fun p e s m args below meth c ls H locs hx hb hrt hlk C0 hK hP hS hl => ?_)
  have C0 : CallFix p m c cX5_throwOnWay 7 s args gTB RX5 := C0
  have h_29 : ∀ (n_29 : Nat) (v5 : Int32) (v6 : Int32) (μ : gM) (H : Heap) (locs : List Loc) (ls : Array Slot), va_P (gD E) vwCl (wl E μ ν τ) H → va_S (gA E) s.heap H locs → lv_has ls 7 [(0, .ref (gL E 22)), (2, .int a2), (3, .int a3), (5, .int v5), (6, .int v6)] → vX5_throwOnWay_29 a1 a2 a3 Q n_29 v5 v6 μ → W p l e (gRm 3 67) s m args below meth c H locs 0 0 (MQ below (gQiX E Q ν τ) args s 0 0 (gA E)) (F0 m 29 ls []) := by
    intro n_29
    induction n_29 with
    | zero =>
      intro v5 v6 μ H locs ls hP hS hl hv
      exact False.elim hv
    | succ n_29 ih_29 =>
      intro v5 v6 μ H locs ls hP hS hl hv
      have hv : vX5_throwOnWay_29B a1 a2 a3 Q (vX5_throwOnWay_29 a1 a2 a3 Q n_29) v5 v6 μ := hv
      unfold vX5_throwOnWay_29B at hv
      refine lv_iload hx hb dX5_throwOnWay_29 (lv_at hl 4 rfl) (lv_iload_n hx hb dX5_throwOnWay_31 rfl (lv_at hl 2 rfl) ?_)
      refine lv_icmp_ge (tgt := 55) hx hb dX5_throwOnWay_32 (by decide) (fun c253 => ?_) (fun c253 => ?_)
      · have hv := hv.1 c253
        refine lv_aload_n hx hb dX5_throwOnWay_55 rfl (lv_at hl 0 rfl) (lv_iload hx hb dX5_throwOnWay_56 (lv_at hl 3 rfl) (lv_iload_n hx hb dX5_throwOnWay_58 rfl (lv_at hl 1 rfl) ?_))
        refine g_iX (g_bV (As := [.int v5, .int a2]) (rest := []) C0 hK hP kX5_leastThrow ql_X5_43 (mX5_leastThrow hE hv) (by decide) ge_X5 rfl rfl hl.1 rfl (Nat.le_of_ble_eq_true rfl) ⟨rfl, rfl, Nat.le_of_ble_eq_true rfl, Nat.le_of_ble_eq_true rfl⟩ dX5_throwOnWay_59) hS (fun x264 μ265 H locs hv hP hS => ?_)
        exact g_retX hx hb hrt hlk hP hS rfl hv dX5_throwOnWay_62
      · have hv := hv.2 c253
        refine lv_iload hx hb dX5_throwOnWay_35 (lv_at hl 3 rfl) (lv_aload_n hx hb dX5_throwOnWay_37 rfl (lv_at hl 0 rfl) (lv_iload hx hb dX5_throwOnWay_38 (lv_at hl 3 rfl) (lv_iload_n hx hb dX5_throwOnWay_40 rfl (lv_at hl 1 rfl) ?_)))
        refine g_iX (g_bV (As := [.int v5, .int a2]) (rest := [.int v5]) C0 hK hP kX5_leastThrow ql_X5_43 (mX5_leastThrow hE hv) (by decide) ge_X5 rfl rfl hl.1 rfl (Nat.le_of_ble_eq_true rfl) ⟨rfl, rfl, Nat.le_of_ble_eq_true rfl, Nat.le_of_ble_eq_true rfl⟩ dX5_throwOnWay_41) hS (fun x266 μ267 H locs hv hP hS => ?_)
        refine g_iS (g_bS (As := [.int v5, .int x266]) (rest := []) C0 hK hP kX5_stateBehind ql_X5_47 (mX5_stateBehind hE hv) rfl hl.1 rfl (Nat.le_of_ble_eq_true rfl) ⟨rfl, rfl, Nat.le_of_ble_eq_true rfl, Nat.le_of_ble_eq_true rfl⟩ dX5_throwOnWay_44) hS (fun x268 H locs hv hP hS => ?_)
        refine lv_istore (lv' := [(5, .int x268), (0, .ref (gL E 22)), (2, .int a2), (3, .int a3), (6, .int v6)]) hx hb dX5_throwOnWay_47 hl (by decide) rfl (fun ls hl => (lv_iinc (v := (v6 + 1)) (lv' := [(6, .int (v6 + 1)), (5, .int x268), (0, .ref (gL E 22)), (2, .int a2), (3, .int a3)]) hx hb dX5_throwOnWay_49 hl (k := 4) rfl rfl (by decide) rfl (fun ls hl => (lv_goto (tgt := 29) hx hb dX5_throwOnWay_52 (by decide) ?_))))
        exact ih_29 x268 (v6 + 1) μ267 H locs ls hP hS (lv_sub hl [2, 3, 4, 1, 0] rfl) hv
  unfold vX5_throwOnWay at hv
  refine lv_aload_n hx hb dX5_throwOnWay_0 rfl (lv_at hl 0 rfl) (lv_iload_n hx hb dX5_throwOnWay_1 rfl (lv_at hl 1 rfl) ?_)
  refine g_iX (g_bV (As := [.int a1]) (rest := []) C0 hK hP kX5_beatsFrom ql_X5_35 (mX5_beatsFrom hE hv) (by decide) ge_X5 rfl rfl hl.1 rfl (Nat.le_of_ble_eq_true rfl) ⟨rfl, rfl, Nat.le_of_ble_eq_true rfl, Nat.le_of_ble_eq_true rfl⟩ dX5_throwOnWay_2) hS (fun x249 μ250 H locs hv hP hS => ?_)
  refine lv_istore (lv' := [(4, .int x249), (0, .ref (gL E 22)), (1, .int a1), (2, .int a2), (3, .int a3)]) hx hb dX5_throwOnWay_5 hl (by decide) rfl (fun ls hl => (lv_iload hx hb dX5_throwOnWay_7 (lv_at hl 0 rfl) (lv_bipush (v := (-9)) hx hb dX5_throwOnWay_9 (by decide) ?_)))
  refine lv_icmp_eq (tgt := 20) hx hb dX5_throwOnWay_11 (by decide) (fun c251 => ?_) (fun c251 => ?_)
  · have hv := hv.1 c251
    refine lv_bipush (v := (-9)) hx hb dX5_throwOnWay_20 (by decide) ?_
    exact g_retX hx hb hrt hlk hP hS rfl hv dX5_throwOnWay_22
  · have hv := hv.2 c251
    refine lv_iload_n hx hb dX5_throwOnWay_14 rfl (lv_at hl 4 rfl) (lv_iload hx hb dX5_throwOnWay_15 (lv_at hl 0 rfl) ?_)
    refine lv_icmp_lt (tgt := 23) hx hb dX5_throwOnWay_17 (by decide) (fun c252 => ?_) (fun c252 => ?_)
    · have hv := hv.1 c252
      refine lv_iload_n hx hb dX5_throwOnWay_23 rfl (lv_at hl 2 rfl) (lv_istore (lv' := [(5, .int a1), (4, .int x249), (0, .ref (gL E 22)), (1, .int a1), (2, .int a2), (3, .int a3)]) hx hb dX5_throwOnWay_24 hl (by decide) rfl (fun ls hl => (lv_iconst (v := 0) hx hb dX5_throwOnWay_26 (by decide) (lv_istore (lv' := [(6, .int 0), (5, .int a1), (4, .int x249), (0, .ref (gL E 22)), (1, .int a1), (2, .int a2), (3, .int a3)]) hx hb dX5_throwOnWay_27 hl (by decide) rfl (fun ls hl => ?_)))))
      obtain ⟨nf, hv⟩ := hv
      exact h_29 nf a1 0 μ250 H locs ls hP hS (lv_sub hl [3, 5, 6, 1, 0] rfl) hv
    · have hv := hv.2 c252
      refine lv_bipush (v := (-9)) hx hb dX5_throwOnWay_20 (by decide) ?_
      exact g_retX hx hb hrt hlk hP hS rfl hv dX5_throwOnWay_22
set_option maxHeartbeats 4000000 in
set_option maxRecDepth 100000 in
theorem mX6_isSheet {l : Launch} {E : gE} {μ ν : gM} {τ : gJ} {Q : Int32 → Prop} (hE : gLok E) {a0 : Int32}  (hv : vX6_isSheet a0 Q) : Met l yX6_isSheet (gws yX6_isSheet cX6_isSheet 1 (some .boolean)) (gRm 1 22) (gPc E [.int a0] μ ν τ) (gQiS E Q μ ν τ) 0 0 (gA E) := by
  refine g_entr (lv := [(0, .int a0)]) (by decide +kernel) (Nat.le_of_ble_eq_true rfl) rfl (fun p e s m args below meth c ls H locs hx hb hrt hlk C0 hK hP hS hl => ?_)
  have C0 : CallFix p m c cX6_isSheet 1 s args gTB RX6 := C0
  unfold vX6_isSheet at hv
  refine lv_iload_n hx hb dX6_isSheet_0 rfl (lv_at hl 0 rfl) (lv_iconst (v := 0) hx hb dX6_isSheet_1 (by decide) (lv_iconst (v := 3) hx hb dX6_isSheet_2 (by decide) ?_))
  refine g_iS (g_bS (As := [.int a0, .int 0, .int 3]) (rest := []) C0 hK hP kX6_isWithin ql_X6_104 (mX6_isWithin hE hv) rfl hl.1 rfl (Nat.le_of_ble_eq_true rfl) ⟨rfl, rfl, Nat.le_of_ble_eq_true rfl, Nat.le_of_ble_eq_true rfl⟩ dX6_isSheet_3) hS (fun x269 H locs hv hP hS => ?_)
  exact g_retS hx hb hrt hlk hP hS hv.1 hv.2 dX6_isSheet_6
set_option maxHeartbeats 4000000 in
set_option maxRecDepth 100000 in
theorem mX6_isSort {l : Launch} {E : gE} {μ ν : gM} {τ : gJ} {Q : Int32 → Prop} (hE : gLok E) {a0 : Int32}  (hv : vX6_isSort a0 Q) : Met l yX6_isSort (gws yX6_isSort cX6_isSort 1 (some .boolean)) (gRm 1 22) (gPc E [.int a0] μ ν τ) (gQiS E Q μ ν τ) 0 0 (gA E) := by
  refine g_entr (lv := [(0, .int a0)]) (by decide +kernel) (Nat.le_of_ble_eq_true rfl) rfl (fun p e s m args below meth c ls H locs hx hb hrt hlk C0 hK hP hS hl => ?_)
  have C0 : CallFix p m c cX6_isSort 1 s args gTB RX6 := C0
  unfold vX6_isSort at hv
  refine lv_iload_n hx hb dX6_isSort_0 rfl (lv_at hl 0 rfl) (lv_iconst (v := 0) hx hb dX6_isSort_1 (by decide) (lv_iconst (v := 2) hx hb dX6_isSort_2 (by decide) ?_))
  refine g_iS (g_bS (As := [.int a0, .int 0, .int 2]) (rest := []) C0 hK hP kX6_isWithin ql_X6_104 (mX6_isWithin hE hv) rfl hl.1 rfl (Nat.le_of_ble_eq_true rfl) ⟨rfl, rfl, Nat.le_of_ble_eq_true rfl, Nat.le_of_ble_eq_true rfl⟩ dX6_isSort_3) hS (fun x272 H locs hv hP hS => ?_)
  exact g_retS hx hb hrt hlk hP hS hv.1 hv.2 dX6_isSort_6
set_option maxHeartbeats 4000000 in
set_option maxRecDepth 100000 in
theorem mX6_firstWrongCode {l : Launch} {E : gE} {μ ν : gM} {τ : gJ} {Q : Int32 → gM → Prop} (hE : gLok E) {r0 : Nat} {a1 : Int32} {a2 : Int32} (hr0 : r0 < 4) (hv : vX6_firstWrongCode r0 a1 a2 μ Q) : Met l yX6_firstWrongCode (gws yX6_firstWrongCode cX6_firstWrongCode 4 (some .int)) (gRm 2 43) (gPc E [.ref (gL E (10 + r0)), .int a1, .int a2] μ ν τ) (gQiX E Q ν τ) 0 0 (gA E) := by
  refine g_entr (lv := [(0, .ref (gL E (10 + r0))), (1, .int a1), (2, .int a2)]) (by decide +kernel) (Nat.le_of_ble_eq_true rfl) rfl (fun p e s m args below meth c ls H locs hx hb hrt hlk C0 hK hP hS hl => ?_)
  have C0 : CallFix p m c cX6_firstWrongCode 4 s args gTB RX6 := C0
  have h_2 : ∀ (n_2 : Nat) (v3 : Int32) (μ : gM) (H : Heap) (locs : List Loc) (ls : Array Slot), va_P (gD E) vwCl (wl E μ ν τ) H → va_S (gA E) s.heap H locs → lv_has ls 4 [(0, .ref (gL E (10 + r0))), (1, .int a1), (2, .int a2), (3, .int v3)] → vX6_firstWrongCode_2 r0 a1 a2 Q n_2 v3 μ → W p l e (gRm 2 43) s m args below meth c H locs 0 0 (MQ below (gQiX E Q ν τ) args s 0 0 (gA E)) (F0 m 2 ls []) := by
    intro n_2
    induction n_2 with
    | zero =>
      intro v3 μ H locs ls hP hS hl hv
      exact False.elim hv
    | succ n_2 ih_2 =>
      intro v3 μ H locs ls hP hS hl hv
      have hv : vX6_firstWrongCode_2B r0 a1 a2 Q (vX6_firstWrongCode_2 r0 a1 a2 Q n_2) v3 μ := hv
      unfold vX6_firstWrongCode_2B at hv
      refine lv_iload_n hx hb dX6_firstWrongCode_2 rfl (lv_at hl 3 rfl) (lv_iload_n hx hb dX6_firstWrongCode_3 rfl (lv_at hl 2 rfl) ?_)
      refine lv_icmp_ge (tgt := 38) hx hb dX6_firstWrongCode_4 (by decide) (fun c280 => ?_) (fun c280 => ?_)
      · have hv := hv.1 c280
        refine lv_iload_n hx hb dX6_firstWrongCode_38 rfl (lv_at hl 2 rfl) ?_
        refine lv_if_ne (tgt := 46) hx hb dX6_firstWrongCode_39 (by decide) (fun c281 => ?_) (fun c281 => ?_)
        · have hv := hv.1 c281
          refine lv_bipush (v := (-9)) hx hb dX6_firstWrongCode_46 (by decide) ?_
          exact g_retX hx hb hrt hlk hP hS rfl hv dX6_firstWrongCode_48
        · have hv := hv.2 c281
          refine lv_iconst (v := 0) hx hb dX6_firstWrongCode_42 (by decide) (lv_goto (tgt := 48) hx hb dX6_firstWrongCode_43 (by decide) ?_)
          exact g_retX hx hb hrt hlk hP hS rfl hv dX6_firstWrongCode_48
      · have hv := hv.2 c280
        refine lv_iload_n hx hb dX6_firstWrongCode_7 rfl (lv_at hl 3 rfl) (lv_bipush (v := 8) hx hb dX6_firstWrongCode_8 (by decide) ?_)
        refine lv_icmp_ge (tgt := 30) hx hb dX6_firstWrongCode_10 (by decide) (fun c282 => ?_) (fun c282 => ?_)
        · have hv := hv.1 c282
          refine lv_iload_n hx hb dX6_firstWrongCode_30 rfl (lv_at hl 3 rfl) ?_
          exact g_retX hx hb hrt hlk hP hS rfl hv dX6_firstWrongCode_31
        · have hv := hv.2 c282
          refine lv_aload_n hx hb dX6_firstWrongCode_13 rfl (lv_at hl 0 rfl) (lv_iload_n hx hb dX6_firstWrongCode_14 rfl (lv_at hl 1 rfl) (lv_iload_n hx hb dX6_firstWrongCode_15 rfl (lv_at hl 3 rfl) (lv_iadd hx hb dX6_firstWrongCode_16 ?_)))
          refine g_iX (g_bV (As := [.int (a1 + v3)]) (rest := []) C0 hK hP kX4_read ql_X6_235 (mX4_read hE hr0 hv) (by have := hr0; omega) (gen_sheet hr0) rfl rfl hl.1 rfl (Nat.le_of_ble_eq_true rfl) ⟨rfl, rfl, Nat.le_of_ble_eq_true rfl, Nat.le_of_ble_eq_true rfl⟩ dX6_firstWrongCode_17) hS (fun x283 μ284 H locs hv hP hS => ?_)
          refine lv_bipush (v := 48) hx hb dX6_firstWrongCode_20 (by decide) (lv_bipush (v := 57) hx hb dX6_firstWrongCode_22 (by decide) ?_)
          refine g_iS (g_bS (As := [.int x283, .int 48, .int 57]) (rest := []) C0 hK hP kX6_isWithin ql_X6_104 (mX6_isWithin hE hv) rfl hl.1 rfl (Nat.le_of_ble_eq_true rfl) ⟨rfl, rfl, Nat.le_of_ble_eq_true rfl, Nat.le_of_ble_eq_true rfl⟩ dX6_firstWrongCode_24) hS (fun x285 H locs hv hP hS => ?_)
          refine lv_if_ne (tgt := 32) hx hb dX6_firstWrongCode_27 (by decide) (fun c286 => ?_) (fun c286 => ?_)
          · have hv := hv.1 c286
            refine lv_iinc (v := (v3 + 1)) (lv' := [(3, .int (v3 + 1)), (0, .ref (gL E (10 + r0))), (1, .int a1), (2, .int a2)]) hx hb dX6_firstWrongCode_32 hl (k := 3) rfl rfl (by decide) rfl (fun ls hl => (lv_goto (tgt := 2) hx hb dX6_firstWrongCode_35 (by decide) ?_))
            exact ih_2 (v3 + 1) μ284 H locs ls hP hS (lv_sub hl [1, 2, 3, 0] rfl) hv
          · have hv := hv.2 c286
            refine lv_iload_n hx hb dX6_firstWrongCode_30 rfl (lv_at hl 3 rfl) ?_
            exact g_retX hx hb hrt hlk hP hS rfl hv dX6_firstWrongCode_31
  unfold vX6_firstWrongCode at hv
  refine lv_iconst (v := 0) hx hb dX6_firstWrongCode_0 (by decide) (lv_istore_n (lv' := [(3, .int 0), (0, .ref (gL E (10 + r0))), (1, .int a1), (2, .int a2)]) hx hb dX6_firstWrongCode_1 rfl hl (by decide) rfl (fun ls hl => ?_))
  obtain ⟨nf, hv⟩ := hv
  exact h_2 nf 0 μ H locs ls hP hS (lv_sub hl [1, 2, 3, 0] rfl) hv
set_option maxHeartbeats 4000000 in
set_option maxRecDepth 100000 in
theorem mX6_takeText {l : Launch} {E : gE} {μ ν : gM} {τ : gJ} {Q : gM → Prop} (hE : gLok E) {r1 : Nat} {a2 : Int32} {a3 : Int32} (hr1 : r1 < 4) (hv : vX6_takeText r1 a2 a3 μ Q) : Met l yX6_takeText (gws yX6_takeText cX6_takeText 5 none) (gRm 2 43) (gPc E [.ref (gL E 31), .ref (gL E (10 + r1)), .int a2, .int a3] μ ν τ) (gQvX E Q ν τ) 0 0 (gA E) := by
  refine g_entr (lv := [(0, .ref (gL E 31)), (1, .ref (gL E (10 + r1))), (2, .int a2), (3, .int a3)]) (by decide +kernel) (Nat.le_of_ble_eq_true rfl) rfl (fun p e s m args below meth c ls H locs hx hb hrt hlk C0 hK hP hS hl => ?_)
  have C0 : CallFix p m c cX6_takeText 5 s args gTB RX6 := C0
  have h_11 : ∀ (n_11 : Nat) (v4 : Int32) (μ : gM) (H : Heap) (locs : List Loc) (ls : Array Slot), va_P (gD E) vwCl (wl E μ ν τ) H → va_S (gA E) s.heap H locs → lv_has ls 5 [(0, .ref (gL E 31)), (1, .ref (gL E (10 + r1))), (2, .int a2), (3, .int a3), (4, .int v4)] → vX6_takeText_11 r1 a2 a3 Q n_11 v4 μ → W p l e (gRm 2 43) s m args below meth c H locs 0 0 (MQ below (gQvX E Q ν τ) args s 0 0 (gA E)) (F0 m 11 ls []) := by
    intro n_11
    induction n_11 with
    | zero =>
      intro v4 μ H locs ls hP hS hl hv
      exact False.elim hv
    | succ n_11 ih_11 =>
      intro v4 μ H locs ls hP hS hl hv
      have hv : vX6_takeText_11B r1 a2 a3 Q (vX6_takeText_11 r1 a2 a3 Q n_11) v4 μ := hv
      unfold vX6_takeText_11B at hv
      refine lv_iload hx hb dX6_takeText_11 (lv_at hl 4 rfl) (lv_iload_n hx hb dX6_takeText_13 rfl (lv_at hl 3 rfl) ?_)
      refine lv_icmp_ge (tgt := 43) hx hb dX6_takeText_14 (by decide) (fun c291 => ?_) (fun c291 => ?_)
      · have hv := hv.1 c291
        refine lv_aload_n hx hb dX6_takeText_43 rfl (lv_at hl 0 rfl) (lv_iconst (v := 2) hx hb dX6_takeText_44 (by decide) (gp_X6_59 hE C0 hK hP hS dX6_takeText_45 (fun H locs hP hS => (lv_aload_n hx hb dX6_takeText_48 rfl (lv_at hl 0 rfl) (gg_X6_41 C0 hK hP dX6_takeText_49 ?_)))))
        refine g_vX (g_bV (As := []) (rest := []) C0 hK hP kX2_reset ql_X6_263 (mX2_reset hE hv) (by decide) ge_X2 rfl rfl hl.1 rfl (Nat.le_of_ble_eq_true rfl) ⟨rfl, rfl, Nat.le_of_ble_eq_true rfl, Nat.le_of_ble_eq_true rfl⟩ dX6_takeText_52) hS (fun μ293 H locs hv hP hS => ?_)
        refine lv_aload_n hx hb dX6_takeText_55 rfl (lv_at hl 0 rfl) (lv_iconst (v := 0) hx hb dX6_takeText_56 (by decide) (gp_X6_215 hE C0 hK hP hS dX6_takeText_57 (fun H locs hP hS => ?_)))
        exact g_vretX hx hb hrt hlk hP hS hv dX6_takeText_60
      · have hv := hv.2 c291
        refine lv_aload_n hx hb dX6_takeText_17 rfl (lv_at hl 0 rfl) (gg_X6_12 C0 hK hP dX6_takeText_18 (lv_iload hx hb dX6_takeText_21 (lv_at hl 4 rfl) (lv_aload_n hx hb dX6_takeText_23 rfl (lv_at hl 1 rfl) (lv_iload_n hx hb dX6_takeText_24 rfl (lv_at hl 2 rfl) (lv_iload hx hb dX6_takeText_25 (lv_at hl 4 rfl) (lv_iadd hx hb dX6_takeText_27 ?_))))))
        refine g_iX (g_bV (As := [.int (a2 + v4)]) (rest := [.int v4, .ref (gL E 0)]) C0 hK hP kX4_read ql_X6_235 (mX4_read hE hr1 hv) (by have := hr1; omega) (gen_sheet hr1) rfl rfl hl.1 rfl (Nat.le_of_ble_eq_true rfl) ⟨rfl, rfl, Nat.le_of_ble_eq_true rfl, Nat.le_of_ble_eq_true rfl⟩ dX6_takeText_28) hS (fun x294 μ295 H locs hv hP hS => ?_)
        refine lv_bipush (v := 48) hx hb dX6_takeText_31 (by decide) (lv_isub hx hb dX6_takeText_33 ?_)
        refine g_vX (g_bV (As := [.int v4, .int (x294 - 48)]) (rest := []) C0 hK hP kX3_setHeight ql_X6_147 (mX3_setHeight hE (by decide) hv) (by decide) (gen_row (by decide)) rfl rfl hl.1 rfl (Nat.le_of_ble_eq_true rfl) ⟨rfl, rfl, Nat.le_of_ble_eq_true rfl, Nat.le_of_ble_eq_true rfl⟩ dX6_takeText_34) hS (fun μ297 H locs hv hP hS => ?_)
        refine lv_iinc (v := (v4 + 1)) (lv' := [(4, .int (v4 + 1)), (0, .ref (gL E 31)), (1, .ref (gL E (10 + r1))), (2, .int a2), (3, .int a3)]) hx hb dX6_takeText_37 hl (k := 4) rfl rfl (by decide) rfl (fun ls hl => (lv_goto (tgt := 11) hx hb dX6_takeText_40 (by decide) ?_))
        exact ih_11 (v4 + 1) μ297 H locs ls hP hS (lv_sub hl [1, 2, 3, 4, 0] rfl) hv
  unfold vX6_takeText at hv
  refine lv_aload_n hx hb dX6_takeText_0 rfl (lv_at hl 0 rfl) (gg_X6_12 C0 hK hP dX6_takeText_1 (lv_iload_n hx hb dX6_takeText_4 rfl (lv_at hl 3 rfl) (gp_X6_86 hE C0 hK hP hS (by decide) dX6_takeText_5 (fun H locs hP hS => (lv_iconst (v := 0) hx hb dX6_takeText_8 (by decide) (lv_istore (lv' := [(4, .int 0), (0, .ref (gL E 31)), (1, .ref (gL E (10 + r1))), (2, .int a2), (3, .int a3)]) hx hb dX6_takeText_9 hl (by decide) rfl (fun ls hl => ?_)))))))
  obtain ⟨nf, hv⟩ := hv
  exact h_11 nf 0 (up2 μ 0 1 a3) H locs ls hP hS (lv_sub hl [1, 2, 3, 4, 0] rfl) hv
set_option maxHeartbeats 4000000 in
set_option maxRecDepth 100000 in
theorem mX6_pattern {l : Launch} {E : gE} {μ ν : gM} {τ : gJ} {Q : Int32 → gM → Prop} (hE : gLok E) {a1 : Int32} {a2 : Int32} {a3 : Int32} {a4 : Int32}  (hv : vX6_pattern a1 a2 a3 a4 μ Q) : Met l yX6_pattern (gws yX6_pattern cX6_pattern 6 (some .int)) (gRm 3 67) (gPc E [.ref (gL E 31), .int a1, .int a2, .int a3, .int a4] μ ν τ) (gQiX E Q ν τ) 0 0 (gA E) := by
  refine g_entr (lv := [(0, .ref (gL E 31)), (1, .int a1), (2, .int a2), (3, .int a3), (4, .int a4)]) (by decide +kernel) (Nat.le_of_ble_eq_true rfl) rfl (fun p e s m args below meth c ls H locs hx hb hrt hlk C0 hK hP hS hl => ?_)
  have C0 : CallFix p m c cX6_pattern 6 s args gTB RX6 := C0
  unfold vX6_pattern at hv
  refine lv_aload_n hx hb dX6_pattern_0 rfl (lv_at hl 0 rfl) (lv_iconst (v := 0) hx hb dX6_pattern_1 (by decide) (gp_X6_64 hE C0 hK hP hS dX6_pattern_2 (fun H locs hP hS => (lv_iload_n hx hb dX6_pattern_5 rfl (lv_at hl 1 rfl) ?_))))
  refine g_iS (g_bS (As := [.int a1]) (rest := []) C0 hK hP kX6_isSheet ql_X6_67 (mX6_isSheet hE hv) rfl hl.1 rfl (Nat.le_of_ble_eq_true rfl) ⟨rfl, rfl, Nat.le_of_ble_eq_true rfl, Nat.le_of_ble_eq_true rfl⟩ dX6_pattern_6) hS (fun x270 H locs hv hP hS => ?_)
  refine lv_if_ne (tgt := 14) hx hb dX6_pattern_9 (by decide) (fun c271 => ?_) (fun c271 => ?_)
  · have hv := hv.1 c271
    refine lv_iload_n hx hb dX6_pattern_14 rfl (lv_at hl 2 rfl) ?_
    refine g_iS (g_bS (As := [.int a2]) (rest := []) C0 hK hP kX6_isSort ql_X6_71 (mX6_isSort hE hv) rfl hl.1 rfl (Nat.le_of_ble_eq_true rfl) ⟨rfl, rfl, Nat.le_of_ble_eq_true rfl, Nat.le_of_ble_eq_true rfl⟩ dX6_pattern_15) hS (fun x273 H locs hv hP hS => ?_)
    refine lv_if_ne (tgt := 24) hx hb dX6_pattern_18 (by decide) (fun c274 => ?_) (fun c274 => ?_)
    · have hv := hv.1 c274
      refine lv_aload_n hx hb dX6_pattern_24 rfl (lv_at hl 0 rfl) (lv_aload_n hx hb dX6_pattern_25 rfl (lv_at hl 0 rfl) (gg_X6_27 C0 hK hP dX6_pattern_26 (lv_iload_n hx hb dX6_pattern_29 rfl (lv_at hl 1 rfl) ?_)))
      have hi275 := hv.1
      have hv := hv.2
      refine g_aaS hx hb hK hP hi275 dX6_pattern_30 (lv_iload_n hx hb dX6_pattern_31 rfl (lv_at hl 2 rfl) (lv_iload_n hx hb dX6_pattern_32 rfl (lv_at hl 3 rfl) (lv_iload hx hb dX6_pattern_33 (lv_at hl 4 rfl) ?_)))
      refine g_iX (g_bV (As := [.int a2, .int a3, .int a4]) (rest := [.ref (gL E 31)]) C0 hK hP kX4_faultOfCells ql_X6_74 (mX4_faultOfCells hE (vin_lt hi275) hv) (by have := (vin_lt hi275); omega) (gen_sheet (vin_lt hi275)) rfl rfl hl.1 rfl (Nat.le_of_ble_eq_true rfl) ⟨rfl, rfl, Nat.le_of_ble_eq_true rfl, Nat.le_of_ble_eq_true rfl⟩ dX6_pattern_35) hS (fun x276 μ277 H locs hv hP hS => ?_)
      refine gp_X6_64 hE C0 hK hP hS dX6_pattern_38 (fun H locs hP hS => (lv_aload_n hx hb dX6_pattern_41 rfl (lv_at hl 0 rfl) (gg_X6_64 C0 hK hP dX6_pattern_42 ?_)))
      refine lv_if_eq (tgt := 56) hx hb dX6_pattern_45 (by decide) (fun c278 => ?_) (fun c278 => ?_)
      · have hv := hv.1 c278
        refine lv_aload_n hx hb dX6_pattern_56 rfl (lv_at hl 0 rfl) (gg_X6_27 C0 hK hP dX6_pattern_57 (lv_iload_n hx hb dX6_pattern_60 rfl (lv_at hl 1 rfl) ?_))
        have hi279 := hv.1
        have hv := hv.2
        refine g_aaS hx hb hK hP hi279 dX6_pattern_61 (lv_iload_n hx hb dX6_pattern_62 rfl (lv_at hl 3 rfl) (lv_iload hx hb dX6_pattern_63 (lv_at hl 4 rfl) ?_))
        refine g_iX (g_bS (As := [.ref (gL E (10 + a1.toNatClampNeg)), .int a3, .int a4]) (rest := []) C0 hK hP kX6_firstWrongCode ql_X6_78 (mX6_firstWrongCode hE (vin_lt hi279) hv) rfl hl.1 rfl (Nat.le_of_ble_eq_true rfl) ⟨rfl, rfl, Nat.le_of_ble_eq_true rfl, Nat.le_of_ble_eq_true rfl⟩ dX6_pattern_65) hS (fun x287 μ288 H locs hv hP hS => ?_)
        refine lv_istore (lv' := [(5, .int x287), (0, .ref (gL E 31)), (1, .int a1), (2, .int a2), (3, .int a3), (4, .int a4)]) hx hb dX6_pattern_68 hl (by decide) rfl (fun ls hl => (lv_iload hx hb dX6_pattern_70 (lv_at hl 0 rfl) (lv_bipush (v := (-9)) hx hb dX6_pattern_72 (by decide) ?_)))
        refine lv_icmp_eq (tgt := 83) hx hb dX6_pattern_74 (by decide) (fun c289 => ?_) (fun c289 => ?_)
        · have hv := hv.1 c289
          refine lv_aload_n hx hb dX6_pattern_83 rfl (lv_at hl 1 rfl) (lv_aload_n hx hb dX6_pattern_84 rfl (lv_at hl 1 rfl) (gg_X6_27 C0 hK hP dX6_pattern_85 (lv_iload_n hx hb dX6_pattern_88 rfl (lv_at hl 2 rfl) ?_)))
          have hi290 := hv.1
          have hv := hv.2
          refine g_aaS hx hb hK hP hi290 dX6_pattern_89 (lv_iload_n hx hb dX6_pattern_90 rfl (lv_at hl 4 rfl) (lv_iload hx hb dX6_pattern_91 (lv_at hl 5 rfl) ?_))
          refine g_vX (g_bV (As := [.ref (gL E (10 + a1.toNatClampNeg)), .int a3, .int a4]) (rest := []) C0 hK hP kX6_takeText ql_X6_82 (mX6_takeText hE (vin_lt hi290) hv) (by decide) ge_X6 rfl rfl hl.1 rfl (Nat.le_of_ble_eq_true rfl) ⟨rfl, rfl, Nat.le_of_ble_eq_true rfl, Nat.le_of_ble_eq_true rfl⟩ dX6_pattern_93) hS (fun μ299 H locs hv hP hS => ?_)
          refine lv_aload_n hx hb dX6_pattern_96 rfl (lv_at hl 1 rfl) (gg_X6_12 C0 hK hP dX6_pattern_97 (gg_X6_86 C0 hK hP (by decide) dX6_pattern_100 ?_))
          exact g_retX hx hb hrt hlk hP hS rfl hv dX6_pattern_103
        · have hv := hv.2 c289
          refine lv_bipush (v := (-100)) hx hb dX6_pattern_77 (by decide) (lv_iload hx hb dX6_pattern_79 (lv_at hl 0 rfl) (lv_isub hx hb dX6_pattern_81 ?_))
          exact g_retX hx hb hrt hlk hP hS rfl hv dX6_pattern_82
      · have hv := hv.2 c278
        refine lv_bipush (v := (-10)) hx hb dX6_pattern_48 (by decide) (lv_aload_n hx hb dX6_pattern_50 rfl (lv_at hl 0 rfl) (gg_X6_64 C0 hK hP dX6_pattern_51 (lv_isub hx hb dX6_pattern_54 ?_)))
        exact g_retX hx hb hrt hlk hP hS rfl hv dX6_pattern_55
    · have hv := hv.2 c274
      refine lv_bipush (v := (-2)) hx hb dX6_pattern_21 (by decide) ?_
      exact g_retX hx hb hrt hlk hP hS rfl hv dX6_pattern_23
  · have hv := hv.2 c271
    refine lv_iconst (v := (-1)) hx hb dX6_pattern_12 (by decide) ?_
    exact g_retX hx hb hrt hlk hP hS rfl hv dX6_pattern_13
set_option maxHeartbeats 4000000 in
set_option maxRecDepth 100000 in
theorem mX6_throwOf {l : Launch} {E : gE} {μ ν : gM} {τ : gJ} {Q : Int32 → gM → Prop} (hE : gLok E) {a1 : Int32}  (hv : vX6_throwOf a1 μ Q) : Met l yX6_throwOf (gws yX6_throwOf cX6_throwOf 2 (some .int)) (gRm 2 43) (gPc E [.ref (gL E 31), .int a1] μ ν τ) (gQiX E Q ν τ) 0 0 (gA E) := by
  refine g_entr (lv := [(0, .ref (gL E 31)), (1, .int a1)]) (by decide +kernel) (Nat.le_of_ble_eq_true rfl) rfl (fun p e s m args below meth c ls H locs hx hb hrt hlk C0 hK hP hS hl => ?_)
  have C0 : CallFix p m c cX6_throwOf 2 s args gTB RX6 := C0
  unfold vX6_throwOf at hv
  refine lv_aload_n hx hb dX6_throwOf_0 rfl (lv_at hl 0 rfl) (gg_X6_12 C0 hK hP dX6_throwOf_1 (lv_iload_n hx hb dX6_throwOf_4 rfl (lv_at hl 1 rfl) ?_))
  refine g_iX (g_bV (As := [.int a1]) (rest := []) C0 hK hP kX3_hasBeat ql_X6_89 (mX3_hasBeat hE (by decide) hv) (by decide) (gen_row (by decide)) rfl rfl hl.1 rfl (Nat.le_of_ble_eq_true rfl) ⟨rfl, rfl, Nat.le_of_ble_eq_true rfl, Nat.le_of_ble_eq_true rfl⟩ dX6_throwOf_5) hS (fun x300 μ301 H locs hv hP hS => ?_)
  refine lv_if_eq (tgt := 22) hx hb dX6_throwOf_8 (by decide) (fun c302 => ?_) (fun c302 => ?_)
  · have hv := hv.1 c302
    refine lv_iconst (v := (-1)) hx hb dX6_throwOf_22 (by decide) ?_
    exact g_retX hx hb hrt hlk hP hS rfl hv dX6_throwOf_23
  · have hv := hv.2 c302
    refine lv_aload_n hx hb dX6_throwOf_11 rfl (lv_at hl 0 rfl) (gg_X6_12 C0 hK hP dX6_throwOf_12 (lv_iload_n hx hb dX6_throwOf_15 rfl (lv_at hl 1 rfl) ?_))
    refine g_iX (g_bV (As := [.int a1]) (rest := []) C0 hK hP kX3_heightIn ql_X6_92 (mX3_heightIn hE (by decide) hv) (by decide) (gen_row (by decide)) rfl rfl hl.1 rfl (Nat.le_of_ble_eq_true rfl) ⟨rfl, rfl, Nat.le_of_ble_eq_true rfl, Nat.le_of_ble_eq_true rfl⟩ dX6_throwOf_16) hS (fun x303 μ304 H locs hv hP hS => ?_)
    refine lv_goto (tgt := 23) hx hb dX6_throwOf_19 (by decide) ?_
    exact g_retX hx hb hrt hlk hP hS rfl hv dX6_throwOf_23
set_option maxHeartbeats 4000000 in
set_option maxRecDepth 100000 in
theorem mX6_clash {l : Launch} {E : gE} {μ ν : gM} {τ : gJ} {Q : Int32 → gM → Prop} (hE : gLok E)   (hv : vX6_clash μ Q) : Met l yX6_clash (gws yX6_clash cX6_clash 1 (some .int)) (gRm 4 86) (gPc E [.ref (gL E 31)] μ ν τ) (gQiX E Q ν τ) 0 0 (gA E) := by
  refine g_entr (lv := [(0, .ref (gL E 31))]) (by decide +kernel) (Nat.le_of_ble_eq_true rfl) rfl (fun p e s m args below meth c ls H locs hx hb hrt hlk C0 hK hP hS hl => ?_)
  have C0 : CallFix p m c cX6_clash 1 s args gTB RX6 := C0
  unfold vX6_clash at hv
  refine lv_aload_n hx hb dX6_clash_0 rfl (lv_at hl 0 rfl) (gg_X6_12 C0 hK hP dX6_clash_1 ?_)
  refine g_iX (g_bV (As := []) (rest := []) C0 hK hP kX3_isThere ql_X6_96 (mX3_isThere hE (by decide) hv) (by decide) (gen_row (by decide)) rfl rfl hl.1 rfl (Nat.le_of_ble_eq_true rfl) ⟨rfl, rfl, Nat.le_of_ble_eq_true rfl, Nat.le_of_ble_eq_true rfl⟩ dX6_clash_4) hS (fun x305 μ306 H locs hv hP hS => ?_)
  refine lv_if_eq (tgt := 20) hx hb dX6_clash_7 (by decide) (fun c307 => ?_) (fun c307 => ?_)
  · have hv := hv.1 c307
    refine lv_bipush (v := (-3)) hx hb dX6_clash_20 (by decide) ?_
    exact g_retX hx hb hrt hlk hP hS rfl hv dX6_clash_22
  · have hv := hv.2 c307
    refine lv_aload_n hx hb dX6_clash_10 rfl (lv_at hl 0 rfl) (gg_X6_12 C0 hK hP dX6_clash_11 ?_)
    refine g_iX (g_bV (As := []) (rest := []) C0 hK hP kX3_firstClash ql_X6_100 (mX3_firstClash hE (by decide) hv) (by decide) (gen_row (by decide)) rfl rfl hl.1 rfl (Nat.le_of_ble_eq_true rfl) ⟨rfl, rfl, Nat.le_of_ble_eq_true rfl, Nat.le_of_ble_eq_true rfl⟩ dX6_clash_14) hS (fun x308 μ309 H locs hv hP hS => ?_)
    refine lv_goto (tgt := 22) hx hb dX6_clash_17 (by decide) ?_
    exact g_retX hx hb hrt hlk hP hS rfl hv dX6_clash_22
set_option maxHeartbeats 4000000 in
set_option maxRecDepth 100000 in
theorem mX6_good {l : Launch} {E : gE} {μ ν : gM} {τ : gJ} {Q : Int32 → gM → Prop} (hE : gLok E) {a1 : Int32}  (hv : vX6_good a1 μ Q) : Met l yX6_good (gws yX6_good cX6_good 2 (some .int)) (gRm 5 111) (gPc E [.ref (gL E 31), .int a1] μ ν τ) (gQiX E Q ν τ) 0 0 (gA E) := by
  refine g_entr (lv := [(0, .ref (gL E 31)), (1, .int a1)]) (by decide +kernel) (Nat.le_of_ble_eq_true rfl) rfl (fun p e s m args below meth c ls H locs hx hb hrt hlk C0 hK hP hS hl => ?_)
  have C0 : CallFix p m c cX6_good 2 s args gTB RX6 := C0
  unfold vX6_good at hv
  refine lv_iload_n hx hb dX6_good_0 rfl (lv_at hl 1 rfl) (lv_iconst (v := 0) hx hb dX6_good_1 (by decide) (lv_iconst (v := 4) hx hb dX6_good_2 (by decide) ?_))
  refine g_iS (g_bS (As := [.int a1, .int 0, .int 4]) (rest := []) C0 hK hP kX6_isWithin ql_X6_104 (mX6_isWithin hE hv) rfl hl.1 rfl (Nat.le_of_ble_eq_true rfl) ⟨rfl, rfl, Nat.le_of_ble_eq_true rfl, Nat.le_of_ble_eq_true rfl⟩ dX6_good_3) hS (fun x310 H locs hv hP hS => ?_)
  refine lv_if_ne (tgt := 12) hx hb dX6_good_6 (by decide) (fun c311 => ?_) (fun c311 => ?_)
  · have hv := hv.1 c311
    refine lv_aload_n hx hb dX6_good_12 rfl (lv_at hl 0 rfl) (gg_X6_12 C0 hK hP dX6_good_13 ?_)
    refine g_iX (g_bV (As := []) (rest := []) C0 hK hP kX3_isGood ql_X6_108 (mX3_isGood hE (by decide) hv) (by decide) (gen_row (by decide)) rfl rfl hl.1 rfl (Nat.le_of_ble_eq_true rfl) ⟨rfl, rfl, Nat.le_of_ble_eq_true rfl, Nat.le_of_ble_eq_true rfl⟩ dX6_good_16) hS (fun x312 μ313 H locs hv hP hS => ?_)
    refine lv_if_ne (tgt := 25) hx hb dX6_good_19 (by decide) (fun c314 => ?_) (fun c314 => ?_)
    · have hv := hv.1 c314
      refine lv_iload_n hx hb dX6_good_25 rfl (lv_at hl 1 rfl) ?_
      by_cases c315 : a1 = 0
      · refine lv_tableIn (tgt := 56) (off := 30) hx hb dX6_good_26 (by rw [c315]; decide) (by rw [c315]; decide) (by rw [c315]; rfl) (by decide) ?_
        have hv := hv.1 c315
        refine lv_aload_n hx hb dX6_good_56 rfl (lv_at hl 0 rfl) (gg_X6_12 C0 hK hP dX6_good_57 ?_)
        refine g_iX (g_bV (As := []) (rest := []) C0 hK hP kX3_ballCount ql_X6_111 (mX3_ballCount hE (by decide) hv) (by decide) (gen_row (by decide)) rfl rfl hl.1 rfl (Nat.le_of_ble_eq_true rfl) ⟨rfl, rfl, Nat.le_of_ble_eq_true rfl, Nat.le_of_ble_eq_true rfl⟩ dX6_good_60) hS (fun x316 μ317 H locs hv hP hS => ?_)
        exact g_retX hx hb hrt hlk hP hS rfl hv dX6_good_63
      · have hv := hv.2 c315
        by_cases c318 : a1 = 1
        · refine lv_tableIn (tgt := 64) (off := 38) hx hb dX6_good_26 (by rw [c318]; decide) (by rw [c318]; decide) (by rw [c318]; rfl) (by decide) ?_
          have hv := hv.1 c318
          refine lv_aload_n hx hb dX6_good_64 rfl (lv_at hl 0 rfl) (gg_X6_12 C0 hK hP dX6_good_65 ?_)
          refine g_iX (g_bV (As := []) (rest := []) C0 hK hP kX3_greatestHeight ql_X6_114 (mX3_greatestHeight hE (by decide) hv) (by decide) (gen_row (by decide)) rfl rfl hl.1 rfl (Nat.le_of_ble_eq_true rfl) ⟨rfl, rfl, Nat.le_of_ble_eq_true rfl, Nat.le_of_ble_eq_true rfl⟩ dX6_good_68) hS (fun x319 μ320 H locs hv hP hS => ?_)
          exact g_retX hx hb hrt hlk hP hS rfl hv dX6_good_71
        · have hv := hv.2 c318
          by_cases c321 : a1 = 2
          · refine lv_tableIn (tgt := 72) (off := 46) hx hb dX6_good_26 (by rw [c321]; decide) (by rw [c321]; decide) (by rw [c321]; rfl) (by decide) ?_
            have hv := hv.1 c321
            refine lv_aload_n hx hb dX6_good_72 rfl (lv_at hl 0 rfl) (gg_X6_12 C0 hK hP dX6_good_73 ?_)
            refine g_iX (g_bV (As := []) (rest := []) C0 hK hP kX3_isPrime ql_X6_117 (mX3_isPrime hE (by decide) hv) (by decide) (gen_row (by decide)) rfl rfl hl.1 rfl (Nat.le_of_ble_eq_true rfl) ⟨rfl, rfl, Nat.le_of_ble_eq_true rfl, Nat.le_of_ble_eq_true rfl⟩ dX6_good_76) hS (fun x322 μ323 H locs hv hP hS => ?_)
            refine lv_if_eq (tgt := 86) hx hb dX6_good_79 (by decide) (fun c324 => ?_) (fun c324 => ?_)
            · have hv := hv.1 c324
              refine lv_iconst (v := 0) hx hb dX6_good_86 (by decide) ?_
              exact g_retX hx hb hrt hlk hP hS rfl hv dX6_good_87
            · have hv := hv.2 c324
              refine lv_iconst (v := 1) hx hb dX6_good_82 (by decide) (lv_goto (tgt := 87) hx hb dX6_good_83 (by decide) ?_)
              exact g_retX hx hb hrt hlk hP hS rfl hv dX6_good_87
          · have hv := hv.2 c321
            by_cases c325 : a1 = 3
            · refine lv_tableIn (tgt := 88) (off := 62) hx hb dX6_good_26 (by rw [c325]; decide) (by rw [c325]; decide) (by rw [c325]; rfl) (by decide) ?_
              have hv := hv.1 c325
              refine lv_aload_n hx hb dX6_good_88 rfl (lv_at hl 0 rfl) (gg_X6_12 C0 hK hP dX6_good_89 ?_)
              refine g_iX (g_bV (As := []) (rest := []) C0 hK hP kX3_isGround ql_X6_120 (mX3_isGround hE (by decide) hv) (by decide) (gen_row (by decide)) rfl rfl hl.1 rfl (Nat.le_of_ble_eq_true rfl) ⟨rfl, rfl, Nat.le_of_ble_eq_true rfl, Nat.le_of_ble_eq_true rfl⟩ dX6_good_92) hS (fun x326 μ327 H locs hv hP hS => ?_)
              refine lv_if_eq (tgt := 102) hx hb dX6_good_95 (by decide) (fun c328 => ?_) (fun c328 => ?_)
              · have hv := hv.1 c328
                refine lv_iconst (v := 0) hx hb dX6_good_102 (by decide) ?_
                exact g_retX hx hb hrt hlk hP hS rfl hv dX6_good_103
              · have hv := hv.2 c328
                refine lv_iconst (v := 1) hx hb dX6_good_98 (by decide) (lv_goto (tgt := 103) hx hb dX6_good_99 (by decide) ?_)
                exact g_retX hx hb hrt hlk hP hS rfl hv dX6_good_103
            · have hv := hv.2 c325
              refine lv_tableOut (tgt := 104) hx hb dX6_good_26 (by have := ne_toInt (x := a1) (k := 0) (z := 0) (by decide) c315; have := ne_toInt (x := a1) (k := 1) (z := 1) (by decide) c318; have := ne_toInt (x := a1) (k := 2) (z := 2) (by decide) c321; have := ne_toInt (x := a1) (k := 3) (z := 3) (by decide) c325; omega) (by decide) ?_
              refine lv_aload_n hx hb dX6_good_104 rfl (lv_at hl 0 rfl) (gg_X6_12 C0 hK hP dX6_good_105 (lv_aload_n hx hb dX6_good_108 rfl (lv_at hl 0 rfl) (gg_X6_12 C0 hK hP dX6_good_109 (gg_X6_86 C0 hK hP (by decide) dX6_good_112 ?_))))
              refine g_iX (g_bV (As := [.int (μ313 0 1)]) (rest := []) C0 hK hP kX3_orbitsBelow ql_X6_123 (mX3_orbitsBelow hE (by decide) hv) (by decide) (gen_row (by decide)) rfl rfl hl.1 rfl (Nat.le_of_ble_eq_true rfl) ⟨rfl, rfl, Nat.le_of_ble_eq_true rfl, Nat.le_of_ble_eq_true rfl⟩ dX6_good_115) hS (fun x329 μ330 H locs hv hP hS => ?_)
              exact g_retX hx hb hrt hlk hP hS rfl hv dX6_good_118
    · have hv := hv.2 c314
      refine lv_bipush (v := (-3)) hx hb dX6_good_22 (by decide) ?_
      exact g_retX hx hb hrt hlk hP hS rfl hv dX6_good_24
  · have hv := hv.2 c311
    refine lv_bipush (v := (-2)) hx hb dX6_good_9 (by decide) ?_
    exact g_retX hx hb hrt hlk hP hS rfl hv dX6_good_11
set_option maxHeartbeats 4000000 in
set_option maxRecDepth 100000 in
theorem mX6_state {l : Launch} {E : gE} {μ ν : gM} {τ : gJ} {Q : Int32 → gM → Prop} (hE : gLok E) {a1 : Int32}  (hv : vX6_state a1 μ Q) : Met l yX6_state (gws yX6_state cX6_state 2 (some .int)) (gRm 5 106) (gPc E [.ref (gL E 31), .int a1] μ ν τ) (gQiX E Q ν τ) 0 0 (gA E) := by
  refine g_entr (lv := [(0, .ref (gL E 31)), (1, .int a1)]) (by decide +kernel) (Nat.le_of_ble_eq_true rfl) rfl (fun p e s m args below meth c ls H locs hx hb hrt hlk C0 hK hP hS hl => ?_)
  have C0 : CallFix p m c cX6_state 2 s args gTB RX6 := C0
  unfold vX6_state at hv
  refine lv_aload_n hx hb dX6_state_0 rfl (lv_at hl 0 rfl) (gg_X6_12 C0 hK hP dX6_state_1 (lv_iload_n hx hb dX6_state_4 rfl (lv_at hl 1 rfl) ?_))
  refine g_iX (g_bV (As := [.int a1]) (rest := []) C0 hK hP kX3_hasBeat ql_X6_89 (mX3_hasBeat hE (by decide) hv) (by decide) (gen_row (by decide)) rfl rfl hl.1 rfl (Nat.le_of_ble_eq_true rfl) ⟨rfl, rfl, Nat.le_of_ble_eq_true rfl, Nat.le_of_ble_eq_true rfl⟩ dX6_state_5) hS (fun x331 μ332 H locs hv hP hS => ?_)
  refine lv_if_ne (tgt := 13) hx hb dX6_state_8 (by decide) (fun c333 => ?_) (fun c333 => ?_)
  · have hv := hv.1 c333
    refine lv_aload_n hx hb dX6_state_13 rfl (lv_at hl 0 rfl) (gg_X6_12 C0 hK hP dX6_state_14 ?_)
    refine g_iX (g_bV (As := []) (rest := []) C0 hK hP kX3_isGood ql_X6_108 (mX3_isGood hE (by decide) hv) (by decide) (gen_row (by decide)) rfl rfl hl.1 rfl (Nat.le_of_ble_eq_true rfl) ⟨rfl, rfl, Nat.le_of_ble_eq_true rfl, Nat.le_of_ble_eq_true rfl⟩ dX6_state_17) hS (fun x334 μ335 H locs hv hP hS => ?_)
    refine lv_if_eq (tgt := 34) hx hb dX6_state_20 (by decide) (fun c336 => ?_) (fun c336 => ?_)
    · have hv := hv.1 c336
      refine lv_bipush (v := (-3)) hx hb dX6_state_34 (by decide) ?_
      exact g_retX hx hb hrt hlk hP hS rfl hv dX6_state_36
    · have hv := hv.2 c336
      refine lv_aload_n hx hb dX6_state_23 rfl (lv_at hl 0 rfl) (gg_X6_12 C0 hK hP dX6_state_24 (lv_iload_n hx hb dX6_state_27 rfl (lv_at hl 1 rfl) ?_))
      refine g_iX (g_bV (As := [.int a1]) (rest := []) C0 hK hP kX3_stateAhead ql_X6_126 (mX3_stateAhead hE (by decide) hv) (by decide) (gen_row (by decide)) rfl rfl hl.1 rfl (Nat.le_of_ble_eq_true rfl) ⟨rfl, rfl, Nat.le_of_ble_eq_true rfl, Nat.le_of_ble_eq_true rfl⟩ dX6_state_28) hS (fun x337 μ338 H locs hv hP hS => ?_)
      refine lv_goto (tgt := 36) hx hb dX6_state_31 (by decide) ?_
      exact g_retX hx hb hrt hlk hP hS rfl hv dX6_state_36
  · have hv := hv.2 c333
    refine lv_iconst (v := (-1)) hx hb dX6_state_11 (by decide) ?_
    exact g_retX hx hb hrt hlk hP hS rfl hv dX6_state_12
set_option maxHeartbeats 4000000 in
set_option maxRecDepth 100000 in
theorem mX6_ball {l : Launch} {E : gE} {μ ν : gM} {τ : gJ} {Q : Int32 → gM → Prop} (hE : gLok E) {a1 : Int32}  (hv : vX6_ball a1 μ Q) : Met l yX6_ball (gws yX6_ball cX6_ball 4 (some .int)) (gRm 5 106) (gPc E [.ref (gL E 31), .int a1] μ ν τ) (gQiX E Q ν τ) 0 0 (gA E) := by
  refine g_entr (lv := [(0, .ref (gL E 31)), (1, .int a1)]) (by decide +kernel) (Nat.le_of_ble_eq_true rfl) rfl (fun p e s m args below meth c ls H locs hx hb hrt hlk C0 hK hP hS hl => ?_)
  have C0 : CallFix p m c cX6_ball 4 s args gTB RX6 := C0
  have h_39 : ∀ (n_39 : Nat) (v2 : Int32) (v3 : Int32) (μ : gM) (H : Heap) (locs : List Loc) (ls : Array Slot), va_P (gD E) vwCl (wl E μ ν τ) H → va_S (gA E) s.heap H locs → lv_has ls 4 [(0, .ref (gL E 31)), (1, .int a1), (2, .int v2), (3, .int v3)] → vX6_ball_39 a1 Q n_39 v2 v3 μ → W p l e (gRm 5 106) s m args below meth c H locs 0 0 (MQ below (gQiX E Q ν τ) args s 0 0 (gA E)) (F0 m 39 ls []) := by
    intro n_39
    induction n_39 with
    | zero =>
      intro v2 v3 μ H locs ls hP hS hl hv
      exact False.elim hv
    | succ n_39 ih_39 =>
      intro v2 v3 μ H locs ls hP hS hl hv
      have hv : vX6_ball_39B a1 Q (vX6_ball_39 a1 Q n_39) v2 v3 μ := hv
      unfold vX6_ball_39B at hv
      refine lv_iload_n hx hb dX6_ball_39 rfl (lv_at hl 3 rfl) (lv_iload_n hx hb dX6_ball_40 rfl (lv_at hl 1 rfl) ?_)
      refine lv_icmp_gt (tgt := 67) hx hb dX6_ball_41 (by decide) (fun c346 => ?_) (fun c346 => ?_)
      · have hv := hv.1 c346
        refine lv_iload_n hx hb dX6_ball_67 rfl (lv_at hl 2 rfl) ?_
        exact g_retX hx hb hrt hlk hP hS rfl hv dX6_ball_68
      · have hv := hv.2 c346
        refine lv_aload_n hx hb dX6_ball_44 rfl (lv_at hl 0 rfl) (gg_X6_34 C0 hK hP dX6_ball_45 (lv_iload_n hx hb dX6_ball_48 rfl (lv_at hl 3 rfl) (lv_aload_n hx hb dX6_ball_49 rfl (lv_at hl 0 rfl) (gg_X6_12 C0 hK hP dX6_ball_50 (lv_iload_n hx hb dX6_ball_53 rfl (lv_at hl 3 rfl) ?_)))))
        refine g_iX (g_bV (As := [.int v3]) (rest := [.int v3, .ref (gL E 18)]) C0 hK hP kX3_heightIn ql_X6_92 (mX3_heightIn hE (by decide) hv) (by decide) (gen_row (by decide)) rfl rfl hl.1 rfl (Nat.le_of_ble_eq_true rfl) ⟨rfl, rfl, Nat.le_of_ble_eq_true rfl, Nat.le_of_ble_eq_true rfl⟩ dX6_ball_54) hS (fun x347 μ348 H locs hv hP hS => ?_)
        refine g_iX (g_bV (As := [.int v3, .int x347]) (rest := []) C0 hK hP kX1_pass ql_X6_132 (mX1_pass hE hv) (by decide) ge_X1 rfl rfl hl.1 rfl (Nat.le_of_ble_eq_true rfl) ⟨rfl, rfl, Nat.le_of_ble_eq_true rfl, Nat.le_of_ble_eq_true rfl⟩ dX6_ball_57) hS (fun x349 μ350 H locs hv hP hS => ?_)
        refine lv_istore_n (lv' := [(2, .int x349), (0, .ref (gL E 31)), (1, .int a1), (3, .int v3)]) hx hb dX6_ball_60 rfl hl (by decide) rfl (fun ls hl => (lv_iinc (v := (v3 + 1)) (lv' := [(3, .int (v3 + 1)), (2, .int x349), (0, .ref (gL E 31)), (1, .int a1)]) hx hb dX6_ball_61 hl (k := 3) rfl rfl (by decide) rfl (fun ls hl => (lv_goto (tgt := 39) hx hb dX6_ball_64 (by decide) ?_))))
        exact ih_39 x349 (v3 + 1) μ350 H locs ls hP hS (lv_sub hl [2, 3, 1, 0] rfl) hv
  unfold vX6_ball at hv
  refine lv_iload_n hx hb dX6_ball_0 rfl (lv_at hl 1 rfl) (lv_iconst (v := 0) hx hb dX6_ball_1 (by decide) (lv_sipush (v := 999) hx hb dX6_ball_2 (by decide) ?_))
  refine g_iS (g_bS (As := [.int a1, .int 0, .int 999]) (rest := []) C0 hK hP kX6_isWithin ql_X6_104 (mX6_isWithin hE hv) rfl hl.1 rfl (Nat.le_of_ble_eq_true rfl) ⟨rfl, rfl, Nat.le_of_ble_eq_true rfl, Nat.le_of_ble_eq_true rfl⟩ dX6_ball_5) hS (fun x339 H locs hv hP hS => ?_)
  refine lv_if_ne (tgt := 14) hx hb dX6_ball_8 (by decide) (fun c340 => ?_) (fun c340 => ?_)
  · have hv := hv.1 c340
    refine lv_aload_n hx hb dX6_ball_14 rfl (lv_at hl 0 rfl) (gg_X6_12 C0 hK hP dX6_ball_15 ?_)
    refine g_iX (g_bV (As := []) (rest := []) C0 hK hP kX3_isGood ql_X6_108 (mX3_isGood hE (by decide) hv) (by decide) (gen_row (by decide)) rfl rfl hl.1 rfl (Nat.le_of_ble_eq_true rfl) ⟨rfl, rfl, Nat.le_of_ble_eq_true rfl, Nat.le_of_ble_eq_true rfl⟩ dX6_ball_18) hS (fun x341 μ342 H locs hv hP hS => ?_)
    refine lv_if_ne (tgt := 27) hx hb dX6_ball_21 (by decide) (fun c343 => ?_) (fun c343 => ?_)
    · have hv := hv.1 c343
      refine lv_aload_n hx hb dX6_ball_27 rfl (lv_at hl 0 rfl) (gg_X6_34 C0 hK hP dX6_ball_28 ?_)
      refine g_vX (g_bV (As := []) (rest := []) C0 hK hP kX1_begin ql_X6_129 (mX1_begin hE hv) (by decide) ge_X1 rfl rfl hl.1 rfl (Nat.le_of_ble_eq_true rfl) ⟨rfl, rfl, Nat.le_of_ble_eq_true rfl, Nat.le_of_ble_eq_true rfl⟩ dX6_ball_31) hS (fun μ345 H locs hv hP hS => ?_)
      refine lv_bipush (v := (-9)) hx hb dX6_ball_34 (by decide) (lv_istore_n (lv' := [(2, .int (-9)), (0, .ref (gL E 31)), (1, .int a1)]) hx hb dX6_ball_36 rfl hl (by decide) rfl (fun ls hl => (lv_iconst (v := 0) hx hb dX6_ball_37 (by decide) (lv_istore_n (lv' := [(3, .int 0), (2, .int (-9)), (0, .ref (gL E 31)), (1, .int a1)]) hx hb dX6_ball_38 rfl hl (by decide) rfl (fun ls hl => ?_)))))
      obtain ⟨nf, hv⟩ := hv
      exact h_39 nf (-9) 0 μ345 H locs ls hP hS (lv_sub hl [2, 3, 1, 0] rfl) hv
    · have hv := hv.2 c343
      refine lv_bipush (v := (-3)) hx hb dX6_ball_24 (by decide) ?_
      exact g_retX hx hb hrt hlk hP hS rfl hv dX6_ball_26
  · have hv := hv.2 c340
    refine lv_bipush (v := (-2)) hx hb dX6_ball_11 (by decide) ?_
    exact g_retX hx hb hrt hlk hP hS rfl hv dX6_ball_13
set_option maxHeartbeats 4000000 in
set_option maxRecDepth 100000 in
theorem mX6_orbit {l : Launch} {E : gE} {μ ν : gM} {τ : gJ} {Q : Int32 → gM → Prop} (hE : gLok E) {a1 : Int32}  (hv : vX6_orbit a1 μ Q) : Met l yX6_orbit (gws yX6_orbit cX6_orbit 2 (some .int)) (gRm 5 111) (gPc E [.ref (gL E 31), .int a1] μ ν τ) (gQiX E Q ν τ) 0 0 (gA E) := by
  refine g_entr (lv := [(0, .ref (gL E 31)), (1, .int a1)]) (by decide +kernel) (Nat.le_of_ble_eq_true rfl) rfl (fun p e s m args below meth c ls H locs hx hb hrt hlk C0 hK hP hS hl => ?_)
  have C0 : CallFix p m c cX6_orbit 2 s args gTB RX6 := C0
  unfold vX6_orbit at hv
  refine lv_aload_n hx hb dX6_orbit_0 rfl (lv_at hl 0 rfl) (gg_X6_12 C0 hK hP dX6_orbit_1 (lv_iload_n hx hb dX6_orbit_4 rfl (lv_at hl 1 rfl) ?_))
  refine g_iX (g_bV (As := [.int a1]) (rest := []) C0 hK hP kX3_hasBeat ql_X6_89 (mX3_hasBeat hE (by decide) hv) (by decide) (gen_row (by decide)) rfl rfl hl.1 rfl (Nat.le_of_ble_eq_true rfl) ⟨rfl, rfl, Nat.le_of_ble_eq_true rfl, Nat.le_of_ble_eq_true rfl⟩ dX6_orbit_5) hS (fun x351 μ352 H locs hv hP hS => ?_)
  refine lv_if_ne (tgt := 13) hx hb dX6_orbit_8 (by decide) (fun c353 => ?_) (fun c353 => ?_)
  · have hv := hv.1 c353
    refine lv_aload_n hx hb dX6_orbit_13 rfl (lv_at hl 0 rfl) (gg_X6_12 C0 hK hP dX6_orbit_14 ?_)
    refine g_iX (g_bV (As := []) (rest := []) C0 hK hP kX3_isGood ql_X6_108 (mX3_isGood hE (by decide) hv) (by decide) (gen_row (by decide)) rfl rfl hl.1 rfl (Nat.le_of_ble_eq_true rfl) ⟨rfl, rfl, Nat.le_of_ble_eq_true rfl, Nat.le_of_ble_eq_true rfl⟩ dX6_orbit_17) hS (fun x354 μ355 H locs hv hP hS => ?_)
    refine lv_if_eq (tgt := 41) hx hb dX6_orbit_20 (by decide) (fun c356 => ?_) (fun c356 => ?_)
    · have hv := hv.1 c356
      refine lv_bipush (v := (-3)) hx hb dX6_orbit_41 (by decide) ?_
      exact g_retX hx hb hrt hlk hP hS rfl hv dX6_orbit_43
    · have hv := hv.2 c356
      refine lv_aload_n hx hb dX6_orbit_23 rfl (lv_at hl 0 rfl) (gg_X6_12 C0 hK hP dX6_orbit_24 (lv_aload_n hx hb dX6_orbit_27 rfl (lv_at hl 0 rfl) (gg_X6_12 C0 hK hP dX6_orbit_28 (lv_iload_n hx hb dX6_orbit_31 rfl (lv_at hl 1 rfl) ?_))))
      refine g_iX (g_bV (As := [.int a1]) (rest := [.ref (gL E 0)]) C0 hK hP kX3_leastInOrbit ql_X6_136 (mX3_leastInOrbit hE (by decide) hv) (by decide) (gen_row (by decide)) rfl rfl hl.1 rfl (Nat.le_of_ble_eq_true rfl) ⟨rfl, rfl, Nat.le_of_ble_eq_true rfl, Nat.le_of_ble_eq_true rfl⟩ dX6_orbit_32) hS (fun x357 μ358 H locs hv hP hS => ?_)
      refine g_iX (g_bV (As := [.int x357]) (rest := []) C0 hK hP kX3_orbitsBelow ql_X6_123 (mX3_orbitsBelow hE (by decide) hv) (by decide) (gen_row (by decide)) rfl rfl hl.1 rfl (Nat.le_of_ble_eq_true rfl) ⟨rfl, rfl, Nat.le_of_ble_eq_true rfl, Nat.le_of_ble_eq_true rfl⟩ dX6_orbit_35) hS (fun x359 μ360 H locs hv hP hS => ?_)
      refine lv_goto (tgt := 43) hx hb dX6_orbit_38 (by decide) ?_
      exact g_retX hx hb hrt hlk hP hS rfl hv dX6_orbit_43
  · have hv := hv.2 c353
    refine lv_iconst (v := (-1)) hx hb dX6_orbit_11 (by decide) ?_
    exact g_retX hx hb hrt hlk hP hS rfl hv dX6_orbit_12
set_option maxHeartbeats 4000000 in
set_option maxRecDepth 100000 in
theorem mX6_hands {l : Launch} {E : gE} {μ ν : gM} {τ : gJ} {Q : Int32 → gM → Prop} (hE : gLok E) {a1 : Int32}  (hv : vX6_hands a1 μ Q) : Met l yX6_hands (gws yX6_hands cX6_hands 3 (some .int)) (gRm 1 22) (gPc E [.ref (gL E 31), .int a1] μ ν τ) (gQiX E Q ν τ) 0 0 (gA E) := by
  refine g_entr (lv := [(0, .ref (gL E 31)), (1, .int a1)]) (by decide +kernel) (Nat.le_of_ble_eq_true rfl) rfl (fun p e s m args below meth c ls H locs hx hb hrt hlk C0 hK hP hS hl => ?_)
  have C0 : CallFix p m c cX6_hands 3 s args gTB RX6 := C0
  unfold vX6_hands at hv
  refine lv_iload_n hx hb dX6_hands_0 rfl (lv_at hl 1 rfl) (lv_iconst (v := 1) hx hb dX6_hands_1 (by decide) (lv_iconst (v := 4) hx hb dX6_hands_2 (by decide) ?_))
  refine g_iS (g_bS (As := [.int a1, .int 1, .int 4]) (rest := []) C0 hK hP kX6_isWithin ql_X6_104 (mX6_isWithin hE hv) rfl hl.1 rfl (Nat.le_of_ble_eq_true rfl) ⟨rfl, rfl, Nat.le_of_ble_eq_true rfl, Nat.le_of_ble_eq_true rfl⟩ dX6_hands_3) hS (fun x361 H locs hv hP hS => ?_)
  refine lv_if_ne (tgt := 12) hx hb dX6_hands_6 (by decide) (fun c362 => ?_) (fun c362 => ?_)
  · have hv := hv.1 c362
    refine lv_aload_n hx hb dX6_hands_12 rfl (lv_at hl 0 rfl) (gg_X6_12 C0 hK hP dX6_hands_13 ?_)
    refine g_iX (g_bV (As := []) (rest := []) C0 hK hP kX3_isThere ql_X6_96 (mX3_isThere hE (by decide) hv) (by decide) (gen_row (by decide)) rfl rfl hl.1 rfl (Nat.le_of_ble_eq_true rfl) ⟨rfl, rfl, Nat.le_of_ble_eq_true rfl, Nat.le_of_ble_eq_true rfl⟩ dX6_hands_16) hS (fun x363 μ364 H locs hv hP hS => ?_)
    refine lv_if_ne (tgt := 25) hx hb dX6_hands_19 (by decide) (fun c365 => ?_) (fun c365 => ?_)
    · have hv := hv.1 c365
      refine lv_aload_n hx hb dX6_hands_25 rfl (lv_at hl 0 rfl) (gg_X6_59 C0 hK hP dX6_hands_26 (lv_istore_n (lv' := [(2, .int (μ364 31 8)), (0, .ref (gL E 31)), (1, .int a1)]) hx hb dX6_hands_29 rfl hl (by decide) rfl (fun ls hl => (lv_aload_n hx hb dX6_hands_30 rfl (lv_at hl 1 rfl) (lv_iload_n hx hb dX6_hands_31 rfl (lv_at hl 2 rfl) (gp_X6_59 hE C0 hK hP hS dX6_hands_32 (fun H locs hP hS => (lv_iload_n hx hb dX6_hands_35 rfl (lv_at hl 0 rfl) ?_))))))))
      exact g_retX hx hb hrt hlk hP hS rfl hv dX6_hands_36
    · have hv := hv.2 c365
      refine lv_bipush (v := (-3)) hx hb dX6_hands_22 (by decide) ?_
      exact g_retX hx hb hrt hlk hP hS rfl hv dX6_hands_24
  · have hv := hv.2 c362
    refine lv_bipush (v := (-2)) hx hb dX6_hands_9 (by decide) ?_
    exact g_retX hx hb hrt hlk hP hS rfl hv dX6_hands_11
set_option maxHeartbeats 4000000 in
set_option maxRecDepth 100000 in
theorem mX6_handIn {l : Launch} {E : gE} {μ ν : gM} {τ : gJ} {Q : Int32 → gM → Prop} (hE : gLok E) {a1 : Int32}  (hv : vX6_handIn a1 μ Q) : Met l yX6_handIn (gws yX6_handIn cX6_handIn 2 (some .int)) (gRm 0 0) (gPc E [.ref (gL E 31), .int a1] μ ν τ) (gQiX E Q ν τ) 0 0 (gA E) := by
  refine g_entr (lv := [(0, .ref (gL E 31)), (1, .int a1)]) (by decide +kernel) (Nat.le_of_ble_eq_true rfl) rfl (fun p e s m args below meth c ls H locs hx hb hrt hlk C0 hK hP hS hl => ?_)
  have C0 : CallFix p m c cX6_handIn 2 s args gTB RX6 := C0
  unfold vX6_handIn at hv
  refine lv_aload_n hx hb dX6_handIn_0 rfl (lv_at hl 0 rfl) (gg_X6_59 C0 hK hP dX6_handIn_1 (lv_iconst (v := 1) hx hb dX6_handIn_4 (by decide) ?_))
  refine lv_icmp_ge (tgt := 13) hx hb dX6_handIn_5 (by decide) (fun c381 => ?_) (fun c381 => ?_)
  · have hv := hv.1 c381
    refine lv_iload_n hx hb dX6_handIn_13 rfl (lv_at hl 1 rfl) (lv_aload_n hx hb dX6_handIn_14 rfl (lv_at hl 0 rfl) (gg_X6_59 C0 hK hP dX6_handIn_15 ?_))
    have hd := hv.1
    have hv := hv.2
    refine lv_irem hx hb dX6_handIn_18 hd ?_
    exact g_retX hx hb hrt hlk hP hS rfl hv dX6_handIn_19
  · have hv := hv.2 c381
    refine lv_bipush (v := (-9)) hx hb dX6_handIn_8 (by decide) (lv_goto (tgt := 19) hx hb dX6_handIn_10 (by decide) ?_)
    exact g_retX hx hb hrt hlk hP hS rfl hv dX6_handIn_19
set_option maxHeartbeats 4000000 in
set_option maxRecDepth 100000 in
theorem mX6_beat {l : Launch} {E : gE} {μ ν : gM} {τ : gJ} {Q : Int32 → gM → Prop} (hE : gLok E) {a1 : Int32} {a2 : Int32}  (hv : vX6_beat a1 a2 μ Q) : Met l yX6_beat (gws yX6_beat cX6_beat 4 (some .int)) (gRm 5 106) (gPc E [.ref (gL E 31), .int a1, .int a2] μ ν τ) (gQiX E Q ν τ) 0 0 (gA E) := by
  refine g_entr (lv := [(0, .ref (gL E 31)), (1, .int a1), (2, .int a2)]) (by decide +kernel) (Nat.le_of_ble_eq_true rfl) rfl (fun p e s m args below meth c ls H locs hx hb hrt hlk C0 hK hP hS hl => ?_)
  have C0 : CallFix p m c cX6_beat 4 s args gTB RX6 := C0
  unfold vX6_beat at hv
  refine lv_iload_n hx hb dX6_beat_0 rfl (lv_at hl 1 rfl) (lv_iconst (v := 0) hx hb dX6_beat_1 (by decide) (lv_sipush (v := 999) hx hb dX6_beat_2 (by decide) ?_))
  refine g_iS (g_bS (As := [.int a1, .int 0, .int 999]) (rest := []) C0 hK hP kX6_isWithin ql_X6_104 (mX6_isWithin hE hv) rfl hl.1 rfl (Nat.le_of_ble_eq_true rfl) ⟨rfl, rfl, Nat.le_of_ble_eq_true rfl, Nat.le_of_ble_eq_true rfl⟩ dX6_beat_5) hS (fun x366 H locs hv hP hS => ?_)
  refine lv_if_eq (tgt := 20) hx hb dX6_beat_8 (by decide) (fun c367 => ?_) (fun c367 => ?_)
  · have hv := hv.1 c367
    refine lv_bipush (v := (-2)) hx hb dX6_beat_20 (by decide) ?_
    exact g_retX hx hb hrt hlk hP hS rfl hv dX6_beat_22
  · have hv := hv.2 c367
    refine lv_iload_n hx hb dX6_beat_11 rfl (lv_at hl 2 rfl) (lv_iconst (v := 0) hx hb dX6_beat_12 (by decide) (lv_iconst (v := 2) hx hb dX6_beat_13 (by decide) ?_))
    refine g_iS (g_bS (As := [.int a2, .int 0, .int 2]) (rest := []) C0 hK hP kX6_isWithin ql_X6_104 (mX6_isWithin hE hv) rfl hl.1 rfl (Nat.le_of_ble_eq_true rfl) ⟨rfl, rfl, Nat.le_of_ble_eq_true rfl, Nat.le_of_ble_eq_true rfl⟩ dX6_beat_14) hS (fun x368 H locs hv hP hS => ?_)
    refine lv_if_ne (tgt := 23) hx hb dX6_beat_17 (by decide) (fun c369 => ?_) (fun c369 => ?_)
    · have hv := hv.1 c369
      refine lv_aload_n hx hb dX6_beat_23 rfl (lv_at hl 0 rfl) (gg_X6_12 C0 hK hP dX6_beat_24 ?_)
      refine g_iX (g_bV (As := []) (rest := []) C0 hK hP kX3_isGood ql_X6_108 (mX3_isGood hE (by decide) hv) (by decide) (gen_row (by decide)) rfl rfl hl.1 rfl (Nat.le_of_ble_eq_true rfl) ⟨rfl, rfl, Nat.le_of_ble_eq_true rfl, Nat.le_of_ble_eq_true rfl⟩ dX6_beat_27) hS (fun x370 μ371 H locs hv hP hS => ?_)
      refine lv_if_ne (tgt := 36) hx hb dX6_beat_30 (by decide) (fun c372 => ?_) (fun c372 => ?_)
      · have hv := hv.1 c372
        refine lv_iload_n hx hb dX6_beat_36 rfl (lv_at hl 2 rfl) ?_
        refine lv_if_ne (tgt := 46) hx hb dX6_beat_37 (by decide) (fun c373 => ?_) (fun c373 => ?_)
        · have hv := hv.1 c373
          refine lv_iload_n hx hb dX6_beat_46 rfl (lv_at hl 2 rfl) (lv_iconst (v := 1) hx hb dX6_beat_47 (by decide) ?_)
          refine lv_icmp_ne (tgt := 77) hx hb dX6_beat_48 (by decide) (fun c374 => ?_) (fun c374 => ?_)
          · have hv := hv.1 c374
            refine lv_aload_n hx hb dX6_beat_77 rfl (lv_at hl 0 rfl) (gg_X6_12 C0 hK hP dX6_beat_78 (lv_iload_n hx hb dX6_beat_81 rfl (lv_at hl 1 rfl) ?_))
            refine g_iX (g_bV (As := [.int a1]) (rest := []) C0 hK hP kX3_stateAhead ql_X6_126 (mX3_stateAhead hE (by decide) hv) (by decide) (gen_row (by decide)) rfl rfl hl.1 rfl (Nat.le_of_ble_eq_true rfl) ⟨rfl, rfl, Nat.le_of_ble_eq_true rfl, Nat.le_of_ble_eq_true rfl⟩ dX6_beat_82) hS (fun x375 μ376 H locs hv hP hS => ?_)
            refine lv_iconst (v := 1) hx hb dX6_beat_85 (by decide) (lv_ishr hx hb dX6_beat_86 ?_)
            refine g_iS (g_bS (As := [.int (x375 >>> ((1 : Int32) &&& 31))]) (rest := []) C0 hK hP kJ6_bitCount_0f7a4 ql_X6_142 (mJ6_bitCount_0f7a4 hE hv) rfl hl.1 rfl (Nat.le_of_ble_eq_true rfl) ⟨rfl, rfl, Nat.le_of_ble_eq_true rfl, Nat.le_of_ble_eq_true rfl⟩ dX6_beat_87) hS (fun x377 H locs hv hP hS => ?_)
            exact g_retX hx hb hrt hlk hP hS rfl hv dX6_beat_90
          · have hv := hv.2 c374
            refine lv_aload_n hx hb dX6_beat_51 rfl (lv_at hl 0 rfl) (gg_X6_12 C0 hK hP dX6_beat_52 (lv_iload_n hx hb dX6_beat_55 rfl (lv_at hl 1 rfl) ?_))
            refine g_iX (g_bV (As := [.int a1]) (rest := []) C0 hK hP kX3_heightIn ql_X6_92 (mX3_heightIn hE (by decide) hv) (by decide) (gen_row (by decide)) rfl rfl hl.1 rfl (Nat.le_of_ble_eq_true rfl) ⟨rfl, rfl, Nat.le_of_ble_eq_true rfl, Nat.le_of_ble_eq_true rfl⟩ dX6_beat_56) hS (fun x378 μ379 H locs hv hP hS => ?_)
            refine lv_istore_n (lv' := [(3, .int x378), (0, .ref (gL E 31)), (1, .int a1), (2, .int a2)]) hx hb dX6_beat_59 rfl hl (by decide) rfl (fun ls hl => (lv_iload_n hx hb dX6_beat_60 rfl (lv_at hl 0 rfl) ?_))
            refine lv_if_ne (tgt := 69) hx hb dX6_beat_61 (by decide) (fun c380 => ?_) (fun c380 => ?_)
            · have hv := hv.1 c380
              refine lv_aload_n hx hb dX6_beat_69 rfl (lv_at hl 1 rfl) (lv_iload_n hx hb dX6_beat_70 rfl (lv_at hl 2 rfl) (lv_iload_n hx hb dX6_beat_71 rfl (lv_at hl 0 rfl) (lv_iadd hx hb dX6_beat_72 ?_)))
              refine g_iX (g_bV (As := [.int (a1 + x378)]) (rest := []) C0 hK hP kX6_handIn ql_X6_139 (mX6_handIn hE hv) (by decide) ge_X6 rfl rfl hl.1 rfl (Nat.le_of_ble_eq_true rfl) ⟨rfl, rfl, Nat.le_of_ble_eq_true rfl, Nat.le_of_ble_eq_true rfl⟩ dX6_beat_73) hS (fun x382 μ383 H locs hv hP hS => ?_)
              exact g_retX hx hb hrt hlk hP hS rfl hv dX6_beat_76
            · have hv := hv.2 c380
              refine lv_bipush (v := (-9)) hx hb dX6_beat_64 (by decide) (lv_goto (tgt := 76) hx hb dX6_beat_66 (by decide) ?_)
              exact g_retX hx hb hrt hlk hP hS rfl hv dX6_beat_76
        · have hv := hv.2 c373
          refine lv_aload_n hx hb dX6_beat_40 rfl (lv_at hl 0 rfl) (lv_iload_n hx hb dX6_beat_41 rfl (lv_at hl 1 rfl) ?_)
          refine g_iX (g_bV (As := [.int a1]) (rest := []) C0 hK hP kX6_handIn ql_X6_139 (mX6_handIn hE hv) (by decide) ge_X6 rfl rfl hl.1 rfl (Nat.le_of_ble_eq_true rfl) ⟨rfl, rfl, Nat.le_of_ble_eq_true rfl, Nat.le_of_ble_eq_true rfl⟩ dX6_beat_42) hS (fun x384 μ385 H locs hv hP hS => ?_)
          exact g_retX hx hb hrt hlk hP hS rfl hv dX6_beat_45
      · have hv := hv.2 c372
        refine lv_bipush (v := (-3)) hx hb dX6_beat_33 (by decide) ?_
        exact g_retX hx hb hrt hlk hP hS rfl hv dX6_beat_35
    · have hv := hv.2 c369
      refine lv_bipush (v := (-2)) hx hb dX6_beat_20 (by decide) ?_
      exact g_retX hx hb hrt hlk hP hS rfl hv dX6_beat_22
set_option maxHeartbeats 4000000 in
set_option maxRecDepth 100000 in
theorem mX6_swap {l : Launch} {E : gE} {μ ν : gM} {τ : gJ} {Q : Int32 → gM → Prop} (hE : gLok E) {a1 : Int32} {a2 : Int32}  (hv : vX6_swap a1 a2 μ Q) : Met l yX6_swap (gws yX6_swap cX6_swap 5 (some .int)) (gRm 2 43) (gPc E [.ref (gL E 31), .int a1, .int a2] μ ν τ) (gQiX E Q ν τ) 0 0 (gA E) := by
  refine g_entr (lv := [(0, .ref (gL E 31)), (1, .int a1), (2, .int a2)]) (by decide +kernel) (Nat.le_of_ble_eq_true rfl) rfl (fun p e s m args below meth c ls H locs hx hb hrt hlk C0 hK hP hS hl => ?_)
  have C0 : CallFix p m c cX6_swap 5 s args gTB RX6 := C0
  unfold vX6_swap at hv
  refine lv_aload_n hx hb dX6_swap_0 rfl (lv_at hl 0 rfl) (gg_X6_12 C0 hK hP dX6_swap_1 (lv_iload_n hx hb dX6_swap_4 rfl (lv_at hl 1 rfl) ?_))
  refine g_iX (g_bV (As := [.int a1]) (rest := []) C0 hK hP kX3_hasBeat ql_X6_89 (mX3_hasBeat hE (by decide) hv) (by decide) (gen_row (by decide)) rfl rfl hl.1 rfl (Nat.le_of_ble_eq_true rfl) ⟨rfl, rfl, Nat.le_of_ble_eq_true rfl, Nat.le_of_ble_eq_true rfl⟩ dX6_swap_5) hS (fun x386 μ387 H locs hv hP hS => ?_)
  refine lv_if_eq (tgt := 27) hx hb dX6_swap_8 (by decide) (fun c388 => ?_) (fun c388 => ?_)
  · have hv := hv.1 c388
    refine lv_iconst (v := (-1)) hx hb dX6_swap_27 (by decide) ?_
    exact g_retX hx hb hrt hlk hP hS rfl hv dX6_swap_28
  · have hv := hv.2 c388
    refine lv_aload_n hx hb dX6_swap_11 rfl (lv_at hl 0 rfl) (gg_X6_12 C0 hK hP dX6_swap_12 (lv_iload_n hx hb dX6_swap_15 rfl (lv_at hl 2 rfl) ?_))
    refine g_iX (g_bV (As := [.int a2]) (rest := []) C0 hK hP kX3_hasBeat ql_X6_89 (mX3_hasBeat hE (by decide) hv) (by decide) (gen_row (by decide)) rfl rfl hl.1 rfl (Nat.le_of_ble_eq_true rfl) ⟨rfl, rfl, Nat.le_of_ble_eq_true rfl, Nat.le_of_ble_eq_true rfl⟩ dX6_swap_16) hS (fun x389 μ390 H locs hv hP hS => ?_)
    refine lv_if_eq (tgt := 27) hx hb dX6_swap_19 (by decide) (fun c391 => ?_) (fun c391 => ?_)
    · have hv := hv.1 c391
      refine lv_iconst (v := (-1)) hx hb dX6_swap_27 (by decide) ?_
      exact g_retX hx hb hrt hlk hP hS rfl hv dX6_swap_28
    · have hv := hv.2 c391
      refine lv_iload_n hx hb dX6_swap_22 rfl (lv_at hl 2 rfl) (lv_iload_n hx hb dX6_swap_23 rfl (lv_at hl 1 rfl) ?_)
      refine lv_icmp_gt (tgt := 29) hx hb dX6_swap_24 (by decide) (fun c392 => ?_) (fun c392 => ?_)
      · have hv := hv.1 c392
        refine lv_aload_n hx hb dX6_swap_29 rfl (lv_at hl 0 rfl) (gg_X6_12 C0 hK hP dX6_swap_30 (lv_iload_n hx hb dX6_swap_33 rfl (lv_at hl 2 rfl) ?_))
        refine g_iX (g_bV (As := [.int a2]) (rest := []) C0 hK hP kX3_heightIn ql_X6_92 (mX3_heightIn hE (by decide) hv) (by decide) (gen_row (by decide)) rfl rfl hl.1 rfl (Nat.le_of_ble_eq_true rfl) ⟨rfl, rfl, Nat.le_of_ble_eq_true rfl, Nat.le_of_ble_eq_true rfl⟩ dX6_swap_34) hS (fun x393 μ394 H locs hv hP hS => ?_)
        refine lv_iload_n hx hb dX6_swap_37 rfl (lv_at hl 2 rfl) (lv_iload_n hx hb dX6_swap_38 rfl (lv_at hl 1 rfl) (lv_isub hx hb dX6_swap_39 (lv_iadd hx hb dX6_swap_40 (lv_istore_n (lv' := [(3, .int (x393 + (a2 - a1))), (0, .ref (gL E 31)), (1, .int a1), (2, .int a2)]) hx hb dX6_swap_41 rfl hl (by decide) rfl (fun ls hl => (lv_aload_n hx hb dX6_swap_42 rfl (lv_at hl 1 rfl) (gg_X6_12 C0 hK hP dX6_swap_43 (lv_iload_n hx hb dX6_swap_46 rfl (lv_at hl 2 rfl) ?_))))))))
        refine g_iX (g_bV (As := [.int a1]) (rest := []) C0 hK hP kX3_heightIn ql_X6_92 (mX3_heightIn hE (by decide) hv) (by decide) (gen_row (by decide)) rfl rfl hl.1 rfl (Nat.le_of_ble_eq_true rfl) ⟨rfl, rfl, Nat.le_of_ble_eq_true rfl, Nat.le_of_ble_eq_true rfl⟩ dX6_swap_47) hS (fun x395 μ396 H locs hv hP hS => ?_)
        refine lv_iload_n hx hb dX6_swap_50 rfl (lv_at hl 3 rfl) (lv_iload_n hx hb dX6_swap_51 rfl (lv_at hl 2 rfl) (lv_isub hx hb dX6_swap_52 (lv_isub hx hb dX6_swap_53 (lv_istore (lv' := [(4, .int (x395 - (a2 - a1))), (3, .int (x393 + (a2 - a1))), (0, .ref (gL E 31)), (1, .int a1), (2, .int a2)]) hx hb dX6_swap_54 hl (by decide) rfl (fun ls hl => (lv_iload hx hb dX6_swap_56 (lv_at hl 0 rfl) ?_))))))
        refine lv_if_ge (tgt := 64) hx hb dX6_swap_58 (by decide) (fun c397 => ?_) (fun c397 => ?_)
        · have hv := hv.1 c397
          refine lv_iload_n hx hb dX6_swap_64 rfl (lv_at hl 1 rfl) (lv_bipush (v := 9) hx hb dX6_swap_65 (by decide) ?_)
          refine lv_icmp_le (tgt := 73) hx hb dX6_swap_67 (by decide) (fun c398 => ?_) (fun c398 => ?_)
          · have hv := hv.1 c398
            refine lv_aload_n hx hb dX6_swap_73 rfl (lv_at hl 2 rfl) (gg_X6_12 C0 hK hP dX6_swap_74 (lv_iload_n hx hb dX6_swap_77 rfl (lv_at hl 3 rfl) (lv_iload_n hx hb dX6_swap_78 rfl (lv_at hl 1 rfl) ?_)))
            refine g_vX (g_bV (As := [.int a1, .int (x393 + (a2 - a1))]) (rest := []) C0 hK hP kX3_setHeight ql_X6_147 (mX3_setHeight hE (by decide) hv) (by decide) (gen_row (by decide)) rfl rfl hl.1 rfl (Nat.le_of_ble_eq_true rfl) ⟨rfl, rfl, Nat.le_of_ble_eq_true rfl, Nat.le_of_ble_eq_true rfl⟩ dX6_swap_79) hS (fun μ400 H locs hv hP hS => ?_)
            refine lv_aload_n hx hb dX6_swap_82 rfl (lv_at hl 2 rfl) (gg_X6_12 C0 hK hP dX6_swap_83 (lv_iload_n hx hb dX6_swap_86 rfl (lv_at hl 4 rfl) (lv_iload hx hb dX6_swap_87 (lv_at hl 0 rfl) ?_)))
            refine g_vX (g_bV (As := [.int a2, .int (x395 - (a2 - a1))]) (rest := []) C0 hK hP kX3_setHeight ql_X6_147 (mX3_setHeight hE (by decide) hv) (by decide) (gen_row (by decide)) rfl rfl hl.1 rfl (Nat.le_of_ble_eq_true rfl) ⟨rfl, rfl, Nat.le_of_ble_eq_true rfl, Nat.le_of_ble_eq_true rfl⟩ dX6_swap_89) hS (fun μ402 H locs hv hP hS => ?_)
            refine lv_iconst (v := 1) hx hb dX6_swap_92 (by decide) ?_
            exact g_retX hx hb hrt hlk hP hS rfl hv dX6_swap_93
          · have hv := hv.2 c398
            refine lv_bipush (v := (-4)) hx hb dX6_swap_70 (by decide) ?_
            exact g_retX hx hb hrt hlk hP hS rfl hv dX6_swap_72
        · have hv := hv.2 c397
          refine lv_bipush (v := (-3)) hx hb dX6_swap_61 (by decide) ?_
          exact g_retX hx hb hrt hlk hP hS rfl hv dX6_swap_63
      · have hv := hv.2 c392
        refine lv_iconst (v := (-1)) hx hb dX6_swap_27 (by decide) ?_
        exact g_retX hx hb hrt hlk hP hS rfl hv dX6_swap_28
set_option maxHeartbeats 4000000 in
set_option maxRecDepth 100000 in
theorem mX6_turn {l : Launch} {E : gE} {μ ν : gM} {τ : gJ} {Q : Int32 → gM → Prop} (hE : gLok E) {a1 : Int32}  (hv : vX6_turn a1 μ Q) : Met l yX6_turn (gws yX6_turn cX6_turn 2 (some .int)) (gRm 4 87) (gPc E [.ref (gL E 31), .int a1] μ ν τ) (gQiX E Q ν τ) 0 0 (gA E) := by
  refine g_entr (lv := [(0, .ref (gL E 31)), (1, .int a1)]) (by decide +kernel) (Nat.le_of_ble_eq_true rfl) rfl (fun p e s m args below meth c ls H locs hx hb hrt hlk C0 hK hP hS hl => ?_)
  have C0 : CallFix p m c cX6_turn 2 s args gTB RX6 := C0
  unfold vX6_turn at hv
  refine lv_iload_n hx hb dX6_turn_0 rfl (lv_at hl 1 rfl) (lv_iconst (v := 0) hx hb dX6_turn_1 (by decide) (lv_bipush (v := 7) hx hb dX6_turn_2 (by decide) ?_))
  refine g_iS (g_bS (As := [.int a1, .int 0, .int 7]) (rest := []) C0 hK hP kX6_isWithin ql_X6_104 (mX6_isWithin hE hv) rfl hl.1 rfl (Nat.le_of_ble_eq_true rfl) ⟨rfl, rfl, Nat.le_of_ble_eq_true rfl, Nat.le_of_ble_eq_true rfl⟩ dX6_turn_4) hS (fun x403 H locs hv hP hS => ?_)
  refine lv_if_ne (tgt := 13) hx hb dX6_turn_7 (by decide) (fun c404 => ?_) (fun c404 => ?_)
  · have hv := hv.1 c404
    refine lv_aload_n hx hb dX6_turn_13 rfl (lv_at hl 0 rfl) (gg_X6_12 C0 hK hP dX6_turn_14 ?_)
    refine g_iX (g_bV (As := []) (rest := []) C0 hK hP kX3_isThere ql_X6_96 (mX3_isThere hE (by decide) hv) (by decide) (gen_row (by decide)) rfl rfl hl.1 rfl (Nat.le_of_ble_eq_true rfl) ⟨rfl, rfl, Nat.le_of_ble_eq_true rfl, Nat.le_of_ble_eq_true rfl⟩ dX6_turn_17) hS (fun x405 μ406 H locs hv hP hS => ?_)
    refine lv_if_ne (tgt := 26) hx hb dX6_turn_20 (by decide) (fun c407 => ?_) (fun c407 => ?_)
    · have hv := hv.1 c407
      refine lv_aload_n hx hb dX6_turn_26 rfl (lv_at hl 0 rfl) (gg_X6_18 C0 hK hP dX6_turn_27 (lv_aload_n hx hb dX6_turn_30 rfl (lv_at hl 0 rfl) (gg_X6_12 C0 hK hP dX6_turn_31 ?_)))
      refine g_vX (g_bV (As := [.ref (gL E 0)]) (rest := []) C0 hK hP kX3_take ql_X6_151 (mX3_take hE (by decide) (by decide) hv) (by decide) (gen_row (by decide)) rfl rfl hl.1 rfl (Nat.le_of_ble_eq_true rfl) ⟨rfl, rfl, Nat.le_of_ble_eq_true rfl, Nat.le_of_ble_eq_true rfl⟩ dX6_turn_34) hS (fun μ409 H locs hv hP hS => ?_)
      refine lv_aload_n hx hb dX6_turn_37 rfl (lv_at hl 0 rfl) (gg_X6_12 C0 hK hP dX6_turn_38 (lv_aload_n hx hb dX6_turn_41 rfl (lv_at hl 0 rfl) (gg_X6_18 C0 hK hP dX6_turn_42 (lv_iload_n hx hb dX6_turn_45 rfl (lv_at hl 1 rfl) ?_))))
      refine g_vX (g_bV (As := [.ref (gL E 1), .int a1]) (rest := []) C0 hK hP kX3_takeTurned ql_X6_155 (mX3_takeTurned hE (by decide) (by decide) hv) (by decide) (gen_row (by decide)) rfl rfl hl.1 rfl (Nat.le_of_ble_eq_true rfl) ⟨rfl, rfl, Nat.le_of_ble_eq_true rfl, Nat.le_of_ble_eq_true rfl⟩ dX6_turn_46) hS (fun μ411 H locs hv hP hS => ?_)
      refine lv_aload_n hx hb dX6_turn_49 rfl (lv_at hl 0 rfl) (gg_X6_12 C0 hK hP dX6_turn_50 (lv_iconst (v := 0) hx hb dX6_turn_53 (by decide) ?_))
      refine g_iX (g_bV (As := [.int 0]) (rest := []) C0 hK hP kX3_heightIn ql_X6_92 (mX3_heightIn hE (by decide) hv) (by decide) (gen_row (by decide)) rfl rfl hl.1 rfl (Nat.le_of_ble_eq_true rfl) ⟨rfl, rfl, Nat.le_of_ble_eq_true rfl, Nat.le_of_ble_eq_true rfl⟩ dX6_turn_54) hS (fun x412 μ413 H locs hv hP hS => ?_)
      exact g_retX hx hb hrt hlk hP hS rfl hv dX6_turn_57
    · have hv := hv.2 c407
      refine lv_bipush (v := (-3)) hx hb dX6_turn_23 (by decide) ?_
      exact g_retX hx hb hrt hlk hP hS rfl hv dX6_turn_25
  · have hv := hv.2 c404
    refine lv_bipush (v := (-2)) hx hb dX6_turn_10 (by decide) ?_
    exact g_retX hx hb hrt hlk hP hS rfl hv dX6_turn_12
set_option maxHeartbeats 4000000 in
set_option maxRecDepth 100000 in
theorem mX6_backward {l : Launch} {E : gE} {μ ν : gM} {τ : gJ} {Q : Int32 → gM → Prop} (hE : gLok E)   (hv : vX6_backward μ Q) : Met l yX6_backward (gws yX6_backward cX6_backward 1 (some .int)) (gRm 5 106) (gPc E [.ref (gL E 31)] μ ν τ) (gQiX E Q ν τ) 0 0 (gA E) := by
  refine g_entr (lv := [(0, .ref (gL E 31))]) (by decide +kernel) (Nat.le_of_ble_eq_true rfl) rfl (fun p e s m args below meth c ls H locs hx hb hrt hlk C0 hK hP hS hl => ?_)
  have C0 : CallFix p m c cX6_backward 1 s args gTB RX6 := C0
  unfold vX6_backward at hv
  refine lv_aload_n hx hb dX6_backward_0 rfl (lv_at hl 0 rfl) (gg_X6_12 C0 hK hP dX6_backward_1 ?_)
  refine g_iX (g_bV (As := []) (rest := []) C0 hK hP kX3_isGood ql_X6_108 (mX3_isGood hE (by decide) hv) (by decide) (gen_row (by decide)) rfl rfl hl.1 rfl (Nat.le_of_ble_eq_true rfl) ⟨rfl, rfl, Nat.le_of_ble_eq_true rfl, Nat.le_of_ble_eq_true rfl⟩ dX6_backward_4) hS (fun x414 μ415 H locs hv hP hS => ?_)
  refine lv_if_ne (tgt := 13) hx hb dX6_backward_7 (by decide) (fun c416 => ?_) (fun c416 => ?_)
  · have hv := hv.1 c416
    refine lv_aload_n hx hb dX6_backward_13 rfl (lv_at hl 0 rfl) (gg_X6_18 C0 hK hP dX6_backward_14 (lv_aload_n hx hb dX6_backward_17 rfl (lv_at hl 0 rfl) (gg_X6_12 C0 hK hP dX6_backward_18 ?_)))
    refine g_vX (g_bV (As := [.ref (gL E 0)]) (rest := []) C0 hK hP kX3_take ql_X6_151 (mX3_take hE (by decide) (by decide) hv) (by decide) (gen_row (by decide)) rfl rfl hl.1 rfl (Nat.le_of_ble_eq_true rfl) ⟨rfl, rfl, Nat.le_of_ble_eq_true rfl, Nat.le_of_ble_eq_true rfl⟩ dX6_backward_21) hS (fun μ418 H locs hv hP hS => ?_)
    refine lv_aload_n hx hb dX6_backward_24 rfl (lv_at hl 0 rfl) (gg_X6_12 C0 hK hP dX6_backward_25 (lv_aload_n hx hb dX6_backward_28 rfl (lv_at hl 0 rfl) (gg_X6_18 C0 hK hP dX6_backward_29 ?_)))
    refine g_vX (g_bV (As := [.ref (gL E 1)]) (rest := []) C0 hK hP kX3_takeBackward ql_X6_159 (mX3_takeBackward hE (by decide) (by decide) hv) (by decide) (gen_row (by decide)) rfl rfl hl.1 rfl (Nat.le_of_ble_eq_true rfl) ⟨rfl, rfl, Nat.le_of_ble_eq_true rfl, Nat.le_of_ble_eq_true rfl⟩ dX6_backward_32) hS (fun μ420 H locs hv hP hS => ?_)
    refine lv_aload_n hx hb dX6_backward_35 rfl (lv_at hl 0 rfl) (gg_X6_12 C0 hK hP dX6_backward_36 (lv_iconst (v := 0) hx hb dX6_backward_39 (by decide) ?_))
    refine g_iX (g_bV (As := [.int 0]) (rest := []) C0 hK hP kX3_heightIn ql_X6_92 (mX3_heightIn hE (by decide) hv) (by decide) (gen_row (by decide)) rfl rfl hl.1 rfl (Nat.le_of_ble_eq_true rfl) ⟨rfl, rfl, Nat.le_of_ble_eq_true rfl, Nat.le_of_ble_eq_true rfl⟩ dX6_backward_40) hS (fun x421 μ422 H locs hv hP hS => ?_)
    exact g_retX hx hb hrt hlk hP hS rfl hv dX6_backward_43
  · have hv := hv.2 c416
    refine lv_bipush (v := (-3)) hx hb dX6_backward_10 (by decide) ?_
    exact g_retX hx hb hrt hlk hP hS rfl hv dX6_backward_12
set_option maxHeartbeats 4000000 in
set_option maxRecDepth 100000 in
theorem mX6_greatest {l : Launch} {E : gE} {μ ν : gM} {τ : gJ} {Q : Int32 → gM → Prop} (hE : gLok E) {a1 : Int32}  (hv : vX6_greatest a1 μ Q) : Met l yX6_greatest (gws yX6_greatest cX6_greatest 2 (some .int)) (gRm 4 89) (gPc E [.ref (gL E 31), .int a1] μ ν τ) (gQiX E Q ν τ) 0 0 (gA E) := by
  refine g_entr (lv := [(0, .ref (gL E 31)), (1, .int a1)]) (by decide +kernel) (Nat.le_of_ble_eq_true rfl) rfl (fun p e s m args below meth c ls H locs hx hb hrt hlk C0 hK hP hS hl => ?_)
  have C0 : CallFix p m c cX6_greatest 2 s args gTB RX6 := C0
  unfold vX6_greatest at hv
  refine lv_aload_n hx hb dX6_greatest_0 rfl (lv_at hl 0 rfl) (gg_X6_12 C0 hK hP dX6_greatest_1 (lv_iload_n hx hb dX6_greatest_4 rfl (lv_at hl 1 rfl) ?_))
  refine g_iX (g_bV (As := [.int a1]) (rest := []) C0 hK hP kX3_hasBeat ql_X6_89 (mX3_hasBeat hE (by decide) hv) (by decide) (gen_row (by decide)) rfl rfl hl.1 rfl (Nat.le_of_ble_eq_true rfl) ⟨rfl, rfl, Nat.le_of_ble_eq_true rfl, Nat.le_of_ble_eq_true rfl⟩ dX6_greatest_5) hS (fun x423 μ424 H locs hv hP hS => ?_)
  refine lv_if_eq (tgt := 30) hx hb dX6_greatest_8 (by decide) (fun c425 => ?_) (fun c425 => ?_)
  · have hv := hv.1 c425
    refine lv_iconst (v := (-1)) hx hb dX6_greatest_30 (by decide) ?_
    exact g_retX hx hb hrt hlk hP hS rfl hv dX6_greatest_31
  · have hv := hv.2 c425
    refine lv_aload_n hx hb dX6_greatest_11 rfl (lv_at hl 0 rfl) (gg_X6_12 C0 hK hP dX6_greatest_12 (lv_aload_n hx hb dX6_greatest_15 rfl (lv_at hl 0 rfl) (gg_X6_12 C0 hK hP dX6_greatest_16 ?_)))
    refine g_iX (g_bV (As := []) (rest := [.ref (gL E 0)]) C0 hK hP kX3_greatestTurn ql_X6_162 (mX3_greatestTurn hE (by decide) hv) (by decide) (gen_row (by decide)) rfl rfl hl.1 rfl (Nat.le_of_ble_eq_true rfl) ⟨rfl, rfl, Nat.le_of_ble_eq_true rfl, Nat.le_of_ble_eq_true rfl⟩ dX6_greatest_19) hS (fun x426 μ427 H locs hv hP hS => ?_)
    refine lv_iload_n hx hb dX6_greatest_22 rfl (lv_at hl 1 rfl) (lv_iadd hx hb dX6_greatest_23 ?_)
    refine g_iX (g_bV (As := [.int (x426 + a1)]) (rest := []) C0 hK hP kX3_heightIn ql_X6_92 (mX3_heightIn hE (by decide) hv) (by decide) (gen_row (by decide)) rfl rfl hl.1 rfl (Nat.le_of_ble_eq_true rfl) ⟨rfl, rfl, Nat.le_of_ble_eq_true rfl, Nat.le_of_ble_eq_true rfl⟩ dX6_greatest_24) hS (fun x428 μ429 H locs hv hP hS => ?_)
    refine lv_goto (tgt := 31) hx hb dX6_greatest_27 (by decide) ?_
    exact g_retX hx hb hrt hlk hP hS rfl hv dX6_greatest_31
set_option maxHeartbeats 4000000 in
set_option maxRecDepth 100000 in
theorem mX6_isImage {l : Launch} {E : gE} {μ ν : gM} {τ : gJ} {Q : Int32 → Prop} (hE : gLok E) {a0 : Int32}  (hv : vX6_isImage a0 Q) : Met l yX6_isImage (gws yX6_isImage cX6_isImage 1 (some .boolean)) (gRm 1 22) (gPc E [.int a0] μ ν τ) (gQiS E Q μ ν τ) 0 0 (gA E) := by
  refine g_entr (lv := [(0, .int a0)]) (by decide +kernel) (Nat.le_of_ble_eq_true rfl) rfl (fun p e s m args below meth c ls H locs hx hb hrt hlk C0 hK hP hS hl => ?_)
  have C0 : CallFix p m c cX6_isImage 1 s args gTB RX6 := C0
  unfold vX6_isImage at hv
  refine lv_iload_n hx hb dX6_isImage_0 rfl (lv_at hl 0 rfl) (lv_iconst (v := 0) hx hb dX6_isImage_1 (by decide) (lv_iconst (v := 2) hx hb dX6_isImage_2 (by decide) ?_))
  refine g_iS (g_bS (As := [.int a0, .int 0, .int 2]) (rest := []) C0 hK hP kX6_isWithin ql_X6_104 (mX6_isWithin hE hv) rfl hl.1 rfl (Nat.le_of_ble_eq_true rfl) ⟨rfl, rfl, Nat.le_of_ble_eq_true rfl, Nat.le_of_ble_eq_true rfl⟩ dX6_isImage_3) hS (fun x430 H locs hv hP hS => ?_)
  exact g_retS hx hb hrt hlk hP hS hv.1 hv.2 dX6_isImage_6
set_option maxHeartbeats 4000000 in
set_option maxRecDepth 100000 in
theorem mX6_keep {l : Launch} {E : gE} {μ ν : gM} {τ : gJ} {Q : Int32 → gM → Prop} (hE : gLok E) {a1 : Int32}  (hv : vX6_keep a1 μ Q) : Met l yX6_keep (gws yX6_keep cX6_keep 2 (some .int)) (gRm 4 87) (gPc E [.ref (gL E 31), .int a1] μ ν τ) (gQiX E Q ν τ) 0 0 (gA E) := by
  refine g_entr (lv := [(0, .ref (gL E 31)), (1, .int a1)]) (by decide +kernel) (Nat.le_of_ble_eq_true rfl) rfl (fun p e s m args below meth c ls H locs hx hb hrt hlk C0 hK hP hS hl => ?_)
  have C0 : CallFix p m c cX6_keep 2 s args gTB RX6 := C0
  unfold vX6_keep at hv
  refine lv_iload_n hx hb dX6_keep_0 rfl (lv_at hl 1 rfl) ?_
  refine g_iS (g_bS (As := [.int a1]) (rest := []) C0 hK hP kX6_isImage ql_X6_165 (mX6_isImage hE hv) rfl hl.1 rfl (Nat.le_of_ble_eq_true rfl) ⟨rfl, rfl, Nat.le_of_ble_eq_true rfl, Nat.le_of_ble_eq_true rfl⟩ dX6_keep_1) hS (fun x431 H locs hv hP hS => ?_)
  refine lv_if_ne (tgt := 9) hx hb dX6_keep_4 (by decide) (fun c432 => ?_) (fun c432 => ?_)
  · have hv := hv.1 c432
    refine lv_aload_n hx hb dX6_keep_9 rfl (lv_at hl 0 rfl) (gg_X6_12 C0 hK hP dX6_keep_10 ?_)
    refine g_iX (g_bV (As := []) (rest := []) C0 hK hP kX3_isThere ql_X6_96 (mX3_isThere hE (by decide) hv) (by decide) (gen_row (by decide)) rfl rfl hl.1 rfl (Nat.le_of_ble_eq_true rfl) ⟨rfl, rfl, Nat.le_of_ble_eq_true rfl, Nat.le_of_ble_eq_true rfl⟩ dX6_keep_13) hS (fun x433 μ434 H locs hv hP hS => ?_)
    refine lv_if_ne (tgt := 22) hx hb dX6_keep_16 (by decide) (fun c435 => ?_) (fun c435 => ?_)
    · have hv := hv.1 c435
      refine lv_aload_n hx hb dX6_keep_22 rfl (lv_at hl 0 rfl) (gg_X6_21 C0 hK hP dX6_keep_23 (lv_iload_n hx hb dX6_keep_26 rfl (lv_at hl 1 rfl) ?_))
      have hi436 := hv.1
      have hv := hv.2
      refine g_aaR hx hb hK hP hi436 dX6_keep_27 (lv_aload_n hx hb dX6_keep_28 rfl (lv_at hl 0 rfl) (gg_X6_12 C0 hK hP dX6_keep_29 ?_))
      refine g_vX (g_bV (As := [.ref (gL E 0)]) (rest := []) C0 hK hP kX3_take ql_X6_151 (mX3_take hE (vin_im hi436) (by decide) hv) (by have := (vin_im hi436); omega) (gen_row (vin_im hi436)) rfl rfl hl.1 rfl (Nat.le_of_ble_eq_true rfl) ⟨rfl, rfl, Nat.le_of_ble_eq_true rfl, Nat.le_of_ble_eq_true rfl⟩ dX6_keep_32) hS (fun μ438 H locs hv hP hS => ?_)
      refine lv_iconst (v := 1) hx hb dX6_keep_35 (by decide) ?_
      exact g_retX hx hb hrt hlk hP hS rfl hv dX6_keep_36
    · have hv := hv.2 c435
      refine lv_bipush (v := (-3)) hx hb dX6_keep_19 (by decide) ?_
      exact g_retX hx hb hrt hlk hP hS rfl hv dX6_keep_21
  · have hv := hv.2 c432
    refine lv_iconst (v := (-1)) hx hb dX6_keep_7 (by decide) ?_
    exact g_retX hx hb hrt hlk hP hS rfl hv dX6_keep_8
set_option maxHeartbeats 4000000 in
set_option maxRecDepth 100000 in
theorem mX6_back {l : Launch} {E : gE} {μ ν : gM} {τ : gJ} {Q : Int32 → gM → Prop} (hE : gLok E) {a1 : Int32}  (hv : vX6_back a1 μ Q) : Met l yX6_back (gws yX6_back cX6_back 2 (some .int)) (gRm 4 87) (gPc E [.ref (gL E 31), .int a1] μ ν τ) (gQiX E Q ν τ) 0 0 (gA E) := by
  refine g_entr (lv := [(0, .ref (gL E 31)), (1, .int a1)]) (by decide +kernel) (Nat.le_of_ble_eq_true rfl) rfl (fun p e s m args below meth c ls H locs hx hb hrt hlk C0 hK hP hS hl => ?_)
  have C0 : CallFix p m c cX6_back 2 s args gTB RX6 := C0
  unfold vX6_back at hv
  refine lv_iload_n hx hb dX6_back_0 rfl (lv_at hl 1 rfl) ?_
  refine g_iS (g_bS (As := [.int a1]) (rest := []) C0 hK hP kX6_isImage ql_X6_165 (mX6_isImage hE hv) rfl hl.1 rfl (Nat.le_of_ble_eq_true rfl) ⟨rfl, rfl, Nat.le_of_ble_eq_true rfl, Nat.le_of_ble_eq_true rfl⟩ dX6_back_1) hS (fun x439 H locs hv hP hS => ?_)
  refine lv_if_ne (tgt := 9) hx hb dX6_back_4 (by decide) (fun c440 => ?_) (fun c440 => ?_)
  · have hv := hv.1 c440
    refine lv_aload_n hx hb dX6_back_9 rfl (lv_at hl 0 rfl) (gg_X6_21 C0 hK hP dX6_back_10 (lv_iload_n hx hb dX6_back_13 rfl (lv_at hl 1 rfl) ?_))
    have hi441 := hv.1
    have hv := hv.2
    refine g_aaR hx hb hK hP hi441 dX6_back_14 ?_
    refine g_iX (g_bV (As := []) (rest := []) C0 hK hP kX3_isThere ql_X6_96 (mX3_isThere hE (vin_im hi441) hv) (by have := (vin_im hi441); omega) (gen_row (vin_im hi441)) rfl rfl hl.1 rfl (Nat.le_of_ble_eq_true rfl) ⟨rfl, rfl, Nat.le_of_ble_eq_true rfl, Nat.le_of_ble_eq_true rfl⟩ dX6_back_15) hS (fun x442 μ443 H locs hv hP hS => ?_)
    refine lv_if_ne (tgt := 24) hx hb dX6_back_18 (by decide) (fun c444 => ?_) (fun c444 => ?_)
    · have hv := hv.1 c444
      refine lv_aload_n hx hb dX6_back_24 rfl (lv_at hl 0 rfl) (gg_X6_12 C0 hK hP dX6_back_25 (lv_aload_n hx hb dX6_back_28 rfl (lv_at hl 0 rfl) (gg_X6_21 C0 hK hP dX6_back_29 (lv_iload_n hx hb dX6_back_32 rfl (lv_at hl 1 rfl) ?_))))
      have hi445 := hv.1
      have hv := hv.2
      refine g_aaR hx hb hK hP hi445 dX6_back_33 ?_
      refine g_vX (g_bV (As := [.ref (gL E (2 + a1.toNatClampNeg))]) (rest := []) C0 hK hP kX3_take ql_X6_151 (mX3_take hE (by decide) (vin_im hi445) hv) (by decide) (gen_row (by decide)) rfl rfl hl.1 rfl (Nat.le_of_ble_eq_true rfl) ⟨rfl, rfl, Nat.le_of_ble_eq_true rfl, Nat.le_of_ble_eq_true rfl⟩ dX6_back_34) hS (fun μ447 H locs hv hP hS => ?_)
      refine lv_aload_n hx hb dX6_back_37 rfl (lv_at hl 0 rfl) (gg_X6_12 C0 hK hP dX6_back_38 (gg_X6_86 C0 hK hP (by decide) dX6_back_41 ?_))
      exact g_retX hx hb hrt hlk hP hS rfl hv dX6_back_44
    · have hv := hv.2 c444
      refine lv_bipush (v := (-3)) hx hb dX6_back_21 (by decide) ?_
      exact g_retX hx hb hrt hlk hP hS rfl hv dX6_back_23
  · have hv := hv.2 c440
    refine lv_iconst (v := (-1)) hx hb dX6_back_7 (by decide) ?_
    exact g_retX hx hb hrt hlk hP hS rfl hv dX6_back_8
