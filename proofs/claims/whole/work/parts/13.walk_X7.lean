set_option maxHeartbeats 4000000 in
set_option maxRecDepth 100000 in
theorem mX7_empty {l : Launch} {E : gE} {μ ν : gM} {τ : gJ} {Q : Int32 → gM → gJ → Prop} (hE : gLok E) {a1 : Int32}  (hv : vX7_empty a1 ν τ Q) : Met l yX7_empty (gws yX7_empty cX7_empty 4 (some .int)) (gRm 3 63) (gPc E [.ref (gL E 32), .int a1] μ ν τ) (gQiM E Q μ) 0 0 (gA E) := by
  refine g_entr (lv := [(0, .ref (gL E 32)), (1, .int a1)]) (by decide +kernel) (Nat.le_of_ble_eq_true rfl) rfl (fun p e s m args below meth c ls H locs hx hb hrt hlk C0 hK hP hS hl => ?_)
  have C0 : CallFix p m c cX7_empty 4 s args gTB RX7 := C0
  have h_32 : ∀ (n_32 : Nat) (v2 : Int32) (v3 : Int32) (ν : gM) (τ : gJ) (H : Heap) (locs : List Loc) (ls : Array Slot), va_P (gD E) vwCl (wl E μ ν τ) H → va_S (gA E) s.heap H locs → lv_has ls 4 [(0, .ref (gL E 32)), (1, .int a1), (2, .int v2), (3, .int v3)] → vX7_empty_32 a1 Q n_32 v2 v3 ν τ → W p l e (gRm 3 63) s m args below meth c H locs 0 0 (MQ below (gQiM E Q μ) args s 0 0 (gA E)) (F0 m 32 ls []) := by
    intro n_32
    induction n_32 with
    | zero =>
      intro v2 v3 ν τ H locs ls hP hS hl hv
      exact False.elim hv
    | succ n_32 ih_32 =>
      intro v2 v3 ν τ H locs ls hP hS hl hv
      have hv : vX7_empty_32B a1 Q (vX7_empty_32 a1 Q n_32) v2 v3 ν τ := hv
      unfold vX7_empty_32B at hv
      refine lv_iload_n hx hb dX7_empty_32 rfl (lv_at hl 3 rfl) (lv_iload_n hx hb dX7_empty_33 rfl (lv_at hl 1 rfl) ?_)
      refine lv_icmp_gt (tgt := 74) hx hb dX7_empty_34 (by decide) (fun c1144 => ?_) (fun c1144 => ?_)
      · have hv := hv.1 c1144
        refine lv_iload_n hx hb dX7_empty_74 rfl (lv_at hl 2 rfl) ?_
        exact g_retM hx hb hrt hlk hP hS rfl hv dX7_empty_75
      · have hv := hv.2 c1144
        refine lv_iload_n hx hb dX7_empty_37 rfl (lv_at hl 2 rfl) (lv_aload_n hx hb dX7_empty_38 rfl (lv_at hl 0 rfl) (gg_X7_28 C0 hK hP dX7_empty_39 (lv_iload_n hx hb dX7_empty_42 rfl (lv_at hl 3 rfl) ?_)))
        have hi1145 := hv.1
        have hv := hv.2
        refine g_iald hx hb hK hP (by decide) ga_39 hi1145 dX7_empty_43 (lv_bipush (v := (-9)) hx hb dX7_empty_44 (by decide) ?_)
        refine lv_icmp_eq (tgt := 65) hx hb dX7_empty_46 (by decide) (fun c1146 => ?_) (fun c1146 => ?_)
        · have hv := hv.1 c1146
          refine lv_iconst (v := 0) hx hb dX7_empty_65 (by decide) (lv_iadd hx hb dX7_empty_66 (lv_istore_n (lv' := [(2, .int (v2 + 0)), (0, .ref (gL E 32)), (1, .int a1), (3, .int v3)]) hx hb dX7_empty_67 rfl hl (by decide) rfl (fun ls hl => (lv_iinc (v := (v3 + 1)) (lv' := [(3, .int (v3 + 1)), (2, .int (v2 + 0)), (0, .ref (gL E 32)), (1, .int a1)]) hx hb dX7_empty_68 hl (k := 3) rfl rfl (by decide) rfl (fun ls hl => (lv_goto (tgt := 32) hx hb dX7_empty_71 (by decide) ?_))))))
          exact ih_32 (v2 + 0) (v3 + 1) ν τ H locs ls hP hS (lv_sub hl [2, 3, 1, 0] rfl) hv
        · have hv := hv.2 c1146
          refine lv_aload_n hx hb dX7_empty_49 rfl (lv_at hl 0 rfl) (gg_X7_81 C0 hK hP dX7_empty_50 (lv_aload_n hx hb dX7_empty_53 rfl (lv_at hl 0 rfl) (gg_X7_28 C0 hK hP dX7_empty_54 (lv_iload_n hx hb dX7_empty_57 rfl (lv_at hl 3 rfl) ?_))))
          have hi1147 := hv.1
          have hv := hv.2
          refine g_iald hx hb hK hP (by decide) ga_39 hi1147 dX7_empty_58 (lv_ishr hx hb dX7_empty_59 (lv_iconst (v := 1) hx hb dX7_empty_60 (by decide) (lv_iand hx hb dX7_empty_61 (lv_goto (tgt := 66) hx hb dX7_empty_62 (by decide) (lv_iadd hx hb dX7_empty_66 (lv_istore_n (lv' := [(2, .int (v2 + (((ν 32 9) >>> ((ν 39 v3.toNatClampNeg) &&& 31)) &&& 1))), (0, .ref (gL E 32)), (1, .int a1), (3, .int v3)]) hx hb dX7_empty_67 rfl hl (by decide) rfl (fun ls hl => (lv_iinc (v := (v3 + 1)) (lv' := [(3, .int (v3 + 1)), (2, .int (v2 + (((ν 32 9) >>> ((ν 39 v3.toNatClampNeg) &&& 31)) &&& 1))), (0, .ref (gL E 32)), (1, .int a1)]) hx hb dX7_empty_68 hl (k := 3) rfl rfl (by decide) rfl (fun ls hl => (lv_goto (tgt := 32) hx hb dX7_empty_71 (by decide) ?_))))))))))
          exact ih_32 (v2 + (((ν 32 9) >>> ((ν 39 v3.toNatClampNeg) &&& 31)) &&& 1)) (v3 + 1) ν τ H locs ls hP hS (lv_sub hl [2, 3, 1, 0] rfl) hv
  unfold vX7_empty at hv
  refine lv_iload_n hx hb dX7_empty_0 rfl (lv_at hl 1 rfl) (lv_iconst (v := 0) hx hb dX7_empty_1 (by decide) (lv_sipush (v := 999) hx hb dX7_empty_2 (by decide) ?_))
  refine g_iS (g_bS (As := [.int a1, .int 0, .int 999]) (rest := []) C0 hK hP kX7_within ql_X7_56 (mX7_within hE hv) rfl hl.1 rfl (Nat.le_of_ble_eq_true rfl) ⟨rfl, rfl, Nat.le_of_ble_eq_true rfl, Nat.le_of_ble_eq_true rfl⟩ dX7_empty_5) hS (fun x1135 H locs hv hP hS => ?_)
  refine lv_if_ne (tgt := 14) hx hb dX7_empty_8 (by decide) (fun c1136 => ?_) (fun c1136 => ?_)
  · have hv := hv.1 c1136
    refine lv_aload_n hx hb dX7_empty_14 rfl (lv_at hl 0 rfl) ?_
    refine g_iM (g_bV (As := []) (rest := []) C0 hK hP kX7_isGood ql_X7_100 (mX7_isGood hE hv) (by decide) ge_X7 rfl rfl hl.1 rfl (Nat.le_of_ble_eq_true rfl) ⟨rfl, rfl, Nat.le_of_ble_eq_true rfl, Nat.le_of_ble_eq_true rfl⟩ dX7_empty_15) hS (fun x1137 ν1138 τ1139 H locs hv hP hS => ?_)
    refine lv_if_ne (tgt := 24) hx hb dX7_empty_18 (by decide) (fun c1140 => ?_) (fun c1140 => ?_)
    · have hv := hv.1 c1140
      refine lv_aload_n hx hb dX7_empty_24 rfl (lv_at hl 0 rfl) ?_
      refine g_vM (g_bV (As := []) (rest := []) C0 hK hP kX7_layBalls ql_X7_116 (mX7_layBalls hE hv) (by decide) ge_X7 rfl rfl hl.1 rfl (Nat.le_of_ble_eq_true rfl) ⟨rfl, rfl, Nat.le_of_ble_eq_true rfl, Nat.le_of_ble_eq_true rfl⟩ dX7_empty_25) hS (fun ν1142 τ1143 H locs hv hP hS => ?_)
      refine lv_iconst (v := 0) hx hb dX7_empty_28 (by decide) (lv_istore_n (lv' := [(2, .int 0), (0, .ref (gL E 32)), (1, .int a1)]) hx hb dX7_empty_29 rfl hl (by decide) rfl (fun ls hl => (lv_iconst (v := 0) hx hb dX7_empty_30 (by decide) (lv_istore_n (lv' := [(3, .int 0), (2, .int 0), (0, .ref (gL E 32)), (1, .int a1)]) hx hb dX7_empty_31 rfl hl (by decide) rfl (fun ls hl => ?_)))))
      obtain ⟨nf, hv⟩ := hv
      exact h_32 nf 0 0 ν1142 τ1143 H locs ls hP hS (lv_sub hl [2, 3, 1, 0] rfl) hv
    · have hv := hv.2 c1140
      refine lv_bipush (v := (-3)) hx hb dX7_empty_21 (by decide) ?_
      exact g_retM hx hb hrt hlk hP hS rfl hv dX7_empty_23
  · have hv := hv.2 c1136
    refine lv_bipush (v := (-2)) hx hb dX7_empty_11 (by decide) ?_
    exact g_retM hx hb hrt hlk hP hS rfl hv dX7_empty_13
set_option maxHeartbeats 4000000 in
set_option maxRecDepth 100000 in
theorem mX7_sheet {l : Launch} {E : gE} {μ ν : gM} {τ : gJ} {Q : Int32 → gM → gJ → Prop} (hE : gLok E) {a1 : Int32} {a2 : Int32} {a3 : Int32}  (hv : vX7_sheet a1 a2 a3 ν τ Q) : Met l yX7_sheet (gws yX7_sheet cX7_sheet 5 (some .int)) (gRm 2 42) (gPc E [.ref (gL E 32), .int a1, .int a2, .int a3] μ ν τ) (gQiM E Q μ) 0 0 (gA E) := by
  refine g_entr (lv := [(0, .ref (gL E 32)), (1, .int a1), (2, .int a2), (3, .int a3)]) (by decide +kernel) (Nat.le_of_ble_eq_true rfl) rfl (fun p e s m args below meth c ls H locs hx hb hrt hlk C0 hK hP hS hl => ?_)
  have C0 : CallFix p m c cX7_sheet 5 s args gTB RX7 := C0
  have h_57 : ∀ (n_57 : Nat) (v4 : Int32) (ν : gM) (τ : gJ) (H : Heap) (locs : List Loc) (ls : Array Slot), va_P (gD E) vwCl (wl E μ ν τ) H → va_S (gA E) s.heap H locs → lv_has ls 5 [(0, .ref (gL E 32)), (1, .int a1), (4, .int v4)] → vX7_sheet_57 a1 a2 a3 Q n_57 v4 ν τ → W p l e (gRm 2 42) s m args below meth c H locs 0 0 (MQ below (gQiM E Q μ) args s 0 0 (gA E)) (F0 m 57 ls []) := by
    intro n_57
    induction n_57 with
    | zero =>
      intro v4 ν τ H locs ls hP hS hl hv
      exact False.elim hv
    | succ n_57 ih_57 =>
      intro v4 ν τ H locs ls hP hS hl hv
      have hv : vX7_sheet_57B a1 a2 a3 Q (vX7_sheet_57 a1 a2 a3 Q n_57) v4 ν τ := hv
      unfold vX7_sheet_57B at hv
      refine lv_iload hx hb dX7_sheet_57 (lv_at hl 2 rfl) (lv_bipush (v := 40) hx hb dX7_sheet_59 (by decide) ?_)
      refine lv_icmp_ge (tgt := 83) hx hb dX7_sheet_61 (by decide) (fun c1159 => ?_) (fun c1159 => ?_)
      · have hv := hv.1 c1159
        refine lv_iconst (v := 1) hx hb dX7_sheet_83 (by decide) ?_
        exact g_retM hx hb hrt hlk hP hS rfl hv dX7_sheet_84
      · have hv := hv.2 c1159
        refine lv_aload_n hx hb dX7_sheet_64 rfl (lv_at hl 0 rfl) (gg_X7_16 C0 hK hP dX7_sheet_65 (lv_bipush (v := 40) hx hb dX7_sheet_68 (by decide) (lv_iload_n hx hb dX7_sheet_70 rfl (lv_at hl 1 rfl) (lv_imul hx hb dX7_sheet_71 (lv_iload hx hb dX7_sheet_72 (lv_at hl 2 rfl) (lv_iadd hx hb dX7_sheet_74 (lv_iconst (v := 0) hx hb dX7_sheet_75 (by decide) ?_)))))))
        have hi1160 := hv.1
        have hv := hv.2
        refine g_iastM hE hx hb hK hP hS (by decide) (fun _ => ga_35) hi1160 dX7_sheet_76 (fun H locs hP hS => (lv_iinc (v := (v4 + 1)) (lv' := [(4, .int (v4 + 1)), (0, .ref (gL E 32)), (1, .int a1)]) hx hb dX7_sheet_77 hl (k := 2) rfl rfl (by decide) rfl (fun ls hl => (lv_goto (tgt := 57) hx hb dX7_sheet_80 (by decide) ?_))))
        exact ih_57 (v4 + 1) (up2 ν 35 ((40 * a1) + v4).toNatClampNeg 0) τ H locs ls hP hS (lv_sub hl [1, 2, 0] rfl) hv
  unfold vX7_sheet at hv
  refine lv_aload_n hx hb dX7_sheet_0 rfl (lv_at hl 0 rfl) (lv_iconst (v := 0) hx hb dX7_sheet_1 (by decide) (gp_X7_50 hE C0 hK hP hS dX7_sheet_2 (fun H locs hP hS => (lv_iload_n hx hb dX7_sheet_5 rfl (lv_at hl 1 rfl) ?_))))
  refine g_iS (g_bS (As := [.int a1]) (rest := []) C0 hK hP kX7_isSheet ql_X7_63 (mX7_isSheet hE hv) rfl hl.1 rfl (Nat.le_of_ble_eq_true rfl) ⟨rfl, rfl, Nat.le_of_ble_eq_true rfl, Nat.le_of_ble_eq_true rfl⟩ dX7_sheet_6) hS (fun x1148 H locs hv hP hS => ?_)
  refine lv_if_ne (tgt := 14) hx hb dX7_sheet_9 (by decide) (fun c1149 => ?_) (fun c1149 => ?_)
  · have hv := hv.1 c1149
    refine lv_iload_n hx hb dX7_sheet_14 rfl (lv_at hl 2 rfl) ?_
    refine g_iS (g_bS (As := [.int a2]) (rest := []) C0 hK hP kX7_isSort ql_X7_67 (mX7_isSort hE hv) rfl hl.1 rfl (Nat.le_of_ble_eq_true rfl) ⟨rfl, rfl, Nat.le_of_ble_eq_true rfl, Nat.le_of_ble_eq_true rfl⟩ dX7_sheet_15) hS (fun x1150 H locs hv hP hS => ?_)
    refine lv_if_eq (tgt := 27) hx hb dX7_sheet_18 (by decide) (fun c1151 => ?_) (fun c1151 => ?_)
    · have hv := hv.1 c1151
      refine lv_bipush (v := (-2)) hx hb dX7_sheet_27 (by decide) ?_
      exact g_retM hx hb hrt hlk hP hS rfl hv dX7_sheet_29
    · have hv := hv.2 c1151
      refine lv_iload_n hx hb dX7_sheet_21 rfl (lv_at hl 3 rfl) (lv_bipush (v := 40) hx hb dX7_sheet_22 (by decide) ?_)
      refine lv_icmp_le (tgt := 30) hx hb dX7_sheet_24 (by decide) (fun c1152 => ?_) (fun c1152 => ?_)
      · have hv := hv.1 c1152
        refine lv_iload_n hx hb dX7_sheet_30 rfl (lv_at hl 3 rfl) ?_
        refine lv_if_ge (tgt := 40) hx hb dX7_sheet_31 (by decide) (fun c1153 => ?_) (fun c1153 => ?_)
        · have hv := hv.1 c1153
          refine lv_aload_n hx hb dX7_sheet_40 rfl (lv_at hl 0 rfl) (gg_X7_9 C0 hK hP dX7_sheet_41 (lv_iload_n hx hb dX7_sheet_44 rfl (lv_at hl 1 rfl) (lv_iload_n hx hb dX7_sheet_45 rfl (lv_at hl 2 rfl) ?_)))
          have hi1154 := hv.1
          have hv := hv.2
          refine g_iastM hE hx hb hK hP hS (by decide) (fun _ => ga_33) hi1154 dX7_sheet_46 (fun H locs hP hS => (lv_aload_n hx hb dX7_sheet_47 rfl (lv_at hl 0 rfl) (gg_X7_13 C0 hK hP dX7_sheet_48 (lv_iload_n hx hb dX7_sheet_51 rfl (lv_at hl 1 rfl) (lv_iload_n hx hb dX7_sheet_52 rfl (lv_at hl 3 rfl) ?_)))))
          have hi1155 := hv.1
          have hv := hv.2
          refine g_iastM hE hx hb hK hP hS (by decide) (fun _ => ga_34) hi1155 dX7_sheet_53 (fun H locs hP hS => (lv_iconst (v := 0) hx hb dX7_sheet_54 (by decide) (lv_istore (lv' := [(4, .int 0), (0, .ref (gL E 32)), (1, .int a1), (2, .int a2), (3, .int a3)]) hx hb dX7_sheet_55 hl (by decide) rfl (fun ls hl => ?_))))
          obtain ⟨nf, hv⟩ := hv
          exact h_57 nf 0 (up2 (up2 (up2 ν 32 0 0) 33 a1.toNatClampNeg a2) 34 a1.toNatClampNeg a3) τ H locs ls hP hS (lv_sub hl [1, 2, 0] rfl) hv
        · have hv := hv.2 c1153
          refine lv_aload_n hx hb dX7_sheet_34 rfl (lv_at hl 0 rfl) (lv_iconst (v := 4) hx hb dX7_sheet_35 (by decide) ?_)
          refine g_iM (g_bV (As := [.int 4]) (rest := []) C0 hK hP kX7_fails ql_X7_74 (mX7_fails hE hv) (by decide) ge_X7 rfl rfl hl.1 rfl (Nat.le_of_ble_eq_true rfl) ⟨rfl, rfl, Nat.le_of_ble_eq_true rfl, Nat.le_of_ble_eq_true rfl⟩ dX7_sheet_36) hS (fun x1156 ν1157 τ1158 H locs hv hP hS => ?_)
          exact g_retM hx hb hrt hlk hP hS rfl hv dX7_sheet_39
      · have hv := hv.2 c1152
        refine lv_bipush (v := (-2)) hx hb dX7_sheet_27 (by decide) ?_
        exact g_retM hx hb hrt hlk hP hS rfl hv dX7_sheet_29
  · have hv := hv.2 c1149
    refine lv_iconst (v := (-1)) hx hb dX7_sheet_12 (by decide) ?_
    exact g_retM hx hb hrt hlk hP hS rfl hv dX7_sheet_13
set_option maxHeartbeats 4000000 in
set_option maxRecDepth 100000 in
theorem mX7_lose {l : Launch} {E : gE} {μ ν : gM} {τ : gJ} {Q : Int32 → gM → gJ → Prop} (hE : gLok E) {a1 : Int32}  (hv : vX7_lose a1 ν τ Q) : Met l yX7_lose (gws yX7_lose cX7_lose 3 (some .int)) (gRm 2 42) (gPc E [.ref (gL E 32), .int a1] μ ν τ) (gQiM E Q μ) 0 0 (gA E) := by
  refine g_entr (lv := [(0, .ref (gL E 32)), (1, .int a1)]) (by decide +kernel) (Nat.le_of_ble_eq_true rfl) rfl (fun p e s m args below meth c ls H locs hx hb hrt hlk C0 hK hP hS hl => ?_)
  have C0 : CallFix p m c cX7_lose 3 s args gTB RX7 := C0
  unfold vX7_lose at hv
  refine lv_iload_n hx hb dX7_lose_0 rfl (lv_at hl 1 rfl) ?_
  refine g_iS (g_bS (As := [.int a1]) (rest := []) C0 hK hP kX7_isSheet ql_X7_63 (mX7_isSheet hE hv) rfl hl.1 rfl (Nat.le_of_ble_eq_true rfl) ⟨rfl, rfl, Nat.le_of_ble_eq_true rfl, Nat.le_of_ble_eq_true rfl⟩ dX7_lose_1) hS (fun x1161 H locs hv hP hS => ?_)
  refine lv_if_ne (tgt := 9) hx hb dX7_lose_4 (by decide) (fun c1162 => ?_) (fun c1162 => ?_)
  · have hv := hv.1 c1162
    refine lv_aload_n hx hb dX7_lose_9 rfl (lv_at hl 0 rfl) (gg_X7_9 C0 hK hP dX7_lose_10 (lv_iload_n hx hb dX7_lose_13 rfl (lv_at hl 1 rfl) ?_))
    have hi1163 := hv.1
    have hv := hv.2
    refine g_iald hx hb hK hP (by decide) ga_33 hi1163 dX7_lose_14 (lv_bipush (v := (-9)) hx hb dX7_lose_15 (by decide) ?_)
    refine lv_icmp_ne (tgt := 24) hx hb dX7_lose_17 (by decide) (fun c1164 => ?_) (fun c1164 => ?_)
    · have hv := hv.1 c1164
      refine lv_iconst (v := 1) hx hb dX7_lose_24 (by decide) (lv_istore_n (lv' := [(2, .int 1), (0, .ref (gL E 32)), (1, .int a1)]) hx hb dX7_lose_25 rfl hl (by decide) rfl (fun ls hl => (lv_aload_n hx hb dX7_lose_26 rfl (lv_at hl 1 rfl) (gg_X7_9 C0 hK hP dX7_lose_27 (lv_iload_n hx hb dX7_lose_30 rfl (lv_at hl 2 rfl) (lv_bipush (v := (-9)) hx hb dX7_lose_31 (by decide) ?_))))))
      have hi1165 := hv.1
      have hv := hv.2
      refine g_iastM hE hx hb hK hP hS (by decide) (fun _ => ga_33) hi1165 dX7_lose_33 (fun H locs hP hS => (lv_iload_n hx hb dX7_lose_34 rfl (lv_at hl 0 rfl) ?_))
      exact g_retM hx hb hrt hlk hP hS rfl hv dX7_lose_35
    · have hv := hv.2 c1164
      refine lv_iconst (v := 0) hx hb dX7_lose_20 (by decide) (lv_goto (tgt := 25) hx hb dX7_lose_21 (by decide) (lv_istore_n (lv' := [(2, .int 0), (0, .ref (gL E 32)), (1, .int a1)]) hx hb dX7_lose_25 rfl hl (by decide) rfl (fun ls hl => (lv_aload_n hx hb dX7_lose_26 rfl (lv_at hl 1 rfl) (gg_X7_9 C0 hK hP dX7_lose_27 (lv_iload_n hx hb dX7_lose_30 rfl (lv_at hl 2 rfl) (lv_bipush (v := (-9)) hx hb dX7_lose_31 (by decide) ?_)))))))
      have hi1166 := hv.1
      have hv := hv.2
      refine g_iastM hE hx hb hK hP hS (by decide) (fun _ => ga_33) hi1166 dX7_lose_33 (fun H locs hP hS => (lv_iload_n hx hb dX7_lose_34 rfl (lv_at hl 0 rfl) ?_))
      exact g_retM hx hb hrt hlk hP hS rfl hv dX7_lose_35
  · have hv := hv.2 c1162
    refine lv_iconst (v := (-1)) hx hb dX7_lose_7 (by decide) ?_
    exact g_retM hx hb hrt hlk hP hS rfl hv dX7_lose_8
set_option maxHeartbeats 4000000 in
set_option maxRecDepth 100000 in
theorem mX7_put {l : Launch} {E : gE} {μ ν : gM} {τ : gJ} {Q : Int32 → gM → gJ → Prop} (hE : gLok E) {a1 : Int32} {a2 : Int32} {a3 : Int32}  (hv : vX7_put a1 a2 a3 ν τ Q) : Met l yX7_put (gws yX7_put cX7_put 4 (some .int)) (gRm 2 42) (gPc E [.ref (gL E 32), .int a1, .int a2, .int a3] μ ν τ) (gQiM E Q μ) 0 0 (gA E) := by
  refine g_entr (lv := [(0, .ref (gL E 32)), (1, .int a1), (2, .int a2), (3, .int a3)]) (by decide +kernel) (Nat.le_of_ble_eq_true rfl) rfl (fun p e s m args below meth c ls H locs hx hb hrt hlk C0 hK hP hS hl => ?_)
  have C0 : CallFix p m c cX7_put 4 s args gTB RX7 := C0
  unfold vX7_put at hv
  refine lv_aload_n hx hb dX7_put_0 rfl (lv_at hl 0 rfl) (lv_iconst (v := 0) hx hb dX7_put_1 (by decide) (gp_X7_50 hE C0 hK hP hS dX7_put_2 (fun H locs hP hS => (lv_iload_n hx hb dX7_put_5 rfl (lv_at hl 1 rfl) ?_))))
  refine g_iS (g_bS (As := [.int a1]) (rest := []) C0 hK hP kX7_isSheet ql_X7_63 (mX7_isSheet hE hv) rfl hl.1 rfl (Nat.le_of_ble_eq_true rfl) ⟨rfl, rfl, Nat.le_of_ble_eq_true rfl, Nat.le_of_ble_eq_true rfl⟩ dX7_put_6) hS (fun x1167 H locs hv hP hS => ?_)
  refine lv_if_ne (tgt := 14) hx hb dX7_put_9 (by decide) (fun c1168 => ?_) (fun c1168 => ?_)
  · have hv := hv.1 c1168
    refine lv_aload_n hx hb dX7_put_14 rfl (lv_at hl 0 rfl) (gg_X7_9 C0 hK hP dX7_put_15 (lv_iload_n hx hb dX7_put_18 rfl (lv_at hl 1 rfl) ?_))
    have hi1169 := hv.1
    have hv := hv.2
    refine g_iald hx hb hK hP (by decide) ga_33 hi1169 dX7_put_19 (lv_bipush (v := (-9)) hx hb dX7_put_20 (by decide) ?_)
    refine lv_icmp_ne (tgt := 31) hx hb dX7_put_22 (by decide) (fun c1170 => ?_) (fun c1170 => ?_)
    · have hv := hv.1 c1170
      refine lv_iload_n hx hb dX7_put_31 rfl (lv_at hl 2 rfl) (lv_iconst (v := 0) hx hb dX7_put_32 (by decide) (lv_aload_n hx hb dX7_put_33 rfl (lv_at hl 0 rfl) (gg_X7_13 C0 hK hP dX7_put_34 (lv_iload_n hx hb dX7_put_37 rfl (lv_at hl 1 rfl) ?_))))
      have hi1171 := hv.1
      have hv := hv.2
      refine g_iald hx hb hK hP (by decide) ga_34 hi1171 dX7_put_38 (lv_iconst (v := 1) hx hb dX7_put_39 (by decide) (lv_isub hx hb dX7_put_40 ?_))
      refine g_iS (g_bS (As := [.int a2, .int 0, .int (((up2 ν 32 0 0) 34 a1.toNatClampNeg) - 1)]) (rest := []) C0 hK hP kX7_within ql_X7_56 (mX7_within hE hv) rfl hl.1 rfl (Nat.le_of_ble_eq_true rfl) ⟨rfl, rfl, Nat.le_of_ble_eq_true rfl, Nat.le_of_ble_eq_true rfl⟩ dX7_put_41) hS (fun x1172 H locs hv hP hS => ?_)
      refine lv_if_ne (tgt := 53) hx hb dX7_put_44 (by decide) (fun c1173 => ?_) (fun c1173 => ?_)
      · have hv := hv.1 c1173
        refine lv_aload_n hx hb dX7_put_53 rfl (lv_at hl 0 rfl) (gg_X7_16 C0 hK hP dX7_put_54 (lv_bipush (v := 40) hx hb dX7_put_57 (by decide) (lv_iload_n hx hb dX7_put_59 rfl (lv_at hl 1 rfl) (lv_imul hx hb dX7_put_60 (lv_iload_n hx hb dX7_put_61 rfl (lv_at hl 2 rfl) (lv_iadd hx hb dX7_put_62 (lv_aload_n hx hb dX7_put_63 rfl (lv_at hl 0 rfl) (gg_X7_9 C0 hK hP dX7_put_64 (lv_iload_n hx hb dX7_put_67 rfl (lv_at hl 1 rfl) ?_)))))))))
        have hi1174 := hv.1
        have hv := hv.2
        refine g_iald hx hb hK hP (by decide) ga_33 hi1174 dX7_put_68 ?_
        refine lv_if_ne (tgt := 77) hx hb dX7_put_69 (by decide) (fun c1175 => ?_) (fun c1175 => ?_)
        · have hv := hv.1 c1175
          refine lv_aload_n hx hb dX7_put_77 rfl (lv_at hl 0 rfl) (gg_X7_9 C0 hK hP dX7_put_78 (lv_iload_n hx hb dX7_put_81 rfl (lv_at hl 1 rfl) ?_))
          have hi1176 := hv.1
          have hv := hv.2
          refine g_iald hx hb hK hP (by decide) ga_33 hi1176 dX7_put_82 (lv_iconst (v := 1) hx hb dX7_put_83 (by decide) ?_)
          refine lv_icmp_ne (tgt := 92) hx hb dX7_put_84 (by decide) (fun c1177 => ?_) (fun c1177 => ?_)
          · have hv := hv.1 c1177
            refine lv_iload_n hx hb dX7_put_92 rfl (lv_at hl 3 rfl) ?_
            have hi1178 := hv.1
            have hv := hv.2
            refine g_iastM hE hx hb hK hP hS (by decide) (fun _ => ga_35) hi1178 dX7_put_93 (fun H locs hP hS => (lv_iconst (v := 1) hx hb dX7_put_94 (by decide) ?_))
            exact g_retM hx hb hrt hlk hP hS rfl hv dX7_put_95
          · have hv := hv.2 c1177
            refine lv_iload_n hx hb dX7_put_87 rfl (lv_at hl 3 rfl) (lv_i2s hx hb dX7_put_88 rfl (lv_goto (tgt := 93) hx hb dX7_put_89 (by decide) ?_))
            have hi1179 := hv.1
            have hv := hv.2
            refine g_iastM hE hx hb hK hP hS (by decide) (fun _ => ga_35) hi1179 dX7_put_93 (fun H locs hP hS => (lv_iconst (v := 1) hx hb dX7_put_94 (by decide) ?_))
            exact g_retM hx hb hrt hlk hP hS rfl hv dX7_put_95
        · have hv := hv.2 c1175
          refine lv_iload_n hx hb dX7_put_72 rfl (lv_at hl 3 rfl) (lv_i2b hx hb dX7_put_73 rfl (lv_goto (tgt := 93) hx hb dX7_put_74 (by decide) ?_))
          have hi1180 := hv.1
          have hv := hv.2
          refine g_iastM hE hx hb hK hP hS (by decide) (fun _ => ga_35) hi1180 dX7_put_93 (fun H locs hP hS => (lv_iconst (v := 1) hx hb dX7_put_94 (by decide) ?_))
          exact g_retM hx hb hrt hlk hP hS rfl hv dX7_put_95
      · have hv := hv.2 c1173
        refine lv_aload_n hx hb dX7_put_47 rfl (lv_at hl 0 rfl) (lv_iconst (v := 3) hx hb dX7_put_48 (by decide) ?_)
        refine g_iM (g_bV (As := [.int 3]) (rest := []) C0 hK hP kX7_fails ql_X7_74 (mX7_fails hE hv) (by decide) ge_X7 rfl rfl hl.1 rfl (Nat.le_of_ble_eq_true rfl) ⟨rfl, rfl, Nat.le_of_ble_eq_true rfl, Nat.le_of_ble_eq_true rfl⟩ dX7_put_49) hS (fun x1181 ν1182 τ1183 H locs hv hP hS => ?_)
        exact g_retM hx hb hrt hlk hP hS rfl hv dX7_put_52
    · have hv := hv.2 c1170
      refine lv_aload_n hx hb dX7_put_25 rfl (lv_at hl 0 rfl) (lv_iconst (v := 1) hx hb dX7_put_26 (by decide) ?_)
      refine g_iM (g_bV (As := [.int 1]) (rest := []) C0 hK hP kX7_fails ql_X7_74 (mX7_fails hE hv) (by decide) ge_X7 rfl rfl hl.1 rfl (Nat.le_of_ble_eq_true rfl) ⟨rfl, rfl, Nat.le_of_ble_eq_true rfl, Nat.le_of_ble_eq_true rfl⟩ dX7_put_27) hS (fun x1184 ν1185 τ1186 H locs hv hP hS => ?_)
      exact g_retM hx hb hrt hlk hP hS rfl hv dX7_put_30
  · have hv := hv.2 c1168
    refine lv_iconst (v := (-1)) hx hb dX7_put_12 (by decide) ?_
    exact g_retM hx hb hrt hlk hP hS rfl hv dX7_put_13
set_option maxHeartbeats 4000000 in
set_option maxRecDepth 100000 in
theorem mX7_cell {l : Launch} {E : gE} {μ ν : gM} {τ : gJ} {Q : Int64 → gM → gJ → Prop} (hE : gLok E) {a1 : Int32} {a2 : Int32} {a3 : Int32}  (hv : vX7_cell a1 a2 a3 ν τ Q) : Met l yX7_cell (gws yX7_cell cX7_cell 4 (some .long)) (gRm 2 42) (gPc E [.ref (gL E 32), .int a1, .int a2, .int a3] μ ν τ) (gQlM E Q μ) 0 0 (gA E) := by
  refine g_entr (lv := [(0, .ref (gL E 32)), (1, .int a1), (2, .int a2), (3, .int a3)]) (by decide +kernel) (Nat.le_of_ble_eq_true rfl) rfl (fun p e s m args below meth c ls H locs hx hb hrt hlk C0 hK hP hS hl => ?_)
  have C0 : CallFix p m c cX7_cell 4 s args gTB RX7 := C0
  have h_50 : ∀  (ν : gM) (τ : gJ) (H : Heap) (locs : List Loc) (ls : Array Slot), va_P (gD E) vwCl (wl E μ ν τ) H → va_S (gA E) s.heap H locs → lv_has ls 4 [(0, .ref (gL E 32)), (1, .int a1), (2, .int a2)] → vX7_cell_50 a1 a2 a3 Q ν τ → W p l e (gRm 2 42) s m args below meth c H locs 0 0 (MQ below (gQlM E Q μ) args s 0 0 (gA E)) (F0 m 50 ls []) := by
    intro ν τ H locs ls hP hS hl hv
    unfold vX7_cell_50 at hv
    refine lv_aload_n hx hb dX7_cell_50 rfl (lv_at hl 0 rfl) (gg_X7_9 C0 hK hP dX7_cell_51 (lv_iload_n hx hb dX7_cell_54 rfl (lv_at hl 1 rfl) ?_))
    have hi1198 := hv.1
    have hv := hv.2
    refine g_iald hx hb hK hP (by decide) ga_33 hi1198 dX7_cell_55 (lv_bipush (v := (-9)) hx hb dX7_cell_56 (by decide) ?_)
    refine lv_icmp_ne (tgt := 67) hx hb dX7_cell_58 (by decide) (fun c1199 => ?_) (fun c1199 => ?_)
    · have hv := hv.1 c1199
      refine lv_iload_n hx hb dX7_cell_67 rfl (lv_at hl 2 rfl) (lv_iconst (v := 0) hx hb dX7_cell_68 (by decide) (lv_aload_n hx hb dX7_cell_69 rfl (lv_at hl 0 rfl) (gg_X7_13 C0 hK hP dX7_cell_70 (lv_iload_n hx hb dX7_cell_73 rfl (lv_at hl 1 rfl) ?_))))
      have hi1200 := hv.1
      have hv := hv.2
      refine g_iald hx hb hK hP (by decide) ga_34 hi1200 dX7_cell_74 (lv_iconst (v := 1) hx hb dX7_cell_75 (by decide) (lv_isub hx hb dX7_cell_76 ?_))
      refine g_iS (g_bS (As := [.int a2, .int 0, .int ((ν 34 a1.toNatClampNeg) - 1)]) (rest := []) C0 hK hP kX7_within ql_X7_56 (mX7_within hE hv) rfl hl.1 rfl (Nat.le_of_ble_eq_true rfl) ⟨rfl, rfl, Nat.le_of_ble_eq_true rfl, Nat.le_of_ble_eq_true rfl⟩ dX7_cell_77) hS (fun x1201 H locs hv hP hS => ?_)
      refine lv_if_ne (tgt := 89) hx hb dX7_cell_80 (by decide) (fun c1202 => ?_) (fun c1202 => ?_)
      · have hv := hv.1 c1202
        refine lv_aload_n hx hb dX7_cell_89 rfl (lv_at hl 0 rfl) (gg_X7_16 C0 hK hP dX7_cell_90 (lv_bipush (v := 40) hx hb dX7_cell_93 (by decide) (lv_iload_n hx hb dX7_cell_95 rfl (lv_at hl 1 rfl) (lv_imul hx hb dX7_cell_96 (lv_iload_n hx hb dX7_cell_97 rfl (lv_at hl 2 rfl) (lv_iadd hx hb dX7_cell_98 ?_))))))
        have hi1203 := hv.1
        have hv := hv.2
        refine g_iald hx hb hK hP (by decide) ga_35 hi1203 dX7_cell_99 (lv_i2l hx hb dX7_cell_100 rfl ?_)
        exact g_lretM hx hb hrt hlk hP hS hv dX7_cell_101
      · have hv := hv.2 c1202
        refine lv_aload_n hx hb dX7_cell_83 rfl (lv_at hl 0 rfl) (lv_iconst (v := 3) hx hb dX7_cell_84 (by decide) ?_)
        refine g_lM (g_bV (As := [.int 3]) (rest := []) C0 hK hP kX7_lost ql_X7_168 (mX7_lost hE hv) (by decide) ge_X7 rfl rfl hl.1 rfl (Nat.le_of_ble_eq_true rfl) ⟨rfl, rfl, Nat.le_of_ble_eq_true rfl, Nat.le_of_ble_eq_true rfl⟩ dX7_cell_85) hS (fun x1204 ν1205 τ1206 H locs hv hP hS => ?_)
        exact g_lretM hx hb hrt hlk hP hS hv dX7_cell_88
    · have hv := hv.2 c1199
      refine lv_aload_n hx hb dX7_cell_61 rfl (lv_at hl 0 rfl) (lv_iconst (v := 1) hx hb dX7_cell_62 (by decide) ?_)
      refine g_lM (g_bV (As := [.int 1]) (rest := []) C0 hK hP kX7_lost ql_X7_168 (mX7_lost hE hv) (by decide) ge_X7 rfl rfl hl.1 rfl (Nat.le_of_ble_eq_true rfl) ⟨rfl, rfl, Nat.le_of_ble_eq_true rfl, Nat.le_of_ble_eq_true rfl⟩ dX7_cell_63) hS (fun x1207 ν1208 τ1209 H locs hv hP hS => ?_)
      exact g_lretM hx hb hrt hlk hP hS hv dX7_cell_66
  unfold vX7_cell at hv
  refine lv_aload_n hx hb dX7_cell_0 rfl (lv_at hl 0 rfl) (lv_iconst (v := 0) hx hb dX7_cell_1 (by decide) (gp_X7_50 hE C0 hK hP hS dX7_cell_2 (fun H locs hP hS => (lv_iload_n hx hb dX7_cell_5 rfl (lv_at hl 1 rfl) ?_))))
  refine g_iS (g_bS (As := [.int a1]) (rest := []) C0 hK hP kX7_isSheet ql_X7_63 (mX7_isSheet hE hv) rfl hl.1 rfl (Nat.le_of_ble_eq_true rfl) ⟨rfl, rfl, Nat.le_of_ble_eq_true rfl, Nat.le_of_ble_eq_true rfl⟩ dX7_cell_6) hS (fun x1187 H locs hv hP hS => ?_)
  refine lv_if_eq (tgt := 19) hx hb dX7_cell_9 (by decide) (fun c1188 => ?_) (fun c1188 => ?_)
  · have hv := hv.1 c1188
    refine lv_ldc2 (v := -9223372036854775808) hx hb C0.2.2.2.1 (C0.2.2.2.2 _ (gTB_at 837 rfl rfl)) dX7_cell_19 ?_
    exact g_lretM hx hb hrt hlk hP hS hv dX7_cell_22
  · have hv := hv.2 c1188
    refine lv_iload_n hx hb dX7_cell_12 rfl (lv_at hl 3 rfl) ?_
    refine g_iS (g_bS (As := [.int a3]) (rest := []) C0 hK hP kX7_isSort ql_X7_67 (mX7_isSort hE hv) rfl hl.1 rfl (Nat.le_of_ble_eq_true rfl) ⟨rfl, rfl, Nat.le_of_ble_eq_true rfl, Nat.le_of_ble_eq_true rfl⟩ dX7_cell_13) hS (fun x1189 H locs hv hP hS => ?_)
    refine lv_if_ne (tgt := 23) hx hb dX7_cell_16 (by decide) (fun c1190 => ?_) (fun c1190 => ?_)
    · have hv := hv.1 c1190
      refine lv_aload_n hx hb dX7_cell_23 rfl (lv_at hl 0 rfl) (gg_X7_9 C0 hK hP dX7_cell_24 (lv_iload_n hx hb dX7_cell_27 rfl (lv_at hl 1 rfl) ?_))
      have hi1191 := hv.1
      have hv := hv.2
      refine g_iald hx hb hK hP (by decide) ga_33 hi1191 dX7_cell_28 (lv_bipush (v := (-9)) hx hb dX7_cell_29 (by decide) ?_)
      refine lv_icmp_eq (tgt := 50) hx hb dX7_cell_31 (by decide) (fun c1192 => ?_) (fun c1192 => ?_)
      · have hv := hv.1 c1192
        exact h_50 (up2 ν 32 0 0) τ H locs ls hP hS (lv_sub hl [0, 1, 2] rfl) hv
      · have hv := hv.2 c1192
        refine lv_aload_n hx hb dX7_cell_34 rfl (lv_at hl 0 rfl) (gg_X7_9 C0 hK hP dX7_cell_35 (lv_iload_n hx hb dX7_cell_38 rfl (lv_at hl 1 rfl) ?_))
        have hi1193 := hv.1
        have hv := hv.2
        refine g_iald hx hb hK hP (by decide) ga_33 hi1193 dX7_cell_39 (lv_iload_n hx hb dX7_cell_40 rfl (lv_at hl 3 rfl) ?_)
        refine lv_icmp_eq (tgt := 50) hx hb dX7_cell_41 (by decide) (fun c1194 => ?_) (fun c1194 => ?_)
        · have hv := hv.1 c1194
          exact h_50 (up2 ν 32 0 0) τ H locs ls hP hS (lv_sub hl [0, 1, 2] rfl) hv
        · have hv := hv.2 c1194
          refine lv_aload_n hx hb dX7_cell_44 rfl (lv_at hl 0 rfl) (lv_iconst (v := 2) hx hb dX7_cell_45 (by decide) ?_)
          refine g_lM (g_bV (As := [.int 2]) (rest := []) C0 hK hP kX7_lost ql_X7_168 (mX7_lost hE hv) (by decide) ge_X7 rfl rfl hl.1 rfl (Nat.le_of_ble_eq_true rfl) ⟨rfl, rfl, Nat.le_of_ble_eq_true rfl, Nat.le_of_ble_eq_true rfl⟩ dX7_cell_46) hS (fun x1195 ν1196 τ1197 H locs hv hP hS => ?_)
          exact g_lretM hx hb hrt hlk hP hS hv dX7_cell_49
    · have hv := hv.2 c1190
      refine lv_ldc2 (v := -9223372036854775808) hx hb C0.2.2.2.1 (C0.2.2.2.2 _ (gTB_at 837 rfl rfl)) dX7_cell_19 ?_
      exact g_lretM hx hb hrt hlk hP hS hv dX7_cell_22
set_option maxHeartbeats 4000000 in
set_option maxRecDepth 100000 in
theorem mX7_copy {l : Launch} {E : gE} {μ ν : gM} {τ : gJ} {Q : Int32 → gM → gJ → Prop} (hE : gLok E) {a1 : Int32} {a2 : Int32} {a3 : Int32} {a4 : Int32} {a5 : Int32}  (hv : vX7_copy a1 a2 a3 a4 a5 ν τ Q) : Met l yX7_copy (gws yX7_copy cX7_copy 10 (some .int)) (gRm 2 42) (gPc E [.ref (gL E 32), .int a1, .int a2, .int a3, .int a4, .int a5] μ ν τ) (gQiM E Q μ) 0 0 (gA E) := by
  refine g_entr (lv := [(0, .ref (gL E 32)), (1, .int a1), (2, .int a2), (3, .int a3), (4, .int a4), (5, .int a5)]) (by decide +kernel) (Nat.le_of_ble_eq_true rfl) rfl (fun p e s m args below meth c ls H locs hx hb hrt hlk C0 hK hP hS hl => ?_)
  have C0 : CallFix p m c cX7_copy 10 s args gTB RX7 := C0
  have h_166 : ∀ (n_166 : Nat) (v7 : Int32) (v8 : Int32) (ν : gM) (τ : gJ) (H : Heap) (locs : List Loc) (ls : Array Slot), va_P (gD E) vwCl (wl E μ ν τ) H → va_S (gA E) s.heap H locs → lv_has ls 10 [(0, .ref (gL E 32)), (1, .int a1), (2, .int a2), (3, .int a3), (4, .int a4), (5, .int a5), (7, .int v7), (8, .int v8)] → vX7_copy_166 a1 a2 a3 a4 a5 Q n_166 v7 v8 ν τ → W p l e (gRm 2 42) s m args below meth c H locs 0 0 (MQ below (gQiM E Q μ) args s 0 0 (gA E)) (F0 m 166 ls []) := by
    intro n_166
    induction n_166 with
    | zero =>
      intro v7 v8 ν τ H locs ls hP hS hl hv
      exact False.elim hv
    | succ n_166 ih_166 =>
      intro v7 v8 ν τ H locs ls hP hS hl hv
      have h_190 : ∀ (v7 : Int32) (v8 : Int32) (t0 : Int32) (ν : gM) (τ : gJ) (H : Heap) (locs : List Loc) (ls : Array Slot), va_P (gD E) vwCl (wl E μ ν τ) H → va_S (gA E) s.heap H locs → lv_has ls 10 [(0, .ref (gL E 32)), (1, .int a1), (2, .int a2), (3, .int a3), (4, .int a4), (5, .int a5), (7, .int v7), (8, .int v8)] → vX7_copy_190 a1 a2 a3 a4 a5 Q (vX7_copy_166 a1 a2 a3 a4 a5 Q n_166) v7 v8 t0 ν τ → W p l e (gRm 2 42) s m args below meth c H locs 0 0 (MQ below (gQiM E Q μ) args s 0 0 (gA E)) (F0 m 190 ls [.int t0]) := by
        intro v7 v8 t0 ν τ H locs ls hP hS hl hv
        unfold vX7_copy_190 at hv
        refine lv_istore (lv' := [(9, .int t0), (0, .ref (gL E 32)), (1, .int a1), (2, .int a2), (3, .int a3), (4, .int a4), (5, .int a5), (7, .int v7), (8, .int v8)]) hx hb dX7_copy_190 hl (by decide) rfl (fun ls hl => (lv_aload_n hx hb dX7_copy_192 rfl (lv_at hl 1 rfl) (gg_X7_16 C0 hK hP dX7_copy_193 (lv_bipush (v := 40) hx hb dX7_copy_196 (by decide) (lv_iload_n hx hb dX7_copy_198 rfl (lv_at hl 4 rfl) (lv_imul hx hb dX7_copy_199 (lv_iload hx hb dX7_copy_200 (lv_at hl 5 rfl) (lv_iadd hx hb dX7_copy_202 (lv_iload hx hb dX7_copy_203 (lv_at hl 0 rfl) (lv_iadd hx hb dX7_copy_205 ?_))))))))))
        refine lv_aload_n hx hb dX7_copy_206 rfl (lv_at hl 1 rfl) (gg_X7_16 C0 hK hP dX7_copy_207 (lv_bipush (v := 40) hx hb dX7_copy_210 (by decide) (lv_iload_n hx hb dX7_copy_212 rfl (lv_at hl 2 rfl) (lv_imul hx hb dX7_copy_213 (lv_iload_n hx hb dX7_copy_214 rfl (lv_at hl 3 rfl) (lv_iadd hx hb dX7_copy_215 (lv_iload hx hb dX7_copy_216 (lv_at hl 0 rfl) (lv_iadd hx hb dX7_copy_218 ?_))))))))
        have hi1254 := hv.1
        have hv := hv.2
        refine g_iald hx hb hK hP (by decide) ga_35 hi1254 dX7_copy_219 ?_
        have hi1255 := hv.1
        have hv := hv.2
        refine g_iastM hE hx hb hK hP hS (by decide) (fun _ => ga_35) hi1255 dX7_copy_220 (fun H locs hP hS => (lv_iinc (v := (v8 + 1)) (lv' := [(8, .int (v8 + 1)), (9, .int t0), (0, .ref (gL E 32)), (1, .int a1), (2, .int a2), (3, .int a3), (4, .int a4), (5, .int a5), (7, .int v7)]) hx hb dX7_copy_221 hl (k := 8) rfl rfl (by decide) rfl (fun ls hl => (lv_goto (tgt := 166) hx hb dX7_copy_224 (by decide) ?_))))
        exact ih_166 v7 (v8 + 1) (up2 ν 35 (((40 * a3) + a4) + t0).toNatClampNeg (ν 35 (((40 * a1) + a2) + t0).toNatClampNeg)) τ H locs ls hP hS (lv_sub hl [2, 3, 4, 5, 6, 7, 8, 0] rfl) hv
      have hv : vX7_copy_166B a1 a2 a3 a4 a5 Q (vX7_copy_166 a1 a2 a3 a4 a5 Q n_166) v7 v8 ν τ := hv
      unfold vX7_copy_166B at hv
      refine lv_iload hx hb dX7_copy_166 (lv_at hl 7 rfl) (lv_iload hx hb dX7_copy_168 (lv_at hl 5 rfl) ?_)
      refine lv_icmp_ge (tgt := 227) hx hb dX7_copy_170 (by decide) (fun c1252 => ?_) (fun c1252 => ?_)
      · have hv := hv.1 c1252
        refine lv_iload hx hb dX7_copy_227 (lv_at hl 5 rfl) ?_
        exact g_retM hx hb hrt hlk hP hS rfl hv dX7_copy_229
      · have hv := hv.2 c1252
        refine lv_iload hx hb dX7_copy_173 (lv_at hl 6 rfl) ?_
        refine lv_if_eq (tgt := 188) hx hb dX7_copy_175 (by decide) (fun c1253 => ?_) (fun c1253 => ?_)
        · have hv := hv.1 c1253
          refine lv_iload hx hb dX7_copy_188 (lv_at hl 7 rfl) ?_
          exact h_190 v7 v8 v8 ν τ H locs ls hP hS (lv_sub hl [0, 1, 2, 3, 4, 5, 6, 7] rfl) hv
        · have hv := hv.2 c1253
          refine lv_iload hx hb dX7_copy_178 (lv_at hl 5 rfl) (lv_iconst (v := 1) hx hb dX7_copy_180 (by decide) (lv_isub hx hb dX7_copy_181 (lv_iload hx hb dX7_copy_182 (lv_at hl 7 rfl) (lv_isub hx hb dX7_copy_184 (lv_goto (tgt := 190) hx hb dX7_copy_185 (by decide) ?_)))))
          exact h_190 v7 v8 ((a5 - 1) - v8) ν τ H locs ls hP hS (lv_sub hl [0, 1, 2, 3, 4, 5, 6, 7] rfl) hv
  have h_110 : ∀ (t0 : Int32) (ν : gM) (τ : gJ) (H : Heap) (locs : List Loc) (ls : Array Slot), va_P (gD E) vwCl (wl E μ ν τ) H → va_S (gA E) s.heap H locs → lv_has ls 10 [(0, .ref (gL E 32)), (1, .int a1), (2, .int a2), (3, .int a3), (4, .int a4), (5, .int a5)] → vX7_copy_110 a1 a2 a3 a4 a5 Q t0 ν τ → W p l e (gRm 2 42) s m args below meth c H locs 0 0 (MQ below (gQiM E Q μ) args s 0 0 (gA E)) (F0 m 110 ls [.int t0]) := by
    intro t0 ν τ H locs ls hP hS hl hv
    unfold vX7_copy_110 at hv
    refine lv_istore (lv' := [(6, .int t0), (0, .ref (gL E 32)), (1, .int a1), (2, .int a2), (3, .int a3), (4, .int a4), (5, .int a5)]) hx hb dX7_copy_110 hl (by decide) rfl (fun ls hl => (lv_iload hx hb dX7_copy_112 (lv_at hl 0 rfl) ?_))
    refine lv_if_eq (tgt := 144) hx hb dX7_copy_114 (by decide) (fun c1237 => ?_) (fun c1237 => ?_)
    · have hv := hv.1 c1237
      refine lv_aload_n hx hb dX7_copy_144 rfl (lv_at hl 1 rfl) (lv_iconst (v := 3) hx hb dX7_copy_145 (by decide) ?_)
      refine g_iM (g_bV (As := [.int 3]) (rest := []) C0 hK hP kX7_fails ql_X7_74 (mX7_fails hE hv) (by decide) ge_X7 rfl rfl hl.1 rfl (Nat.le_of_ble_eq_true rfl) ⟨rfl, rfl, Nat.le_of_ble_eq_true rfl, Nat.le_of_ble_eq_true rfl⟩ dX7_copy_146) hS (fun x1238 ν1239 τ1240 H locs hv hP hS => ?_)
      exact g_retM hx hb hrt hlk hP hS rfl hv dX7_copy_149
    · have hv := hv.2 c1237
      refine lv_iload hx hb dX7_copy_117 (lv_at hl 6 rfl) (lv_aload_n hx hb dX7_copy_119 rfl (lv_at hl 1 rfl) (gg_X7_13 C0 hK hP dX7_copy_120 (lv_iload_n hx hb dX7_copy_123 rfl (lv_at hl 2 rfl) ?_)))
      have hi1241 := hv.1
      have hv := hv.2
      refine g_iald hx hb hK hP (by decide) ga_34 hi1241 dX7_copy_124 (lv_iload_n hx hb dX7_copy_125 rfl (lv_at hl 3 rfl) (lv_isub hx hb dX7_copy_126 ?_))
      refine lv_icmp_gt (tgt := 144) hx hb dX7_copy_127 (by decide) (fun c1242 => ?_) (fun c1242 => ?_)
      · have hv := hv.1 c1242
        refine lv_aload_n hx hb dX7_copy_144 rfl (lv_at hl 1 rfl) (lv_iconst (v := 3) hx hb dX7_copy_145 (by decide) ?_)
        refine g_iM (g_bV (As := [.int 3]) (rest := []) C0 hK hP kX7_fails ql_X7_74 (mX7_fails hE hv) (by decide) ge_X7 rfl rfl hl.1 rfl (Nat.le_of_ble_eq_true rfl) ⟨rfl, rfl, Nat.le_of_ble_eq_true rfl, Nat.le_of_ble_eq_true rfl⟩ dX7_copy_146) hS (fun x1243 ν1244 τ1245 H locs hv hP hS => ?_)
        exact g_retM hx hb hrt hlk hP hS rfl hv dX7_copy_149
      · have hv := hv.2 c1242
        refine lv_iload hx hb dX7_copy_130 (lv_at hl 6 rfl) (lv_aload_n hx hb dX7_copy_132 rfl (lv_at hl 1 rfl) (gg_X7_13 C0 hK hP dX7_copy_133 (lv_iload_n hx hb dX7_copy_136 rfl (lv_at hl 4 rfl) ?_)))
        have hi1246 := hv.1
        have hv := hv.2
        refine g_iald hx hb hK hP (by decide) ga_34 hi1246 dX7_copy_137 (lv_iload hx hb dX7_copy_138 (lv_at hl 5 rfl) (lv_isub hx hb dX7_copy_140 ?_))
        refine lv_icmp_le (tgt := 150) hx hb dX7_copy_141 (by decide) (fun c1247 => ?_) (fun c1247 => ?_)
        · have hv := hv.1 c1247
          refine lv_iload_n hx hb dX7_copy_150 rfl (lv_at hl 3 rfl) (lv_iload hx hb dX7_copy_151 (lv_at hl 5 rfl) ?_)
          refine lv_icmp_ge (tgt := 160) hx hb dX7_copy_153 (by decide) (fun c1248 => ?_) (fun c1248 => ?_)
          · have hv := hv.1 c1248
            refine lv_iconst (v := 0) hx hb dX7_copy_160 (by decide) (lv_istore (lv' := [(7, .int 0), (6, .int t0), (0, .ref (gL E 32)), (1, .int a1), (2, .int a2), (3, .int a3), (4, .int a4), (5, .int a5)]) hx hb dX7_copy_161 hl (by decide) rfl (fun ls hl => (lv_iconst (v := 0) hx hb dX7_copy_163 (by decide) (lv_istore (lv' := [(8, .int 0), (7, .int 0), (6, .int t0), (0, .ref (gL E 32)), (1, .int a1), (2, .int a2), (3, .int a3), (4, .int a4), (5, .int a5)]) hx hb dX7_copy_164 hl (by decide) rfl (fun ls hl => ?_)))))
            obtain ⟨nf, hv⟩ := hv
            exact h_166 nf 0 0 ν τ H locs ls hP hS (lv_sub hl [3, 4, 5, 6, 7, 8, 1, 0] rfl) hv
          · have hv := hv.2 c1248
            refine lv_iconst (v := 1) hx hb dX7_copy_156 (by decide) (lv_goto (tgt := 161) hx hb dX7_copy_157 (by decide) (lv_istore (lv' := [(7, .int 1), (6, .int t0), (0, .ref (gL E 32)), (1, .int a1), (2, .int a2), (3, .int a3), (4, .int a4), (5, .int a5)]) hx hb dX7_copy_161 hl (by decide) rfl (fun ls hl => (lv_iconst (v := 0) hx hb dX7_copy_163 (by decide) (lv_istore (lv' := [(8, .int 0), (7, .int 1), (6, .int t0), (0, .ref (gL E 32)), (1, .int a1), (2, .int a2), (3, .int a3), (4, .int a4), (5, .int a5)]) hx hb dX7_copy_164 hl (by decide) rfl (fun ls hl => ?_))))))
            obtain ⟨nf, hv⟩ := hv
            exact h_166 nf 1 0 ν τ H locs ls hP hS (lv_sub hl [3, 4, 5, 6, 7, 8, 1, 0] rfl) hv
        · have hv := hv.2 c1247
          refine lv_aload_n hx hb dX7_copy_144 rfl (lv_at hl 1 rfl) (lv_iconst (v := 3) hx hb dX7_copy_145 (by decide) ?_)
          refine g_iM (g_bV (As := [.int 3]) (rest := []) C0 hK hP kX7_fails ql_X7_74 (mX7_fails hE hv) (by decide) ge_X7 rfl rfl hl.1 rfl (Nat.le_of_ble_eq_true rfl) ⟨rfl, rfl, Nat.le_of_ble_eq_true rfl, Nat.le_of_ble_eq_true rfl⟩ dX7_copy_146) hS (fun x1249 ν1250 τ1251 H locs hv hP hS => ?_)
          exact g_retM hx hb hrt hlk hP hS rfl hv dX7_copy_149
  have h_109 : ∀  (ν : gM) (τ : gJ) (H : Heap) (locs : List Loc) (ls : Array Slot), va_P (gD E) vwCl (wl E μ ν τ) H → va_S (gA E) s.heap H locs → lv_has ls 10 [(0, .ref (gL E 32)), (1, .int a1), (2, .int a2), (3, .int a3), (4, .int a4), (5, .int a5)] → vX7_copy_109 a1 a2 a3 a4 a5 Q ν τ → W p l e (gRm 2 42) s m args below meth c H locs 0 0 (MQ below (gQiM E Q μ) args s 0 0 (gA E)) (F0 m 109 ls []) := by
    intro ν τ H locs ls hP hS hl hv
    unfold vX7_copy_109 at hv
    refine lv_iconst (v := 0) hx hb dX7_copy_109 (by decide) ?_
    exact h_110 0 ν τ H locs ls hP hS (lv_sub hl [0, 1, 2, 3, 4, 5] rfl) hv
  unfold vX7_copy at hv
  refine lv_aload_n hx hb dX7_copy_0 rfl (lv_at hl 0 rfl) (lv_iconst (v := 0) hx hb dX7_copy_1 (by decide) (gp_X7_50 hE C0 hK hP hS dX7_copy_2 (fun H locs hP hS => (lv_iload_n hx hb dX7_copy_5 rfl (lv_at hl 1 rfl) ?_))))
  refine g_iS (g_bS (As := [.int a1]) (rest := []) C0 hK hP kX7_isSheet ql_X7_63 (mX7_isSheet hE hv) rfl hl.1 rfl (Nat.le_of_ble_eq_true rfl) ⟨rfl, rfl, Nat.le_of_ble_eq_true rfl, Nat.le_of_ble_eq_true rfl⟩ dX7_copy_6) hS (fun x1210 H locs hv hP hS => ?_)
  refine lv_if_eq (tgt := 19) hx hb dX7_copy_9 (by decide) (fun c1211 => ?_) (fun c1211 => ?_)
  · have hv := hv.1 c1211
    refine lv_iconst (v := (-1)) hx hb dX7_copy_19 (by decide) ?_
    exact g_retM hx hb hrt hlk hP hS rfl hv dX7_copy_20
  · have hv := hv.2 c1211
    refine lv_iload_n hx hb dX7_copy_12 rfl (lv_at hl 3 rfl) ?_
    refine g_iS (g_bS (As := [.int a3]) (rest := []) C0 hK hP kX7_isSheet ql_X7_63 (mX7_isSheet hE hv) rfl hl.1 rfl (Nat.le_of_ble_eq_true rfl) ⟨rfl, rfl, Nat.le_of_ble_eq_true rfl, Nat.le_of_ble_eq_true rfl⟩ dX7_copy_13) hS (fun x1212 H locs hv hP hS => ?_)
    refine lv_if_ne (tgt := 21) hx hb dX7_copy_16 (by decide) (fun c1213 => ?_) (fun c1213 => ?_)
    · have hv := hv.1 c1213
      refine lv_aload_n hx hb dX7_copy_21 rfl (lv_at hl 0 rfl) (gg_X7_9 C0 hK hP dX7_copy_22 (lv_iload_n hx hb dX7_copy_25 rfl (lv_at hl 1 rfl) ?_))
      have hi1214 := hv.1
      have hv := hv.2
      refine g_iald hx hb hK hP (by decide) ga_33 hi1214 dX7_copy_26 (lv_bipush (v := (-9)) hx hb dX7_copy_27 (by decide) ?_)
      refine lv_icmp_eq (tgt := 43) hx hb dX7_copy_29 (by decide) (fun c1215 => ?_) (fun c1215 => ?_)
      · have hv := hv.1 c1215
        refine lv_aload_n hx hb dX7_copy_43 rfl (lv_at hl 0 rfl) (lv_iconst (v := 1) hx hb dX7_copy_44 (by decide) ?_)
        refine g_iM (g_bV (As := [.int 1]) (rest := []) C0 hK hP kX7_fails ql_X7_74 (mX7_fails hE hv) (by decide) ge_X7 rfl rfl hl.1 rfl (Nat.le_of_ble_eq_true rfl) ⟨rfl, rfl, Nat.le_of_ble_eq_true rfl, Nat.le_of_ble_eq_true rfl⟩ dX7_copy_45) hS (fun x1216 ν1217 τ1218 H locs hv hP hS => ?_)
        exact g_retM hx hb hrt hlk hP hS rfl hv dX7_copy_48
      · have hv := hv.2 c1215
        refine lv_aload_n hx hb dX7_copy_32 rfl (lv_at hl 0 rfl) (gg_X7_9 C0 hK hP dX7_copy_33 (lv_iload_n hx hb dX7_copy_36 rfl (lv_at hl 3 rfl) ?_))
        have hi1219 := hv.1
        have hv := hv.2
        refine g_iald hx hb hK hP (by decide) ga_33 hi1219 dX7_copy_37 (lv_bipush (v := (-9)) hx hb dX7_copy_38 (by decide) ?_)
        refine lv_icmp_ne (tgt := 49) hx hb dX7_copy_40 (by decide) (fun c1220 => ?_) (fun c1220 => ?_)
        · have hv := hv.1 c1220
          refine lv_aload_n hx hb dX7_copy_49 rfl (lv_at hl 0 rfl) (gg_X7_9 C0 hK hP dX7_copy_50 (lv_iload_n hx hb dX7_copy_53 rfl (lv_at hl 1 rfl) ?_))
          have hi1221 := hv.1
          have hv := hv.2
          refine g_iald hx hb hK hP (by decide) ga_33 hi1221 dX7_copy_54 (lv_aload_n hx hb dX7_copy_55 rfl (lv_at hl 0 rfl) (gg_X7_9 C0 hK hP dX7_copy_56 (lv_iload_n hx hb dX7_copy_59 rfl (lv_at hl 3 rfl) ?_)))
          have hi1222 := hv.1
          have hv := hv.2
          refine g_iald hx hb hK hP (by decide) ga_33 hi1222 dX7_copy_60 ?_
          refine lv_icmp_eq (tgt := 70) hx hb dX7_copy_61 (by decide) (fun c1223 => ?_) (fun c1223 => ?_)
          · have hv := hv.1 c1223
            refine lv_iload_n hx hb dX7_copy_70 rfl (lv_at hl 2 rfl) ?_
            refine lv_if_lt (tgt := 109) hx hb dX7_copy_71 (by decide) (fun c1224 => ?_) (fun c1224 => ?_)
            · have hv := hv.1 c1224
              exact h_109 (up2 ν 32 0 0) τ H locs ls hP hS (lv_sub hl [0, 1, 2, 3, 4, 5] rfl) hv
            · have hv := hv.2 c1224
              refine lv_iload hx hb dX7_copy_74 (lv_at hl 4 rfl) ?_
              refine lv_if_lt (tgt := 109) hx hb dX7_copy_76 (by decide) (fun c1225 => ?_) (fun c1225 => ?_)
              · have hv := hv.1 c1225
                exact h_109 (up2 ν 32 0 0) τ H locs ls hP hS (lv_sub hl [0, 1, 2, 3, 4, 5] rfl) hv
              · have hv := hv.2 c1225
                refine lv_iload hx hb dX7_copy_79 (lv_at hl 5 rfl) ?_
                refine lv_if_lt (tgt := 109) hx hb dX7_copy_81 (by decide) (fun c1226 => ?_) (fun c1226 => ?_)
                · have hv := hv.1 c1226
                  exact h_109 (up2 ν 32 0 0) τ H locs ls hP hS (lv_sub hl [0, 1, 2, 3, 4, 5] rfl) hv
                · have hv := hv.2 c1226
                  refine lv_iload_n hx hb dX7_copy_84 rfl (lv_at hl 2 rfl) (lv_aload_n hx hb dX7_copy_85 rfl (lv_at hl 0 rfl) (gg_X7_13 C0 hK hP dX7_copy_86 (lv_iload_n hx hb dX7_copy_89 rfl (lv_at hl 1 rfl) ?_)))
                  have hi1227 := hv.1
                  have hv := hv.2
                  refine g_iald hx hb hK hP (by decide) ga_34 hi1227 dX7_copy_90 ?_
                  refine lv_icmp_gt (tgt := 109) hx hb dX7_copy_91 (by decide) (fun c1228 => ?_) (fun c1228 => ?_)
                  · have hv := hv.1 c1228
                    exact h_109 (up2 ν 32 0 0) τ H locs ls hP hS (lv_sub hl [0, 1, 2, 3, 4, 5] rfl) hv
                  · have hv := hv.2 c1228
                    refine lv_iload hx hb dX7_copy_94 (lv_at hl 4 rfl) (lv_aload_n hx hb dX7_copy_96 rfl (lv_at hl 0 rfl) (gg_X7_13 C0 hK hP dX7_copy_97 (lv_iload_n hx hb dX7_copy_100 rfl (lv_at hl 3 rfl) ?_)))
                    have hi1229 := hv.1
                    have hv := hv.2
                    refine g_iald hx hb hK hP (by decide) ga_34 hi1229 dX7_copy_101 ?_
                    refine lv_icmp_gt (tgt := 109) hx hb dX7_copy_102 (by decide) (fun c1230 => ?_) (fun c1230 => ?_)
                    · have hv := hv.1 c1230
                      exact h_109 (up2 ν 32 0 0) τ H locs ls hP hS (lv_sub hl [0, 1, 2, 3, 4, 5] rfl) hv
                    · have hv := hv.2 c1230
                      refine lv_iconst (v := 1) hx hb dX7_copy_105 (by decide) (lv_goto (tgt := 110) hx hb dX7_copy_106 (by decide) ?_)
                      exact h_110 1 (up2 ν 32 0 0) τ H locs ls hP hS (lv_sub hl [0, 1, 2, 3, 4, 5] rfl) hv
          · have hv := hv.2 c1223
            refine lv_aload_n hx hb dX7_copy_64 rfl (lv_at hl 0 rfl) (lv_iconst (v := 2) hx hb dX7_copy_65 (by decide) ?_)
            refine g_iM (g_bV (As := [.int 2]) (rest := []) C0 hK hP kX7_fails ql_X7_74 (mX7_fails hE hv) (by decide) ge_X7 rfl rfl hl.1 rfl (Nat.le_of_ble_eq_true rfl) ⟨rfl, rfl, Nat.le_of_ble_eq_true rfl, Nat.le_of_ble_eq_true rfl⟩ dX7_copy_66) hS (fun x1231 ν1232 τ1233 H locs hv hP hS => ?_)
            exact g_retM hx hb hrt hlk hP hS rfl hv dX7_copy_69
        · have hv := hv.2 c1220
          refine lv_aload_n hx hb dX7_copy_43 rfl (lv_at hl 0 rfl) (lv_iconst (v := 1) hx hb dX7_copy_44 (by decide) ?_)
          refine g_iM (g_bV (As := [.int 1]) (rest := []) C0 hK hP kX7_fails ql_X7_74 (mX7_fails hE hv) (by decide) ge_X7 rfl rfl hl.1 rfl (Nat.le_of_ble_eq_true rfl) ⟨rfl, rfl, Nat.le_of_ble_eq_true rfl, Nat.le_of_ble_eq_true rfl⟩ dX7_copy_45) hS (fun x1234 ν1235 τ1236 H locs hv hP hS => ?_)
          exact g_retM hx hb hrt hlk hP hS rfl hv dX7_copy_48
    · have hv := hv.2 c1213
      refine lv_iconst (v := (-1)) hx hb dX7_copy_19 (by decide) ?_
      exact g_retM hx hb hrt hlk hP hS rfl hv dX7_copy_20
set_option maxHeartbeats 4000000 in
set_option maxRecDepth 100000 in
theorem mX7_begins {l : Launch} {E : gE} {μ ν : gM} {τ : gJ} {Q : gM → gJ → Prop} (hE : gLok E) {a1 : Int32}  (hv : vX7_begins a1 ν τ Q) : Met l yX7_begins (gws yX7_begins cX7_begins 2 none) (gRm 0 0) (gPc E [.ref (gL E 32), .int a1] μ ν τ) (gQvM E Q μ) 0 0 (gA E) := by
  refine g_entr (lv := [(0, .ref (gL E 32)), (1, .int a1)]) (by decide +kernel) (Nat.le_of_ble_eq_true rfl) rfl (fun p e s m args below meth c ls H locs hx hb hrt hlk C0 hK hP hS hl => ?_)
  have C0 : CallFix p m c cX7_begins 2 s args gTB RX7 := C0
  unfold vX7_begins at hv
  refine lv_aload_n hx hb dX7_begins_0 rfl (lv_at hl 0 rfl) (lv_bipush (v := 31) hx hb dX7_begins_1 (by decide) (lv_aload_n hx hb dX7_begins_3 rfl (lv_at hl 0 rfl) (gg_X7_186 C0 hK hP dX7_begins_4 (lv_imul hx hb dX7_begins_7 (lv_iload_n hx hb dX7_begins_8 rfl (lv_at hl 1 rfl) (lv_iadd hx hb dX7_begins_9 (gp_X7_186 hE C0 hK hP hS dX7_begins_10 (fun H locs hP hS => ?_))))))))
  exact g_vretM hx hb hrt hlk hP hS hv dX7_begins_13
set_option maxHeartbeats 4000000 in
set_option maxRecDepth 100000 in
theorem mX7_tell {l : Launch} {E : gE} {μ ν : gM} {τ : gJ} {Q : Int32 → gM → gJ → Prop} (hE : gLok E) {a1 : Int32}  (hv : vX7_tell a1 ν τ Q) : Met l yX7_tell (gws yX7_tell cX7_tell 2 (some .int)) (gRm 2 42) (gPc E [.ref (gL E 32), .int a1] μ ν τ) (gQiM E Q μ) 0 0 (gA E) := by
  refine g_entr (lv := [(0, .ref (gL E 32)), (1, .int a1)]) (by decide +kernel) (Nat.le_of_ble_eq_true rfl) rfl (fun p e s m args below meth c ls H locs hx hb hrt hlk C0 hK hP hS hl => ?_)
  have C0 : CallFix p m c cX7_tell 2 s args gTB RX7 := C0
  unfold vX7_tell at hv
  refine lv_iload_n hx hb dX7_tell_0 rfl (lv_at hl 1 rfl) ?_
  refine g_iS (g_bS (As := [.int a1]) (rest := []) C0 hK hP kX7_isBall ql_X7_180 (mX7_isBall hE hv) rfl hl.1 rfl (Nat.le_of_ble_eq_true rfl) ⟨rfl, rfl, Nat.le_of_ble_eq_true rfl, Nat.le_of_ble_eq_true rfl⟩ dX7_tell_1) hS (fun x1256 H locs hv hP hS => ?_)
  refine lv_if_ne (tgt := 9) hx hb dX7_tell_4 (by decide) (fun c1257 => ?_) (fun c1257 => ?_)
  · have hv := hv.1 c1257
    refine lv_aload_n hx hb dX7_tell_9 rfl (lv_at hl 0 rfl) (gg_X7_22 C0 hK hP dX7_tell_10 (lv_iload_n hx hb dX7_tell_13 rfl (lv_at hl 1 rfl) ?_))
    have hi1258 := hv.1
    have hv := hv.2
    refine g_iald hx hb hK hP (by decide) ga_37 hi1258 dX7_tell_14 ?_
    by_cases c1259 : (ν 37 a1.toNatClampNeg) = 1
    · refine lv_lookup (tgt := 40) (off := 25) hx hb dX7_tell_15 (by decide) (by rw [c1259]; decide) (by decide) ?_
      have hv := hv.1 c1259
      refine lv_aload_n hx hb dX7_tell_40 rfl (lv_at hl 0 rfl) (lv_iconst (v := 2) hx hb dX7_tell_41 (by decide) ?_)
      refine g_vM (g_bV (As := [.int 2]) (rest := []) C0 hK hP kX7_begins ql_X7_189 (mX7_begins hE hv) (by decide) ge_X7 rfl rfl hl.1 rfl (Nat.le_of_ble_eq_true rfl) ⟨rfl, rfl, Nat.le_of_ble_eq_true rfl, Nat.le_of_ble_eq_true rfl⟩ dX7_tell_42) hS (fun ν1261 τ1262 H locs hv hP hS => ?_)
      refine lv_aload_n hx hb dX7_tell_45 rfl (lv_at hl 0 rfl) (lv_iconst (v := 1) hx hb dX7_tell_46 (by decide) ?_)
      refine g_vM (g_bV (As := [.int 1]) (rest := []) C0 hK hP kX7_begins ql_X7_189 (mX7_begins hE hv) (by decide) ge_X7 rfl rfl hl.1 rfl (Nat.le_of_ble_eq_true rfl) ⟨rfl, rfl, Nat.le_of_ble_eq_true rfl, Nat.le_of_ble_eq_true rfl⟩ dX7_tell_47) hS (fun ν1264 τ1265 H locs hv hP hS => ?_)
      refine lv_iload_n hx hb dX7_tell_50 rfl (lv_at hl 1 rfl) (lv_bipush (v := 100) hx hb dX7_tell_51 (by decide) (lv_iadd hx hb dX7_tell_53 ?_))
      exact g_retM hx hb hrt hlk hP hS rfl hv dX7_tell_54
    · have hv := hv.2 c1259
      by_cases c1266 : (ν 37 a1.toNatClampNeg) = 2
      · refine lv_lookup (tgt := 55) (off := 40) hx hb dX7_tell_15 (by decide) (by rw [c1266]; decide) (by decide) ?_
        have hv := hv.1 c1266
        refine lv_aload_n hx hb dX7_tell_55 rfl (lv_at hl 0 rfl) (lv_iconst (v := 3) hx hb dX7_tell_56 (by decide) ?_)
        refine g_vM (g_bV (As := [.int 3]) (rest := []) C0 hK hP kX7_begins ql_X7_189 (mX7_begins hE hv) (by decide) ge_X7 rfl rfl hl.1 rfl (Nat.le_of_ble_eq_true rfl) ⟨rfl, rfl, Nat.le_of_ble_eq_true rfl, Nat.le_of_ble_eq_true rfl⟩ dX7_tell_57) hS (fun ν1268 τ1269 H locs hv hP hS => ?_)
        refine lv_aload_n hx hb dX7_tell_60 rfl (lv_at hl 0 rfl) (lv_iconst (v := 2) hx hb dX7_tell_61 (by decide) ?_)
        refine g_vM (g_bV (As := [.int 2]) (rest := []) C0 hK hP kX7_begins ql_X7_189 (mX7_begins hE hv) (by decide) ge_X7 rfl rfl hl.1 rfl (Nat.le_of_ble_eq_true rfl) ⟨rfl, rfl, Nat.le_of_ble_eq_true rfl, Nat.le_of_ble_eq_true rfl⟩ dX7_tell_62) hS (fun ν1271 τ1272 H locs hv hP hS => ?_)
        refine lv_aload_n hx hb dX7_tell_65 rfl (lv_at hl 0 rfl) (lv_iconst (v := 1) hx hb dX7_tell_66 (by decide) ?_)
        refine g_vM (g_bV (As := [.int 1]) (rest := []) C0 hK hP kX7_begins ql_X7_189 (mX7_begins hE hv) (by decide) ge_X7 rfl rfl hl.1 rfl (Nat.le_of_ble_eq_true rfl) ⟨rfl, rfl, Nat.le_of_ble_eq_true rfl, Nat.le_of_ble_eq_true rfl⟩ dX7_tell_67) hS (fun ν1274 τ1275 H locs hv hP hS => ?_)
        refine lv_aload_n hx hb dX7_tell_70 rfl (lv_at hl 0 rfl) (lv_iconst (v := 1) hx hb dX7_tell_71 (by decide) ?_)
        refine g_vM (g_bV (As := [.int 1]) (rest := []) C0 hK hP kX7_begins ql_X7_189 (mX7_begins hE hv) (by decide) ge_X7 rfl rfl hl.1 rfl (Nat.le_of_ble_eq_true rfl) ⟨rfl, rfl, Nat.le_of_ble_eq_true rfl, Nat.le_of_ble_eq_true rfl⟩ dX7_tell_72) hS (fun ν1277 τ1278 H locs hv hP hS => ?_)
        refine lv_iconst (v := 2) hx hb dX7_tell_75 (by decide) (lv_iload_n hx hb dX7_tell_76 rfl (lv_at hl 1 rfl) (lv_imul hx hb dX7_tell_77 (lv_bipush (v := 100) hx hb dX7_tell_78 (by decide) (lv_iadd hx hb dX7_tell_80 ?_))))
        exact g_retM hx hb hrt hlk hP hS rfl hv dX7_tell_81
      · have hv := hv.2 c1266
        refine lv_lookup (tgt := 82) (off := 67) hx hb dX7_tell_15 (by decide) (by have := ne_toInt (x := (ν 37 a1.toNatClampNeg)) (k := 1) (z := 1) (by decide) c1259; have := ne_toInt (x := (ν 37 a1.toNatClampNeg)) (k := 2) (z := 2) (by decide) c1266; simp [Op.lookupswitch.offset]; omega) (by decide) ?_
        refine lv_aload_n hx hb dX7_tell_82 rfl (lv_at hl 0 rfl) (lv_iconst (v := 1) hx hb dX7_tell_83 (by decide) ?_)
        refine g_vM (g_bV (As := [.int 1]) (rest := []) C0 hK hP kX7_begins ql_X7_189 (mX7_begins hE hv) (by decide) ge_X7 rfl rfl hl.1 rfl (Nat.le_of_ble_eq_true rfl) ⟨rfl, rfl, Nat.le_of_ble_eq_true rfl, Nat.le_of_ble_eq_true rfl⟩ dX7_tell_84) hS (fun ν1280 τ1281 H locs hv hP hS => ?_)
        refine lv_iload_n hx hb dX7_tell_87 rfl (lv_at hl 1 rfl) ?_
        exact g_retM hx hb hrt hlk hP hS rfl hv dX7_tell_88
  · have hv := hv.2 c1257
    refine lv_iconst (v := (-1)) hx hb dX7_tell_7 (by decide) ?_
    exact g_retM hx hb hrt hlk hP hS rfl hv dX7_tell_8
set_option maxHeartbeats 4000000 in
set_option maxRecDepth 100000 in
theorem mX7_call {l : Launch} {E : gE} {μ ν : gM} {τ : gJ} {Q : Int32 → gM → gJ → Prop} (hE : gLok E) {a1 : Int32}  (hv : vX7_call a1 ν τ Q) : Met l yX7_call (gws yX7_call cX7_call 2 (some .int)) (gRm 2 42) (gPc E [.ref (gL E 32), .int a1] μ ν τ) (gQiM E Q μ) 0 0 (gA E) := by
  refine g_entr (lv := [(0, .ref (gL E 32)), (1, .int a1)]) (by decide +kernel) (Nat.le_of_ble_eq_true rfl) rfl (fun p e s m args below meth c ls H locs hx hb hrt hlk C0 hK hP hS hl => ?_)
  have C0 : CallFix p m c cX7_call 2 s args gTB RX7 := C0
  unfold vX7_call at hv
  refine lv_iload_n hx hb dX7_call_0 rfl (lv_at hl 1 rfl) ?_
  refine g_iS (g_bS (As := [.int a1]) (rest := []) C0 hK hP kX7_isBall ql_X7_180 (mX7_isBall hE hv) rfl hl.1 rfl (Nat.le_of_ble_eq_true rfl) ⟨rfl, rfl, Nat.le_of_ble_eq_true rfl, Nat.le_of_ble_eq_true rfl⟩ dX7_call_1) hS (fun x1282 H locs hv hP hS => ?_)
  refine lv_if_ne (tgt := 9) hx hb dX7_call_4 (by decide) (fun c1283 => ?_) (fun c1283 => ?_)
  · have hv := hv.1 c1283
    refine lv_aload_n hx hb dX7_call_9 rfl (lv_at hl 0 rfl) (lv_aload_n hx hb dX7_call_10 rfl (lv_at hl 0 rfl) (gg_X7_22 C0 hK hP dX7_call_11 (lv_iload_n hx hb dX7_call_14 rfl (lv_at hl 1 rfl) ?_)))
    have hi1284 := hv.1
    have hv := hv.2
    refine g_iald hx hb hK hP (by decide) ga_37 hi1284 dX7_call_15 (lv_iconst (v := 2) hx hb dX7_call_16 (by decide) ?_)
    refine lv_icmp_ne (tgt := 24) hx hb dX7_call_17 (by decide) (fun c1285 => ?_) (fun c1285 => ?_)
    · have hv := hv.1 c1285
      refine lv_iconst (v := 4) hx hb dX7_call_24 (by decide) ?_
      refine g_vM (g_bV (As := [.int 4]) (rest := []) C0 hK hP kX7_begins ql_X7_189 (mX7_begins hE hv) (by decide) ge_X7 rfl rfl hl.1 rfl (Nat.le_of_ble_eq_true rfl) ⟨rfl, rfl, Nat.le_of_ble_eq_true rfl, Nat.le_of_ble_eq_true rfl⟩ dX7_call_25) hS (fun ν1287 τ1288 H locs hv hP hS => ?_)
      refine lv_aload_n hx hb dX7_call_28 rfl (lv_at hl 0 rfl) (gg_X7_22 C0 hK hP dX7_call_29 (lv_iload_n hx hb dX7_call_32 rfl (lv_at hl 1 rfl) ?_))
      have hi1289 := hv.1
      have hv := hv.2
      refine g_iald hx hb hK hP (by decide) ga_37 hi1289 dX7_call_33 (lv_iconst (v := 2) hx hb dX7_call_34 (by decide) ?_)
      refine lv_icmp_ne (tgt := 43) hx hb dX7_call_35 (by decide) (fun c1290 => ?_) (fun c1290 => ?_)
      · have hv := hv.1 c1290
        refine lv_aload_n hx hb dX7_call_43 rfl (lv_at hl 0 rfl) (lv_iload_n hx hb dX7_call_44 rfl (lv_at hl 1 rfl) ?_)
        refine g_iM (g_bV (As := [.int a1]) (rest := []) C0 hK hP kX7_mayGoTo ql_X7_183 (mX7_mayGoTo hE hv) (by decide) ge_X7 rfl rfl hl.1 rfl (Nat.le_of_ble_eq_true rfl) ⟨rfl, rfl, Nat.le_of_ble_eq_true rfl, Nat.le_of_ble_eq_true rfl⟩ dX7_call_45) hS (fun x1291 ν1292 τ1293 H locs hv hP hS => ?_)
        exact g_retM hx hb hrt hlk hP hS rfl hv dX7_call_48
      · have hv := hv.2 c1290
        refine lv_bipush (v := 70) hx hb dX7_call_38 (by decide) (lv_goto (tgt := 48) hx hb dX7_call_40 (by decide) ?_)
        exact g_retM hx hb hrt hlk hP hS rfl hv dX7_call_48
    · have hv := hv.2 c1285
      refine lv_iconst (v := 5) hx hb dX7_call_20 (by decide) (lv_goto (tgt := 25) hx hb dX7_call_21 (by decide) ?_)
      refine g_vM (g_bV (As := [.int 5]) (rest := []) C0 hK hP kX7_begins ql_X7_189 (mX7_begins hE hv) (by decide) ge_X7 rfl rfl hl.1 rfl (Nat.le_of_ble_eq_true rfl) ⟨rfl, rfl, Nat.le_of_ble_eq_true rfl, Nat.le_of_ble_eq_true rfl⟩ dX7_call_25) hS (fun ν1295 τ1296 H locs hv hP hS => ?_)
      refine lv_aload_n hx hb dX7_call_28 rfl (lv_at hl 0 rfl) (gg_X7_22 C0 hK hP dX7_call_29 (lv_iload_n hx hb dX7_call_32 rfl (lv_at hl 1 rfl) ?_))
      have hi1297 := hv.1
      have hv := hv.2
      refine g_iald hx hb hK hP (by decide) ga_37 hi1297 dX7_call_33 (lv_iconst (v := 2) hx hb dX7_call_34 (by decide) ?_)
      refine lv_icmp_ne (tgt := 43) hx hb dX7_call_35 (by decide) (fun c1298 => ?_) (fun c1298 => ?_)
      · have hv := hv.1 c1298
        refine lv_aload_n hx hb dX7_call_43 rfl (lv_at hl 0 rfl) (lv_iload_n hx hb dX7_call_44 rfl (lv_at hl 1 rfl) ?_)
        refine g_iM (g_bV (As := [.int a1]) (rest := []) C0 hK hP kX7_mayGoTo ql_X7_183 (mX7_mayGoTo hE hv) (by decide) ge_X7 rfl rfl hl.1 rfl (Nat.le_of_ble_eq_true rfl) ⟨rfl, rfl, Nat.le_of_ble_eq_true rfl, Nat.le_of_ble_eq_true rfl⟩ dX7_call_45) hS (fun x1299 ν1300 τ1301 H locs hv hP hS => ?_)
        exact g_retM hx hb hrt hlk hP hS rfl hv dX7_call_48
      · have hv := hv.2 c1298
        refine lv_bipush (v := 70) hx hb dX7_call_38 (by decide) (lv_goto (tgt := 48) hx hb dX7_call_40 (by decide) ?_)
        exact g_retM hx hb hrt hlk hP hS rfl hv dX7_call_48
  · have hv := hv.2 c1283
    refine lv_iconst (v := (-1)) hx hb dX7_call_7 (by decide) ?_
    exact g_retM hx hb hrt hlk hP hS rfl hv dX7_call_8
set_option maxHeartbeats 4000000 in
set_option maxRecDepth 100000 in
theorem mX7_as {l : Launch} {E : gE} {μ ν : gM} {τ : gJ} {Q : Int32 → gM → gJ → Prop} (hE : gLok E) {a1 : Int32} {a2 : Int32}  (hv : vX7_as a1 a2 ν τ Q) : Met l yX7_as (gws yX7_as cX7_as 3 (some .int)) (gRm 2 42) (gPc E [.ref (gL E 32), .int a1, .int a2] μ ν τ) (gQiM E Q μ) 0 0 (gA E) := by
  refine g_entr (lv := [(0, .ref (gL E 32)), (1, .int a1), (2, .int a2)]) (by decide +kernel) (Nat.le_of_ble_eq_true rfl) rfl (fun p e s m args below meth c ls H locs hx hb hrt hlk C0 hK hP hS hl => ?_)
  have C0 : CallFix p m c cX7_as 3 s args gTB RX7 := C0
  unfold vX7_as at hv
  refine lv_aload_n hx hb dX7_as_0 rfl (lv_at hl 0 rfl) (lv_iconst (v := 0) hx hb dX7_as_1 (by decide) (gp_X7_50 hE C0 hK hP hS dX7_as_2 (fun H locs hP hS => (lv_iload_n hx hb dX7_as_5 rfl (lv_at hl 1 rfl) ?_))))
  refine g_iS (g_bS (As := [.int a1]) (rest := []) C0 hK hP kX7_isBall ql_X7_180 (mX7_isBall hE hv) rfl hl.1 rfl (Nat.le_of_ble_eq_true rfl) ⟨rfl, rfl, Nat.le_of_ble_eq_true rfl, Nat.le_of_ble_eq_true rfl⟩ dX7_as_6) hS (fun x1302 H locs hv hP hS => ?_)
  refine lv_if_ne (tgt := 14) hx hb dX7_as_9 (by decide) (fun c1303 => ?_) (fun c1303 => ?_)
  · have hv := hv.1 c1303
    refine lv_iload_n hx hb dX7_as_14 rfl (lv_at hl 2 rfl) (lv_iconst (v := 0) hx hb dX7_as_15 (by decide) (lv_iconst (v := 2) hx hb dX7_as_16 (by decide) ?_))
    refine g_iS (g_bS (As := [.int a2, .int 0, .int 2]) (rest := []) C0 hK hP kX7_within ql_X7_56 (mX7_within hE hv) rfl hl.1 rfl (Nat.le_of_ble_eq_true rfl) ⟨rfl, rfl, Nat.le_of_ble_eq_true rfl, Nat.le_of_ble_eq_true rfl⟩ dX7_as_17) hS (fun x1304 H locs hv hP hS => ?_)
    refine lv_if_ne (tgt := 26) hx hb dX7_as_20 (by decide) (fun c1305 => ?_) (fun c1305 => ?_)
    · have hv := hv.1 c1305
      refine lv_aload_n hx hb dX7_as_26 rfl (lv_at hl 0 rfl) (gg_X7_22 C0 hK hP dX7_as_27 (lv_iload_n hx hb dX7_as_30 rfl (lv_at hl 1 rfl) ?_))
      have hi1306 := hv.1
      have hv := hv.2
      refine g_iald hx hb hK hP (by decide) ga_37 hi1306 dX7_as_31 (lv_iload_n hx hb dX7_as_32 rfl (lv_at hl 2 rfl) ?_)
      refine lv_icmp_lt (tgt := 40) hx hb dX7_as_33 (by decide) (fun c1307 => ?_) (fun c1307 => ?_)
      · have hv := hv.1 c1307
        refine lv_aload_n hx hb dX7_as_40 rfl (lv_at hl 0 rfl) (lv_iconst (v := 2) hx hb dX7_as_41 (by decide) ?_)
        refine g_iM (g_bV (As := [.int 2]) (rest := []) C0 hK hP kX7_fails ql_X7_74 (mX7_fails hE hv) (by decide) ge_X7 rfl rfl hl.1 rfl (Nat.le_of_ble_eq_true rfl) ⟨rfl, rfl, Nat.le_of_ble_eq_true rfl, Nat.le_of_ble_eq_true rfl⟩ dX7_as_42) hS (fun x1308 ν1309 τ1310 H locs hv hP hS => ?_)
        exact g_retM hx hb hrt hlk hP hS rfl hv dX7_as_45
      · have hv := hv.2 c1307
        refine lv_iconst (v := 1) hx hb dX7_as_36 (by decide) (lv_goto (tgt := 45) hx hb dX7_as_37 (by decide) ?_)
        exact g_retM hx hb hrt hlk hP hS rfl hv dX7_as_45
    · have hv := hv.2 c1305
      refine lv_bipush (v := (-2)) hx hb dX7_as_23 (by decide) ?_
      exact g_retM hx hb hrt hlk hP hS rfl hv dX7_as_25
  · have hv := hv.2 c1303
    refine lv_iconst (v := (-1)) hx hb dX7_as_12 (by decide) ?_
    exact g_retM hx hb hrt hlk hP hS rfl hv dX7_as_13
set_option maxHeartbeats 4000000 in
set_option maxRecDepth 100000 in
theorem mX7_trace {l : Launch} {E : gE} {μ ν : gM} {τ : gJ} {Q : Int32 → gM → gJ → Prop} (hE : gLok E)   (hv : vX7_trace ν τ Q) : Met l yX7_trace (gws yX7_trace cX7_trace 1 (some .int)) (gRm 0 0) (gPc E [.ref (gL E 32)] μ ν τ) (gQiM E Q μ) 0 0 (gA E) := by
  refine g_entr (lv := [(0, .ref (gL E 32))]) (by decide +kernel) (Nat.le_of_ble_eq_true rfl) rfl (fun p e s m args below meth c ls H locs hx hb hrt hlk C0 hK hP hS hl => ?_)
  have C0 : CallFix p m c cX7_trace 1 s args gTB RX7 := C0
  unfold vX7_trace at hv
  refine lv_aload_n hx hb dX7_trace_0 rfl (lv_at hl 0 rfl) (gg_X7_186 C0 hK hP dX7_trace_1 ?_)
  exact g_retM hx hb hrt hlk hP hS rfl hv dX7_trace_4
set_option maxHeartbeats 4000000 in
set_option maxRecDepth 100000 in
theorem mX7_fault {l : Launch} {E : gE} {μ ν : gM} {τ : gJ} {Q : Int32 → gM → gJ → Prop} (hE : gLok E)   (hv : vX7_fault ν τ Q) : Met l yX7_fault (gws yX7_fault cX7_fault 1 (some .int)) (gRm 0 0) (gPc E [.ref (gL E 32)] μ ν τ) (gQiM E Q μ) 0 0 (gA E) := by
  refine g_entr (lv := [(0, .ref (gL E 32))]) (by decide +kernel) (Nat.le_of_ble_eq_true rfl) rfl (fun p e s m args below meth c ls H locs hx hb hrt hlk C0 hK hP hS hl => ?_)
  have C0 : CallFix p m c cX7_fault 1 s args gTB RX7 := C0
  unfold vX7_fault at hv
  refine lv_aload_n hx hb dX7_fault_0 rfl (lv_at hl 0 rfl) (gg_X7_50 C0 hK hP dX7_fault_1 ?_)
  exact g_retM hx hb hrt hlk hP hS rfl hv dX7_fault_4
set_option maxHeartbeats 4000000 in
set_option maxRecDepth 100000 in
theorem mX7_many {l : Launch} {E : gE} {μ ν : gM} {τ : gJ} {Q : Int32 → gM → gJ → Prop} (hE : gLok E) {a1 : Int32}  (hv : vX7_many a1 ν τ Q) : Met l yX7_many (gws yX7_many cX7_many 4 (some .int)) (gRm 0 0) (gPc E [.ref (gL E 32), .int a1] μ ν τ) (gQiM E Q μ) 0 0 (gA E) := by
  refine g_entr (lv := [(0, .ref (gL E 32)), (1, .int a1)]) (by decide +kernel) (Nat.le_of_ble_eq_true rfl) rfl (fun p e s m args below meth c ls H locs hx hb hrt hlk C0 hK hP hS hl => ?_)
  have C0 : CallFix p m c cX7_many 4 s args gTB RX7 := C0
  have h_4 : ∀ (n_4 : Nat) (v2 : Int32) (v3 : Int32) (ν : gM) (τ : gJ) (H : Heap) (locs : List Loc) (ls : Array Slot), va_P (gD E) vwCl (wl E μ ν τ) H → va_S (gA E) s.heap H locs → lv_has ls 4 [(0, .ref (gL E 32)), (1, .int a1), (2, .int v2), (3, .int v3)] → vX7_many_4 a1 Q n_4 v2 v3 ν τ → W p l e (gRm 0 0) s m args below meth c H locs 0 0 (MQ below (gQiM E Q μ) args s 0 0 (gA E)) (F0 m 4 ls []) := by
    intro n_4
    induction n_4 with
    | zero =>
      intro v2 v3 ν τ H locs ls hP hS hl hv
      exact False.elim hv
    | succ n_4 ih_4 =>
      intro v2 v3 ν τ H locs ls hP hS hl hv
      have hv : vX7_many_4B a1 Q (vX7_many_4 a1 Q n_4) v2 v3 ν τ := hv
      unfold vX7_many_4B at hv
      refine lv_iload_n hx hb dX7_many_4 rfl (lv_at hl 3 rfl) (lv_iconst (v := 3) hx hb dX7_many_5 (by decide) ?_)
      refine lv_icmp_ge (tgt := 32) hx hb dX7_many_6 (by decide) (fun c1311 => ?_) (fun c1311 => ?_)
      · have hv := hv.1 c1311
        refine lv_iload_n hx hb dX7_many_32 rfl (lv_at hl 1 rfl) ?_
        refine lv_if_ne (tgt := 43) hx hb dX7_many_33 (by decide) (fun c1312 => ?_) (fun c1312 => ?_)
        · have hv := hv.1 c1312
          refine lv_iload_n hx hb dX7_many_43 rfl (lv_at hl 1 rfl) (lv_iconst (v := 1) hx hb dX7_many_44 (by decide) ?_)
          refine lv_icmp_ne (tgt := 55) hx hb dX7_many_45 (by decide) (fun c1313 => ?_) (fun c1313 => ?_)
          · have hv := hv.1 c1313
            refine lv_iload_n hx hb dX7_many_55 rfl (lv_at hl 1 rfl) (lv_iconst (v := 2) hx hb dX7_many_56 (by decide) ?_)
            refine lv_icmp_ne (tgt := 64) hx hb dX7_many_57 (by decide) (fun c1314 => ?_) (fun c1314 => ?_)
            · have hv := hv.1 c1314
              refine lv_bipush (v := (-2)) hx hb dX7_many_64 (by decide) ?_
              exact g_retM hx hb hrt hlk hP hS rfl hv dX7_many_66
            · have hv := hv.2 c1314
              refine lv_iload_n hx hb dX7_many_60 rfl (lv_at hl 2 rfl) (lv_goto (tgt := 66) hx hb dX7_many_61 (by decide) ?_)
              exact g_retM hx hb hrt hlk hP hS rfl hv dX7_many_66
          · have hv := hv.2 c1313
            refine lv_aload_n hx hb dX7_many_48 rfl (lv_at hl 0 rfl) (gg_X7_78 C0 hK hP dX7_many_49 (lv_goto (tgt := 66) hx hb dX7_many_52 (by decide) ?_))
            exact g_retM hx hb hrt hlk hP hS rfl hv dX7_many_66
        · have hv := hv.2 c1312
          refine lv_aload_n hx hb dX7_many_36 rfl (lv_at hl 0 rfl) (gg_X7_60 C0 hK hP dX7_many_37 (lv_goto (tgt := 66) hx hb dX7_many_40 (by decide) ?_))
          exact g_retM hx hb hrt hlk hP hS rfl hv dX7_many_66
      · have hv := hv.2 c1311
        refine lv_iload_n hx hb dX7_many_9 rfl (lv_at hl 2 rfl) (lv_aload_n hx hb dX7_many_10 rfl (lv_at hl 0 rfl) (gg_X7_34 C0 hK hP dX7_many_11 (lv_iload_n hx hb dX7_many_14 rfl (lv_at hl 3 rfl) ?_)))
        have hi1315 := hv.1
        have hv := hv.2
        refine g_iald hx hb hK hP (by decide) ga_41 hi1315 dX7_many_15 ?_
        refine lv_if_le (tgt := 23) hx hb dX7_many_16 (by decide) (fun c1316 => ?_) (fun c1316 => ?_)
        · have hv := hv.1 c1316
          refine lv_iconst (v := 0) hx hb dX7_many_23 (by decide) (lv_iadd hx hb dX7_many_24 (lv_istore_n (lv' := [(2, .int (v2 + 0)), (0, .ref (gL E 32)), (1, .int a1), (3, .int v3)]) hx hb dX7_many_25 rfl hl (by decide) rfl (fun ls hl => (lv_iinc (v := (v3 + 1)) (lv' := [(3, .int (v3 + 1)), (2, .int (v2 + 0)), (0, .ref (gL E 32)), (1, .int a1)]) hx hb dX7_many_26 hl (k := 3) rfl rfl (by decide) rfl (fun ls hl => (lv_goto (tgt := 4) hx hb dX7_many_29 (by decide) ?_))))))
          exact ih_4 (v2 + 0) (v3 + 1) ν τ H locs ls hP hS (lv_sub hl [2, 3, 1, 0] rfl) hv
        · have hv := hv.2 c1316
          refine lv_iconst (v := 1) hx hb dX7_many_19 (by decide) (lv_goto (tgt := 24) hx hb dX7_many_20 (by decide) (lv_iadd hx hb dX7_many_24 (lv_istore_n (lv' := [(2, .int (v2 + 1)), (0, .ref (gL E 32)), (1, .int a1), (3, .int v3)]) hx hb dX7_many_25 rfl hl (by decide) rfl (fun ls hl => (lv_iinc (v := (v3 + 1)) (lv' := [(3, .int (v3 + 1)), (2, .int (v2 + 1)), (0, .ref (gL E 32)), (1, .int a1)]) hx hb dX7_many_26 hl (k := 3) rfl rfl (by decide) rfl (fun ls hl => (lv_goto (tgt := 4) hx hb dX7_many_29 (by decide) ?_)))))))
          exact ih_4 (v2 + 1) (v3 + 1) ν τ H locs ls hP hS (lv_sub hl [2, 3, 1, 0] rfl) hv
  unfold vX7_many at hv
  refine lv_iconst (v := 0) hx hb dX7_many_0 (by decide) (lv_istore_n (lv' := [(2, .int 0), (0, .ref (gL E 32)), (1, .int a1)]) hx hb dX7_many_1 rfl hl (by decide) rfl (fun ls hl => (lv_iconst (v := 0) hx hb dX7_many_2 (by decide) (lv_istore_n (lv' := [(3, .int 0), (2, .int 0), (0, .ref (gL E 32)), (1, .int a1)]) hx hb dX7_many_3 rfl hl (by decide) rfl (fun ls hl => ?_)))))
  obtain ⟨nf, hv⟩ := hv
  exact h_4 nf 0 0 ν τ H locs ls hP hS (lv_sub hl [2, 3, 1, 0] rfl) hv
