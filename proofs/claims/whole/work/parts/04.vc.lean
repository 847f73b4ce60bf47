set_option maxRecDepth 20000 in
theorem ne_toInt {x k : Int32} {z : Int} (hz : k.toInt = z) (h : ¬ x = k) : x.toInt ≠ z := fun e => h (Int32.toInt_inj.mp (e.trans hz.symm))
set_option maxRecDepth 20000 in
theorem g_copy {p : Program} {l : Launch} {e : Env} {R : Room} {s : State} {m : MethodId} {args : Array Value} {below : List Frame} {meth : Method} {c : Code} {H : Heap} {locs : List Loc} {cells slots : Nat} {Q : State → Prop} {cc : ByteArray} {pc nL : Nat} {ls : Array Slot} {rest : List Value} {E : gE} {μ ν : gM} {τ : gJ} {own : String} {index a b : Nat} {sp dp n : Int32} (hE : gLok E) (hx : p.tables.exec = Jvm.exec) (hb : c.code = cc) (hml : c.maxLocals = ls.size) (C0 : CallFix p m c cc nL s args gTB own) (hK : gK E s) (hP : va_P (gD E) vwCl (wl E μ ν τ) H) (hS : va_S (gA E) s.heap H locs) (ha : a < 4) (hb4 : b < 4) (q : Cond.methodLink own index arraycopyName ∈ gTB) (h1 : ¬ sp < 0) (h2 : ¬ dp < 0) (h3 : ¬ n < 0) (h4 : sp.toNatClampNeg + n.toNatClampNeg ≤ 40) (h5 : dp.toNatClampNeg + n.toNatClampNeg ≤ 40) (hframes : 1 ≤ R.frames) (hlocals : (rest.map fun v => v.category).sum + (nativeFrameWords "java/lang/System" "arraycopy" 5 + 11) ≤ R.locals) (hdg : decode cc pc = .ok (.invokestatic index, 3))
    (kk : ∀ (H : Heap) (locs : List Loc), va_P (gD E) vwCl (wl E (cp2 μ (14 + a) (14 + b) sp.toNatClampNeg dp.toNatClampNeg n.toNatClampNeg) ν τ) H → va_S (gA E) s.heap H locs → W p l e R s m args below meth c H locs cells slots Q (F0 m (pc + 3) ls rest)) : W p l e R s m args below meth c H locs cells slots Q (F0 m pc ls (.int n :: .int dp :: .ref (gL E (14 + b)) :: .int sp :: .ref (gL E (14 + a)) :: rest)) := by
  refine va_copyi (ty := .int) hx hb hml C0.2.2.2.1 (C0.2.2.2.2 _ q) (C0.2.2.2.2 _ (gTB_at 568 rfl rfl)) (C0.2.2.2.2 _ (gTB_at 567 rfl rfl)) (C0.2.2.2.2 _ qi_J10) hK.1 hP (wl_D hE μ ν τ) hS (14 + a) (14 + b) 0 0 (wl_at (by omega) (gen_cells ha)) (wl_at (by omega) (gen_cells hb4)) rfl rfl rfl h1 h2 h3 h4 h5 (fun _ _ => rfl) hframes hlocals hdg (fun H1 locs1 g1 _ g3 => ?_)
  rw [wl_setC (a := 14 + a) (sp := sp.toNatClampNeg) (dp := dp.toNatClampNeg) (n := n.toNatClampNeg) (by omega) (by rw [gen_cells hb4, cp2_s])] at g1
  exact kk H1 locs1 g1 g3
def vX6_isWithin (a0 : Int32) (a1 : Int32) (a2 : Int32)  (Q : Int32 → Prop) : Prop :=
  (a0 < a1 → (Q 0)) ∧ (¬ a0 < a1 → ((a2 < a0 → (Q 0)) ∧ (¬ a2 < a0 → (Q 1))))
def vX0_allow (a1 : Int32) (a2 : Int32) (a3 : Int32) (μ : gM) (Q : gM → Prop) : Prop :=
  vX6_isWithin a1 (0 : Int32) (7 : Int32) (fun x3 => (x3 = 0 → (Q μ)) ∧ (¬ x3 = 0 → (vp_in a1 8 ∧ vp_in a1 8 ∧ Q (up2 (up2 μ 26 a1.toNatClampNeg a2) 27 a1.toNatClampNeg a3))))
def vJ7_fill_53178_5B (b0 : Nat) (n0 : Nat) (a1 : Int32) (Q : gM → Prop) (K5 : Int32 → Int32 → gM → Prop) (v2 : Int32) (v3 : Int32) (μ : gM) : Prop :=
  (v3 ≤ v2 → (Q μ)) ∧ (¬ v3 ≤ v2 → (vp_in v2 n0 ∧ K5 (v2 + 1) v3 (up2 μ b0 v2.toNatClampNeg a1)))
def vJ7_fill_53178_5 (b0 : Nat) (n0 : Nat) (a1 : Int32) (Q : gM → Prop) : Nat → Int32 → Int32 → gM → Prop
  | 0, _, _, _ => False
  | n + 1, v2, v3, μ => vJ7_fill_53178_5B b0 n0 a1 Q (vJ7_fill_53178_5 b0 n0 a1 Q n) v2 v3 μ
def vJ7_fill_53178 (b0 : Nat) (n0 : Nat) (a1 : Int32) (μ : gM) (Q : gM → Prop) : Prop :=
  ∃ n, vJ7_fill_53178_5 b0 n0 a1 Q n 0 (nI n0) μ
def vJ6_bitCount_0f7a4 (a0 : Int32)  (Q : Int32 → Prop) : Prop :=
  Q ((((((((a0 - ((a0.toUInt32 >>> ((1 : Int32).toUInt32 &&& Int32.toUInt32 31)).toInt32 &&& 1431655765)) &&& 858993459) + (((a0 - ((a0.toUInt32 >>> ((1 : Int32).toUInt32 &&& Int32.toUInt32 31)).toInt32 &&& 1431655765)).toUInt32 >>> ((2 : Int32).toUInt32 &&& Int32.toUInt32 31)).toInt32 &&& 858993459)) + ((((a0 - ((a0.toUInt32 >>> ((1 : Int32).toUInt32 &&& Int32.toUInt32 31)).toInt32 &&& 1431655765)) &&& 858993459) + (((a0 - ((a0.toUInt32 >>> ((1 : Int32).toUInt32 &&& Int32.toUInt32 31)).toInt32 &&& 1431655765)).toUInt32 >>> ((2 : Int32).toUInt32 &&& Int32.toUInt32 31)).toInt32 &&& 858993459)).toUInt32 >>> ((4 : Int32).toUInt32 &&& Int32.toUInt32 31)).toInt32) &&& 252645135) + ((((((a0 - ((a0.toUInt32 >>> ((1 : Int32).toUInt32 &&& Int32.toUInt32 31)).toInt32 &&& 1431655765)) &&& 858993459) + (((a0 - ((a0.toUInt32 >>> ((1 : Int32).toUInt32 &&& Int32.toUInt32 31)).toInt32 &&& 1431655765)).toUInt32 >>> ((2 : Int32).toUInt32 &&& Int32.toUInt32 31)).toInt32 &&& 858993459)) + ((((a0 - ((a0.toUInt32 >>> ((1 : Int32).toUInt32 &&& Int32.toUInt32 31)).toInt32 &&& 1431655765)) &&& 858993459) + (((a0 - ((a0.toUInt32 >>> ((1 : Int32).toUInt32 &&& Int32.toUInt32 31)).toInt32 &&& 1431655765)).toUInt32 >>> ((2 : Int32).toUInt32 &&& Int32.toUInt32 31)).toInt32 &&& 858993459)).toUInt32 >>> ((4 : Int32).toUInt32 &&& Int32.toUInt32 31)).toInt32) &&& 252645135).toUInt32 >>> ((8 : Int32).toUInt32 &&& Int32.toUInt32 31)).toInt32) + (((((((a0 - ((a0.toUInt32 >>> ((1 : Int32).toUInt32 &&& Int32.toUInt32 31)).toInt32 &&& 1431655765)) &&& 858993459) + (((a0 - ((a0.toUInt32 >>> ((1 : Int32).toUInt32 &&& Int32.toUInt32 31)).toInt32 &&& 1431655765)).toUInt32 >>> ((2 : Int32).toUInt32 &&& Int32.toUInt32 31)).toInt32 &&& 858993459)) + ((((a0 - ((a0.toUInt32 >>> ((1 : Int32).toUInt32 &&& Int32.toUInt32 31)).toInt32 &&& 1431655765)) &&& 858993459) + (((a0 - ((a0.toUInt32 >>> ((1 : Int32).toUInt32 &&& Int32.toUInt32 31)).toInt32 &&& 1431655765)).toUInt32 >>> ((2 : Int32).toUInt32 &&& Int32.toUInt32 31)).toInt32 &&& 858993459)).toUInt32 >>> ((4 : Int32).toUInt32 &&& Int32.toUInt32 31)).toInt32) &&& 252645135) + ((((((a0 - ((a0.toUInt32 >>> ((1 : Int32).toUInt32 &&& Int32.toUInt32 31)).toInt32 &&& 1431655765)) &&& 858993459) + (((a0 - ((a0.toUInt32 >>> ((1 : Int32).toUInt32 &&& Int32.toUInt32 31)).toInt32 &&& 1431655765)).toUInt32 >>> ((2 : Int32).toUInt32 &&& Int32.toUInt32 31)).toInt32 &&& 858993459)) + ((((a0 - ((a0.toUInt32 >>> ((1 : Int32).toUInt32 &&& Int32.toUInt32 31)).toInt32 &&& 1431655765)) &&& 858993459) + (((a0 - ((a0.toUInt32 >>> ((1 : Int32).toUInt32 &&& Int32.toUInt32 31)).toInt32 &&& 1431655765)).toUInt32 >>> ((2 : Int32).toUInt32 &&& Int32.toUInt32 31)).toInt32 &&& 858993459)).toUInt32 >>> ((4 : Int32).toUInt32 &&& Int32.toUInt32 31)).toInt32) &&& 252645135).toUInt32 >>> ((8 : Int32).toUInt32 &&& Int32.toUInt32 31)).toInt32).toUInt32 >>> ((16 : Int32).toUInt32 &&& Int32.toUInt32 31)).toInt32) &&& 63)
def vX0_addThrow_44B (a1 : Int32) (a2 : Int32) (a3 : Int32) (a4 : Int32) (Q : gM → Prop) (K44 : Int32 → Int32 → Int32 → gM → Prop) (v7 : Int32) (v8 : Int32) (v9 : Int32) (μ : gM) : Prop :=
  (a2 < v9 → (Q μ)) ∧ (¬ a2 < v9 → (vp_in (v7 + v9) 2560 ∧ vp_in (v8 + v9) 2560 ∧ vp_in (v7 + v9) 2560 ∧ K44 v7 v8 (v9 + 1) (up2 μ 28 (v7 + v9).toNatClampNeg ((μ 28 (v7 + v9).toNatClampNeg) + (μ 28 (v8 + v9).toNatClampNeg)))))
def vX0_addThrow_44 (a1 : Int32) (a2 : Int32) (a3 : Int32) (a4 : Int32) (Q : gM → Prop) : Nat → Int32 → Int32 → Int32 → gM → Prop
  | 0, _, _, _, _ => False
  | n + 1, v7, v8, v9, μ => vX0_addThrow_44B a1 a2 a3 a4 Q (vX0_addThrow_44 a1 a2 a3 a4 Q n) v7 v8 v9 μ
def vX0_addThrow (a1 : Int32) (a2 : Int32) (a3 : Int32) (a4 : Int32) (μ : gM) (Q : gM → Prop) : Prop :=
  ¬ a1 = 0 ∧ ((a3 &&& ((1 : Int32) <<< ((a4 - a4 / a1 * a1) &&& 31))) = 0 → (¬ a1 = 0 ∧ ∃ n, vX0_addThrow_44 a1 a2 a3 a4 Q n (a3 * 10) (((a3 ||| ((1 : Int32) <<< ((a4 - a4 / a1 * a1) &&& 31))) * 10) - (a4 / a1)) (a4 / a1) μ)) ∧ (¬ (a3 &&& ((1 : Int32) <<< ((a4 - a4 / a1 * a1) &&& 31))) = 0 → (Q μ))
def vX0_count_72B (a1 : Int32) (a2 : Int32) (Q : Int32 → gM → Prop) (K51 : Int32 → gM → Prop) (K72 : Int32 → Int32 → Int32 → gM → Prop) (v4 : Int32) (v5 : Int32) (v6 : Int32) (μ : gM) : Prop :=
  vp_in v5 8 ∧ ((μ 27 v5.toNatClampNeg) < v6 → (K51 (v4 + (-1)) μ)) ∧ (¬ (μ 27 v5.toNatClampNeg) < v6 → (vX0_addThrow a1 a2 v4 (v5 + v6) μ (fun μ28 => K72 v4 v5 (v6 + 1) μ28)))
def vX0_count_72 (a1 : Int32) (a2 : Int32) (Q : Int32 → gM → Prop) (K51 : Int32 → gM → Prop) : Nat → Int32 → Int32 → Int32 → gM → Prop
  | 0, _, _, _, _ => False
  | n + 1, v4, v5, v6, μ => vX0_count_72B a1 a2 Q K51 (vX0_count_72 a1 a2 Q K51 n) v4 v5 v6 μ
def vX0_count_51B (a1 : Int32) (a2 : Int32) (Q : Int32 → gM → Prop) (K51 : Int32 → gM → Prop) (v4 : Int32) (μ : gM) : Prop :=
  (v4 < 0 → (vp_in a2 2560 ∧ Q (μ 28 a2.toNatClampNeg) μ)) ∧ (¬ v4 < 0 → (vJ6_bitCount_0f7a4 v4 (fun x18 => vp_in x18 8 ∧ ∃ n, vX0_count_72 a1 a2 Q K51 n v4 x18 (μ 26 x18.toNatClampNeg) μ)))
def vX0_count_51 (a1 : Int32) (a2 : Int32) (Q : Int32 → gM → Prop) : Nat → Int32 → gM → Prop
  | 0, _, _ => False
  | n + 1, v4, μ => vX0_count_51B a1 a2 Q (vX0_count_51 a1 a2 Q n) v4 μ
def vX0_count (a1 : Int32) (a2 : Int32) (μ : gM) (Q : Int32 → gM → Prop) : Prop :=
  vX6_isWithin a1 (1 : Int32) (8 : Int32) (fun x7 => (x7 = 0 → (Q 0 μ)) ∧ (¬ x7 = 0 → (vX6_isWithin a2 (0 : Int32) (9 : Int32) (fun x9 => (¬ x9 = 0 → (vJ7_fill_53178 28 2560 (0 : Int32) μ (fun μ14 => vp_in ((((1 : Int32) <<< (a1 &&& 31)) - 1) * 10) 2560 ∧ ∃ n, vX0_count_51 a1 a2 Q n ((((1 : Int32) <<< (a1 &&& 31)) - 1) - 1) (up2 μ14 28 ((((1 : Int32) <<< (a1 &&& 31)) - 1) * 10).toNatClampNeg 1)))) ∧ (x9 = 0 → (Q 0 μ))))))
def vX0_firstThrow_23B (a1 : Int32) (a2 : Int32) (a3 : Int32) (Q : Int32 → gM → Prop) (K23 : Int32 → Int32 → gM → Prop) (v4 : Int32) (v5 : Int32) (μ : gM) : Prop :=
  vp_in v4 8 ∧ ((μ 27 v4.toNatClampNeg) ≤ v5 → (vp_in v4 8 ∧ Q (μ 27 v4.toNatClampNeg) μ)) ∧ (¬ (μ 27 v4.toNatClampNeg) ≤ v5 → (¬ a1 = 0 ∧ ¬ a1 = 0 ∧ (¬ (a2 &&& ((1 : Int32) <<< (((v4 + v5) - (v4 + v5) / a1 * a1) &&& 31))) = 0 → (K23 v4 (v5 + 1) μ)) ∧ ((a2 &&& ((1 : Int32) <<< (((v4 + v5) - (v4 + v5) / a1 * a1) &&& 31))) = 0 → (((a3 - ((v4 + v5) / a1)) < 0 → (K23 v4 (v5 + 1) μ)) ∧ (¬ (a3 - ((v4 + v5) / a1)) < 0 → (vp_in (((a2 ||| ((1 : Int32) <<< (((v4 + v5) - (v4 + v5) / a1 * a1) &&& 31))) * 10) + (a3 - ((v4 + v5) / a1))) 2560 ∧ ((μ 28 (((a2 ||| ((1 : Int32) <<< (((v4 + v5) - (v4 + v5) / a1 * a1) &&& 31))) * 10) + (a3 - ((v4 + v5) / a1))).toNatClampNeg) ≤ 0 → (K23 v4 (v5 + 1) μ)) ∧ (¬ (μ 28 (((a2 ||| ((1 : Int32) <<< (((v4 + v5) - (v4 + v5) / a1 * a1) &&& 31))) * 10) + (a3 - ((v4 + v5) / a1))).toNatClampNeg) ≤ 0 → (Q v5 μ))))))))
def vX0_firstThrow_23 (a1 : Int32) (a2 : Int32) (a3 : Int32) (Q : Int32 → gM → Prop) : Nat → Int32 → Int32 → gM → Prop
  | 0, _, _, _ => False
  | n + 1, v4, v5, μ => vX0_firstThrow_23B a1 a2 a3 Q (vX0_firstThrow_23 a1 a2 a3 Q n) v4 v5 μ
def vX0_firstThrow (a1 : Int32) (a2 : Int32) (a3 : Int32) (μ : gM) (Q : Int32 → gM → Prop) : Prop :=
  vJ6_bitCount_0f7a4 a2 (fun x32 => (x32 < a1 → (vp_in x32 8 ∧ ∃ n, vX0_firstThrow_23 a1 a2 a3 Q n x32 (μ 26 x32.toNatClampNeg) μ)) ∧ (¬ x32 < a1 → (Q 0 μ)))
def vX0_throwOfFirst_12B (a1 : Int32) (a2 : Int32) (a3 : Int32) (Q : Int32 → gM → Prop) (K12 : Int32 → Int32 → Int32 → Int32 → gM → Prop) (v4 : Int32) (v5 : Int32) (v6 : Int32) (v7 : Int32) (μ : gM) : Prop :=
  (a3 < v7 → (Q v6 μ)) ∧ (¬ a3 < v7 → (vX6_isWithin a1 (1 : Int32) (8 : Int32) (fun x30 => (x30 = 0 → (Q v6 μ)) ∧ (¬ x30 = 0 → (vX0_firstThrow a1 v4 v5 μ (fun x42 μ43 => ¬ a1 = 0 ∧ ¬ a1 = 0 ∧ K12 (v4 ||| ((1 : Int32) <<< (((v7 + x42) - (v7 + x42) / a1 * a1) &&& 31))) (v5 - ((v7 + x42) / a1)) x42 (v7 + 1) μ43))))))
def vX0_throwOfFirst_12 (a1 : Int32) (a2 : Int32) (a3 : Int32) (Q : Int32 → gM → Prop) : Nat → Int32 → Int32 → Int32 → Int32 → gM → Prop
  | 0, _, _, _, _, _ => False
  | n + 1, v4, v5, v6, v7, μ => vX0_throwOfFirst_12B a1 a2 a3 Q (vX0_throwOfFirst_12 a1 a2 a3 Q n) v4 v5 v6 v7 μ
def vX0_throwOfFirst (a1 : Int32) (a2 : Int32) (a3 : Int32) (μ : gM) (Q : Int32 → gM → Prop) : Prop :=
  ∃ n, vX0_throwOfFirst_12 a1 a2 a3 Q n 0 a2 0 0 μ
def vX1_begin  (μ : gM) (Q : gM → Prop) : Prop :=
  vJ7_fill_53178 19 10 (-9 : Int32) μ (fun μ45 => Q (up2 μ45 18 1 0))
def vX1_pass_51 (a1 : Int32) (a2 : Int32) (Q : Int32 → gM → Prop) (v3 : Int32) (v4 : Int32) (μ : gM) : Prop :=
  vp_in v3 10 ∧ vp_in ((a1 + a2) - (a1 + a2) / 10 * 10) 10 ∧ Q v4 (up2 (up2 μ 19 v3.toNatClampNeg (-9)) 19 ((a1 + a2) - (a1 + a2) / 10 * 10).toNatClampNeg v4)
def vX1_pass (a1 : Int32) (a2 : Int32) (μ : gM) (Q : Int32 → gM → Prop) : Prop :=
  (a1 < 0 → (Q (-9) μ)) ∧ (¬ a1 < 0 → ((1 ≤ a2 → (vp_in (a1 - a1 / 10 * 10) 10 ∧ (¬ (μ 19 (a1 - a1 / 10 * 10).toNatClampNeg) = (-9) → (vX1_pass_51 a1 a2 Q (a1 - a1 / 10 * 10) (μ 19 (a1 - a1 / 10 * 10).toNatClampNeg) μ)) ∧ ((μ 19 (a1 - a1 / 10 * 10).toNatClampNeg) = (-9) → (vX1_pass_51 a1 a2 Q (a1 - a1 / 10 * 10) (μ 18 1) (up2 μ 18 1 ((μ 18 1) + 1)))))) ∧ (¬ 1 ≤ a2 → (Q (-9) μ))))
def vX2_reset  (μ : gM) (Q : gM → Prop) : Prop :=
  vJ7_fill_53178 21 10 (0 : Int32) μ (fun μ53 => Q μ53)
def vX6_isBall (a0 : Int32)  (Q : Int32 → Prop) : Prop :=
  vX6_isWithin a0 (0 : Int32) (9 : Int32) (fun x54 => narrow .boolean (.int x54) = .int x54 ∧ Q x54 )
def vX2_kindOf (a1 : Int32) (μ : gM) (Q : Int32 → gM → Prop) : Prop :=
  vX6_isBall a1 (fun x55 => (x55 = 0 → (Q 0 μ)) ∧ (¬ x55 = 0 → (vp_in a1 10 ∧ Q (μ 21 a1.toNatClampNeg) μ)))
def vX2_setKind (a1 : Int32) (a2 : Int32) (μ : gM) (Q : gM → Prop) : Prop :=
  vX6_isBall a1 (fun x58 => (x58 = 0 → (Q μ)) ∧ (¬ x58 = 0 → (vp_in a1 10 ∧ Q (up2 μ 21 a1.toNatClampNeg a2))))
def vX2_mayGo (a1 : Int32) (μ : gM) (Q : Int32 → gM → Prop) : Prop :=
  vX2_kindOf a1 μ (fun x61 μ62 => (x61 = 1 → (Q 6 μ62)) ∧ (¬ x61 = 1 → ((x61 = 2 → (Q 4 μ62)) ∧ (¬ x61 = 2 → (Q 9 μ62)))))
def vX2_leave (a1 : Int32) (μ : gM) (Q : gM → Prop) : Prop :=
  Q (up2 μ 20 1 ((31 * (μ 20 1)) + a1))
def vX2_tellingOfBall (a1 : Int32) (μ : gM) (Q : Int32 → gM → Prop) : Prop :=
  vX2_leave (1 : Int32) μ (fun μ71 => Q a1 μ71)
def vX2_tellingOfHeavy (a1 : Int32) (μ : gM) (Q : Int32 → gM → Prop) : Prop :=
  vX2_leave (2 : Int32) μ (fun μ69 => vX2_tellingOfBall a1 μ69 (fun x72 μ73 => Q (x72 + 100) μ73))
def vX2_tellingOfEgg (a1 : Int32) (μ : gM) (Q : Int32 → gM → Prop) : Prop :=
  vX2_leave (3 : Int32) μ (fun μ78 => vX2_tellingOfHeavy a1 μ78 (fun x79 μ80 => vX2_tellingOfBall a1 μ80 (fun x81 μ82 => Q (x79 + x81) μ82)))
def vX2_telling (a1 : Int32) (μ : gM) (Q : Int32 → gM → Prop) : Prop :=
  vX2_kindOf a1 μ (fun x65 μ66 => (x65 = 1 → (vX2_tellingOfHeavy a1 μ66 (fun x74 μ75 => Q x74 μ75))) ∧ (¬ x65 = 1 → ((x65 = 2 → (vX2_tellingOfEgg a1 μ66 (fun x83 μ84 => Q x83 μ84))) ∧ (¬ x65 = 2 → (vX2_tellingOfBall a1 μ66 (fun x85 μ86 => Q x85 μ86))))))
def vX2_calling (a1 : Int32) (μ : gM) (Q : Int32 → gM → Prop) : Prop :=
  vX2_kindOf a1 μ (fun x87 μ88 => (¬ x87 = 2 → (vX2_leave (4 : Int32) μ88 (fun μ91 => vX2_mayGo a1 μ91 (fun x92 μ93 => Q x92 μ93)))) ∧ (x87 = 2 → (vX2_leave (5 : Int32) μ88 (fun μ95 => Q 70 μ95))))
def vX3_isThere (r : Nat) (μ : gM) (Q : Int32 → gM → Prop) : Prop :=
  ((μ r 1) ≤ 0 → (Q 0 μ)) ∧ (¬ (μ r 1) ≤ 0 → (Q 1 μ))
def vX3_hasBeat (r : Nat) (a1 : Int32) (μ : gM) (Q : Int32 → gM → Prop) : Prop :=
  (a1 < 0 → (Q 0 μ)) ∧ (¬ a1 < 0 → (((μ r 1) ≤ a1 → (Q 0 μ)) ∧ (¬ (μ r 1) ≤ a1 → (Q 1 μ))))
def vJ9_floorMod_7cf53 (a0 : Int32) (a1 : Int32)  (Q : Int32 → Prop) : Prop :=
  ¬ a1 = 0 ∧ (0 ≤ (a0 ^^^ a1) → (Q (a0 - a0 / a1 * a1))) ∧ (¬ 0 ≤ (a0 ^^^ a1) → (((a0 - a0 / a1 * a1) = 0 → (Q (a0 - a0 / a1 * a1))) ∧ (¬ (a0 - a0 / a1 * a1) = 0 → (Q ((a0 - a0 / a1 * a1) + a1)))))
def vX3_heightIn (r : Nat) (a1 : Int32) (μ : gM) (Q : Int32 → gM → Prop) : Prop :=
  (1 ≤ (μ r 1) → (vJ9_floorMod_7cf53 a1 (μ r 1) (fun x102 => vp_in x102 8 ∧ Q (μ (5 + r) x102.toNatClampNeg) μ))) ∧ (¬ 1 ≤ (μ r 1) → (Q 0 μ))
def vX3_setHeight (r : Nat) (a1 : Int32) (a2 : Int32) (μ : gM) (Q : gM → Prop) : Prop :=
  vX3_hasBeat r a1 μ (fun x104 μ105 => (x104 = 0 → (Q μ105)) ∧ (¬ x104 = 0 → (vp_in a1 8 ∧ Q (up2 μ105 (5 + r) a1.toNatClampNeg a2))))
def vX3_landingOf (r : Nat) (a1 : Int32) (μ : gM) (Q : Int32 → gM → Prop) : Prop :=
  (1 ≤ (μ r 1) → (vX3_heightIn r a1 μ (fun x109 μ110 => vJ9_floorMod_7cf53 (a1 + x109) (μ110 r 1) (fun x111 => Q x111 μ110)))) ∧ (¬ 1 ≤ (μ r 1) → (Q 0 μ))
def vX3_firstClash_14B (r : Nat) (Q : Int32 → gM → Prop) (K2 : Int32 → gM → Prop) (K14 : Int32 → Int32 → gM → Prop) (v1 : Int32) (v2 : Int32) (μ : gM) : Prop :=
  ((μ r 1) ≤ v2 → (K2 (v1 + 1) μ)) ∧ (¬ (μ r 1) ≤ v2 → (vX3_landingOf r v1 μ (fun x114 μ115 => vX3_landingOf r v2 μ115 (fun x116 μ117 => (¬ x114 = x116 → (K14 v1 (v2 + 1) μ117)) ∧ (x114 = x116 → (Q ((10 * v1) + v2) μ117))))))
def vX3_firstClash_14 (r : Nat) (Q : Int32 → gM → Prop) (K2 : Int32 → gM → Prop) : Nat → Int32 → Int32 → gM → Prop
  | 0, _, _, _ => False
  | n + 1, v1, v2, μ => vX3_firstClash_14B r Q K2 (vX3_firstClash_14 r Q K2 n) v1 v2 μ
def vX3_firstClash_2B (r : Nat) (Q : Int32 → gM → Prop) (K2 : Int32 → gM → Prop) (v1 : Int32) (μ : gM) : Prop :=
  ((μ r 1) ≤ v1 → (Q (-9) μ)) ∧ (¬ (μ r 1) ≤ v1 → (∃ n, vX3_firstClash_14 r Q K2 n v1 (v1 + 1) μ))
def vX3_firstClash_2 (r : Nat) (Q : Int32 → gM → Prop) : Nat → Int32 → gM → Prop
  | 0, _, _ => False
  | n + 1, v1, μ => vX3_firstClash_2B r Q (vX3_firstClash_2 r Q n) v1 μ
def vX3_firstClash (r : Nat) (μ : gM) (Q : Int32 → gM → Prop) : Prop :=
  ∃ n, vX3_firstClash_2 r Q n 0 μ
def vX3_isGood (r : Nat) (μ : gM) (Q : Int32 → gM → Prop) : Prop :=
  vX3_isThere r μ (fun x119 μ120 => (x119 = 0 → (Q 0 μ120)) ∧ (¬ x119 = 0 → (vX3_firstClash r μ120 (fun x122 μ123 => (¬ x122 = (-9) → (Q 0 μ123)) ∧ (x122 = (-9) → (Q 1 μ123))))))
def vX3_ballCount_4B (r : Nat) (Q : Int32 → gM → Prop) (K4 : Int32 → Int32 → gM → Prop) (v1 : Int32) (v2 : Int32) (μ : gM) : Prop :=
  ((μ r 1) ≤ v2 → ((1 ≤ (μ r 1) → (¬ (μ r 1) = 0 ∧ Q (v1 / (μ r 1)) μ)) ∧ (¬ 1 ≤ (μ r 1) → (Q 0 μ)))) ∧ (¬ (μ r 1) ≤ v2 → (vp_in v2 8 ∧ K4 (v1 + (μ (5 + r) v2.toNatClampNeg)) (v2 + 1) μ))
def vX3_ballCount_4 (r : Nat) (Q : Int32 → gM → Prop) : Nat → Int32 → Int32 → gM → Prop
  | 0, _, _, _ => False
  | n + 1, v1, v2, μ => vX3_ballCount_4B r Q (vX3_ballCount_4 r Q n) v1 v2 μ
def vX3_ballCount (r : Nat) (μ : gM) (Q : Int32 → gM → Prop) : Prop :=
  ∃ n, vX3_ballCount_4 r Q n 0 0 μ
def vJ9_max_7cf53 (a0 : Int32) (a1 : Int32)  (Q : Int32 → Prop) : Prop :=
  (a0 < a1 → (Q a1)) ∧ (¬ a0 < a1 → (Q a0))
def vX3_greatestHeight_4B (r : Nat) (Q : Int32 → gM → Prop) (K4 : Int32 → Int32 → gM → Prop) (v1 : Int32) (v2 : Int32) (μ : gM) : Prop :=
  ((μ r 1) ≤ v2 → (Q v1 μ)) ∧ (¬ (μ r 1) ≤ v2 → (vp_in v2 8 ∧ vJ9_max_7cf53 v1 (μ (5 + r) v2.toNatClampNeg) (fun x131 => K4 x131 (v2 + 1) μ)))
def vX3_greatestHeight_4 (r : Nat) (Q : Int32 → gM → Prop) : Nat → Int32 → Int32 → gM → Prop
  | 0, _, _, _ => False
  | n + 1, v1, v2, μ => vX3_greatestHeight_4B r Q (vX3_greatestHeight_4 r Q n) v1 v2 μ
def vX3_greatestHeight (r : Nat) (μ : gM) (Q : Int32 → gM → Prop) : Prop :=
  ∃ n, vX3_greatestHeight_4 r Q n 0 0 μ
def vX3_stateAhead_4B (r : Nat) (a1 : Int32) (Q : Int32 → gM → Prop) (K4 : Int32 → Int32 → gM → Prop) (v2 : Int32) (v3 : Int32) (μ : gM) : Prop :=
  (9 < v3 → (Q v2 μ)) ∧ (¬ 9 < v3 → (vX3_heightIn r (a1 - v3) μ (fun x133 μ134 => ((x133 - v3) < 0 → (K4 v2 (v3 + 1) μ134)) ∧ (¬ (x133 - v3) < 0 → (K4 (v2 ||| ((1 : Int32) <<< ((x133 - v3) &&& 31))) (v3 + 1) μ134)))))
def vX3_stateAhead_4 (r : Nat) (a1 : Int32) (Q : Int32 → gM → Prop) : Nat → Int32 → Int32 → gM → Prop
  | 0, _, _, _ => False
  | n + 1, v2, v3, μ => vX3_stateAhead_4B r a1 Q (vX3_stateAhead_4 r a1 Q n) v2 v3 μ
def vX3_stateAhead (r : Nat) (a1 : Int32) (μ : gM) (Q : Int32 → gM → Prop) : Prop :=
  ∃ n, vX3_stateAhead_4 r a1 Q n 0 1 μ
def vX3_isPrime_14B (r : Nat) (Q : Int32 → gM → Prop) (K2 : Int32 → gM → Prop) (K14 : Int32 → Int32 → gM → Prop) (v1 : Int32) (v2 : Int32) (μ : gM) : Prop :=
  ((μ r 1) ≤ v2 → (K2 (v1 + 1) μ)) ∧ (¬ (μ r 1) ≤ v2 → (vX3_stateAhead r v1 μ (fun x138 μ139 => vX3_stateAhead r v2 μ139 (fun x140 μ141 => (¬ x138 = x140 → (K14 v1 (v2 + 1) μ141)) ∧ (x138 = x140 → (Q 0 μ141))))))
def vX3_isPrime_14 (r : Nat) (Q : Int32 → gM → Prop) (K2 : Int32 → gM → Prop) : Nat → Int32 → Int32 → gM → Prop
  | 0, _, _, _ => False
  | n + 1, v1, v2, μ => vX3_isPrime_14B r Q K2 (vX3_isPrime_14 r Q K2 n) v1 v2 μ
def vX3_isPrime_2B (r : Nat) (Q : Int32 → gM → Prop) (K2 : Int32 → gM → Prop) (v1 : Int32) (μ : gM) : Prop :=
  ((μ r 1) ≤ v1 → (Q 1 μ)) ∧ (¬ (μ r 1) ≤ v1 → (∃ n, vX3_isPrime_14 r Q K2 n v1 (v1 + 1) μ))
def vX3_isPrime_2 (r : Nat) (Q : Int32 → gM → Prop) : Nat → Int32 → gM → Prop
  | 0, _, _ => False
  | n + 1, v1, μ => vX3_isPrime_2B r Q (vX3_isPrime_2 r Q n) v1 μ
def vX3_isPrime (r : Nat) (μ : gM) (Q : Int32 → gM → Prop) : Prop :=
  ∃ n, vX3_isPrime_2 r Q n 0 μ
def vX3_isGround_11B (r : Nat) (Q : Int32 → gM → Prop) (K11 : Int32 → Int32 → gM → Prop) (v1 : Int32) (v2 : Int32) (μ : gM) : Prop :=
  ((μ r 1) ≤ v2 → (Q 0 μ)) ∧ (¬ (μ r 1) ≤ v2 → (vX3_stateAhead r v2 μ (fun x146 μ147 => (¬ x146 = v1 → (K11 v1 (v2 + 1) μ147)) ∧ (x146 = v1 → (Q 1 μ147)))))
def vX3_isGround_11 (r : Nat) (Q : Int32 → gM → Prop) : Nat → Int32 → Int32 → gM → Prop
  | 0, _, _, _ => False
  | n + 1, v1, v2, μ => vX3_isGround_11B r Q (vX3_isGround_11 r Q n) v1 v2 μ
def vX3_isGround (r : Nat) (μ : gM) (Q : Int32 → gM → Prop) : Prop :=
  vX3_ballCount r μ (fun x143 μ144 => ∃ n, vX3_isGround_11 r Q n (((1 : Int32) <<< (x143 &&& 31)) - 1) 0 μ144)
def vJ9_min_7cf53 (a0 : Int32) (a1 : Int32)  (Q : Int32 → Prop) : Prop :=
  (a1 < a0 → (Q a1)) ∧ (¬ a1 < a0 → (Q a0))
def vX3_leastInOrbit_7B (r : Nat) (a1 : Int32) (Q : Int32 → gM → Prop) (K7 : Int32 → Int32 → Int32 → gM → Prop) (v2 : Int32) (v3 : Int32) (v4 : Int32) (μ : gM) : Prop :=
  ((μ r 1) ≤ v4 → (Q v2 μ)) ∧ (¬ (μ r 1) ≤ v4 → (vX3_landingOf r v3 μ (fun x150 μ151 => vJ9_min_7cf53 v2 x150 (fun x153 => K7 x153 x150 (v4 + 1) μ151))))
def vX3_leastInOrbit_7 (r : Nat) (a1 : Int32) (Q : Int32 → gM → Prop) : Nat → Int32 → Int32 → Int32 → gM → Prop
  | 0, _, _, _, _ => False
  | n + 1, v2, v3, v4, μ => vX3_leastInOrbit_7B r a1 Q (vX3_leastInOrbit_7 r a1 Q n) v2 v3 v4 μ
def vX3_leastInOrbit (r : Nat) (a1 : Int32) (μ : gM) (Q : Int32 → gM → Prop) : Prop :=
  ∃ n, vX3_leastInOrbit_7 r a1 Q n a1 a1 0 μ
def vX3_orbitsBelow_4B (r : Nat) (a1 : Int32) (Q : Int32 → gM → Prop) (K4 : Int32 → Int32 → gM → Prop) (v2 : Int32) (v3 : Int32) (μ : gM) : Prop :=
  (a1 ≤ v3 → (Q v2 μ)) ∧ (¬ a1 ≤ v3 → (vX3_leastInOrbit r v3 μ (fun x155 μ156 => (¬ x155 = v3 → (K4 v2 (v3 + 1) μ156)) ∧ (x155 = v3 → (K4 (v2 + 1) (v3 + 1) μ156)))))
def vX3_orbitsBelow_4 (r : Nat) (a1 : Int32) (Q : Int32 → gM → Prop) : Nat → Int32 → Int32 → gM → Prop
  | 0, _, _, _ => False
  | n + 1, v2, v3, μ => vX3_orbitsBelow_4B r a1 Q (vX3_orbitsBelow_4 r a1 Q n) v2 v3 μ
def vX3_orbitsBelow (r : Nat) (a1 : Int32) (μ : gM) (Q : Int32 → gM → Prop) : Prop :=
  ∃ n, vX3_orbitsBelow_4 r a1 Q n 0 0 μ
def vX3_takeTurned_10B (r : Nat) (r1 : Nat) (a2 : Int32) (Q : gM → Prop) (K10 : Int32 → gM → Prop) (v3 : Int32) (μ : gM) : Prop :=
  ((μ r 1) ≤ v3 → (Q μ)) ∧ (¬ (μ r 1) ≤ v3 → (vX3_heightIn r1 (v3 + a2) μ (fun x159 μ160 => vX3_setHeight r v3 x159 μ160 (fun μ162 => K10 (v3 + 1) μ162))))
def vX3_takeTurned_10 (r : Nat) (r1 : Nat) (a2 : Int32) (Q : gM → Prop) : Nat → Int32 → gM → Prop
  | 0, _, _ => False
  | n + 1, v3, μ => vX3_takeTurned_10B r r1 a2 Q (vX3_takeTurned_10 r r1 a2 Q n) v3 μ
def vX3_takeTurned (r : Nat) (r1 : Nat) (a2 : Int32) (μ : gM) (Q : gM → Prop) : Prop :=
  ∃ n, vX3_takeTurned_10 r r1 a2 Q n 0 (up2 μ r 1 (μ r1 1))
def vX3_take (r : Nat) (r1 : Nat) (μ : gM) (Q : gM → Prop) : Prop :=
  vX3_takeTurned r r1 (0 : Int32) μ (fun μ164 => Q μ164)
def vX3_takeBackward_10B (r : Nat) (r1 : Nat) (Q : gM → Prop) (K10 : Int32 → gM → Prop) (v2 : Int32) (μ : gM) : Prop :=
  ((μ r 1) ≤ v2 → (Q μ)) ∧ (¬ (μ r 1) ≤ v2 → (vX3_landingOf r1 v2 μ (fun x166 μ167 => vX3_heightIn r1 v2 μ167 (fun x168 μ169 => vX3_setHeight r (((μ r 1) - 1) - x166) x168 μ169 (fun μ171 => K10 (v2 + 1) μ171)))))
def vX3_takeBackward_10 (r : Nat) (r1 : Nat) (Q : gM → Prop) : Nat → Int32 → gM → Prop
  | 0, _, _ => False
  | n + 1, v2, μ => vX3_takeBackward_10B r r1 Q (vX3_takeBackward_10 r r1 Q n) v2 μ
def vX3_takeBackward (r : Nat) (r1 : Nat) (μ : gM) (Q : gM → Prop) : Prop :=
  ∃ n, vX3_takeBackward_10 r r1 Q n 0 (up2 μ r 1 (μ r1 1))
def vX3_isTurnGreater_2B (r : Nat) (a1 : Int32) (a2 : Int32) (Q : Int32 → gM → Prop) (K2 : Int32 → gM → Prop) (v3 : Int32) (μ : gM) : Prop :=
  ((μ r 1) ≤ v3 → (Q 0 μ)) ∧ (¬ (μ r 1) ≤ v3 → (vX3_heightIn r (v3 + a1) μ (fun x174 μ175 => vX3_heightIn r (v3 + a2) μ175 (fun x176 μ177 => ((x174 - x176) = 0 → (K2 (v3 + 1) μ177)) ∧ (¬ (x174 - x176) = 0 → (((x174 - x176) ≤ 0 → (Q 0 μ177)) ∧ (¬ (x174 - x176) ≤ 0 → (Q 1 μ177))))))))
def vX3_isTurnGreater_2 (r : Nat) (a1 : Int32) (a2 : Int32) (Q : Int32 → gM → Prop) : Nat → Int32 → gM → Prop
  | 0, _, _ => False
  | n + 1, v3, μ => vX3_isTurnGreater_2B r a1 a2 Q (vX3_isTurnGreater_2 r a1 a2 Q n) v3 μ
def vX3_isTurnGreater (r : Nat) (a1 : Int32) (a2 : Int32) (μ : gM) (Q : Int32 → gM → Prop) : Prop :=
  ∃ n, vX3_isTurnGreater_2 r a1 a2 Q n 0 μ
def vX3_greatestTurn_4B (r : Nat) (Q : Int32 → gM → Prop) (K4 : Int32 → Int32 → gM → Prop) (v1 : Int32) (v2 : Int32) (μ : gM) : Prop :=
  ((μ r 1) ≤ v2 → (Q v1 μ)) ∧ (¬ (μ r 1) ≤ v2 → (vX3_isTurnGreater r v2 v1 μ (fun x180 μ181 => (x180 = 0 → (K4 v1 (v2 + 1) μ181)) ∧ (¬ x180 = 0 → (K4 v2 (v2 + 1) μ181)))))
def vX3_greatestTurn_4 (r : Nat) (Q : Int32 → gM → Prop) : Nat → Int32 → Int32 → gM → Prop
  | 0, _, _, _ => False
  | n + 1, v1, v2, μ => vX3_greatestTurn_4B r Q (vX3_greatestTurn_4 r Q n) v1 v2 μ
def vX3_greatestTurn (r : Nat) (μ : gM) (Q : Int32 → gM → Prop) : Prop :=
  ∃ n, vX3_greatestTurn_4 r Q n 0 1 μ
def vX3_isTurned_26B (r : Nat) (r1 : Nat) (Q : Int32 → gM → Prop) (K26 : Int32 → Int32 → Int32 → gM → Prop) (v2 : Int32) (v3 : Int32) (v4 : Int32) (μ : gM) : Prop :=
  ((μ r 1) ≤ v4 → (Q 1 μ)) ∧ (¬ (μ r 1) ≤ v4 → (vX3_heightIn r (v4 + v2) μ (fun x189 μ190 => vX3_heightIn r1 (v4 + v3) μ190 (fun x191 μ192 => (x189 = x191 → (K26 v2 v3 (v4 + 1) μ192)) ∧ (¬ x189 = x191 → (Q 0 μ192))))))
def vX3_isTurned_26 (r : Nat) (r1 : Nat) (Q : Int32 → gM → Prop) : Nat → Int32 → Int32 → Int32 → gM → Prop
  | 0, _, _, _, _ => False
  | n + 1, v2, v3, v4, μ => vX3_isTurned_26B r r1 Q (vX3_isTurned_26 r r1 Q n) v2 v3 v4 μ
def vX3_isTurned (r : Nat) (r1 : Nat) (μ : gM) (Q : Int32 → gM → Prop) : Prop :=
  ((μ r 1) = (μ r1 1) → (vX3_greatestTurn r μ (fun x184 μ185 => vX3_greatestTurn r1 μ185 (fun x186 μ187 => ∃ n, vX3_isTurned_26 r r1 Q n x184 x186 0 μ187)))) ∧ (¬ (μ r 1) = (μ r1 1) → (Q 0 μ))
def vX4_isThere (r : Nat) (μ : gM) (Q : Int32 → gM → Prop) : Prop :=
  ((μ (10 + r) 1) = (-1) → (Q 0 μ)) ∧ (¬ (μ (10 + r) 1) = (-1) → (Q 1 μ))
def vX4_renew (r : Nat) (a1 : Int32) (a2 : Int32) (μ : gM) (Q : gM → Prop) : Prop :=
  vJ7_fill_53178 (14 + r) 40 (0 : Int32) μ (fun μ196 => Q (up2 (up2 μ196 (10 + r) 2 a1) (10 + r) 1 a2))
def vX4_clear (r : Nat) (μ : gM) (Q : Int32 → gM → Prop) : Prop :=
  vX4_isThere r μ (fun x197 μ198 => narrow .boolean (.int x197) = .int x197 ∧ Q x197 (up2 μ198 (10 + r) 1 (-1)))
def vX4_holds (r : Nat) (a1 : Int32) (a2 : Int32) (μ : gM) (Q : Int32 → gM → Prop) : Prop :=
  (a1 < 0 → (Q 0 μ)) ∧ (¬ a1 < 0 → (((μ (10 + r) 1) < a1 → (Q 0 μ)) ∧ (¬ (μ (10 + r) 1) < a1 → ((((μ (10 + r) 1) - a1) < a2 → (Q 0 μ)) ∧ (¬ ((μ (10 + r) 1) - a1) < a2 → (Q 1 μ))))))
def vX4_faultOfCells (r : Nat) (a1 : Int32) (a2 : Int32) (a3 : Int32) (μ : gM) (Q : Int32 → gM → Prop) : Prop :=
  vX4_isThere r μ (fun x202 μ203 => (¬ x202 = 0 → (((μ203 (10 + r) 2) = a1 → ((0 ≤ a3 → (vX4_holds r a2 a3 μ203 (fun x207 μ208 => (x207 = 0 → (Q 3 μ208)) ∧ (¬ x207 = 0 → (Q 0 μ208))))) ∧ (¬ 0 ≤ a3 → (Q 4 μ203)))) ∧ (¬ (μ203 (10 + r) 2) = a1 → (Q 2 μ203)))) ∧ (x202 = 0 → (Q 1 μ203)))
def vX4_read (r : Nat) (a1 : Int32) (μ : gM) (Q : Int32 → gM → Prop) : Prop :=
  vX4_holds r a1 (1 : Int32) μ (fun x210 μ211 => (x210 = 0 → (Q 0 μ211)) ∧ (¬ x210 = 0 → (vp_in a1 40 ∧ Q (μ211 (14 + r) a1.toNatClampNeg) μ211)))
def vX4_cutToSort (r : Nat) (a1 : Int32) (μ : gM) (Q : Int32 → gM → Prop) : Prop :=
  ((μ (10 + r) 2) = 0 → (Q a1.toInt8.toInt32 μ)) ∧ (¬ (μ (10 + r) 2) = 0 → (((μ (10 + r) 2) = 1 → (Q a1.toInt16.toInt32 μ)) ∧ (¬ (μ (10 + r) 2) = 1 → (Q a1 μ))))
def vX4_write (r : Nat) (a1 : Int32) (a2 : Int32) (μ : gM) (Q : gM → Prop) : Prop :=
  vX4_holds r a1 (1 : Int32) μ (fun x214 μ215 => (x214 = 0 → (Q μ215)) ∧ (¬ x214 = 0 → (vX4_cutToSort r a2 μ215 (fun x219 μ220 => vp_in a1 40 ∧ Q (up2 μ220 (14 + r) a1.toNatClampNeg x219)))))
def vX5_reach (a1 : Int32) (a2 : Int32) (μ : gM) (Q : gM → Prop) : Prop :=
  vX6_isWithin a1 (0 : Int32) (511 : Int32) (fun x224 => (x224 = 0 → (Q μ)) ∧ (¬ x224 = 0 → (vp_in a1 512 ∧ (¬ (μ 23 a1.toNatClampNeg) = (-9) → (Q μ)) ∧ ((μ 23 a1.toNatClampNeg) = (-9) → ((512 ≤ (μ 22 2) → (Q μ)) ∧ (¬ 512 ≤ (μ 22 2) → (vp_in a1 512 ∧ vp_in ((up2 μ 23 a1.toNatClampNeg a2) 22 2) 512 ∧ Q (up2 (up2 (up2 μ 23 a1.toNatClampNeg a2) 24 ((up2 μ 23 a1.toNatClampNeg a2) 22 2).toNatClampNeg a1) 22 2 (((up2 (up2 μ 23 a1.toNatClampNeg a2) 24 ((up2 μ 23 a1.toNatClampNeg a2) 22 2).toNatClampNeg a1) 22 2) + 1)))))))))
def vX5_beatsFrom (a1 : Int32) (μ : gM) (Q : Int32 → gM → Prop) : Prop :=
  vX6_isWithin a1 (0 : Int32) (511 : Int32) (fun x236 => (x236 = 0 → (Q (-9) μ)) ∧ (¬ x236 = 0 → (vp_in a1 512 ∧ Q (μ 23 a1.toNatClampNeg) μ)))
def vX5_reachFrom_23B (a1 : Int32) (a2 : Int32) (Q : gM → Prop) (K23 : Int32 → Int32 → Int32 → gM → Prop) (v3 : Int32) (v4 : Int32) (v5 : Int32) (μ : gM) : Prop :=
  (a2 < v5 → (Q μ)) ∧ (¬ a2 < v5 → ((¬ ((v3 >>> (v5 &&& 31)) &&& 1) = 1 → (K23 v3 v4 (v5 + 1) μ)) ∧ (((v3 >>> (v5 &&& 31)) &&& 1) = 1 → (vX5_reach ((v3 ^^^ ((1 : Int32) <<< (v5 &&& 31))) ||| 1) v4 μ (fun μ246 => K23 v3 v4 (v5 + 1) μ246)))))
def vX5_reachFrom_23 (a1 : Int32) (a2 : Int32) (Q : gM → Prop) : Nat → Int32 → Int32 → Int32 → gM → Prop
  | 0, _, _, _, _ => False
  | n + 1, v3, v4, v5, μ => vX5_reachFrom_23B a1 a2 Q (vX5_reachFrom_23 a1 a2 Q n) v3 v4 v5 μ
def vX5_reachFrom (a1 : Int32) (a2 : Int32) (μ : gM) (Q : gM → Prop) : Prop :=
  vX5_beatsFrom a1 μ (fun x239 μ240 => vX5_reach (a1 <<< ((1 : Int32) &&& 31)) (x239 + 1) μ240 (fun μ242 => ∃ n, vX5_reachFrom_23 a1 a2 Q n (a1 <<< ((1 : Int32) &&& 31)) (x239 + 1) 1 μ242))
def vX5_measure_22B (a1 : Int32) (a2 : Int32) (Q : gM → Prop) (K22 : Int32 → gM → Prop) (v3 : Int32) (μ : gM) : Prop :=
  ((μ 22 2) ≤ v3 → (Q μ)) ∧ (¬ (μ 22 2) ≤ v3 → ((512 ≤ v3 → (Q μ)) ∧ (¬ 512 ≤ v3 → (vp_in v3 512 ∧ vX5_reachFrom (μ 24 v3.toNatClampNeg) a2 μ (fun μ248 => K22 (v3 + 1) μ248)))))
def vX5_measure_22 (a1 : Int32) (a2 : Int32) (Q : gM → Prop) : Nat → Int32 → gM → Prop
  | 0, _, _ => False
  | n + 1, v3, μ => vX5_measure_22B a1 a2 Q (vX5_measure_22 a1 a2 Q n) v3 μ
def vX5_measure (a1 : Int32) (a2 : Int32) (μ : gM) (Q : gM → Prop) : Prop :=
  vJ7_fill_53178 23 512 (-9 : Int32) μ (fun μ223 => vX5_reach a1 (0 : Int32) (up2 μ223 22 2 0) (fun μ232 => ∃ n, vX5_measure_22 a1 a2 Q n 0 μ232))
def vX5_stateBehind (a0 : Int32) (a1 : Int32)  (Q : Int32 → Prop) : Prop :=
  (¬ a1 = 0 → (Q ((a0 ||| ((1 : Int32) <<< (a1 &&& 31))) >>> ((1 : Int32) &&& 31)))) ∧ (a1 = 0 → (Q (a0 >>> ((1 : Int32) &&& 31))))
def vX5_leastThrow_19B (a1 : Int32) (a2 : Int32) (Q : Int32 → gM → Prop) (K19 : Int32 → Int32 → gM → Prop) (v3 : Int32) (v4 : Int32) (μ : gM) : Prop :=
  (a2 < v4 → (Q 0 μ)) ∧ (¬ a2 < v4 → ((¬ ((a1 >>> (v4 &&& 31)) &&& 1) = 0 → (K19 v3 (v4 + 1) μ)) ∧ (((a1 >>> (v4 &&& 31)) &&& 1) = 0 → (vX5_stateBehind a1 v4 (fun x260 => vX5_beatsFrom x260 μ (fun x261 μ262 => (¬ x261 = v3 → (K19 v3 (v4 + 1) μ262)) ∧ (x261 = v3 → (Q v4 μ262))))))))
def vX5_leastThrow_19 (a1 : Int32) (a2 : Int32) (Q : Int32 → gM → Prop) : Nat → Int32 → Int32 → gM → Prop
  | 0, _, _, _ => False
  | n + 1, v3, v4, μ => vX5_leastThrow_19B a1 a2 Q (vX5_leastThrow_19 a1 a2 Q n) v3 v4 μ
def vX5_leastThrow (a1 : Int32) (a2 : Int32) (μ : gM) (Q : Int32 → gM → Prop) : Prop :=
  (¬ (a1 &&& 1) = 0 → (vX5_beatsFrom a1 μ (fun x255 μ256 => ∃ n, vX5_leastThrow_19 a1 a2 Q n (x255 - 1) 1 μ256))) ∧ ((a1 &&& 1) = 0 → (Q 0 μ))
def vX5_throwOnWay_29B (a1 : Int32) (a2 : Int32) (a3 : Int32) (Q : Int32 → gM → Prop) (K29 : Int32 → Int32 → gM → Prop) (v5 : Int32) (v6 : Int32) (μ : gM) : Prop :=
  (a3 ≤ v6 → (vX5_leastThrow v5 a2 μ (fun x264 μ265 => Q x264 μ265))) ∧ (¬ a3 ≤ v6 → (vX5_leastThrow v5 a2 μ (fun x266 μ267 => vX5_stateBehind v5 x266 (fun x268 => K29 x268 (v6 + 1) μ267))))
def vX5_throwOnWay_29 (a1 : Int32) (a2 : Int32) (a3 : Int32) (Q : Int32 → gM → Prop) : Nat → Int32 → Int32 → gM → Prop
  | 0, _, _, _ => False
  | n + 1, v5, v6, μ => vX5_throwOnWay_29B a1 a2 a3 Q (vX5_throwOnWay_29 a1 a2 a3 Q n) v5 v6 μ
def vX5_throwOnWay (a1 : Int32) (a2 : Int32) (a3 : Int32) (μ : gM) (Q : Int32 → gM → Prop) : Prop :=
  vX5_beatsFrom a1 μ (fun x249 μ250 => (x249 = (-9) → (Q (-9) μ250)) ∧ (¬ x249 = (-9) → ((a3 < x249 → (∃ n, vX5_throwOnWay_29 a1 a2 a3 Q n a1 0 μ250)) ∧ (¬ a3 < x249 → (Q (-9) μ250)))))
def vX6_isSheet (a0 : Int32)  (Q : Int32 → Prop) : Prop :=
  vX6_isWithin a0 (0 : Int32) (3 : Int32) (fun x269 => narrow .boolean (.int x269) = .int x269 ∧ Q x269 )
def vX6_isSort (a0 : Int32)  (Q : Int32 → Prop) : Prop :=
  vX6_isWithin a0 (0 : Int32) (2 : Int32) (fun x272 => narrow .boolean (.int x272) = .int x272 ∧ Q x272 )
def vX6_firstWrongCode_2B (r0 : Nat) (a1 : Int32) (a2 : Int32) (Q : Int32 → gM → Prop) (K2 : Int32 → gM → Prop) (v3 : Int32) (μ : gM) : Prop :=
  (a2 ≤ v3 → ((¬ a2 = 0 → (Q (-9) μ)) ∧ (a2 = 0 → (Q 0 μ)))) ∧ (¬ a2 ≤ v3 → ((8 ≤ v3 → (Q v3 μ)) ∧ (¬ 8 ≤ v3 → (vX4_read r0 (a1 + v3) μ (fun x283 μ284 => vX6_isWithin x283 (48 : Int32) (57 : Int32) (fun x285 => (¬ x285 = 0 → (K2 (v3 + 1) μ284)) ∧ (x285 = 0 → (Q v3 μ284))))))))
def vX6_firstWrongCode_2 (r0 : Nat) (a1 : Int32) (a2 : Int32) (Q : Int32 → gM → Prop) : Nat → Int32 → gM → Prop
  | 0, _, _ => False
  | n + 1, v3, μ => vX6_firstWrongCode_2B r0 a1 a2 Q (vX6_firstWrongCode_2 r0 a1 a2 Q n) v3 μ
def vX6_firstWrongCode (r0 : Nat) (a1 : Int32) (a2 : Int32) (μ : gM) (Q : Int32 → gM → Prop) : Prop :=
  ∃ n, vX6_firstWrongCode_2 r0 a1 a2 Q n 0 μ
def vX6_takeText_11B (r1 : Nat) (a2 : Int32) (a3 : Int32) (Q : gM → Prop) (K11 : Int32 → gM → Prop) (v4 : Int32) (μ : gM) : Prop :=
  (a3 ≤ v4 → (vX2_reset (up2 μ 31 8 2) (fun μ293 => Q (up2 μ293 31 9 0)))) ∧ (¬ a3 ≤ v4 → (vX4_read r1 (a2 + v4) μ (fun x294 μ295 => vX3_setHeight 0 v4 (x294 - 48) μ295 (fun μ297 => K11 (v4 + 1) μ297))))
def vX6_takeText_11 (r1 : Nat) (a2 : Int32) (a3 : Int32) (Q : gM → Prop) : Nat → Int32 → gM → Prop
  | 0, _, _ => False
  | n + 1, v4, μ => vX6_takeText_11B r1 a2 a3 Q (vX6_takeText_11 r1 a2 a3 Q n) v4 μ
def vX6_takeText (r1 : Nat) (a2 : Int32) (a3 : Int32) (μ : gM) (Q : gM → Prop) : Prop :=
  ∃ n, vX6_takeText_11 r1 a2 a3 Q n 0 (up2 μ 0 1 a3)
def vX6_pattern (a1 : Int32) (a2 : Int32) (a3 : Int32) (a4 : Int32) (μ : gM) (Q : Int32 → gM → Prop) : Prop :=
  vX6_isSheet a1 (fun x270 => (¬ x270 = 0 → (vX6_isSort a2 (fun x273 => (¬ x273 = 0 → (vp_in a1 4 ∧ vX4_faultOfCells a1.toNatClampNeg a2 a3 a4 (up2 μ 31 10 0) (fun x276 μ277 => (((up2 μ277 31 10 x276) 31 10) = 0 → (vp_in a1 4 ∧ vX6_firstWrongCode a1.toNatClampNeg a3 a4 (up2 μ277 31 10 x276) (fun x287 μ288 => (x287 = (-9) → (vp_in a1 4 ∧ vX6_takeText a1.toNatClampNeg a3 a4 μ288 (fun μ299 => Q (μ299 0 1) μ299))) ∧ (¬ x287 = (-9) → (Q ((-100) - x287) μ288))))) ∧ (¬ ((up2 μ277 31 10 x276) 31 10) = 0 → (Q ((-10) - ((up2 μ277 31 10 x276) 31 10)) (up2 μ277 31 10 x276)))))) ∧ (x273 = 0 → (Q (-2) (up2 μ 31 10 0)))))) ∧ (x270 = 0 → (Q (-1) (up2 μ 31 10 0))))
def vX6_throwOf (a1 : Int32) (μ : gM) (Q : Int32 → gM → Prop) : Prop :=
  vX3_hasBeat 0 a1 μ (fun x300 μ301 => (x300 = 0 → (Q (-1) μ301)) ∧ (¬ x300 = 0 → (vX3_heightIn 0 a1 μ301 (fun x303 μ304 => Q x303 μ304))))
def vX6_clash  (μ : gM) (Q : Int32 → gM → Prop) : Prop :=
  vX3_isThere 0 μ (fun x305 μ306 => (x305 = 0 → (Q (-3) μ306)) ∧ (¬ x305 = 0 → (vX3_firstClash 0 μ306 (fun x308 μ309 => Q x308 μ309))))
def vX6_good (a1 : Int32) (μ : gM) (Q : Int32 → gM → Prop) : Prop :=
  vX6_isWithin a1 (0 : Int32) (4 : Int32) (fun x310 => (¬ x310 = 0 → (vX3_isGood 0 μ (fun x312 μ313 => (¬ x312 = 0 → ((a1 = 0 → (vX3_ballCount 0 μ313 (fun x316 μ317 => Q x316 μ317))) ∧ (¬ a1 = 0 → ((a1 = 1 → (vX3_greatestHeight 0 μ313 (fun x319 μ320 => Q x319 μ320))) ∧ (¬ a1 = 1 → ((a1 = 2 → (vX3_isPrime 0 μ313 (fun x322 μ323 => (x322 = 0 → (Q 0 μ323)) ∧ (¬ x322 = 0 → (Q 1 μ323))))) ∧ (¬ a1 = 2 → ((a1 = 3 → (vX3_isGround 0 μ313 (fun x326 μ327 => (x326 = 0 → (Q 0 μ327)) ∧ (¬ x326 = 0 → (Q 1 μ327))))) ∧ (¬ a1 = 3 → (vX3_orbitsBelow 0 (μ313 0 1) μ313 (fun x329 μ330 => Q x329 μ330))))))))))) ∧ (x312 = 0 → (Q (-3) μ313))))) ∧ (x310 = 0 → (Q (-2) μ)))
def vX6_state (a1 : Int32) (μ : gM) (Q : Int32 → gM → Prop) : Prop :=
  vX3_hasBeat 0 a1 μ (fun x331 μ332 => (¬ x331 = 0 → (vX3_isGood 0 μ332 (fun x334 μ335 => (x334 = 0 → (Q (-3) μ335)) ∧ (¬ x334 = 0 → (vX3_stateAhead 0 a1 μ335 (fun x337 μ338 => Q x337 μ338)))))) ∧ (x331 = 0 → (Q (-1) μ332)))
def vX6_ball_39B (a1 : Int32) (Q : Int32 → gM → Prop) (K39 : Int32 → Int32 → gM → Prop) (v2 : Int32) (v3 : Int32) (μ : gM) : Prop :=
  (a1 < v3 → (Q v2 μ)) ∧ (¬ a1 < v3 → (vX3_heightIn 0 v3 μ (fun x347 μ348 => vX1_pass v3 x347 μ348 (fun x349 μ350 => K39 x349 (v3 + 1) μ350))))
def vX6_ball_39 (a1 : Int32) (Q : Int32 → gM → Prop) : Nat → Int32 → Int32 → gM → Prop
  | 0, _, _, _ => False
  | n + 1, v2, v3, μ => vX6_ball_39B a1 Q (vX6_ball_39 a1 Q n) v2 v3 μ
def vX6_ball (a1 : Int32) (μ : gM) (Q : Int32 → gM → Prop) : Prop :=
  vX6_isWithin a1 (0 : Int32) (999 : Int32) (fun x339 => (¬ x339 = 0 → (vX3_isGood 0 μ (fun x341 μ342 => (¬ x341 = 0 → (vX1_begin μ342 (fun μ345 => ∃ n, vX6_ball_39 a1 Q n (-9) 0 μ345))) ∧ (x341 = 0 → (Q (-3) μ342))))) ∧ (x339 = 0 → (Q (-2) μ)))
def vX6_orbit (a1 : Int32) (μ : gM) (Q : Int32 → gM → Prop) : Prop :=
  vX3_hasBeat 0 a1 μ (fun x351 μ352 => (¬ x351 = 0 → (vX3_isGood 0 μ352 (fun x354 μ355 => (x354 = 0 → (Q (-3) μ355)) ∧ (¬ x354 = 0 → (vX3_leastInOrbit 0 a1 μ355 (fun x357 μ358 => vX3_orbitsBelow 0 x357 μ358 (fun x359 μ360 => Q x359 μ360))))))) ∧ (x351 = 0 → (Q (-1) μ352)))
def vX6_hands (a1 : Int32) (μ : gM) (Q : Int32 → gM → Prop) : Prop :=
  vX6_isWithin a1 (1 : Int32) (4 : Int32) (fun x361 => (¬ x361 = 0 → (vX3_isThere 0 μ (fun x363 μ364 => (¬ x363 = 0 → (Q (μ364 31 8) (up2 μ364 31 8 a1))) ∧ (x363 = 0 → (Q (-3) μ364))))) ∧ (x361 = 0 → (Q (-2) μ)))
def vX6_handIn (a1 : Int32) (μ : gM) (Q : Int32 → gM → Prop) : Prop :=
  (1 ≤ (μ 31 8) → (¬ (μ 31 8) = 0 ∧ Q (a1 - a1 / (μ 31 8) * (μ 31 8)) μ)) ∧ (¬ 1 ≤ (μ 31 8) → (Q (-9) μ))
def vX6_beat (a1 : Int32) (a2 : Int32) (μ : gM) (Q : Int32 → gM → Prop) : Prop :=
  vX6_isWithin a1 (0 : Int32) (999 : Int32) (fun x366 => (x366 = 0 → (Q (-2) μ)) ∧ (¬ x366 = 0 → (vX6_isWithin a2 (0 : Int32) (2 : Int32) (fun x368 => (¬ x368 = 0 → (vX3_isGood 0 μ (fun x370 μ371 => (¬ x370 = 0 → ((¬ a2 = 0 → ((¬ a2 = 1 → (vX3_stateAhead 0 a1 μ371 (fun x375 μ376 => vJ6_bitCount_0f7a4 (x375 >>> ((1 : Int32) &&& 31)) (fun x377 => Q x377 μ376)))) ∧ (a2 = 1 → (vX3_heightIn 0 a1 μ371 (fun x378 μ379 => (¬ x378 = 0 → (vX6_handIn (a1 + x378) μ379 (fun x382 μ383 => Q x382 μ383))) ∧ (x378 = 0 → (Q (-9) μ379))))))) ∧ (a2 = 0 → (vX6_handIn a1 μ371 (fun x384 μ385 => Q x384 μ385))))) ∧ (x370 = 0 → (Q (-3) μ371))))) ∧ (x368 = 0 → (Q (-2) μ))))))
def vX6_swap (a1 : Int32) (a2 : Int32) (μ : gM) (Q : Int32 → gM → Prop) : Prop :=
  vX3_hasBeat 0 a1 μ (fun x386 μ387 => (x386 = 0 → (Q (-1) μ387)) ∧ (¬ x386 = 0 → (vX3_hasBeat 0 a2 μ387 (fun x389 μ390 => (x389 = 0 → (Q (-1) μ390)) ∧ (¬ x389 = 0 → ((a1 < a2 → (vX3_heightIn 0 a2 μ390 (fun x393 μ394 => vX3_heightIn 0 a1 μ394 (fun x395 μ396 => (0 ≤ (x395 - (a2 - a1)) → (((x393 + (a2 - a1)) ≤ 9 → (vX3_setHeight 0 a1 (x393 + (a2 - a1)) μ396 (fun μ400 => vX3_setHeight 0 a2 (x395 - (a2 - a1)) μ400 (fun μ402 => Q 1 μ402)))) ∧ (¬ (x393 + (a2 - a1)) ≤ 9 → (Q (-4) μ396)))) ∧ (¬ 0 ≤ (x395 - (a2 - a1)) → (Q (-3) μ396)))))) ∧ (¬ a1 < a2 → (Q (-1) μ390))))))))
def vX6_turn (a1 : Int32) (μ : gM) (Q : Int32 → gM → Prop) : Prop :=
  vX6_isWithin a1 (0 : Int32) (7 : Int32) (fun x403 => (¬ x403 = 0 → (vX3_isThere 0 μ (fun x405 μ406 => (¬ x405 = 0 → (vX3_take 1 0 μ406 (fun μ409 => vX3_takeTurned 0 1 a1 μ409 (fun μ411 => vX3_heightIn 0 (0 : Int32) μ411 (fun x412 μ413 => Q x412 μ413))))) ∧ (x405 = 0 → (Q (-3) μ406))))) ∧ (x403 = 0 → (Q (-2) μ)))
def vX6_backward  (μ : gM) (Q : Int32 → gM → Prop) : Prop :=
  vX3_isGood 0 μ (fun x414 μ415 => (¬ x414 = 0 → (vX3_take 1 0 μ415 (fun μ418 => vX3_takeBackward 0 1 μ418 (fun μ420 => vX3_heightIn 0 (0 : Int32) μ420 (fun x421 μ422 => Q x421 μ422))))) ∧ (x414 = 0 → (Q (-3) μ415)))
def vX6_greatest (a1 : Int32) (μ : gM) (Q : Int32 → gM → Prop) : Prop :=
  vX3_hasBeat 0 a1 μ (fun x423 μ424 => (x423 = 0 → (Q (-1) μ424)) ∧ (¬ x423 = 0 → (vX3_greatestTurn 0 μ424 (fun x426 μ427 => vX3_heightIn 0 (x426 + a1) μ427 (fun x428 μ429 => Q x428 μ429)))))
def vX6_isImage (a0 : Int32)  (Q : Int32 → Prop) : Prop :=
  vX6_isWithin a0 (0 : Int32) (2 : Int32) (fun x430 => narrow .boolean (.int x430) = .int x430 ∧ Q x430 )
def vX6_keep (a1 : Int32) (μ : gM) (Q : Int32 → gM → Prop) : Prop :=
  vX6_isImage a1 (fun x431 => (¬ x431 = 0 → (vX3_isThere 0 μ (fun x433 μ434 => (¬ x433 = 0 → (vp_in a1 3 ∧ vX3_take (2 + a1.toNatClampNeg) 0 μ434 (fun μ438 => Q 1 μ438))) ∧ (x433 = 0 → (Q (-3) μ434))))) ∧ (x431 = 0 → (Q (-1) μ)))
def vX6_back (a1 : Int32) (μ : gM) (Q : Int32 → gM → Prop) : Prop :=
  vX6_isImage a1 (fun x439 => (¬ x439 = 0 → (vp_in a1 3 ∧ vX3_isThere (2 + a1.toNatClampNeg) μ (fun x442 μ443 => (¬ x442 = 0 → (vp_in a1 3 ∧ vX3_take 0 (2 + a1.toNatClampNeg) μ443 (fun μ447 => Q (μ447 0 1) μ447))) ∧ (x442 = 0 → (Q (-3) μ443))))) ∧ (x439 = 0 → (Q (-1) μ)))
def vX6_like (a1 : Int32) (μ : gM) (Q : Int32 → gM → Prop) : Prop :=
  vX6_isImage a1 (fun x448 => (¬ x448 = 0 → (vp_in a1 3 ∧ vX3_isThere (2 + a1.toNatClampNeg) μ (fun x451 μ452 => (x451 = 0 → (Q (-3) μ452)) ∧ (¬ x451 = 0 → (vX3_isThere 0 μ452 (fun x454 μ455 => (¬ x454 = 0 → (vp_in a1 3 ∧ vX3_isTurned 0 (2 + a1.toNatClampNeg) μ455 (fun x458 μ459 => (x458 = 0 → (Q 0 μ459)) ∧ (¬ x458 = 0 → (Q 1 μ459))))) ∧ (x454 = 0 → (Q (-3) μ455)))))))) ∧ (x448 = 0 → (Q (-1) μ)))
def vX6_howMany_37B (a1 : Int32) (a2 : Int32) (a3 : Int32) (Q : Int64 → gM → Prop) (K37 : Int32 → gM → Prop) (v4 : Int32) (μ : gM) : Prop :=
  (a1 ≤ v4 → (vX0_count a1 a2 μ (fun x468 μ469 => Q x468.toInt64 μ469))) ∧ (¬ a1 ≤ v4 → (vX0_allow v4 (0 : Int32) a3 μ (fun μ471 => K37 (v4 + 1) μ471)))
def vX6_howMany_37 (a1 : Int32) (a2 : Int32) (a3 : Int32) (Q : Int64 → gM → Prop) : Nat → Int32 → gM → Prop
  | 0, _, _ => False
  | n + 1, v4, μ => vX6_howMany_37B a1 a2 a3 Q (vX6_howMany_37 a1 a2 a3 Q n) v4 μ
def vX6_howMany (a1 : Int32) (a2 : Int32) (a3 : Int32) (μ : gM) (Q : Int64 → gM → Prop) : Prop :=
  vX6_isWithin a1 (1 : Int32) (8 : Int32) (fun x461 => (x461 = 0 → (Q (-9223372036854775808) μ)) ∧ (¬ x461 = 0 → (vX6_isWithin a2 (0 : Int32) (9 : Int32) (fun x463 => (x463 = 0 → (Q (-9223372036854775808) μ)) ∧ (¬ x463 = 0 → (vX6_isWithin a3 (0 : Int32) (9 : Int32) (fun x465 => (¬ x465 = 0 → (∃ n, vX6_howMany_37 a1 a2 a3 Q n 0 μ)) ∧ (x465 = 0 → (Q (-9223372036854775808) μ)))))))))
def vX6_way (a1 : Int32) (a2 : Int32) (a3 : Int32) (a4 : Int32) (μ : gM) (Q : Int32 → gM → Prop) : Prop :=
  vX6_isWithin a1 (0 : Int32) (511 : Int32) (fun x472 => (x472 = 0 → (Q (-2) μ)) ∧ (¬ x472 = 0 → (vX6_isWithin a2 (0 : Int32) (511 : Int32) (fun x474 => (x474 = 0 → (Q (-2) μ)) ∧ (¬ x474 = 0 → (vJ6_bitCount_0f7a4 a1 (fun x476 => vJ6_bitCount_0f7a4 a2 (fun x477 => (¬ x476 = x477 → (Q (-2) μ)) ∧ (x476 = x477 → (vX6_isWithin a3 (0 : Int32) (9 : Int32) (fun x479 => (¬ x479 = 0 → (((-1) ≤ a4 → (vX5_measure a2 a3 μ (fun μ483 => (¬ a4 = (-1) → (vX5_throwOnWay a1 a3 a4 μ483 (fun x485 μ486 => Q x485 μ486))) ∧ (a4 = (-1) → (vX5_beatsFrom a1 μ483 (fun x487 μ488 => Q x487 μ488)))))) ∧ (¬ (-1) ≤ a4 → (Q (-1) μ)))) ∧ (x479 = 0 → (Q (-2) μ)))))))))))))
def vX6_areOpenOrThrows_2B (r0 : Nat) (a1 : Int32) (a2 : Int32) (Q : Int32 → gM → Prop) (K2 : Int32 → gM → Prop) (v3 : Int32) (μ : gM) : Prop :=
  (a2 ≤ v3 → (Q 1 μ)) ∧ (¬ a2 ≤ v3 → (vX4_read r0 (a1 + v3) μ (fun x503 μ504 => vX6_isWithin x503 (-1 : Int32) (9 : Int32) (fun x505 => (¬ x505 = 0 → (K2 (v3 + 1) μ504)) ∧ (x505 = 0 → (Q 0 μ504))))))
def vX6_areOpenOrThrows_2 (r0 : Nat) (a1 : Int32) (a2 : Int32) (Q : Int32 → gM → Prop) : Nat → Int32 → gM → Prop
  | 0, _, _ => False
  | n + 1, v3, μ => vX6_areOpenOrThrows_2B r0 a1 a2 Q (vX6_areOpenOrThrows_2 r0 a1 a2 Q n) v3 μ
def vX6_areOpenOrThrows (r0 : Nat) (a1 : Int32) (a2 : Int32) (μ : gM) (Q : Int32 → gM → Prop) : Prop :=
  ∃ n, vX6_areOpenOrThrows_2 r0 a1 a2 Q n 0 μ
def vX6_allowCells_3B (r1 : Nat) (a2 : Int32) (a3 : Int32) (Q : gM → Prop) (K3 : Int32 → gM → Prop) (v4 : Int32) (μ : gM) : Prop :=
  (a3 ≤ v4 → (Q μ)) ∧ (¬ a3 ≤ v4 → (vX4_read r1 (a2 + v4) μ (fun x514 μ515 => (¬ x514 = (-1) → (vX0_allow v4 x514 x514 μ515 (fun μ518 => K3 (v4 + 1) μ518))) ∧ (x514 = (-1) → (vX0_allow v4 (0 : Int32) (9 : Int32) μ515 (fun μ520 => K3 (v4 + 1) μ520))))))
def vX6_allowCells_3 (r1 : Nat) (a2 : Int32) (a3 : Int32) (Q : gM → Prop) : Nat → Int32 → gM → Prop
  | 0, _, _ => False
  | n + 1, v4, μ => vX6_allowCells_3B r1 a2 a3 Q (vX6_allowCells_3 r1 a2 a3 Q n) v4 μ
def vX6_allowCells (r1 : Nat) (a2 : Int32) (a3 : Int32) (μ : gM) (Q : gM → Prop) : Prop :=
  ∃ n, vX6_allowCells_3 r1 a2 a3 Q n 0 μ
def vX6_filled (a1 : Int32) (a2 : Int32) (a3 : Int32) (a4 : Int32) (a5 : Int32) (a6 : Int32) (μ : gM) (Q : Int64 → gM → Prop) : Prop :=
  vX6_isSheet a1 (fun x489 => (x489 = 0 → (Q (-9223372036854775808) (up2 μ 31 10 0))) ∧ (¬ x489 = 0 → (vX6_isSort a2 (fun x491 => (x491 = 0 → (Q (-9223372036854775808) (up2 μ 31 10 0))) ∧ (¬ x491 = 0 → (vX6_isWithin a5 (0 : Int32) (9 : Int32) (fun x493 => (¬ x493 = 0 → (vp_in a1 4 ∧ vX4_faultOfCells a1.toNatClampNeg a2 a3 a4 (up2 μ 31 10 0) (fun x496 μ497 => (¬ ((up2 μ497 31 10 x496) 31 10) = 0 → (Q (-9223372036854775808) (up2 μ497 31 10 x496))) ∧ (((up2 μ497 31 10 x496) 31 10) = 0 → (vX6_isWithin a4 (1 : Int32) (8 : Int32) (fun x499 => (x499 = 0 → (Q (-9223372036854775808) (up2 μ497 31 10 x496))) ∧ (¬ x499 = 0 → (vp_in a1 4 ∧ vX6_areOpenOrThrows a1.toNatClampNeg a3 a4 (up2 μ497 31 10 x496) (fun x507 μ508 => (x507 = 0 → (Q (-9223372036854775808) μ508)) ∧ (¬ x507 = 0 → (vX6_isWithin a6 (-1 : Int32) (a4 - 1) (fun x510 => (¬ x510 = 0 → (vp_in a1 4 ∧ vX6_allowCells a1.toNatClampNeg a3 a4 μ508 (fun μ522 => vX0_count a4 a5 μ522 (fun x523 μ524 => (¬ a6 = (-1) → ((¬ x523 = 0 → (vX0_throwOfFirst a4 a5 a6 μ524 (fun x527 μ528 => Q x527.toInt64 μ528))) ∧ (x523 = 0 → (Q (-9223372036854775808) μ524)))) ∧ (a6 = (-1) → (Q x523.toInt64 μ524)))))) ∧ (x510 = 0 → (Q (-9223372036854775808) μ508)))))))))))))) ∧ (x493 = 0 → (Q (-9223372036854775808) (up2 μ 31 10 0))))))))))
def vX6_isKind (a0 : Int32)  (Q : Int32 → Prop) : Prop :=
  vX6_isWithin a0 (0 : Int32) (2 : Int32) (fun x531 => narrow .boolean (.int x531) = .int x531 ∧ Q x531 )
def vX6_kind (a1 : Int32) (a2 : Int32) (μ : gM) (Q : Int32 → gM → Prop) : Prop :=
  vX6_isBall a1 (fun x529 => (¬ x529 = 0 → (vX6_isKind a2 (fun x532 => (¬ x532 = 0 → (vX2_kindOf a1 μ (fun x534 μ535 => vX2_setKind a1 a2 μ535 (fun μ537 => Q x534 μ537)))) ∧ (x532 = 0 → (Q (-2) μ))))) ∧ (x529 = 0 → (Q (-1) μ)))
def vX6_broken_24B (Q : Int32 → gM → Prop) (K24 : Int32 → Int32 → gM → Prop) (v1 : Int32) (v2 : Int32) (μ : gM) : Prop :=
  (81 ≤ v2 → (Q v1 μ)) ∧ (¬ 81 ≤ v2 → (vX3_heightIn 0 v2 μ (fun x544 μ545 => vX1_pass v2 x544 μ545 (fun x546 μ547 => (x546 = (-9) → (K24 v1 (v2 + 1) μ547)) ∧ (¬ x546 = (-9) → (vX3_heightIn 0 v2 μ547 (fun x549 μ550 => vX2_mayGo x546 μ550 (fun x551 μ552 => (x549 ≤ x551 → (K24 v1 (v2 + 1) μ552)) ∧ (¬ x549 ≤ x551 → (K24 (v1 ||| ((1 : Int32) <<< (x546 &&& 31))) (v2 + 1) μ552))))))))))
def vX6_broken_24 (Q : Int32 → gM → Prop) : Nat → Int32 → Int32 → gM → Prop
  | 0, _, _, _ => False
  | n + 1, v1, v2, μ => vX6_broken_24B Q (vX6_broken_24 Q n) v1 v2 μ
def vX6_broken  (μ : gM) (Q : Int32 → gM → Prop) : Prop :=
  vX3_isGood 0 μ (fun x538 μ539 => (¬ x538 = 0 → (vX1_begin μ539 (fun μ542 => ∃ n, vX6_broken_24 Q n 0 0 μ542))) ∧ (x538 = 0 → (Q (-3) μ539)))
def vX6_drop (a1 : Int32) (μ : gM) (Q : Int32 → gM → Prop) : Prop :=
  vX6_isWithin a1 (0 : Int32) (1023 : Int32) (fun x554 => (¬ x554 = 0 → (vX3_isThere 0 μ (fun x556 μ557 => (¬ x556 = 0 → (Q (μ557 31 9) (up2 μ557 31 9 a1))) ∧ (x556 = 0 → (Q (-3) μ557))))) ∧ (x554 = 0 → (Q (-2) μ)))
def vX6_empty_38B (a1 : Int32) (Q : Int32 → gM → Prop) (K38 : Int32 → Int32 → gM → Prop) (v2 : Int32) (v3 : Int32) (μ : gM) : Prop :=
  (a1 < v3 → (Q v2 μ)) ∧ (¬ a1 < v3 → (vX3_heightIn 0 v3 μ (fun x567 μ568 => vX1_pass v3 x567 μ568 (fun x569 μ570 => (x569 = (-9) → (K38 v2 (v3 + 1) μ570)) ∧ (¬ x569 = (-9) → ((¬ (((μ570 31 9) >>> (x569 &&& 31)) &&& 1) = 1 → (K38 v2 (v3 + 1) μ570)) ∧ ((((μ570 31 9) >>> (x569 &&& 31)) &&& 1) = 1 → (K38 (v2 + 1) (v3 + 1) μ570))))))))
def vX6_empty_38 (a1 : Int32) (Q : Int32 → gM → Prop) : Nat → Int32 → Int32 → gM → Prop
  | 0, _, _, _ => False
  | n + 1, v2, v3, μ => vX6_empty_38B a1 Q (vX6_empty_38 a1 Q n) v2 v3 μ
def vX6_empty (a1 : Int32) (μ : gM) (Q : Int32 → gM → Prop) : Prop :=
  vX6_isWithin a1 (0 : Int32) (999 : Int32) (fun x559 => (¬ x559 = 0 → (vX3_isGood 0 μ (fun x561 μ562 => (¬ x561 = 0 → (vX1_begin μ562 (fun μ565 => ∃ n, vX6_empty_38 a1 Q n 0 0 μ565))) ∧ (x561 = 0 → (Q (-3) μ562))))) ∧ (x559 = 0 → (Q (-2) μ)))
def vX6_faulted (a1 : Int32) (μ : gM) (Q : Int32 → gM → Prop) : Prop :=
  Q ((-10) - a1) (up2 μ 31 10 a1)
def vX6_sheet (a1 : Int32) (a2 : Int32) (a3 : Int32) (μ : gM) (Q : Int32 → gM → Prop) : Prop :=
  vX6_isSheet a1 (fun x573 => (¬ x573 = 0 → (vX6_isSort a2 (fun x575 => (x575 = 0 → (Q (-2) (up2 μ 31 10 0))) ∧ (¬ x575 = 0 → ((a3 ≤ 40 → ((0 ≤ a3 → (vp_in a1 4 ∧ vX4_renew a1.toNatClampNeg a2 a3 (up2 μ 31 10 0) (fun μ581 => Q 1 μ581))) ∧ (¬ 0 ≤ a3 → (vX6_faulted (4 : Int32) (up2 μ 31 10 0) (fun x582 μ583 => Q x582 μ583))))) ∧ (¬ a3 ≤ 40 → (Q (-2) (up2 μ 31 10 0)))))))) ∧ (x573 = 0 → (Q (-1) (up2 μ 31 10 0))))
def vX6_lose (a1 : Int32) (μ : gM) (Q : Int32 → gM → Prop) : Prop :=
  vX6_isSheet a1 (fun x584 => (¬ x584 = 0 → (vp_in a1 4 ∧ vX4_clear a1.toNatClampNeg μ (fun x587 μ588 => (x587 = 0 → (Q 0 μ588)) ∧ (¬ x587 = 0 → (Q 1 μ588))))) ∧ (x584 = 0 → (Q (-1) μ)))
def vX6_put (a1 : Int32) (a2 : Int32) (a3 : Int32) (μ : gM) (Q : Int32 → gM → Prop) : Prop :=
  vX6_isSheet a1 (fun x590 => (¬ x590 = 0 → (vp_in a1 4 ∧ vX4_isThere a1.toNatClampNeg (up2 μ 31 10 0) (fun x593 μ594 => (¬ x593 = 0 → (vp_in a1 4 ∧ vX4_holds a1.toNatClampNeg a2 (1 : Int32) μ594 (fun x597 μ598 => (¬ x597 = 0 → (vp_in a1 4 ∧ vX4_write a1.toNatClampNeg a2 a3 μ598 (fun μ602 => Q 1 μ602))) ∧ (x597 = 0 → (vX6_faulted (3 : Int32) μ598 (fun x603 μ604 => Q x603 μ604)))))) ∧ (x593 = 0 → (vX6_faulted (1 : Int32) μ594 (fun x605 μ606 => Q x605 μ606)))))) ∧ (x590 = 0 → (Q (-1) (up2 μ 31 10 0))))
def vX6_cell (a1 : Int32) (a2 : Int32) (a3 : Int32) (μ : gM) (Q : Int64 → gM → Prop) : Prop :=
  vX6_isSheet a1 (fun x607 => (x607 = 0 → (Q (-9223372036854775808) (up2 μ 31 10 0))) ∧ (¬ x607 = 0 → (vX6_isSort a3 (fun x609 => (¬ x609 = 0 → (vp_in a1 4 ∧ vX4_faultOfCells a1.toNatClampNeg a3 a2 (1 : Int32) (up2 μ 31 10 0) (fun x612 μ613 => (((up2 μ613 31 10 x612) 31 10) = 0 → (vp_in a1 4 ∧ vX4_read a1.toNatClampNeg a2 (up2 μ613 31 10 x612) (fun x616 μ617 => Q x616.toInt64 μ617))) ∧ (¬ ((up2 μ613 31 10 x612) 31 10) = 0 → (Q (-9223372036854775808) (up2 μ613 31 10 x612)))))) ∧ (x609 = 0 → (Q (-9223372036854775808) (up2 μ 31 10 0)))))))
def vX6_copy (a1 : Int32) (a2 : Int32) (a3 : Int32) (a4 : Int32) (a5 : Int32) (μ : gM) (Q : Int32 → gM → Prop) : Prop :=
  vX6_isSheet a1 (fun x618 => (x618 = 0 → (Q (-1) (up2 μ 31 10 0))) ∧ (¬ x618 = 0 → (vX6_isSheet a3 (fun x620 => (¬ x620 = 0 → (vp_in a1 4 ∧ vp_in a3 4 ∧ vX4_isThere a1.toNatClampNeg (up2 μ 31 10 0) (fun x624 μ625 => (x624 = 0 → (vX6_faulted (1 : Int32) μ625 (fun x627 μ628 => Q x627 μ628))) ∧ (¬ x624 = 0 → (vX4_isThere a3.toNatClampNeg μ625 (fun x629 μ630 => (¬ x629 = 0 → (((μ630 (10 + a1.toNatClampNeg) 2) = (μ630 (10 + a3.toNatClampNeg) 2) → ((a5 < 0 → (vX6_faulted (3 : Int32) μ630 (fun x634 μ635 => Q x634 μ635))) ∧ (¬ a5 < 0 → (vX4_holds a1.toNatClampNeg a2 a5 μ630 (fun x636 μ637 => (x636 = 0 → (vX6_faulted (3 : Int32) μ637 (fun x639 μ640 => Q x639 μ640))) ∧ (¬ x636 = 0 → (vX4_holds a3.toNatClampNeg a4 a5 μ637 (fun x641 μ642 => (¬ x641 = 0 → ((¬ a2 < 0 ∧ ¬ a4 < 0 ∧ ¬ a5 < 0 ∧ a2.toNatClampNeg + a5.toNatClampNeg ≤ 40 ∧ a4.toNatClampNeg + a5.toNatClampNeg ≤ 40) ∧ Q a5 (cp2 μ642 (14 + a1.toNatClampNeg) (14 + a3.toNatClampNeg) a2.toNatClampNeg a4.toNatClampNeg a5.toNatClampNeg))) ∧ (x641 = 0 → (vX6_faulted (3 : Int32) μ642 (fun x644 μ645 => Q x644 μ645))))))))))) ∧ (¬ (μ630 (10 + a1.toNatClampNeg) 2) = (μ630 (10 + a3.toNatClampNeg) 2) → (vX6_faulted (2 : Int32) μ630 (fun x646 μ647 => Q x646 μ647))))) ∧ (x629 = 0 → (vX6_faulted (1 : Int32) μ630 (fun x648 μ649 => Q x648 μ649))))))))) ∧ (x620 = 0 → (Q (-1) (up2 μ 31 10 0)))))))
def vX6_tell (a1 : Int32) (μ : gM) (Q : Int32 → gM → Prop) : Prop :=
  vX6_isBall a1 (fun x650 => (x650 = 0 → (Q (-1) μ)) ∧ (¬ x650 = 0 → (vX2_telling a1 μ (fun x652 μ653 => Q x652 μ653))))
def vX6_call (a1 : Int32) (μ : gM) (Q : Int32 → gM → Prop) : Prop :=
  vX6_isBall a1 (fun x654 => (x654 = 0 → (Q (-1) μ)) ∧ (¬ x654 = 0 → (vX2_calling a1 μ (fun x656 μ657 => Q x656 μ657))))
def vX6_as (a1 : Int32) (a2 : Int32) (μ : gM) (Q : Int32 → gM → Prop) : Prop :=
  vX6_isBall a1 (fun x658 => (¬ x658 = 0 → (vX6_isKind a2 (fun x660 => (¬ x660 = 0 → (vX2_kindOf a1 (up2 μ 31 10 0) (fun x662 μ663 => (x662 < a2 → (vX6_faulted (2 : Int32) μ663 (fun x665 μ666 => Q x665 μ666))) ∧ (¬ x662 < a2 → (Q 1 μ663))))) ∧ (x660 = 0 → (Q (-2) (up2 μ 31 10 0)))))) ∧ (x658 = 0 → (Q (-1) (up2 μ 31 10 0))))
def vX6_trace  (μ : gM) (Q : Int32 → gM → Prop) : Prop :=
  Q (μ 20 1) μ
def vX6_fault  (μ : gM) (Q : Int32 → gM → Prop) : Prop :=
  Q (μ 31 10) μ
def vX6_imageCount_4B (Q : Int32 → gM → Prop) (K4 : Int32 → Int32 → gM → Prop) (v1 : Int32) (v2 : Int32) (μ : gM) : Prop :=
  (3 ≤ v2 → (Q v1 μ)) ∧ (¬ 3 ≤ v2 → (vp_in v2 3 ∧ vX3_isThere (2 + v2.toNatClampNeg) μ (fun x675 μ676 => (x675 = 0 → (K4 v1 (v2 + 1) μ676)) ∧ (¬ x675 = 0 → (K4 (v1 + 1) (v2 + 1) μ676)))))
def vX6_imageCount_4 (Q : Int32 → gM → Prop) : Nat → Int32 → Int32 → gM → Prop
  | 0, _, _, _ => False
  | n + 1, v1, v2, μ => vX6_imageCount_4B Q (vX6_imageCount_4 Q n) v1 v2 μ
def vX6_imageCount  (μ : gM) (Q : Int32 → gM → Prop) : Prop :=
  ∃ n, vX6_imageCount_4 Q n 0 0 μ
def vX6_many (a1 : Int32) (μ : gM) (Q : Int32 → gM → Prop) : Prop :=
  (a1 = 0 → (Q (μ 0 1) μ)) ∧ (¬ a1 = 0 → ((a1 = 1 → (vX3_isThere 0 μ (fun x669 μ670 => (x669 = 0 → (Q 0 μ670)) ∧ (¬ x669 = 0 → (Q (μ670 31 8) μ670))))) ∧ (¬ a1 = 1 → ((a1 = 2 → (vX6_imageCount μ (fun x678 μ679 => Q x678 μ679))) ∧ (¬ a1 = 2 → (Q (-2) μ))))))
def vX7_fails (a1 : Int32) (ν : gM) (τ : gJ) (Q : Int32 → gM → gJ → Prop) : Prop :=
  Q ((-10) - a1) (up2 ν 32 0 a1) τ
def vX7_lost (a1 : Int32) (ν : gM) (τ : gJ) (Q : Int64 → gM → gJ → Prop) : Prop :=
  Q (-9223372036854775808) (up2 ν 32 0 a1) τ
def vX7_within (a0 : Int32) (a1 : Int32) (a2 : Int32)  (Q : Int32 → Prop) : Prop :=
  (a0 < a1 → (Q 0)) ∧ (¬ a0 < a1 → ((a2 < a0 → (Q 0)) ∧ (¬ a2 < a0 → (Q 1))))
def vX7_isSheet (a0 : Int32)  (Q : Int32 → Prop) : Prop :=
  vX7_within a0 (0 : Int32) (3 : Int32) (fun x682 => narrow .boolean (.int x682) = .int x682 ∧ Q x682 )
def vX7_isSort (a0 : Int32)  (Q : Int32 → Prop) : Prop :=
  vX7_within a0 (0 : Int32) (2 : Int32) (fun x683 => narrow .boolean (.int x683) = .int x683 ∧ Q x683 )
def vX7_against_23 (a1 : Int32) (a2 : Int32) (a3 : Int32) (a4 : Int32) (Q : Int32 → gM → gJ → Prop)  (ν : gM) (τ : gJ) : Prop :=
  vp_in a1 4 ∧ (¬ (ν 33 a1.toNatClampNeg) = (-9) → ((0 ≤ a4 → ((a3 < 0 → (Q 3 ν τ)) ∧ (¬ a3 < 0 → (vp_in a1 4 ∧ ((ν 34 a1.toNatClampNeg) < a3 → (Q 3 ν τ)) ∧ (¬ (ν 34 a1.toNatClampNeg) < a3 → (vp_in a1 4 ∧ (a4 ≤ ((ν 34 a1.toNatClampNeg) - a3) → (Q 0 ν τ)) ∧ (¬ a4 ≤ ((ν 34 a1.toNatClampNeg) - a3) → (Q 3 ν τ)))))))) ∧ (¬ 0 ≤ a4 → (Q 4 ν τ)))) ∧ ((ν 33 a1.toNatClampNeg) = (-9) → (Q 1 ν τ))
def vX7_against (a1 : Int32) (a2 : Int32) (a3 : Int32) (a4 : Int32) (ν : gM) (τ : gJ) (Q : Int32 → gM → gJ → Prop) : Prop :=
  vp_in a1 4 ∧ ((ν 33 a1.toNatClampNeg) = (-9) → (vX7_against_23 a1 a2 a3 a4 Q ν τ)) ∧ (¬ (ν 33 a1.toNatClampNeg) = (-9) → (vp_in a1 4 ∧ ((ν 33 a1.toNatClampNeg) = a2 → (vX7_against_23 a1 a2 a3 a4 Q ν τ)) ∧ (¬ (ν 33 a1.toNatClampNeg) = a2 → (Q 2 ν τ))))
def vX7_isBeat (a1 : Int32) (ν : gM) (τ : gJ) (Q : Int32 → gM → gJ → Prop) : Prop :=
  (a1 < 0 → (Q 0 ν τ)) ∧ (¬ a1 < 0 → (((ν 32 5) ≤ a1 → (Q 0 ν τ)) ∧ (¬ (ν 32 5) ≤ a1 → (Q 1 ν τ))))
def vX7_pattern_171B (a1 : Int32) (a2 : Int32) (a3 : Int32) (a4 : Int32) (Q : Int32 → gM → gJ → Prop) (K171 : Int32 → Int32 → gM → gJ → Prop) (v7 : Int32) (v8 : Int32) (ν : gM) (τ : gJ) : Prop :=
  (10 ≤ v8 → (Q v7 ν τ)) ∧ (¬ 10 ≤ v8 → (vp_in v8 10 ∧ K171 v7 (v8 + 1) (up2 ν 37 v8.toNatClampNeg 0) τ))
def vX7_pattern_171 (a1 : Int32) (a2 : Int32) (a3 : Int32) (a4 : Int32) (Q : Int32 → gM → gJ → Prop) : Nat → Int32 → Int32 → gM → gJ → Prop
  | 0, _, _, _, _ => False
  | n + 1, v7, v8, ν, τ => vX7_pattern_171B a1 a2 a3 a4 Q (vX7_pattern_171 a1 a2 a3 a4 Q n) v7 v8 ν τ
def vX7_pattern_125B (a1 : Int32) (a2 : Int32) (a3 : Int32) (a4 : Int32) (Q : Int32 → gM → gJ → Prop) (K125 : Int32 → Int32 → Int32 → gM → gJ → Prop) (v6 : Int32) (v7 : Int32) (v8 : Int32) (ν : gM) (τ : gJ) : Prop :=
  (v7 ≤ v8 → (∃ n, vX7_pattern_171 a1 a2 a3 a4 Q n v7 0 (up2 (up2 ν 32 7 2) 32 9 0) τ)) ∧ (¬ v7 ≤ v8 → (vp_in (v6 + v8) 160 ∧ vp_in v8 8 ∧ K125 v6 v7 (v8 + 1) (up2 ν 36 v8.toNatClampNeg ((ν 35 (v6 + v8).toNatClampNeg) - 48)) τ))
def vX7_pattern_125 (a1 : Int32) (a2 : Int32) (a3 : Int32) (a4 : Int32) (Q : Int32 → gM → gJ → Prop) : Nat → Int32 → Int32 → Int32 → gM → gJ → Prop
  | 0, _, _, _, _, _ => False
  | n + 1, v6, v7, v8, ν, τ => vX7_pattern_125B a1 a2 a3 a4 Q (vX7_pattern_125 a1 a2 a3 a4 Q n) v6 v7 v8 ν τ
def vX7_pattern_58B (a1 : Int32) (a2 : Int32) (a3 : Int32) (a4 : Int32) (Q : Int32 → gM → gJ → Prop) (K58 : Int32 → Int32 → gM → gJ → Prop) (v6 : Int32) (v7 : Int32) (ν : gM) (τ : gJ) : Prop :=
  (a4 ≤ v7 → ((v7 < a4 → (Q ((-100) - v7) ν τ)) ∧ (¬ v7 < a4 → ((¬ v7 = 0 → (∃ n, vX7_pattern_125 a1 a2 a3 a4 Q n v6 v7 0 (up2 ν 32 5 v7) τ)) ∧ (v7 = 0 → (Q ((-100) - v7) ν τ)))))) ∧ (¬ a4 ≤ v7 → ((8 ≤ v7 → ((v7 < a4 → (Q ((-100) - v7) ν τ)) ∧ (¬ v7 < a4 → ((¬ v7 = 0 → (∃ n, vX7_pattern_125 a1 a2 a3 a4 Q n v6 v7 0 (up2 ν 32 5 v7) τ)) ∧ (v7 = 0 → (Q ((-100) - v7) ν τ)))))) ∧ (¬ 8 ≤ v7 → (vp_in (v6 + v7) 160 ∧ vX7_within (ν 35 (v6 + v7).toNatClampNeg) (48 : Int32) (57 : Int32) (fun x716 => (x716 = 0 → ((v7 < a4 → (Q ((-100) - v7) ν τ)) ∧ (¬ v7 < a4 → ((¬ v7 = 0 → (∃ n, vX7_pattern_125 a1 a2 a3 a4 Q n v6 v7 0 (up2 ν 32 5 v7) τ)) ∧ (v7 = 0 → (Q ((-100) - v7) ν τ)))))) ∧ (¬ x716 = 0 → (K58 v6 (v7 + 1) ν τ)))))))
def vX7_pattern_58 (a1 : Int32) (a2 : Int32) (a3 : Int32) (a4 : Int32) (Q : Int32 → gM → gJ → Prop) : Nat → Int32 → Int32 → gM → gJ → Prop
  | 0, _, _, _, _ => False
  | n + 1, v6, v7, ν, τ => vX7_pattern_58B a1 a2 a3 a4 Q (vX7_pattern_58 a1 a2 a3 a4 Q n) v6 v7 ν τ
def vX7_pattern (a1 : Int32) (a2 : Int32) (a3 : Int32) (a4 : Int32) (ν : gM) (τ : gJ) (Q : Int32 → gM → gJ → Prop) : Prop :=
  vX7_isSheet a1 (fun x698 => (¬ x698 = 0 → (vX7_isSort a2 (fun x700 => (¬ x700 = 0 → (vX7_against a1 a2 a3 a4 (up2 ν 32 0 0) τ (fun x702 ν703 τ704 => (x702 = 0 → (∃ n, vX7_pattern_58 a1 a2 a3 a4 Q n ((40 * a1) + a3) 0 ν703 τ704)) ∧ (¬ x702 = 0 → (vX7_fails x702 ν703 τ704 (fun x706 ν707 τ708 => Q x706 ν707 τ708)))))) ∧ (x700 = 0 → (Q (-2) (up2 ν 32 0 0) τ))))) ∧ (x698 = 0 → (Q (-1) (up2 ν 32 0 0) τ)))
def vX7_throwOf (a1 : Int32) (ν : gM) (τ : gJ) (Q : Int32 → gM → gJ → Prop) : Prop :=
  vX7_isBeat a1 ν τ (fun x725 ν726 τ727 => (x725 = 0 → (Q (-1) ν726 τ727)) ∧ (¬ x725 = 0 → (vp_in a1 8 ∧ Q (ν726 36 a1.toNatClampNeg) ν726 τ727)))
def vX7_landsIn (a1 : Int32) (ν : gM) (τ : gJ) (Q : Int32 → gM → gJ → Prop) : Prop :=
  vp_in a1 8 ∧ ¬ (ν 32 5) = 0 ∧ Q ((a1 + (ν 36 a1.toNatClampNeg)) - (a1 + (ν 36 a1.toNatClampNeg)) / (ν 32 5) * (ν 32 5)) ν τ
def vX7_findClash_14B (Q : Int32 → gM → gJ → Prop) (K2 : Int32 → gM → gJ → Prop) (K14 : Int32 → Int32 → gM → gJ → Prop) (v1 : Int32) (v2 : Int32) (ν : gM) (τ : gJ) : Prop :=
  ((ν 32 5) ≤ v2 → (K2 (v1 + 1) ν τ)) ∧ (¬ (ν 32 5) ≤ v2 → (vX7_landsIn v1 ν τ (fun x733 ν734 τ735 => vX7_landsIn v2 ν734 τ735 (fun x736 ν737 τ738 => (¬ x733 = x736 → (K14 v1 (v2 + 1) ν737 τ738)) ∧ (x733 = x736 → (Q ((10 * v1) + v2) ν737 τ738))))))
def vX7_findClash_14 (Q : Int32 → gM → gJ → Prop) (K2 : Int32 → gM → gJ → Prop) : Nat → Int32 → Int32 → gM → gJ → Prop
  | 0, _, _, _, _ => False
  | n + 1, v1, v2, ν, τ => vX7_findClash_14B Q K2 (vX7_findClash_14 Q K2 n) v1 v2 ν τ
def vX7_findClash_2B (Q : Int32 → gM → gJ → Prop) (K2 : Int32 → gM → gJ → Prop) (v1 : Int32) (ν : gM) (τ : gJ) : Prop :=
  ((ν 32 5) ≤ v1 → (Q (-9) ν τ)) ∧ (¬ (ν 32 5) ≤ v1 → (∃ n, vX7_findClash_14 Q K2 n v1 (v1 + 1) ν τ))
def vX7_findClash_2 (Q : Int32 → gM → gJ → Prop) : Nat → Int32 → gM → gJ → Prop
  | 0, _, _, _ => False
  | n + 1, v1, ν, τ => vX7_findClash_2B Q (vX7_findClash_2 Q n) v1 ν τ
def vX7_findClash  (ν : gM) (τ : gJ) (Q : Int32 → gM → gJ → Prop) : Prop :=
  ∃ n, vX7_findClash_2 Q n 0 ν τ
def vX7_clash  (ν : gM) (τ : gJ) (Q : Int32 → gM → gJ → Prop) : Prop :=
  (¬ (ν 32 5) = 0 → (vX7_findClash ν τ (fun x741 ν742 τ743 => Q x741 ν742 τ743))) ∧ ((ν 32 5) = 0 → (Q (-3) ν τ))
def vX7_isGood  (ν : gM) (τ : gJ) (Q : Int32 → gM → gJ → Prop) : Prop :=
  ((ν 32 5) ≤ 0 → (Q 0 ν τ)) ∧ (¬ (ν 32 5) ≤ 0 → (vX7_findClash ν τ (fun x745 ν746 τ747 => (¬ x745 = (-9) → (Q 0 ν746 τ747)) ∧ (x745 = (-9) → (Q 1 ν746 τ747)))))
def vX7_balls_4B (Q : Int32 → gM → gJ → Prop) (K4 : Int32 → Int32 → gM → gJ → Prop) (v1 : Int32) (v2 : Int32) (ν : gM) (τ : gJ) : Prop :=
  ((ν 32 5) ≤ v2 → (¬ (ν 32 5) = 0 ∧ Q (v1 / (ν 32 5)) ν τ)) ∧ (¬ (ν 32 5) ≤ v2 → (vp_in v2 8 ∧ K4 (v1 + (ν 36 v2.toNatClampNeg)) (v2 + 1) ν τ))
def vX7_balls_4 (Q : Int32 → gM → gJ → Prop) : Nat → Int32 → Int32 → gM → gJ → Prop
  | 0, _, _, _, _ => False
  | n + 1, v1, v2, ν, τ => vX7_balls_4B Q (vX7_balls_4 Q n) v1 v2 ν τ
def vX7_balls  (ν : gM) (τ : gJ) (Q : Int32 → gM → gJ → Prop) : Prop :=
  ∃ n, vX7_balls_4 Q n 0 0 ν τ
def vX7_stateAhead_4B (a1 : Int32) (Q : Int32 → gM → gJ → Prop) (K4 : Int32 → Int32 → gM → gJ → Prop) (v2 : Int32) (v3 : Int32) (ν : gM) (τ : gJ) : Prop :=
  (9 < v3 → (Q v2 ν τ)) ∧ (¬ 9 < v3 → (¬ (ν 32 5) = 0 ∧ ¬ (ν 32 5) = 0 ∧ vp_in ((((a1 - v3) - (a1 - v3) / (ν 32 5) * (ν 32 5)) + (ν 32 5)) - (((a1 - v3) - (a1 - v3) / (ν 32 5) * (ν 32 5)) + (ν 32 5)) / (ν 32 5) * (ν 32 5)) 8 ∧ ((ν 36 ((((a1 - v3) - (a1 - v3) / (ν 32 5) * (ν 32 5)) + (ν 32 5)) - (((a1 - v3) - (a1 - v3) / (ν 32 5) * (ν 32 5)) + (ν 32 5)) / (ν 32 5) * (ν 32 5)).toNatClampNeg) < v3 → (K4 (v2 ||| 0) (v3 + 1) ν τ)) ∧ (¬ (ν 36 ((((a1 - v3) - (a1 - v3) / (ν 32 5) * (ν 32 5)) + (ν 32 5)) - (((a1 - v3) - (a1 - v3) / (ν 32 5) * (ν 32 5)) + (ν 32 5)) / (ν 32 5) * (ν 32 5)).toNatClampNeg) < v3 → (K4 (v2 ||| ((1 : Int32) <<< (((ν 36 ((((a1 - v3) - (a1 - v3) / (ν 32 5) * (ν 32 5)) + (ν 32 5)) - (((a1 - v3) - (a1 - v3) / (ν 32 5) * (ν 32 5)) + (ν 32 5)) / (ν 32 5) * (ν 32 5)).toNatClampNeg) - v3) &&& 31))) (v3 + 1) ν τ))))
def vX7_stateAhead_4 (a1 : Int32) (Q : Int32 → gM → gJ → Prop) : Nat → Int32 → Int32 → gM → gJ → Prop
  | 0, _, _, _, _ => False
  | n + 1, v2, v3, ν, τ => vX7_stateAhead_4B a1 Q (vX7_stateAhead_4 a1 Q n) v2 v3 ν τ
def vX7_stateAhead (a1 : Int32) (ν : gM) (τ : gJ) (Q : Int32 → gM → gJ → Prop) : Prop :=
  ∃ n, vX7_stateAhead_4 a1 Q n 0 1 ν τ
def vX7_isPrime_14B (Q : Int32 → gM → gJ → Prop) (K2 : Int32 → gM → gJ → Prop) (K14 : Int32 → Int32 → gM → gJ → Prop) (v1 : Int32) (v2 : Int32) (ν : gM) (τ : gJ) : Prop :=
  ((ν 32 5) ≤ v2 → (K2 (v1 + 1) ν τ)) ∧ (¬ (ν 32 5) ≤ v2 → (vX7_stateAhead v1 ν τ (fun x756 ν757 τ758 => vX7_stateAhead v2 ν757 τ758 (fun x759 ν760 τ761 => (¬ x756 = x759 → (K14 v1 (v2 + 1) ν760 τ761)) ∧ (x756 = x759 → (Q 0 ν760 τ761))))))
def vX7_isPrime_14 (Q : Int32 → gM → gJ → Prop) (K2 : Int32 → gM → gJ → Prop) : Nat → Int32 → Int32 → gM → gJ → Prop
  | 0, _, _, _, _ => False
  | n + 1, v1, v2, ν, τ => vX7_isPrime_14B Q K2 (vX7_isPrime_14 Q K2 n) v1 v2 ν τ
def vX7_isPrime_2B (Q : Int32 → gM → gJ → Prop) (K2 : Int32 → gM → gJ → Prop) (v1 : Int32) (ν : gM) (τ : gJ) : Prop :=
  ((ν 32 5) ≤ v1 → (Q 1 ν τ)) ∧ (¬ (ν 32 5) ≤ v1 → (∃ n, vX7_isPrime_14 Q K2 n v1 (v1 + 1) ν τ))
def vX7_isPrime_2 (Q : Int32 → gM → gJ → Prop) : Nat → Int32 → gM → gJ → Prop
  | 0, _, _, _ => False
  | n + 1, v1, ν, τ => vX7_isPrime_2B Q (vX7_isPrime_2 Q n) v1 ν τ
def vX7_isPrime  (ν : gM) (τ : gJ) (Q : Int32 → gM → gJ → Prop) : Prop :=
  ∃ n, vX7_isPrime_2 Q n 0 ν τ
def vX7_isGround_2B (Q : Int32 → gM → gJ → Prop) (K2 : Int32 → gM → gJ → Prop) (v1 : Int32) (ν : gM) (τ : gJ) : Prop :=
  ((ν 32 5) ≤ v1 → (Q 0 ν τ)) ∧ (¬ (ν 32 5) ≤ v1 → (vX7_stateAhead v1 ν τ (fun x764 ν765 τ766 => vX7_balls ν765 τ766 (fun x767 ν768 τ769 => (¬ x764 = (((1 : Int32) <<< (x767 &&& 31)) - 1) → (K2 (v1 + 1) ν768 τ769)) ∧ (x764 = (((1 : Int32) <<< (x767 &&& 31)) - 1) → (Q 1 ν768 τ769))))))
def vX7_isGround_2 (Q : Int32 → gM → gJ → Prop) : Nat → Int32 → gM → gJ → Prop
  | 0, _, _, _ => False
  | n + 1, v1, ν, τ => vX7_isGround_2B Q (vX7_isGround_2 Q n) v1 ν τ
def vX7_isGround  (ν : gM) (τ : gJ) (Q : Int32 → gM → gJ → Prop) : Prop :=
  ∃ n, vX7_isGround_2 Q n 0 ν τ
def vX7_findOrbits_49B (Q : Int32 → gM → gJ → Prop) (K28 : Int32 → Int32 → gM → gJ → Prop) (K49 : Int32 → Int32 → Int32 → gM → gJ → Prop) (v1 : Int32) (v2 : Int32) (v3 : Int32) (ν : gM) (τ : gJ) : Prop :=
  vp_in v3 8 ∧ (¬ (ν 38 v3.toNatClampNeg) = (-9) → (K28 (v1 + 1) (v2 + 1) ν τ)) ∧ ((ν 38 v3.toNatClampNeg) = (-9) → (vp_in v3 8 ∧ vX7_landsIn v3 (up2 ν 38 v3.toNatClampNeg v1) τ (fun x779 ν780 τ781 => K49 v1 v2 x779 ν780 τ781)))
def vX7_findOrbits_49 (Q : Int32 → gM → gJ → Prop) (K28 : Int32 → Int32 → gM → gJ → Prop) : Nat → Int32 → Int32 → Int32 → gM → gJ → Prop
  | 0, _, _, _, _, _ => False
  | n + 1, v1, v2, v3, ν, τ => vX7_findOrbits_49B Q K28 (vX7_findOrbits_49 Q K28 n) v1 v2 v3 ν τ
def vX7_findOrbits_28B (Q : Int32 → gM → gJ → Prop) (K28 : Int32 → Int32 → gM → gJ → Prop) (v1 : Int32) (v2 : Int32) (ν : gM) (τ : gJ) : Prop :=
  ((ν 32 5) ≤ v2 → (Q v1 ν τ)) ∧ (¬ (ν 32 5) ≤ v2 → (vp_in v2 8 ∧ (¬ (ν 38 v2.toNatClampNeg) = (-9) → (K28 v1 (v2 + 1) ν τ)) ∧ ((ν 38 v2.toNatClampNeg) = (-9) → (∃ n, vX7_findOrbits_49 Q K28 n v1 v2 v2 ν τ))))
def vX7_findOrbits_28 (Q : Int32 → gM → gJ → Prop) : Nat → Int32 → Int32 → gM → gJ → Prop
  | 0, _, _, _, _ => False
  | n + 1, v1, v2, ν, τ => vX7_findOrbits_28B Q (vX7_findOrbits_28 Q n) v1 v2 ν τ
def vX7_findOrbits_2B (Q : Int32 → gM → gJ → Prop) (K2 : Int32 → gM → gJ → Prop) (v1 : Int32) (ν : gM) (τ : gJ) : Prop :=
  ((ν 32 5) ≤ v1 → (∃ n, vX7_findOrbits_28 Q n 0 0 ν τ)) ∧ (¬ (ν 32 5) ≤ v1 → (vp_in v1 8 ∧ K2 (v1 + 1) (up2 ν 38 v1.toNatClampNeg (-9)) τ))
def vX7_findOrbits_2 (Q : Int32 → gM → gJ → Prop) : Nat → Int32 → gM → gJ → Prop
  | 0, _, _, _ => False
  | n + 1, v1, ν, τ => vX7_findOrbits_2B Q (vX7_findOrbits_2 Q n) v1 ν τ
def vX7_findOrbits  (ν : gM) (τ : gJ) (Q : Int32 → gM → gJ → Prop) : Prop :=
  ∃ n, vX7_findOrbits_2 Q n 0 ν τ
def vX7_greatestThrow_4B (Q : Int32 → gM → gJ → Prop) (K4 : Int32 → Int32 → gM → gJ → Prop) (v1 : Int32) (v2 : Int32) (ν : gM) (τ : gJ) : Prop :=
  ((ν 32 5) ≤ v2 → (Q v1 ν τ)) ∧ (¬ (ν 32 5) ≤ v2 → (vp_in v2 8 ∧ ((ν 36 v2.toNatClampNeg) ≤ v1 → (K4 v1 (v2 + 1) ν τ)) ∧ (¬ (ν 36 v2.toNatClampNeg) ≤ v1 → (vp_in v2 8 ∧ K4 (ν 36 v2.toNatClampNeg) (v2 + 1) ν τ))))
def vX7_greatestThrow_4 (Q : Int32 → gM → gJ → Prop) : Nat → Int32 → Int32 → gM → gJ → Prop
  | 0, _, _, _, _ => False
  | n + 1, v1, v2, ν, τ => vX7_greatestThrow_4B Q (vX7_greatestThrow_4 Q n) v1 v2 ν τ
def vX7_greatestThrow  (ν : gM) (τ : gJ) (Q : Int32 → gM → gJ → Prop) : Prop :=
  ∃ n, vX7_greatestThrow_4 Q n 0 0 ν τ
def vX7_good (a1 : Int32) (ν : gM) (τ : gJ) (Q : Int32 → gM → gJ → Prop) : Prop :=
  vX7_within a1 (0 : Int32) (4 : Int32) (fun x786 => (¬ x786 = 0 → (vX7_isGood ν τ (fun x788 ν789 τ790 => (¬ x788 = 0 → ((a1 = 0 → (vX7_balls ν789 τ790 (fun x793 ν794 τ795 => Q x793 ν794 τ795))) ∧ (¬ a1 = 0 → ((a1 = 1 → (vX7_greatestThrow ν789 τ790 (fun x797 ν798 τ799 => Q x797 ν798 τ799))) ∧ (¬ a1 = 1 → ((a1 = 2 → (vX7_isPrime ν789 τ790 (fun x801 ν802 τ803 => (x801 = 0 → (Q 0 ν802 τ803)) ∧ (¬ x801 = 0 → (Q 1 ν802 τ803))))) ∧ (¬ a1 = 2 → ((a1 = 3 → (vX7_isGround ν789 τ790 (fun x806 ν807 τ808 => (x806 = 0 → (Q 0 ν807 τ808)) ∧ (¬ x806 = 0 → (Q 1 ν807 τ808))))) ∧ (¬ a1 = 3 → (vX7_findOrbits ν789 τ790 (fun x810 ν811 τ812 => Q x810 ν811 τ812))))))))))) ∧ (x788 = 0 → (Q (-3) ν789 τ790))))) ∧ (x786 = 0 → (Q (-2) ν τ)))
def vX7_state (a1 : Int32) (ν : gM) (τ : gJ) (Q : Int32 → gM → gJ → Prop) : Prop :=
  vX7_isBeat a1 ν τ (fun x813 ν814 τ815 => (¬ x813 = 0 → (vX7_isGood ν814 τ815 (fun x817 ν818 τ819 => (x817 = 0 → (Q (-3) ν818 τ819)) ∧ (¬ x817 = 0 → (vX7_stateAhead a1 ν818 τ819 (fun x821 ν822 τ823 => Q x821 ν822 τ823)))))) ∧ (x813 = 0 → (Q (-1) ν814 τ815)))
def vX7_layBalls_27B (Q : gM → gJ → Prop) (K27 : Int32 → Int32 → gM → gJ → Prop) (v1 : Int32) (v2 : Int32) (ν : gM) (τ : gJ) : Prop :=
  (999 < v2 → (Q ν τ)) ∧ (¬ 999 < v2 → (¬ (ν 32 5) = 0 ∧ vp_in (v2 - v2 / (ν 32 5) * (ν 32 5)) 8 ∧ ((ν 36 (v2 - v2 / (ν 32 5) * (ν 32 5)).toNatClampNeg) ≤ 0 → (K27 v1 (v2 + 1) ν τ)) ∧ (¬ (ν 36 (v2 - v2 / (ν 32 5) * (ν 32 5)).toNatClampNeg) ≤ 0 → (vp_in v2 1010 ∧ (¬ (ν 39 v2.toNatClampNeg) = (-9) → (vp_in v2 1010 ∧ vp_in (v2 + (ν 36 (v2 - v2 / (ν 32 5) * (ν 32 5)).toNatClampNeg)) 1010 ∧ K27 v1 (v2 + 1) (up2 ν 39 (v2 + (ν 36 (v2 - v2 / (ν 32 5) * (ν 32 5)).toNatClampNeg)).toNatClampNeg (ν 39 v2.toNatClampNeg)) τ)) ∧ ((ν 39 v2.toNatClampNeg) = (-9) → (vp_in v2 1010 ∧ vp_in v2 1010 ∧ vp_in (v2 + (ν 36 (v2 - v2 / (ν 32 5) * (ν 32 5)).toNatClampNeg)) 1010 ∧ K27 (v1 + 1) (v2 + 1) (up2 (up2 ν 39 v2.toNatClampNeg v1) 39 (v2 + (ν 36 (v2 - v2 / (ν 32 5) * (ν 32 5)).toNatClampNeg)).toNatClampNeg ((up2 ν 39 v2.toNatClampNeg v1) 39 v2.toNatClampNeg)) τ))))))
def vX7_layBalls_27 (Q : gM → gJ → Prop) : Nat → Int32 → Int32 → gM → gJ → Prop
  | 0, _, _, _, _ => False
  | n + 1, v1, v2, ν, τ => vX7_layBalls_27B Q (vX7_layBalls_27 Q n) v1 v2 ν τ
def vX7_layBalls_2B (Q : gM → gJ → Prop) (K2 : Int32 → gM → gJ → Prop) (v1 : Int32) (ν : gM) (τ : gJ) : Prop :=
  (1010 ≤ v1 → (∃ n, vX7_layBalls_27 Q n 0 0 ν τ)) ∧ (¬ 1010 ≤ v1 → (vp_in v1 1010 ∧ K2 (v1 + 1) (up2 ν 39 v1.toNatClampNeg (-9)) τ))
def vX7_layBalls_2 (Q : gM → gJ → Prop) : Nat → Int32 → gM → gJ → Prop
  | 0, _, _, _ => False
  | n + 1, v1, ν, τ => vX7_layBalls_2B Q (vX7_layBalls_2 Q n) v1 ν τ
def vX7_layBalls  (ν : gM) (τ : gJ) (Q : gM → gJ → Prop) : Prop :=
  ∃ n, vX7_layBalls_2 Q n 0 ν τ
def vX7_ball (a1 : Int32) (ν : gM) (τ : gJ) (Q : Int32 → gM → gJ → Prop) : Prop :=
  vX7_within a1 (0 : Int32) (999 : Int32) (fun x836 => (¬ x836 = 0 → (vX7_isGood ν τ (fun x838 ν839 τ840 => (¬ x838 = 0 → (vX7_layBalls ν839 τ840 (fun ν843 τ844 => vp_in a1 1010 ∧ Q (ν843 39 a1.toNatClampNeg) ν843 τ844))) ∧ (x838 = 0 → (Q (-3) ν839 τ840))))) ∧ (x836 = 0 → (Q (-2) ν τ)))
def vX7_orbit (a1 : Int32) (ν : gM) (τ : gJ) (Q : Int32 → gM → gJ → Prop) : Prop :=
  vX7_isBeat a1 ν τ (fun x846 ν847 τ848 => (¬ x846 = 0 → (vX7_isGood ν847 τ848 (fun x850 ν851 τ852 => (¬ x850 = 0 → (vX7_findOrbits ν851 τ852 (fun x854 ν855 τ856 => vp_in a1 8 ∧ Q (ν855 38 a1.toNatClampNeg) ν855 τ856))) ∧ (x850 = 0 → (Q (-3) ν851 τ852))))) ∧ (x846 = 0 → (Q (-1) ν847 τ848)))
def vX7_hands (a1 : Int32) (ν : gM) (τ : gJ) (Q : Int32 → gM → gJ → Prop) : Prop :=
  vX7_within a1 (1 : Int32) (4 : Int32) (fun x858 => (¬ x858 = 0 → ((¬ (ν 32 5) = 0 → (Q (ν 32 7) (up2 ν 32 7 a1) τ)) ∧ ((ν 32 5) = 0 → (Q (-3) ν τ)))) ∧ (x858 = 0 → (Q (-2) ν τ)))
def vX7_size_4B (a0 : Int32) (Q : Int32 → Prop) (K4 : Int32 → Int32 → Prop) (v1 : Int32) (v2 : Int32)  : Prop :=
  (v2 ≤ 0 → (Q v1)) ∧ (¬ v2 ≤ 0 → (K4 (v1 + (v2 &&& 1)) (v2 >>> ((1 : Int32) &&& 31))))
def vX7_size_4 (a0 : Int32) (Q : Int32 → Prop) : Nat → Int32 → Int32 → Prop
  | 0, _, _ => False
  | n + 1, v1, v2 => vX7_size_4B a0 Q (vX7_size_4 a0 Q n) v1 v2
def vX7_size (a0 : Int32)  (Q : Int32 → Prop) : Prop :=
  ∃ n, vX7_size_4 a0 Q n 0 a0
def vX7_beat (a1 : Int32) (a2 : Int32) (ν : gM) (τ : gJ) (Q : Int32 → gM → gJ → Prop) : Prop :=
  vX7_within a1 (0 : Int32) (999 : Int32) (fun x862 => (x862 = 0 → (Q (-2) ν τ)) ∧ (¬ x862 = 0 → (vX7_within a2 (0 : Int32) (2 : Int32) (fun x864 => (¬ x864 = 0 → (vX7_isGood ν τ (fun x866 ν867 τ868 => (¬ x866 = 0 → (¬ (ν867 32 5) = 0 ∧ vp_in (a1 - a1 / (ν867 32 5) * (ν867 32 5)) 8 ∧ (¬ a2 = 0 → ((¬ a2 = 1 → (¬ (ν867 32 5) = 0 ∧ vX7_stateAhead (a1 - a1 / (ν867 32 5) * (ν867 32 5)) ν867 τ868 (fun x873 ν874 τ875 => vX7_size (x873 >>> ((1 : Int32) &&& 31)) (fun x876 => Q x876 ν874 τ875)))) ∧ (a2 = 1 → ((¬ (ν867 36 (a1 - a1 / (ν867 32 5) * (ν867 32 5)).toNatClampNeg) = 0 → (¬ (ν867 32 7) = 0 ∧ Q ((a1 + (ν867 36 (a1 - a1 / (ν867 32 5) * (ν867 32 5)).toNatClampNeg)) - (a1 + (ν867 36 (a1 - a1 / (ν867 32 5) * (ν867 32 5)).toNatClampNeg)) / (ν867 32 7) * (ν867 32 7)) ν867 τ868)) ∧ ((ν867 36 (a1 - a1 / (ν867 32 5) * (ν867 32 5)).toNatClampNeg) = 0 → (Q (-9) ν867 τ868)))))) ∧ (a2 = 0 → (¬ (ν867 32 7) = 0 ∧ Q (a1 - a1 / (ν867 32 7) * (ν867 32 7)) ν867 τ868)))) ∧ (x866 = 0 → (Q (-3) ν867 τ868))))) ∧ (x864 = 0 → (Q (-2) ν τ))))))
def vX7_swap (a1 : Int32) (a2 : Int32) (ν : gM) (τ : gJ) (Q : Int32 → gM → gJ → Prop) : Prop :=
  vX7_isBeat a1 ν τ (fun x878 ν879 τ880 => (x878 = 0 → (Q (-1) ν879 τ880)) ∧ (¬ x878 = 0 → (vX7_isBeat a2 ν879 τ880 (fun x882 ν883 τ884 => (x882 = 0 → (Q (-1) ν883 τ884)) ∧ (¬ x882 = 0 → ((a1 < a2 → (vp_in a2 8 ∧ vp_in a1 8 ∧ (0 ≤ (((ν883 36 a1.toNatClampNeg) - a2) + a1) → (((((ν883 36 a2.toNatClampNeg) + a2) - a1) ≤ 9 → (vp_in a1 8 ∧ vp_in a2 8 ∧ Q 1 (up2 (up2 ν883 36 a1.toNatClampNeg (((ν883 36 a2.toNatClampNeg) + a2) - a1)) 36 a2.toNatClampNeg (((ν883 36 a1.toNatClampNeg) - a2) + a1)) τ884)) ∧ (¬ (((ν883 36 a2.toNatClampNeg) + a2) - a1) ≤ 9 → (Q (-4) ν883 τ884)))) ∧ (¬ 0 ≤ (((ν883 36 a1.toNatClampNeg) - a2) + a1) → (Q (-3) ν883 τ884)))) ∧ (¬ a1 < a2 → (Q (-1) ν883 τ884))))))))
def vX7_takeNext_2B (Q : gM → gJ → Prop) (K2 : Int32 → gM → gJ → Prop) (v1 : Int32) (ν : gM) (τ : gJ) : Prop :=
  ((ν 32 5) ≤ v1 → (Q ν τ)) ∧ (¬ (ν 32 5) ≤ v1 → (vp_in v1 8 ∧ vp_in v1 8 ∧ K2 (v1 + 1) (up2 ν 36 v1.toNatClampNeg (ν 40 v1.toNatClampNeg)) τ))
def vX7_takeNext_2 (Q : gM → gJ → Prop) : Nat → Int32 → gM → gJ → Prop
  | 0, _, _, _ => False
  | n + 1, v1, ν, τ => vX7_takeNext_2B Q (vX7_takeNext_2 Q n) v1 ν τ
def vX7_takeNext  (ν : gM) (τ : gJ) (Q : gM → gJ → Prop) : Prop :=
  ∃ n, vX7_takeNext_2 Q n 0 ν τ
def vX7_turn_25B (a1 : Int32) (Q : Int32 → gM → gJ → Prop) (K25 : Int32 → gM → gJ → Prop) (v2 : Int32) (ν : gM) (τ : gJ) : Prop :=
  ((ν 32 5) ≤ v2 → (vX7_takeNext ν τ (fun ν901 τ902 => vp_in 0 8 ∧ Q (ν901 36 (0 : Int32).toNatClampNeg) ν901 τ902))) ∧ (¬ (ν 32 5) ≤ v2 → (¬ (ν 32 5) = 0 ∧ vp_in ((v2 + a1) - (v2 + a1) / (ν 32 5) * (ν 32 5)) 8 ∧ vp_in v2 8 ∧ K25 (v2 + 1) (up2 ν 40 v2.toNatClampNeg (ν 36 ((v2 + a1) - (v2 + a1) / (ν 32 5) * (ν 32 5)).toNatClampNeg)) τ))
def vX7_turn_25 (a1 : Int32) (Q : Int32 → gM → gJ → Prop) : Nat → Int32 → gM → gJ → Prop
  | 0, _, _, _ => False
  | n + 1, v2, ν, τ => vX7_turn_25B a1 Q (vX7_turn_25 a1 Q n) v2 ν τ
def vX7_turn (a1 : Int32) (ν : gM) (τ : gJ) (Q : Int32 → gM → gJ → Prop) : Prop :=
  vX7_within a1 (0 : Int32) (7 : Int32) (fun x896 => (¬ x896 = 0 → ((¬ (ν 32 5) = 0 → (∃ n, vX7_turn_25 a1 Q n 0 ν τ)) ∧ ((ν 32 5) = 0 → (Q (-3) ν τ)))) ∧ (x896 = 0 → (Q (-2) ν τ)))
def vX7_backward_12B (Q : Int32 → gM → gJ → Prop) (K12 : Int32 → gM → gJ → Prop) (v1 : Int32) (ν : gM) (τ : gJ) : Prop :=
  ((ν 32 5) ≤ v1 → (vX7_takeNext ν τ (fun ν912 τ913 => vp_in 0 8 ∧ Q (ν912 36 (0 : Int32).toNatClampNeg) ν912 τ913))) ∧ (¬ (ν 32 5) ≤ v1 → (vX7_landsIn v1 ν τ (fun x915 ν916 τ917 => vp_in v1 8 ∧ vp_in (((ν 32 5) - 1) - x915) 8 ∧ K12 (v1 + 1) (up2 ν916 40 (((ν 32 5) - 1) - x915).toNatClampNeg (ν916 36 v1.toNatClampNeg)) τ917)))
def vX7_backward_12 (Q : Int32 → gM → gJ → Prop) : Nat → Int32 → gM → gJ → Prop
  | 0, _, _, _ => False
  | n + 1, v1, ν, τ => vX7_backward_12B Q (vX7_backward_12 Q n) v1 ν τ
def vX7_backward  (ν : gM) (τ : gJ) (Q : Int32 → gM → gJ → Prop) : Prop :=
  vX7_isGood ν τ (fun x906 ν907 τ908 => (¬ x906 = 0 → (∃ n, vX7_backward_12 Q n 0 ν907 τ908)) ∧ (x906 = 0 → (Q (-3) ν907 τ908)))
def vX7_isGreater_2B (a1 : Int32) (a2 : Int32) (Q : Int32 → gM → gJ → Prop) (K2 : Int32 → gM → gJ → Prop) (v3 : Int32) (ν : gM) (τ : gJ) : Prop :=
  ((ν 32 5) ≤ v3 → (Q 0 ν τ)) ∧ (¬ (ν 32 5) ≤ v3 → (¬ (ν 32 5) = 0 ∧ vp_in ((v3 + a1) - (v3 + a1) / (ν 32 5) * (ν 32 5)) 8 ∧ ¬ (ν 32 5) = 0 ∧ vp_in ((v3 + a2) - (v3 + a2) / (ν 32 5) * (ν 32 5)) 8 ∧ ((ν 36 ((v3 + a1) - (v3 + a1) / (ν 32 5) * (ν 32 5)).toNatClampNeg) = (ν 36 ((v3 + a2) - (v3 + a2) / (ν 32 5) * (ν 32 5)).toNatClampNeg) → (K2 (v3 + 1) ν τ)) ∧ (¬ (ν 36 ((v3 + a1) - (v3 + a1) / (ν 32 5) * (ν 32 5)).toNatClampNeg) = (ν 36 ((v3 + a2) - (v3 + a2) / (ν 32 5) * (ν 32 5)).toNatClampNeg) → (((ν 36 ((v3 + a1) - (v3 + a1) / (ν 32 5) * (ν 32 5)).toNatClampNeg) ≤ (ν 36 ((v3 + a2) - (v3 + a2) / (ν 32 5) * (ν 32 5)).toNatClampNeg) → (Q 0 ν τ)) ∧ (¬ (ν 36 ((v3 + a1) - (v3 + a1) / (ν 32 5) * (ν 32 5)).toNatClampNeg) ≤ (ν 36 ((v3 + a2) - (v3 + a2) / (ν 32 5) * (ν 32 5)).toNatClampNeg) → (Q 1 ν τ))))))
def vX7_isGreater_2 (a1 : Int32) (a2 : Int32) (Q : Int32 → gM → gJ → Prop) : Nat → Int32 → gM → gJ → Prop
  | 0, _, _, _ => False
  | n + 1, v3, ν, τ => vX7_isGreater_2B a1 a2 Q (vX7_isGreater_2 a1 a2 Q n) v3 ν τ
def vX7_isGreater (a1 : Int32) (a2 : Int32) (ν : gM) (τ : gJ) (Q : Int32 → gM → gJ → Prop) : Prop :=
  ∃ n, vX7_isGreater_2 a1 a2 Q n 0 ν τ
def vX7_greatest_14B (a1 : Int32) (Q : Int32 → gM → gJ → Prop) (K14 : Int32 → Int32 → gM → gJ → Prop) (v2 : Int32) (v3 : Int32) (ν : gM) (τ : gJ) : Prop :=
  ((ν 32 5) ≤ v3 → (¬ (ν 32 5) = 0 ∧ vp_in ((a1 + v2) - (a1 + v2) / (ν 32 5) * (ν 32 5)) 8 ∧ Q (ν 36 ((a1 + v2) - (a1 + v2) / (ν 32 5) * (ν 32 5)).toNatClampNeg) ν τ)) ∧ (¬ (ν 32 5) ≤ v3 → (vX7_isGreater v3 v2 ν τ (fun x931 ν932 τ933 => (x931 = 0 → (K14 v2 (v3 + 1) ν932 τ933)) ∧ (¬ x931 = 0 → (K14 v3 (v3 + 1) ν932 τ933)))))
def vX7_greatest_14 (a1 : Int32) (Q : Int32 → gM → gJ → Prop) : Nat → Int32 → Int32 → gM → gJ → Prop
  | 0, _, _, _, _ => False
  | n + 1, v2, v3, ν, τ => vX7_greatest_14B a1 Q (vX7_greatest_14 a1 Q n) v2 v3 ν τ
def vX7_greatest (a1 : Int32) (ν : gM) (τ : gJ) (Q : Int32 → gM → gJ → Prop) : Prop :=
  vX7_isBeat a1 ν τ (fun x925 ν926 τ927 => (¬ x925 = 0 → (∃ n, vX7_greatest_14 a1 Q n 0 1 ν926 τ927)) ∧ (x925 = 0 → (Q (-1) ν926 τ927)))
def vX7_isImage (a0 : Int32)  (Q : Int32 → Prop) : Prop :=
  vX7_within a0 (0 : Int32) (2 : Int32) (fun x935 => narrow .boolean (.int x935) = .int x935 ∧ Q x935 )
def vX7_keep_31B (a1 : Int32) (Q : Int32 → gM → gJ → Prop) (K31 : Int32 → gM → gJ → Prop) (v2 : Int32) (ν : gM) (τ : gJ) : Prop :=
  ((ν 32 5) ≤ v2 → (Q 1 ν τ)) ∧ (¬ (ν 32 5) ≤ v2 → (vp_in v2 8 ∧ vp_in ((8 * a1) + v2) 24 ∧ K31 (v2 + 1) (up2 ν 42 ((8 * a1) + v2).toNatClampNeg (ν 36 v2.toNatClampNeg)) τ))
def vX7_keep_31 (a1 : Int32) (Q : Int32 → gM → gJ → Prop) : Nat → Int32 → gM → gJ → Prop
  | 0, _, _, _ => False
  | n + 1, v2, ν, τ => vX7_keep_31B a1 Q (vX7_keep_31 a1 Q n) v2 ν τ
def vX7_keep (a1 : Int32) (ν : gM) (τ : gJ) (Q : Int32 → gM → gJ → Prop) : Prop :=
  vX7_isImage a1 (fun x936 => (¬ x936 = 0 → ((¬ (ν 32 5) = 0 → (vp_in a1 3 ∧ ∃ n, vX7_keep_31 a1 Q n 0 (up2 ν 41 a1.toNatClampNeg (ν 32 5)) τ)) ∧ ((ν 32 5) = 0 → (Q (-3) ν τ)))) ∧ (x936 = 0 → (Q (-1) ν τ)))
def vX7_back_33B (a1 : Int32) (Q : Int32 → gM → gJ → Prop) (K33 : Int32 → gM → gJ → Prop) (v2 : Int32) (ν : gM) (τ : gJ) : Prop :=
  ((ν 32 5) ≤ v2 → (Q (ν 32 5) ν τ)) ∧ (¬ (ν 32 5) ≤ v2 → (vp_in ((8 * a1) + v2) 24 ∧ vp_in v2 8 ∧ K33 (v2 + 1) (up2 ν 36 v2.toNatClampNeg (ν 42 ((8 * a1) + v2).toNatClampNeg)) τ))
def vX7_back_33 (a1 : Int32) (Q : Int32 → gM → gJ → Prop) : Nat → Int32 → gM → gJ → Prop
  | 0, _, _, _ => False
  | n + 1, v2, ν, τ => vX7_back_33B a1 Q (vX7_back_33 a1 Q n) v2 ν τ
def vX7_back (a1 : Int32) (ν : gM) (τ : gJ) (Q : Int32 → gM → gJ → Prop) : Prop :=
  vX7_isImage a1 (fun x943 => (¬ x943 = 0 → (vp_in a1 3 ∧ (¬ (ν 41 a1.toNatClampNeg) = 0 → (vp_in a1 3 ∧ ∃ n, vX7_back_33 a1 Q n 0 (up2 ν 32 5 (ν 41 a1.toNatClampNeg)) τ)) ∧ ((ν 41 a1.toNatClampNeg) = 0 → (Q (-3) ν τ)))) ∧ (x943 = 0 → (Q (-1) ν τ)))
def vX7_isTurned_2B (a1 : Int32) (a2 : Int32) (Q : Int32 → gM → gJ → Prop) (K2 : Int32 → gM → gJ → Prop) (v3 : Int32) (ν : gM) (τ : gJ) : Prop :=
  ((ν 32 5) ≤ v3 → (Q 1 ν τ)) ∧ (¬ (ν 32 5) ≤ v3 → (vp_in ((8 * a1) + v3) 24 ∧ ¬ (ν 32 5) = 0 ∧ vp_in ((v3 + a2) - (v3 + a2) / (ν 32 5) * (ν 32 5)) 8 ∧ ((ν 42 ((8 * a1) + v3).toNatClampNeg) = (ν 36 ((v3 + a2) - (v3 + a2) / (ν 32 5) * (ν 32 5)).toNatClampNeg) → (K2 (v3 + 1) ν τ)) ∧ (¬ (ν 42 ((8 * a1) + v3).toNatClampNeg) = (ν 36 ((v3 + a2) - (v3 + a2) / (ν 32 5) * (ν 32 5)).toNatClampNeg) → (Q 0 ν τ))))
def vX7_isTurned_2 (a1 : Int32) (a2 : Int32) (Q : Int32 → gM → gJ → Prop) : Nat → Int32 → gM → gJ → Prop
  | 0, _, _, _ => False
  | n + 1, v3, ν, τ => vX7_isTurned_2B a1 a2 Q (vX7_isTurned_2 a1 a2 Q n) v3 ν τ
def vX7_isTurned (a1 : Int32) (a2 : Int32) (ν : gM) (τ : gJ) (Q : Int32 → gM → gJ → Prop) : Prop :=
  ∃ n, vX7_isTurned_2 a1 a2 Q n 0 ν τ
def vX7_like_30B (a1 : Int32) (Q : Int32 → gM → gJ → Prop) (K30 : Int32 → gM → gJ → Prop) (v2 : Int32) (ν : gM) (τ : gJ) : Prop :=
  ((ν 32 5) ≤ v2 → (Q 0 ν τ)) ∧ (¬ (ν 32 5) ≤ v2 → (vp_in a1 3 ∧ (¬ (ν 41 a1.toNatClampNeg) = (ν 32 5) → (Q 0 ν τ)) ∧ ((ν 41 a1.toNatClampNeg) = (ν 32 5) → (vX7_isTurned a1 v2 ν τ (fun x963 ν964 τ965 => (x963 = 0 → (K30 (v2 + 1) ν964 τ965)) ∧ (¬ x963 = 0 → (Q 1 ν964 τ965)))))))
def vX7_like_30 (a1 : Int32) (Q : Int32 → gM → gJ → Prop) : Nat → Int32 → gM → gJ → Prop
  | 0, _, _, _ => False
  | n + 1, v2, ν, τ => vX7_like_30B a1 Q (vX7_like_30 a1 Q n) v2 ν τ
def vX7_like (a1 : Int32) (ν : gM) (τ : gJ) (Q : Int32 → gM → gJ → Prop) : Prop :=
  vX7_isImage a1 (fun x955 => (¬ x955 = 0 → (vp_in a1 3 ∧ ((ν 41 a1.toNatClampNeg) = 0 → (Q (-3) ν τ)) ∧ (¬ (ν 41 a1.toNatClampNeg) = 0 → ((¬ (ν 32 5) = 0 → (∃ n, vX7_like_30 a1 Q n 0 ν τ)) ∧ ((ν 32 5) = 0 → (Q (-3) ν τ)))))) ∧ (x955 = 0 → (Q (-1) ν τ)))
def vX7_spot (a0 : Int32) (a1 : Int32)  (Q : Int32 → Prop) : Prop :=
  Q ((81 * a0) + a1)
def vX7_mayThrow (a1 : Int32) (a2 : Int32) (ν : gM) (τ : gJ) (Q : Int32 → gM → gJ → Prop) : Prop :=
  vp_in a1 8 ∧ (¬ (ν 43 a1.toNatClampNeg) = (-1) → (vp_in a1 8 ∧ (¬ (ν 43 a1.toNatClampNeg) = a2 → (Q 0 ν τ)) ∧ ((ν 43 a1.toNatClampNeg) = a2 → (Q 1 ν τ)))) ∧ ((ν 43 a1.toNatClampNeg) = (-1) → (((ν 32 16) < a2 → (Q 0 ν τ)) ∧ (¬ (ν 32 16) < a2 → (Q 1 ν τ))))
def vX7_addFills_3B (a1 : Int32) (a2 : Int32) (a3 : Int32) (Q : gM → gJ → Prop) (K3 : Int32 → gM → gJ → Prop) (v4 : Int32) (ν : gM) (τ : gJ) : Prop :=
  (80 < v4 → (Q ν τ)) ∧ (¬ 80 < v4 → (vX7_spot a1 v4 (fun x985 => vp_in x985 20736 ∧ vX7_spot a2 (v4 - a3) (fun x987 => vp_in x987 20736 ∧ vp_in x985 20736 ∧ K3 (v4 + 1) ν (vp_updL τ x985.toNatClampNeg ((τ x985.toNatClampNeg) + (τ x987.toNatClampNeg)))))))
def vX7_addFills_3 (a1 : Int32) (a2 : Int32) (a3 : Int32) (Q : gM → gJ → Prop) : Nat → Int32 → gM → gJ → Prop
  | 0, _, _, _ => False
  | n + 1, v4, ν, τ => vX7_addFills_3B a1 a2 a3 Q (vX7_addFills_3 a1 a2 a3 Q n) v4 ν τ
def vX7_addFills (a1 : Int32) (a2 : Int32) (a3 : Int32) (ν : gM) (τ : gJ) (Q : gM → gJ → Prop) : Prop :=
  ∃ n, vX7_addFills_3 a1 a2 a3 Q n a3 ν τ
def vX7_layFills_58B (Q : gM → gJ → Prop) (K46 : Int32 → gM → gJ → Prop) (K58 : Int32 → Int32 → Int32 → gM → gJ → Prop) (v2 : Int32) (v3 : Int32) (v4 : Int32) (ν : gM) (τ : gJ) : Prop :=
  (9 < v4 → (K46 (v2 + (-1)) ν τ)) ∧ (¬ 9 < v4 → (¬ (ν 32 15) = 0 ∧ vX7_mayThrow v3 v4 ν τ (fun x979 ν980 τ981 => (x979 = 0 → (K58 v2 v3 (v4 + 1) ν980 τ981)) ∧ (¬ x979 = 0 → ((¬ (v2 &&& ((1 : Int32) <<< (((v3 + v4) - (v3 + v4) / (ν 32 15) * (ν 32 15)) &&& 31))) = 0 → (K58 v2 v3 (v4 + 1) ν980 τ981)) ∧ ((v2 &&& ((1 : Int32) <<< (((v3 + v4) - (v3 + v4) / (ν 32 15) * (ν 32 15)) &&& 31))) = 0 → (vX7_addFills v2 (v2 ||| ((1 : Int32) <<< (((v3 + v4) - (v3 + v4) / (ν 32 15) * (ν 32 15)) &&& 31))) v4 ν980 τ981 (fun ν991 τ992 => K58 v2 v3 (v4 + 1) ν991 τ992))))))))
def vX7_layFills_58 (Q : gM → gJ → Prop) (K46 : Int32 → gM → gJ → Prop) : Nat → Int32 → Int32 → Int32 → gM → gJ → Prop
  | 0, _, _, _, _, _ => False
  | n + 1, v2, v3, v4, ν, τ => vX7_layFills_58B Q K46 (vX7_layFills_58 Q K46 n) v2 v3 v4 ν τ
def vX7_layFills_46B (Q : gM → gJ → Prop) (K46 : Int32 → gM → gJ → Prop) (v2 : Int32) (ν : gM) (τ : gJ) : Prop :=
  (v2 < 0 → (Q ν τ)) ∧ (¬ v2 < 0 → (vX7_size v2 (fun x977 => ∃ n, vX7_layFills_58 Q K46 n v2 x977 0 ν τ)))
def vX7_layFills_46 (Q : gM → gJ → Prop) : Nat → Int32 → gM → gJ → Prop
  | 0, _, _, _ => False
  | n + 1, v2, ν, τ => vX7_layFills_46B Q (vX7_layFills_46 Q n) v2 ν τ
def vX7_layFills_11B (Q : gM → gJ → Prop) (K11 : Int32 → Int32 → gM → gJ → Prop) (v1 : Int32) (v2 : Int32) (ν : gM) (τ : gJ) : Prop :=
  (20736 ≤ v2 → (vX7_spot v1 (0 : Int32) (fun x973 => vp_in x973 20736 ∧ ∃ n, vX7_layFills_46 Q n (v1 - 1) ν (vp_updL τ x973.toNatClampNeg (1 : Int64))))) ∧ (¬ 20736 ≤ v2 → (vp_in v2 20736 ∧ K11 v1 (v2 + 1) ν (vp_updL τ v2.toNatClampNeg (0 : Int64))))
def vX7_layFills_11 (Q : gM → gJ → Prop) : Nat → Int32 → Int32 → gM → gJ → Prop
  | 0, _, _, _, _ => False
  | n + 1, v1, v2, ν, τ => vX7_layFills_11B Q (vX7_layFills_11 Q n) v1 v2 ν τ
def vX7_layFills  (ν : gM) (τ : gJ) (Q : gM → gJ → Prop) : Prop :=
  ∃ n, vX7_layFills_11 Q n (((1 : Int32) <<< ((ν 32 15) &&& 31)) - 1) 0 ν τ
def vX7_howMany_47B (a1 : Int32) (a2 : Int32) (a3 : Int32) (Q : Int64 → gM → gJ → Prop) (K47 : Int32 → gM → gJ → Prop) (v4 : Int32) (ν : gM) (τ : gJ) : Prop :=
  (a1 ≤ v4 → (vX7_layFills ν τ (fun ν1001 τ1002 => ((a1 * a2) ≤ 80 → (vX7_spot (0 : Int32) (a1 * a2) (fun x1004 => vp_in x1004 20736 ∧ Q (τ1002 x1004.toNatClampNeg) ν1001 τ1002))) ∧ (¬ (a1 * a2) ≤ 80 → (Q (0 : Int64) ν1001 τ1002))))) ∧ (¬ a1 ≤ v4 → (vp_in v4 8 ∧ K47 (v4 + 1) (up2 ν 43 v4.toNatClampNeg (-1)) τ))
def vX7_howMany_47 (a1 : Int32) (a2 : Int32) (a3 : Int32) (Q : Int64 → gM → gJ → Prop) : Nat → Int32 → gM → gJ → Prop
  | 0, _, _, _ => False
  | n + 1, v4, ν, τ => vX7_howMany_47B a1 a2 a3 Q (vX7_howMany_47 a1 a2 a3 Q n) v4 ν τ
def vX7_howMany (a1 : Int32) (a2 : Int32) (a3 : Int32) (ν : gM) (τ : gJ) (Q : Int64 → gM → gJ → Prop) : Prop :=
  vX7_within a1 (1 : Int32) (8 : Int32) (fun x993 => (x993 = 0 → (Q (-9223372036854775808) ν τ)) ∧ (¬ x993 = 0 → (vX7_within a2 (0 : Int32) (9 : Int32) (fun x995 => (x995 = 0 → (Q (-9223372036854775808) ν τ)) ∧ (¬ x995 = 0 → (vX7_within a3 (0 : Int32) (9 : Int32) (fun x997 => (¬ x997 = 0 → (∃ n, vX7_howMany_47 a1 a2 a3 Q n 0 (up2 (up2 ν 32 15 a1) 32 16 a3) τ)) ∧ (x997 = 0 → (Q (-9223372036854775808) ν τ)))))))))
def vX7_thrownTo (a0 : Int32) (a1 : Int32)  (Q : Int32 → Prop) : Prop :=
  Q ((a0 ||| ((1 : Int32) <<< (a1 &&& 31))) >>> ((1 : Int32) &&& 31))
def vX7_mayGo (a0 : Int32) (a1 : Int32) (a2 : Int32)  (Q : Int32 → Prop) : Prop :=
  (¬ (a0 &&& 1) = 0 → ((a1 ≤ 0 → (Q 0)) ∧ (¬ a1 ≤ 0 → ((a2 < a1 → (Q 0)) ∧ (¬ a2 < a1 → ((¬ ((a0 >>> (a1 &&& 31)) &&& 1) = 0 → (Q 0)) ∧ (((a0 >>> (a1 &&& 31)) &&& 1) = 0 → (Q 1)))))))) ∧ ((a0 &&& 1) = 0 → ((¬ a1 = 0 → (Q 0)) ∧ (a1 = 0 → (Q 1))))
def vX7_goesTo (a0 : Int32) (a1 : Int32)  (Q : Int32 → Prop) : Prop :=
  (¬ a1 = 0 → (vX7_thrownTo a0 a1 (fun x1013 => Q x1013))) ∧ (a1 = 0 → (Q (a0 >>> ((1 : Int32) &&& 31))))
def vX7_findFar_57B (a1 : Int32) (a2 : Int32) (Q : gM → gJ → Prop) (K37 : Int32 → Int32 → gM → gJ → Prop) (K46 : Int32 → Int32 → Int32 → gM → gJ → Prop) (K57 : Int32 → Int32 → Int32 → Int32 → gM → gJ → Prop) (v3 : Int32) (v4 : Int32) (v5 : Int32) (v6 : Int32) (ν : gM) (τ : gJ) : Prop :=
  (9 < v6 → (K46 v3 v4 (v5 + 1) ν τ)) ∧ (¬ 9 < v6 → (vp_in v5 512 ∧ (¬ (ν 45 v5.toNatClampNeg) = (-9) → (K46 v3 v4 (v5 + 1) ν τ)) ∧ ((ν 45 v5.toNatClampNeg) = (-9) → (vX7_mayGo v5 v6 a2 (fun x1023 => (x1023 = 0 → (K57 v3 v4 v5 (v6 + 1) ν τ)) ∧ (¬ x1023 = 0 → (vX7_goesTo v5 v6 (fun x1025 => vp_in x1025 512 ∧ (¬ (ν 45 x1025.toNatClampNeg) = v4 → (K57 v3 v4 v5 (v6 + 1) ν τ)) ∧ ((ν 45 x1025.toNatClampNeg) = v4 → (vp_in v5 512 ∧ K57 1 v4 v5 (v6 + 1) (up2 ν 45 v5.toNatClampNeg (v4 + 1)) τ))))))))))
def vX7_findFar_57 (a1 : Int32) (a2 : Int32) (Q : gM → gJ → Prop) (K37 : Int32 → Int32 → gM → gJ → Prop) (K46 : Int32 → Int32 → Int32 → gM → gJ → Prop) : Nat → Int32 → Int32 → Int32 → Int32 → gM → gJ → Prop
  | 0, _, _, _, _, _, _ => False
  | n + 1, v3, v4, v5, v6, ν, τ => vX7_findFar_57B a1 a2 Q K37 K46 (vX7_findFar_57 a1 a2 Q K37 K46 n) v3 v4 v5 v6 ν τ
def vX7_findFar_46B (a1 : Int32) (a2 : Int32) (Q : gM → gJ → Prop) (K37 : Int32 → Int32 → gM → gJ → Prop) (K46 : Int32 → Int32 → Int32 → gM → gJ → Prop) (v3 : Int32) (v4 : Int32) (v5 : Int32) (ν : gM) (τ : gJ) : Prop :=
  (512 ≤ v5 → (K37 v3 (v4 + 1) ν τ)) ∧ (¬ 512 ≤ v5 → (∃ n, vX7_findFar_57 a1 a2 Q K37 K46 n v3 v4 v5 0 ν τ))
def vX7_findFar_46 (a1 : Int32) (a2 : Int32) (Q : gM → gJ → Prop) (K37 : Int32 → Int32 → gM → gJ → Prop) : Nat → Int32 → Int32 → Int32 → gM → gJ → Prop
  | 0, _, _, _, _, _ => False
  | n + 1, v3, v4, v5, ν, τ => vX7_findFar_46B a1 a2 Q K37 (vX7_findFar_46 a1 a2 Q K37 n) v3 v4 v5 ν τ
def vX7_findFar_37B (a1 : Int32) (a2 : Int32) (Q : gM → gJ → Prop) (K37 : Int32 → Int32 → gM → gJ → Prop) (v3 : Int32) (v4 : Int32) (ν : gM) (τ : gJ) : Prop :=
  (v3 = 0 → (Q ν τ)) ∧ (¬ v3 = 0 → (∃ n, vX7_findFar_46 a1 a2 Q K37 n 0 v4 0 ν τ))
def vX7_findFar_37 (a1 : Int32) (a2 : Int32) (Q : gM → gJ → Prop) : Nat → Int32 → Int32 → gM → gJ → Prop
  | 0, _, _, _, _ => False
  | n + 1, v3, v4, ν, τ => vX7_findFar_37B a1 a2 Q (vX7_findFar_37 a1 a2 Q n) v3 v4 ν τ
def vX7_findFar_2B (a1 : Int32) (a2 : Int32) (Q : gM → gJ → Prop) (K2 : Int32 → gM → gJ → Prop) (v3 : Int32) (ν : gM) (τ : gJ) : Prop :=
  (512 ≤ v3 → (∃ n, vX7_findFar_37 a1 a2 Q n 1 0 ν τ)) ∧ (¬ 512 ≤ v3 → ((¬ v3 = a1 → (vp_in v3 512 ∧ K2 (v3 + 1) (up2 ν 45 v3.toNatClampNeg (-9)) τ)) ∧ (v3 = a1 → (vp_in v3 512 ∧ K2 (v3 + 1) (up2 ν 45 v3.toNatClampNeg 0) τ))))
def vX7_findFar_2 (a1 : Int32) (a2 : Int32) (Q : gM → gJ → Prop) : Nat → Int32 → gM → gJ → Prop
  | 0, _, _, _ => False
  | n + 1, v3, ν, τ => vX7_findFar_2B a1 a2 Q (vX7_findFar_2 a1 a2 Q n) v3 ν τ
def vX7_findFar (a1 : Int32) (a2 : Int32) (ν : gM) (τ : gJ) (Q : gM → gJ → Prop) : Prop :=
  ∃ n, vX7_findFar_2 a1 a2 Q n 0 ν τ
def vX7_way_117B (a1 : Int32) (a2 : Int32) (a3 : Int32) (a4 : Int32) (Q : Int32 → gM → gJ → Prop) (K107 : Int32 → Int32 → Int32 → gM → gJ → Prop) (K117 : Int32 → Int32 → Int32 → gM → gJ → Prop) (v5 : Int32) (v6 : Int32) (v7 : Int32) (ν : gM) (τ : gJ) : Prop :=
  vX7_mayGo v5 v6 a3 (fun x1049 => (x1049 = 0 → (K117 v5 (v6 + 1) v7 ν τ)) ∧ (¬ x1049 = 0 → (vX7_goesTo v5 v6 (fun x1051 => vp_in x1051 512 ∧ vp_in a1 512 ∧ ((ν 45 x1051.toNatClampNeg) = (((ν 45 a1.toNatClampNeg) - v7) - 1) → (vX7_goesTo v5 v6 (fun x1055 => K107 x1055 v6 (v7 + 1) ν τ))) ∧ (¬ (ν 45 x1051.toNatClampNeg) = (((ν 45 a1.toNatClampNeg) - v7) - 1) → (K117 v5 (v6 + 1) v7 ν τ))))))
def vX7_way_117 (a1 : Int32) (a2 : Int32) (a3 : Int32) (a4 : Int32) (Q : Int32 → gM → gJ → Prop) (K107 : Int32 → Int32 → Int32 → gM → gJ → Prop) : Nat → Int32 → Int32 → Int32 → gM → gJ → Prop
  | 0, _, _, _, _, _ => False
  | n + 1, v5, v6, v7, ν, τ => vX7_way_117B a1 a2 a3 a4 Q K107 (vX7_way_117 a1 a2 a3 a4 Q K107 n) v5 v6 v7 ν τ
def vX7_way_107B (a1 : Int32) (a2 : Int32) (a3 : Int32) (a4 : Int32) (Q : Int32 → gM → gJ → Prop) (K107 : Int32 → Int32 → Int32 → gM → gJ → Prop) (v5 : Int32) (v6 : Int32) (v7 : Int32) (ν : gM) (τ : gJ) : Prop :=
  (a4 < v7 → (Q v6 ν τ)) ∧ (¬ a4 < v7 → (∃ n, vX7_way_117 a1 a2 a3 a4 Q K107 n v5 0 v7 ν τ))
def vX7_way_107 (a1 : Int32) (a2 : Int32) (a3 : Int32) (a4 : Int32) (Q : Int32 → gM → gJ → Prop) : Nat → Int32 → Int32 → Int32 → gM → gJ → Prop
  | 0, _, _, _, _, _ => False
  | n + 1, v5, v6, v7, ν, τ => vX7_way_107B a1 a2 a3 a4 Q (vX7_way_107 a1 a2 a3 a4 Q n) v5 v6 v7 ν τ
def vX7_way (a1 : Int32) (a2 : Int32) (a3 : Int32) (a4 : Int32) (ν : gM) (τ : gJ) (Q : Int32 → gM → gJ → Prop) : Prop :=
  vX7_within a1 (0 : Int32) (511 : Int32) (fun x1029 => (x1029 = 0 → (Q (-2) ν τ)) ∧ (¬ x1029 = 0 → (vX7_within a2 (0 : Int32) (511 : Int32) (fun x1031 => (x1031 = 0 → (Q (-2) ν τ)) ∧ (¬ x1031 = 0 → (vX7_size a1 (fun x1033 => vX7_size a2 (fun x1034 => (¬ x1033 = x1034 → (Q (-2) ν τ)) ∧ (x1033 = x1034 → (vX7_within a3 (0 : Int32) (9 : Int32) (fun x1036 => (¬ x1036 = 0 → (((-1) ≤ a4 → (vX7_findFar a2 a3 ν τ (fun ν1040 τ1041 => vp_in a1 512 ∧ ((ν1040 45 a1.toNatClampNeg) = (-9) → (Q (-9) ν1040 τ1041)) ∧ (¬ (ν1040 45 a1.toNatClampNeg) = (-9) → (vp_in a1 512 ∧ (a4 < (ν1040 45 a1.toNatClampNeg) → ((¬ a4 = (-1) → (∃ n, vX7_way_107 a1 a2 a3 a4 Q n a1 0 0 ν1040 τ1041)) ∧ (a4 = (-1) → (vp_in a1 512 ∧ Q (ν1040 45 a1.toNatClampNeg) ν1040 τ1041)))) ∧ (¬ a4 < (ν1040 45 a1.toNatClampNeg) → (Q (-9) ν1040 τ1041))))))) ∧ (¬ (-1) ≤ a4 → (Q (-1) ν τ)))) ∧ (x1036 = 0 → (Q (-2) ν τ)))))))))))))
def vX7_leadsOn (a1 : Int32) (a2 : Int32) (a3 : Int32) (a4 : Int32) (ν : gM) (τ : gJ) (Q : Int32 → gM → gJ → Prop) : Prop :=
  ¬ (ν 32 15) = 0 ∧ vX7_mayThrow a3 a4 ν τ (fun x1088 ν1089 τ1090 => (x1088 = 0 → (Q 0 ν1089 τ1090)) ∧ (¬ x1088 = 0 → ((¬ (a1 &&& ((1 : Int32) <<< (((a3 + a4) - (a3 + a4) / (ν 32 15) * (ν 32 15)) &&& 31))) = 0 → (Q 0 ν1089 τ1090)) ∧ ((a1 &&& ((1 : Int32) <<< (((a3 + a4) - (a3 + a4) / (ν 32 15) * (ν 32 15)) &&& 31))) = 0 → ((a2 < a4 → (Q 0 ν1089 τ1090)) ∧ (¬ a2 < a4 → (vX7_spot (a1 ||| ((1 : Int32) <<< (((a3 + a4) - (a3 + a4) / (ν 32 15) * (ν 32 15)) &&& 31))) (a2 - a4) (fun x1094 => vp_in x1094 20736 ∧ ((lg_cmp (τ1090 x1094.toNatClampNeg) (0 : Int64)) ≤ 0 → (Q 0 ν1089 τ1090)) ∧ (¬ (lg_cmp (τ1090 x1094.toNatClampNeg) (0 : Int64)) ≤ 0 → (Q 1 ν1089 τ1090))))))))))
def vX7_firstFill_20B (a1 : Int32) (a2 : Int32) (Q : Int64 → gM → gJ → Prop) (K11 : Int32 → Int32 → Int32 → Int32 → gM → gJ → Prop) (K20 : Int32 → Int32 → Int32 → Int32 → gM → gJ → Prop) (v3 : Int32) (v4 : Int32) (v5 : Int32) (v6 : Int32) (ν : gM) (τ : gJ) : Prop :=
  vX7_leadsOn v3 v4 v6 v5 ν τ (fun x1097 ν1098 τ1099 => (¬ x1097 = 0 → (¬ (ν1098 32 15) = 0 ∧ K11 (v3 ||| ((1 : Int32) <<< (((v6 + v5) - (v6 + v5) / (ν1098 32 15) * (ν1098 32 15)) &&& 31))) (v4 - v5) v5 (v6 + 1) ν1098 τ1099)) ∧ (x1097 = 0 → (K20 v3 v4 (v5 + 1) v6 ν1098 τ1099)))
def vX7_firstFill_20 (a1 : Int32) (a2 : Int32) (Q : Int64 → gM → gJ → Prop) (K11 : Int32 → Int32 → Int32 → Int32 → gM → gJ → Prop) : Nat → Int32 → Int32 → Int32 → Int32 → gM → gJ → Prop
  | 0, _, _, _, _, _, _ => False
  | n + 1, v3, v4, v5, v6, ν, τ => vX7_firstFill_20B a1 a2 Q K11 (vX7_firstFill_20 a1 a2 Q K11 n) v3 v4 v5 v6 ν τ
def vX7_firstFill_11B (a1 : Int32) (a2 : Int32) (Q : Int64 → gM → gJ → Prop) (K11 : Int32 → Int32 → Int32 → Int32 → gM → gJ → Prop) (v3 : Int32) (v4 : Int32) (v5 : Int32) (v6 : Int32) (ν : gM) (τ : gJ) : Prop :=
  (a2 < v6 → (Q v5.toInt64 ν τ)) ∧ (¬ a2 < v6 → (∃ n, vX7_firstFill_20 a1 a2 Q K11 n v3 v4 0 v6 ν τ))
def vX7_firstFill_11 (a1 : Int32) (a2 : Int32) (Q : Int64 → gM → gJ → Prop) : Nat → Int32 → Int32 → Int32 → Int32 → gM → gJ → Prop
  | 0, _, _, _, _, _, _ => False
  | n + 1, v3, v4, v5, v6, ν, τ => vX7_firstFill_11B a1 a2 Q (vX7_firstFill_11 a1 a2 Q n) v3 v4 v5 v6 ν τ
def vX7_firstFill (a1 : Int32) (a2 : Int32) (ν : gM) (τ : gJ) (Q : Int64 → gM → gJ → Prop) : Prop :=
  ∃ n, vX7_firstFill_11 a1 a2 Q n 0 a1 0 0 ν τ
def vX7_filled_190 (a1 : Int32) (a2 : Int32) (a3 : Int32) (a4 : Int32) (a5 : Int32) (a6 : Int32) (Q : Int64 → gM → gJ → Prop) (t0 : Int64) (ν : gM) (τ : gJ) : Prop :=
  (¬ a6 = (-1) → ((¬ (lg_cmp t0 (0 : Int64)) = 0 → (vX7_firstFill (a4 * a5) a6 ν τ (fun x1101 ν1102 τ1103 => Q x1101 ν1102 τ1103))) ∧ ((lg_cmp t0 (0 : Int64)) = 0 → (Q (-9223372036854775808) ν τ)))) ∧ (a6 = (-1) → (Q t0 ν τ))
def vX7_filled_75B (a1 : Int32) (a2 : Int32) (a3 : Int32) (a4 : Int32) (a5 : Int32) (a6 : Int32) (Q : Int64 → gM → gJ → Prop) (K75 : Int32 → gM → gJ → Prop) (v8 : Int32) (ν : gM) (τ : gJ) : Prop :=
  (a4 ≤ v8 → (vX7_within a6 (-1 : Int32) (a4 - 1) (fun x1072 => (¬ x1072 = 0 → (vX7_layFills (up2 (up2 ν 32 15 a4) 32 16 9) τ (fun ν1075 τ1076 => ((a4 * a5) ≤ 80 → (vX7_spot (0 : Int32) (a4 * a5) (fun x1078 => vp_in x1078 20736 ∧ vX7_filled_190 a1 a2 a3 a4 a5 a6 Q (τ1076 x1078.toNatClampNeg) ν1075 τ1076))) ∧ (¬ (a4 * a5) ≤ 80 → (vX7_filled_190 a1 a2 a3 a4 a5 a6 Q (0 : Int64) ν1075 τ1076))))) ∧ (x1072 = 0 → (Q (-9223372036854775808) ν τ))))) ∧ (¬ a4 ≤ v8 → (vp_in (((40 * a1) + a3) + v8) 160 ∧ vp_in v8 8 ∧ vp_in v8 8 ∧ vX7_within ((up2 ν 43 v8.toNatClampNeg (ν 35 (((40 * a1) + a3) + v8).toNatClampNeg)) 43 v8.toNatClampNeg) (-1 : Int32) (9 : Int32) (fun x1083 => (¬ x1083 = 0 → (K75 (v8 + 1) (up2 ν 43 v8.toNatClampNeg (ν 35 (((40 * a1) + a3) + v8).toNatClampNeg)) τ)) ∧ (x1083 = 0 → (Q (-9223372036854775808) (up2 ν 43 v8.toNatClampNeg (ν 35 (((40 * a1) + a3) + v8).toNatClampNeg)) τ)))))
def vX7_filled_75 (a1 : Int32) (a2 : Int32) (a3 : Int32) (a4 : Int32) (a5 : Int32) (a6 : Int32) (Q : Int64 → gM → gJ → Prop) : Nat → Int32 → gM → gJ → Prop
  | 0, _, _, _ => False
  | n + 1, v8, ν, τ => vX7_filled_75B a1 a2 a3 a4 a5 a6 Q (vX7_filled_75 a1 a2 a3 a4 a5 a6 Q n) v8 ν τ
def vX7_filled (a1 : Int32) (a2 : Int32) (a3 : Int32) (a4 : Int32) (a5 : Int32) (a6 : Int32) (ν : gM) (τ : gJ) (Q : Int64 → gM → gJ → Prop) : Prop :=
  vX7_isSheet a1 (fun x1056 => (x1056 = 0 → (Q (-9223372036854775808) (up2 ν 32 0 0) τ)) ∧ (¬ x1056 = 0 → (vX7_isSort a2 (fun x1058 => (x1058 = 0 → (Q (-9223372036854775808) (up2 ν 32 0 0) τ)) ∧ (¬ x1058 = 0 → (vX7_within a5 (0 : Int32) (9 : Int32) (fun x1060 => (¬ x1060 = 0 → (vX7_against a1 a2 a3 a4 (up2 ν 32 0 0) τ (fun x1062 ν1063 τ1064 => (x1062 = 0 → (vX7_within a4 (1 : Int32) (8 : Int32) (fun x1066 => (¬ x1066 = 0 → (∃ n, vX7_filled_75 a1 a2 a3 a4 a5 a6 Q n 0 ν1063 τ1064)) ∧ (x1066 = 0 → (Q (-9223372036854775808) ν1063 τ1064))))) ∧ (¬ x1062 = 0 → (vX7_lost x1062 ν1063 τ1064 (fun x1068 ν1069 τ1070 => Q x1068 ν1069 τ1070)))))) ∧ (x1060 = 0 → (Q (-9223372036854775808) (up2 ν 32 0 0) τ)))))))))
def vX7_isBall (a0 : Int32)  (Q : Int32 → Prop) : Prop :=
  vX7_within a0 (0 : Int32) (9 : Int32) (fun x1104 => narrow .boolean (.int x1104) = .int x1104 ∧ Q x1104 )
def vX7_kind (a1 : Int32) (a2 : Int32) (ν : gM) (τ : gJ) (Q : Int32 → gM → gJ → Prop) : Prop :=
  vX7_isBall a1 (fun x1105 => (¬ x1105 = 0 → (vX7_within a2 (0 : Int32) (2 : Int32) (fun x1107 => (¬ x1107 = 0 → (vp_in a1 10 ∧ vp_in a1 10 ∧ Q (ν 37 a1.toNatClampNeg) (up2 ν 37 a1.toNatClampNeg a2) τ)) ∧ (x1107 = 0 → (Q (-2) ν τ))))) ∧ (x1105 = 0 → (Q (-1) ν τ)))
def vX7_mayGoTo (a1 : Int32) (ν : gM) (τ : gJ) (Q : Int32 → gM → gJ → Prop) : Prop :=
  vp_in a1 10 ∧ (¬ (ν 37 a1.toNatClampNeg) = 0 → (vp_in a1 10 ∧ (¬ (ν 37 a1.toNatClampNeg) = 1 → (Q 4 ν τ)) ∧ ((ν 37 a1.toNatClampNeg) = 1 → (Q 6 ν τ)))) ∧ ((ν 37 a1.toNatClampNeg) = 0 → (Q 9 ν τ))
def vX7_broken_18B (Q : Int32 → gM → gJ → Prop) (K18 : Int32 → Int32 → gM → gJ → Prop) (v1 : Int32) (v2 : Int32) (ν : gM) (τ : gJ) : Prop :=
  (999 < v2 → (Q v1 ν τ)) ∧ (¬ 999 < v2 → (vp_in v2 1010 ∧ ((ν 39 v2.toNatClampNeg) = (-9) → (K18 (v1 ||| 0) (v2 + 1) ν τ)) ∧ (¬ (ν 39 v2.toNatClampNeg) = (-9) → (¬ (ν 32 5) = 0 ∧ vp_in (v2 - v2 / (ν 32 5) * (ν 32 5)) 8 ∧ vp_in v2 1010 ∧ vX7_mayGoTo (ν 39 v2.toNatClampNeg) ν τ (fun x1127 ν1128 τ1129 => ((ν 36 (v2 - v2 / (ν 32 5) * (ν 32 5)).toNatClampNeg) ≤ x1127 → (K18 (v1 ||| 0) (v2 + 1) ν1128 τ1129)) ∧ (¬ (ν 36 (v2 - v2 / (ν 32 5) * (ν 32 5)).toNatClampNeg) ≤ x1127 → (vp_in v2 1010 ∧ K18 (v1 ||| ((1 : Int32) <<< ((ν1128 39 v2.toNatClampNeg) &&& 31))) (v2 + 1) ν1128 τ1129)))))))
def vX7_broken_18 (Q : Int32 → gM → gJ → Prop) : Nat → Int32 → Int32 → gM → gJ → Prop
  | 0, _, _, _, _ => False
  | n + 1, v1, v2, ν, τ => vX7_broken_18B Q (vX7_broken_18 Q n) v1 v2 ν τ
def vX7_broken  (ν : gM) (τ : gJ) (Q : Int32 → gM → gJ → Prop) : Prop :=
  vX7_isGood ν τ (fun x1115 ν1116 τ1117 => (¬ x1115 = 0 → (vX7_layBalls ν1116 τ1117 (fun ν1120 τ1121 => ∃ n, vX7_broken_18 Q n 0 0 ν1120 τ1121))) ∧ (x1115 = 0 → (Q (-3) ν1116 τ1117)))
def vX7_drop (a1 : Int32) (ν : gM) (τ : gJ) (Q : Int32 → gM → gJ → Prop) : Prop :=
  vX7_within a1 (0 : Int32) (1023 : Int32) (fun x1132 => (¬ x1132 = 0 → ((¬ (ν 32 5) = 0 → (Q (ν 32 9) (up2 ν 32 9 a1) τ)) ∧ ((ν 32 5) = 0 → (Q (-3) ν τ)))) ∧ (x1132 = 0 → (Q (-2) ν τ)))
def vX7_empty_32B (a1 : Int32) (Q : Int32 → gM → gJ → Prop) (K32 : Int32 → Int32 → gM → gJ → Prop) (v2 : Int32) (v3 : Int32) (ν : gM) (τ : gJ) : Prop :=
  (a1 < v3 → (Q v2 ν τ)) ∧ (¬ a1 < v3 → (vp_in v3 1010 ∧ ((ν 39 v3.toNatClampNeg) = (-9) → (K32 (v2 + 0) (v3 + 1) ν τ)) ∧ (¬ (ν 39 v3.toNatClampNeg) = (-9) → (vp_in v3 1010 ∧ K32 (v2 + (((ν 32 9) >>> ((ν 39 v3.toNatClampNeg) &&& 31)) &&& 1)) (v3 + 1) ν τ))))
def vX7_empty_32 (a1 : Int32) (Q : Int32 → gM → gJ → Prop) : Nat → Int32 → Int32 → gM → gJ → Prop
  | 0, _, _, _, _ => False
  | n + 1, v2, v3, ν, τ => vX7_empty_32B a1 Q (vX7_empty_32 a1 Q n) v2 v3 ν τ
def vX7_empty (a1 : Int32) (ν : gM) (τ : gJ) (Q : Int32 → gM → gJ → Prop) : Prop :=
  vX7_within a1 (0 : Int32) (999 : Int32) (fun x1135 => (¬ x1135 = 0 → (vX7_isGood ν τ (fun x1137 ν1138 τ1139 => (¬ x1137 = 0 → (vX7_layBalls ν1138 τ1139 (fun ν1142 τ1143 => ∃ n, vX7_empty_32 a1 Q n 0 0 ν1142 τ1143))) ∧ (x1137 = 0 → (Q (-3) ν1138 τ1139))))) ∧ (x1135 = 0 → (Q (-2) ν τ)))
def vX7_sheet_57B (a1 : Int32) (a2 : Int32) (a3 : Int32) (Q : Int32 → gM → gJ → Prop) (K57 : Int32 → gM → gJ → Prop) (v4 : Int32) (ν : gM) (τ : gJ) : Prop :=
  (40 ≤ v4 → (Q 1 ν τ)) ∧ (¬ 40 ≤ v4 → (vp_in ((40 * a1) + v4) 160 ∧ K57 (v4 + 1) (up2 ν 35 ((40 * a1) + v4).toNatClampNeg 0) τ))
def vX7_sheet_57 (a1 : Int32) (a2 : Int32) (a3 : Int32) (Q : Int32 → gM → gJ → Prop) : Nat → Int32 → gM → gJ → Prop
  | 0, _, _, _ => False
  | n + 1, v4, ν, τ => vX7_sheet_57B a1 a2 a3 Q (vX7_sheet_57 a1 a2 a3 Q n) v4 ν τ
def vX7_sheet (a1 : Int32) (a2 : Int32) (a3 : Int32) (ν : gM) (τ : gJ) (Q : Int32 → gM → gJ → Prop) : Prop :=
  vX7_isSheet a1 (fun x1148 => (¬ x1148 = 0 → (vX7_isSort a2 (fun x1150 => (x1150 = 0 → (Q (-2) (up2 ν 32 0 0) τ)) ∧ (¬ x1150 = 0 → ((a3 ≤ 40 → ((0 ≤ a3 → (vp_in a1 4 ∧ vp_in a1 4 ∧ ∃ n, vX7_sheet_57 a1 a2 a3 Q n 0 (up2 (up2 (up2 ν 32 0 0) 33 a1.toNatClampNeg a2) 34 a1.toNatClampNeg a3) τ)) ∧ (¬ 0 ≤ a3 → (vX7_fails (4 : Int32) (up2 ν 32 0 0) τ (fun x1156 ν1157 τ1158 => Q x1156 ν1157 τ1158))))) ∧ (¬ a3 ≤ 40 → (Q (-2) (up2 ν 32 0 0) τ))))))) ∧ (x1148 = 0 → (Q (-1) (up2 ν 32 0 0) τ)))
def vX7_lose (a1 : Int32) (ν : gM) (τ : gJ) (Q : Int32 → gM → gJ → Prop) : Prop :=
  vX7_isSheet a1 (fun x1161 => (¬ x1161 = 0 → (vp_in a1 4 ∧ (¬ (ν 33 a1.toNatClampNeg) = (-9) → (vp_in a1 4 ∧ Q 1 (up2 ν 33 a1.toNatClampNeg (-9)) τ)) ∧ ((ν 33 a1.toNatClampNeg) = (-9) → (vp_in a1 4 ∧ Q 0 (up2 ν 33 a1.toNatClampNeg (-9)) τ)))) ∧ (x1161 = 0 → (Q (-1) ν τ)))
def vX7_put (a1 : Int32) (a2 : Int32) (a3 : Int32) (ν : gM) (τ : gJ) (Q : Int32 → gM → gJ → Prop) : Prop :=
  vX7_isSheet a1 (fun x1167 => (¬ x1167 = 0 → (vp_in a1 4 ∧ (¬ ((up2 ν 32 0 0) 33 a1.toNatClampNeg) = (-9) → (vp_in a1 4 ∧ vX7_within a2 (0 : Int32) (((up2 ν 32 0 0) 34 a1.toNatClampNeg) - 1) (fun x1172 => (¬ x1172 = 0 → (vp_in a1 4 ∧ (¬ ((up2 ν 32 0 0) 33 a1.toNatClampNeg) = 0 → (vp_in a1 4 ∧ (¬ ((up2 ν 32 0 0) 33 a1.toNatClampNeg) = 1 → (vp_in ((40 * a1) + a2) 160 ∧ Q 1 (up2 (up2 ν 32 0 0) 35 ((40 * a1) + a2).toNatClampNeg a3) τ)) ∧ (((up2 ν 32 0 0) 33 a1.toNatClampNeg) = 1 → (vp_in ((40 * a1) + a2) 160 ∧ Q 1 (up2 (up2 ν 32 0 0) 35 ((40 * a1) + a2).toNatClampNeg a3.toInt16.toInt32) τ)))) ∧ (((up2 ν 32 0 0) 33 a1.toNatClampNeg) = 0 → (vp_in ((40 * a1) + a2) 160 ∧ Q 1 (up2 (up2 ν 32 0 0) 35 ((40 * a1) + a2).toNatClampNeg a3.toInt8.toInt32) τ)))) ∧ (x1172 = 0 → (vX7_fails (3 : Int32) (up2 ν 32 0 0) τ (fun x1181 ν1182 τ1183 => Q x1181 ν1182 τ1183)))))) ∧ (((up2 ν 32 0 0) 33 a1.toNatClampNeg) = (-9) → (vX7_fails (1 : Int32) (up2 ν 32 0 0) τ (fun x1184 ν1185 τ1186 => Q x1184 ν1185 τ1186))))) ∧ (x1167 = 0 → (Q (-1) (up2 ν 32 0 0) τ)))
def vX7_cell_50 (a1 : Int32) (a2 : Int32) (a3 : Int32) (Q : Int64 → gM → gJ → Prop)  (ν : gM) (τ : gJ) : Prop :=
  vp_in a1 4 ∧ (¬ (ν 33 a1.toNatClampNeg) = (-9) → (vp_in a1 4 ∧ vX7_within a2 (0 : Int32) ((ν 34 a1.toNatClampNeg) - 1) (fun x1201 => (¬ x1201 = 0 → (vp_in ((40 * a1) + a2) 160 ∧ Q (ν 35 ((40 * a1) + a2).toNatClampNeg).toInt64 ν τ)) ∧ (x1201 = 0 → (vX7_lost (3 : Int32) ν τ (fun x1204 ν1205 τ1206 => Q x1204 ν1205 τ1206)))))) ∧ ((ν 33 a1.toNatClampNeg) = (-9) → (vX7_lost (1 : Int32) ν τ (fun x1207 ν1208 τ1209 => Q x1207 ν1208 τ1209)))
def vX7_cell (a1 : Int32) (a2 : Int32) (a3 : Int32) (ν : gM) (τ : gJ) (Q : Int64 → gM → gJ → Prop) : Prop :=
  vX7_isSheet a1 (fun x1187 => (x1187 = 0 → (Q (-9223372036854775808) (up2 ν 32 0 0) τ)) ∧ (¬ x1187 = 0 → (vX7_isSort a3 (fun x1189 => (¬ x1189 = 0 → (vp_in a1 4 ∧ (((up2 ν 32 0 0) 33 a1.toNatClampNeg) = (-9) → (vX7_cell_50 a1 a2 a3 Q (up2 ν 32 0 0) τ)) ∧ (¬ ((up2 ν 32 0 0) 33 a1.toNatClampNeg) = (-9) → (vp_in a1 4 ∧ (((up2 ν 32 0 0) 33 a1.toNatClampNeg) = a3 → (vX7_cell_50 a1 a2 a3 Q (up2 ν 32 0 0) τ)) ∧ (¬ ((up2 ν 32 0 0) 33 a1.toNatClampNeg) = a3 → (vX7_lost (2 : Int32) (up2 ν 32 0 0) τ (fun x1195 ν1196 τ1197 => Q x1195 ν1196 τ1197))))))) ∧ (x1189 = 0 → (Q (-9223372036854775808) (up2 ν 32 0 0) τ))))))
def vX7_copy_190 (a1 : Int32) (a2 : Int32) (a3 : Int32) (a4 : Int32) (a5 : Int32) (Q : Int32 → gM → gJ → Prop) (K166 : Int32 → Int32 → gM → gJ → Prop) (v7 : Int32) (v8 : Int32) (t0 : Int32) (ν : gM) (τ : gJ) : Prop :=
  vp_in (((40 * a1) + a2) + t0) 160 ∧ vp_in (((40 * a3) + a4) + t0) 160 ∧ K166 v7 (v8 + 1) (up2 ν 35 (((40 * a3) + a4) + t0).toNatClampNeg (ν 35 (((40 * a1) + a2) + t0).toNatClampNeg)) τ
def vX7_copy_166B (a1 : Int32) (a2 : Int32) (a3 : Int32) (a4 : Int32) (a5 : Int32) (Q : Int32 → gM → gJ → Prop) (K166 : Int32 → Int32 → gM → gJ → Prop) (v7 : Int32) (v8 : Int32) (ν : gM) (τ : gJ) : Prop :=
  (a5 ≤ v8 → (Q a5 ν τ)) ∧ (¬ a5 ≤ v8 → ((v7 = 0 → (vX7_copy_190 a1 a2 a3 a4 a5 Q K166 v7 v8 v8 ν τ)) ∧ (¬ v7 = 0 → (vX7_copy_190 a1 a2 a3 a4 a5 Q K166 v7 v8 ((a5 - 1) - v8) ν τ))))
def vX7_copy_166 (a1 : Int32) (a2 : Int32) (a3 : Int32) (a4 : Int32) (a5 : Int32) (Q : Int32 → gM → gJ → Prop) : Nat → Int32 → Int32 → gM → gJ → Prop
  | 0, _, _, _, _ => False
  | n + 1, v7, v8, ν, τ => vX7_copy_166B a1 a2 a3 a4 a5 Q (vX7_copy_166 a1 a2 a3 a4 a5 Q n) v7 v8 ν τ
def vX7_copy_110 (a1 : Int32) (a2 : Int32) (a3 : Int32) (a4 : Int32) (a5 : Int32) (Q : Int32 → gM → gJ → Prop) (t0 : Int32) (ν : gM) (τ : gJ) : Prop :=
  (t0 = 0 → (vX7_fails (3 : Int32) ν τ (fun x1238 ν1239 τ1240 => Q x1238 ν1239 τ1240))) ∧ (¬ t0 = 0 → (vp_in a1 4 ∧ (((ν 34 a1.toNatClampNeg) - a2) < a5 → (vX7_fails (3 : Int32) ν τ (fun x1243 ν1244 τ1245 => Q x1243 ν1244 τ1245))) ∧ (¬ ((ν 34 a1.toNatClampNeg) - a2) < a5 → (vp_in a3 4 ∧ (a5 ≤ ((ν 34 a3.toNatClampNeg) - a4) → ((a4 ≤ a2 → (∃ n, vX7_copy_166 a1 a2 a3 a4 a5 Q n 0 0 ν τ)) ∧ (¬ a4 ≤ a2 → (∃ n, vX7_copy_166 a1 a2 a3 a4 a5 Q n 1 0 ν τ)))) ∧ (¬ a5 ≤ ((ν 34 a3.toNatClampNeg) - a4) → (vX7_fails (3 : Int32) ν τ (fun x1249 ν1250 τ1251 => Q x1249 ν1250 τ1251)))))))
def vX7_copy_109 (a1 : Int32) (a2 : Int32) (a3 : Int32) (a4 : Int32) (a5 : Int32) (Q : Int32 → gM → gJ → Prop)  (ν : gM) (τ : gJ) : Prop :=
  vX7_copy_110 a1 a2 a3 a4 a5 Q 0 ν τ
def vX7_copy (a1 : Int32) (a2 : Int32) (a3 : Int32) (a4 : Int32) (a5 : Int32) (ν : gM) (τ : gJ) (Q : Int32 → gM → gJ → Prop) : Prop :=
  vX7_isSheet a1 (fun x1210 => (x1210 = 0 → (Q (-1) (up2 ν 32 0 0) τ)) ∧ (¬ x1210 = 0 → (vX7_isSheet a3 (fun x1212 => (¬ x1212 = 0 → (vp_in a1 4 ∧ (((up2 ν 32 0 0) 33 a1.toNatClampNeg) = (-9) → (vX7_fails (1 : Int32) (up2 ν 32 0 0) τ (fun x1216 ν1217 τ1218 => Q x1216 ν1217 τ1218))) ∧ (¬ ((up2 ν 32 0 0) 33 a1.toNatClampNeg) = (-9) → (vp_in a3 4 ∧ (¬ ((up2 ν 32 0 0) 33 a3.toNatClampNeg) = (-9) → (vp_in a1 4 ∧ vp_in a3 4 ∧ (((up2 ν 32 0 0) 33 a1.toNatClampNeg) = ((up2 ν 32 0 0) 33 a3.toNatClampNeg) → ((a2 < 0 → (vX7_copy_109 a1 a2 a3 a4 a5 Q (up2 ν 32 0 0) τ)) ∧ (¬ a2 < 0 → ((a4 < 0 → (vX7_copy_109 a1 a2 a3 a4 a5 Q (up2 ν 32 0 0) τ)) ∧ (¬ a4 < 0 → ((a5 < 0 → (vX7_copy_109 a1 a2 a3 a4 a5 Q (up2 ν 32 0 0) τ)) ∧ (¬ a5 < 0 → (vp_in a1 4 ∧ (((up2 ν 32 0 0) 34 a1.toNatClampNeg) < a2 → (vX7_copy_109 a1 a2 a3 a4 a5 Q (up2 ν 32 0 0) τ)) ∧ (¬ ((up2 ν 32 0 0) 34 a1.toNatClampNeg) < a2 → (vp_in a3 4 ∧ (((up2 ν 32 0 0) 34 a3.toNatClampNeg) < a4 → (vX7_copy_109 a1 a2 a3 a4 a5 Q (up2 ν 32 0 0) τ)) ∧ (¬ ((up2 ν 32 0 0) 34 a3.toNatClampNeg) < a4 → (vX7_copy_110 a1 a2 a3 a4 a5 Q 1 (up2 ν 32 0 0) τ)))))))))))) ∧ (¬ ((up2 ν 32 0 0) 33 a1.toNatClampNeg) = ((up2 ν 32 0 0) 33 a3.toNatClampNeg) → (vX7_fails (2 : Int32) (up2 ν 32 0 0) τ (fun x1231 ν1232 τ1233 => Q x1231 ν1232 τ1233))))) ∧ (((up2 ν 32 0 0) 33 a3.toNatClampNeg) = (-9) → (vX7_fails (1 : Int32) (up2 ν 32 0 0) τ (fun x1234 ν1235 τ1236 => Q x1234 ν1235 τ1236))))))) ∧ (x1212 = 0 → (Q (-1) (up2 ν 32 0 0) τ))))))
def vX7_begins (a1 : Int32) (ν : gM) (τ : gJ) (Q : gM → gJ → Prop) : Prop :=
  Q (up2 ν 32 1 ((31 * (ν 32 1)) + a1)) τ
def vX7_tell (a1 : Int32) (ν : gM) (τ : gJ) (Q : Int32 → gM → gJ → Prop) : Prop :=
  vX7_isBall a1 (fun x1256 => (¬ x1256 = 0 → (vp_in a1 10 ∧ ((ν 37 a1.toNatClampNeg) = 1 → (vX7_begins (2 : Int32) ν τ (fun ν1261 τ1262 => vX7_begins (1 : Int32) ν1261 τ1262 (fun ν1264 τ1265 => Q (a1 + 100) ν1264 τ1265)))) ∧ (¬ (ν 37 a1.toNatClampNeg) = 1 → (((ν 37 a1.toNatClampNeg) = 2 → (vX7_begins (3 : Int32) ν τ (fun ν1268 τ1269 => vX7_begins (2 : Int32) ν1268 τ1269 (fun ν1271 τ1272 => vX7_begins (1 : Int32) ν1271 τ1272 (fun ν1274 τ1275 => vX7_begins (1 : Int32) ν1274 τ1275 (fun ν1277 τ1278 => Q ((2 * a1) + 100) ν1277 τ1278)))))) ∧ (¬ (ν 37 a1.toNatClampNeg) = 2 → (vX7_begins (1 : Int32) ν τ (fun ν1280 τ1281 => Q a1 ν1280 τ1281))))))) ∧ (x1256 = 0 → (Q (-1) ν τ)))
def vX7_call (a1 : Int32) (ν : gM) (τ : gJ) (Q : Int32 → gM → gJ → Prop) : Prop :=
  vX7_isBall a1 (fun x1282 => (¬ x1282 = 0 → (vp_in a1 10 ∧ (¬ (ν 37 a1.toNatClampNeg) = 2 → (vX7_begins (4 : Int32) ν τ (fun ν1287 τ1288 => vp_in a1 10 ∧ (¬ (ν1287 37 a1.toNatClampNeg) = 2 → (vX7_mayGoTo a1 ν1287 τ1288 (fun x1291 ν1292 τ1293 => Q x1291 ν1292 τ1293))) ∧ ((ν1287 37 a1.toNatClampNeg) = 2 → (Q 70 ν1287 τ1288))))) ∧ ((ν 37 a1.toNatClampNeg) = 2 → (vX7_begins (5 : Int32) ν τ (fun ν1295 τ1296 => vp_in a1 10 ∧ (¬ (ν1295 37 a1.toNatClampNeg) = 2 → (vX7_mayGoTo a1 ν1295 τ1296 (fun x1299 ν1300 τ1301 => Q x1299 ν1300 τ1301))) ∧ ((ν1295 37 a1.toNatClampNeg) = 2 → (Q 70 ν1295 τ1296))))))) ∧ (x1282 = 0 → (Q (-1) ν τ)))
def vX7_as (a1 : Int32) (a2 : Int32) (ν : gM) (τ : gJ) (Q : Int32 → gM → gJ → Prop) : Prop :=
  vX7_isBall a1 (fun x1302 => (¬ x1302 = 0 → (vX7_within a2 (0 : Int32) (2 : Int32) (fun x1304 => (¬ x1304 = 0 → (vp_in a1 10 ∧ (((up2 ν 32 0 0) 37 a1.toNatClampNeg) < a2 → (vX7_fails (2 : Int32) (up2 ν 32 0 0) τ (fun x1308 ν1309 τ1310 => Q x1308 ν1309 τ1310))) ∧ (¬ ((up2 ν 32 0 0) 37 a1.toNatClampNeg) < a2 → (Q 1 (up2 ν 32 0 0) τ)))) ∧ (x1304 = 0 → (Q (-2) (up2 ν 32 0 0) τ))))) ∧ (x1302 = 0 → (Q (-1) (up2 ν 32 0 0) τ)))
def vX7_trace  (ν : gM) (τ : gJ) (Q : Int32 → gM → gJ → Prop) : Prop :=
  Q (ν 32 1) ν τ
def vX7_fault  (ν : gM) (τ : gJ) (Q : Int32 → gM → gJ → Prop) : Prop :=
  Q (ν 32 0) ν τ
def vX7_many_4B (a1 : Int32) (Q : Int32 → gM → gJ → Prop) (K4 : Int32 → Int32 → gM → gJ → Prop) (v2 : Int32) (v3 : Int32) (ν : gM) (τ : gJ) : Prop :=
  (3 ≤ v3 → ((¬ a1 = 0 → ((¬ a1 = 1 → ((¬ a1 = 2 → (Q (-2) ν τ)) ∧ (a1 = 2 → (Q v2 ν τ)))) ∧ (a1 = 1 → (Q (ν 32 7) ν τ)))) ∧ (a1 = 0 → (Q (ν 32 5) ν τ)))) ∧ (¬ 3 ≤ v3 → (vp_in v3 3 ∧ ((ν 41 v3.toNatClampNeg) ≤ 0 → (K4 (v2 + 0) (v3 + 1) ν τ)) ∧ (¬ (ν 41 v3.toNatClampNeg) ≤ 0 → (K4 (v2 + 1) (v3 + 1) ν τ))))
def vX7_many_4 (a1 : Int32) (Q : Int32 → gM → gJ → Prop) : Nat → Int32 → Int32 → gM → gJ → Prop
  | 0, _, _, _, _ => False
  | n + 1, v2, v3, ν, τ => vX7_many_4B a1 Q (vX7_many_4 a1 Q n) v2 v3 ν τ
def vX7_many (a1 : Int32) (ν : gM) (τ : gJ) (Q : Int32 → gM → gJ → Prop) : Prop :=
  ∃ n, vX7_many_4 a1 Q n 0 0 ν τ
