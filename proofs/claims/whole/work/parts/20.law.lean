theorem sw_out {x : Int32} (N : Nat) (h : ∀ k, k < N → ¬ x = (OfNat.ofNat k : Int32)) : x.toInt < 0 ∨ (N : Int) - 1 < x.toInt := by
  by_cases q : x.toInt < 0
  · exact Or.inl q
  · right
    by_cases r : (N : Int) - 1 < x.toInt
    · exact r
    · exfalso
      have hk : x.toInt.toNat < N := by omega
      have hb := Int32.toInt_lt x
      refine h x.toInt.toNat hk (Int32.toInt_inj.mp ?_)
      have e : (OfNat.ofNat x.toInt.toNat : Int32) = nI x.toInt.toNat := rfl
      rw [e, nI_toInt (by omega)]
      omega
section GLR
variable {p : Program} {l : Launch} {e : Env} {R : Room} {s : State} {m : MethodId} {args : Array Value} {below : List Frame} {meth : Method} {c : Code} {H : Heap} {locs : List Loc} {Q : State → Prop}
variable {cc : ByteArray} {pc nL : Nat} {ls : Array Slot} {rest st : List Value} {E : gE} {μ ν : gM} {τ : gJ} {own : String}
variable {y : MethodName} {bytes : ByteArray} {maxL n index : Nat} {ret : Option FieldType} {rm : Room} {As : List Value} {Qc : Array Value → State → Outcome → State → Prop}
theorem gl_bV {ci id N : Nat} {fs : List Value} {T : u_T} (C0 : CallFix p m c cc nL s args gTB own) (hK : gK E s) (hP : va_P (gD E) vwCl (wl E μ ν τ) H) (k : gCalV y bytes maxL ret n) (q : Cond.methodLink own index y ∈ gTB) (hM : Met l y (gws y bytes maxL ret) rm (gPc E (.ref (gL E id) :: As) μ ν τ) Qc 0 0 (gA E)) (hid : id < 46) (he : gen E μ ν τ id = .inr (ci, fs)) (hc : vwCl[ci]? = some (y.cls, T, N)) (hn : As.length = n) (hsize : ls.size = nL) (hst : st = As.reverse ++ .ref (gL E id) :: rest) (hW : (rest.map fun v => v.category).sum ≤ 8) (hR : gOk rm maxL room_1) (hdg : decode cc pc = .ok (.invokevirtual index, 3)) :
    va_Run p l e room_1 s m args below meth c H locs 600000 7302250 0 0 (F0 m pc ls st) rest (Qc (Value.ref (gL E id) :: As).toArray) (gA E) := by
  obtain ⟨⟨k1, k2, k3, k4, k5⟩, k6, k7⟩ := k
  refine va_runV (C := y.cls) C0 hM ⟨callB_of n C0.2.2.2.2 (gws_good k1) rfl hR.1 hR.2.1 (C0.2.2.2.2 _ k2) (C0.2.2.2.2 _ q) ⟨k3, k4, k5⟩ hR.2.2, C0.2.2.2.2 _ k6, C0.2.2.2.2 _ k7⟩ ⟨gPc_blind, ?_, fun U hU hW => ⟨rfl, by rw [hU]; exact hP, hK.moved hW⟩⟩ rfl hn hsize hst (lv_room hW) hdg ⟨Nat.le_of_ble_eq_true rfl, Nat.le_of_ble_eq_true rfl⟩
  exact va_recv hK.1 hP (ci := ci) (q0 := id) hc (wl_at hid he)
variable {a : Array Value}
theorem gl_iX {Qs : Int32 → gM → Prop} (hr : va_Run p l e R s m args below meth c H locs 600000 7302250 0 0 (F0 m pc ls st) rest (gQiX E Qs ν τ a) (gA E)) (hS : va_S (gA E) s.heap H locs)
    (kk : ∀ (r : Int32) (μ : gM) (H : Heap) (locs : List Loc), Qs r μ → va_P (gD E) vwCl (wl E μ ν τ) H → va_S (gA E) s.heap H locs → W p l e R s m args below meth c H locs 600000 7302250 Q (F0 m (pc + 3) ls (.int r :: rest))) : W p l e R s m args below meth c H locs 600000 7302250 Q (F0 m pc ls st) :=
  va_calli hr hS (fun _ _ h => h) (fun _ h => h) (fun r u t H1 locs1 ht _ hp hB _ _ hS1 => kk r u H1 locs1 hp (by rw [← ht]; exact hB) hS1)
theorem gl_lX {Qs : Int64 → gM → Prop} (hr : va_Run p l e R s m args below meth c H locs 600000 7302250 0 0 (F0 m pc ls st) rest (gQlX E Qs ν τ a) (gA E)) (hS : va_S (gA E) s.heap H locs)
    (kk : ∀ (r : Int64) (μ : gM) (H : Heap) (locs : List Loc), Qs r μ → va_P (gD E) vwCl (wl E μ ν τ) H → va_S (gA E) s.heap H locs → W p l e R s m args below meth c H locs 600000 7302250 Q (F0 m (pc + 3) ls (.long r :: rest))) : W p l e R s m args below meth c H locs 600000 7302250 Q (F0 m pc ls st) :=
  va_calll hr hS (fun _ _ h => h) (fun _ h => h) (fun r u t H1 locs1 ht _ hp hB _ _ hS1 => kk r u H1 locs1 hp (by rw [← ht]; exact hB) hS1)
theorem gl_iM {Qs : Int32 → gM → gJ → Prop} (hr : va_Run p l e R s m args below meth c H locs 600000 7302250 0 0 (F0 m pc ls st) rest (gQiM E Qs μ a) (gA E)) (hS : va_S (gA E) s.heap H locs)
    (kk : ∀ (r : Int32) (ν : gM) (τ : gJ) (H : Heap) (locs : List Loc), Qs r ν τ → va_P (gD E) vwCl (wl E μ ν τ) H → va_S (gA E) s.heap H locs → W p l e R s m args below meth c H locs 600000 7302250 Q (F0 m (pc + 3) ls (.int r :: rest))) : W p l e R s m args below meth c H locs 600000 7302250 Q (F0 m pc ls st) :=
  va_calli hr hS (fun _ _ h => h) (fun _ h => h) (fun r u t H1 locs1 ht _ hp hB _ _ hS1 => kk r u.1 u.2 H1 locs1 hp (by rw [← ht]; exact hB) hS1)
theorem gl_lM {Qs : Int64 → gM → gJ → Prop} (hr : va_Run p l e R s m args below meth c H locs 600000 7302250 0 0 (F0 m pc ls st) rest (gQlM E Qs μ a) (gA E)) (hS : va_S (gA E) s.heap H locs)
    (kk : ∀ (r : Int64) (ν : gM) (τ : gJ) (H : Heap) (locs : List Loc), Qs r ν τ → va_P (gD E) vwCl (wl E μ ν τ) H → va_S (gA E) s.heap H locs → W p l e R s m args below meth c H locs 600000 7302250 Q (F0 m (pc + 3) ls (.long r :: rest))) : W p l e R s m args below meth c H locs 600000 7302250 Q (F0 m pc ls st) :=
  va_calll hr hS (fun _ _ h => h) (fun _ h => h) (fun r u t H1 locs1 ht _ hp hB _ _ hS1 => kk r u.1 u.2 H1 locs1 hp (by rw [← ht]; exact hB) hS1)
end GLR
def R_law : String := "ThrowRowsLaw"
def lw_P (b : Addr) (xs : List Int32) (args : Array Value) (s : State) : Prop := args = #[.ref b] ∧ s.IntsAt b xs ∧ xs.length ≤ 3584 ∧ (Jvm.Cond.and given_1 narrow_1).before args s = true
def lw_Q (_ : Array Value) (s : State) (o : Outcome) (t : State) : Prop := o = .returned (some (.int 1)) ∧ Framed s o t [] 600000 7302250
def lw_Z (below : List Frame) (a : Array Value) (s : State) : State → Prop := fun t => ∃ o, t.status = .running ∧ Ended t below o ∧ lw_Q a s o t
/-- the law's own end, with 1 on the stack, nothing written that was there before, its room as the claim has it -/
theorem lw_ret {p : Program} {l : Launch} {e : Env} {s : State} {m : MethodId} {below : List Frame} {meth : Method} {c : Code} {b : Nat} (hx : p.tables.exec = Jvm.exec) (hb : c.code = code) (hr : meth.sig.returnType = ret) (hlocks : meth.locks = false) {pc : Nat} {H : Heap} {ls : Array Slot} (hdg : decode code pc = .ok (.ireturn, 1)) : W p l e room_1 s m #[Value.ref b] below meth c H [] 600000 7302250 (lw_Z below #[Value.ref b] s) (F0 m pc ls [.int 1]) := by
  intro T hT X
  obtain ⟨fs, hret, hrun, hended, hW, hframe⟩ := X.leave (v := some (.int 1)) (hlocks := hlocks) (fun h => by rw [hr] at h; cases h)
  have hmeth' : T.vm.method? m = some meth := X.method'
  refine ⟨T.setFrames fs, ?_, .returned (some (.int 1)), hrun, hended, rfl, ⟨_, rfl⟩, hW, hframe⟩
  jvm_step X.here [X.here.top, hx, hb, hdg, hmeth', hr, ret, narrow_b1]
  (try refine ⟨rfl, ?_⟩); (try refine ⟨rfl, ?_⟩)
  first | (intro acts; rw [hret _ acts rfl rfl rfl]) | rw [hret _ _ rfl rfl rfl]
  exact Steps.refl _
/-- what holds at the law's entry: the machine, the code, the tables' words (any of lw_tbl by 'hts w (by decide +kernel)'), the script of L ints xs at the cell b, what the Statement gives of the start (any of its parts by flat_of_before) -/
def lw_At (p : Program) (s : State) (m : MethodId) (meth : Method) (c : Code) (b L : Nat) (xs : Nat → Int32) : Prop :=
  p.tables.exec = Jvm.exec ∧ c.code = code ∧ meth.sig.returnType = ret ∧ c.maxLocals = 4 ∧ s.vm.findClass R_law = some m.cls ∧ (∀ w ∈ lw_tbl, w.before #[Value.ref b] s = true) ∧ va_X b L xs s s.heap ∧ b < s.heap.size ∧ meth.locks = false ∧ (Jvm.Cond.and given_1 narrow_1).before #[Value.ref b] s = true
def vL_18B (L : Nat) (xs : Nat → Int32) (K18 : Int32 → gM → gM → gJ → Prop) (v3 : Int32) (μ ν : gM) (τ : gJ) : Prop :=
  (((nI L) - 7) < v3 → True) ∧ (¬ ((nI L) - 7) < v3 → (vp_in v3 L ∧ (((xs v3.toNatClampNeg) &&& 63) = 0 → (vp_in (v3 + 1) L ∧ vp_in (v3 + 2) L ∧ vp_in (v3 + 3) L ∧ vp_in (v3 + 4) L ∧ vX6_pattern (xs (v3 + 1).toNatClampNeg) (xs (v3 + 2).toNatClampNeg) (xs (v3 + 3).toNatClampNeg) (xs (v3 + 4).toNatClampNeg) μ (fun x1323 μ1324 => vp_in (v3 + 1) L ∧ vp_in (v3 + 2) L ∧ vp_in (v3 + 3) L ∧ vp_in (v3 + 4) L ∧ vX7_pattern (xs (v3 + 1).toNatClampNeg) (xs (v3 + 2).toNatClampNeg) (xs (v3 + 3).toNatClampNeg) (xs (v3 + 4).toNatClampNeg) ν τ (fun x1329 ν1330 τ1331 => (x1323 = x1329 → (K18 (v3 + 7) μ1324 ν1330 τ1331)) ∧ (¬ x1323 = x1329 → False))))) ∧ ((((xs v3.toNatClampNeg) &&& 63) = 1 → (vp_in (v3 + 1) L ∧ vX6_throwOf (xs (v3 + 1).toNatClampNeg) μ (fun x1334 μ1335 => vp_in (v3 + 1) L ∧ vX7_throwOf (xs (v3 + 1).toNatClampNeg) ν τ (fun x1337 ν1338 τ1339 => (x1334 = x1337 → (K18 (v3 + 7) μ1335 ν1338 τ1339)) ∧ (¬ x1334 = x1337 → False))))) ∧ ((((xs v3.toNatClampNeg) &&& 63) = 2 → (vX6_clash μ (fun x1341 μ1342 => vX7_clash ν τ (fun x1343 ν1344 τ1345 => (x1341 = x1343 → (K18 (v3 + 7) μ1342 ν1344 τ1345)) ∧ (¬ x1341 = x1343 → False))))) ∧ ((((xs v3.toNatClampNeg) &&& 63) = 3 → (vp_in (v3 + 1) L ∧ vX6_good (xs (v3 + 1).toNatClampNeg) μ (fun x1348 μ1349 => vp_in (v3 + 1) L ∧ vX7_good (xs (v3 + 1).toNatClampNeg) ν τ (fun x1351 ν1352 τ1353 => (x1348 = x1351 → (K18 (v3 + 7) μ1349 ν1352 τ1353)) ∧ (¬ x1348 = x1351 → False))))) ∧ ((((xs v3.toNatClampNeg) &&& 63) = 4 → (vp_in (v3 + 1) L ∧ vX6_state (xs (v3 + 1).toNatClampNeg) μ (fun x1356 μ1357 => vp_in (v3 + 1) L ∧ vX7_state (xs (v3 + 1).toNatClampNeg) ν τ (fun x1359 ν1360 τ1361 => (x1356 = x1359 → (K18 (v3 + 7) μ1357 ν1360 τ1361)) ∧ (¬ x1356 = x1359 → False))))) ∧ ((((xs v3.toNatClampNeg) &&& 63) = 5 → (vp_in (v3 + 1) L ∧ vX6_ball (xs (v3 + 1).toNatClampNeg) μ (fun x1364 μ1365 => vp_in (v3 + 1) L ∧ vX7_ball (xs (v3 + 1).toNatClampNeg) ν τ (fun x1367 ν1368 τ1369 => (x1364 = x1367 → (K18 (v3 + 7) μ1365 ν1368 τ1369)) ∧ (¬ x1364 = x1367 → False))))) ∧ ((((xs v3.toNatClampNeg) &&& 63) = 6 → (vp_in (v3 + 1) L ∧ vX6_orbit (xs (v3 + 1).toNatClampNeg) μ (fun x1372 μ1373 => vp_in (v3 + 1) L ∧ vX7_orbit (xs (v3 + 1).toNatClampNeg) ν τ (fun x1375 ν1376 τ1377 => (x1372 = x1375 → (K18 (v3 + 7) μ1373 ν1376 τ1377)) ∧ (¬ x1372 = x1375 → False))))) ∧ ((((xs v3.toNatClampNeg) &&& 63) = 7 → (vp_in (v3 + 1) L ∧ vX6_hands (xs (v3 + 1).toNatClampNeg) μ (fun x1380 μ1381 => vp_in (v3 + 1) L ∧ vX7_hands (xs (v3 + 1).toNatClampNeg) ν τ (fun x1383 ν1384 τ1385 => (x1380 = x1383 → (K18 (v3 + 7) μ1381 ν1384 τ1385)) ∧ (¬ x1380 = x1383 → False))))) ∧ ((((xs v3.toNatClampNeg) &&& 63) = 8 → (vp_in (v3 + 1) L ∧ vp_in (v3 + 2) L ∧ vX6_beat (xs (v3 + 1).toNatClampNeg) (xs (v3 + 2).toNatClampNeg) μ (fun x1389 μ1390 => vp_in (v3 + 1) L ∧ vp_in (v3 + 2) L ∧ vX7_beat (xs (v3 + 1).toNatClampNeg) (xs (v3 + 2).toNatClampNeg) ν τ (fun x1393 ν1394 τ1395 => (x1389 = x1393 → (K18 (v3 + 7) μ1390 ν1394 τ1395)) ∧ (¬ x1389 = x1393 → False))))) ∧ ((((xs v3.toNatClampNeg) &&& 63) = 9 → (vp_in (v3 + 1) L ∧ vp_in (v3 + 2) L ∧ vX6_swap (xs (v3 + 1).toNatClampNeg) (xs (v3 + 2).toNatClampNeg) μ (fun x1399 μ1400 => vp_in (v3 + 1) L ∧ vp_in (v3 + 2) L ∧ vX7_swap (xs (v3 + 1).toNatClampNeg) (xs (v3 + 2).toNatClampNeg) ν τ (fun x1403 ν1404 τ1405 => (x1399 = x1403 → (K18 (v3 + 7) μ1400 ν1404 τ1405)) ∧ (¬ x1399 = x1403 → False))))) ∧ ((((xs v3.toNatClampNeg) &&& 63) = 10 → (vp_in (v3 + 1) L ∧ vX6_turn (xs (v3 + 1).toNatClampNeg) μ (fun x1408 μ1409 => vp_in (v3 + 1) L ∧ vX7_turn (xs (v3 + 1).toNatClampNeg) ν τ (fun x1411 ν1412 τ1413 => (x1408 = x1411 → (K18 (v3 + 7) μ1409 ν1412 τ1413)) ∧ (¬ x1408 = x1411 → False))))) ∧ ((((xs v3.toNatClampNeg) &&& 63) = 11 → (vX6_backward μ (fun x1415 μ1416 => vX7_backward ν τ (fun x1417 ν1418 τ1419 => (x1415 = x1417 → (K18 (v3 + 7) μ1416 ν1418 τ1419)) ∧ (¬ x1415 = x1417 → False))))) ∧ ((((xs v3.toNatClampNeg) &&& 63) = 12 → (vp_in (v3 + 1) L ∧ vX6_greatest (xs (v3 + 1).toNatClampNeg) μ (fun x1422 μ1423 => vp_in (v3 + 1) L ∧ vX7_greatest (xs (v3 + 1).toNatClampNeg) ν τ (fun x1425 ν1426 τ1427 => (x1422 = x1425 → (K18 (v3 + 7) μ1423 ν1426 τ1427)) ∧ (¬ x1422 = x1425 → False))))) ∧ ((((xs v3.toNatClampNeg) &&& 63) = 13 → (vp_in (v3 + 1) L ∧ vX6_keep (xs (v3 + 1).toNatClampNeg) μ (fun x1430 μ1431 => vp_in (v3 + 1) L ∧ vX7_keep (xs (v3 + 1).toNatClampNeg) ν τ (fun x1433 ν1434 τ1435 => (x1430 = x1433 → (K18 (v3 + 7) μ1431 ν1434 τ1435)) ∧ (¬ x1430 = x1433 → False))))) ∧ ((((xs v3.toNatClampNeg) &&& 63) = 14 → (vp_in (v3 + 1) L ∧ vX6_back (xs (v3 + 1).toNatClampNeg) μ (fun x1438 μ1439 => vp_in (v3 + 1) L ∧ vX7_back (xs (v3 + 1).toNatClampNeg) ν τ (fun x1441 ν1442 τ1443 => (x1438 = x1441 → (K18 (v3 + 7) μ1439 ν1442 τ1443)) ∧ (¬ x1438 = x1441 → False))))) ∧ ((((xs v3.toNatClampNeg) &&& 63) = 15 → (vp_in (v3 + 1) L ∧ vX6_like (xs (v3 + 1).toNatClampNeg) μ (fun x1446 μ1447 => vp_in (v3 + 1) L ∧ vX7_like (xs (v3 + 1).toNatClampNeg) ν τ (fun x1449 ν1450 τ1451 => (x1446 = x1449 → (K18 (v3 + 7) μ1447 ν1450 τ1451)) ∧ (¬ x1446 = x1449 → False))))) ∧ ((((xs v3.toNatClampNeg) &&& 63) = 16 → (vp_in (v3 + 1) L ∧ vp_in (v3 + 2) L ∧ vp_in (v3 + 3) L ∧ vX6_howMany (xs (v3 + 1).toNatClampNeg) (xs (v3 + 2).toNatClampNeg) (xs (v3 + 3).toNatClampNeg) μ (fun x1456 μ1457 => vp_in (v3 + 1) L ∧ vp_in (v3 + 2) L ∧ vp_in (v3 + 3) L ∧ vX7_howMany (xs (v3 + 1).toNatClampNeg) (xs (v3 + 2).toNatClampNeg) (xs (v3 + 3).toNatClampNeg) ν τ (fun x1461 ν1462 τ1463 => ((lg_cmp x1456 x1461) = 0 → (K18 (v3 + 7) μ1457 ν1462 τ1463)) ∧ (¬ (lg_cmp x1456 x1461) = 0 → False))))) ∧ ((((xs v3.toNatClampNeg) &&& 63) = 17 → (vp_in (v3 + 1) L ∧ vp_in (v3 + 2) L ∧ vp_in (v3 + 3) L ∧ vp_in (v3 + 4) L ∧ vX6_way (xs (v3 + 1).toNatClampNeg) (xs (v3 + 2).toNatClampNeg) (xs (v3 + 3).toNatClampNeg) (xs (v3 + 4).toNatClampNeg) μ (fun x1469 μ1470 => vp_in (v3 + 1) L ∧ vp_in (v3 + 2) L ∧ vp_in (v3 + 3) L ∧ vp_in (v3 + 4) L ∧ vX7_way (xs (v3 + 1).toNatClampNeg) (xs (v3 + 2).toNatClampNeg) (xs (v3 + 3).toNatClampNeg) (xs (v3 + 4).toNatClampNeg) ν τ (fun x1475 ν1476 τ1477 => (x1469 = x1475 → (K18 (v3 + 7) μ1470 ν1476 τ1477)) ∧ (¬ x1469 = x1475 → False))))) ∧ ((((xs v3.toNatClampNeg) &&& 63) = 18 → (vp_in (v3 + 1) L ∧ vp_in (v3 + 2) L ∧ vp_in (v3 + 3) L ∧ vp_in (v3 + 4) L ∧ vp_in (v3 + 5) L ∧ vp_in (v3 + 6) L ∧ vX6_filled (xs (v3 + 1).toNatClampNeg) (xs (v3 + 2).toNatClampNeg) (xs (v3 + 3).toNatClampNeg) (xs (v3 + 4).toNatClampNeg) (xs (v3 + 5).toNatClampNeg) (xs (v3 + 6).toNatClampNeg) μ (fun x1485 μ1486 => vp_in (v3 + 1) L ∧ vp_in (v3 + 2) L ∧ vp_in (v3 + 3) L ∧ vp_in (v3 + 4) L ∧ vp_in (v3 + 5) L ∧ vp_in (v3 + 6) L ∧ vX7_filled (xs (v3 + 1).toNatClampNeg) (xs (v3 + 2).toNatClampNeg) (xs (v3 + 3).toNatClampNeg) (xs (v3 + 4).toNatClampNeg) (xs (v3 + 5).toNatClampNeg) (xs (v3 + 6).toNatClampNeg) ν τ (fun x1493 ν1494 τ1495 => ((lg_cmp x1485 x1493) = 0 → (K18 (v3 + 7) μ1486 ν1494 τ1495)) ∧ (¬ (lg_cmp x1485 x1493) = 0 → False))))) ∧ ((((xs v3.toNatClampNeg) &&& 63) = 19 → (vp_in (v3 + 1) L ∧ vp_in (v3 + 2) L ∧ vX6_kind (xs (v3 + 1).toNatClampNeg) (xs (v3 + 2).toNatClampNeg) μ (fun x1499 μ1500 => vp_in (v3 + 1) L ∧ vp_in (v3 + 2) L ∧ vX7_kind (xs (v3 + 1).toNatClampNeg) (xs (v3 + 2).toNatClampNeg) ν τ (fun x1503 ν1504 τ1505 => (x1499 = x1503 → (K18 (v3 + 7) μ1500 ν1504 τ1505)) ∧ (¬ x1499 = x1503 → False))))) ∧ ((((xs v3.toNatClampNeg) &&& 63) = 20 → (vX6_broken μ (fun x1507 μ1508 => vX7_broken ν τ (fun x1509 ν1510 τ1511 => (x1507 = x1509 → (K18 (v3 + 7) μ1508 ν1510 τ1511)) ∧ (¬ x1507 = x1509 → False))))) ∧ ((((xs v3.toNatClampNeg) &&& 63) = 21 → (vp_in (v3 + 1) L ∧ vX6_drop (xs (v3 + 1).toNatClampNeg) μ (fun x1514 μ1515 => vp_in (v3 + 1) L ∧ vX7_drop (xs (v3 + 1).toNatClampNeg) ν τ (fun x1517 ν1518 τ1519 => (x1514 = x1517 → (K18 (v3 + 7) μ1515 ν1518 τ1519)) ∧ (¬ x1514 = x1517 → False))))) ∧ ((((xs v3.toNatClampNeg) &&& 63) = 22 → (vp_in (v3 + 1) L ∧ vX6_empty (xs (v3 + 1).toNatClampNeg) μ (fun x1522 μ1523 => vp_in (v3 + 1) L ∧ vX7_empty (xs (v3 + 1).toNatClampNeg) ν τ (fun x1525 ν1526 τ1527 => (x1522 = x1525 → (K18 (v3 + 7) μ1523 ν1526 τ1527)) ∧ (¬ x1522 = x1525 → False))))) ∧ ((((xs v3.toNatClampNeg) &&& 63) = 23 → (vp_in (v3 + 1) L ∧ vp_in (v3 + 2) L ∧ vp_in (v3 + 3) L ∧ vX6_sheet (xs (v3 + 1).toNatClampNeg) (xs (v3 + 2).toNatClampNeg) (xs (v3 + 3).toNatClampNeg) μ (fun x1532 μ1533 => vp_in (v3 + 1) L ∧ vp_in (v3 + 2) L ∧ vp_in (v3 + 3) L ∧ vX7_sheet (xs (v3 + 1).toNatClampNeg) (xs (v3 + 2).toNatClampNeg) (xs (v3 + 3).toNatClampNeg) ν τ (fun x1537 ν1538 τ1539 => (x1532 = x1537 → (K18 (v3 + 7) μ1533 ν1538 τ1539)) ∧ (¬ x1532 = x1537 → False))))) ∧ ((((xs v3.toNatClampNeg) &&& 63) = 24 → (vp_in (v3 + 1) L ∧ vX6_lose (xs (v3 + 1).toNatClampNeg) μ (fun x1542 μ1543 => vp_in (v3 + 1) L ∧ vX7_lose (xs (v3 + 1).toNatClampNeg) ν τ (fun x1545 ν1546 τ1547 => (x1542 = x1545 → (K18 (v3 + 7) μ1543 ν1546 τ1547)) ∧ (¬ x1542 = x1545 → False))))) ∧ ((((xs v3.toNatClampNeg) &&& 63) = 25 → (vp_in (v3 + 1) L ∧ vp_in (v3 + 2) L ∧ vp_in (v3 + 3) L ∧ vX6_put (xs (v3 + 1).toNatClampNeg) (xs (v3 + 2).toNatClampNeg) (xs (v3 + 3).toNatClampNeg) μ (fun x1552 μ1553 => vp_in (v3 + 1) L ∧ vp_in (v3 + 2) L ∧ vp_in (v3 + 3) L ∧ vX7_put (xs (v3 + 1).toNatClampNeg) (xs (v3 + 2).toNatClampNeg) (xs (v3 + 3).toNatClampNeg) ν τ (fun x1557 ν1558 τ1559 => (x1552 = x1557 → (K18 (v3 + 7) μ1553 ν1558 τ1559)) ∧ (¬ x1552 = x1557 → False))))) ∧ ((((xs v3.toNatClampNeg) &&& 63) = 26 → (vp_in (v3 + 1) L ∧ vp_in (v3 + 2) L ∧ vp_in (v3 + 3) L ∧ vX6_cell (xs (v3 + 1).toNatClampNeg) (xs (v3 + 2).toNatClampNeg) (xs (v3 + 3).toNatClampNeg) μ (fun x1564 μ1565 => vp_in (v3 + 1) L ∧ vp_in (v3 + 2) L ∧ vp_in (v3 + 3) L ∧ vX7_cell (xs (v3 + 1).toNatClampNeg) (xs (v3 + 2).toNatClampNeg) (xs (v3 + 3).toNatClampNeg) ν τ (fun x1569 ν1570 τ1571 => ((lg_cmp x1564 x1569) = 0 → (K18 (v3 + 7) μ1565 ν1570 τ1571)) ∧ (¬ (lg_cmp x1564 x1569) = 0 → False))))) ∧ ((((xs v3.toNatClampNeg) &&& 63) = 27 → (vp_in (v3 + 1) L ∧ vp_in (v3 + 2) L ∧ vp_in (v3 + 3) L ∧ vp_in (v3 + 4) L ∧ vp_in (v3 + 5) L ∧ vX6_copy (xs (v3 + 1).toNatClampNeg) (xs (v3 + 2).toNatClampNeg) (xs (v3 + 3).toNatClampNeg) (xs (v3 + 4).toNatClampNeg) (xs (v3 + 5).toNatClampNeg) μ (fun x1578 μ1579 => vp_in (v3 + 1) L ∧ vp_in (v3 + 2) L ∧ vp_in (v3 + 3) L ∧ vp_in (v3 + 4) L ∧ vp_in (v3 + 5) L ∧ vX7_copy (xs (v3 + 1).toNatClampNeg) (xs (v3 + 2).toNatClampNeg) (xs (v3 + 3).toNatClampNeg) (xs (v3 + 4).toNatClampNeg) (xs (v3 + 5).toNatClampNeg) ν τ (fun x1585 ν1586 τ1587 => (x1578 = x1585 → (K18 (v3 + 7) μ1579 ν1586 τ1587)) ∧ (¬ x1578 = x1585 → False))))) ∧ ((((xs v3.toNatClampNeg) &&& 63) = 28 → (vp_in (v3 + 1) L ∧ vX6_tell (xs (v3 + 1).toNatClampNeg) μ (fun x1590 μ1591 => vp_in (v3 + 1) L ∧ vX7_tell (xs (v3 + 1).toNatClampNeg) ν τ (fun x1593 ν1594 τ1595 => (x1590 = x1593 → (K18 (v3 + 7) μ1591 ν1594 τ1595)) ∧ (¬ x1590 = x1593 → False))))) ∧ ((((xs v3.toNatClampNeg) &&& 63) = 29 → (vp_in (v3 + 1) L ∧ vX6_call (xs (v3 + 1).toNatClampNeg) μ (fun x1598 μ1599 => vp_in (v3 + 1) L ∧ vX7_call (xs (v3 + 1).toNatClampNeg) ν τ (fun x1601 ν1602 τ1603 => (x1598 = x1601 → (K18 (v3 + 7) μ1599 ν1602 τ1603)) ∧ (¬ x1598 = x1601 → False))))) ∧ ((((xs v3.toNatClampNeg) &&& 63) = 30 → (vp_in (v3 + 1) L ∧ vp_in (v3 + 2) L ∧ vX6_as (xs (v3 + 1).toNatClampNeg) (xs (v3 + 2).toNatClampNeg) μ (fun x1607 μ1608 => vp_in (v3 + 1) L ∧ vp_in (v3 + 2) L ∧ vX7_as (xs (v3 + 1).toNatClampNeg) (xs (v3 + 2).toNatClampNeg) ν τ (fun x1611 ν1612 τ1613 => (x1607 = x1611 → (K18 (v3 + 7) μ1608 ν1612 τ1613)) ∧ (¬ x1607 = x1611 → False))))) ∧ ((((xs v3.toNatClampNeg) &&& 63) = 31 → (vX6_trace μ (fun x1615 μ1616 => vX7_trace ν τ (fun x1617 ν1618 τ1619 => (x1615 = x1617 → (K18 (v3 + 7) μ1616 ν1618 τ1619)) ∧ (¬ x1615 = x1617 → False))))) ∧ ((((xs v3.toNatClampNeg) &&& 63) = 32 → (vX6_fault μ (fun x1621 μ1622 => vX7_fault ν τ (fun x1623 ν1624 τ1625 => (x1621 = x1623 → (K18 (v3 + 7) μ1622 ν1624 τ1625)) ∧ (¬ x1621 = x1623 → False))))) ∧ ((((xs v3.toNatClampNeg) &&& 63) = 33 → (vp_in (v3 + 1) L ∧ vX6_many (xs (v3 + 1).toNatClampNeg) μ (fun x1628 μ1629 => vp_in (v3 + 1) L ∧ vX7_many (xs (v3 + 1).toNatClampNeg) ν τ (fun x1631 ν1632 τ1633 => (x1628 = x1631 → (K18 (v3 + 7) μ1629 ν1632 τ1633)) ∧ (¬ x1628 = x1631 → False))))) ∧ ((K18 (v3 + 7) μ ν τ)))))))))))))))))))))))))))))))))))))
def vL_18 (L : Nat) (xs : Nat → Int32) : Nat → Int32 → gM → gM → gJ → Prop
  | 0, _, _, _, _ => False
  | n + 1, v3, μ, ν, τ => vL_18B L xs (vL_18 L xs n) v3 μ ν τ
set_option maxHeartbeats 8000000 in
set_option maxRecDepth 100000 in
theorem law_walk {p : Program} {l : Launch} {e : Env} {s : State} {m : MethodId} {below : List Frame} {meth : Method} {c : Code} {b L : Nat} {xs : Nat → Int32} {E : gE} (hE : gLok E) (C0 : CallFix p m c code 4 s #[Value.ref b] gTB RL) (hK : gK E s) (hr : meth.sig.returnType = ret) (hlocks : meth.locks = false) (hX : va_X b L xs s s.heap) (hbl : b < s.heap.size) (hbA : ¬ gA E b) (hnew : ∀ id, id < 46 → s.heap.size ≤ gL E id) : ∀ (n : Nat) (v3 : Int32) (μ ν : gM) (τ : gJ) (H : Heap) (locs : List Loc) (ls : Array Slot), va_P (gD E) vwCl (wl E μ ν τ) H → va_S (gA E) s.heap H locs → lv_has ls 4 [(0, .ref b), (1, .ref (gL E 31)), (2, .ref (gL E 32)), (3, .int v3)] → vL_18 L xs n v3 μ ν τ → W p l e room_1 s m #[Value.ref b] below meth c H locs 600000 7302250 (lw_Z below #[Value.ref b] s) (F0 m 18 ls []) := by
  have hx := C0.1
  have hb := C0.2.1
  have fin : ∀ (H : Heap) (locs : List Loc), va_S (gA E) s.heap H locs → ∀ (pc : Nat) (ls : Array Slot), decode code pc = .ok (.ireturn, 1) → W p l e room_1 s m #[Value.ref b] below meth c H locs 600000 7302250 (lw_Z below #[Value.ref b] s) (F0 m pc ls [.int 1]) := by
    intro H locs hS pc ls hdg
    refine va_forget (fun q hq => ?_) (lw_ret hx hb hr hlocks hdg)
    obtain ⟨id, h1, h2⟩ := hS.2.2 q hq
    rw [h2]; exact hnew id h1
  intro n
  induction n with
  | zero => intro v3 μ ν τ H locs ls hP hS hl hv; exact False.elim hv
  | succ n ih =>
    intro v3 μ ν τ H locs ls hP hS hl hv
    have hv : vL_18B L xs (vL_18 L xs n) v3 μ ν τ := hv
    unfold vL_18B at hv
    refine lv_iload_n hx hb dL_law_18 rfl (lv_at hl 3 rfl) (lv_aload_n hx hb dL_law_19 rfl (lv_at hl 0 rfl) (va_slen hx hb hX hbl hbA hS dL_law_20 (lv_bipush (v := 7) hx hb dL_law_21 (by decide) (lv_isub hx hb dL_law_23 ?_))))
    refine lv_icmp_gt (tgt := 1197) hx hb dL_law_24 (by decide) (fun c1317 => ?_) (fun c1317 => ?_)
    · have hv := hv.1 c1317
      refine lv_iconst (v := 1) hx hb dL_law_1197 (by decide) ?_
      exact fin H locs hS 1198 ls dL_law_1198
    · have hv := hv.2 c1317
      refine lv_aload_n hx hb dL_law_27 rfl (lv_at hl 0 rfl) (lv_iload_n hx hb dL_law_28 rfl (lv_at hl 3 rfl) ?_)
      have hi1318 := hv.1
      have hv := hv.2
      refine va_sld hx hb hX hbl hbA hS hi1318 dL_law_29 (lv_bipush (v := 63) hx hb dL_law_30 (by decide) (lv_iand hx hb dL_law_32 ?_))
      have hx0 : ((xs v3.toNatClampNeg) &&& 63) = ((xs v3.toNatClampNeg) &&& 63) := rfl
      by_cases ck0 : ((xs v3.toNatClampNeg) &&& 63) = 0
      · refine lv_tableIn (tgt := 184) (off := 151) hx hb dL_law_33 (by rw [ck0]; decide) (by rw [ck0]; decide) (by rw [ck0]; rfl) (by decide) ?_
        have hv := hv.1 ck0
        refine lv_aload_n hx hb dL_law_184 rfl (lv_at hl 1 rfl) (lv_aload_n hx hb dL_law_185 rfl (lv_at hl 0 rfl) (lv_iload_n hx hb dL_law_186 rfl (lv_at hl 3 rfl) (lv_iconst (v := 1) hx hb dL_law_187 (by decide) (lv_iadd hx hb dL_law_188 ?_))))
        have hi1319 := hv.1
        have hv := hv.2
        refine va_sld hx hb hX hbl hbA hS hi1319 dL_law_189 (lv_aload_n hx hb dL_law_190 rfl (lv_at hl 0 rfl) (lv_iload_n hx hb dL_law_191 rfl (lv_at hl 3 rfl) (lv_iconst (v := 2) hx hb dL_law_192 (by decide) (lv_iadd hx hb dL_law_193 ?_))))
        have hi1320 := hv.1
        have hv := hv.2
        refine va_sld hx hb hX hbl hbA hS hi1320 dL_law_194 (lv_aload_n hx hb dL_law_195 rfl (lv_at hl 0 rfl) (lv_iload_n hx hb dL_law_196 rfl (lv_at hl 3 rfl) (lv_iconst (v := 3) hx hb dL_law_197 (by decide) (lv_iadd hx hb dL_law_198 ?_))))
        have hi1321 := hv.1
        have hv := hv.2
        refine va_sld hx hb hX hbl hbA hS hi1321 dL_law_199 (lv_aload_n hx hb dL_law_200 rfl (lv_at hl 0 rfl) (lv_iload_n hx hb dL_law_201 rfl (lv_at hl 3 rfl) (lv_iconst (v := 4) hx hb dL_law_202 (by decide) (lv_iadd hx hb dL_law_203 ?_))))
        have hi1322 := hv.1
        have hv := hv.2
        refine va_sld hx hb hX hbl hbA hS hi1322 dL_law_204 ?_
        refine gl_iX (gl_bV (As := [.int (xs (v3 + 1).toNatClampNeg), .int (xs (v3 + 2).toNatClampNeg), .int (xs (v3 + 3).toNatClampNeg), .int (xs (v3 + 4).toNatClampNeg)]) (rest := []) C0 hK hP kX6_pattern ql_L_13 (mX6_pattern hE hv) (by decide) ge_X6 rfl rfl hl.1 rfl (Nat.le_of_ble_eq_true rfl) ⟨rfl, rfl, Nat.le_of_ble_eq_true rfl, Nat.le_of_ble_eq_true rfl⟩ dL_law_205) hS (fun x1323 μ1324 H locs hv hP hS => ?_)
        refine lv_aload_n hx hb dL_law_208 rfl (lv_at hl 2 rfl) (lv_aload_n hx hb dL_law_209 rfl (lv_at hl 0 rfl) (lv_iload_n hx hb dL_law_210 rfl (lv_at hl 3 rfl) (lv_iconst (v := 1) hx hb dL_law_211 (by decide) (lv_iadd hx hb dL_law_212 ?_))))
        have hi1325 := hv.1
        have hv := hv.2
        refine va_sld hx hb hX hbl hbA hS hi1325 dL_law_213 (lv_aload_n hx hb dL_law_214 rfl (lv_at hl 0 rfl) (lv_iload_n hx hb dL_law_215 rfl (lv_at hl 3 rfl) (lv_iconst (v := 2) hx hb dL_law_216 (by decide) (lv_iadd hx hb dL_law_217 ?_))))
        have hi1326 := hv.1
        have hv := hv.2
        refine va_sld hx hb hX hbl hbA hS hi1326 dL_law_218 (lv_aload_n hx hb dL_law_219 rfl (lv_at hl 0 rfl) (lv_iload_n hx hb dL_law_220 rfl (lv_at hl 3 rfl) (lv_iconst (v := 3) hx hb dL_law_221 (by decide) (lv_iadd hx hb dL_law_222 ?_))))
        have hi1327 := hv.1
        have hv := hv.2
        refine va_sld hx hb hX hbl hbA hS hi1327 dL_law_223 (lv_aload_n hx hb dL_law_224 rfl (lv_at hl 0 rfl) (lv_iload_n hx hb dL_law_225 rfl (lv_at hl 3 rfl) (lv_iconst (v := 4) hx hb dL_law_226 (by decide) (lv_iadd hx hb dL_law_227 ?_))))
        have hi1328 := hv.1
        have hv := hv.2
        refine va_sld hx hb hX hbl hbA hS hi1328 dL_law_228 ?_
        refine gl_iM (gl_bV (As := [.int (xs (v3 + 1).toNatClampNeg), .int (xs (v3 + 2).toNatClampNeg), .int (xs (v3 + 3).toNatClampNeg), .int (xs (v3 + 4).toNatClampNeg)]) (rest := [.int x1323]) C0 hK hP kX7_pattern ql_L_17 (mX7_pattern hE hv) (by decide) ge_X7 rfl rfl hl.1 rfl (Nat.le_of_ble_eq_true rfl) ⟨rfl, rfl, Nat.le_of_ble_eq_true rfl, Nat.le_of_ble_eq_true rfl⟩ dL_law_229) hS (fun x1329 ν1330 τ1331 H locs hv hP hS => ?_)
        refine lv_icmp_eq (tgt := 1191) hx hb dL_law_232 (by decide) (fun c1332 => ?_) (fun c1332 => ?_)
        · have hv := hv.1 c1332
          refine lv_iinc (v := (v3 + 7)) (lv' := [(3, .int (v3 + 7)), (0, .ref b), (1, .ref (gL E 31)), (2, .ref (gL E 32))]) hx hb dL_law_1191 hl (k := 3) rfl rfl (by decide) rfl (fun ls hl => (lv_goto (tgt := 18) hx hb dL_law_1194 (by decide) ?_))
          exact ih (v3 + 7) μ1324 ν1330 τ1331 H locs ls hP hS (lv_sub hl [1, 2, 3, 0] rfl) hv
        · have hv := hv.2 c1332
          refine lv_iconst (v := 0) hx hb dL_law_235 (by decide) ?_
          exact False.elim hv
      by_cases ck1 : ((xs v3.toNatClampNeg) &&& 63) = 1
      · clear ck0
        refine lv_tableIn (tgt := 237) (off := 204) hx hb dL_law_33 (by rw [ck1]; decide) (by rw [ck1]; decide) (by rw [ck1]; rfl) (by decide) ?_
        have hv := hv.2.1 ck1
        refine lv_aload_n hx hb dL_law_237 rfl (lv_at hl 1 rfl) (lv_aload_n hx hb dL_law_238 rfl (lv_at hl 0 rfl) (lv_iload_n hx hb dL_law_239 rfl (lv_at hl 3 rfl) (lv_iconst (v := 1) hx hb dL_law_240 (by decide) (lv_iadd hx hb dL_law_241 ?_))))
        have hi1333 := hv.1
        have hv := hv.2
        refine va_sld hx hb hX hbl hbA hS hi1333 dL_law_242 ?_
        refine gl_iX (gl_bV (As := [.int (xs (v3 + 1).toNatClampNeg)]) (rest := []) C0 hK hP kX6_throwOf ql_L_18 (mX6_throwOf hE hv) (by decide) ge_X6 rfl rfl hl.1 rfl (Nat.le_of_ble_eq_true rfl) ⟨rfl, rfl, Nat.le_of_ble_eq_true rfl, Nat.le_of_ble_eq_true rfl⟩ dL_law_243) hS (fun x1334 μ1335 H locs hv hP hS => ?_)
        refine lv_aload_n hx hb dL_law_246 rfl (lv_at hl 2 rfl) (lv_aload_n hx hb dL_law_247 rfl (lv_at hl 0 rfl) (lv_iload_n hx hb dL_law_248 rfl (lv_at hl 3 rfl) (lv_iconst (v := 1) hx hb dL_law_249 (by decide) (lv_iadd hx hb dL_law_250 ?_))))
        have hi1336 := hv.1
        have hv := hv.2
        refine va_sld hx hb hX hbl hbA hS hi1336 dL_law_251 ?_
        refine gl_iM (gl_bV (As := [.int (xs (v3 + 1).toNatClampNeg)]) (rest := [.int x1334]) C0 hK hP kX7_throwOf ql_L_22 (mX7_throwOf hE hv) (by decide) ge_X7 rfl rfl hl.1 rfl (Nat.le_of_ble_eq_true rfl) ⟨rfl, rfl, Nat.le_of_ble_eq_true rfl, Nat.le_of_ble_eq_true rfl⟩ dL_law_252) hS (fun x1337 ν1338 τ1339 H locs hv hP hS => ?_)
        refine lv_icmp_eq (tgt := 1191) hx hb dL_law_255 (by decide) (fun c1340 => ?_) (fun c1340 => ?_)
        · have hv := hv.1 c1340
          refine lv_iinc (v := (v3 + 7)) (lv' := [(3, .int (v3 + 7)), (0, .ref b), (1, .ref (gL E 31)), (2, .ref (gL E 32))]) hx hb dL_law_1191 hl (k := 3) rfl rfl (by decide) rfl (fun ls hl => (lv_goto (tgt := 18) hx hb dL_law_1194 (by decide) ?_))
          exact ih (v3 + 7) μ1335 ν1338 τ1339 H locs ls hP hS (lv_sub hl [1, 2, 3, 0] rfl) hv
        · have hv := hv.2 c1340
          refine lv_iconst (v := 0) hx hb dL_law_258 (by decide) ?_
          exact False.elim hv
      by_cases ck2 : ((xs v3.toNatClampNeg) &&& 63) = 2
      · clear ck0 ck1
        refine lv_tableIn (tgt := 260) (off := 227) hx hb dL_law_33 (by rw [ck2]; decide) (by rw [ck2]; decide) (by rw [ck2]; rfl) (by decide) ?_
        have hv := hv.2.2.1 ck2
        refine lv_aload_n hx hb dL_law_260 rfl (lv_at hl 1 rfl) ?_
        refine gl_iX (gl_bV (As := []) (rest := []) C0 hK hP kX6_clash ql_L_23 (mX6_clash hE hv) (by decide) ge_X6 rfl rfl hl.1 rfl (Nat.le_of_ble_eq_true rfl) ⟨rfl, rfl, Nat.le_of_ble_eq_true rfl, Nat.le_of_ble_eq_true rfl⟩ dL_law_261) hS (fun x1341 μ1342 H locs hv hP hS => ?_)
        refine lv_aload_n hx hb dL_law_264 rfl (lv_at hl 2 rfl) ?_
        refine gl_iM (gl_bV (As := []) (rest := [.int x1341]) C0 hK hP kX7_clash ql_L_27 (mX7_clash hE hv) (by decide) ge_X7 rfl rfl hl.1 rfl (Nat.le_of_ble_eq_true rfl) ⟨rfl, rfl, Nat.le_of_ble_eq_true rfl, Nat.le_of_ble_eq_true rfl⟩ dL_law_265) hS (fun x1343 ν1344 τ1345 H locs hv hP hS => ?_)
        refine lv_icmp_eq (tgt := 1191) hx hb dL_law_268 (by decide) (fun c1346 => ?_) (fun c1346 => ?_)
        · have hv := hv.1 c1346
          refine lv_iinc (v := (v3 + 7)) (lv' := [(3, .int (v3 + 7)), (0, .ref b), (1, .ref (gL E 31)), (2, .ref (gL E 32))]) hx hb dL_law_1191 hl (k := 3) rfl rfl (by decide) rfl (fun ls hl => (lv_goto (tgt := 18) hx hb dL_law_1194 (by decide) ?_))
          exact ih (v3 + 7) μ1342 ν1344 τ1345 H locs ls hP hS (lv_sub hl [1, 2, 3, 0] rfl) hv
        · have hv := hv.2 c1346
          refine lv_iconst (v := 0) hx hb dL_law_271 (by decide) ?_
          exact False.elim hv
      by_cases ck3 : ((xs v3.toNatClampNeg) &&& 63) = 3
      · clear ck0 ck1 ck2
        refine lv_tableIn (tgt := 273) (off := 240) hx hb dL_law_33 (by rw [ck3]; decide) (by rw [ck3]; decide) (by rw [ck3]; rfl) (by decide) ?_
        have hv := hv.2.2.2.1 ck3
        refine lv_aload_n hx hb dL_law_273 rfl (lv_at hl 1 rfl) (lv_aload_n hx hb dL_law_274 rfl (lv_at hl 0 rfl) (lv_iload_n hx hb dL_law_275 rfl (lv_at hl 3 rfl) (lv_iconst (v := 1) hx hb dL_law_276 (by decide) (lv_iadd hx hb dL_law_277 ?_))))
        have hi1347 := hv.1
        have hv := hv.2
        refine va_sld hx hb hX hbl hbA hS hi1347 dL_law_278 ?_
        refine gl_iX (gl_bV (As := [.int (xs (v3 + 1).toNatClampNeg)]) (rest := []) C0 hK hP kX6_good ql_L_28 (mX6_good hE hv) (by decide) ge_X6 rfl rfl hl.1 rfl (Nat.le_of_ble_eq_true rfl) ⟨rfl, rfl, Nat.le_of_ble_eq_true rfl, Nat.le_of_ble_eq_true rfl⟩ dL_law_279) hS (fun x1348 μ1349 H locs hv hP hS => ?_)
        refine lv_aload_n hx hb dL_law_282 rfl (lv_at hl 2 rfl) (lv_aload_n hx hb dL_law_283 rfl (lv_at hl 0 rfl) (lv_iload_n hx hb dL_law_284 rfl (lv_at hl 3 rfl) (lv_iconst (v := 1) hx hb dL_law_285 (by decide) (lv_iadd hx hb dL_law_286 ?_))))
        have hi1350 := hv.1
        have hv := hv.2
        refine va_sld hx hb hX hbl hbA hS hi1350 dL_law_287 ?_
        refine gl_iM (gl_bV (As := [.int (xs (v3 + 1).toNatClampNeg)]) (rest := [.int x1348]) C0 hK hP kX7_good ql_L_31 (mX7_good hE hv) (by decide) ge_X7 rfl rfl hl.1 rfl (Nat.le_of_ble_eq_true rfl) ⟨rfl, rfl, Nat.le_of_ble_eq_true rfl, Nat.le_of_ble_eq_true rfl⟩ dL_law_288) hS (fun x1351 ν1352 τ1353 H locs hv hP hS => ?_)
        refine lv_icmp_eq (tgt := 1191) hx hb dL_law_291 (by decide) (fun c1354 => ?_) (fun c1354 => ?_)
        · have hv := hv.1 c1354
          refine lv_iinc (v := (v3 + 7)) (lv' := [(3, .int (v3 + 7)), (0, .ref b), (1, .ref (gL E 31)), (2, .ref (gL E 32))]) hx hb dL_law_1191 hl (k := 3) rfl rfl (by decide) rfl (fun ls hl => (lv_goto (tgt := 18) hx hb dL_law_1194 (by decide) ?_))
          exact ih (v3 + 7) μ1349 ν1352 τ1353 H locs ls hP hS (lv_sub hl [1, 2, 3, 0] rfl) hv
        · have hv := hv.2 c1354
          refine lv_iconst (v := 0) hx hb dL_law_294 (by decide) ?_
          exact False.elim hv
      by_cases ck4 : ((xs v3.toNatClampNeg) &&& 63) = 4
      · clear ck0 ck1 ck2 ck3
        refine lv_tableIn (tgt := 296) (off := 263) hx hb dL_law_33 (by rw [ck4]; decide) (by rw [ck4]; decide) (by rw [ck4]; rfl) (by decide) ?_
        have hv := hv.2.2.2.2.1 ck4
        refine lv_aload_n hx hb dL_law_296 rfl (lv_at hl 1 rfl) (lv_aload_n hx hb dL_law_297 rfl (lv_at hl 0 rfl) (lv_iload_n hx hb dL_law_298 rfl (lv_at hl 3 rfl) (lv_iconst (v := 1) hx hb dL_law_299 (by decide) (lv_iadd hx hb dL_law_300 ?_))))
        have hi1355 := hv.1
        have hv := hv.2
        refine va_sld hx hb hX hbl hbA hS hi1355 dL_law_301 ?_
        refine gl_iX (gl_bV (As := [.int (xs (v3 + 1).toNatClampNeg)]) (rest := []) C0 hK hP kX6_state ql_L_32 (mX6_state hE hv) (by decide) ge_X6 rfl rfl hl.1 rfl (Nat.le_of_ble_eq_true rfl) ⟨rfl, rfl, Nat.le_of_ble_eq_true rfl, Nat.le_of_ble_eq_true rfl⟩ dL_law_302) hS (fun x1356 μ1357 H locs hv hP hS => ?_)
        refine lv_aload_n hx hb dL_law_305 rfl (lv_at hl 2 rfl) (lv_aload_n hx hb dL_law_306 rfl (lv_at hl 0 rfl) (lv_iload_n hx hb dL_law_307 rfl (lv_at hl 3 rfl) (lv_iconst (v := 1) hx hb dL_law_308 (by decide) (lv_iadd hx hb dL_law_309 ?_))))
        have hi1358 := hv.1
        have hv := hv.2
        refine va_sld hx hb hX hbl hbA hS hi1358 dL_law_310 ?_
        refine gl_iM (gl_bV (As := [.int (xs (v3 + 1).toNatClampNeg)]) (rest := [.int x1356]) C0 hK hP kX7_state ql_L_35 (mX7_state hE hv) (by decide) ge_X7 rfl rfl hl.1 rfl (Nat.le_of_ble_eq_true rfl) ⟨rfl, rfl, Nat.le_of_ble_eq_true rfl, Nat.le_of_ble_eq_true rfl⟩ dL_law_311) hS (fun x1359 ν1360 τ1361 H locs hv hP hS => ?_)
        refine lv_icmp_eq (tgt := 1191) hx hb dL_law_314 (by decide) (fun c1362 => ?_) (fun c1362 => ?_)
        · have hv := hv.1 c1362
          refine lv_iinc (v := (v3 + 7)) (lv' := [(3, .int (v3 + 7)), (0, .ref b), (1, .ref (gL E 31)), (2, .ref (gL E 32))]) hx hb dL_law_1191 hl (k := 3) rfl rfl (by decide) rfl (fun ls hl => (lv_goto (tgt := 18) hx hb dL_law_1194 (by decide) ?_))
          exact ih (v3 + 7) μ1357 ν1360 τ1361 H locs ls hP hS (lv_sub hl [1, 2, 3, 0] rfl) hv
        · have hv := hv.2 c1362
          refine lv_iconst (v := 0) hx hb dL_law_317 (by decide) ?_
          exact False.elim hv
      by_cases ck5 : ((xs v3.toNatClampNeg) &&& 63) = 5
      · clear ck0 ck1 ck2 ck3 ck4
        refine lv_tableIn (tgt := 319) (off := 286) hx hb dL_law_33 (by rw [ck5]; decide) (by rw [ck5]; decide) (by rw [ck5]; rfl) (by decide) ?_
        have hv := hv.2.2.2.2.2.1 ck5
        refine lv_aload_n hx hb dL_law_319 rfl (lv_at hl 1 rfl) (lv_aload_n hx hb dL_law_320 rfl (lv_at hl 0 rfl) (lv_iload_n hx hb dL_law_321 rfl (lv_at hl 3 rfl) (lv_iconst (v := 1) hx hb dL_law_322 (by decide) (lv_iadd hx hb dL_law_323 ?_))))
        have hi1363 := hv.1
        have hv := hv.2
        refine va_sld hx hb hX hbl hbA hS hi1363 dL_law_324 ?_
        refine gl_iX (gl_bV (As := [.int (xs (v3 + 1).toNatClampNeg)]) (rest := []) C0 hK hP kX6_ball ql_L_36 (mX6_ball hE hv) (by decide) ge_X6 rfl rfl hl.1 rfl (Nat.le_of_ble_eq_true rfl) ⟨rfl, rfl, Nat.le_of_ble_eq_true rfl, Nat.le_of_ble_eq_true rfl⟩ dL_law_325) hS (fun x1364 μ1365 H locs hv hP hS => ?_)
        refine lv_aload_n hx hb dL_law_328 rfl (lv_at hl 2 rfl) (lv_aload_n hx hb dL_law_329 rfl (lv_at hl 0 rfl) (lv_iload_n hx hb dL_law_330 rfl (lv_at hl 3 rfl) (lv_iconst (v := 1) hx hb dL_law_331 (by decide) (lv_iadd hx hb dL_law_332 ?_))))
        have hi1366 := hv.1
        have hv := hv.2
        refine va_sld hx hb hX hbl hbA hS hi1366 dL_law_333 ?_
        refine gl_iM (gl_bV (As := [.int (xs (v3 + 1).toNatClampNeg)]) (rest := [.int x1364]) C0 hK hP kX7_ball ql_L_39 (mX7_ball hE hv) (by decide) ge_X7 rfl rfl hl.1 rfl (Nat.le_of_ble_eq_true rfl) ⟨rfl, rfl, Nat.le_of_ble_eq_true rfl, Nat.le_of_ble_eq_true rfl⟩ dL_law_334) hS (fun x1367 ν1368 τ1369 H locs hv hP hS => ?_)
        refine lv_icmp_eq (tgt := 1191) hx hb dL_law_337 (by decide) (fun c1370 => ?_) (fun c1370 => ?_)
        · have hv := hv.1 c1370
          refine lv_iinc (v := (v3 + 7)) (lv' := [(3, .int (v3 + 7)), (0, .ref b), (1, .ref (gL E 31)), (2, .ref (gL E 32))]) hx hb dL_law_1191 hl (k := 3) rfl rfl (by decide) rfl (fun ls hl => (lv_goto (tgt := 18) hx hb dL_law_1194 (by decide) ?_))
          exact ih (v3 + 7) μ1365 ν1368 τ1369 H locs ls hP hS (lv_sub hl [1, 2, 3, 0] rfl) hv
        · have hv := hv.2 c1370
          refine lv_iconst (v := 0) hx hb dL_law_340 (by decide) ?_
          exact False.elim hv
      by_cases ck6 : ((xs v3.toNatClampNeg) &&& 63) = 6
      · clear ck0 ck1 ck2 ck3 ck4 ck5
        refine lv_tableIn (tgt := 342) (off := 309) hx hb dL_law_33 (by rw [ck6]; decide) (by rw [ck6]; decide) (by rw [ck6]; rfl) (by decide) ?_
        have hv := hv.2.2.2.2.2.2.1 ck6
        refine lv_aload_n hx hb dL_law_342 rfl (lv_at hl 1 rfl) (lv_aload_n hx hb dL_law_343 rfl (lv_at hl 0 rfl) (lv_iload_n hx hb dL_law_344 rfl (lv_at hl 3 rfl) (lv_iconst (v := 1) hx hb dL_law_345 (by decide) (lv_iadd hx hb dL_law_346 ?_))))
        have hi1371 := hv.1
        have hv := hv.2
        refine va_sld hx hb hX hbl hbA hS hi1371 dL_law_347 ?_
        refine gl_iX (gl_bV (As := [.int (xs (v3 + 1).toNatClampNeg)]) (rest := []) C0 hK hP kX6_orbit ql_L_40 (mX6_orbit hE hv) (by decide) ge_X6 rfl rfl hl.1 rfl (Nat.le_of_ble_eq_true rfl) ⟨rfl, rfl, Nat.le_of_ble_eq_true rfl, Nat.le_of_ble_eq_true rfl⟩ dL_law_348) hS (fun x1372 μ1373 H locs hv hP hS => ?_)
        refine lv_aload_n hx hb dL_law_351 rfl (lv_at hl 2 rfl) (lv_aload_n hx hb dL_law_352 rfl (lv_at hl 0 rfl) (lv_iload_n hx hb dL_law_353 rfl (lv_at hl 3 rfl) (lv_iconst (v := 1) hx hb dL_law_354 (by decide) (lv_iadd hx hb dL_law_355 ?_))))
        have hi1374 := hv.1
        have hv := hv.2
        refine va_sld hx hb hX hbl hbA hS hi1374 dL_law_356 ?_
        refine gl_iM (gl_bV (As := [.int (xs (v3 + 1).toNatClampNeg)]) (rest := [.int x1372]) C0 hK hP kX7_orbit ql_L_43 (mX7_orbit hE hv) (by decide) ge_X7 rfl rfl hl.1 rfl (Nat.le_of_ble_eq_true rfl) ⟨rfl, rfl, Nat.le_of_ble_eq_true rfl, Nat.le_of_ble_eq_true rfl⟩ dL_law_357) hS (fun x1375 ν1376 τ1377 H locs hv hP hS => ?_)
        refine lv_icmp_eq (tgt := 1191) hx hb dL_law_360 (by decide) (fun c1378 => ?_) (fun c1378 => ?_)
        · have hv := hv.1 c1378
          refine lv_iinc (v := (v3 + 7)) (lv' := [(3, .int (v3 + 7)), (0, .ref b), (1, .ref (gL E 31)), (2, .ref (gL E 32))]) hx hb dL_law_1191 hl (k := 3) rfl rfl (by decide) rfl (fun ls hl => (lv_goto (tgt := 18) hx hb dL_law_1194 (by decide) ?_))
          exact ih (v3 + 7) μ1373 ν1376 τ1377 H locs ls hP hS (lv_sub hl [1, 2, 3, 0] rfl) hv
        · have hv := hv.2 c1378
          refine lv_iconst (v := 0) hx hb dL_law_363 (by decide) ?_
          exact False.elim hv
      by_cases ck7 : ((xs v3.toNatClampNeg) &&& 63) = 7
      · clear ck0 ck1 ck2 ck3 ck4 ck5 ck6
        refine lv_tableIn (tgt := 365) (off := 332) hx hb dL_law_33 (by rw [ck7]; decide) (by rw [ck7]; decide) (by rw [ck7]; rfl) (by decide) ?_
        have hv := hv.2.2.2.2.2.2.2.1 ck7
        refine lv_aload_n hx hb dL_law_365 rfl (lv_at hl 1 rfl) (lv_aload_n hx hb dL_law_366 rfl (lv_at hl 0 rfl) (lv_iload_n hx hb dL_law_367 rfl (lv_at hl 3 rfl) (lv_iconst (v := 1) hx hb dL_law_368 (by decide) (lv_iadd hx hb dL_law_369 ?_))))
        have hi1379 := hv.1
        have hv := hv.2
        refine va_sld hx hb hX hbl hbA hS hi1379 dL_law_370 ?_
        refine gl_iX (gl_bV (As := [.int (xs (v3 + 1).toNatClampNeg)]) (rest := []) C0 hK hP kX6_hands ql_L_44 (mX6_hands hE hv) (by decide) ge_X6 rfl rfl hl.1 rfl (Nat.le_of_ble_eq_true rfl) ⟨rfl, rfl, Nat.le_of_ble_eq_true rfl, Nat.le_of_ble_eq_true rfl⟩ dL_law_371) hS (fun x1380 μ1381 H locs hv hP hS => ?_)
        refine lv_aload_n hx hb dL_law_374 rfl (lv_at hl 2 rfl) (lv_aload_n hx hb dL_law_375 rfl (lv_at hl 0 rfl) (lv_iload_n hx hb dL_law_376 rfl (lv_at hl 3 rfl) (lv_iconst (v := 1) hx hb dL_law_377 (by decide) (lv_iadd hx hb dL_law_378 ?_))))
        have hi1382 := hv.1
        have hv := hv.2
        refine va_sld hx hb hX hbl hbA hS hi1382 dL_law_379 ?_
        refine gl_iM (gl_bV (As := [.int (xs (v3 + 1).toNatClampNeg)]) (rest := [.int x1380]) C0 hK hP kX7_hands ql_L_47 (mX7_hands hE hv) (by decide) ge_X7 rfl rfl hl.1 rfl (Nat.le_of_ble_eq_true rfl) ⟨rfl, rfl, Nat.le_of_ble_eq_true rfl, Nat.le_of_ble_eq_true rfl⟩ dL_law_380) hS (fun x1383 ν1384 τ1385 H locs hv hP hS => ?_)
        refine lv_icmp_eq (tgt := 1191) hx hb dL_law_383 (by decide) (fun c1386 => ?_) (fun c1386 => ?_)
        · have hv := hv.1 c1386
          refine lv_iinc (v := (v3 + 7)) (lv' := [(3, .int (v3 + 7)), (0, .ref b), (1, .ref (gL E 31)), (2, .ref (gL E 32))]) hx hb dL_law_1191 hl (k := 3) rfl rfl (by decide) rfl (fun ls hl => (lv_goto (tgt := 18) hx hb dL_law_1194 (by decide) ?_))
          exact ih (v3 + 7) μ1381 ν1384 τ1385 H locs ls hP hS (lv_sub hl [1, 2, 3, 0] rfl) hv
        · have hv := hv.2 c1386
          refine lv_iconst (v := 0) hx hb dL_law_386 (by decide) ?_
          exact False.elim hv
      by_cases ck8 : ((xs v3.toNatClampNeg) &&& 63) = 8
      · clear ck0 ck1 ck2 ck3 ck4 ck5 ck6 ck7
        refine lv_tableIn (tgt := 388) (off := 355) hx hb dL_law_33 (by rw [ck8]; decide) (by rw [ck8]; decide) (by rw [ck8]; rfl) (by decide) ?_
        have hv := hv.2.2.2.2.2.2.2.2.1 ck8
        refine lv_aload_n hx hb dL_law_388 rfl (lv_at hl 1 rfl) (lv_aload_n hx hb dL_law_389 rfl (lv_at hl 0 rfl) (lv_iload_n hx hb dL_law_390 rfl (lv_at hl 3 rfl) (lv_iconst (v := 1) hx hb dL_law_391 (by decide) (lv_iadd hx hb dL_law_392 ?_))))
        have hi1387 := hv.1
        have hv := hv.2
        refine va_sld hx hb hX hbl hbA hS hi1387 dL_law_393 (lv_aload_n hx hb dL_law_394 rfl (lv_at hl 0 rfl) (lv_iload_n hx hb dL_law_395 rfl (lv_at hl 3 rfl) (lv_iconst (v := 2) hx hb dL_law_396 (by decide) (lv_iadd hx hb dL_law_397 ?_))))
        have hi1388 := hv.1
        have hv := hv.2
        refine va_sld hx hb hX hbl hbA hS hi1388 dL_law_398 ?_
        refine gl_iX (gl_bV (As := [.int (xs (v3 + 1).toNatClampNeg), .int (xs (v3 + 2).toNatClampNeg)]) (rest := []) C0 hK hP kX6_beat ql_L_48 (mX6_beat hE hv) (by decide) ge_X6 rfl rfl hl.1 rfl (Nat.le_of_ble_eq_true rfl) ⟨rfl, rfl, Nat.le_of_ble_eq_true rfl, Nat.le_of_ble_eq_true rfl⟩ dL_law_399) hS (fun x1389 μ1390 H locs hv hP hS => ?_)
        refine lv_aload_n hx hb dL_law_402 rfl (lv_at hl 2 rfl) (lv_aload_n hx hb dL_law_403 rfl (lv_at hl 0 rfl) (lv_iload_n hx hb dL_law_404 rfl (lv_at hl 3 rfl) (lv_iconst (v := 1) hx hb dL_law_405 (by decide) (lv_iadd hx hb dL_law_406 ?_))))
        have hi1391 := hv.1
        have hv := hv.2
        refine va_sld hx hb hX hbl hbA hS hi1391 dL_law_407 (lv_aload_n hx hb dL_law_408 rfl (lv_at hl 0 rfl) (lv_iload_n hx hb dL_law_409 rfl (lv_at hl 3 rfl) (lv_iconst (v := 2) hx hb dL_law_410 (by decide) (lv_iadd hx hb dL_law_411 ?_))))
        have hi1392 := hv.1
        have hv := hv.2
        refine va_sld hx hb hX hbl hbA hS hi1392 dL_law_412 ?_
        refine gl_iM (gl_bV (As := [.int (xs (v3 + 1).toNatClampNeg), .int (xs (v3 + 2).toNatClampNeg)]) (rest := [.int x1389]) C0 hK hP kX7_beat ql_L_52 (mX7_beat hE hv) (by decide) ge_X7 rfl rfl hl.1 rfl (Nat.le_of_ble_eq_true rfl) ⟨rfl, rfl, Nat.le_of_ble_eq_true rfl, Nat.le_of_ble_eq_true rfl⟩ dL_law_413) hS (fun x1393 ν1394 τ1395 H locs hv hP hS => ?_)
        refine lv_icmp_eq (tgt := 1191) hx hb dL_law_416 (by decide) (fun c1396 => ?_) (fun c1396 => ?_)
        · have hv := hv.1 c1396
          refine lv_iinc (v := (v3 + 7)) (lv' := [(3, .int (v3 + 7)), (0, .ref b), (1, .ref (gL E 31)), (2, .ref (gL E 32))]) hx hb dL_law_1191 hl (k := 3) rfl rfl (by decide) rfl (fun ls hl => (lv_goto (tgt := 18) hx hb dL_law_1194 (by decide) ?_))
          exact ih (v3 + 7) μ1390 ν1394 τ1395 H locs ls hP hS (lv_sub hl [1, 2, 3, 0] rfl) hv
        · have hv := hv.2 c1396
          refine lv_iconst (v := 0) hx hb dL_law_419 (by decide) ?_
          exact False.elim hv
      by_cases ck9 : ((xs v3.toNatClampNeg) &&& 63) = 9
      · clear ck0 ck1 ck2 ck3 ck4 ck5 ck6 ck7 ck8
        refine lv_tableIn (tgt := 421) (off := 388) hx hb dL_law_33 (by rw [ck9]; decide) (by rw [ck9]; decide) (by rw [ck9]; rfl) (by decide) ?_
        have hv := hv.2.2.2.2.2.2.2.2.2.1 ck9
        refine lv_aload_n hx hb dL_law_421 rfl (lv_at hl 1 rfl) (lv_aload_n hx hb dL_law_422 rfl (lv_at hl 0 rfl) (lv_iload_n hx hb dL_law_423 rfl (lv_at hl 3 rfl) (lv_iconst (v := 1) hx hb dL_law_424 (by decide) (lv_iadd hx hb dL_law_425 ?_))))
        have hi1397 := hv.1
        have hv := hv.2
        refine va_sld hx hb hX hbl hbA hS hi1397 dL_law_426 (lv_aload_n hx hb dL_law_427 rfl (lv_at hl 0 rfl) (lv_iload_n hx hb dL_law_428 rfl (lv_at hl 3 rfl) (lv_iconst (v := 2) hx hb dL_law_429 (by decide) (lv_iadd hx hb dL_law_430 ?_))))
        have hi1398 := hv.1
        have hv := hv.2
        refine va_sld hx hb hX hbl hbA hS hi1398 dL_law_431 ?_
        refine gl_iX (gl_bV (As := [.int (xs (v3 + 1).toNatClampNeg), .int (xs (v3 + 2).toNatClampNeg)]) (rest := []) C0 hK hP kX6_swap ql_L_53 (mX6_swap hE hv) (by decide) ge_X6 rfl rfl hl.1 rfl (Nat.le_of_ble_eq_true rfl) ⟨rfl, rfl, Nat.le_of_ble_eq_true rfl, Nat.le_of_ble_eq_true rfl⟩ dL_law_432) hS (fun x1399 μ1400 H locs hv hP hS => ?_)
        refine lv_aload_n hx hb dL_law_435 rfl (lv_at hl 2 rfl) (lv_aload_n hx hb dL_law_436 rfl (lv_at hl 0 rfl) (lv_iload_n hx hb dL_law_437 rfl (lv_at hl 3 rfl) (lv_iconst (v := 1) hx hb dL_law_438 (by decide) (lv_iadd hx hb dL_law_439 ?_))))
        have hi1401 := hv.1
        have hv := hv.2
        refine va_sld hx hb hX hbl hbA hS hi1401 dL_law_440 (lv_aload_n hx hb dL_law_441 rfl (lv_at hl 0 rfl) (lv_iload_n hx hb dL_law_442 rfl (lv_at hl 3 rfl) (lv_iconst (v := 2) hx hb dL_law_443 (by decide) (lv_iadd hx hb dL_law_444 ?_))))
        have hi1402 := hv.1
        have hv := hv.2
        refine va_sld hx hb hX hbl hbA hS hi1402 dL_law_445 ?_
        refine gl_iM (gl_bV (As := [.int (xs (v3 + 1).toNatClampNeg), .int (xs (v3 + 2).toNatClampNeg)]) (rest := [.int x1399]) C0 hK hP kX7_swap ql_L_56 (mX7_swap hE hv) (by decide) ge_X7 rfl rfl hl.1 rfl (Nat.le_of_ble_eq_true rfl) ⟨rfl, rfl, Nat.le_of_ble_eq_true rfl, Nat.le_of_ble_eq_true rfl⟩ dL_law_446) hS (fun x1403 ν1404 τ1405 H locs hv hP hS => ?_)
        refine lv_icmp_eq (tgt := 1191) hx hb dL_law_449 (by decide) (fun c1406 => ?_) (fun c1406 => ?_)
        · have hv := hv.1 c1406
          refine lv_iinc (v := (v3 + 7)) (lv' := [(3, .int (v3 + 7)), (0, .ref b), (1, .ref (gL E 31)), (2, .ref (gL E 32))]) hx hb dL_law_1191 hl (k := 3) rfl rfl (by decide) rfl (fun ls hl => (lv_goto (tgt := 18) hx hb dL_law_1194 (by decide) ?_))
          exact ih (v3 + 7) μ1400 ν1404 τ1405 H locs ls hP hS (lv_sub hl [1, 2, 3, 0] rfl) hv
        · have hv := hv.2 c1406
          refine lv_iconst (v := 0) hx hb dL_law_452 (by decide) ?_
          exact False.elim hv
      by_cases ck10 : ((xs v3.toNatClampNeg) &&& 63) = 10
      · clear ck0 ck1 ck2 ck3 ck4 ck5 ck6 ck7 ck8 ck9
        refine lv_tableIn (tgt := 454) (off := 421) hx hb dL_law_33 (by rw [ck10]; decide) (by rw [ck10]; decide) (by rw [ck10]; rfl) (by decide) ?_
        have hv := hv.2.2.2.2.2.2.2.2.2.2.1 ck10
        refine lv_aload_n hx hb dL_law_454 rfl (lv_at hl 1 rfl) (lv_aload_n hx hb dL_law_455 rfl (lv_at hl 0 rfl) (lv_iload_n hx hb dL_law_456 rfl (lv_at hl 3 rfl) (lv_iconst (v := 1) hx hb dL_law_457 (by decide) (lv_iadd hx hb dL_law_458 ?_))))
        have hi1407 := hv.1
        have hv := hv.2
        refine va_sld hx hb hX hbl hbA hS hi1407 dL_law_459 ?_
        refine gl_iX (gl_bV (As := [.int (xs (v3 + 1).toNatClampNeg)]) (rest := []) C0 hK hP kX6_turn ql_L_57 (mX6_turn hE hv) (by decide) ge_X6 rfl rfl hl.1 rfl (Nat.le_of_ble_eq_true rfl) ⟨rfl, rfl, Nat.le_of_ble_eq_true rfl, Nat.le_of_ble_eq_true rfl⟩ dL_law_460) hS (fun x1408 μ1409 H locs hv hP hS => ?_)
        refine lv_aload_n hx hb dL_law_463 rfl (lv_at hl 2 rfl) (lv_aload_n hx hb dL_law_464 rfl (lv_at hl 0 rfl) (lv_iload_n hx hb dL_law_465 rfl (lv_at hl 3 rfl) (lv_iconst (v := 1) hx hb dL_law_466 (by decide) (lv_iadd hx hb dL_law_467 ?_))))
        have hi1410 := hv.1
        have hv := hv.2
        refine va_sld hx hb hX hbl hbA hS hi1410 dL_law_468 ?_
        refine gl_iM (gl_bV (As := [.int (xs (v3 + 1).toNatClampNeg)]) (rest := [.int x1408]) C0 hK hP kX7_turn ql_L_60 (mX7_turn hE hv) (by decide) ge_X7 rfl rfl hl.1 rfl (Nat.le_of_ble_eq_true rfl) ⟨rfl, rfl, Nat.le_of_ble_eq_true rfl, Nat.le_of_ble_eq_true rfl⟩ dL_law_469) hS (fun x1411 ν1412 τ1413 H locs hv hP hS => ?_)
        refine lv_icmp_eq (tgt := 1191) hx hb dL_law_472 (by decide) (fun c1414 => ?_) (fun c1414 => ?_)
        · have hv := hv.1 c1414
          refine lv_iinc (v := (v3 + 7)) (lv' := [(3, .int (v3 + 7)), (0, .ref b), (1, .ref (gL E 31)), (2, .ref (gL E 32))]) hx hb dL_law_1191 hl (k := 3) rfl rfl (by decide) rfl (fun ls hl => (lv_goto (tgt := 18) hx hb dL_law_1194 (by decide) ?_))
          exact ih (v3 + 7) μ1409 ν1412 τ1413 H locs ls hP hS (lv_sub hl [1, 2, 3, 0] rfl) hv
        · have hv := hv.2 c1414
          refine lv_iconst (v := 0) hx hb dL_law_475 (by decide) ?_
          exact False.elim hv
      by_cases ck11 : ((xs v3.toNatClampNeg) &&& 63) = 11
      · clear ck0 ck1 ck2 ck3 ck4 ck5 ck6 ck7 ck8 ck9 ck10
        refine lv_tableIn (tgt := 477) (off := 444) hx hb dL_law_33 (by rw [ck11]; decide) (by rw [ck11]; decide) (by rw [ck11]; rfl) (by decide) ?_
        have hv := hv.2.2.2.2.2.2.2.2.2.2.2.1 ck11
        refine lv_aload_n hx hb dL_law_477 rfl (lv_at hl 1 rfl) ?_
        refine gl_iX (gl_bV (As := []) (rest := []) C0 hK hP kX6_backward ql_L_61 (mX6_backward hE hv) (by decide) ge_X6 rfl rfl hl.1 rfl (Nat.le_of_ble_eq_true rfl) ⟨rfl, rfl, Nat.le_of_ble_eq_true rfl, Nat.le_of_ble_eq_true rfl⟩ dL_law_478) hS (fun x1415 μ1416 H locs hv hP hS => ?_)
        refine lv_aload_n hx hb dL_law_481 rfl (lv_at hl 2 rfl) ?_
        refine gl_iM (gl_bV (As := []) (rest := [.int x1415]) C0 hK hP kX7_backward ql_L_64 (mX7_backward hE hv) (by decide) ge_X7 rfl rfl hl.1 rfl (Nat.le_of_ble_eq_true rfl) ⟨rfl, rfl, Nat.le_of_ble_eq_true rfl, Nat.le_of_ble_eq_true rfl⟩ dL_law_482) hS (fun x1417 ν1418 τ1419 H locs hv hP hS => ?_)
        refine lv_icmp_eq (tgt := 1191) hx hb dL_law_485 (by decide) (fun c1420 => ?_) (fun c1420 => ?_)
        · have hv := hv.1 c1420
          refine lv_iinc (v := (v3 + 7)) (lv' := [(3, .int (v3 + 7)), (0, .ref b), (1, .ref (gL E 31)), (2, .ref (gL E 32))]) hx hb dL_law_1191 hl (k := 3) rfl rfl (by decide) rfl (fun ls hl => (lv_goto (tgt := 18) hx hb dL_law_1194 (by decide) ?_))
          exact ih (v3 + 7) μ1416 ν1418 τ1419 H locs ls hP hS (lv_sub hl [1, 2, 3, 0] rfl) hv
        · have hv := hv.2 c1420
          refine lv_iconst (v := 0) hx hb dL_law_488 (by decide) ?_
          exact False.elim hv
      by_cases ck12 : ((xs v3.toNatClampNeg) &&& 63) = 12
      · clear ck0 ck1 ck2 ck3 ck4 ck5 ck6 ck7 ck8 ck9 ck10 ck11
        refine lv_tableIn (tgt := 490) (off := 457) hx hb dL_law_33 (by rw [ck12]; decide) (by rw [ck12]; decide) (by rw [ck12]; rfl) (by decide) ?_
        have hv := hv.2.2.2.2.2.2.2.2.2.2.2.2.1 ck12
        refine lv_aload_n hx hb dL_law_490 rfl (lv_at hl 1 rfl) (lv_aload_n hx hb dL_law_491 rfl (lv_at hl 0 rfl) (lv_iload_n hx hb dL_law_492 rfl (lv_at hl 3 rfl) (lv_iconst (v := 1) hx hb dL_law_493 (by decide) (lv_iadd hx hb dL_law_494 ?_))))
        have hi1421 := hv.1
        have hv := hv.2
        refine va_sld hx hb hX hbl hbA hS hi1421 dL_law_495 ?_
        refine gl_iX (gl_bV (As := [.int (xs (v3 + 1).toNatClampNeg)]) (rest := []) C0 hK hP kX6_greatest ql_L_65 (mX6_greatest hE hv) (by decide) ge_X6 rfl rfl hl.1 rfl (Nat.le_of_ble_eq_true rfl) ⟨rfl, rfl, Nat.le_of_ble_eq_true rfl, Nat.le_of_ble_eq_true rfl⟩ dL_law_496) hS (fun x1422 μ1423 H locs hv hP hS => ?_)
        refine lv_aload_n hx hb dL_law_499 rfl (lv_at hl 2 rfl) (lv_aload_n hx hb dL_law_500 rfl (lv_at hl 0 rfl) (lv_iload_n hx hb dL_law_501 rfl (lv_at hl 3 rfl) (lv_iconst (v := 1) hx hb dL_law_502 (by decide) (lv_iadd hx hb dL_law_503 ?_))))
        have hi1424 := hv.1
        have hv := hv.2
        refine va_sld hx hb hX hbl hbA hS hi1424 dL_law_504 ?_
        refine gl_iM (gl_bV (As := [.int (xs (v3 + 1).toNatClampNeg)]) (rest := [.int x1422]) C0 hK hP kX7_greatest ql_L_68 (mX7_greatest hE hv) (by decide) ge_X7 rfl rfl hl.1 rfl (Nat.le_of_ble_eq_true rfl) ⟨rfl, rfl, Nat.le_of_ble_eq_true rfl, Nat.le_of_ble_eq_true rfl⟩ dL_law_505) hS (fun x1425 ν1426 τ1427 H locs hv hP hS => ?_)
        refine lv_icmp_eq (tgt := 1191) hx hb dL_law_508 (by decide) (fun c1428 => ?_) (fun c1428 => ?_)
        · have hv := hv.1 c1428
          refine lv_iinc (v := (v3 + 7)) (lv' := [(3, .int (v3 + 7)), (0, .ref b), (1, .ref (gL E 31)), (2, .ref (gL E 32))]) hx hb dL_law_1191 hl (k := 3) rfl rfl (by decide) rfl (fun ls hl => (lv_goto (tgt := 18) hx hb dL_law_1194 (by decide) ?_))
          exact ih (v3 + 7) μ1423 ν1426 τ1427 H locs ls hP hS (lv_sub hl [1, 2, 3, 0] rfl) hv
        · have hv := hv.2 c1428
          refine lv_iconst (v := 0) hx hb dL_law_511 (by decide) ?_
          exact False.elim hv
      by_cases ck13 : ((xs v3.toNatClampNeg) &&& 63) = 13
      · clear ck0 ck1 ck2 ck3 ck4 ck5 ck6 ck7 ck8 ck9 ck10 ck11 ck12
        refine lv_tableIn (tgt := 513) (off := 480) hx hb dL_law_33 (by rw [ck13]; decide) (by rw [ck13]; decide) (by rw [ck13]; rfl) (by decide) ?_
        have hv := hv.2.2.2.2.2.2.2.2.2.2.2.2.2.1 ck13
        refine lv_aload_n hx hb dL_law_513 rfl (lv_at hl 1 rfl) (lv_aload_n hx hb dL_law_514 rfl (lv_at hl 0 rfl) (lv_iload_n hx hb dL_law_515 rfl (lv_at hl 3 rfl) (lv_iconst (v := 1) hx hb dL_law_516 (by decide) (lv_iadd hx hb dL_law_517 ?_))))
        have hi1429 := hv.1
        have hv := hv.2
        refine va_sld hx hb hX hbl hbA hS hi1429 dL_law_518 ?_
        refine gl_iX (gl_bV (As := [.int (xs (v3 + 1).toNatClampNeg)]) (rest := []) C0 hK hP kX6_keep ql_L_69 (mX6_keep hE hv) (by decide) ge_X6 rfl rfl hl.1 rfl (Nat.le_of_ble_eq_true rfl) ⟨rfl, rfl, Nat.le_of_ble_eq_true rfl, Nat.le_of_ble_eq_true rfl⟩ dL_law_519) hS (fun x1430 μ1431 H locs hv hP hS => ?_)
        refine lv_aload_n hx hb dL_law_522 rfl (lv_at hl 2 rfl) (lv_aload_n hx hb dL_law_523 rfl (lv_at hl 0 rfl) (lv_iload_n hx hb dL_law_524 rfl (lv_at hl 3 rfl) (lv_iconst (v := 1) hx hb dL_law_525 (by decide) (lv_iadd hx hb dL_law_526 ?_))))
        have hi1432 := hv.1
        have hv := hv.2
        refine va_sld hx hb hX hbl hbA hS hi1432 dL_law_527 ?_
        refine gl_iM (gl_bV (As := [.int (xs (v3 + 1).toNatClampNeg)]) (rest := [.int x1430]) C0 hK hP kX7_keep ql_L_72 (mX7_keep hE hv) (by decide) ge_X7 rfl rfl hl.1 rfl (Nat.le_of_ble_eq_true rfl) ⟨rfl, rfl, Nat.le_of_ble_eq_true rfl, Nat.le_of_ble_eq_true rfl⟩ dL_law_528) hS (fun x1433 ν1434 τ1435 H locs hv hP hS => ?_)
        refine lv_icmp_eq (tgt := 1191) hx hb dL_law_531 (by decide) (fun c1436 => ?_) (fun c1436 => ?_)
        · have hv := hv.1 c1436
          refine lv_iinc (v := (v3 + 7)) (lv' := [(3, .int (v3 + 7)), (0, .ref b), (1, .ref (gL E 31)), (2, .ref (gL E 32))]) hx hb dL_law_1191 hl (k := 3) rfl rfl (by decide) rfl (fun ls hl => (lv_goto (tgt := 18) hx hb dL_law_1194 (by decide) ?_))
          exact ih (v3 + 7) μ1431 ν1434 τ1435 H locs ls hP hS (lv_sub hl [1, 2, 3, 0] rfl) hv
        · have hv := hv.2 c1436
          refine lv_iconst (v := 0) hx hb dL_law_534 (by decide) ?_
          exact False.elim hv
      by_cases ck14 : ((xs v3.toNatClampNeg) &&& 63) = 14
      · clear ck0 ck1 ck2 ck3 ck4 ck5 ck6 ck7 ck8 ck9 ck10 ck11 ck12 ck13
        refine lv_tableIn (tgt := 536) (off := 503) hx hb dL_law_33 (by rw [ck14]; decide) (by rw [ck14]; decide) (by rw [ck14]; rfl) (by decide) ?_
        have hv := hv.2.2.2.2.2.2.2.2.2.2.2.2.2.2.1 ck14
        refine lv_aload_n hx hb dL_law_536 rfl (lv_at hl 1 rfl) (lv_aload_n hx hb dL_law_537 rfl (lv_at hl 0 rfl) (lv_iload_n hx hb dL_law_538 rfl (lv_at hl 3 rfl) (lv_iconst (v := 1) hx hb dL_law_539 (by decide) (lv_iadd hx hb dL_law_540 ?_))))
        have hi1437 := hv.1
        have hv := hv.2
        refine va_sld hx hb hX hbl hbA hS hi1437 dL_law_541 ?_
        refine gl_iX (gl_bV (As := [.int (xs (v3 + 1).toNatClampNeg)]) (rest := []) C0 hK hP kX6_back ql_L_73 (mX6_back hE hv) (by decide) ge_X6 rfl rfl hl.1 rfl (Nat.le_of_ble_eq_true rfl) ⟨rfl, rfl, Nat.le_of_ble_eq_true rfl, Nat.le_of_ble_eq_true rfl⟩ dL_law_542) hS (fun x1438 μ1439 H locs hv hP hS => ?_)
        refine lv_aload_n hx hb dL_law_545 rfl (lv_at hl 2 rfl) (lv_aload_n hx hb dL_law_546 rfl (lv_at hl 0 rfl) (lv_iload_n hx hb dL_law_547 rfl (lv_at hl 3 rfl) (lv_iconst (v := 1) hx hb dL_law_548 (by decide) (lv_iadd hx hb dL_law_549 ?_))))
        have hi1440 := hv.1
        have hv := hv.2
        refine va_sld hx hb hX hbl hbA hS hi1440 dL_law_550 ?_
        refine gl_iM (gl_bV (As := [.int (xs (v3 + 1).toNatClampNeg)]) (rest := [.int x1438]) C0 hK hP kX7_back ql_L_76 (mX7_back hE hv) (by decide) ge_X7 rfl rfl hl.1 rfl (Nat.le_of_ble_eq_true rfl) ⟨rfl, rfl, Nat.le_of_ble_eq_true rfl, Nat.le_of_ble_eq_true rfl⟩ dL_law_551) hS (fun x1441 ν1442 τ1443 H locs hv hP hS => ?_)
        refine lv_icmp_eq (tgt := 1191) hx hb dL_law_554 (by decide) (fun c1444 => ?_) (fun c1444 => ?_)
        · have hv := hv.1 c1444
          refine lv_iinc (v := (v3 + 7)) (lv' := [(3, .int (v3 + 7)), (0, .ref b), (1, .ref (gL E 31)), (2, .ref (gL E 32))]) hx hb dL_law_1191 hl (k := 3) rfl rfl (by decide) rfl (fun ls hl => (lv_goto (tgt := 18) hx hb dL_law_1194 (by decide) ?_))
          exact ih (v3 + 7) μ1439 ν1442 τ1443 H locs ls hP hS (lv_sub hl [1, 2, 3, 0] rfl) hv
        · have hv := hv.2 c1444
          refine lv_iconst (v := 0) hx hb dL_law_557 (by decide) ?_
          exact False.elim hv
      by_cases ck15 : ((xs v3.toNatClampNeg) &&& 63) = 15
      · clear ck0 ck1 ck2 ck3 ck4 ck5 ck6 ck7 ck8 ck9 ck10 ck11 ck12 ck13 ck14
        refine lv_tableIn (tgt := 559) (off := 526) hx hb dL_law_33 (by rw [ck15]; decide) (by rw [ck15]; decide) (by rw [ck15]; rfl) (by decide) ?_
        have hv := hv.2.2.2.2.2.2.2.2.2.2.2.2.2.2.2.1 ck15
        refine lv_aload_n hx hb dL_law_559 rfl (lv_at hl 1 rfl) (lv_aload_n hx hb dL_law_560 rfl (lv_at hl 0 rfl) (lv_iload_n hx hb dL_law_561 rfl (lv_at hl 3 rfl) (lv_iconst (v := 1) hx hb dL_law_562 (by decide) (lv_iadd hx hb dL_law_563 ?_))))
        have hi1445 := hv.1
        have hv := hv.2
        refine va_sld hx hb hX hbl hbA hS hi1445 dL_law_564 ?_
        refine gl_iX (gl_bV (As := [.int (xs (v3 + 1).toNatClampNeg)]) (rest := []) C0 hK hP kX6_like ql_L_77 (mX6_like hE hv) (by decide) ge_X6 rfl rfl hl.1 rfl (Nat.le_of_ble_eq_true rfl) ⟨rfl, rfl, Nat.le_of_ble_eq_true rfl, Nat.le_of_ble_eq_true rfl⟩ dL_law_565) hS (fun x1446 μ1447 H locs hv hP hS => ?_)
        refine lv_aload_n hx hb dL_law_568 rfl (lv_at hl 2 rfl) (lv_aload_n hx hb dL_law_569 rfl (lv_at hl 0 rfl) (lv_iload_n hx hb dL_law_570 rfl (lv_at hl 3 rfl) (lv_iconst (v := 1) hx hb dL_law_571 (by decide) (lv_iadd hx hb dL_law_572 ?_))))
        have hi1448 := hv.1
        have hv := hv.2
        refine va_sld hx hb hX hbl hbA hS hi1448 dL_law_573 ?_
        refine gl_iM (gl_bV (As := [.int (xs (v3 + 1).toNatClampNeg)]) (rest := [.int x1446]) C0 hK hP kX7_like ql_L_80 (mX7_like hE hv) (by decide) ge_X7 rfl rfl hl.1 rfl (Nat.le_of_ble_eq_true rfl) ⟨rfl, rfl, Nat.le_of_ble_eq_true rfl, Nat.le_of_ble_eq_true rfl⟩ dL_law_574) hS (fun x1449 ν1450 τ1451 H locs hv hP hS => ?_)
        refine lv_icmp_eq (tgt := 1191) hx hb dL_law_577 (by decide) (fun c1452 => ?_) (fun c1452 => ?_)
        · have hv := hv.1 c1452
          refine lv_iinc (v := (v3 + 7)) (lv' := [(3, .int (v3 + 7)), (0, .ref b), (1, .ref (gL E 31)), (2, .ref (gL E 32))]) hx hb dL_law_1191 hl (k := 3) rfl rfl (by decide) rfl (fun ls hl => (lv_goto (tgt := 18) hx hb dL_law_1194 (by decide) ?_))
          exact ih (v3 + 7) μ1447 ν1450 τ1451 H locs ls hP hS (lv_sub hl [1, 2, 3, 0] rfl) hv
        · have hv := hv.2 c1452
          refine lv_iconst (v := 0) hx hb dL_law_580 (by decide) ?_
          exact False.elim hv
      by_cases ck16 : ((xs v3.toNatClampNeg) &&& 63) = 16
      · clear ck0 ck1 ck2 ck3 ck4 ck5 ck6 ck7 ck8 ck9 ck10 ck11 ck12 ck13 ck14 ck15
        refine lv_tableIn (tgt := 582) (off := 549) hx hb dL_law_33 (by rw [ck16]; decide) (by rw [ck16]; decide) (by rw [ck16]; rfl) (by decide) ?_
        have hv := hv.2.2.2.2.2.2.2.2.2.2.2.2.2.2.2.2.1 ck16
        refine lv_aload_n hx hb dL_law_582 rfl (lv_at hl 1 rfl) (lv_aload_n hx hb dL_law_583 rfl (lv_at hl 0 rfl) (lv_iload_n hx hb dL_law_584 rfl (lv_at hl 3 rfl) (lv_iconst (v := 1) hx hb dL_law_585 (by decide) (lv_iadd hx hb dL_law_586 ?_))))
        have hi1453 := hv.1
        have hv := hv.2
        refine va_sld hx hb hX hbl hbA hS hi1453 dL_law_587 (lv_aload_n hx hb dL_law_588 rfl (lv_at hl 0 rfl) (lv_iload_n hx hb dL_law_589 rfl (lv_at hl 3 rfl) (lv_iconst (v := 2) hx hb dL_law_590 (by decide) (lv_iadd hx hb dL_law_591 ?_))))
        have hi1454 := hv.1
        have hv := hv.2
        refine va_sld hx hb hX hbl hbA hS hi1454 dL_law_592 (lv_aload_n hx hb dL_law_593 rfl (lv_at hl 0 rfl) (lv_iload_n hx hb dL_law_594 rfl (lv_at hl 3 rfl) (lv_iconst (v := 3) hx hb dL_law_595 (by decide) (lv_iadd hx hb dL_law_596 ?_))))
        have hi1455 := hv.1
        have hv := hv.2
        refine va_sld hx hb hX hbl hbA hS hi1455 dL_law_597 ?_
        refine gl_lX (gl_bV (As := [.int (xs (v3 + 1).toNatClampNeg), .int (xs (v3 + 2).toNatClampNeg), .int (xs (v3 + 3).toNatClampNeg)]) (rest := []) C0 hK hP kX6_howMany ql_L_81 (mX6_howMany hE hv) (by decide) ge_X6 rfl rfl hl.1 rfl (Nat.le_of_ble_eq_true rfl) ⟨rfl, rfl, Nat.le_of_ble_eq_true rfl, Nat.le_of_ble_eq_true rfl⟩ dL_law_598) hS (fun x1456 μ1457 H locs hv hP hS => ?_)
        refine lv_aload_n hx hb dL_law_601 rfl (lv_at hl 2 rfl) (lv_aload_n hx hb dL_law_602 rfl (lv_at hl 0 rfl) (lv_iload_n hx hb dL_law_603 rfl (lv_at hl 3 rfl) (lv_iconst (v := 1) hx hb dL_law_604 (by decide) (lv_iadd hx hb dL_law_605 ?_))))
        have hi1458 := hv.1
        have hv := hv.2
        refine va_sld hx hb hX hbl hbA hS hi1458 dL_law_606 (lv_aload_n hx hb dL_law_607 rfl (lv_at hl 0 rfl) (lv_iload_n hx hb dL_law_608 rfl (lv_at hl 3 rfl) (lv_iconst (v := 2) hx hb dL_law_609 (by decide) (lv_iadd hx hb dL_law_610 ?_))))
        have hi1459 := hv.1
        have hv := hv.2
        refine va_sld hx hb hX hbl hbA hS hi1459 dL_law_611 (lv_aload_n hx hb dL_law_612 rfl (lv_at hl 0 rfl) (lv_iload_n hx hb dL_law_613 rfl (lv_at hl 3 rfl) (lv_iconst (v := 3) hx hb dL_law_614 (by decide) (lv_iadd hx hb dL_law_615 ?_))))
        have hi1460 := hv.1
        have hv := hv.2
        refine va_sld hx hb hX hbl hbA hS hi1460 dL_law_616 ?_
        refine gl_lM (gl_bV (As := [.int (xs (v3 + 1).toNatClampNeg), .int (xs (v3 + 2).toNatClampNeg), .int (xs (v3 + 3).toNatClampNeg)]) (rest := [.long x1456]) C0 hK hP kX7_howMany ql_L_85 (mX7_howMany hE hv) (by decide) ge_X7 rfl rfl hl.1 rfl (Nat.le_of_ble_eq_true rfl) ⟨rfl, rfl, Nat.le_of_ble_eq_true rfl, Nat.le_of_ble_eq_true rfl⟩ dL_law_617) hS (fun x1461 ν1462 τ1463 H locs hv hP hS => ?_)
        refine W.lcmp hx hb dL_law_620 ?_
        refine lv_if_eq (tgt := 1191) hx hb dL_law_621 (by decide) (fun c1464 => ?_) (fun c1464 => ?_)
        · have hv := hv.1 c1464
          refine lv_iinc (v := (v3 + 7)) (lv' := [(3, .int (v3 + 7)), (0, .ref b), (1, .ref (gL E 31)), (2, .ref (gL E 32))]) hx hb dL_law_1191 hl (k := 3) rfl rfl (by decide) rfl (fun ls hl => (lv_goto (tgt := 18) hx hb dL_law_1194 (by decide) ?_))
          exact ih (v3 + 7) μ1457 ν1462 τ1463 H locs ls hP hS (lv_sub hl [1, 2, 3, 0] rfl) hv
        · have hv := hv.2 c1464
          refine lv_iconst (v := 0) hx hb dL_law_624 (by decide) ?_
          exact False.elim hv
      by_cases ck17 : ((xs v3.toNatClampNeg) &&& 63) = 17
      · clear ck0 ck1 ck2 ck3 ck4 ck5 ck6 ck7 ck8 ck9 ck10 ck11 ck12 ck13 ck14 ck15 ck16
        refine lv_tableIn (tgt := 626) (off := 593) hx hb dL_law_33 (by rw [ck17]; decide) (by rw [ck17]; decide) (by rw [ck17]; rfl) (by decide) ?_
        have hv := hv.2.2.2.2.2.2.2.2.2.2.2.2.2.2.2.2.2.1 ck17
        refine lv_aload_n hx hb dL_law_626 rfl (lv_at hl 1 rfl) (lv_aload_n hx hb dL_law_627 rfl (lv_at hl 0 rfl) (lv_iload_n hx hb dL_law_628 rfl (lv_at hl 3 rfl) (lv_iconst (v := 1) hx hb dL_law_629 (by decide) (lv_iadd hx hb dL_law_630 ?_))))
        have hi1465 := hv.1
        have hv := hv.2
        refine va_sld hx hb hX hbl hbA hS hi1465 dL_law_631 (lv_aload_n hx hb dL_law_632 rfl (lv_at hl 0 rfl) (lv_iload_n hx hb dL_law_633 rfl (lv_at hl 3 rfl) (lv_iconst (v := 2) hx hb dL_law_634 (by decide) (lv_iadd hx hb dL_law_635 ?_))))
        have hi1466 := hv.1
        have hv := hv.2
        refine va_sld hx hb hX hbl hbA hS hi1466 dL_law_636 (lv_aload_n hx hb dL_law_637 rfl (lv_at hl 0 rfl) (lv_iload_n hx hb dL_law_638 rfl (lv_at hl 3 rfl) (lv_iconst (v := 3) hx hb dL_law_639 (by decide) (lv_iadd hx hb dL_law_640 ?_))))
        have hi1467 := hv.1
        have hv := hv.2
        refine va_sld hx hb hX hbl hbA hS hi1467 dL_law_641 (lv_aload_n hx hb dL_law_642 rfl (lv_at hl 0 rfl) (lv_iload_n hx hb dL_law_643 rfl (lv_at hl 3 rfl) (lv_iconst (v := 4) hx hb dL_law_644 (by decide) (lv_iadd hx hb dL_law_645 ?_))))
        have hi1468 := hv.1
        have hv := hv.2
        refine va_sld hx hb hX hbl hbA hS hi1468 dL_law_646 ?_
        refine gl_iX (gl_bV (As := [.int (xs (v3 + 1).toNatClampNeg), .int (xs (v3 + 2).toNatClampNeg), .int (xs (v3 + 3).toNatClampNeg), .int (xs (v3 + 4).toNatClampNeg)]) (rest := []) C0 hK hP kX6_way ql_L_86 (mX6_way hE hv) (by decide) ge_X6 rfl rfl hl.1 rfl (Nat.le_of_ble_eq_true rfl) ⟨rfl, rfl, Nat.le_of_ble_eq_true rfl, Nat.le_of_ble_eq_true rfl⟩ dL_law_647) hS (fun x1469 μ1470 H locs hv hP hS => ?_)
        refine lv_aload_n hx hb dL_law_650 rfl (lv_at hl 2 rfl) (lv_aload_n hx hb dL_law_651 rfl (lv_at hl 0 rfl) (lv_iload_n hx hb dL_law_652 rfl (lv_at hl 3 rfl) (lv_iconst (v := 1) hx hb dL_law_653 (by decide) (lv_iadd hx hb dL_law_654 ?_))))
        have hi1471 := hv.1
        have hv := hv.2
        refine va_sld hx hb hX hbl hbA hS hi1471 dL_law_655 (lv_aload_n hx hb dL_law_656 rfl (lv_at hl 0 rfl) (lv_iload_n hx hb dL_law_657 rfl (lv_at hl 3 rfl) (lv_iconst (v := 2) hx hb dL_law_658 (by decide) (lv_iadd hx hb dL_law_659 ?_))))
        have hi1472 := hv.1
        have hv := hv.2
        refine va_sld hx hb hX hbl hbA hS hi1472 dL_law_660 (lv_aload_n hx hb dL_law_661 rfl (lv_at hl 0 rfl) (lv_iload_n hx hb dL_law_662 rfl (lv_at hl 3 rfl) (lv_iconst (v := 3) hx hb dL_law_663 (by decide) (lv_iadd hx hb dL_law_664 ?_))))
        have hi1473 := hv.1
        have hv := hv.2
        refine va_sld hx hb hX hbl hbA hS hi1473 dL_law_665 (lv_aload_n hx hb dL_law_666 rfl (lv_at hl 0 rfl) (lv_iload_n hx hb dL_law_667 rfl (lv_at hl 3 rfl) (lv_iconst (v := 4) hx hb dL_law_668 (by decide) (lv_iadd hx hb dL_law_669 ?_))))
        have hi1474 := hv.1
        have hv := hv.2
        refine va_sld hx hb hX hbl hbA hS hi1474 dL_law_670 ?_
        refine gl_iM (gl_bV (As := [.int (xs (v3 + 1).toNatClampNeg), .int (xs (v3 + 2).toNatClampNeg), .int (xs (v3 + 3).toNatClampNeg), .int (xs (v3 + 4).toNatClampNeg)]) (rest := [.int x1469]) C0 hK hP kX7_way ql_L_89 (mX7_way hE hv) (by decide) ge_X7 rfl rfl hl.1 rfl (Nat.le_of_ble_eq_true rfl) ⟨rfl, rfl, Nat.le_of_ble_eq_true rfl, Nat.le_of_ble_eq_true rfl⟩ dL_law_671) hS (fun x1475 ν1476 τ1477 H locs hv hP hS => ?_)
        refine lv_icmp_eq (tgt := 1191) hx hb dL_law_674 (by decide) (fun c1478 => ?_) (fun c1478 => ?_)
        · have hv := hv.1 c1478
          refine lv_iinc (v := (v3 + 7)) (lv' := [(3, .int (v3 + 7)), (0, .ref b), (1, .ref (gL E 31)), (2, .ref (gL E 32))]) hx hb dL_law_1191 hl (k := 3) rfl rfl (by decide) rfl (fun ls hl => (lv_goto (tgt := 18) hx hb dL_law_1194 (by decide) ?_))
          exact ih (v3 + 7) μ1470 ν1476 τ1477 H locs ls hP hS (lv_sub hl [1, 2, 3, 0] rfl) hv
        · have hv := hv.2 c1478
          refine lv_iconst (v := 0) hx hb dL_law_677 (by decide) ?_
          exact False.elim hv
      by_cases ck18 : ((xs v3.toNatClampNeg) &&& 63) = 18
      · clear ck0 ck1 ck2 ck3 ck4 ck5 ck6 ck7 ck8 ck9 ck10 ck11 ck12 ck13 ck14 ck15 ck16 ck17
        refine lv_tableIn (tgt := 679) (off := 646) hx hb dL_law_33 (by rw [ck18]; decide) (by rw [ck18]; decide) (by rw [ck18]; rfl) (by decide) ?_
        have hv := hv.2.2.2.2.2.2.2.2.2.2.2.2.2.2.2.2.2.2.1 ck18
        refine lv_aload_n hx hb dL_law_679 rfl (lv_at hl 1 rfl) (lv_aload_n hx hb dL_law_680 rfl (lv_at hl 0 rfl) (lv_iload_n hx hb dL_law_681 rfl (lv_at hl 3 rfl) (lv_iconst (v := 1) hx hb dL_law_682 (by decide) (lv_iadd hx hb dL_law_683 ?_))))
        have hi1479 := hv.1
        have hv := hv.2
        refine va_sld hx hb hX hbl hbA hS hi1479 dL_law_684 (lv_aload_n hx hb dL_law_685 rfl (lv_at hl 0 rfl) (lv_iload_n hx hb dL_law_686 rfl (lv_at hl 3 rfl) (lv_iconst (v := 2) hx hb dL_law_687 (by decide) (lv_iadd hx hb dL_law_688 ?_))))
        have hi1480 := hv.1
        have hv := hv.2
        refine va_sld hx hb hX hbl hbA hS hi1480 dL_law_689 (lv_aload_n hx hb dL_law_690 rfl (lv_at hl 0 rfl) (lv_iload_n hx hb dL_law_691 rfl (lv_at hl 3 rfl) (lv_iconst (v := 3) hx hb dL_law_692 (by decide) (lv_iadd hx hb dL_law_693 ?_))))
        have hi1481 := hv.1
        have hv := hv.2
        refine va_sld hx hb hX hbl hbA hS hi1481 dL_law_694 (lv_aload_n hx hb dL_law_695 rfl (lv_at hl 0 rfl) (lv_iload_n hx hb dL_law_696 rfl (lv_at hl 3 rfl) (lv_iconst (v := 4) hx hb dL_law_697 (by decide) (lv_iadd hx hb dL_law_698 ?_))))
        have hi1482 := hv.1
        have hv := hv.2
        refine va_sld hx hb hX hbl hbA hS hi1482 dL_law_699 (lv_aload_n hx hb dL_law_700 rfl (lv_at hl 0 rfl) (lv_iload_n hx hb dL_law_701 rfl (lv_at hl 3 rfl) (lv_iconst (v := 5) hx hb dL_law_702 (by decide) (lv_iadd hx hb dL_law_703 ?_))))
        have hi1483 := hv.1
        have hv := hv.2
        refine va_sld hx hb hX hbl hbA hS hi1483 dL_law_704 (lv_aload_n hx hb dL_law_705 rfl (lv_at hl 0 rfl) (lv_iload_n hx hb dL_law_706 rfl (lv_at hl 3 rfl) (lv_bipush (v := 6) hx hb dL_law_707 (by decide) (lv_iadd hx hb dL_law_709 ?_))))
        have hi1484 := hv.1
        have hv := hv.2
        refine va_sld hx hb hX hbl hbA hS hi1484 dL_law_710 ?_
        refine gl_lX (gl_bV (As := [.int (xs (v3 + 1).toNatClampNeg), .int (xs (v3 + 2).toNatClampNeg), .int (xs (v3 + 3).toNatClampNeg), .int (xs (v3 + 4).toNatClampNeg), .int (xs (v3 + 5).toNatClampNeg), .int (xs (v3 + 6).toNatClampNeg)]) (rest := []) C0 hK hP kX6_filled ql_L_90 (mX6_filled hE hv) (by decide) ge_X6 rfl rfl hl.1 rfl (Nat.le_of_ble_eq_true rfl) ⟨rfl, rfl, Nat.le_of_ble_eq_true rfl, Nat.le_of_ble_eq_true rfl⟩ dL_law_711) hS (fun x1485 μ1486 H locs hv hP hS => ?_)
        refine lv_aload_n hx hb dL_law_714 rfl (lv_at hl 2 rfl) (lv_aload_n hx hb dL_law_715 rfl (lv_at hl 0 rfl) (lv_iload_n hx hb dL_law_716 rfl (lv_at hl 3 rfl) (lv_iconst (v := 1) hx hb dL_law_717 (by decide) (lv_iadd hx hb dL_law_718 ?_))))
        have hi1487 := hv.1
        have hv := hv.2
        refine va_sld hx hb hX hbl hbA hS hi1487 dL_law_719 (lv_aload_n hx hb dL_law_720 rfl (lv_at hl 0 rfl) (lv_iload_n hx hb dL_law_721 rfl (lv_at hl 3 rfl) (lv_iconst (v := 2) hx hb dL_law_722 (by decide) (lv_iadd hx hb dL_law_723 ?_))))
        have hi1488 := hv.1
        have hv := hv.2
        refine va_sld hx hb hX hbl hbA hS hi1488 dL_law_724 (lv_aload_n hx hb dL_law_725 rfl (lv_at hl 0 rfl) (lv_iload_n hx hb dL_law_726 rfl (lv_at hl 3 rfl) (lv_iconst (v := 3) hx hb dL_law_727 (by decide) (lv_iadd hx hb dL_law_728 ?_))))
        have hi1489 := hv.1
        have hv := hv.2
        refine va_sld hx hb hX hbl hbA hS hi1489 dL_law_729 (lv_aload_n hx hb dL_law_730 rfl (lv_at hl 0 rfl) (lv_iload_n hx hb dL_law_731 rfl (lv_at hl 3 rfl) (lv_iconst (v := 4) hx hb dL_law_732 (by decide) (lv_iadd hx hb dL_law_733 ?_))))
        have hi1490 := hv.1
        have hv := hv.2
        refine va_sld hx hb hX hbl hbA hS hi1490 dL_law_734 (lv_aload_n hx hb dL_law_735 rfl (lv_at hl 0 rfl) (lv_iload_n hx hb dL_law_736 rfl (lv_at hl 3 rfl) (lv_iconst (v := 5) hx hb dL_law_737 (by decide) (lv_iadd hx hb dL_law_738 ?_))))
        have hi1491 := hv.1
        have hv := hv.2
        refine va_sld hx hb hX hbl hbA hS hi1491 dL_law_739 (lv_aload_n hx hb dL_law_740 rfl (lv_at hl 0 rfl) (lv_iload_n hx hb dL_law_741 rfl (lv_at hl 3 rfl) (lv_bipush (v := 6) hx hb dL_law_742 (by decide) (lv_iadd hx hb dL_law_744 ?_))))
        have hi1492 := hv.1
        have hv := hv.2
        refine va_sld hx hb hX hbl hbA hS hi1492 dL_law_745 ?_
        refine gl_lM (gl_bV (As := [.int (xs (v3 + 1).toNatClampNeg), .int (xs (v3 + 2).toNatClampNeg), .int (xs (v3 + 3).toNatClampNeg), .int (xs (v3 + 4).toNatClampNeg), .int (xs (v3 + 5).toNatClampNeg), .int (xs (v3 + 6).toNatClampNeg)]) (rest := [.long x1485]) C0 hK hP kX7_filled ql_L_94 (mX7_filled hE hv) (by decide) ge_X7 rfl rfl hl.1 rfl (Nat.le_of_ble_eq_true rfl) ⟨rfl, rfl, Nat.le_of_ble_eq_true rfl, Nat.le_of_ble_eq_true rfl⟩ dL_law_746) hS (fun x1493 ν1494 τ1495 H locs hv hP hS => ?_)
        refine W.lcmp hx hb dL_law_749 ?_
        refine lv_if_eq (tgt := 1191) hx hb dL_law_750 (by decide) (fun c1496 => ?_) (fun c1496 => ?_)
        · have hv := hv.1 c1496
          refine lv_iinc (v := (v3 + 7)) (lv' := [(3, .int (v3 + 7)), (0, .ref b), (1, .ref (gL E 31)), (2, .ref (gL E 32))]) hx hb dL_law_1191 hl (k := 3) rfl rfl (by decide) rfl (fun ls hl => (lv_goto (tgt := 18) hx hb dL_law_1194 (by decide) ?_))
          exact ih (v3 + 7) μ1486 ν1494 τ1495 H locs ls hP hS (lv_sub hl [1, 2, 3, 0] rfl) hv
        · have hv := hv.2 c1496
          refine lv_iconst (v := 0) hx hb dL_law_753 (by decide) ?_
          exact False.elim hv
      by_cases ck19 : ((xs v3.toNatClampNeg) &&& 63) = 19
      · clear ck0 ck1 ck2 ck3 ck4 ck5 ck6 ck7 ck8 ck9 ck10 ck11 ck12 ck13 ck14 ck15 ck16 ck17 ck18
        refine lv_tableIn (tgt := 755) (off := 722) hx hb dL_law_33 (by rw [ck19]; decide) (by rw [ck19]; decide) (by rw [ck19]; rfl) (by decide) ?_
        have hv := hv.2.2.2.2.2.2.2.2.2.2.2.2.2.2.2.2.2.2.2.1 ck19
        refine lv_aload_n hx hb dL_law_755 rfl (lv_at hl 1 rfl) (lv_aload_n hx hb dL_law_756 rfl (lv_at hl 0 rfl) (lv_iload_n hx hb dL_law_757 rfl (lv_at hl 3 rfl) (lv_iconst (v := 1) hx hb dL_law_758 (by decide) (lv_iadd hx hb dL_law_759 ?_))))
        have hi1497 := hv.1
        have hv := hv.2
        refine va_sld hx hb hX hbl hbA hS hi1497 dL_law_760 (lv_aload_n hx hb dL_law_761 rfl (lv_at hl 0 rfl) (lv_iload_n hx hb dL_law_762 rfl (lv_at hl 3 rfl) (lv_iconst (v := 2) hx hb dL_law_763 (by decide) (lv_iadd hx hb dL_law_764 ?_))))
        have hi1498 := hv.1
        have hv := hv.2
        refine va_sld hx hb hX hbl hbA hS hi1498 dL_law_765 ?_
        refine gl_iX (gl_bV (As := [.int (xs (v3 + 1).toNatClampNeg), .int (xs (v3 + 2).toNatClampNeg)]) (rest := []) C0 hK hP kX6_kind ql_L_95 (mX6_kind hE hv) (by decide) ge_X6 rfl rfl hl.1 rfl (Nat.le_of_ble_eq_true rfl) ⟨rfl, rfl, Nat.le_of_ble_eq_true rfl, Nat.le_of_ble_eq_true rfl⟩ dL_law_766) hS (fun x1499 μ1500 H locs hv hP hS => ?_)
        refine lv_aload_n hx hb dL_law_769 rfl (lv_at hl 2 rfl) (lv_aload_n hx hb dL_law_770 rfl (lv_at hl 0 rfl) (lv_iload_n hx hb dL_law_771 rfl (lv_at hl 3 rfl) (lv_iconst (v := 1) hx hb dL_law_772 (by decide) (lv_iadd hx hb dL_law_773 ?_))))
        have hi1501 := hv.1
        have hv := hv.2
        refine va_sld hx hb hX hbl hbA hS hi1501 dL_law_774 (lv_aload_n hx hb dL_law_775 rfl (lv_at hl 0 rfl) (lv_iload_n hx hb dL_law_776 rfl (lv_at hl 3 rfl) (lv_iconst (v := 2) hx hb dL_law_777 (by decide) (lv_iadd hx hb dL_law_778 ?_))))
        have hi1502 := hv.1
        have hv := hv.2
        refine va_sld hx hb hX hbl hbA hS hi1502 dL_law_779 ?_
        refine gl_iM (gl_bV (As := [.int (xs (v3 + 1).toNatClampNeg), .int (xs (v3 + 2).toNatClampNeg)]) (rest := [.int x1499]) C0 hK hP kX7_kind ql_L_98 (mX7_kind hE hv) (by decide) ge_X7 rfl rfl hl.1 rfl (Nat.le_of_ble_eq_true rfl) ⟨rfl, rfl, Nat.le_of_ble_eq_true rfl, Nat.le_of_ble_eq_true rfl⟩ dL_law_780) hS (fun x1503 ν1504 τ1505 H locs hv hP hS => ?_)
        refine lv_icmp_eq (tgt := 1191) hx hb dL_law_783 (by decide) (fun c1506 => ?_) (fun c1506 => ?_)
        · have hv := hv.1 c1506
          refine lv_iinc (v := (v3 + 7)) (lv' := [(3, .int (v3 + 7)), (0, .ref b), (1, .ref (gL E 31)), (2, .ref (gL E 32))]) hx hb dL_law_1191 hl (k := 3) rfl rfl (by decide) rfl (fun ls hl => (lv_goto (tgt := 18) hx hb dL_law_1194 (by decide) ?_))
          exact ih (v3 + 7) μ1500 ν1504 τ1505 H locs ls hP hS (lv_sub hl [1, 2, 3, 0] rfl) hv
        · have hv := hv.2 c1506
          refine lv_iconst (v := 0) hx hb dL_law_786 (by decide) ?_
          exact False.elim hv
      by_cases ck20 : ((xs v3.toNatClampNeg) &&& 63) = 20
      · clear ck0 ck1 ck2 ck3 ck4 ck5 ck6 ck7 ck8 ck9 ck10 ck11 ck12 ck13 ck14 ck15 ck16 ck17 ck18 ck19
        refine lv_tableIn (tgt := 788) (off := 755) hx hb dL_law_33 (by rw [ck20]; decide) (by rw [ck20]; decide) (by rw [ck20]; rfl) (by decide) ?_
        have hv := hv.2.2.2.2.2.2.2.2.2.2.2.2.2.2.2.2.2.2.2.2.1 ck20
        refine lv_aload_n hx hb dL_law_788 rfl (lv_at hl 1 rfl) ?_
        refine gl_iX (gl_bV (As := []) (rest := []) C0 hK hP kX6_broken ql_L_99 (mX6_broken hE hv) (by decide) ge_X6 rfl rfl hl.1 rfl (Nat.le_of_ble_eq_true rfl) ⟨rfl, rfl, Nat.le_of_ble_eq_true rfl, Nat.le_of_ble_eq_true rfl⟩ dL_law_789) hS (fun x1507 μ1508 H locs hv hP hS => ?_)
        refine lv_aload_n hx hb dL_law_792 rfl (lv_at hl 2 rfl) ?_
        refine gl_iM (gl_bV (As := []) (rest := [.int x1507]) C0 hK hP kX7_broken ql_L_102 (mX7_broken hE hv) (by decide) ge_X7 rfl rfl hl.1 rfl (Nat.le_of_ble_eq_true rfl) ⟨rfl, rfl, Nat.le_of_ble_eq_true rfl, Nat.le_of_ble_eq_true rfl⟩ dL_law_793) hS (fun x1509 ν1510 τ1511 H locs hv hP hS => ?_)
        refine lv_icmp_eq (tgt := 1191) hx hb dL_law_796 (by decide) (fun c1512 => ?_) (fun c1512 => ?_)
        · have hv := hv.1 c1512
          refine lv_iinc (v := (v3 + 7)) (lv' := [(3, .int (v3 + 7)), (0, .ref b), (1, .ref (gL E 31)), (2, .ref (gL E 32))]) hx hb dL_law_1191 hl (k := 3) rfl rfl (by decide) rfl (fun ls hl => (lv_goto (tgt := 18) hx hb dL_law_1194 (by decide) ?_))
          exact ih (v3 + 7) μ1508 ν1510 τ1511 H locs ls hP hS (lv_sub hl [1, 2, 3, 0] rfl) hv
        · have hv := hv.2 c1512
          refine lv_iconst (v := 0) hx hb dL_law_799 (by decide) ?_
          exact False.elim hv
      by_cases ck21 : ((xs v3.toNatClampNeg) &&& 63) = 21
      · clear ck0 ck1 ck2 ck3 ck4 ck5 ck6 ck7 ck8 ck9 ck10 ck11 ck12 ck13 ck14 ck15 ck16 ck17 ck18 ck19 ck20
        refine lv_tableIn (tgt := 801) (off := 768) hx hb dL_law_33 (by rw [ck21]; decide) (by rw [ck21]; decide) (by rw [ck21]; rfl) (by decide) ?_
        have hv := hv.2.2.2.2.2.2.2.2.2.2.2.2.2.2.2.2.2.2.2.2.2.1 ck21
        refine lv_aload_n hx hb dL_law_801 rfl (lv_at hl 1 rfl) (lv_aload_n hx hb dL_law_802 rfl (lv_at hl 0 rfl) (lv_iload_n hx hb dL_law_803 rfl (lv_at hl 3 rfl) (lv_iconst (v := 1) hx hb dL_law_804 (by decide) (lv_iadd hx hb dL_law_805 ?_))))
        have hi1513 := hv.1
        have hv := hv.2
        refine va_sld hx hb hX hbl hbA hS hi1513 dL_law_806 ?_
        refine gl_iX (gl_bV (As := [.int (xs (v3 + 1).toNatClampNeg)]) (rest := []) C0 hK hP kX6_drop ql_L_103 (mX6_drop hE hv) (by decide) ge_X6 rfl rfl hl.1 rfl (Nat.le_of_ble_eq_true rfl) ⟨rfl, rfl, Nat.le_of_ble_eq_true rfl, Nat.le_of_ble_eq_true rfl⟩ dL_law_807) hS (fun x1514 μ1515 H locs hv hP hS => ?_)
        refine lv_aload_n hx hb dL_law_810 rfl (lv_at hl 2 rfl) (lv_aload_n hx hb dL_law_811 rfl (lv_at hl 0 rfl) (lv_iload_n hx hb dL_law_812 rfl (lv_at hl 3 rfl) (lv_iconst (v := 1) hx hb dL_law_813 (by decide) (lv_iadd hx hb dL_law_814 ?_))))
        have hi1516 := hv.1
        have hv := hv.2
        refine va_sld hx hb hX hbl hbA hS hi1516 dL_law_815 ?_
        refine gl_iM (gl_bV (As := [.int (xs (v3 + 1).toNatClampNeg)]) (rest := [.int x1514]) C0 hK hP kX7_drop ql_L_106 (mX7_drop hE hv) (by decide) ge_X7 rfl rfl hl.1 rfl (Nat.le_of_ble_eq_true rfl) ⟨rfl, rfl, Nat.le_of_ble_eq_true rfl, Nat.le_of_ble_eq_true rfl⟩ dL_law_816) hS (fun x1517 ν1518 τ1519 H locs hv hP hS => ?_)
        refine lv_icmp_eq (tgt := 1191) hx hb dL_law_819 (by decide) (fun c1520 => ?_) (fun c1520 => ?_)
        · have hv := hv.1 c1520
          refine lv_iinc (v := (v3 + 7)) (lv' := [(3, .int (v3 + 7)), (0, .ref b), (1, .ref (gL E 31)), (2, .ref (gL E 32))]) hx hb dL_law_1191 hl (k := 3) rfl rfl (by decide) rfl (fun ls hl => (lv_goto (tgt := 18) hx hb dL_law_1194 (by decide) ?_))
          exact ih (v3 + 7) μ1515 ν1518 τ1519 H locs ls hP hS (lv_sub hl [1, 2, 3, 0] rfl) hv
        · have hv := hv.2 c1520
          refine lv_iconst (v := 0) hx hb dL_law_822 (by decide) ?_
          exact False.elim hv
      by_cases ck22 : ((xs v3.toNatClampNeg) &&& 63) = 22
      · clear ck0 ck1 ck2 ck3 ck4 ck5 ck6 ck7 ck8 ck9 ck10 ck11 ck12 ck13 ck14 ck15 ck16 ck17 ck18 ck19 ck20 ck21
        refine lv_tableIn (tgt := 824) (off := 791) hx hb dL_law_33 (by rw [ck22]; decide) (by rw [ck22]; decide) (by rw [ck22]; rfl) (by decide) ?_
        have hv := hv.2.2.2.2.2.2.2.2.2.2.2.2.2.2.2.2.2.2.2.2.2.2.1 ck22
        refine lv_aload_n hx hb dL_law_824 rfl (lv_at hl 1 rfl) (lv_aload_n hx hb dL_law_825 rfl (lv_at hl 0 rfl) (lv_iload_n hx hb dL_law_826 rfl (lv_at hl 3 rfl) (lv_iconst (v := 1) hx hb dL_law_827 (by decide) (lv_iadd hx hb dL_law_828 ?_))))
        have hi1521 := hv.1
        have hv := hv.2
        refine va_sld hx hb hX hbl hbA hS hi1521 dL_law_829 ?_
        refine gl_iX (gl_bV (As := [.int (xs (v3 + 1).toNatClampNeg)]) (rest := []) C0 hK hP kX6_empty ql_L_107 (mX6_empty hE hv) (by decide) ge_X6 rfl rfl hl.1 rfl (Nat.le_of_ble_eq_true rfl) ⟨rfl, rfl, Nat.le_of_ble_eq_true rfl, Nat.le_of_ble_eq_true rfl⟩ dL_law_830) hS (fun x1522 μ1523 H locs hv hP hS => ?_)
        refine lv_aload_n hx hb dL_law_833 rfl (lv_at hl 2 rfl) (lv_aload_n hx hb dL_law_834 rfl (lv_at hl 0 rfl) (lv_iload_n hx hb dL_law_835 rfl (lv_at hl 3 rfl) (lv_iconst (v := 1) hx hb dL_law_836 (by decide) (lv_iadd hx hb dL_law_837 ?_))))
        have hi1524 := hv.1
        have hv := hv.2
        refine va_sld hx hb hX hbl hbA hS hi1524 dL_law_838 ?_
        refine gl_iM (gl_bV (As := [.int (xs (v3 + 1).toNatClampNeg)]) (rest := [.int x1522]) C0 hK hP kX7_empty ql_L_110 (mX7_empty hE hv) (by decide) ge_X7 rfl rfl hl.1 rfl (Nat.le_of_ble_eq_true rfl) ⟨rfl, rfl, Nat.le_of_ble_eq_true rfl, Nat.le_of_ble_eq_true rfl⟩ dL_law_839) hS (fun x1525 ν1526 τ1527 H locs hv hP hS => ?_)
        refine lv_icmp_eq (tgt := 1191) hx hb dL_law_842 (by decide) (fun c1528 => ?_) (fun c1528 => ?_)
        · have hv := hv.1 c1528
          refine lv_iinc (v := (v3 + 7)) (lv' := [(3, .int (v3 + 7)), (0, .ref b), (1, .ref (gL E 31)), (2, .ref (gL E 32))]) hx hb dL_law_1191 hl (k := 3) rfl rfl (by decide) rfl (fun ls hl => (lv_goto (tgt := 18) hx hb dL_law_1194 (by decide) ?_))
          exact ih (v3 + 7) μ1523 ν1526 τ1527 H locs ls hP hS (lv_sub hl [1, 2, 3, 0] rfl) hv
        · have hv := hv.2 c1528
          refine lv_iconst (v := 0) hx hb dL_law_845 (by decide) ?_
          exact False.elim hv
      by_cases ck23 : ((xs v3.toNatClampNeg) &&& 63) = 23
      · clear ck0 ck1 ck2 ck3 ck4 ck5 ck6 ck7 ck8 ck9 ck10 ck11 ck12 ck13 ck14 ck15 ck16 ck17 ck18 ck19 ck20 ck21 ck22
        refine lv_tableIn (tgt := 847) (off := 814) hx hb dL_law_33 (by rw [ck23]; decide) (by rw [ck23]; decide) (by rw [ck23]; rfl) (by decide) ?_
        have hv := hv.2.2.2.2.2.2.2.2.2.2.2.2.2.2.2.2.2.2.2.2.2.2.2.1 ck23
        refine lv_aload_n hx hb dL_law_847 rfl (lv_at hl 1 rfl) (lv_aload_n hx hb dL_law_848 rfl (lv_at hl 0 rfl) (lv_iload_n hx hb dL_law_849 rfl (lv_at hl 3 rfl) (lv_iconst (v := 1) hx hb dL_law_850 (by decide) (lv_iadd hx hb dL_law_851 ?_))))
        have hi1529 := hv.1
        have hv := hv.2
        refine va_sld hx hb hX hbl hbA hS hi1529 dL_law_852 (lv_aload_n hx hb dL_law_853 rfl (lv_at hl 0 rfl) (lv_iload_n hx hb dL_law_854 rfl (lv_at hl 3 rfl) (lv_iconst (v := 2) hx hb dL_law_855 (by decide) (lv_iadd hx hb dL_law_856 ?_))))
        have hi1530 := hv.1
        have hv := hv.2
        refine va_sld hx hb hX hbl hbA hS hi1530 dL_law_857 (lv_aload_n hx hb dL_law_858 rfl (lv_at hl 0 rfl) (lv_iload_n hx hb dL_law_859 rfl (lv_at hl 3 rfl) (lv_iconst (v := 3) hx hb dL_law_860 (by decide) (lv_iadd hx hb dL_law_861 ?_))))
        have hi1531 := hv.1
        have hv := hv.2
        refine va_sld hx hb hX hbl hbA hS hi1531 dL_law_862 ?_
        refine gl_iX (gl_bV (As := [.int (xs (v3 + 1).toNatClampNeg), .int (xs (v3 + 2).toNatClampNeg), .int (xs (v3 + 3).toNatClampNeg)]) (rest := []) C0 hK hP kX6_sheet ql_L_111 (mX6_sheet hE hv) (by decide) ge_X6 rfl rfl hl.1 rfl (Nat.le_of_ble_eq_true rfl) ⟨rfl, rfl, Nat.le_of_ble_eq_true rfl, Nat.le_of_ble_eq_true rfl⟩ dL_law_863) hS (fun x1532 μ1533 H locs hv hP hS => ?_)
        refine lv_aload_n hx hb dL_law_866 rfl (lv_at hl 2 rfl) (lv_aload_n hx hb dL_law_867 rfl (lv_at hl 0 rfl) (lv_iload_n hx hb dL_law_868 rfl (lv_at hl 3 rfl) (lv_iconst (v := 1) hx hb dL_law_869 (by decide) (lv_iadd hx hb dL_law_870 ?_))))
        have hi1534 := hv.1
        have hv := hv.2
        refine va_sld hx hb hX hbl hbA hS hi1534 dL_law_871 (lv_aload_n hx hb dL_law_872 rfl (lv_at hl 0 rfl) (lv_iload_n hx hb dL_law_873 rfl (lv_at hl 3 rfl) (lv_iconst (v := 2) hx hb dL_law_874 (by decide) (lv_iadd hx hb dL_law_875 ?_))))
        have hi1535 := hv.1
        have hv := hv.2
        refine va_sld hx hb hX hbl hbA hS hi1535 dL_law_876 (lv_aload_n hx hb dL_law_877 rfl (lv_at hl 0 rfl) (lv_iload_n hx hb dL_law_878 rfl (lv_at hl 3 rfl) (lv_iconst (v := 3) hx hb dL_law_879 (by decide) (lv_iadd hx hb dL_law_880 ?_))))
        have hi1536 := hv.1
        have hv := hv.2
        refine va_sld hx hb hX hbl hbA hS hi1536 dL_law_881 ?_
        refine gl_iM (gl_bV (As := [.int (xs (v3 + 1).toNatClampNeg), .int (xs (v3 + 2).toNatClampNeg), .int (xs (v3 + 3).toNatClampNeg)]) (rest := [.int x1532]) C0 hK hP kX7_sheet ql_L_115 (mX7_sheet hE hv) (by decide) ge_X7 rfl rfl hl.1 rfl (Nat.le_of_ble_eq_true rfl) ⟨rfl, rfl, Nat.le_of_ble_eq_true rfl, Nat.le_of_ble_eq_true rfl⟩ dL_law_882) hS (fun x1537 ν1538 τ1539 H locs hv hP hS => ?_)
        refine lv_icmp_eq (tgt := 1191) hx hb dL_law_885 (by decide) (fun c1540 => ?_) (fun c1540 => ?_)
        · have hv := hv.1 c1540
          refine lv_iinc (v := (v3 + 7)) (lv' := [(3, .int (v3 + 7)), (0, .ref b), (1, .ref (gL E 31)), (2, .ref (gL E 32))]) hx hb dL_law_1191 hl (k := 3) rfl rfl (by decide) rfl (fun ls hl => (lv_goto (tgt := 18) hx hb dL_law_1194 (by decide) ?_))
          exact ih (v3 + 7) μ1533 ν1538 τ1539 H locs ls hP hS (lv_sub hl [1, 2, 3, 0] rfl) hv
        · have hv := hv.2 c1540
          refine lv_iconst (v := 0) hx hb dL_law_888 (by decide) ?_
          exact False.elim hv
      by_cases ck24 : ((xs v3.toNatClampNeg) &&& 63) = 24
      · clear ck0 ck1 ck2 ck3 ck4 ck5 ck6 ck7 ck8 ck9 ck10 ck11 ck12 ck13 ck14 ck15 ck16 ck17 ck18 ck19 ck20 ck21 ck22 ck23
        refine lv_tableIn (tgt := 890) (off := 857) hx hb dL_law_33 (by rw [ck24]; decide) (by rw [ck24]; decide) (by rw [ck24]; rfl) (by decide) ?_
        have hv := hv.2.2.2.2.2.2.2.2.2.2.2.2.2.2.2.2.2.2.2.2.2.2.2.2.1 ck24
        refine lv_aload_n hx hb dL_law_890 rfl (lv_at hl 1 rfl) (lv_aload_n hx hb dL_law_891 rfl (lv_at hl 0 rfl) (lv_iload_n hx hb dL_law_892 rfl (lv_at hl 3 rfl) (lv_iconst (v := 1) hx hb dL_law_893 (by decide) (lv_iadd hx hb dL_law_894 ?_))))
        have hi1541 := hv.1
        have hv := hv.2
        refine va_sld hx hb hX hbl hbA hS hi1541 dL_law_895 ?_
        refine gl_iX (gl_bV (As := [.int (xs (v3 + 1).toNatClampNeg)]) (rest := []) C0 hK hP kX6_lose ql_L_116 (mX6_lose hE hv) (by decide) ge_X6 rfl rfl hl.1 rfl (Nat.le_of_ble_eq_true rfl) ⟨rfl, rfl, Nat.le_of_ble_eq_true rfl, Nat.le_of_ble_eq_true rfl⟩ dL_law_896) hS (fun x1542 μ1543 H locs hv hP hS => ?_)
        refine lv_aload_n hx hb dL_law_899 rfl (lv_at hl 2 rfl) (lv_aload_n hx hb dL_law_900 rfl (lv_at hl 0 rfl) (lv_iload_n hx hb dL_law_901 rfl (lv_at hl 3 rfl) (lv_iconst (v := 1) hx hb dL_law_902 (by decide) (lv_iadd hx hb dL_law_903 ?_))))
        have hi1544 := hv.1
        have hv := hv.2
        refine va_sld hx hb hX hbl hbA hS hi1544 dL_law_904 ?_
        refine gl_iM (gl_bV (As := [.int (xs (v3 + 1).toNatClampNeg)]) (rest := [.int x1542]) C0 hK hP kX7_lose ql_L_119 (mX7_lose hE hv) (by decide) ge_X7 rfl rfl hl.1 rfl (Nat.le_of_ble_eq_true rfl) ⟨rfl, rfl, Nat.le_of_ble_eq_true rfl, Nat.le_of_ble_eq_true rfl⟩ dL_law_905) hS (fun x1545 ν1546 τ1547 H locs hv hP hS => ?_)
        refine lv_icmp_eq (tgt := 1191) hx hb dL_law_908 (by decide) (fun c1548 => ?_) (fun c1548 => ?_)
        · have hv := hv.1 c1548
          refine lv_iinc (v := (v3 + 7)) (lv' := [(3, .int (v3 + 7)), (0, .ref b), (1, .ref (gL E 31)), (2, .ref (gL E 32))]) hx hb dL_law_1191 hl (k := 3) rfl rfl (by decide) rfl (fun ls hl => (lv_goto (tgt := 18) hx hb dL_law_1194 (by decide) ?_))
          exact ih (v3 + 7) μ1543 ν1546 τ1547 H locs ls hP hS (lv_sub hl [1, 2, 3, 0] rfl) hv
        · have hv := hv.2 c1548
          refine lv_iconst (v := 0) hx hb dL_law_911 (by decide) ?_
          exact False.elim hv
      by_cases ck25 : ((xs v3.toNatClampNeg) &&& 63) = 25
      · clear ck0 ck1 ck2 ck3 ck4 ck5 ck6 ck7 ck8 ck9 ck10 ck11 ck12 ck13 ck14 ck15 ck16 ck17 ck18 ck19 ck20 ck21 ck22 ck23 ck24
        refine lv_tableIn (tgt := 913) (off := 880) hx hb dL_law_33 (by rw [ck25]; decide) (by rw [ck25]; decide) (by rw [ck25]; rfl) (by decide) ?_
        have hv := hv.2.2.2.2.2.2.2.2.2.2.2.2.2.2.2.2.2.2.2.2.2.2.2.2.2.1 ck25
        refine lv_aload_n hx hb dL_law_913 rfl (lv_at hl 1 rfl) (lv_aload_n hx hb dL_law_914 rfl (lv_at hl 0 rfl) (lv_iload_n hx hb dL_law_915 rfl (lv_at hl 3 rfl) (lv_iconst (v := 1) hx hb dL_law_916 (by decide) (lv_iadd hx hb dL_law_917 ?_))))
        have hi1549 := hv.1
        have hv := hv.2
        refine va_sld hx hb hX hbl hbA hS hi1549 dL_law_918 (lv_aload_n hx hb dL_law_919 rfl (lv_at hl 0 rfl) (lv_iload_n hx hb dL_law_920 rfl (lv_at hl 3 rfl) (lv_iconst (v := 2) hx hb dL_law_921 (by decide) (lv_iadd hx hb dL_law_922 ?_))))
        have hi1550 := hv.1
        have hv := hv.2
        refine va_sld hx hb hX hbl hbA hS hi1550 dL_law_923 (lv_aload_n hx hb dL_law_924 rfl (lv_at hl 0 rfl) (lv_iload_n hx hb dL_law_925 rfl (lv_at hl 3 rfl) (lv_iconst (v := 3) hx hb dL_law_926 (by decide) (lv_iadd hx hb dL_law_927 ?_))))
        have hi1551 := hv.1
        have hv := hv.2
        refine va_sld hx hb hX hbl hbA hS hi1551 dL_law_928 ?_
        refine gl_iX (gl_bV (As := [.int (xs (v3 + 1).toNatClampNeg), .int (xs (v3 + 2).toNatClampNeg), .int (xs (v3 + 3).toNatClampNeg)]) (rest := []) C0 hK hP kX6_put ql_L_120 (mX6_put hE hv) (by decide) ge_X6 rfl rfl hl.1 rfl (Nat.le_of_ble_eq_true rfl) ⟨rfl, rfl, Nat.le_of_ble_eq_true rfl, Nat.le_of_ble_eq_true rfl⟩ dL_law_929) hS (fun x1552 μ1553 H locs hv hP hS => ?_)
        refine lv_aload_n hx hb dL_law_932 rfl (lv_at hl 2 rfl) (lv_aload_n hx hb dL_law_933 rfl (lv_at hl 0 rfl) (lv_iload_n hx hb dL_law_934 rfl (lv_at hl 3 rfl) (lv_iconst (v := 1) hx hb dL_law_935 (by decide) (lv_iadd hx hb dL_law_936 ?_))))
        have hi1554 := hv.1
        have hv := hv.2
        refine va_sld hx hb hX hbl hbA hS hi1554 dL_law_937 (lv_aload_n hx hb dL_law_938 rfl (lv_at hl 0 rfl) (lv_iload_n hx hb dL_law_939 rfl (lv_at hl 3 rfl) (lv_iconst (v := 2) hx hb dL_law_940 (by decide) (lv_iadd hx hb dL_law_941 ?_))))
        have hi1555 := hv.1
        have hv := hv.2
        refine va_sld hx hb hX hbl hbA hS hi1555 dL_law_942 (lv_aload_n hx hb dL_law_943 rfl (lv_at hl 0 rfl) (lv_iload_n hx hb dL_law_944 rfl (lv_at hl 3 rfl) (lv_iconst (v := 3) hx hb dL_law_945 (by decide) (lv_iadd hx hb dL_law_946 ?_))))
        have hi1556 := hv.1
        have hv := hv.2
        refine va_sld hx hb hX hbl hbA hS hi1556 dL_law_947 ?_
        refine gl_iM (gl_bV (As := [.int (xs (v3 + 1).toNatClampNeg), .int (xs (v3 + 2).toNatClampNeg), .int (xs (v3 + 3).toNatClampNeg)]) (rest := [.int x1552]) C0 hK hP kX7_put ql_L_123 (mX7_put hE hv) (by decide) ge_X7 rfl rfl hl.1 rfl (Nat.le_of_ble_eq_true rfl) ⟨rfl, rfl, Nat.le_of_ble_eq_true rfl, Nat.le_of_ble_eq_true rfl⟩ dL_law_948) hS (fun x1557 ν1558 τ1559 H locs hv hP hS => ?_)
        refine lv_icmp_eq (tgt := 1191) hx hb dL_law_951 (by decide) (fun c1560 => ?_) (fun c1560 => ?_)
        · have hv := hv.1 c1560
          refine lv_iinc (v := (v3 + 7)) (lv' := [(3, .int (v3 + 7)), (0, .ref b), (1, .ref (gL E 31)), (2, .ref (gL E 32))]) hx hb dL_law_1191 hl (k := 3) rfl rfl (by decide) rfl (fun ls hl => (lv_goto (tgt := 18) hx hb dL_law_1194 (by decide) ?_))
          exact ih (v3 + 7) μ1553 ν1558 τ1559 H locs ls hP hS (lv_sub hl [1, 2, 3, 0] rfl) hv
        · have hv := hv.2 c1560
          refine lv_iconst (v := 0) hx hb dL_law_954 (by decide) ?_
          exact False.elim hv
      by_cases ck26 : ((xs v3.toNatClampNeg) &&& 63) = 26
      · clear ck0 ck1 ck2 ck3 ck4 ck5 ck6 ck7 ck8 ck9 ck10 ck11 ck12 ck13 ck14 ck15 ck16 ck17 ck18 ck19 ck20 ck21 ck22 ck23 ck24 ck25
        refine lv_tableIn (tgt := 956) (off := 923) hx hb dL_law_33 (by rw [ck26]; decide) (by rw [ck26]; decide) (by rw [ck26]; rfl) (by decide) ?_
        have hv := hv.2.2.2.2.2.2.2.2.2.2.2.2.2.2.2.2.2.2.2.2.2.2.2.2.2.2.1 ck26
        refine lv_aload_n hx hb dL_law_956 rfl (lv_at hl 1 rfl) (lv_aload_n hx hb dL_law_957 rfl (lv_at hl 0 rfl) (lv_iload_n hx hb dL_law_958 rfl (lv_at hl 3 rfl) (lv_iconst (v := 1) hx hb dL_law_959 (by decide) (lv_iadd hx hb dL_law_960 ?_))))
        have hi1561 := hv.1
        have hv := hv.2
        refine va_sld hx hb hX hbl hbA hS hi1561 dL_law_961 (lv_aload_n hx hb dL_law_962 rfl (lv_at hl 0 rfl) (lv_iload_n hx hb dL_law_963 rfl (lv_at hl 3 rfl) (lv_iconst (v := 2) hx hb dL_law_964 (by decide) (lv_iadd hx hb dL_law_965 ?_))))
        have hi1562 := hv.1
        have hv := hv.2
        refine va_sld hx hb hX hbl hbA hS hi1562 dL_law_966 (lv_aload_n hx hb dL_law_967 rfl (lv_at hl 0 rfl) (lv_iload_n hx hb dL_law_968 rfl (lv_at hl 3 rfl) (lv_iconst (v := 3) hx hb dL_law_969 (by decide) (lv_iadd hx hb dL_law_970 ?_))))
        have hi1563 := hv.1
        have hv := hv.2
        refine va_sld hx hb hX hbl hbA hS hi1563 dL_law_971 ?_
        refine gl_lX (gl_bV (As := [.int (xs (v3 + 1).toNatClampNeg), .int (xs (v3 + 2).toNatClampNeg), .int (xs (v3 + 3).toNatClampNeg)]) (rest := []) C0 hK hP kX6_cell ql_L_124 (mX6_cell hE hv) (by decide) ge_X6 rfl rfl hl.1 rfl (Nat.le_of_ble_eq_true rfl) ⟨rfl, rfl, Nat.le_of_ble_eq_true rfl, Nat.le_of_ble_eq_true rfl⟩ dL_law_972) hS (fun x1564 μ1565 H locs hv hP hS => ?_)
        refine lv_aload_n hx hb dL_law_975 rfl (lv_at hl 2 rfl) (lv_aload_n hx hb dL_law_976 rfl (lv_at hl 0 rfl) (lv_iload_n hx hb dL_law_977 rfl (lv_at hl 3 rfl) (lv_iconst (v := 1) hx hb dL_law_978 (by decide) (lv_iadd hx hb dL_law_979 ?_))))
        have hi1566 := hv.1
        have hv := hv.2
        refine va_sld hx hb hX hbl hbA hS hi1566 dL_law_980 (lv_aload_n hx hb dL_law_981 rfl (lv_at hl 0 rfl) (lv_iload_n hx hb dL_law_982 rfl (lv_at hl 3 rfl) (lv_iconst (v := 2) hx hb dL_law_983 (by decide) (lv_iadd hx hb dL_law_984 ?_))))
        have hi1567 := hv.1
        have hv := hv.2
        refine va_sld hx hb hX hbl hbA hS hi1567 dL_law_985 (lv_aload_n hx hb dL_law_986 rfl (lv_at hl 0 rfl) (lv_iload_n hx hb dL_law_987 rfl (lv_at hl 3 rfl) (lv_iconst (v := 3) hx hb dL_law_988 (by decide) (lv_iadd hx hb dL_law_989 ?_))))
        have hi1568 := hv.1
        have hv := hv.2
        refine va_sld hx hb hX hbl hbA hS hi1568 dL_law_990 ?_
        refine gl_lM (gl_bV (As := [.int (xs (v3 + 1).toNatClampNeg), .int (xs (v3 + 2).toNatClampNeg), .int (xs (v3 + 3).toNatClampNeg)]) (rest := [.long x1564]) C0 hK hP kX7_cell ql_L_127 (mX7_cell hE hv) (by decide) ge_X7 rfl rfl hl.1 rfl (Nat.le_of_ble_eq_true rfl) ⟨rfl, rfl, Nat.le_of_ble_eq_true rfl, Nat.le_of_ble_eq_true rfl⟩ dL_law_991) hS (fun x1569 ν1570 τ1571 H locs hv hP hS => ?_)
        refine W.lcmp hx hb dL_law_994 ?_
        refine lv_if_eq (tgt := 1191) hx hb dL_law_995 (by decide) (fun c1572 => ?_) (fun c1572 => ?_)
        · have hv := hv.1 c1572
          refine lv_iinc (v := (v3 + 7)) (lv' := [(3, .int (v3 + 7)), (0, .ref b), (1, .ref (gL E 31)), (2, .ref (gL E 32))]) hx hb dL_law_1191 hl (k := 3) rfl rfl (by decide) rfl (fun ls hl => (lv_goto (tgt := 18) hx hb dL_law_1194 (by decide) ?_))
          exact ih (v3 + 7) μ1565 ν1570 τ1571 H locs ls hP hS (lv_sub hl [1, 2, 3, 0] rfl) hv
        · have hv := hv.2 c1572
          refine lv_iconst (v := 0) hx hb dL_law_998 (by decide) ?_
          exact False.elim hv
      by_cases ck27 : ((xs v3.toNatClampNeg) &&& 63) = 27
      · clear ck0 ck1 ck2 ck3 ck4 ck5 ck6 ck7 ck8 ck9 ck10 ck11 ck12 ck13 ck14 ck15 ck16 ck17 ck18 ck19 ck20 ck21 ck22 ck23 ck24 ck25 ck26
        refine lv_tableIn (tgt := 1000) (off := 967) hx hb dL_law_33 (by rw [ck27]; decide) (by rw [ck27]; decide) (by rw [ck27]; rfl) (by decide) ?_
        have hv := hv.2.2.2.2.2.2.2.2.2.2.2.2.2.2.2.2.2.2.2.2.2.2.2.2.2.2.2.1 ck27
        refine lv_aload_n hx hb dL_law_1000 rfl (lv_at hl 1 rfl) (lv_aload_n hx hb dL_law_1001 rfl (lv_at hl 0 rfl) (lv_iload_n hx hb dL_law_1002 rfl (lv_at hl 3 rfl) (lv_iconst (v := 1) hx hb dL_law_1003 (by decide) (lv_iadd hx hb dL_law_1004 ?_))))
        have hi1573 := hv.1
        have hv := hv.2
        refine va_sld hx hb hX hbl hbA hS hi1573 dL_law_1005 (lv_aload_n hx hb dL_law_1006 rfl (lv_at hl 0 rfl) (lv_iload_n hx hb dL_law_1007 rfl (lv_at hl 3 rfl) (lv_iconst (v := 2) hx hb dL_law_1008 (by decide) (lv_iadd hx hb dL_law_1009 ?_))))
        have hi1574 := hv.1
        have hv := hv.2
        refine va_sld hx hb hX hbl hbA hS hi1574 dL_law_1010 (lv_aload_n hx hb dL_law_1011 rfl (lv_at hl 0 rfl) (lv_iload_n hx hb dL_law_1012 rfl (lv_at hl 3 rfl) (lv_iconst (v := 3) hx hb dL_law_1013 (by decide) (lv_iadd hx hb dL_law_1014 ?_))))
        have hi1575 := hv.1
        have hv := hv.2
        refine va_sld hx hb hX hbl hbA hS hi1575 dL_law_1015 (lv_aload_n hx hb dL_law_1016 rfl (lv_at hl 0 rfl) (lv_iload_n hx hb dL_law_1017 rfl (lv_at hl 3 rfl) (lv_iconst (v := 4) hx hb dL_law_1018 (by decide) (lv_iadd hx hb dL_law_1019 ?_))))
        have hi1576 := hv.1
        have hv := hv.2
        refine va_sld hx hb hX hbl hbA hS hi1576 dL_law_1020 (lv_aload_n hx hb dL_law_1021 rfl (lv_at hl 0 rfl) (lv_iload_n hx hb dL_law_1022 rfl (lv_at hl 3 rfl) (lv_iconst (v := 5) hx hb dL_law_1023 (by decide) (lv_iadd hx hb dL_law_1024 ?_))))
        have hi1577 := hv.1
        have hv := hv.2
        refine va_sld hx hb hX hbl hbA hS hi1577 dL_law_1025 ?_
        refine gl_iX (gl_bV (As := [.int (xs (v3 + 1).toNatClampNeg), .int (xs (v3 + 2).toNatClampNeg), .int (xs (v3 + 3).toNatClampNeg), .int (xs (v3 + 4).toNatClampNeg), .int (xs (v3 + 5).toNatClampNeg)]) (rest := []) C0 hK hP kX6_copy ql_L_128 (mX6_copy hE hv) (by decide) ge_X6 rfl rfl hl.1 rfl (Nat.le_of_ble_eq_true rfl) ⟨rfl, rfl, Nat.le_of_ble_eq_true rfl, Nat.le_of_ble_eq_true rfl⟩ dL_law_1026) hS (fun x1578 μ1579 H locs hv hP hS => ?_)
        refine lv_aload_n hx hb dL_law_1029 rfl (lv_at hl 2 rfl) (lv_aload_n hx hb dL_law_1030 rfl (lv_at hl 0 rfl) (lv_iload_n hx hb dL_law_1031 rfl (lv_at hl 3 rfl) (lv_iconst (v := 1) hx hb dL_law_1032 (by decide) (lv_iadd hx hb dL_law_1033 ?_))))
        have hi1580 := hv.1
        have hv := hv.2
        refine va_sld hx hb hX hbl hbA hS hi1580 dL_law_1034 (lv_aload_n hx hb dL_law_1035 rfl (lv_at hl 0 rfl) (lv_iload_n hx hb dL_law_1036 rfl (lv_at hl 3 rfl) (lv_iconst (v := 2) hx hb dL_law_1037 (by decide) (lv_iadd hx hb dL_law_1038 ?_))))
        have hi1581 := hv.1
        have hv := hv.2
        refine va_sld hx hb hX hbl hbA hS hi1581 dL_law_1039 (lv_aload_n hx hb dL_law_1040 rfl (lv_at hl 0 rfl) (lv_iload_n hx hb dL_law_1041 rfl (lv_at hl 3 rfl) (lv_iconst (v := 3) hx hb dL_law_1042 (by decide) (lv_iadd hx hb dL_law_1043 ?_))))
        have hi1582 := hv.1
        have hv := hv.2
        refine va_sld hx hb hX hbl hbA hS hi1582 dL_law_1044 (lv_aload_n hx hb dL_law_1045 rfl (lv_at hl 0 rfl) (lv_iload_n hx hb dL_law_1046 rfl (lv_at hl 3 rfl) (lv_iconst (v := 4) hx hb dL_law_1047 (by decide) (lv_iadd hx hb dL_law_1048 ?_))))
        have hi1583 := hv.1
        have hv := hv.2
        refine va_sld hx hb hX hbl hbA hS hi1583 dL_law_1049 (lv_aload_n hx hb dL_law_1050 rfl (lv_at hl 0 rfl) (lv_iload_n hx hb dL_law_1051 rfl (lv_at hl 3 rfl) (lv_iconst (v := 5) hx hb dL_law_1052 (by decide) (lv_iadd hx hb dL_law_1053 ?_))))
        have hi1584 := hv.1
        have hv := hv.2
        refine va_sld hx hb hX hbl hbA hS hi1584 dL_law_1054 ?_
        refine gl_iM (gl_bV (As := [.int (xs (v3 + 1).toNatClampNeg), .int (xs (v3 + 2).toNatClampNeg), .int (xs (v3 + 3).toNatClampNeg), .int (xs (v3 + 4).toNatClampNeg), .int (xs (v3 + 5).toNatClampNeg)]) (rest := [.int x1578]) C0 hK hP kX7_copy ql_L_132 (mX7_copy hE hv) (by decide) ge_X7 rfl rfl hl.1 rfl (Nat.le_of_ble_eq_true rfl) ⟨rfl, rfl, Nat.le_of_ble_eq_true rfl, Nat.le_of_ble_eq_true rfl⟩ dL_law_1055) hS (fun x1585 ν1586 τ1587 H locs hv hP hS => ?_)
        refine lv_icmp_eq (tgt := 1191) hx hb dL_law_1058 (by decide) (fun c1588 => ?_) (fun c1588 => ?_)
        · have hv := hv.1 c1588
          refine lv_iinc (v := (v3 + 7)) (lv' := [(3, .int (v3 + 7)), (0, .ref b), (1, .ref (gL E 31)), (2, .ref (gL E 32))]) hx hb dL_law_1191 hl (k := 3) rfl rfl (by decide) rfl (fun ls hl => (lv_goto (tgt := 18) hx hb dL_law_1194 (by decide) ?_))
          exact ih (v3 + 7) μ1579 ν1586 τ1587 H locs ls hP hS (lv_sub hl [1, 2, 3, 0] rfl) hv
        · have hv := hv.2 c1588
          refine lv_iconst (v := 0) hx hb dL_law_1061 (by decide) ?_
          exact False.elim hv
      by_cases ck28 : ((xs v3.toNatClampNeg) &&& 63) = 28
      · clear ck0 ck1 ck2 ck3 ck4 ck5 ck6 ck7 ck8 ck9 ck10 ck11 ck12 ck13 ck14 ck15 ck16 ck17 ck18 ck19 ck20 ck21 ck22 ck23 ck24 ck25 ck26 ck27
        refine lv_tableIn (tgt := 1063) (off := 1030) hx hb dL_law_33 (by rw [ck28]; decide) (by rw [ck28]; decide) (by rw [ck28]; rfl) (by decide) ?_
        have hv := hv.2.2.2.2.2.2.2.2.2.2.2.2.2.2.2.2.2.2.2.2.2.2.2.2.2.2.2.2.1 ck28
        refine lv_aload_n hx hb dL_law_1063 rfl (lv_at hl 1 rfl) (lv_aload_n hx hb dL_law_1064 rfl (lv_at hl 0 rfl) (lv_iload_n hx hb dL_law_1065 rfl (lv_at hl 3 rfl) (lv_iconst (v := 1) hx hb dL_law_1066 (by decide) (lv_iadd hx hb dL_law_1067 ?_))))
        have hi1589 := hv.1
        have hv := hv.2
        refine va_sld hx hb hX hbl hbA hS hi1589 dL_law_1068 ?_
        refine gl_iX (gl_bV (As := [.int (xs (v3 + 1).toNatClampNeg)]) (rest := []) C0 hK hP kX6_tell ql_L_133 (mX6_tell hE hv) (by decide) ge_X6 rfl rfl hl.1 rfl (Nat.le_of_ble_eq_true rfl) ⟨rfl, rfl, Nat.le_of_ble_eq_true rfl, Nat.le_of_ble_eq_true rfl⟩ dL_law_1069) hS (fun x1590 μ1591 H locs hv hP hS => ?_)
        refine lv_aload_n hx hb dL_law_1072 rfl (lv_at hl 2 rfl) (lv_aload_n hx hb dL_law_1073 rfl (lv_at hl 0 rfl) (lv_iload_n hx hb dL_law_1074 rfl (lv_at hl 3 rfl) (lv_iconst (v := 1) hx hb dL_law_1075 (by decide) (lv_iadd hx hb dL_law_1076 ?_))))
        have hi1592 := hv.1
        have hv := hv.2
        refine va_sld hx hb hX hbl hbA hS hi1592 dL_law_1077 ?_
        refine gl_iM (gl_bV (As := [.int (xs (v3 + 1).toNatClampNeg)]) (rest := [.int x1590]) C0 hK hP kX7_tell ql_L_136 (mX7_tell hE hv) (by decide) ge_X7 rfl rfl hl.1 rfl (Nat.le_of_ble_eq_true rfl) ⟨rfl, rfl, Nat.le_of_ble_eq_true rfl, Nat.le_of_ble_eq_true rfl⟩ dL_law_1078) hS (fun x1593 ν1594 τ1595 H locs hv hP hS => ?_)
        refine lv_icmp_eq (tgt := 1191) hx hb dL_law_1081 (by decide) (fun c1596 => ?_) (fun c1596 => ?_)
        · have hv := hv.1 c1596
          refine lv_iinc (v := (v3 + 7)) (lv' := [(3, .int (v3 + 7)), (0, .ref b), (1, .ref (gL E 31)), (2, .ref (gL E 32))]) hx hb dL_law_1191 hl (k := 3) rfl rfl (by decide) rfl (fun ls hl => (lv_goto (tgt := 18) hx hb dL_law_1194 (by decide) ?_))
          exact ih (v3 + 7) μ1591 ν1594 τ1595 H locs ls hP hS (lv_sub hl [1, 2, 3, 0] rfl) hv
        · have hv := hv.2 c1596
          refine lv_iconst (v := 0) hx hb dL_law_1084 (by decide) ?_
          exact False.elim hv
      by_cases ck29 : ((xs v3.toNatClampNeg) &&& 63) = 29
      · clear ck0 ck1 ck2 ck3 ck4 ck5 ck6 ck7 ck8 ck9 ck10 ck11 ck12 ck13 ck14 ck15 ck16 ck17 ck18 ck19 ck20 ck21 ck22 ck23 ck24 ck25 ck26 ck27 ck28
        refine lv_tableIn (tgt := 1086) (off := 1053) hx hb dL_law_33 (by rw [ck29]; decide) (by rw [ck29]; decide) (by rw [ck29]; rfl) (by decide) ?_
        have hv := hv.2.2.2.2.2.2.2.2.2.2.2.2.2.2.2.2.2.2.2.2.2.2.2.2.2.2.2.2.2.1 ck29
        refine lv_aload_n hx hb dL_law_1086 rfl (lv_at hl 1 rfl) (lv_aload_n hx hb dL_law_1087 rfl (lv_at hl 0 rfl) (lv_iload_n hx hb dL_law_1088 rfl (lv_at hl 3 rfl) (lv_iconst (v := 1) hx hb dL_law_1089 (by decide) (lv_iadd hx hb dL_law_1090 ?_))))
        have hi1597 := hv.1
        have hv := hv.2
        refine va_sld hx hb hX hbl hbA hS hi1597 dL_law_1091 ?_
        refine gl_iX (gl_bV (As := [.int (xs (v3 + 1).toNatClampNeg)]) (rest := []) C0 hK hP kX6_call ql_L_137 (mX6_call hE hv) (by decide) ge_X6 rfl rfl hl.1 rfl (Nat.le_of_ble_eq_true rfl) ⟨rfl, rfl, Nat.le_of_ble_eq_true rfl, Nat.le_of_ble_eq_true rfl⟩ dL_law_1092) hS (fun x1598 μ1599 H locs hv hP hS => ?_)
        refine lv_aload_n hx hb dL_law_1095 rfl (lv_at hl 2 rfl) (lv_aload_n hx hb dL_law_1096 rfl (lv_at hl 0 rfl) (lv_iload_n hx hb dL_law_1097 rfl (lv_at hl 3 rfl) (lv_iconst (v := 1) hx hb dL_law_1098 (by decide) (lv_iadd hx hb dL_law_1099 ?_))))
        have hi1600 := hv.1
        have hv := hv.2
        refine va_sld hx hb hX hbl hbA hS hi1600 dL_law_1100 ?_
        refine gl_iM (gl_bV (As := [.int (xs (v3 + 1).toNatClampNeg)]) (rest := [.int x1598]) C0 hK hP kX7_call ql_L_140 (mX7_call hE hv) (by decide) ge_X7 rfl rfl hl.1 rfl (Nat.le_of_ble_eq_true rfl) ⟨rfl, rfl, Nat.le_of_ble_eq_true rfl, Nat.le_of_ble_eq_true rfl⟩ dL_law_1101) hS (fun x1601 ν1602 τ1603 H locs hv hP hS => ?_)
        refine lv_icmp_eq (tgt := 1191) hx hb dL_law_1104 (by decide) (fun c1604 => ?_) (fun c1604 => ?_)
        · have hv := hv.1 c1604
          refine lv_iinc (v := (v3 + 7)) (lv' := [(3, .int (v3 + 7)), (0, .ref b), (1, .ref (gL E 31)), (2, .ref (gL E 32))]) hx hb dL_law_1191 hl (k := 3) rfl rfl (by decide) rfl (fun ls hl => (lv_goto (tgt := 18) hx hb dL_law_1194 (by decide) ?_))
          exact ih (v3 + 7) μ1599 ν1602 τ1603 H locs ls hP hS (lv_sub hl [1, 2, 3, 0] rfl) hv
        · have hv := hv.2 c1604
          refine lv_iconst (v := 0) hx hb dL_law_1107 (by decide) ?_
          exact False.elim hv
      by_cases ck30 : ((xs v3.toNatClampNeg) &&& 63) = 30
      · clear ck0 ck1 ck2 ck3 ck4 ck5 ck6 ck7 ck8 ck9 ck10 ck11 ck12 ck13 ck14 ck15 ck16 ck17 ck18 ck19 ck20 ck21 ck22 ck23 ck24 ck25 ck26 ck27 ck28 ck29
        refine lv_tableIn (tgt := 1109) (off := 1076) hx hb dL_law_33 (by rw [ck30]; decide) (by rw [ck30]; decide) (by rw [ck30]; rfl) (by decide) ?_
        have hv := hv.2.2.2.2.2.2.2.2.2.2.2.2.2.2.2.2.2.2.2.2.2.2.2.2.2.2.2.2.2.2.1 ck30
        refine lv_aload_n hx hb dL_law_1109 rfl (lv_at hl 1 rfl) (lv_aload_n hx hb dL_law_1110 rfl (lv_at hl 0 rfl) (lv_iload_n hx hb dL_law_1111 rfl (lv_at hl 3 rfl) (lv_iconst (v := 1) hx hb dL_law_1112 (by decide) (lv_iadd hx hb dL_law_1113 ?_))))
        have hi1605 := hv.1
        have hv := hv.2
        refine va_sld hx hb hX hbl hbA hS hi1605 dL_law_1114 (lv_aload_n hx hb dL_law_1115 rfl (lv_at hl 0 rfl) (lv_iload_n hx hb dL_law_1116 rfl (lv_at hl 3 rfl) (lv_iconst (v := 2) hx hb dL_law_1117 (by decide) (lv_iadd hx hb dL_law_1118 ?_))))
        have hi1606 := hv.1
        have hv := hv.2
        refine va_sld hx hb hX hbl hbA hS hi1606 dL_law_1119 ?_
        refine gl_iX (gl_bV (As := [.int (xs (v3 + 1).toNatClampNeg), .int (xs (v3 + 2).toNatClampNeg)]) (rest := []) C0 hK hP kX6_as ql_L_141 (mX6_as hE hv) (by decide) ge_X6 rfl rfl hl.1 rfl (Nat.le_of_ble_eq_true rfl) ⟨rfl, rfl, Nat.le_of_ble_eq_true rfl, Nat.le_of_ble_eq_true rfl⟩ dL_law_1120) hS (fun x1607 μ1608 H locs hv hP hS => ?_)
        refine lv_aload_n hx hb dL_law_1123 rfl (lv_at hl 2 rfl) (lv_aload_n hx hb dL_law_1124 rfl (lv_at hl 0 rfl) (lv_iload_n hx hb dL_law_1125 rfl (lv_at hl 3 rfl) (lv_iconst (v := 1) hx hb dL_law_1126 (by decide) (lv_iadd hx hb dL_law_1127 ?_))))
        have hi1609 := hv.1
        have hv := hv.2
        refine va_sld hx hb hX hbl hbA hS hi1609 dL_law_1128 (lv_aload_n hx hb dL_law_1129 rfl (lv_at hl 0 rfl) (lv_iload_n hx hb dL_law_1130 rfl (lv_at hl 3 rfl) (lv_iconst (v := 2) hx hb dL_law_1131 (by decide) (lv_iadd hx hb dL_law_1132 ?_))))
        have hi1610 := hv.1
        have hv := hv.2
        refine va_sld hx hb hX hbl hbA hS hi1610 dL_law_1133 ?_
        refine gl_iM (gl_bV (As := [.int (xs (v3 + 1).toNatClampNeg), .int (xs (v3 + 2).toNatClampNeg)]) (rest := [.int x1607]) C0 hK hP kX7_as ql_L_144 (mX7_as hE hv) (by decide) ge_X7 rfl rfl hl.1 rfl (Nat.le_of_ble_eq_true rfl) ⟨rfl, rfl, Nat.le_of_ble_eq_true rfl, Nat.le_of_ble_eq_true rfl⟩ dL_law_1134) hS (fun x1611 ν1612 τ1613 H locs hv hP hS => ?_)
        refine lv_icmp_eq (tgt := 1191) hx hb dL_law_1137 (by decide) (fun c1614 => ?_) (fun c1614 => ?_)
        · have hv := hv.1 c1614
          refine lv_iinc (v := (v3 + 7)) (lv' := [(3, .int (v3 + 7)), (0, .ref b), (1, .ref (gL E 31)), (2, .ref (gL E 32))]) hx hb dL_law_1191 hl (k := 3) rfl rfl (by decide) rfl (fun ls hl => (lv_goto (tgt := 18) hx hb dL_law_1194 (by decide) ?_))
          exact ih (v3 + 7) μ1608 ν1612 τ1613 H locs ls hP hS (lv_sub hl [1, 2, 3, 0] rfl) hv
        · have hv := hv.2 c1614
          refine lv_iconst (v := 0) hx hb dL_law_1140 (by decide) ?_
          exact False.elim hv
      by_cases ck31 : ((xs v3.toNatClampNeg) &&& 63) = 31
      · clear ck0 ck1 ck2 ck3 ck4 ck5 ck6 ck7 ck8 ck9 ck10 ck11 ck12 ck13 ck14 ck15 ck16 ck17 ck18 ck19 ck20 ck21 ck22 ck23 ck24 ck25 ck26 ck27 ck28 ck29 ck30
        refine lv_tableIn (tgt := 1142) (off := 1109) hx hb dL_law_33 (by rw [ck31]; decide) (by rw [ck31]; decide) (by rw [ck31]; rfl) (by decide) ?_
        have hv := hv.2.2.2.2.2.2.2.2.2.2.2.2.2.2.2.2.2.2.2.2.2.2.2.2.2.2.2.2.2.2.2.1 ck31
        refine lv_aload_n hx hb dL_law_1142 rfl (lv_at hl 1 rfl) ?_
        refine gl_iX (gl_bV (As := []) (rest := []) C0 hK hP kX6_trace ql_L_145 (mX6_trace hE hv) (by decide) ge_X6 rfl rfl hl.1 rfl (Nat.le_of_ble_eq_true rfl) ⟨rfl, rfl, Nat.le_of_ble_eq_true rfl, Nat.le_of_ble_eq_true rfl⟩ dL_law_1143) hS (fun x1615 μ1616 H locs hv hP hS => ?_)
        refine lv_aload_n hx hb dL_law_1146 rfl (lv_at hl 2 rfl) ?_
        refine gl_iM (gl_bV (As := []) (rest := [.int x1615]) C0 hK hP kX7_trace ql_L_148 (mX7_trace hE hv) (by decide) ge_X7 rfl rfl hl.1 rfl (Nat.le_of_ble_eq_true rfl) ⟨rfl, rfl, Nat.le_of_ble_eq_true rfl, Nat.le_of_ble_eq_true rfl⟩ dL_law_1147) hS (fun x1617 ν1618 τ1619 H locs hv hP hS => ?_)
        refine lv_icmp_eq (tgt := 1191) hx hb dL_law_1150 (by decide) (fun c1620 => ?_) (fun c1620 => ?_)
        · have hv := hv.1 c1620
          refine lv_iinc (v := (v3 + 7)) (lv' := [(3, .int (v3 + 7)), (0, .ref b), (1, .ref (gL E 31)), (2, .ref (gL E 32))]) hx hb dL_law_1191 hl (k := 3) rfl rfl (by decide) rfl (fun ls hl => (lv_goto (tgt := 18) hx hb dL_law_1194 (by decide) ?_))
          exact ih (v3 + 7) μ1616 ν1618 τ1619 H locs ls hP hS (lv_sub hl [1, 2, 3, 0] rfl) hv
        · have hv := hv.2 c1620
          refine lv_iconst (v := 0) hx hb dL_law_1153 (by decide) ?_
          exact False.elim hv
      by_cases ck32 : ((xs v3.toNatClampNeg) &&& 63) = 32
      · clear ck0 ck1 ck2 ck3 ck4 ck5 ck6 ck7 ck8 ck9 ck10 ck11 ck12 ck13 ck14 ck15 ck16 ck17 ck18 ck19 ck20 ck21 ck22 ck23 ck24 ck25 ck26 ck27 ck28 ck29 ck30 ck31
        refine lv_tableIn (tgt := 1155) (off := 1122) hx hb dL_law_33 (by rw [ck32]; decide) (by rw [ck32]; decide) (by rw [ck32]; rfl) (by decide) ?_
        have hv := hv.2.2.2.2.2.2.2.2.2.2.2.2.2.2.2.2.2.2.2.2.2.2.2.2.2.2.2.2.2.2.2.2.1 ck32
        refine lv_aload_n hx hb dL_law_1155 rfl (lv_at hl 1 rfl) ?_
        refine gl_iX (gl_bV (As := []) (rest := []) C0 hK hP kX6_fault ql_L_149 (mX6_fault hE hv) (by decide) ge_X6 rfl rfl hl.1 rfl (Nat.le_of_ble_eq_true rfl) ⟨rfl, rfl, Nat.le_of_ble_eq_true rfl, Nat.le_of_ble_eq_true rfl⟩ dL_law_1156) hS (fun x1621 μ1622 H locs hv hP hS => ?_)
        refine lv_aload_n hx hb dL_law_1159 rfl (lv_at hl 2 rfl) ?_
        refine gl_iM (gl_bV (As := []) (rest := [.int x1621]) C0 hK hP kX7_fault ql_L_152 (mX7_fault hE hv) (by decide) ge_X7 rfl rfl hl.1 rfl (Nat.le_of_ble_eq_true rfl) ⟨rfl, rfl, Nat.le_of_ble_eq_true rfl, Nat.le_of_ble_eq_true rfl⟩ dL_law_1160) hS (fun x1623 ν1624 τ1625 H locs hv hP hS => ?_)
        refine lv_icmp_eq (tgt := 1191) hx hb dL_law_1163 (by decide) (fun c1626 => ?_) (fun c1626 => ?_)
        · have hv := hv.1 c1626
          refine lv_iinc (v := (v3 + 7)) (lv' := [(3, .int (v3 + 7)), (0, .ref b), (1, .ref (gL E 31)), (2, .ref (gL E 32))]) hx hb dL_law_1191 hl (k := 3) rfl rfl (by decide) rfl (fun ls hl => (lv_goto (tgt := 18) hx hb dL_law_1194 (by decide) ?_))
          exact ih (v3 + 7) μ1622 ν1624 τ1625 H locs ls hP hS (lv_sub hl [1, 2, 3, 0] rfl) hv
        · have hv := hv.2 c1626
          refine lv_iconst (v := 0) hx hb dL_law_1166 (by decide) ?_
          exact False.elim hv
      by_cases ck33 : ((xs v3.toNatClampNeg) &&& 63) = 33
      · clear ck0 ck1 ck2 ck3 ck4 ck5 ck6 ck7 ck8 ck9 ck10 ck11 ck12 ck13 ck14 ck15 ck16 ck17 ck18 ck19 ck20 ck21 ck22 ck23 ck24 ck25 ck26 ck27 ck28 ck29 ck30 ck31 ck32
        refine lv_tableIn (tgt := 1168) (off := 1135) hx hb dL_law_33 (by rw [ck33]; decide) (by rw [ck33]; decide) (by rw [ck33]; rfl) (by decide) ?_
        have hv := hv.2.2.2.2.2.2.2.2.2.2.2.2.2.2.2.2.2.2.2.2.2.2.2.2.2.2.2.2.2.2.2.2.2.1 ck33
        refine lv_aload_n hx hb dL_law_1168 rfl (lv_at hl 1 rfl) (lv_aload_n hx hb dL_law_1169 rfl (lv_at hl 0 rfl) (lv_iload_n hx hb dL_law_1170 rfl (lv_at hl 3 rfl) (lv_iconst (v := 1) hx hb dL_law_1171 (by decide) (lv_iadd hx hb dL_law_1172 ?_))))
        have hi1627 := hv.1
        have hv := hv.2
        refine va_sld hx hb hX hbl hbA hS hi1627 dL_law_1173 ?_
        refine gl_iX (gl_bV (As := [.int (xs (v3 + 1).toNatClampNeg)]) (rest := []) C0 hK hP kX6_many ql_L_153 (mX6_many hE hv) (by decide) ge_X6 rfl rfl hl.1 rfl (Nat.le_of_ble_eq_true rfl) ⟨rfl, rfl, Nat.le_of_ble_eq_true rfl, Nat.le_of_ble_eq_true rfl⟩ dL_law_1174) hS (fun x1628 μ1629 H locs hv hP hS => ?_)
        refine lv_aload_n hx hb dL_law_1177 rfl (lv_at hl 2 rfl) (lv_aload_n hx hb dL_law_1178 rfl (lv_at hl 0 rfl) (lv_iload_n hx hb dL_law_1179 rfl (lv_at hl 3 rfl) (lv_iconst (v := 1) hx hb dL_law_1180 (by decide) (lv_iadd hx hb dL_law_1181 ?_))))
        have hi1630 := hv.1
        have hv := hv.2
        refine va_sld hx hb hX hbl hbA hS hi1630 dL_law_1182 ?_
        refine gl_iM (gl_bV (As := [.int (xs (v3 + 1).toNatClampNeg)]) (rest := [.int x1628]) C0 hK hP kX7_many ql_L_156 (mX7_many hE hv) (by decide) ge_X7 rfl rfl hl.1 rfl (Nat.le_of_ble_eq_true rfl) ⟨rfl, rfl, Nat.le_of_ble_eq_true rfl, Nat.le_of_ble_eq_true rfl⟩ dL_law_1183) hS (fun x1631 ν1632 τ1633 H locs hv hP hS => ?_)
        refine lv_icmp_eq (tgt := 1191) hx hb dL_law_1186 (by decide) (fun c1634 => ?_) (fun c1634 => ?_)
        · have hv := hv.1 c1634
          refine lv_iinc (v := (v3 + 7)) (lv' := [(3, .int (v3 + 7)), (0, .ref b), (1, .ref (gL E 31)), (2, .ref (gL E 32))]) hx hb dL_law_1191 hl (k := 3) rfl rfl (by decide) rfl (fun ls hl => (lv_goto (tgt := 18) hx hb dL_law_1194 (by decide) ?_))
          exact ih (v3 + 7) μ1629 ν1632 τ1633 H locs ls hP hS (lv_sub hl [1, 2, 3, 0] rfl) hv
        · have hv := hv.2 c1634
          refine lv_iconst (v := 0) hx hb dL_law_1189 (by decide) ?_
          exact False.elim hv
      refine lv_tableOut (tgt := 1191) hx hb dL_law_33 (sw_out 34 (fun k hk => ?_)) (by decide) ?_
      · match k, hk with
        | 0, _ => exact ck0
        | 1, _ => exact ck1
        | 2, _ => exact ck2
        | 3, _ => exact ck3
        | 4, _ => exact ck4
        | 5, _ => exact ck5
        | 6, _ => exact ck6
        | 7, _ => exact ck7
        | 8, _ => exact ck8
        | 9, _ => exact ck9
        | 10, _ => exact ck10
        | 11, _ => exact ck11
        | 12, _ => exact ck12
        | 13, _ => exact ck13
        | 14, _ => exact ck14
        | 15, _ => exact ck15
        | 16, _ => exact ck16
        | 17, _ => exact ck17
        | 18, _ => exact ck18
        | 19, _ => exact ck19
        | 20, _ => exact ck20
        | 21, _ => exact ck21
        | 22, _ => exact ck22
        | 23, _ => exact ck23
        | 24, _ => exact ck24
        | 25, _ => exact ck25
        | 26, _ => exact ck26
        | 27, _ => exact ck27
        | 28, _ => exact ck28
        | 29, _ => exact ck29
        | 30, _ => exact ck30
        | 31, _ => exact ck31
        | 32, _ => exact ck32
        | 33, _ => exact ck33
        | k + 34, h => exact absurd h (by omega)
      · have hv := hv.2.2.2.2.2.2.2.2.2.2.2.2.2.2.2.2.2.2.2.2.2.2.2.2.2.2.2.2.2.2.2.2.2.2
        refine lv_iinc (v := (v3 + 7)) (lv' := [(3, .int (v3 + 7)), (0, .ref b), (1, .ref (gL E 31)), (2, .ref (gL E 32))]) hx hb dL_law_1191 hl (k := 3) rfl rfl (by decide) rfl (fun ls hl => (lv_goto (tgt := 18) hx hb dL_law_1194 (by decide) ?_))
        exact ih (v3 + 7) μ ν τ H locs ls hP hS (lv_sub hl [1, 2, 3, 0] rfl) hv
