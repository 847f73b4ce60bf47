def gμ0 : gM := fun id k => if id = 31 then (if k = 8 then 2 else 0) else if 10 ≤ id ∧ id < 14 then (if k = 1 then -1 else 0) else 0
def gν0 : gM := fun id => if id = 33 then (upd (upd (upd (upd (fun _ => 0) (0 : Int32).toNatClampNeg (-9)) (1 : Int32).toNatClampNeg (-9)) (2 : Int32).toNatClampNeg (-9)) (3 : Int32).toNatClampNeg (-9)) else fun _ => 0
def gτ0 : gJ := fun _ => 0
def gAdr (fX6 fX7 : Nat → Nat) (qX6 qX7 : Nat) (k : Nat) : Nat := match k with
  | 0 => (fX6 0)
  | 1 => (fX6 2)
  | 2 => (fX6 17)
  | 3 => (fX6 19)
  | 4 => (fX6 21)
  | 5 => (fX6 1)
  | 6 => (fX6 3)
  | 7 => (fX6 18)
  | 8 => (fX6 20)
  | 9 => (fX6 22)
  | 10 => (fX6 23)
  | 11 => (fX6 25)
  | 12 => (fX6 27)
  | 13 => (fX6 29)
  | 14 => (fX6 24)
  | 15 => (fX6 26)
  | 16 => (fX6 28)
  | 17 => (fX6 30)
  | 18 => (fX6 6)
  | 19 => (fX6 7)
  | 20 => (fX6 8)
  | 21 => (fX6 9)
  | 22 => (fX6 10)
  | 23 => (fX6 11)
  | 24 => (fX6 12)
  | 25 => (fX6 13)
  | 26 => (fX6 14)
  | 27 => (fX6 15)
  | 28 => (fX6 16)
  | 29 => (fX6 4)
  | 30 => (fX6 5)
  | 31 => qX6
  | 32 => qX7
  | 33 => (fX7 0)
  | 34 => (fX7 1)
  | 35 => (fX7 2)
  | 36 => (fX7 3)
  | 37 => (fX7 4)
  | 38 => (fX7 5)
  | 39 => (fX7 6)
  | 40 => (fX7 7)
  | 41 => (fX7 8)
  | 42 => (fX7 9)
  | 43 => (fX7 10)
  | 44 => (fX7 11)
  | 45 => (fX7 12)
  | _ => 0
theorem va_at_e {D : va_G} {cl : List vw_C} {q : Nat} {x y : va_E} {H : Heap} (e : y = x) (h : va_at D cl (q, x) H) : va_at D cl (q, y) H := by rw [e]; exact h
theorem va_at_q {D : va_G} {cl : List vw_C} {q n : Nat} {cA : ClassId} {f g : Nat → Option Nat} {H : Heap} (e : ∀ j, j < n → g j = f j) (h : va_at D cl (q, .inl (cA, n, .inr (.inr (.inr (.inr f))))) H) : va_at D cl (q, .inl (cA, n, .inr (.inr (.inr (.inr g))))) H := by
  have h1 : H[q]? = some (arrV cA n (fun j => va_rf (f j))) := h
  show H[q]? = some (arrV cA n (fun j => va_rf (g j)))
  rw [h1]
  unfold arrV
  congr 3
  funext j
  show va_rf (f j.val) = va_rf (g j.val)
  rw [e j.val j.isLt]
set_option maxHeartbeats 8000000 in
set_option maxRecDepth 100000 in
theorem whole_open {p : Program} {e : Env} {s : State} {m : MethodId} {below : List Frame} {meth : Method} {c : Code} (l : Launch) {b L : Nat} {xs : Nat → Int32} (hv : ∃ n, vL_18 L xs n 0 gμ0 gν0 gτ0) (C1 : lw_At p s m meth c b L xs) : W p l e room_1 s m #[Value.ref b] below meth c s.heap [] 0 0 (lw_Z below #[Value.ref b] s) (entryFrame m ([Value.ref b] : List Value).toArray 4) := by
  obtain ⟨hx, hb, hr, hml, hown, hts, hX, hbl, hlocks, hgv⟩ := id C1
  have C0 : CallFix p m c code 4 s #[Value.ref b] gTB RL := ⟨hx, hb, hml, hown, fun w hw => hts w (gTB_lw hw)⟩
  have hA : ∀ q : Nat, s.heap.size ≤ q → (fun q : Nat => s.heap.size ≤ q) q := fun _ h => h
  obtain ⟨c0, i0, hn0⟩ := u_known (C := RX0) (T := TX0) (N := 3) (n := 3) C0.2.2.2.2 inX0 (C0.2.2.2.2 (.instantiable RX0 3) (gTB_at 124 rfl rfl))
  obtain ⟨c1, i1, hn1⟩ := u_known (C := RX1) (T := TX1) (N := 2) (n := 2) C0.2.2.2.2 inX1 (C0.2.2.2.2 (.instantiable RX1 2) (gTB_at 81 rfl rfl))
  obtain ⟨c2, i2, hn2⟩ := u_known (C := RX2) (T := TX2) (N := 2) (n := 2) C0.2.2.2.2 inX2 (C0.2.2.2.2 (.instantiable RX2 2) (gTB_at 94 rfl rfl))
  obtain ⟨c3, i3, hn3⟩ := u_known (C := RX3) (T := TX3) (N := 2) (n := 2) C0.2.2.2.2 inX3 (C0.2.2.2.2 (.instantiable RX3 2) (gTB_at 63 rfl rfl))
  obtain ⟨c4, i4, hn4⟩ := u_known (C := RX4) (T := TX4) (N := 3) (n := 3) C0.2.2.2.2 inX4 (C0.2.2.2.2 (.instantiable RX4 3) (gTB_at 139 rfl rfl))
  obtain ⟨c5, i5, hn5⟩ := u_known (C := RX5) (T := TX5) (N := 3) (n := 3) C0.2.2.2.2 inX5 (C0.2.2.2.2 (.instantiable RX5 3) (gTB_at 108 rfl rfl))
  obtain ⟨c6, i6, hn6⟩ := u_known (C := RX6) (T := TX6) (N := 11) (n := 11) C0.2.2.2.2 inX6 (C0.2.2.2.2 (.instantiable RX6 11) (gTB_at 55 rfl rfl))
  obtain ⟨c7, i7, hn7⟩ := u_known (C := RX7) (T := TX7) (N := 20) (n := 20) C0.2.2.2.2 inX7 (C0.2.2.2.2 (.instantiable RX7 20) (gTB_at 623 rfl rfl))
  obtain ⟨dC, dI, hKc⟩ : ∃ (dC : Nat → ClassId) (dI : Nat → Nat → Nat), ∀ (k : Nat) (q : vw_C), vwCl[k]? = some q → u_Kn s q.1 q.2.1 q.2.2 (dC k) (dI k) := by
    refine ⟨fun k => match k with | 0 => c0 | 1 => c1 | 2 => c2 | 3 => c3 | 4 => c4 | 5 => c5 | 6 => c6 | _ => c7, fun k => match k with | 0 => i0 | 1 => i1 | 2 => i2 | 3 => i3 | 4 => i4 | 5 => i5 | 6 => i6 | _ => i7, ?_⟩
    intro k q hq
    match k, hq with
    | 0, hq => cases hq; exact hn0
    | 1, hq => cases hq; exact hn1
    | 2, hq => cases hq; exact hn2
    | 3, hq => cases hq; exact hn3
    | 4, hq => cases hq; exact hn4
    | 5, hq => cases hq; exact hn5
    | 6, hq => cases hq; exact hn6
    | 7, hq => cases hq; exact hn7
    | k + 8, hq => simp [vwCl] at hq
  obtain ⟨cI, kI, pI, hI1, hI2, hI3⟩ := Cond.arrayClass_spec (hts (.arrayClass .int) (List.mem_of_getElem? (i := 76) rfl))
  obtain ⟨cJ, kJ, pJ, hJ1, hJ2, hJ3⟩ := Cond.arrayClass_spec (hts (.arrayClass .long) (List.mem_of_getElem? (i := 689) rfl))
  have hoR := hts (.arrayOver (.object RX3)) (List.mem_of_getElem? (i := 77) rfl)
  have hoS := hts (.arrayOver (.object RX4)) (List.mem_of_getElem? (i := 79) rfl)
  obtain ⟨pR, cR, kR, hR1, _, hR2, hR3, hR4⟩ := Cond.arrayOver_spec hoR
  obtain ⟨pS, cS, kS, hS1, _, hS2, hS3, hS4⟩ := Cond.arrayOver_spec hoS
  obtain ⟨E, hEe⟩ : ∃ E : gE, E = ((fun _ => 0), (dC, dI), cI, cJ, cR, cS) := ⟨_, rfl⟩
  have hK : gK2 E s := by
    subst hEe
    refine ⟨⟨⟨hKc, fun k q hk => ?_⟩, fun w hw hn => ?_⟩, hoR, hoS⟩
    · match k, hk with
      | 0, hk => cases hk; exact ⟨fun n z => ⟨fun k h => (by cases h), kI, hI2, pI, hI3⟩, hI1⟩
      | 1, hk => cases hk; exact ⟨fun n z => ⟨fun k h => (by cases h), kJ, hJ2, pJ, hJ3⟩, hJ1⟩
      | 2, hk => cases hk; exact ⟨fun n z => ⟨fun k h => (by cases h), kR, hR2, pR, hR3⟩, kR, pR, hR2, hR3, hR1, hR4⟩
      | 3, hk => cases hk; exact ⟨fun n z => ⟨fun k h => (by cases h), kS, hS2, pS, hS3⟩, kS, pS, hS2, hS3, hS1, hS4⟩
      | k + 4, hk => simp [gty] at hk
    · have h1 := hts w hw
      cases w <;> first | exact va_Nw.of rfl h1 | (simp [gNw] at hn)
  have hS : va_S (fun q : Nat => s.heap.size ≤ q) s.heap s.heap [] := va_S.rf
  have hP : va_P (gD E) vwCl [] s.heap := fun k q h => by simp at h
  have hD : va_D (fun q : Nat => s.heap.size ≤ q) [] := ⟨fun i j p q h => by simp at h, fun k q h => by simp at h⟩
  have hl := lv_entry ([.ref b]) (n := 4) (Nat.le_of_ble_eq_true rfl)
  rw [lg_entry_eq]
  generalize (lg_sl ([.ref b]) ++ List.replicate (4 - (lg_sl ([.ref b])).length) Slot.unset).toArray = ls at hl ⊢
  have hl : lv_has ls 4 [(0, .ref b)] := hl
  refine va_new (ci := 6) (fs := [.null, .null, .null, .null, .null, .null, .null, .null, .int 0, .int 0, .int 0]) (C := RX6) (T := TX6) (N := 11) hx hb C0.2.2.2.2 inX6 tyX6 tyX6_ok C0.2.2.2.1 (C0.2.2.2.2 _ (gTB_at 54 rfl rfl)) (C0.2.2.2.2 _ (gTB_at 55 rfl rfl)) (C0.2.2.2.2 _ qi_X6) hK.1.1 hP hD hS hA rfl (fun j hj => by rcases (show j = 0 ∨ j = 1 ∨ j = 2 ∨ j = 3 ∨ j = 4 ∨ j = 5 ∨ j = 6 ∨ j = 7 ∨ j = 8 ∨ j = 9 ∨ j = 10 by omega) with rfl | rfl | rfl | rfl | rfl | rfl | rfl | rfl | rfl | rfl | rfl <;> rfl) (Nat.le_of_ble_eq_true rfl) (Nat.le_of_ble_eq_true rfl) dL_law_0 (fun qX6 H hP hD hS => ?_)
  have hP : va_P (gD E) vwCl [(qX6, .inr (6, [.null, .null, .null, .null, .null, .null, .null, .null, .int 0, .int 0, .int 0]))] H := hP
  have hD : va_D (fun q : Nat => s.heap.size ≤ q) [(qX6, .inr (6, [.null, .null, .null, .null, .null, .null, .null, .null, .int 0, .int 0, .int 0]))] := hD
  refine W.widen (k := 1) (n := 11) (Nat.le_of_ble_eq_true rfl) (Nat.le_of_ble_eq_true rfl) ?_
  refine lv_dup hx hb dL_law_3 rfl ?_
  have hPc := hP.sub (ws' := [(qX6, .inr (6, [.null, .null, .null, .null, .null, .null, .null, .null, .int 0, .int 0, .int 0]))]) [0] rfl
  have hFc := va_free (wc := [(qX6, .inr (6, [.null, .null, .null, .null, .null, .null, .null, .null, .int 0, .int 0, .int 0]))]) hD hS hA [0] rfl
  refine va_callv (va_runI (As := []) (rest := [.ref qX6]) C0 (cX6 l E qX6 H.size) (cwI 0 C0.2.2.2.2 (gws_good (gTB_at 58 rfl rfl)) rfl rfl rfl (C0.2.2.2.2 _ qi_X6) (C0.2.2.2.2 _ ql_L_9) (C0.2.2.2.2 _ (gTB_at 57 rfl rfl)) rfl (by decide +kernel) ⟨(Nat.le_of_ble_eq_true rfl), (Nat.le_of_ble_eq_true rfl)⟩) ⟨gCp_blind, fun U hU hW => ⟨rfl, by rw [hU], by rw [hU]; exact hPc, hK.moved hW⟩⟩ rfl rfl hl.1 rfl (lv_room (Nat.le_of_ble_eq_true rfl)) dL_law_4 ⟨(Nat.le_of_ble_eq_true rfl), (Nat.le_of_ble_eq_true rfl)⟩) hS (fun q _ h => hFc q h) hFc (fun fX6 t H1 locs ht hvm hw hB hz1 hk1 hS => ?_)
  obtain ⟨hP1, hD1⟩ := hB
  rw [ht] at hP1
  obtain ⟨hP, hD⟩ := va_join (wr := []) (w1 := [(qX6, .inr (6, [.ref (fX6 0), .ref (fX6 2), .ref (fX6 4), .ref (fX6 5), .ref (fX6 6), .ref (fX6 8), .ref (fX6 10), .ref (fX6 13), .int 2, .int 0, .int 0])), ((fX6 0), .inr (3, [.ref (fX6 1), .int 0])), ((fX6 1), .inl (gI E, 8, .inl (fun _ => 0))), ((fX6 2), .inr (3, [.ref (fX6 3), .int 0])), ((fX6 3), .inl (gI E, 8, .inl (fun _ => 0))), ((fX6 4), .inl (gRc E, 3, .inr (.inr (.inr (.inr (va_up (va_up (va_up (fun _ => none) (0 : Int32).toNatClampNeg (some (fX6 17))) (1 : Int32).toNatClampNeg (some (fX6 19))) (2 : Int32).toNatClampNeg (some (fX6 21)))))))), ((fX6 5), .inl (gSc E, 4, .inr (.inr (.inr (.inr (va_up (va_up (va_up (va_up (fun _ => none) (0 : Int32).toNatClampNeg (some (fX6 23))) (1 : Int32).toNatClampNeg (some (fX6 25))) (2 : Int32).toNatClampNeg (some (fX6 27))) (3 : Int32).toNatClampNeg (some (fX6 29)))))))), ((fX6 6), .inr (1, [.ref (fX6 7), .int 0])), ((fX6 7), .inl (gI E, 10, .inl (fun _ => 0))), ((fX6 8), .inr (2, [.ref (fX6 9), .int 0])), ((fX6 9), .inl (gI E, 10, .inl (fun _ => 0))), ((fX6 10), .inr (5, [.ref (fX6 11), .ref (fX6 12), .int 0])), ((fX6 11), .inl (gI E, 512, .inl (fun _ => 0))), ((fX6 12), .inl (gI E, 512, .inl (fun _ => 0))), ((fX6 13), .inr (0, [.ref (fX6 14), .ref (fX6 15), .ref (fX6 16)])), ((fX6 14), .inl (gI E, 8, .inl (fun _ => 0))), ((fX6 15), .inl (gI E, 8, .inl (fun _ => 0))), ((fX6 16), .inl (gI E, 2560, .inl (fun _ => 0))), ((fX6 17), .inr (3, [.ref (fX6 18), .int 0])), ((fX6 18), .inl (gI E, 8, .inl (fun _ => 0))), ((fX6 19), .inr (3, [.ref (fX6 20), .int 0])), ((fX6 20), .inl (gI E, 8, .inl (fun _ => 0))), ((fX6 21), .inr (3, [.ref (fX6 22), .int 0])), ((fX6 22), .inl (gI E, 8, .inl (fun _ => 0))), ((fX6 23), .inr (4, [.ref (fX6 24), .int (-1), .int 0])), ((fX6 24), .inl (gI E, 40, .inl (fun _ => 0))), ((fX6 25), .inr (4, [.ref (fX6 26), .int (-1), .int 0])), ((fX6 26), .inl (gI E, 40, .inl (fun _ => 0))), ((fX6 27), .inr (4, [.ref (fX6 28), .int (-1), .int 0])), ((fX6 28), .inl (gI E, 40, .inl (fun _ => 0))), ((fX6 29), .inr (4, [.ref (fX6 30), .int (-1), .int 0])), ((fX6 30), .inl (gI E, 40, .inl (fun _ => 0)))]) hP hD [0] [] rfl rfl (by decide) (by decide) hk1 hFc hP1 hD1
  generalize H1 = H at hP hS ⊢
  have hP : va_P (gD E) vwCl [(qX6, .inr (6, [.ref (fX6 0), .ref (fX6 2), .ref (fX6 4), .ref (fX6 5), .ref (fX6 6), .ref (fX6 8), .ref (fX6 10), .ref (fX6 13), .int 2, .int 0, .int 0])), ((fX6 0), .inr (3, [.ref (fX6 1), .int 0])), ((fX6 1), .inl (gI E, 8, .inl (fun _ => 0))), ((fX6 2), .inr (3, [.ref (fX6 3), .int 0])), ((fX6 3), .inl (gI E, 8, .inl (fun _ => 0))), ((fX6 4), .inl (gRc E, 3, .inr (.inr (.inr (.inr (va_up (va_up (va_up (fun _ => none) (0 : Int32).toNatClampNeg (some (fX6 17))) (1 : Int32).toNatClampNeg (some (fX6 19))) (2 : Int32).toNatClampNeg (some (fX6 21)))))))), ((fX6 5), .inl (gSc E, 4, .inr (.inr (.inr (.inr (va_up (va_up (va_up (va_up (fun _ => none) (0 : Int32).toNatClampNeg (some (fX6 23))) (1 : Int32).toNatClampNeg (some (fX6 25))) (2 : Int32).toNatClampNeg (some (fX6 27))) (3 : Int32).toNatClampNeg (some (fX6 29)))))))), ((fX6 6), .inr (1, [.ref (fX6 7), .int 0])), ((fX6 7), .inl (gI E, 10, .inl (fun _ => 0))), ((fX6 8), .inr (2, [.ref (fX6 9), .int 0])), ((fX6 9), .inl (gI E, 10, .inl (fun _ => 0))), ((fX6 10), .inr (5, [.ref (fX6 11), .ref (fX6 12), .int 0])), ((fX6 11), .inl (gI E, 512, .inl (fun _ => 0))), ((fX6 12), .inl (gI E, 512, .inl (fun _ => 0))), ((fX6 13), .inr (0, [.ref (fX6 14), .ref (fX6 15), .ref (fX6 16)])), ((fX6 14), .inl (gI E, 8, .inl (fun _ => 0))), ((fX6 15), .inl (gI E, 8, .inl (fun _ => 0))), ((fX6 16), .inl (gI E, 2560, .inl (fun _ => 0))), ((fX6 17), .inr (3, [.ref (fX6 18), .int 0])), ((fX6 18), .inl (gI E, 8, .inl (fun _ => 0))), ((fX6 19), .inr (3, [.ref (fX6 20), .int 0])), ((fX6 20), .inl (gI E, 8, .inl (fun _ => 0))), ((fX6 21), .inr (3, [.ref (fX6 22), .int 0])), ((fX6 22), .inl (gI E, 8, .inl (fun _ => 0))), ((fX6 23), .inr (4, [.ref (fX6 24), .int (-1), .int 0])), ((fX6 24), .inl (gI E, 40, .inl (fun _ => 0))), ((fX6 25), .inr (4, [.ref (fX6 26), .int (-1), .int 0])), ((fX6 26), .inl (gI E, 40, .inl (fun _ => 0))), ((fX6 27), .inr (4, [.ref (fX6 28), .int (-1), .int 0])), ((fX6 28), .inl (gI E, 40, .inl (fun _ => 0))), ((fX6 29), .inr (4, [.ref (fX6 30), .int (-1), .int 0])), ((fX6 30), .inl (gI E, 40, .inl (fun _ => 0)))] H := hP
  have hD : va_D (fun q : Nat => s.heap.size ≤ q) [(qX6, .inr (6, [.ref (fX6 0), .ref (fX6 2), .ref (fX6 4), .ref (fX6 5), .ref (fX6 6), .ref (fX6 8), .ref (fX6 10), .ref (fX6 13), .int 2, .int 0, .int 0])), ((fX6 0), .inr (3, [.ref (fX6 1), .int 0])), ((fX6 1), .inl (gI E, 8, .inl (fun _ => 0))), ((fX6 2), .inr (3, [.ref (fX6 3), .int 0])), ((fX6 3), .inl (gI E, 8, .inl (fun _ => 0))), ((fX6 4), .inl (gRc E, 3, .inr (.inr (.inr (.inr (va_up (va_up (va_up (fun _ => none) (0 : Int32).toNatClampNeg (some (fX6 17))) (1 : Int32).toNatClampNeg (some (fX6 19))) (2 : Int32).toNatClampNeg (some (fX6 21)))))))), ((fX6 5), .inl (gSc E, 4, .inr (.inr (.inr (.inr (va_up (va_up (va_up (va_up (fun _ => none) (0 : Int32).toNatClampNeg (some (fX6 23))) (1 : Int32).toNatClampNeg (some (fX6 25))) (2 : Int32).toNatClampNeg (some (fX6 27))) (3 : Int32).toNatClampNeg (some (fX6 29)))))))), ((fX6 6), .inr (1, [.ref (fX6 7), .int 0])), ((fX6 7), .inl (gI E, 10, .inl (fun _ => 0))), ((fX6 8), .inr (2, [.ref (fX6 9), .int 0])), ((fX6 9), .inl (gI E, 10, .inl (fun _ => 0))), ((fX6 10), .inr (5, [.ref (fX6 11), .ref (fX6 12), .int 0])), ((fX6 11), .inl (gI E, 512, .inl (fun _ => 0))), ((fX6 12), .inl (gI E, 512, .inl (fun _ => 0))), ((fX6 13), .inr (0, [.ref (fX6 14), .ref (fX6 15), .ref (fX6 16)])), ((fX6 14), .inl (gI E, 8, .inl (fun _ => 0))), ((fX6 15), .inl (gI E, 8, .inl (fun _ => 0))), ((fX6 16), .inl (gI E, 2560, .inl (fun _ => 0))), ((fX6 17), .inr (3, [.ref (fX6 18), .int 0])), ((fX6 18), .inl (gI E, 8, .inl (fun _ => 0))), ((fX6 19), .inr (3, [.ref (fX6 20), .int 0])), ((fX6 20), .inl (gI E, 8, .inl (fun _ => 0))), ((fX6 21), .inr (3, [.ref (fX6 22), .int 0])), ((fX6 22), .inl (gI E, 8, .inl (fun _ => 0))), ((fX6 23), .inr (4, [.ref (fX6 24), .int (-1), .int 0])), ((fX6 24), .inl (gI E, 40, .inl (fun _ => 0))), ((fX6 25), .inr (4, [.ref (fX6 26), .int (-1), .int 0])), ((fX6 26), .inl (gI E, 40, .inl (fun _ => 0))), ((fX6 27), .inr (4, [.ref (fX6 28), .int (-1), .int 0])), ((fX6 28), .inl (gI E, 40, .inl (fun _ => 0))), ((fX6 29), .inr (4, [.ref (fX6 30), .int (-1), .int 0])), ((fX6 30), .inl (gI E, 40, .inl (fun _ => 0)))] := hD
  refine W.widen (k := 32) (n := 3870) (Nat.le_of_ble_eq_true rfl) (Nat.le_of_ble_eq_true rfl) ?_
  refine lv_astore_n (lv' := [(1, .ref qX6), (0, .ref b)]) hx hb dL_law_7 rfl hl (by decide) rfl (fun ls hl => ?_)
  refine va_new (ci := 7) (fs := [.int 0, .int 0, .null, .null, .null, .int 0, .null, .int 0, .null, .int 0, .null, .null, .null, .null, .null, .int 0, .int 0, .null, .null, .null]) (C := RX7) (T := TX7) (N := 20) hx hb C0.2.2.2.2 inX7 tyX7 tyX7_ok C0.2.2.2.1 (C0.2.2.2.2 _ (gTB_at 622 rfl rfl)) (C0.2.2.2.2 _ (gTB_at 623 rfl rfl)) (C0.2.2.2.2 _ qi_X7) hK.1.1 hP hD hS hA rfl (fun j hj => by rcases (show j = 0 ∨ j = 1 ∨ j = 2 ∨ j = 3 ∨ j = 4 ∨ j = 5 ∨ j = 6 ∨ j = 7 ∨ j = 8 ∨ j = 9 ∨ j = 10 ∨ j = 11 ∨ j = 12 ∨ j = 13 ∨ j = 14 ∨ j = 15 ∨ j = 16 ∨ j = 17 ∨ j = 18 ∨ j = 19 by omega) with rfl | rfl | rfl | rfl | rfl | rfl | rfl | rfl | rfl | rfl | rfl | rfl | rfl | rfl | rfl | rfl | rfl | rfl | rfl | rfl <;> rfl) (Nat.le_of_ble_eq_true rfl) (Nat.le_of_ble_eq_true rfl) dL_law_8 (fun qX7 H hP hD hS => ?_)
  have hP : va_P (gD E) vwCl [(qX6, .inr (6, [.ref (fX6 0), .ref (fX6 2), .ref (fX6 4), .ref (fX6 5), .ref (fX6 6), .ref (fX6 8), .ref (fX6 10), .ref (fX6 13), .int 2, .int 0, .int 0])), ((fX6 0), .inr (3, [.ref (fX6 1), .int 0])), ((fX6 1), .inl (gI E, 8, .inl (fun _ => 0))), ((fX6 2), .inr (3, [.ref (fX6 3), .int 0])), ((fX6 3), .inl (gI E, 8, .inl (fun _ => 0))), ((fX6 4), .inl (gRc E, 3, .inr (.inr (.inr (.inr (va_up (va_up (va_up (fun _ => none) (0 : Int32).toNatClampNeg (some (fX6 17))) (1 : Int32).toNatClampNeg (some (fX6 19))) (2 : Int32).toNatClampNeg (some (fX6 21)))))))), ((fX6 5), .inl (gSc E, 4, .inr (.inr (.inr (.inr (va_up (va_up (va_up (va_up (fun _ => none) (0 : Int32).toNatClampNeg (some (fX6 23))) (1 : Int32).toNatClampNeg (some (fX6 25))) (2 : Int32).toNatClampNeg (some (fX6 27))) (3 : Int32).toNatClampNeg (some (fX6 29)))))))), ((fX6 6), .inr (1, [.ref (fX6 7), .int 0])), ((fX6 7), .inl (gI E, 10, .inl (fun _ => 0))), ((fX6 8), .inr (2, [.ref (fX6 9), .int 0])), ((fX6 9), .inl (gI E, 10, .inl (fun _ => 0))), ((fX6 10), .inr (5, [.ref (fX6 11), .ref (fX6 12), .int 0])), ((fX6 11), .inl (gI E, 512, .inl (fun _ => 0))), ((fX6 12), .inl (gI E, 512, .inl (fun _ => 0))), ((fX6 13), .inr (0, [.ref (fX6 14), .ref (fX6 15), .ref (fX6 16)])), ((fX6 14), .inl (gI E, 8, .inl (fun _ => 0))), ((fX6 15), .inl (gI E, 8, .inl (fun _ => 0))), ((fX6 16), .inl (gI E, 2560, .inl (fun _ => 0))), ((fX6 17), .inr (3, [.ref (fX6 18), .int 0])), ((fX6 18), .inl (gI E, 8, .inl (fun _ => 0))), ((fX6 19), .inr (3, [.ref (fX6 20), .int 0])), ((fX6 20), .inl (gI E, 8, .inl (fun _ => 0))), ((fX6 21), .inr (3, [.ref (fX6 22), .int 0])), ((fX6 22), .inl (gI E, 8, .inl (fun _ => 0))), ((fX6 23), .inr (4, [.ref (fX6 24), .int (-1), .int 0])), ((fX6 24), .inl (gI E, 40, .inl (fun _ => 0))), ((fX6 25), .inr (4, [.ref (fX6 26), .int (-1), .int 0])), ((fX6 26), .inl (gI E, 40, .inl (fun _ => 0))), ((fX6 27), .inr (4, [.ref (fX6 28), .int (-1), .int 0])), ((fX6 28), .inl (gI E, 40, .inl (fun _ => 0))), ((fX6 29), .inr (4, [.ref (fX6 30), .int (-1), .int 0])), ((fX6 30), .inl (gI E, 40, .inl (fun _ => 0))), (qX7, .inr (7, [.int 0, .int 0, .null, .null, .null, .int 0, .null, .int 0, .null, .int 0, .null, .null, .null, .null, .null, .int 0, .int 0, .null, .null, .null]))] H := hP
  have hD : va_D (fun q : Nat => s.heap.size ≤ q) [(qX6, .inr (6, [.ref (fX6 0), .ref (fX6 2), .ref (fX6 4), .ref (fX6 5), .ref (fX6 6), .ref (fX6 8), .ref (fX6 10), .ref (fX6 13), .int 2, .int 0, .int 0])), ((fX6 0), .inr (3, [.ref (fX6 1), .int 0])), ((fX6 1), .inl (gI E, 8, .inl (fun _ => 0))), ((fX6 2), .inr (3, [.ref (fX6 3), .int 0])), ((fX6 3), .inl (gI E, 8, .inl (fun _ => 0))), ((fX6 4), .inl (gRc E, 3, .inr (.inr (.inr (.inr (va_up (va_up (va_up (fun _ => none) (0 : Int32).toNatClampNeg (some (fX6 17))) (1 : Int32).toNatClampNeg (some (fX6 19))) (2 : Int32).toNatClampNeg (some (fX6 21)))))))), ((fX6 5), .inl (gSc E, 4, .inr (.inr (.inr (.inr (va_up (va_up (va_up (va_up (fun _ => none) (0 : Int32).toNatClampNeg (some (fX6 23))) (1 : Int32).toNatClampNeg (some (fX6 25))) (2 : Int32).toNatClampNeg (some (fX6 27))) (3 : Int32).toNatClampNeg (some (fX6 29)))))))), ((fX6 6), .inr (1, [.ref (fX6 7), .int 0])), ((fX6 7), .inl (gI E, 10, .inl (fun _ => 0))), ((fX6 8), .inr (2, [.ref (fX6 9), .int 0])), ((fX6 9), .inl (gI E, 10, .inl (fun _ => 0))), ((fX6 10), .inr (5, [.ref (fX6 11), .ref (fX6 12), .int 0])), ((fX6 11), .inl (gI E, 512, .inl (fun _ => 0))), ((fX6 12), .inl (gI E, 512, .inl (fun _ => 0))), ((fX6 13), .inr (0, [.ref (fX6 14), .ref (fX6 15), .ref (fX6 16)])), ((fX6 14), .inl (gI E, 8, .inl (fun _ => 0))), ((fX6 15), .inl (gI E, 8, .inl (fun _ => 0))), ((fX6 16), .inl (gI E, 2560, .inl (fun _ => 0))), ((fX6 17), .inr (3, [.ref (fX6 18), .int 0])), ((fX6 18), .inl (gI E, 8, .inl (fun _ => 0))), ((fX6 19), .inr (3, [.ref (fX6 20), .int 0])), ((fX6 20), .inl (gI E, 8, .inl (fun _ => 0))), ((fX6 21), .inr (3, [.ref (fX6 22), .int 0])), ((fX6 22), .inl (gI E, 8, .inl (fun _ => 0))), ((fX6 23), .inr (4, [.ref (fX6 24), .int (-1), .int 0])), ((fX6 24), .inl (gI E, 40, .inl (fun _ => 0))), ((fX6 25), .inr (4, [.ref (fX6 26), .int (-1), .int 0])), ((fX6 26), .inl (gI E, 40, .inl (fun _ => 0))), ((fX6 27), .inr (4, [.ref (fX6 28), .int (-1), .int 0])), ((fX6 28), .inl (gI E, 40, .inl (fun _ => 0))), ((fX6 29), .inr (4, [.ref (fX6 30), .int (-1), .int 0])), ((fX6 30), .inl (gI E, 40, .inl (fun _ => 0))), (qX7, .inr (7, [.int 0, .int 0, .null, .null, .null, .int 0, .null, .int 0, .null, .int 0, .null, .null, .null, .null, .null, .int 0, .int 0, .null, .null, .null]))] := hD
  refine W.widen (k := 33) (n := 3890) (Nat.le_of_ble_eq_true rfl) (Nat.le_of_ble_eq_true rfl) ?_
  refine lv_dup hx hb dL_law_11 rfl ?_
  have hPc := hP.sub (ws' := [(qX7, .inr (7, [.int 0, .int 0, .null, .null, .null, .int 0, .null, .int 0, .null, .int 0, .null, .null, .null, .null, .null, .int 0, .int 0, .null, .null, .null]))]) [32] rfl
  have hFc := va_free (wc := [(qX7, .inr (7, [.int 0, .int 0, .null, .null, .null, .int 0, .null, .int 0, .null, .int 0, .null, .null, .null, .null, .null, .int 0, .int 0, .null, .null, .null]))]) hD hS hA [32] rfl
  refine va_callv (va_runI (As := []) (rest := [.ref qX7]) C0 (cX7 l E qX7 H.size) (cwI 0 C0.2.2.2.2 (gws_good (gTB_at 626 rfl rfl)) rfl rfl rfl (C0.2.2.2.2 _ qi_X7) (C0.2.2.2.2 _ ql_L_12) (C0.2.2.2.2 _ (gTB_at 625 rfl rfl)) rfl (by decide +kernel) ⟨(Nat.le_of_ble_eq_true rfl), (Nat.le_of_ble_eq_true rfl)⟩) ⟨gCp_blind, fun U hU hW => ⟨rfl, by rw [hU], by rw [hU]; exact hPc, hK.moved hW⟩⟩ rfl rfl hl.1 rfl (lv_room (Nat.le_of_ble_eq_true rfl)) dL_law_12 ⟨(Nat.le_of_ble_eq_true rfl), (Nat.le_of_ble_eq_true rfl)⟩) hS (fun q _ h => hFc q h) hFc (fun fX7 t H1 locs ht hvm hw hB hz1 hk1 hS => ?_)
  obtain ⟨hP1, hD1⟩ := hB
  rw [ht] at hP1
  obtain ⟨hP, hD⟩ := va_join (wr := [(qX6, .inr (6, [.ref (fX6 0), .ref (fX6 2), .ref (fX6 4), .ref (fX6 5), .ref (fX6 6), .ref (fX6 8), .ref (fX6 10), .ref (fX6 13), .int 2, .int 0, .int 0])), ((fX6 0), .inr (3, [.ref (fX6 1), .int 0])), ((fX6 1), .inl (gI E, 8, .inl (fun _ => 0))), ((fX6 2), .inr (3, [.ref (fX6 3), .int 0])), ((fX6 3), .inl (gI E, 8, .inl (fun _ => 0))), ((fX6 4), .inl (gRc E, 3, .inr (.inr (.inr (.inr (va_up (va_up (va_up (fun _ => none) (0 : Int32).toNatClampNeg (some (fX6 17))) (1 : Int32).toNatClampNeg (some (fX6 19))) (2 : Int32).toNatClampNeg (some (fX6 21)))))))), ((fX6 5), .inl (gSc E, 4, .inr (.inr (.inr (.inr (va_up (va_up (va_up (va_up (fun _ => none) (0 : Int32).toNatClampNeg (some (fX6 23))) (1 : Int32).toNatClampNeg (some (fX6 25))) (2 : Int32).toNatClampNeg (some (fX6 27))) (3 : Int32).toNatClampNeg (some (fX6 29)))))))), ((fX6 6), .inr (1, [.ref (fX6 7), .int 0])), ((fX6 7), .inl (gI E, 10, .inl (fun _ => 0))), ((fX6 8), .inr (2, [.ref (fX6 9), .int 0])), ((fX6 9), .inl (gI E, 10, .inl (fun _ => 0))), ((fX6 10), .inr (5, [.ref (fX6 11), .ref (fX6 12), .int 0])), ((fX6 11), .inl (gI E, 512, .inl (fun _ => 0))), ((fX6 12), .inl (gI E, 512, .inl (fun _ => 0))), ((fX6 13), .inr (0, [.ref (fX6 14), .ref (fX6 15), .ref (fX6 16)])), ((fX6 14), .inl (gI E, 8, .inl (fun _ => 0))), ((fX6 15), .inl (gI E, 8, .inl (fun _ => 0))), ((fX6 16), .inl (gI E, 2560, .inl (fun _ => 0))), ((fX6 17), .inr (3, [.ref (fX6 18), .int 0])), ((fX6 18), .inl (gI E, 8, .inl (fun _ => 0))), ((fX6 19), .inr (3, [.ref (fX6 20), .int 0])), ((fX6 20), .inl (gI E, 8, .inl (fun _ => 0))), ((fX6 21), .inr (3, [.ref (fX6 22), .int 0])), ((fX6 22), .inl (gI E, 8, .inl (fun _ => 0))), ((fX6 23), .inr (4, [.ref (fX6 24), .int (-1), .int 0])), ((fX6 24), .inl (gI E, 40, .inl (fun _ => 0))), ((fX6 25), .inr (4, [.ref (fX6 26), .int (-1), .int 0])), ((fX6 26), .inl (gI E, 40, .inl (fun _ => 0))), ((fX6 27), .inr (4, [.ref (fX6 28), .int (-1), .int 0])), ((fX6 28), .inl (gI E, 40, .inl (fun _ => 0))), ((fX6 29), .inr (4, [.ref (fX6 30), .int (-1), .int 0])), ((fX6 30), .inl (gI E, 40, .inl (fun _ => 0)))]) (w1 := [(qX7, .inr (7, [.int 0, .int 0, .ref (fX7 0), .ref (fX7 1), .ref (fX7 2), .int 0, .ref (fX7 3), .int 0, .ref (fX7 4), .int 0, .ref (fX7 5), .ref (fX7 6), .ref (fX7 7), .ref (fX7 8), .ref (fX7 9), .int 0, .int 0, .ref (fX7 10), .ref (fX7 11), .ref (fX7 12)])), ((fX7 0), .inl (gI E, 4, .inl (upd (upd (upd (upd (fun _ => 0) (0 : Int32).toNatClampNeg (-9)) (1 : Int32).toNatClampNeg (-9)) (2 : Int32).toNatClampNeg (-9)) (3 : Int32).toNatClampNeg (-9)))), ((fX7 1), .inl (gI E, 4, .inl (fun _ => 0))), ((fX7 2), .inl (gI E, 160, .inl (fun _ => 0))), ((fX7 3), .inl (gI E, 8, .inl (fun _ => 0))), ((fX7 4), .inl (gI E, 10, .inl (fun _ => 0))), ((fX7 5), .inl (gI E, 8, .inl (fun _ => 0))), ((fX7 6), .inl (gI E, 1010, .inl (fun _ => 0))), ((fX7 7), .inl (gI E, 8, .inl (fun _ => 0))), ((fX7 8), .inl (gI E, 3, .inl (fun _ => 0))), ((fX7 9), .inl (gI E, 24, .inl (fun _ => 0))), ((fX7 10), .inl (gI E, 8, .inl (fun _ => 0))), ((fX7 11), .inl (gJc E, 20736, .inr (.inl (fun _ => 0)))), ((fX7 12), .inl (gI E, 512, .inl (fun _ => 0)))]) hP hD [32] [0, 1, 2, 3, 4, 5, 6, 7, 8, 9, 10, 11, 12, 13, 14, 15, 16, 17, 18, 19, 20, 21, 22, 23, 24, 25, 26, 27, 28, 29, 30, 31] rfl rfl (by decide) (by decide) hk1 hFc hP1 hD1
  generalize H1 = H at hP hS ⊢
  have hP : va_P (gD E) vwCl [(qX6, .inr (6, [.ref (fX6 0), .ref (fX6 2), .ref (fX6 4), .ref (fX6 5), .ref (fX6 6), .ref (fX6 8), .ref (fX6 10), .ref (fX6 13), .int 2, .int 0, .int 0])), ((fX6 0), .inr (3, [.ref (fX6 1), .int 0])), ((fX6 1), .inl (gI E, 8, .inl (fun _ => 0))), ((fX6 2), .inr (3, [.ref (fX6 3), .int 0])), ((fX6 3), .inl (gI E, 8, .inl (fun _ => 0))), ((fX6 4), .inl (gRc E, 3, .inr (.inr (.inr (.inr (va_up (va_up (va_up (fun _ => none) (0 : Int32).toNatClampNeg (some (fX6 17))) (1 : Int32).toNatClampNeg (some (fX6 19))) (2 : Int32).toNatClampNeg (some (fX6 21)))))))), ((fX6 5), .inl (gSc E, 4, .inr (.inr (.inr (.inr (va_up (va_up (va_up (va_up (fun _ => none) (0 : Int32).toNatClampNeg (some (fX6 23))) (1 : Int32).toNatClampNeg (some (fX6 25))) (2 : Int32).toNatClampNeg (some (fX6 27))) (3 : Int32).toNatClampNeg (some (fX6 29)))))))), ((fX6 6), .inr (1, [.ref (fX6 7), .int 0])), ((fX6 7), .inl (gI E, 10, .inl (fun _ => 0))), ((fX6 8), .inr (2, [.ref (fX6 9), .int 0])), ((fX6 9), .inl (gI E, 10, .inl (fun _ => 0))), ((fX6 10), .inr (5, [.ref (fX6 11), .ref (fX6 12), .int 0])), ((fX6 11), .inl (gI E, 512, .inl (fun _ => 0))), ((fX6 12), .inl (gI E, 512, .inl (fun _ => 0))), ((fX6 13), .inr (0, [.ref (fX6 14), .ref (fX6 15), .ref (fX6 16)])), ((fX6 14), .inl (gI E, 8, .inl (fun _ => 0))), ((fX6 15), .inl (gI E, 8, .inl (fun _ => 0))), ((fX6 16), .inl (gI E, 2560, .inl (fun _ => 0))), ((fX6 17), .inr (3, [.ref (fX6 18), .int 0])), ((fX6 18), .inl (gI E, 8, .inl (fun _ => 0))), ((fX6 19), .inr (3, [.ref (fX6 20), .int 0])), ((fX6 20), .inl (gI E, 8, .inl (fun _ => 0))), ((fX6 21), .inr (3, [.ref (fX6 22), .int 0])), ((fX6 22), .inl (gI E, 8, .inl (fun _ => 0))), ((fX6 23), .inr (4, [.ref (fX6 24), .int (-1), .int 0])), ((fX6 24), .inl (gI E, 40, .inl (fun _ => 0))), ((fX6 25), .inr (4, [.ref (fX6 26), .int (-1), .int 0])), ((fX6 26), .inl (gI E, 40, .inl (fun _ => 0))), ((fX6 27), .inr (4, [.ref (fX6 28), .int (-1), .int 0])), ((fX6 28), .inl (gI E, 40, .inl (fun _ => 0))), ((fX6 29), .inr (4, [.ref (fX6 30), .int (-1), .int 0])), ((fX6 30), .inl (gI E, 40, .inl (fun _ => 0))), (qX7, .inr (7, [.int 0, .int 0, .ref (fX7 0), .ref (fX7 1), .ref (fX7 2), .int 0, .ref (fX7 3), .int 0, .ref (fX7 4), .int 0, .ref (fX7 5), .ref (fX7 6), .ref (fX7 7), .ref (fX7 8), .ref (fX7 9), .int 0, .int 0, .ref (fX7 10), .ref (fX7 11), .ref (fX7 12)])), ((fX7 0), .inl (gI E, 4, .inl (upd (upd (upd (upd (fun _ => 0) (0 : Int32).toNatClampNeg (-9)) (1 : Int32).toNatClampNeg (-9)) (2 : Int32).toNatClampNeg (-9)) (3 : Int32).toNatClampNeg (-9)))), ((fX7 1), .inl (gI E, 4, .inl (fun _ => 0))), ((fX7 2), .inl (gI E, 160, .inl (fun _ => 0))), ((fX7 3), .inl (gI E, 8, .inl (fun _ => 0))), ((fX7 4), .inl (gI E, 10, .inl (fun _ => 0))), ((fX7 5), .inl (gI E, 8, .inl (fun _ => 0))), ((fX7 6), .inl (gI E, 1010, .inl (fun _ => 0))), ((fX7 7), .inl (gI E, 8, .inl (fun _ => 0))), ((fX7 8), .inl (gI E, 3, .inl (fun _ => 0))), ((fX7 9), .inl (gI E, 24, .inl (fun _ => 0))), ((fX7 10), .inl (gI E, 8, .inl (fun _ => 0))), ((fX7 11), .inl (gJc E, 20736, .inr (.inl (fun _ => 0)))), ((fX7 12), .inl (gI E, 512, .inl (fun _ => 0)))] H := hP
  have hD : va_D (fun q : Nat => s.heap.size ≤ q) [(qX6, .inr (6, [.ref (fX6 0), .ref (fX6 2), .ref (fX6 4), .ref (fX6 5), .ref (fX6 6), .ref (fX6 8), .ref (fX6 10), .ref (fX6 13), .int 2, .int 0, .int 0])), ((fX6 0), .inr (3, [.ref (fX6 1), .int 0])), ((fX6 1), .inl (gI E, 8, .inl (fun _ => 0))), ((fX6 2), .inr (3, [.ref (fX6 3), .int 0])), ((fX6 3), .inl (gI E, 8, .inl (fun _ => 0))), ((fX6 4), .inl (gRc E, 3, .inr (.inr (.inr (.inr (va_up (va_up (va_up (fun _ => none) (0 : Int32).toNatClampNeg (some (fX6 17))) (1 : Int32).toNatClampNeg (some (fX6 19))) (2 : Int32).toNatClampNeg (some (fX6 21)))))))), ((fX6 5), .inl (gSc E, 4, .inr (.inr (.inr (.inr (va_up (va_up (va_up (va_up (fun _ => none) (0 : Int32).toNatClampNeg (some (fX6 23))) (1 : Int32).toNatClampNeg (some (fX6 25))) (2 : Int32).toNatClampNeg (some (fX6 27))) (3 : Int32).toNatClampNeg (some (fX6 29)))))))), ((fX6 6), .inr (1, [.ref (fX6 7), .int 0])), ((fX6 7), .inl (gI E, 10, .inl (fun _ => 0))), ((fX6 8), .inr (2, [.ref (fX6 9), .int 0])), ((fX6 9), .inl (gI E, 10, .inl (fun _ => 0))), ((fX6 10), .inr (5, [.ref (fX6 11), .ref (fX6 12), .int 0])), ((fX6 11), .inl (gI E, 512, .inl (fun _ => 0))), ((fX6 12), .inl (gI E, 512, .inl (fun _ => 0))), ((fX6 13), .inr (0, [.ref (fX6 14), .ref (fX6 15), .ref (fX6 16)])), ((fX6 14), .inl (gI E, 8, .inl (fun _ => 0))), ((fX6 15), .inl (gI E, 8, .inl (fun _ => 0))), ((fX6 16), .inl (gI E, 2560, .inl (fun _ => 0))), ((fX6 17), .inr (3, [.ref (fX6 18), .int 0])), ((fX6 18), .inl (gI E, 8, .inl (fun _ => 0))), ((fX6 19), .inr (3, [.ref (fX6 20), .int 0])), ((fX6 20), .inl (gI E, 8, .inl (fun _ => 0))), ((fX6 21), .inr (3, [.ref (fX6 22), .int 0])), ((fX6 22), .inl (gI E, 8, .inl (fun _ => 0))), ((fX6 23), .inr (4, [.ref (fX6 24), .int (-1), .int 0])), ((fX6 24), .inl (gI E, 40, .inl (fun _ => 0))), ((fX6 25), .inr (4, [.ref (fX6 26), .int (-1), .int 0])), ((fX6 26), .inl (gI E, 40, .inl (fun _ => 0))), ((fX6 27), .inr (4, [.ref (fX6 28), .int (-1), .int 0])), ((fX6 28), .inl (gI E, 40, .inl (fun _ => 0))), ((fX6 29), .inr (4, [.ref (fX6 30), .int (-1), .int 0])), ((fX6 30), .inl (gI E, 40, .inl (fun _ => 0))), (qX7, .inr (7, [.int 0, .int 0, .ref (fX7 0), .ref (fX7 1), .ref (fX7 2), .int 0, .ref (fX7 3), .int 0, .ref (fX7 4), .int 0, .ref (fX7 5), .ref (fX7 6), .ref (fX7 7), .ref (fX7 8), .ref (fX7 9), .int 0, .int 0, .ref (fX7 10), .ref (fX7 11), .ref (fX7 12)])), ((fX7 0), .inl (gI E, 4, .inl (upd (upd (upd (upd (fun _ => 0) (0 : Int32).toNatClampNeg (-9)) (1 : Int32).toNatClampNeg (-9)) (2 : Int32).toNatClampNeg (-9)) (3 : Int32).toNatClampNeg (-9)))), ((fX7 1), .inl (gI E, 4, .inl (fun _ => 0))), ((fX7 2), .inl (gI E, 160, .inl (fun _ => 0))), ((fX7 3), .inl (gI E, 8, .inl (fun _ => 0))), ((fX7 4), .inl (gI E, 10, .inl (fun _ => 0))), ((fX7 5), .inl (gI E, 8, .inl (fun _ => 0))), ((fX7 6), .inl (gI E, 1010, .inl (fun _ => 0))), ((fX7 7), .inl (gI E, 8, .inl (fun _ => 0))), ((fX7 8), .inl (gI E, 3, .inl (fun _ => 0))), ((fX7 9), .inl (gI E, 24, .inl (fun _ => 0))), ((fX7 10), .inl (gI E, 8, .inl (fun _ => 0))), ((fX7 11), .inl (gJc E, 20736, .inr (.inl (fun _ => 0)))), ((fX7 12), .inl (gI E, 512, .inl (fun _ => 0)))] := hD
  refine W.widen (k := 46) (n := 26385) (Nat.le_of_ble_eq_true rfl) (Nat.le_of_ble_eq_true rfl) ?_
  refine lv_astore_n (lv' := [(2, .ref qX7), (1, .ref qX6), (0, .ref b)]) hx hb dL_law_15 rfl hl (by decide) rfl (fun ls hl => ?_)
  refine lv_iconst (v := 0) hx hb dL_law_16 (by decide) (lv_istore_n (lv' := [(3, .int 0), (2, .ref qX7), (1, .ref qX6), (0, .ref b)]) hx hb dL_law_17 rfl hl (by decide) rfl (fun ls hl => ?_))
  refine W.widen (k := 600000) (n := 7302250) (Nat.le_of_ble_eq_true rfl) (Nat.le_of_ble_eq_true rfl) ?_
  refine va_forget (fun q hq => hS.2.2 q hq) ?_
  obtain ⟨nf, hv⟩ := hv
  obtain ⟨E2, hE2⟩ : ∃ E2 : gE, E2 = (gAdr fX6 fX7 qX6 qX7, gD E, gI E, gJc E, gRc E, gSc E) := ⟨_, rfl⟩
  have hD9 := hD.sub (ws' := [((fX6 0), .inr (3, [.ref (fX6 1), .int 0])), ((fX6 2), .inr (3, [.ref (fX6 3), .int 0])), ((fX6 17), .inr (3, [.ref (fX6 18), .int 0])), ((fX6 19), .inr (3, [.ref (fX6 20), .int 0])), ((fX6 21), .inr (3, [.ref (fX6 22), .int 0])), ((fX6 1), .inl (gI E, 8, .inl (fun _ => 0))), ((fX6 3), .inl (gI E, 8, .inl (fun _ => 0))), ((fX6 18), .inl (gI E, 8, .inl (fun _ => 0))), ((fX6 20), .inl (gI E, 8, .inl (fun _ => 0))), ((fX6 22), .inl (gI E, 8, .inl (fun _ => 0))), ((fX6 23), .inr (4, [.ref (fX6 24), .int (-1), .int 0])), ((fX6 25), .inr (4, [.ref (fX6 26), .int (-1), .int 0])), ((fX6 27), .inr (4, [.ref (fX6 28), .int (-1), .int 0])), ((fX6 29), .inr (4, [.ref (fX6 30), .int (-1), .int 0])), ((fX6 24), .inl (gI E, 40, .inl (fun _ => 0))), ((fX6 26), .inl (gI E, 40, .inl (fun _ => 0))), ((fX6 28), .inl (gI E, 40, .inl (fun _ => 0))), ((fX6 30), .inl (gI E, 40, .inl (fun _ => 0))), ((fX6 6), .inr (1, [.ref (fX6 7), .int 0])), ((fX6 7), .inl (gI E, 10, .inl (fun _ => 0))), ((fX6 8), .inr (2, [.ref (fX6 9), .int 0])), ((fX6 9), .inl (gI E, 10, .inl (fun _ => 0))), ((fX6 10), .inr (5, [.ref (fX6 11), .ref (fX6 12), .int 0])), ((fX6 11), .inl (gI E, 512, .inl (fun _ => 0))), ((fX6 12), .inl (gI E, 512, .inl (fun _ => 0))), ((fX6 13), .inr (0, [.ref (fX6 14), .ref (fX6 15), .ref (fX6 16)])), ((fX6 14), .inl (gI E, 8, .inl (fun _ => 0))), ((fX6 15), .inl (gI E, 8, .inl (fun _ => 0))), ((fX6 16), .inl (gI E, 2560, .inl (fun _ => 0))), ((fX6 4), .inl (gRc E, 3, .inr (.inr (.inr (.inr (va_up (va_up (va_up (fun _ => none) (0 : Int32).toNatClampNeg (some (fX6 17))) (1 : Int32).toNatClampNeg (some (fX6 19))) (2 : Int32).toNatClampNeg (some (fX6 21)))))))), ((fX6 5), .inl (gSc E, 4, .inr (.inr (.inr (.inr (va_up (va_up (va_up (va_up (fun _ => none) (0 : Int32).toNatClampNeg (some (fX6 23))) (1 : Int32).toNatClampNeg (some (fX6 25))) (2 : Int32).toNatClampNeg (some (fX6 27))) (3 : Int32).toNatClampNeg (some (fX6 29)))))))), (qX6, .inr (6, [.ref (fX6 0), .ref (fX6 2), .ref (fX6 4), .ref (fX6 5), .ref (fX6 6), .ref (fX6 8), .ref (fX6 10), .ref (fX6 13), .int 2, .int 0, .int 0])), (qX7, .inr (7, [.int 0, .int 0, .ref (fX7 0), .ref (fX7 1), .ref (fX7 2), .int 0, .ref (fX7 3), .int 0, .ref (fX7 4), .int 0, .ref (fX7 5), .ref (fX7 6), .ref (fX7 7), .ref (fX7 8), .ref (fX7 9), .int 0, .int 0, .ref (fX7 10), .ref (fX7 11), .ref (fX7 12)])), ((fX7 0), .inl (gI E, 4, .inl (upd (upd (upd (upd (fun _ => 0) (0 : Int32).toNatClampNeg (-9)) (1 : Int32).toNatClampNeg (-9)) (2 : Int32).toNatClampNeg (-9)) (3 : Int32).toNatClampNeg (-9)))), ((fX7 1), .inl (gI E, 4, .inl (fun _ => 0))), ((fX7 2), .inl (gI E, 160, .inl (fun _ => 0))), ((fX7 3), .inl (gI E, 8, .inl (fun _ => 0))), ((fX7 4), .inl (gI E, 10, .inl (fun _ => 0))), ((fX7 5), .inl (gI E, 8, .inl (fun _ => 0))), ((fX7 6), .inl (gI E, 1010, .inl (fun _ => 0))), ((fX7 7), .inl (gI E, 8, .inl (fun _ => 0))), ((fX7 8), .inl (gI E, 3, .inl (fun _ => 0))), ((fX7 9), .inl (gI E, 24, .inl (fun _ => 0))), ((fX7 10), .inl (gI E, 8, .inl (fun _ => 0))), ((fX7 11), .inl (gJc E, 20736, .inr (.inl (fun _ => 0)))), ((fX7 12), .inl (gI E, 512, .inl (fun _ => 0)))]) [1, 3, 18, 20, 22, 2, 4, 19, 21, 23, 24, 26, 28, 30, 25, 27, 29, 31, 7, 8, 9, 10, 11, 12, 13, 14, 15, 16, 17, 5, 6, 0, 32, 33, 34, 35, 36, 37, 38, 39, 40, 41, 42, 43, 44, 45] (by decide) rfl
  have hE9 : gLok E2 := by
    subst hE2
    intro i j hi hj hij
    have e1 : ([((fX6 0), .inr (3, [.ref (fX6 1), .int 0])), ((fX6 2), .inr (3, [.ref (fX6 3), .int 0])), ((fX6 17), .inr (3, [.ref (fX6 18), .int 0])), ((fX6 19), .inr (3, [.ref (fX6 20), .int 0])), ((fX6 21), .inr (3, [.ref (fX6 22), .int 0])), ((fX6 1), .inl (gI E, 8, .inl (fun _ => 0))), ((fX6 3), .inl (gI E, 8, .inl (fun _ => 0))), ((fX6 18), .inl (gI E, 8, .inl (fun _ => 0))), ((fX6 20), .inl (gI E, 8, .inl (fun _ => 0))), ((fX6 22), .inl (gI E, 8, .inl (fun _ => 0))), ((fX6 23), .inr (4, [.ref (fX6 24), .int (-1), .int 0])), ((fX6 25), .inr (4, [.ref (fX6 26), .int (-1), .int 0])), ((fX6 27), .inr (4, [.ref (fX6 28), .int (-1), .int 0])), ((fX6 29), .inr (4, [.ref (fX6 30), .int (-1), .int 0])), ((fX6 24), .inl (gI E, 40, .inl (fun _ => 0))), ((fX6 26), .inl (gI E, 40, .inl (fun _ => 0))), ((fX6 28), .inl (gI E, 40, .inl (fun _ => 0))), ((fX6 30), .inl (gI E, 40, .inl (fun _ => 0))), ((fX6 6), .inr (1, [.ref (fX6 7), .int 0])), ((fX6 7), .inl (gI E, 10, .inl (fun _ => 0))), ((fX6 8), .inr (2, [.ref (fX6 9), .int 0])), ((fX6 9), .inl (gI E, 10, .inl (fun _ => 0))), ((fX6 10), .inr (5, [.ref (fX6 11), .ref (fX6 12), .int 0])), ((fX6 11), .inl (gI E, 512, .inl (fun _ => 0))), ((fX6 12), .inl (gI E, 512, .inl (fun _ => 0))), ((fX6 13), .inr (0, [.ref (fX6 14), .ref (fX6 15), .ref (fX6 16)])), ((fX6 14), .inl (gI E, 8, .inl (fun _ => 0))), ((fX6 15), .inl (gI E, 8, .inl (fun _ => 0))), ((fX6 16), .inl (gI E, 2560, .inl (fun _ => 0))), ((fX6 4), .inl (gRc E, 3, .inr (.inr (.inr (.inr (va_up (va_up (va_up (fun _ => none) (0 : Int32).toNatClampNeg (some (fX6 17))) (1 : Int32).toNatClampNeg (some (fX6 19))) (2 : Int32).toNatClampNeg (some (fX6 21)))))))), ((fX6 5), .inl (gSc E, 4, .inr (.inr (.inr (.inr (va_up (va_up (va_up (va_up (fun _ => none) (0 : Int32).toNatClampNeg (some (fX6 23))) (1 : Int32).toNatClampNeg (some (fX6 25))) (2 : Int32).toNatClampNeg (some (fX6 27))) (3 : Int32).toNatClampNeg (some (fX6 29)))))))), (qX6, .inr (6, [.ref (fX6 0), .ref (fX6 2), .ref (fX6 4), .ref (fX6 5), .ref (fX6 6), .ref (fX6 8), .ref (fX6 10), .ref (fX6 13), .int 2, .int 0, .int 0])), (qX7, .inr (7, [.int 0, .int 0, .ref (fX7 0), .ref (fX7 1), .ref (fX7 2), .int 0, .ref (fX7 3), .int 0, .ref (fX7 4), .int 0, .ref (fX7 5), .ref (fX7 6), .ref (fX7 7), .ref (fX7 8), .ref (fX7 9), .int 0, .int 0, .ref (fX7 10), .ref (fX7 11), .ref (fX7 12)])), ((fX7 0), .inl (gI E, 4, .inl (upd (upd (upd (upd (fun _ => 0) (0 : Int32).toNatClampNeg (-9)) (1 : Int32).toNatClampNeg (-9)) (2 : Int32).toNatClampNeg (-9)) (3 : Int32).toNatClampNeg (-9)))), ((fX7 1), .inl (gI E, 4, .inl (fun _ => 0))), ((fX7 2), .inl (gI E, 160, .inl (fun _ => 0))), ((fX7 3), .inl (gI E, 8, .inl (fun _ => 0))), ((fX7 4), .inl (gI E, 10, .inl (fun _ => 0))), ((fX7 5), .inl (gI E, 8, .inl (fun _ => 0))), ((fX7 6), .inl (gI E, 1010, .inl (fun _ => 0))), ((fX7 7), .inl (gI E, 8, .inl (fun _ => 0))), ((fX7 8), .inl (gI E, 3, .inl (fun _ => 0))), ((fX7 9), .inl (gI E, 24, .inl (fun _ => 0))), ((fX7 10), .inl (gI E, 8, .inl (fun _ => 0))), ((fX7 11), .inl (gJc E, 20736, .inr (.inl (fun _ => 0)))), ((fX7 12), .inl (gI E, 512, .inl (fun _ => 0)))] : va_W).length = 46 := rfl
    obtain ⟨x, hx1⟩ : ∃ x, ([((fX6 0), .inr (3, [.ref (fX6 1), .int 0])), ((fX6 2), .inr (3, [.ref (fX6 3), .int 0])), ((fX6 17), .inr (3, [.ref (fX6 18), .int 0])), ((fX6 19), .inr (3, [.ref (fX6 20), .int 0])), ((fX6 21), .inr (3, [.ref (fX6 22), .int 0])), ((fX6 1), .inl (gI E, 8, .inl (fun _ => 0))), ((fX6 3), .inl (gI E, 8, .inl (fun _ => 0))), ((fX6 18), .inl (gI E, 8, .inl (fun _ => 0))), ((fX6 20), .inl (gI E, 8, .inl (fun _ => 0))), ((fX6 22), .inl (gI E, 8, .inl (fun _ => 0))), ((fX6 23), .inr (4, [.ref (fX6 24), .int (-1), .int 0])), ((fX6 25), .inr (4, [.ref (fX6 26), .int (-1), .int 0])), ((fX6 27), .inr (4, [.ref (fX6 28), .int (-1), .int 0])), ((fX6 29), .inr (4, [.ref (fX6 30), .int (-1), .int 0])), ((fX6 24), .inl (gI E, 40, .inl (fun _ => 0))), ((fX6 26), .inl (gI E, 40, .inl (fun _ => 0))), ((fX6 28), .inl (gI E, 40, .inl (fun _ => 0))), ((fX6 30), .inl (gI E, 40, .inl (fun _ => 0))), ((fX6 6), .inr (1, [.ref (fX6 7), .int 0])), ((fX6 7), .inl (gI E, 10, .inl (fun _ => 0))), ((fX6 8), .inr (2, [.ref (fX6 9), .int 0])), ((fX6 9), .inl (gI E, 10, .inl (fun _ => 0))), ((fX6 10), .inr (5, [.ref (fX6 11), .ref (fX6 12), .int 0])), ((fX6 11), .inl (gI E, 512, .inl (fun _ => 0))), ((fX6 12), .inl (gI E, 512, .inl (fun _ => 0))), ((fX6 13), .inr (0, [.ref (fX6 14), .ref (fX6 15), .ref (fX6 16)])), ((fX6 14), .inl (gI E, 8, .inl (fun _ => 0))), ((fX6 15), .inl (gI E, 8, .inl (fun _ => 0))), ((fX6 16), .inl (gI E, 2560, .inl (fun _ => 0))), ((fX6 4), .inl (gRc E, 3, .inr (.inr (.inr (.inr (va_up (va_up (va_up (fun _ => none) (0 : Int32).toNatClampNeg (some (fX6 17))) (1 : Int32).toNatClampNeg (some (fX6 19))) (2 : Int32).toNatClampNeg (some (fX6 21)))))))), ((fX6 5), .inl (gSc E, 4, .inr (.inr (.inr (.inr (va_up (va_up (va_up (va_up (fun _ => none) (0 : Int32).toNatClampNeg (some (fX6 23))) (1 : Int32).toNatClampNeg (some (fX6 25))) (2 : Int32).toNatClampNeg (some (fX6 27))) (3 : Int32).toNatClampNeg (some (fX6 29)))))))), (qX6, .inr (6, [.ref (fX6 0), .ref (fX6 2), .ref (fX6 4), .ref (fX6 5), .ref (fX6 6), .ref (fX6 8), .ref (fX6 10), .ref (fX6 13), .int 2, .int 0, .int 0])), (qX7, .inr (7, [.int 0, .int 0, .ref (fX7 0), .ref (fX7 1), .ref (fX7 2), .int 0, .ref (fX7 3), .int 0, .ref (fX7 4), .int 0, .ref (fX7 5), .ref (fX7 6), .ref (fX7 7), .ref (fX7 8), .ref (fX7 9), .int 0, .int 0, .ref (fX7 10), .ref (fX7 11), .ref (fX7 12)])), ((fX7 0), .inl (gI E, 4, .inl (upd (upd (upd (upd (fun _ => 0) (0 : Int32).toNatClampNeg (-9)) (1 : Int32).toNatClampNeg (-9)) (2 : Int32).toNatClampNeg (-9)) (3 : Int32).toNatClampNeg (-9)))), ((fX7 1), .inl (gI E, 4, .inl (fun _ => 0))), ((fX7 2), .inl (gI E, 160, .inl (fun _ => 0))), ((fX7 3), .inl (gI E, 8, .inl (fun _ => 0))), ((fX7 4), .inl (gI E, 10, .inl (fun _ => 0))), ((fX7 5), .inl (gI E, 8, .inl (fun _ => 0))), ((fX7 6), .inl (gI E, 1010, .inl (fun _ => 0))), ((fX7 7), .inl (gI E, 8, .inl (fun _ => 0))), ((fX7 8), .inl (gI E, 3, .inl (fun _ => 0))), ((fX7 9), .inl (gI E, 24, .inl (fun _ => 0))), ((fX7 10), .inl (gI E, 8, .inl (fun _ => 0))), ((fX7 11), .inl (gJc E, 20736, .inr (.inl (fun _ => 0)))), ((fX7 12), .inl (gI E, 512, .inl (fun _ => 0)))] : va_W)[i]? = some x := ⟨_, List.getElem?_eq_getElem (by rw [e1]; exact hi)⟩
    obtain ⟨y, hy1⟩ : ∃ y, ([((fX6 0), .inr (3, [.ref (fX6 1), .int 0])), ((fX6 2), .inr (3, [.ref (fX6 3), .int 0])), ((fX6 17), .inr (3, [.ref (fX6 18), .int 0])), ((fX6 19), .inr (3, [.ref (fX6 20), .int 0])), ((fX6 21), .inr (3, [.ref (fX6 22), .int 0])), ((fX6 1), .inl (gI E, 8, .inl (fun _ => 0))), ((fX6 3), .inl (gI E, 8, .inl (fun _ => 0))), ((fX6 18), .inl (gI E, 8, .inl (fun _ => 0))), ((fX6 20), .inl (gI E, 8, .inl (fun _ => 0))), ((fX6 22), .inl (gI E, 8, .inl (fun _ => 0))), ((fX6 23), .inr (4, [.ref (fX6 24), .int (-1), .int 0])), ((fX6 25), .inr (4, [.ref (fX6 26), .int (-1), .int 0])), ((fX6 27), .inr (4, [.ref (fX6 28), .int (-1), .int 0])), ((fX6 29), .inr (4, [.ref (fX6 30), .int (-1), .int 0])), ((fX6 24), .inl (gI E, 40, .inl (fun _ => 0))), ((fX6 26), .inl (gI E, 40, .inl (fun _ => 0))), ((fX6 28), .inl (gI E, 40, .inl (fun _ => 0))), ((fX6 30), .inl (gI E, 40, .inl (fun _ => 0))), ((fX6 6), .inr (1, [.ref (fX6 7), .int 0])), ((fX6 7), .inl (gI E, 10, .inl (fun _ => 0))), ((fX6 8), .inr (2, [.ref (fX6 9), .int 0])), ((fX6 9), .inl (gI E, 10, .inl (fun _ => 0))), ((fX6 10), .inr (5, [.ref (fX6 11), .ref (fX6 12), .int 0])), ((fX6 11), .inl (gI E, 512, .inl (fun _ => 0))), ((fX6 12), .inl (gI E, 512, .inl (fun _ => 0))), ((fX6 13), .inr (0, [.ref (fX6 14), .ref (fX6 15), .ref (fX6 16)])), ((fX6 14), .inl (gI E, 8, .inl (fun _ => 0))), ((fX6 15), .inl (gI E, 8, .inl (fun _ => 0))), ((fX6 16), .inl (gI E, 2560, .inl (fun _ => 0))), ((fX6 4), .inl (gRc E, 3, .inr (.inr (.inr (.inr (va_up (va_up (va_up (fun _ => none) (0 : Int32).toNatClampNeg (some (fX6 17))) (1 : Int32).toNatClampNeg (some (fX6 19))) (2 : Int32).toNatClampNeg (some (fX6 21)))))))), ((fX6 5), .inl (gSc E, 4, .inr (.inr (.inr (.inr (va_up (va_up (va_up (va_up (fun _ => none) (0 : Int32).toNatClampNeg (some (fX6 23))) (1 : Int32).toNatClampNeg (some (fX6 25))) (2 : Int32).toNatClampNeg (some (fX6 27))) (3 : Int32).toNatClampNeg (some (fX6 29)))))))), (qX6, .inr (6, [.ref (fX6 0), .ref (fX6 2), .ref (fX6 4), .ref (fX6 5), .ref (fX6 6), .ref (fX6 8), .ref (fX6 10), .ref (fX6 13), .int 2, .int 0, .int 0])), (qX7, .inr (7, [.int 0, .int 0, .ref (fX7 0), .ref (fX7 1), .ref (fX7 2), .int 0, .ref (fX7 3), .int 0, .ref (fX7 4), .int 0, .ref (fX7 5), .ref (fX7 6), .ref (fX7 7), .ref (fX7 8), .ref (fX7 9), .int 0, .int 0, .ref (fX7 10), .ref (fX7 11), .ref (fX7 12)])), ((fX7 0), .inl (gI E, 4, .inl (upd (upd (upd (upd (fun _ => 0) (0 : Int32).toNatClampNeg (-9)) (1 : Int32).toNatClampNeg (-9)) (2 : Int32).toNatClampNeg (-9)) (3 : Int32).toNatClampNeg (-9)))), ((fX7 1), .inl (gI E, 4, .inl (fun _ => 0))), ((fX7 2), .inl (gI E, 160, .inl (fun _ => 0))), ((fX7 3), .inl (gI E, 8, .inl (fun _ => 0))), ((fX7 4), .inl (gI E, 10, .inl (fun _ => 0))), ((fX7 5), .inl (gI E, 8, .inl (fun _ => 0))), ((fX7 6), .inl (gI E, 1010, .inl (fun _ => 0))), ((fX7 7), .inl (gI E, 8, .inl (fun _ => 0))), ((fX7 8), .inl (gI E, 3, .inl (fun _ => 0))), ((fX7 9), .inl (gI E, 24, .inl (fun _ => 0))), ((fX7 10), .inl (gI E, 8, .inl (fun _ => 0))), ((fX7 11), .inl (gJc E, 20736, .inr (.inl (fun _ => 0)))), ((fX7 12), .inl (gI E, 512, .inl (fun _ => 0)))] : va_W)[j]? = some y := ⟨_, List.getElem?_eq_getElem (by rw [e1]; exact hj)⟩
    have key : ∀ (k : Nat) (x : Nat × va_E), ([((fX6 0), .inr (3, [.ref (fX6 1), .int 0])), ((fX6 2), .inr (3, [.ref (fX6 3), .int 0])), ((fX6 17), .inr (3, [.ref (fX6 18), .int 0])), ((fX6 19), .inr (3, [.ref (fX6 20), .int 0])), ((fX6 21), .inr (3, [.ref (fX6 22), .int 0])), ((fX6 1), .inl (gI E, 8, .inl (fun _ => 0))), ((fX6 3), .inl (gI E, 8, .inl (fun _ => 0))), ((fX6 18), .inl (gI E, 8, .inl (fun _ => 0))), ((fX6 20), .inl (gI E, 8, .inl (fun _ => 0))), ((fX6 22), .inl (gI E, 8, .inl (fun _ => 0))), ((fX6 23), .inr (4, [.ref (fX6 24), .int (-1), .int 0])), ((fX6 25), .inr (4, [.ref (fX6 26), .int (-1), .int 0])), ((fX6 27), .inr (4, [.ref (fX6 28), .int (-1), .int 0])), ((fX6 29), .inr (4, [.ref (fX6 30), .int (-1), .int 0])), ((fX6 24), .inl (gI E, 40, .inl (fun _ => 0))), ((fX6 26), .inl (gI E, 40, .inl (fun _ => 0))), ((fX6 28), .inl (gI E, 40, .inl (fun _ => 0))), ((fX6 30), .inl (gI E, 40, .inl (fun _ => 0))), ((fX6 6), .inr (1, [.ref (fX6 7), .int 0])), ((fX6 7), .inl (gI E, 10, .inl (fun _ => 0))), ((fX6 8), .inr (2, [.ref (fX6 9), .int 0])), ((fX6 9), .inl (gI E, 10, .inl (fun _ => 0))), ((fX6 10), .inr (5, [.ref (fX6 11), .ref (fX6 12), .int 0])), ((fX6 11), .inl (gI E, 512, .inl (fun _ => 0))), ((fX6 12), .inl (gI E, 512, .inl (fun _ => 0))), ((fX6 13), .inr (0, [.ref (fX6 14), .ref (fX6 15), .ref (fX6 16)])), ((fX6 14), .inl (gI E, 8, .inl (fun _ => 0))), ((fX6 15), .inl (gI E, 8, .inl (fun _ => 0))), ((fX6 16), .inl (gI E, 2560, .inl (fun _ => 0))), ((fX6 4), .inl (gRc E, 3, .inr (.inr (.inr (.inr (va_up (va_up (va_up (fun _ => none) (0 : Int32).toNatClampNeg (some (fX6 17))) (1 : Int32).toNatClampNeg (some (fX6 19))) (2 : Int32).toNatClampNeg (some (fX6 21)))))))), ((fX6 5), .inl (gSc E, 4, .inr (.inr (.inr (.inr (va_up (va_up (va_up (va_up (fun _ => none) (0 : Int32).toNatClampNeg (some (fX6 23))) (1 : Int32).toNatClampNeg (some (fX6 25))) (2 : Int32).toNatClampNeg (some (fX6 27))) (3 : Int32).toNatClampNeg (some (fX6 29)))))))), (qX6, .inr (6, [.ref (fX6 0), .ref (fX6 2), .ref (fX6 4), .ref (fX6 5), .ref (fX6 6), .ref (fX6 8), .ref (fX6 10), .ref (fX6 13), .int 2, .int 0, .int 0])), (qX7, .inr (7, [.int 0, .int 0, .ref (fX7 0), .ref (fX7 1), .ref (fX7 2), .int 0, .ref (fX7 3), .int 0, .ref (fX7 4), .int 0, .ref (fX7 5), .ref (fX7 6), .ref (fX7 7), .ref (fX7 8), .ref (fX7 9), .int 0, .int 0, .ref (fX7 10), .ref (fX7 11), .ref (fX7 12)])), ((fX7 0), .inl (gI E, 4, .inl (upd (upd (upd (upd (fun _ => 0) (0 : Int32).toNatClampNeg (-9)) (1 : Int32).toNatClampNeg (-9)) (2 : Int32).toNatClampNeg (-9)) (3 : Int32).toNatClampNeg (-9)))), ((fX7 1), .inl (gI E, 4, .inl (fun _ => 0))), ((fX7 2), .inl (gI E, 160, .inl (fun _ => 0))), ((fX7 3), .inl (gI E, 8, .inl (fun _ => 0))), ((fX7 4), .inl (gI E, 10, .inl (fun _ => 0))), ((fX7 5), .inl (gI E, 8, .inl (fun _ => 0))), ((fX7 6), .inl (gI E, 1010, .inl (fun _ => 0))), ((fX7 7), .inl (gI E, 8, .inl (fun _ => 0))), ((fX7 8), .inl (gI E, 3, .inl (fun _ => 0))), ((fX7 9), .inl (gI E, 24, .inl (fun _ => 0))), ((fX7 10), .inl (gI E, 8, .inl (fun _ => 0))), ((fX7 11), .inl (gJc E, 20736, .inr (.inl (fun _ => 0)))), ((fX7 12), .inl (gI E, 512, .inl (fun _ => 0)))] : va_W)[k]? = some x → x.1 = gAdr fX6 fX7 qX6 qX7 k := by
      intro k x hk
      match k, hk with
      | 0, hk => cases hk; rfl
      | 1, hk => cases hk; rfl
      | 2, hk => cases hk; rfl
      | 3, hk => cases hk; rfl
      | 4, hk => cases hk; rfl
      | 5, hk => cases hk; rfl
      | 6, hk => cases hk; rfl
      | 7, hk => cases hk; rfl
      | 8, hk => cases hk; rfl
      | 9, hk => cases hk; rfl
      | 10, hk => cases hk; rfl
      | 11, hk => cases hk; rfl
      | 12, hk => cases hk; rfl
      | 13, hk => cases hk; rfl
      | 14, hk => cases hk; rfl
      | 15, hk => cases hk; rfl
      | 16, hk => cases hk; rfl
      | 17, hk => cases hk; rfl
      | 18, hk => cases hk; rfl
      | 19, hk => cases hk; rfl
      | 20, hk => cases hk; rfl
      | 21, hk => cases hk; rfl
      | 22, hk => cases hk; rfl
      | 23, hk => cases hk; rfl
      | 24, hk => cases hk; rfl
      | 25, hk => cases hk; rfl
      | 26, hk => cases hk; rfl
      | 27, hk => cases hk; rfl
      | 28, hk => cases hk; rfl
      | 29, hk => cases hk; rfl
      | 30, hk => cases hk; rfl
      | 31, hk => cases hk; rfl
      | 32, hk => cases hk; rfl
      | 33, hk => cases hk; rfl
      | 34, hk => cases hk; rfl
      | 35, hk => cases hk; rfl
      | 36, hk => cases hk; rfl
      | 37, hk => cases hk; rfl
      | 38, hk => cases hk; rfl
      | 39, hk => cases hk; rfl
      | 40, hk => cases hk; rfl
      | 41, hk => cases hk; rfl
      | 42, hk => cases hk; rfl
      | 43, hk => cases hk; rfl
      | 44, hk => cases hk; rfl
      | 45, hk => cases hk; rfl
      | k + 46, hk => simp at hk
    exact hD9.1 i j x y hx1 hy1 ((key i x hx1).trans (Eq.trans hij (key j y hy1).symm))
  have hnew : ∀ id, id < 46 → s.heap.size ≤ gL E2 id := by
    subst hE2
    intro id hid
    match id, hid with
    | 0, _ => exact hD9.2 0 _ rfl
    | 1, _ => exact hD9.2 1 _ rfl
    | 2, _ => exact hD9.2 2 _ rfl
    | 3, _ => exact hD9.2 3 _ rfl
    | 4, _ => exact hD9.2 4 _ rfl
    | 5, _ => exact hD9.2 5 _ rfl
    | 6, _ => exact hD9.2 6 _ rfl
    | 7, _ => exact hD9.2 7 _ rfl
    | 8, _ => exact hD9.2 8 _ rfl
    | 9, _ => exact hD9.2 9 _ rfl
    | 10, _ => exact hD9.2 10 _ rfl
    | 11, _ => exact hD9.2 11 _ rfl
    | 12, _ => exact hD9.2 12 _ rfl
    | 13, _ => exact hD9.2 13 _ rfl
    | 14, _ => exact hD9.2 14 _ rfl
    | 15, _ => exact hD9.2 15 _ rfl
    | 16, _ => exact hD9.2 16 _ rfl
    | 17, _ => exact hD9.2 17 _ rfl
    | 18, _ => exact hD9.2 18 _ rfl
    | 19, _ => exact hD9.2 19 _ rfl
    | 20, _ => exact hD9.2 20 _ rfl
    | 21, _ => exact hD9.2 21 _ rfl
    | 22, _ => exact hD9.2 22 _ rfl
    | 23, _ => exact hD9.2 23 _ rfl
    | 24, _ => exact hD9.2 24 _ rfl
    | 25, _ => exact hD9.2 25 _ rfl
    | 26, _ => exact hD9.2 26 _ rfl
    | 27, _ => exact hD9.2 27 _ rfl
    | 28, _ => exact hD9.2 28 _ rfl
    | 29, _ => exact hD9.2 29 _ rfl
    | 30, _ => exact hD9.2 30 _ rfl
    | 31, _ => exact hD9.2 31 _ rfl
    | 32, _ => exact hD9.2 32 _ rfl
    | 33, _ => exact hD9.2 33 _ rfl
    | 34, _ => exact hD9.2 34 _ rfl
    | 35, _ => exact hD9.2 35 _ rfl
    | 36, _ => exact hD9.2 36 _ rfl
    | 37, _ => exact hD9.2 37 _ rfl
    | 38, _ => exact hD9.2 38 _ rfl
    | 39, _ => exact hD9.2 39 _ rfl
    | 40, _ => exact hD9.2 40 _ rfl
    | 41, _ => exact hD9.2 41 _ rfl
    | 42, _ => exact hD9.2 42 _ rfl
    | 43, _ => exact hD9.2 43 _ rfl
    | 44, _ => exact hD9.2 44 _ rfl
    | 45, _ => exact hD9.2 45 _ rfl
    | k + 46, h => exact absurd h (by omega)
  have hKE : gK E2 s := by subst hE2; exact hK.1
  have hP9 : va_P (gD E2) vwCl (wl E2 gμ0 gν0 gτ0) H := by
    subst hE2
    intro k q hq
    obtain ⟨hk, rfl⟩ := wl_get hq
    match k, hk with
    | 0, _ => exact va_at_e (x := .inr (3, [.ref (fX6 1), .int 0])) (by simp [gen, gen0, gμ0, gν0, gτ0, gL, gI, gJc, gAdr] <;> rfl) (hP 1 _ rfl)
    | 1, _ => exact va_at_e (x := .inr (3, [.ref (fX6 3), .int 0])) (by simp [gen, gen0, gμ0, gν0, gτ0, gL, gI, gJc, gAdr] <;> rfl) (hP 3 _ rfl)
    | 2, _ => exact va_at_e (x := .inr (3, [.ref (fX6 18), .int 0])) (by simp [gen, gen0, gμ0, gν0, gτ0, gL, gI, gJc, gAdr] <;> rfl) (hP 18 _ rfl)
    | 3, _ => exact va_at_e (x := .inr (3, [.ref (fX6 20), .int 0])) (by simp [gen, gen0, gμ0, gν0, gτ0, gL, gI, gJc, gAdr] <;> rfl) (hP 20 _ rfl)
    | 4, _ => exact va_at_e (x := .inr (3, [.ref (fX6 22), .int 0])) (by simp [gen, gen0, gμ0, gν0, gτ0, gL, gI, gJc, gAdr] <;> rfl) (hP 22 _ rfl)
    | 5, _ => exact va_at_e (x := .inl (gI E, 8, .inl (fun _ => 0))) (by simp [gen, gen0, gμ0, gν0, gτ0, gL, gI, gJc, gAdr] <;> rfl) (hP 2 _ rfl)
    | 6, _ => exact va_at_e (x := .inl (gI E, 8, .inl (fun _ => 0))) (by simp [gen, gen0, gμ0, gν0, gτ0, gL, gI, gJc, gAdr] <;> rfl) (hP 4 _ rfl)
    | 7, _ => exact va_at_e (x := .inl (gI E, 8, .inl (fun _ => 0))) (by simp [gen, gen0, gμ0, gν0, gτ0, gL, gI, gJc, gAdr] <;> rfl) (hP 19 _ rfl)
    | 8, _ => exact va_at_e (x := .inl (gI E, 8, .inl (fun _ => 0))) (by simp [gen, gen0, gμ0, gν0, gτ0, gL, gI, gJc, gAdr] <;> rfl) (hP 21 _ rfl)
    | 9, _ => exact va_at_e (x := .inl (gI E, 8, .inl (fun _ => 0))) (by simp [gen, gen0, gμ0, gν0, gτ0, gL, gI, gJc, gAdr] <;> rfl) (hP 23 _ rfl)
    | 10, _ => exact va_at_e (x := .inr (4, [.ref (fX6 24), .int (-1), .int 0])) (by simp [gen, gen0, gμ0, gν0, gτ0, gL, gI, gJc, gAdr] <;> rfl) (hP 24 _ rfl)
    | 11, _ => exact va_at_e (x := .inr (4, [.ref (fX6 26), .int (-1), .int 0])) (by simp [gen, gen0, gμ0, gν0, gτ0, gL, gI, gJc, gAdr] <;> rfl) (hP 26 _ rfl)
    | 12, _ => exact va_at_e (x := .inr (4, [.ref (fX6 28), .int (-1), .int 0])) (by simp [gen, gen0, gμ0, gν0, gτ0, gL, gI, gJc, gAdr] <;> rfl) (hP 28 _ rfl)
    | 13, _ => exact va_at_e (x := .inr (4, [.ref (fX6 30), .int (-1), .int 0])) (by simp [gen, gen0, gμ0, gν0, gτ0, gL, gI, gJc, gAdr] <;> rfl) (hP 30 _ rfl)
    | 14, _ => exact va_at_e (x := .inl (gI E, 40, .inl (fun _ => 0))) (by simp [gen, gen0, gμ0, gν0, gτ0, gL, gI, gJc, gAdr] <;> rfl) (hP 25 _ rfl)
    | 15, _ => exact va_at_e (x := .inl (gI E, 40, .inl (fun _ => 0))) (by simp [gen, gen0, gμ0, gν0, gτ0, gL, gI, gJc, gAdr] <;> rfl) (hP 27 _ rfl)
    | 16, _ => exact va_at_e (x := .inl (gI E, 40, .inl (fun _ => 0))) (by simp [gen, gen0, gμ0, gν0, gτ0, gL, gI, gJc, gAdr] <;> rfl) (hP 29 _ rfl)
    | 17, _ => exact va_at_e (x := .inl (gI E, 40, .inl (fun _ => 0))) (by simp [gen, gen0, gμ0, gν0, gτ0, gL, gI, gJc, gAdr] <;> rfl) (hP 31 _ rfl)
    | 18, _ => exact va_at_e (x := .inr (1, [.ref (fX6 7), .int 0])) (by simp [gen, gen0, gμ0, gν0, gτ0, gL, gI, gJc, gAdr] <;> rfl) (hP 7 _ rfl)
    | 19, _ => exact va_at_e (x := .inl (gI E, 10, .inl (fun _ => 0))) (by simp [gen, gen0, gμ0, gν0, gτ0, gL, gI, gJc, gAdr] <;> rfl) (hP 8 _ rfl)
    | 20, _ => exact va_at_e (x := .inr (2, [.ref (fX6 9), .int 0])) (by simp [gen, gen0, gμ0, gν0, gτ0, gL, gI, gJc, gAdr] <;> rfl) (hP 9 _ rfl)
    | 21, _ => exact va_at_e (x := .inl (gI E, 10, .inl (fun _ => 0))) (by simp [gen, gen0, gμ0, gν0, gτ0, gL, gI, gJc, gAdr] <;> rfl) (hP 10 _ rfl)
    | 22, _ => exact va_at_e (x := .inr (5, [.ref (fX6 11), .ref (fX6 12), .int 0])) (by simp [gen, gen0, gμ0, gν0, gτ0, gL, gI, gJc, gAdr] <;> rfl) (hP 11 _ rfl)
    | 23, _ => exact va_at_e (x := .inl (gI E, 512, .inl (fun _ => 0))) (by simp [gen, gen0, gμ0, gν0, gτ0, gL, gI, gJc, gAdr] <;> rfl) (hP 12 _ rfl)
    | 24, _ => exact va_at_e (x := .inl (gI E, 512, .inl (fun _ => 0))) (by simp [gen, gen0, gμ0, gν0, gτ0, gL, gI, gJc, gAdr] <;> rfl) (hP 13 _ rfl)
    | 25, _ => exact va_at_e (x := .inr (0, [.ref (fX6 14), .ref (fX6 15), .ref (fX6 16)])) (by simp [gen, gen0, gμ0, gν0, gτ0, gL, gI, gJc, gAdr] <;> rfl) (hP 14 _ rfl)
    | 26, _ => exact va_at_e (x := .inl (gI E, 8, .inl (fun _ => 0))) (by simp [gen, gen0, gμ0, gν0, gτ0, gL, gI, gJc, gAdr] <;> rfl) (hP 15 _ rfl)
    | 27, _ => exact va_at_e (x := .inl (gI E, 8, .inl (fun _ => 0))) (by simp [gen, gen0, gμ0, gν0, gτ0, gL, gI, gJc, gAdr] <;> rfl) (hP 16 _ rfl)
    | 28, _ => exact va_at_e (x := .inl (gI E, 2560, .inl (fun _ => 0))) (by simp [gen, gen0, gμ0, gν0, gτ0, gL, gI, gJc, gAdr] <;> rfl) (hP 17 _ rfl)
    | 29, _ => exact va_at_q (n := 3) (by intro j hj; rcases (show j = 0 ∨ j = 1 ∨ j = 2 by omega) with rfl | rfl | rfl <;> rfl) (hP 5 _ rfl)
    | 30, _ => exact va_at_q (n := 4) (by intro j hj; rcases (show j = 0 ∨ j = 1 ∨ j = 2 ∨ j = 3 by omega) with rfl | rfl | rfl | rfl <;> rfl) (hP 6 _ rfl)
    | 31, _ => exact va_at_e (x := .inr (6, [.ref (fX6 0), .ref (fX6 2), .ref (fX6 4), .ref (fX6 5), .ref (fX6 6), .ref (fX6 8), .ref (fX6 10), .ref (fX6 13), .int 2, .int 0, .int 0])) (by simp [gen, gen0, gμ0, gν0, gτ0, gL, gI, gJc, gAdr] <;> rfl) (hP 0 _ rfl)
    | 32, _ => exact va_at_e (x := .inr (7, [.int 0, .int 0, .ref (fX7 0), .ref (fX7 1), .ref (fX7 2), .int 0, .ref (fX7 3), .int 0, .ref (fX7 4), .int 0, .ref (fX7 5), .ref (fX7 6), .ref (fX7 7), .ref (fX7 8), .ref (fX7 9), .int 0, .int 0, .ref (fX7 10), .ref (fX7 11), .ref (fX7 12)])) (by simp [gen, gen0, gμ0, gν0, gτ0, gL, gI, gJc, gAdr] <;> rfl) (hP 32 _ rfl)
    | 33, _ => exact va_at_e (x := .inl (gI E, 4, .inl (upd (upd (upd (upd (fun _ => 0) (0 : Int32).toNatClampNeg (-9)) (1 : Int32).toNatClampNeg (-9)) (2 : Int32).toNatClampNeg (-9)) (3 : Int32).toNatClampNeg (-9)))) (by simp [gen, gen0, gμ0, gν0, gτ0, gL, gI, gJc, gAdr] <;> rfl) (hP 33 _ rfl)
    | 34, _ => exact va_at_e (x := .inl (gI E, 4, .inl (fun _ => 0))) (by simp [gen, gen0, gμ0, gν0, gτ0, gL, gI, gJc, gAdr] <;> rfl) (hP 34 _ rfl)
    | 35, _ => exact va_at_e (x := .inl (gI E, 160, .inl (fun _ => 0))) (by simp [gen, gen0, gμ0, gν0, gτ0, gL, gI, gJc, gAdr] <;> rfl) (hP 35 _ rfl)
    | 36, _ => exact va_at_e (x := .inl (gI E, 8, .inl (fun _ => 0))) (by simp [gen, gen0, gμ0, gν0, gτ0, gL, gI, gJc, gAdr] <;> rfl) (hP 36 _ rfl)
    | 37, _ => exact va_at_e (x := .inl (gI E, 10, .inl (fun _ => 0))) (by simp [gen, gen0, gμ0, gν0, gτ0, gL, gI, gJc, gAdr] <;> rfl) (hP 37 _ rfl)
    | 38, _ => exact va_at_e (x := .inl (gI E, 8, .inl (fun _ => 0))) (by simp [gen, gen0, gμ0, gν0, gτ0, gL, gI, gJc, gAdr] <;> rfl) (hP 38 _ rfl)
    | 39, _ => exact va_at_e (x := .inl (gI E, 1010, .inl (fun _ => 0))) (by simp [gen, gen0, gμ0, gν0, gτ0, gL, gI, gJc, gAdr] <;> rfl) (hP 39 _ rfl)
    | 40, _ => exact va_at_e (x := .inl (gI E, 8, .inl (fun _ => 0))) (by simp [gen, gen0, gμ0, gν0, gτ0, gL, gI, gJc, gAdr] <;> rfl) (hP 40 _ rfl)
    | 41, _ => exact va_at_e (x := .inl (gI E, 3, .inl (fun _ => 0))) (by simp [gen, gen0, gμ0, gν0, gτ0, gL, gI, gJc, gAdr] <;> rfl) (hP 41 _ rfl)
    | 42, _ => exact va_at_e (x := .inl (gI E, 24, .inl (fun _ => 0))) (by simp [gen, gen0, gμ0, gν0, gτ0, gL, gI, gJc, gAdr] <;> rfl) (hP 42 _ rfl)
    | 43, _ => exact va_at_e (x := .inl (gI E, 8, .inl (fun _ => 0))) (by simp [gen, gen0, gμ0, gν0, gτ0, gL, gI, gJc, gAdr] <;> rfl) (hP 43 _ rfl)
    | 44, _ => exact va_at_e (x := .inl (gJc E, 20736, .inr (.inl (fun _ => 0)))) (by simp [gen, gen0, gμ0, gν0, gτ0, gL, gI, gJc, gAdr] <;> rfl) (hP 44 _ rfl)
    | 45, _ => exact va_at_e (x := .inl (gI E, 512, .inl (fun _ => 0))) (by simp [gen, gen0, gμ0, gν0, gτ0, gL, gI, gJc, gAdr] <;> rfl) (hP 45 _ rfl)
    | k + 46, h => exact absurd h (by omega)
  have hbA : ¬ gA E2 b := by
    rintro ⟨id, h1, h2⟩
    have := hnew id h1
    omega
  have hS9 : va_S (gA E2) s.heap H [] := ⟨hS.1, fun q h1 _ => hS.2.1 q h1 (by omega), fun _ h => by cases h⟩
  have hl9 : lv_has ls 4 [(0, .ref b), (1, .ref (gL E2 31)), (2, .ref (gL E2 32)), (3, .int 0)] := by
    subst hE2
    exact lv_sub hl [3, 2, 1, 0] rfl
  exact law_walk hE9 C0 hKE hr hlocks hX hbl hbA hnew nf 0 gμ0 gν0 gτ0 H [] ls hP9 hS9 hl9 hv
