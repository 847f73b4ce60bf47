/-! filled -/
section S13
variable {K : gM → gM → gJ → Prop} {μ ν : gM} {τ : gJ} {QL : Int64 → gM → Prop}
theorem xg_in {x l u : Int32} {Q : Int32 → Prop} (h : ¬ x < l ∧ ¬ u < x) (hq : Q 1) : vX6_isWithin x l u Q := br_f h.1 (br_f h.2 hq)
theorem mg_in {x l u : Int32} {Q : Int32 → Prop} (h : ¬ x < l ∧ ¬ u < x) (hq : Q 1) : vX7_within x l u Q := br_f h.1 (br_f h.2 hq)
theorem xg_out {x l u : Int32} {Q : Int32 → Prop} (h : ¬ (¬ x < l ∧ ¬ u < x)) (hq : Q 0) : vX6_isWithin x l u Q := by
  by_cases c : x < l
  · exact br_t c hq
  · exact br_f c (br_t (Classical.byContradiction (fun z => h ⟨c, z⟩)) hq)
theorem mg_out {x l u : Int32} {Q : Int32 → Prop} (h : ¬ (¬ x < l ∧ ¬ u < x)) (hq : Q 0) : vX7_within x l u Q := by
  by_cases c : x < l
  · exact br_t c hq
  · exact br_f c (br_t (Classical.byContradiction (fun z => h ⟨c, z⟩)) hq)
def oc9 (x : Int32) : Prop := ¬ x < (-1) ∧ ¬ 9 < x
theorem oc9_v {x : Int32} (h : oc9 x) : x = -1 ∨ ∃ d, d ≤ 9 ∧ x = nI d := by
  have h1 : ¬ x.toInt < -1 := fun z => h.1 (lt_i.mpr z)
  have h2 : ¬ 9 < x.toInt := fun z => h.2 (lt_i.mpr z)
  by_cases c : x.toInt = -1
  · left; exact tI (by rw [c]; rfl)
  · right; exact ⟨x.toInt.toNat, by omega, tI (by rw [nI_int (by omega)]; omega)⟩
theorem oc_split (c : Nat → Int32) : ∀ m, (∀ j, j < m → oc9 (c j)) ∨ ∃ w, w < m ∧ (∀ j, j < w → oc9 (c j)) ∧ ¬ oc9 (c w) := by
  intro m
  induction m with
  | zero => left; intro j hj; omega
  | succ m ih =>
    rcases ih with z | ⟨w, h1, h2, h3⟩
    · by_cases q : oc9 (c m)
      · left; intro j hj
        by_cases e : j = m
        · rw [e]; exact q
        · exact z j (by omega)
      · right; exact ⟨m, by omega, z, q⟩
    · right; exact ⟨w, by omega, h2, h3⟩
def cl0 (x : Int32) : Nat := if x = -1 then 0 else x.toInt.toNat
def ch0 (x : Int32) : Nat := if x = -1 then 9 else x.toInt.toNat
theorem cl0_v {x : Int32} (h : oc9 x) : (x = -1 ∧ cl0 x = 0 ∧ ch0 x = 9) ∨ ∃ d, d ≤ 9 ∧ x = nI d ∧ ¬ x = -1 ∧ cl0 x = d ∧ ch0 x = d := by
  rcases oc9_v h with z | ⟨d, d1, rfl⟩
  · left; exact ⟨z, if_pos z, if_pos z⟩
  · right
    have n1 := m1_ne (n := d) (by omega)
    exact ⟨d, d1, rfl, n1, by unfold cl0; rw [if_neg n1, nI_int (by omega)]; rfl, by unfold ch0; rw [if_neg n1, nI_int (by omega)]; rfl⟩
theorem allowCells_ok {k ln ii nn : Nat} {Q : gM → Prop} (hk : k < 4) (hl : μ (10 + k) 1 = nI ln) (h40 : ln ≤ 40) (hn : ii + nn ≤ ln) (h8 : nn ≤ 8) (hc : ∀ j, j < nn → oc9 (μ (14 + k) (ii + j))) (hq : ∀ μ', (∀ id, id ≠ 26 → id ≠ 27 → μ' id = μ id) → (∀ j, j < nn → μ' 26 j = nI (cl0 (μ (14 + k) (ii + j))) ∧ μ' 27 j = nI (ch0 (μ (14 + k) (ii + j)))) → Q μ') : vX6_allowCells k (nI ii) (nI nn) μ Q := by
  have key : ∃ n, ∀ μ', ((∀ id, id ≠ 26 → id ≠ 27 → μ' id = μ id) ∧ ∀ j, j < 0 → μ' 26 j = nI (cl0 (μ (14 + k) (ii + j))) ∧ μ' 27 j = nI (ch0 (μ (14 + k) (ii + j)))) → vX6_allowCells_3 k (nI ii) (nI nn) Q n (nI 0) μ' := by
    refine ex_up (fun n q => ∀ μ', ((∀ id, id ≠ 26 → id ≠ 27 → μ' id = μ id) ∧ ∀ j, j < q → μ' 26 j = nI (cl0 (μ (14 + k) (ii + j))) ∧ μ' 27 j = nI (ch0 (μ (14 + k) (ii + j)))) → vX6_allowCells_3 k (nI ii) (nI nn) Q n (nI q) μ') nn 0 (by omega) (fun n μ' hI => ?_) (fun n q _ hqn ih μ' hI => ?_)
    · show vX6_allowCells_3B k _ _ Q _ _ μ'
      unfold vX6_allowCells_3B
      exact br_t (leT (Nat.le_refl _) (by omega)) (hq μ' hI.1 hI.2)
    · show vX6_allowCells_3B k _ _ Q _ _ μ'
      unfold vX6_allowCells_3B
      have eq : nI q + 1 = nI (q + 1) := nI_1 q
      rw [nI_add, eq]
      refine br_f (leF hqn (by omega)) (read_ok (ln := ln) (by rw [hI.1 _ (by omega) (by omega)]; exact hl) h40 (by omega) ?_)
      rw [hI.1 (14 + k) (by omega) (by omega)]
      have step : ∀ l h, cl0 (μ (14 + k) (ii + q)) = l → ch0 (μ (14 + k) (ii + q)) = h → vX6_allowCells_3 k (nI ii) (nI nn) Q n (nI (q + 1)) (up2 (up2 μ' 26 q (nI l)) 27 q (nI h)) := by
        intro l h e1 e2
        refine ih _ ⟨fun id z1 z2 => by rw [up2_n z2, up2_n z1]; exact hI.1 id z1 z2, fun j hj => ?_⟩
        by_cases c : j = q
        · rw [c, up2_n (by decide), u_e, u_e, e1, e2]; exact ⟨rfl, rfl⟩
        · rw [up2_n (by decide), u_o c, u_o c, up2_n (by decide)]; exact hI.2 j (by omega)
      rcases cl0_v (hc q hqn) with ⟨z, e1, e2⟩ | ⟨d, d1, d2, d3, e1, e2⟩
      · exact nb_t z (allow_ok (l := 0) (h := 9) (by omega) (step 0 9 e1 e2))
      · refine nb_f d3 ?_
        have := step d d e1 e2
        rw [d2]
        exact allow_ok (by omega) this
  obtain ⟨n, hn⟩ := key
  exact ⟨n, hn _ ⟨fun _ _ _ => rfl, fun j hj => by omega⟩⟩
theorem s_filled {a b d e f g : Int32} (hK : ∀ μ' ν' τ', Rel μ' ν' → K μ' ν' τ') (hr : Rel μ ν) (hQ : ∀ x μ1, vX7_filled a b d e f g ν τ (EnL K x μ1) → QL x μ1) : vX6_filled a b d e f g μ QL := by
  have hr0 := hr.flt 0
  have h0 : up2 μ 31 10 0 31 10 = 0 := u_e
  unfold vX6_filled vX6_isSheet
  unfold vX7_filled vX7_isSheet at hQ
  generalize up2 μ 31 10 0 = μ0 at *
  generalize up2 ν 32 0 0 = ν0 at *
  rcases wi_cases a 0 3 (by omega) with ⟨k, -, hk, rfl⟩ | ho
  · have hin : vp_in (nI k) 4 := inI (by omega) (by omega)
    refine xw_in (l := 0) (u := 3) (by omega) hk (by omega) ⟨nar1, br_f (by decide) ?_⟩
    unfold vX6_isSort
    unfold vX7_isSort at hQ
    rcases wi_cases b 0 2 (by omega) with ⟨s, -, hs, rfl⟩ | ho
    · refine xw_in (l := 0) (u := 2) (by omega) hs (by omega) ⟨nar1, br_f (by decide) ?_⟩
      rcases wi_cases f 0 9 (by omega) with ⟨w, -, hw, rfl⟩ | ho
      · refine xw_in (l := 0) (u := 9) (by omega) hw (by omega) (nb_f (by decide) ⟨hin, ?_⟩)
        have hM : ∀ x μ1, _ := fun x μ1 z => hQ x μ1 (mw_in (l := 0) (u := 3) (by omega) hk (by omega) ⟨nar1, br_f (by decide) (mw_in (l := 0) (u := 2) (by omega) hs (by omega) ⟨nar1, br_f (by decide) (mw_in (l := 0) (u := 9) (by omega) hw (by omega) (nb_f (by decide) z))⟩)⟩)
        rw [cl (by omega)]
        obtain ⟨ft, hf4, fx, fm, f0⟩ := fc_ok hr0.2.2.2.2.2.2.2 (k := k) (by omega) (nI s) d e
        refine fx _ ?_
        by_cases hf : ft = 0
        · obtain ⟨ln, s', ii, nn, sh, rfl, rfl, hle, -⟩ := f0 hf
          obtain ⟨g1, g2, g3, g4, g5, g6, g7⟩ := id sh
          have hM2 : ∀ x μ1, _ := fun x μ1 z => hM x μ1 (fm τ _ (br_t (by rw [hf]; rfl) z))
          rw [hf, show nI 0 = 0 from rfl, up2_id h0, h0]
          refine nb_t rfl ?_
          by_cases h18 : 1 ≤ nn ∧ nn ≤ 8
          · refine xw_in (l := 1) (u := 8) h18.1 h18.2 (by omega) (br_f (by decide) ⟨hin, ?_⟩)
            have hM3 : ∀ x μ1, _ := fun x μ1 z => hM2 x μ1 (mw_in (l := 1) (u := 8) h18.1 h18.2 (by omega) (nb_f (by decide) z))
            have hc : ∀ j, ii + j < 40 → μ0 (14 + k) (ii + j) = ν0 35 (40 * k + ii + j) := fun j hj => by rw [g7 _ hj, Nat.add_assoc]
            have hxw : ∀ wq (Q : Int32 → gM → Prop), wq ≤ nn → (∀ j, j < wq → oc9 (μ0 (14 + k) (ii + j))) → vX6_areOpenOrThrows_2B k (nI ii) (nI nn) Q (vX6_areOpenOrThrows_2 k (nI ii) (nI nn) Q 0) (nI wq) μ0 → vX6_areOpenOrThrows k (nI ii) (nI nn) μ0 Q := by
              intro wq Q wn hoc hz
              have key : ∀ d q, q + d = wq → ∃ n, vX6_areOpenOrThrows_2 k (nI ii) (nI nn) Q n (nI q) μ0 := by
                intro d
                induction d with
                | zero => intro q e; exact ⟨1, by rw [show q = wq by omega]; exact hz⟩
                | succ d ih =>
                  intro q e
                  obtain ⟨n, hn⟩ := ih (q + 1) (by omega)
                  refine ⟨n + 1, ?_⟩
                  show vX6_areOpenOrThrows_2B k _ _ Q _ _ μ0
                  unfold vX6_areOpenOrThrows_2B
                  rw [nI_add, nI_1]
                  exact br_f (leF (by omega) (by omega)) (read_ok g3 g1 (by omega) (xg_in (hoc q (by omega)) (nb_f (by decide) hn)))
              exact key wq 0 (by omega)
            have hmw : ∀ wq (Q : Int64 → gM → gJ → Prop), wq ≤ nn → (∀ j, j < wq → oc9 (μ0 (14 + k) (ii + j))) → (∀ ν', (∀ id, id ≠ 43 → ν' id = ν0 id) → (∀ j, j < wq → ν' 43 j = μ0 (14 + k) (ii + j)) → vX7_filled_75B (nI k) (nI s) (nI ii) (nI nn) (nI w) g Q (vX7_filled_75 (nI k) (nI s) (nI ii) (nI nn) (nI w) g Q 0) (nI wq) ν' τ) → ∃ n, vX7_filled_75 (nI k) (nI s) (nI ii) (nI nn) (nI w) g Q n 0 ν0 τ := by
              intro wq Q wn hoc hz
              have key : ∀ d q, q + d = wq → ∃ n, ∀ ν', (∀ id, id ≠ 43 → ν' id = ν0 id) → (∀ j, j < q → ν' 43 j = μ0 (14 + k) (ii + j)) → vX7_filled_75 (nI k) (nI s) (nI ii) (nI nn) (nI w) g Q n (nI q) ν' τ := by
                intro d
                induction d with
                | zero => intro q e; rw [show q = wq by omega]; exact ⟨1, hz⟩
                | succ d ih =>
                  intro q e
                  obtain ⟨n, hn⟩ := ih (q + 1) (by omega)
                  refine ⟨n + 1, fun ν' f1 f2 => ?_⟩
                  show vX7_filled_75B _ _ _ _ _ _ Q _ _ ν' τ
                  unfold vX7_filled_75B
                  rw [ix40b, nI_1, cl (by omega), cl (by omega), u_e, f1 35 (by decide), ← hc q (by omega)]
                  refine br_f (leF (by omega) (by omega)) ⟨inI (by omega) (by omega), inI (by omega) (by omega), inI (by omega) (by omega), mg_in (hoc q (by omega)) (nb_f (by decide) (hn _ (fun id z => by rw [up2_n z]; exact f1 id z) (fun j hj => ?_)))⟩
                  by_cases c : j = q
                  · rw [c, u_e]
                  · rw [u_o c]; exact f2 j (by omega)
              obtain ⟨n, hn⟩ := key wq 0 (by omega)
              exact ⟨n, hn ν0 (fun _ _ => rfl) (fun j hj => by omega)⟩
            have rel43 : ∀ ν', (∀ id, id ≠ 43 → ν' id = ν0 id) → Rel μ0 ν' := fun ν' f1 => hr0.fr SX.rf ⟨fun id hid => f1 id (fun z => hid (by unfold scM; omega)), fun q _ _ => by rw [f1 32 (by decide)]⟩
            rcases oc_split (fun j => μ0 (14 + k) (ii + j)) nn with hall | ⟨wq, hw1, hw2, hw3⟩
            · have hall : ∀ j, j < nn → oc9 (μ0 (14 + k) (ii + j)) := hall
              refine hxw nn _ (Nat.le_refl _) hall ?_
              unfold vX6_areOpenOrThrows_2B
              refine br_t (leT (Nat.le_refl _) (by omega)) (br_f (by decide) ?_)
              by_cases cg : ¬ g < (-1) ∧ ¬ (nI nn - 1) < g
              · refine xg_in cg (nb_f (by decide) ⟨hin, allowCells_ok (by omega) g3 g1 hle h18.2 hall (fun μ1 fx1 fl1 => ?_)⟩)
                have hlh : ∀ j, j < nn → cl0 (μ0 (14 + k) (ii + j)) ≤ ch0 (μ0 (14 + k) (ii + j)) + 1 ∧ ch0 (μ0 (14 + k) (ii + j)) ≤ 9 := fun j hj => by
                  rcases cl0_v (hall j hj) with ⟨-, e1, e2⟩ | ⟨x, x1, -, -, e1, e2⟩ <;> rw [e1, e2] <;> omega
                refine count_ok (lo := fun j => cl0 (μ0 (14 + k) (ii + j))) (hi := fun j => ch0 (μ0 (14 + k) (ii + j))) (by omega) h18.1 hw (fun i hi => ⟨(hlh i hi).1, (hlh i hi).2, (fl1 i hi).1, (fl1 i hi).2⟩) (fun μ2 fx2 hT => ?_)
                have cle := CC_le (al := alw (fun j => cl0 (μ0 (14 + k) (ii + j))) (fun j => ch0 (μ0 (14 + k) (ii + j)))) (n := nn) nn 0 w
                have t8 := ten8 h18.2
                have nw : nn * w ≤ 72 := Nat.mul_le_mul h18.2 hw
                have hend : ∀ x, (∀ ν' τ2, (∀ id, id ≠ 43 → id ≠ 32 → ν' id = ν0 id) → (∀ q, q ≠ 15 → q ≠ 16 → ν' 32 q = ν0 32 q) → ν' 32 15 = nI nn → (∀ pl t (τ : gJ) (Q : Int32 → gM → gJ → Prop), pl < nn → t < 10 → Q (b01 (alw (fun j => cl0 (μ0 (14 + k) (ii + j))) (fun j => ch0 (μ0 (14 + k) (ii + j))) pl t)) ν' τ → vX7_mayThrow (nI pl) (nI t) ν' τ Q) → (∀ u, u < 2 ^ nn → Eg τ2 u (FF (alw (fun j => cl0 (μ0 (14 + k) (ii + j))) (fun j => ch0 (μ0 (14 + k) (ii + j)))) nn (nn - pcN u) u)) → vX7_filled_190 (nI k) (nI s) (nI ii) (nI nn) (nI w) g (EnL K x μ2) (lN (CC (alw (fun j => cl0 (μ0 (14 + k) (ii + j))) (fun j => ch0 (μ0 (14 + k) (ii + j)))) nn nn 0 w)) ν' τ2) → QL x μ2 := fun x z => hM3 x μ2 (hmw nn _ (Nat.le_refl _) hall (fun ν' f1 f2 => by
                  have h15 : (up2 (up2 ν' 32 15 (nI nn)) 32 16 9) 32 15 = nI nn := by rw [u_o (by decide), u_e]
                  have h16 : (up2 (up2 ν' 32 15 (nI nn)) 32 16 9) 32 16 = 9 := u_e
                  have h43 : (up2 (up2 ν' 32 15 (nI nn)) 32 16 9) 43 = ν' 43 := by rw [up2_n (by decide), up2_n (by decide)]
                  have e1 : ∀ id, id ≠ 43 → id ≠ 32 → (up2 (up2 ν' 32 15 (nI nn)) 32 16 9) id = ν0 id := fun id z1 z2 => by rw [up2_n z2, up2_n z2]; exact f1 id z1
                  have e2 : ∀ q, q ≠ 15 → q ≠ 16 → (up2 (up2 ν' 32 15 (nI nn)) 32 16 9) 32 q = ν0 32 q := fun q q1 q2 => by rw [u_o q2, u_o q1, f1 32 (by decide)]
                  unfold vX7_filled_75B
                  generalize up2 (up2 ν' 32 15 (nI nn)) 32 16 9 = ν2 at *
                  have hmay := mayThrow_ok (ν := ν2) (n := nn) (lo := fun j => cl0 (μ0 (14 + k) (ii + j))) (hi := fun j => ch0 (μ0 (14 + k) (ii + j))) h18.2 (fun i hi => by
                    rcases cl0_v (hall i hi) with ⟨q1, q2, q3⟩ | ⟨x, x1, q1, -, q2, q3⟩
                    · left; exact ⟨by rw [h43, f2 i hi]; exact q1, q2, by rw [h16, q3]; rfl, by rw [q3]; omega⟩
                    · right; exact ⟨x, x1, by rw [h43, f2 i hi]; exact q1, q2, q3⟩)
                  refine br_t (leT (Nat.le_refl _) (by omega)) (mg_in cg (nb_f (by decide) (layFills_ok (by omega) h18.1 h15 hmay (fun τ2 hE => ?_))))
                  unfold vX7_spot
                  dsimp only
                  rw [pk_mul, show (0 : Int32) = nI 0 from rfl, ix81, Nat.mul_zero, Nat.zero_add, cl (by omega)]
                  have e := hE 0 (Nat.two_pow_pos nn) (nn * w) (by omega)
                  rw [Nat.mul_zero, Nat.zero_add, pc0, Nat.sub_zero, CF_0 (by omega) h18.1] at e
                  rw [e]
                  exact br_t (leT (b := 80) (by omega) (by omega)) ⟨inI (by omega) (by omega), z ν2 τ2 e1 e2 h15 hmay hE⟩))
                have relE : ∀ ν', (∀ id, id ≠ 43 → id ≠ 32 → ν' id = ν0 id) → (∀ q, q ≠ 15 → q ≠ 16 → ν' 32 q = ν0 32 q) → Rel μ2 ν' := fun ν' f1 f2 => hr0.fr (fun id hid => by
                  have hid : ¬ (id = 1 ∨ id = 6 ∨ id = 18 ∨ id = 19 ∨ id = 22 ∨ id = 23 ∨ id = 24 ∨ id = 25 ∨ id = 26 ∨ id = 27 ∨ id = 28) := hid
                  rw [fx2 id (by omega), fx1 id (by omega) (by omega)]) ⟨fun id hid => by
                  have hid : ¬ (id = 32 ∨ id = 38 ∨ id = 39 ∨ id = 40 ∨ id = 43 ∨ id = 45) := hid
                  exact f1 id (by omega) (by omega), f2⟩
                generalize hC : CC (alw (fun j => cl0 (μ0 (14 + k) (ii + j))) (fun j => ch0 (μ0 (14 + k) (ii + j)))) nn nn 0 w = C at *
                by_cases c1 : g = -1
                · refine nb_t c1 (hend _ (fun ν' τ2 f1 f2 _ _ _ => ?_))
                  unfold vX7_filled_190
                  rw [nI_l (by omega)]
                  exact nb_t c1 (enL hK (relE ν' f1 f2))
                · refine nb_f c1 ?_
                  by_cases c0 : C = 0
                  · refine nb_t (by rw [c0]; rfl) (hend _ (fun ν' τ2 f1 f2 _ _ _ => ?_))
                    unfold vX7_filled_190
                    rw [c0, lg_0]
                    exact nb_f c1 (nb_t rfl (enL hK (relE ν' f1 f2)))
                  · have cp : 0 < C := by omega
                    have z1 : ¬ g.toInt < -1 := fun z => cg.1 (lt_i.mpr z)
                    have z2 : ¬ (nn : Int) - 1 < g.toInt := fun z => cg.2 (lt_i.mpr (by rw [show (1 : Int32) = nI 1 from rfl, pk_sub h18.1, nI_int (by omega)]; omega))
                    have z3 : g.toInt ≠ -1 := fun z => c1 (tI (by rw [z]; rfl))
                    obtain ⟨v, hv, rfl⟩ : ∃ v : Nat, v < nn ∧ g = nI v := ⟨g.toInt.toNat, by omega, tI (by rw [nI_int (by omega)]; omega)⟩
                    refine nb_f (fun z => c0 ((nI_eq (b := 0) (by omega) (by omega)).mp z)) (throwOfFirst_ok (lo := fun j => cl0 (μ0 (14 + k) (ii + j))) (hi := fun j => ch0 (μ0 (14 + k) (ii + j))) (by omega) h18.1 hw hv (fun q hq => ⟨(hlh q hq).2, by rw [fx2 26 (by decide)]; exact (fl1 q hq).1, by rw [fx2 27 (by decide)]; exact (fl1 q hq).2⟩) hT (by rw [hC]; exact cp) (hend _ (fun ν' τ2 f1 f2 f3 f4 f5 => ?_)))
                    unfold vX7_filled_190
                    rw [pk_mul]
                    exact nb_f c1 (nb_f (fun z => lg_pos cp (by omega) (by rw [z]; decide)) (firstFill_ok (by omega) h18.1 hw hv f3 f4 f5 (by rw [hC]; exact cp) (enL hK (relE ν' f1 f2))))
              · refine xg_out cg (nb_t rfl (hM3 _ _ (hmw nn _ (Nat.le_refl _) hall (fun ν' f1 f2 => ?_))))
                unfold vX7_filled_75B
                exact br_t (leT (Nat.le_refl _) (by omega)) (mg_out cg (nb_t rfl (enL hK (rel43 ν' f1))))
            · refine hxw wq _ (by omega) hw2 ?_
              unfold vX6_areOpenOrThrows_2B
              rw [nI_add]
              refine br_f (leF hw1 (by omega)) (read_ok g3 g1 (by omega) (xg_out hw3 (nb_t rfl (br_t rfl (hM3 _ _ (hmw wq _ (by omega) hw2 (fun ν' f1 f2 => ?_)))))))
              unfold vX7_filled_75B
              rw [ix40b, cl (by omega), cl (by omega), u_e, f1 35 (by decide), ← hc wq (by omega)]
              exact br_f (leF hw1 (by omega)) ⟨inI (by omega) (by omega), inI (by omega) (by omega), inI (by omega) (by omega), mg_out hw3 (nb_t rfl (enL hK (rel43 _ (fun id z => by rw [up2_n z]; exact f1 id z))))⟩
          · have ho : (nI nn).toInt < ((1 : Nat) : Int) ∨ ((8 : Nat) : Int) < (nI nn).toInt := by rw [nI_int (by omega)]; omega
            exact xw_out (l := 1) (u := 8) (by omega) (by omega) ho (br_t rfl (hM2 _ _ (mw_out (l := 1) (u := 8) (by omega) (by omega) ho (nb_t rfl (enL hK hr0)))))
        · have hfz : ¬ nI ft = 0 := ne0 (by omega) (by omega)
          rw [u_e]
          refine nb_f hfz (hM _ _ (fm τ _ (br_f hfz ?_)))
          unfold vX7_lost
          exact enL hK (hr0.flt _)
      · exact xw_out (l := 0) (u := 9) (by omega) (by omega) ho (nb_t rfl (hQ _ _ (mw_in (l := 0) (u := 3) (by omega) hk (by omega) ⟨nar1, br_f (by decide) (mw_in (l := 0) (u := 2) (by omega) hs (by omega) ⟨nar1, br_f (by decide) (mw_out (l := 0) (u := 9) (by omega) (by omega) ho (nb_t rfl (enL hK hr0)))⟩)⟩)))
    · exact xw_out (l := 0) (u := 2) (by omega) (by omega) ho ⟨nar0, br_t rfl (hQ _ _ (mw_in (l := 0) (u := 3) (by omega) hk (by omega) ⟨nar1, br_f (by decide) (mw_out (l := 0) (u := 2) (by omega) (by omega) ho ⟨nar0, br_t rfl (enL hK hr0)⟩)⟩))⟩
  · exact xw_out (l := 0) (u := 3) (by omega) (by omega) ho ⟨nar0, br_t rfl (hQ _ _ (mw_out (l := 0) (u := 3) (by omega) (by omega) ho ⟨nar0, br_t rfl (enL hK hr0)⟩))⟩
end S13
