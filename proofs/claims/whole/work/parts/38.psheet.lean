theorem Rel.sht {μ ν μ' ν' : gM} (hr : Rel μ ν) (hx : ∀ id, ¬ (10 ≤ id ∧ id < 18) → μ' id = μ id) (hm : ∀ id, ¬ (33 ≤ id ∧ id ≤ 35) → ν' id = ν id) (h8 : R8 μ' ν') : Rel μ' ν' := by
  obtain ⟨a1, a2, a3, a4, a5, a6, a7, -⟩ := hr
  refine ⟨a1.fr (hx 0 (by omega)) (hx 5 (by omega)) (by rw [hx 31 (by omega)]) (by rw [hm 32 (by omega)]) (by rw [hm 32 (by omega)]) (hm 36 (by omega)) (hm 41 (by omega)), a2.fr (fun i hi => ⟨hx _ (by omega), hx _ (by omega)⟩) (hm 41 (by omega)) (hm 42 (by omega)), ?_, ?_, ?_, ?_, ?_, h8⟩
  · unfold R3; rw [hx 31 (by omega)]; exact a3
  · unfold R4; rw [hx 31 (by omega), hm 32 (by omega)]; exact a4
  · unfold R5; rw [hx 21 (by omega), hm 37 (by omega)]; exact a5
  · unfold R6; rw [hx 20 (by omega), hm 32 (by omega)]; exact a6
  · unfold R7; rw [hx 31 (by omega), hm 32 (by omega)]; exact a7
theorem m1_ne {n : Nat} (h : n < 1000000) : ¬ nI n = (-1) := fun e => by
  have := congrArg Int32.toInt e
  rw [nI_int h] at this
  have h9 : (-1 : Int32).toInt = -1 := rfl
  omega
theorem fill_ok {μ : gM} {b n : Nat} {v : Int32} {Q : gM → Prop} (hn : n < 100000) (hq : ∀ μ', (∀ id, id ≠ b → μ' id = μ id) → (∀ j, j < n → μ' b j = v) → Q μ') : vJ7_fill_53178 b n v μ Q := by
  have key : ∃ m, ∀ μ', ((∀ id, id ≠ b → μ' id = μ id) ∧ ∀ j, j < 0 → μ' b j = v) → vJ7_fill_53178_5 b n v Q m (nI 0) (nI n) μ' := by
    refine ex_up (fun m k => ∀ μ', ((∀ id, id ≠ b → μ' id = μ id) ∧ ∀ j, j < k → μ' b j = v) → vJ7_fill_53178_5 b n v Q m (nI k) (nI n) μ') n 0 (Nat.zero_le _) (fun m μ' hI => ?_) (fun m k _ hk ih μ' hI => ?_)
    · show vJ7_fill_53178_5B b n v Q _ _ _ μ'
      unfold vJ7_fill_53178_5B
      exact br_t (leT (Nat.le_refl _) (by omega)) (hq μ' hI.1 hI.2)
    · show vJ7_fill_53178_5B b n v Q _ _ _ μ'
      unfold vJ7_fill_53178_5B
      refine br_f (leF hk (by omega)) ⟨inI hk (by omega), ?_⟩
      rw [cl (by omega), nI_1]
      refine ih _ ⟨fun id hid => by rw [up2_n hid]; exact hI.1 id hid, fun j hj => ?_⟩
      rw [up2_at]
      by_cases q : j = k
      · rw [if_pos q]
      · rw [if_neg q]; exact hI.2 j (by omega)
  obtain ⟨m, hm⟩ := key
  exact ⟨m, hm μ ⟨fun _ _ => rfl, fun j hj => by omega⟩⟩
/-- whether n cells from i on are there -/
theorem holds_in {μ : gM} {k ln i n : Nat} {Q : Int32 → gM → Prop} (hl : μ (10 + k) 1 = nI ln) (h40 : ln ≤ 40) (h : i + n ≤ ln) (hq : Q 1 μ) : vX4_holds k (nI i) (nI n) μ Q := by
  unfold vX4_holds
  rw [hl, pk_sub (by omega)]
  exact br_f (posF (by omega)) (br_f (ltF (by omega) (by omega)) (br_f (ltF (by omega) (by omega)) hq))
theorem holds_out {μ : gM} {k ln : Nat} {i n : Int32} {Q : Int32 → gM → Prop} (hl : μ (10 + k) 1 = nI ln) (h40 : ln ≤ 40) (h : i.toInt < 0 ∨ (ln : Int) < i.toInt + n.toInt ∨ (ln : Int) < i.toInt) (hq : Q 0 μ) : vX4_holds k i n μ Q := by
  unfold vX4_holds
  rw [hl]
  have e : (nI ln).toInt = (ln : Int) := nI_int (by omega)
  by_cases c1 : i.toInt < 0
  · exact br_t (lt_i.mpr c1) hq
  · refine br_f (fun z => c1 (lt_i.mp z)) ?_
    by_cases c2 : (ln : Int) < i.toInt
    · exact br_t (lt_i.mpr (by rw [e]; exact c2)) hq
    · refine br_f (fun z => c2 (by rw [lt_i, e] at z; exact z)) (br_t (lt_i.mpr ?_) hq)
      rw [sub_i (by rw [e]; omega) (by rw [e]; omega), e]; omega
def Sh (μ ν : gM) (k n s : Nat) : Prop := n ≤ 40 ∧ s < 3 ∧ μ (10 + k) 1 = nI n ∧ μ (10 + k) 2 = nI s ∧ ν 33 k = nI s ∧ ν 34 k = nI n ∧ ∀ j, j < 40 → μ (14 + k) j = ν 35 (40 * k + j)
theorem fc_ok {μ ν : gM} (h8 : R8 μ ν) {k : Nat} (hk : k < 4) (a i n : Int32) : ∃ f : Nat, f ≤ 4 ∧ (∀ Q : Int32 → gM → Prop, Q (nI f) μ → vX4_faultOfCells k a i n μ Q) ∧ (∀ (τ : gJ) (Q : Int32 → gM → gJ → Prop), Q (nI f) ν τ → vX7_against (nI k) a i n ν τ Q) ∧ (f = 0 → ∃ ln s ii nn, Sh μ ν k ln s ∧ i = nI ii ∧ n = nI nn ∧ ii + nn ≤ ln ∧ a = nI s) := by
  have hin : vp_in (nI k) 4 := inI hk (by omega)
  rcases h8 k hk with ⟨e1, e2⟩ | ⟨ln, s, g⟩
  · refine ⟨1, by omega, fun Q hq => ?_, fun τ Q hq => ?_, fun z => by omega⟩
    · unfold vX4_faultOfCells vX4_isThere
      rw [e1]
      exact br_t rfl (nb_t rfl hq)
    · unfold vX7_against vX7_against_23
      rw [cl (by omega), e2]
      exact ⟨hin, br_t rfl ⟨hin, nb_t rfl hq⟩⟩
  · obtain ⟨g1, g2, g3, g4, g5, g6, g7⟩ := id g
    have t9 : ¬ nI s = (-9) := ne9 (by omega)
    have tx : ∀ Q : Int32 → gM → Prop, (((μ (10 + k) 2) = a → ((0 ≤ n → (vX4_holds k i n μ (fun x207 μ208 => (x207 = 0 → (Q 3 μ208)) ∧ (¬ x207 = 0 → (Q 0 μ208))))) ∧ (¬ 0 ≤ n → (Q 4 μ)))) ∧ (¬ (μ (10 + k) 2) = a → (Q 2 μ))) → vX4_faultOfCells k a i n μ Q := fun Q z => by
      unfold vX4_faultOfCells vX4_isThere
      rw [g3]
      exact br_f (m1_ne (by omega)) (nb_f (by decide) z)
    by_cases ca : nI s = a
    · by_cases cn : 0 ≤ n.toInt
      · by_cases ch : i.toInt < 0 ∨ (ln : Int) < i.toInt + n.toInt ∨ (ln : Int) < i.toInt
        · refine ⟨3, by omega, fun Q hq => tx Q ?_, fun τ Q hq => ?_, fun z => by omega⟩
          · rw [g4]
            exact br_t ca (br_t (le_i.mpr cn) (holds_out g3 g1 ch (br_t rfl hq)))
          · unfold vX7_against vX7_against_23
            rw [cl (by omega), g5, g6]
            refine ⟨hin, br_f t9 ⟨hin, br_t ca ⟨hin, nb_f t9 (br_t (le_i.mpr cn) ?_)⟩⟩⟩
            have e : (nI ln).toInt = (ln : Int) := nI_int (by omega)
            by_cases c1 : i.toInt < 0
            · exact br_t (lt_i.mpr c1) hq
            · refine br_f (fun z => c1 (lt_i.mp z)) ⟨hin, ?_⟩
              by_cases c2 : (ln : Int) < i.toInt
              · exact br_t (lt_i.mpr (by rw [e]; exact c2)) hq
              · refine br_f (fun z => c2 (by rw [lt_i, e] at z; exact z)) ⟨hin, br_f (fun z => ?_) hq⟩
                rw [le_i, sub_i (by rw [e]; omega) (by rw [e]; omega), e] at z; omega
        · have hi : i = nI i.toInt.toNat := tI (by rw [nI_int (by omega)]; omega)
          have hn : n = nI n.toInt.toNat := tI (by rw [nI_int (by omega)]; omega)
          refine ⟨0, by omega, fun Q hq => tx Q ?_, fun τ Q hq => ?_, fun _ => ⟨ln, s, i.toInt.toNat, n.toInt.toNat, g, hi, hn, by omega, ca.symm⟩⟩
          · rw [g4]
            refine br_t ca (br_t (le_i.mpr cn) ?_)
            rw [hi, hn]
            exact holds_in g3 g1 (by omega) (br_f (by decide) hq)
          · unfold vX7_against vX7_against_23
            rw [cl (by omega), g5, g6]
            refine ⟨hin, br_f t9 ⟨hin, br_t ca ⟨hin, nb_f t9 (br_t (le_i.mpr cn) ?_)⟩⟩⟩
            have e : (nI ln).toInt = (ln : Int) := nI_int (by omega)
            refine br_f (fun z => by have := lt_i.mp z; have : (0 : Int32).toInt = 0 := rfl; omega) ⟨hin, br_f (fun z => by rw [lt_i, e] at z; omega) ⟨hin, br_t ?_ hq⟩⟩
            rw [le_i, sub_i (by rw [e]; omega) (by rw [e]; omega), e]; omega
      · refine ⟨4, by omega, fun Q hq => tx Q ?_, fun τ Q hq => ?_, fun z => by omega⟩
        · rw [g4]
          exact br_t ca (br_f (fun z => cn (le_i.mp z)) hq)
        · unfold vX7_against vX7_against_23
          rw [cl (by omega), g5, g6]
          exact ⟨hin, br_f t9 ⟨hin, br_t ca ⟨hin, nb_f t9 (br_f (fun z => cn (le_i.mp z)) hq)⟩⟩⟩
    · refine ⟨2, by omega, fun Q hq => tx Q ?_, fun τ Q hq => ?_, fun z => by omega⟩
      · rw [g4]
        exact br_f ca hq
      · unfold vX7_against
        rw [cl (by omega), g5]
        exact ⟨hin, br_f t9 ⟨hin, br_f ca hq⟩⟩
abbrev EnL (K : gM → gM → gJ → Prop) (x : Int64) (μ1 : gM) : Int64 → gM → gJ → Prop := fun y ν1 τ1 => (lg_cmp x y = 0 → K μ1 ν1 τ1) ∧ (¬ lg_cmp x y = 0 → False)
theorem lg_self (x : Int64) : lg_cmp x x = 0 := by
  simp [lg_cmp]
theorem enL {K : gM → gM → gJ → Prop} (hK : ∀ μ' ν' τ', Rel μ' ν' → K μ' ν' τ') {x : Int64} {μ1 ν1 : gM} {τ1 : gJ} (h : Rel μ1 ν1) : EnL K x μ1 x ν1 τ1 := ⟨fun _ => hK _ _ _ h, fun z => z (lg_self x)⟩
theorem R8.one {μ ν μ' ν' : gM} {k : Nat} (h8 : R8 μ ν) (hx : ∀ j, j < 4 → j ≠ k → μ' (10 + j) = μ (10 + j) ∧ μ' (14 + j) = μ (14 + j)) (h33 : ∀ j, j < 4 → j ≠ k → ν' 33 j = ν 33 j ∧ ν' 34 j = ν 34 j) (h35 : ∀ j i, j < 4 → j ≠ k → i < 40 → ν' 35 (40 * j + i) = ν 35 (40 * j + i)) (hn : (μ' (10 + k) 1 = -1 ∧ ν' 33 k = -9) ∨ ∃ n s, Sh μ' ν' k n s) : R8 μ' ν' := by
  intro j hj
  by_cases q : j = k
  · rw [q]; exact hn
  · obtain ⟨e1, e2⟩ := hx j hj q
    obtain ⟨e3, e4⟩ := h33 j hj q
    rcases h8 j hj with z | ⟨n, s, g1, g2, g3, g4, g5, g6, g7⟩
    · left; rw [e1, e3]; exact z
    · right
      exact ⟨n, s, g1, g2, by rw [e1]; exact g3, by rw [e1]; exact g4, by rw [e3]; exact g5, by rw [e4]; exact g6, fun i hi => by rw [e2, h35 j i hj q hi]; exact g7 i hi⟩
section S3
variable {K : gM → gM → gJ → Prop} {μ ν : gM} {τ : gJ} {QX : Int32 → gM → Prop} {QL : Int64 → gM → Prop} {a b d : Int32}
theorem s_lose (hK : ∀ μ' ν' τ', Rel μ' ν' → K μ' ν' τ') (hr : Rel μ ν) (hQ : ∀ x μ1, vX7_lose a ν τ (En K x μ1) → QX x μ1) : vX6_lose a μ QX := by
  unfold vX6_lose vX6_isSheet
  unfold vX7_lose vX7_isSheet at hQ
  rcases wi_cases a 0 3 (by omega) with ⟨k, -, hk, rfl⟩ | ho
  · have hin : vp_in (nI k) 4 := inI (by omega) (by omega)
    have hrel : Rel (up2 μ (10 + k) 1 (-1)) (up2 ν 33 k (-9)) := hr.sht (fun id h => up2_n (by omega)) (fun id h => up2_n (by omega)) (R8.one (k := k) hr.2.2.2.2.2.2.2 (fun j hj q => ⟨up2_n (by omega), up2_n (by omega)⟩) (fun j hj q => ⟨u_o q, by rw [up2_n (by decide)]⟩) (fun j i hj q hi => by rw [up2_n (by decide)]) (Or.inl ⟨u_e, u_e⟩))
    refine xw_in (l := 0) (u := 3) (by omega) hk (by omega) ⟨nar1, nb_f (by decide) ⟨hin, ?_⟩⟩
    unfold vX4_clear vX4_isThere
    rw [cl (by omega)]
    rcases hr.2.2.2.2.2.2.2 k (by omega) with ⟨e1, e2⟩ | ⟨n, s, g1, g2, g3, g4, g5, g6, g7⟩
    · rw [e1]
      refine br_t rfl ⟨nar0, br_t rfl (hQ _ _ (mw_in (l := 0) (u := 3) (by omega) hk (by omega) ⟨nar1, nb_f (by decide) ⟨hin, ?_⟩⟩))⟩
      rw [cl (by omega), e2]
      exact nb_t rfl ⟨hin, en hK hrel⟩
    · rw [g3]
      refine br_f (m1_ne (by omega)) ⟨nar1, br_f (by decide) (hQ _ _ (mw_in (l := 0) (u := 3) (by omega) hk (by omega) ⟨nar1, nb_f (by decide) ⟨hin, ?_⟩⟩))⟩
      rw [cl (by omega), g5]
      exact nb_f (ne9 (by omega)) ⟨hin, en hK hrel⟩
  · exact xw_out (l := 0) (u := 3) (by omega) (by omega) ho ⟨nar0, nb_t rfl (hQ _ _ (mw_out (l := 0) (u := 3) (by omega) (by omega) ho ⟨nar0, nb_t rfl (en hK hr)⟩))⟩
theorem up2_id {μ : gM} {a k : Nat} {v : Int32} (h : μ a k = v) : up2 μ a k v = μ := by
  funext j i
  by_cases q : j = a
  · subst q
    rw [up2_at]
    by_cases q2 : i = k
    · rw [if_pos q2, q2, h]
    · rw [if_neg q2]
  · rw [up2_n q]
theorem mwn_in {i n : Nat} {Q : Int32 → Prop} (hi : i < n) (hn : n ≤ 40) (hq : Q 1) : vX7_within (nI i) 0 (nI n - 1) Q := by
  rw [show (1 : Int32) = nI 1 from rfl, pk_sub (by omega)]
  exact mw_in (l := 0) (u := n - 1) (by omega) (by omega) (by omega) hq
theorem mwn_out {i : Int32} {n : Nat} {Q : Int32 → Prop} (hn : n ≤ 40) (hi : i.toInt < 0 ∨ (n : Int) ≤ i.toInt) (hq : Q 0) : vX7_within i 0 (nI n - 1) Q := by
  have e : (nI n).toInt = (n : Int) := nI_int (by omega)
  have e1 : (1 : Int32).toInt = 1 := rfl
  unfold vX7_within
  by_cases c : i.toInt < 0
  · exact br_t (lt_i.mpr c) hq
  · refine br_f (fun z => c (lt_i.mp z)) (br_t (lt_i.mpr ?_) hq)
    rw [sub_i (by rw [e, e1]; omega) (by rw [e, e1]; omega), e, e1]; omega
theorem ix40 {k i : Nat} : (40 : Int32) * nI k + nI i = nI (40 * k + i) := by rw [show (40 : Int32) = nI 40 from rfl, pk_mul, nI_add]
theorem ix_cases (i : Int32) {n : Nat} (hn : n ≤ 40) : (∃ k, k < n ∧ i = nI k) ∨ (i.toInt < 0 ∨ (n : Int) ≤ i.toInt) := by
  by_cases c : i.toInt < 0 ∨ (n : Int) ≤ i.toInt
  · exact Or.inr c
  · left
    exact ⟨i.toInt.toNat, by omega, tI (by rw [nI_int (by omega)]; omega)⟩
theorem s_cell (hK : ∀ μ' ν' τ', Rel μ' ν' → K μ' ν' τ') (hr : Rel μ ν) (hQ : ∀ x μ1, vX7_cell a b d ν τ (EnL K x μ1) → QL x μ1) : vX6_cell a b d μ QL := by
  have hr0 := hr.flt 0
  have h0 : up2 μ 31 10 0 31 10 = 0 := u_e
  unfold vX6_cell vX6_isSheet
  unfold vX7_cell vX7_isSheet at hQ
  generalize up2 μ 31 10 0 = μ0 at *
  generalize up2 ν 32 0 0 = ν0 at *
  rcases wi_cases a 0 3 (by omega) with ⟨k, -, hk, rfl⟩ | ho
  · have hin : vp_in (nI k) 4 := inI (by omega) (by omega)
    refine xw_in (l := 0) (u := 3) (by omega) hk (by omega) ⟨nar1, br_f (by decide) ?_⟩
    unfold vX6_isSort
    unfold vX7_isSort at hQ
    rcases wi_cases d 0 2 (by omega) with ⟨s, -, hs, rfl⟩ | ho
    · refine xw_in (l := 0) (u := 2) (by omega) hs (by omega) ⟨nar1, nb_f (by decide) ⟨hin, ?_⟩⟩
      have hM : ∀ x μ1, _ := fun x μ1 z => hQ x μ1 (mw_in (l := 0) (u := 3) (by omega) hk (by omega) ⟨nar1, br_f (by decide) (mw_in (l := 0) (u := 2) (by omega) hs (by omega) ⟨nar1, nb_f (by decide) z⟩)⟩)
      rw [cl (by omega)] at hM
      rw [cl (by omega)]
      rcases hr0.2.2.2.2.2.2.2 k (by omega) with ⟨e1, e2⟩ | ⟨n, s', g⟩
      · unfold vX4_faultOfCells vX4_isThere
        rw [e1]
        refine br_t rfl (nb_t rfl ?_)
        dsimp only
        rw [u_e]
        refine br_f (by decide) (hM _ _ ⟨hin, ?_⟩)
        unfold vX7_cell_50 vX7_lost
        rw [cl (by omega), e2]
        exact br_t rfl ⟨hin, nb_t rfl (enL hK (hr0.flt 1))⟩
      · obtain ⟨g1, g2, g3, g4, g5, g6, g7⟩ := id g
        unfold vX4_faultOfCells vX4_isThere
        rw [g3]
        refine br_f (m1_ne (by omega)) (nb_f (by decide) ?_)
        rw [g4]
        have t9 : ¬ nI s' = (-9) := ne9 (by omega)
        by_cases cs : s' = s
        · rw [cs] at g5 t9 ⊢
          refine br_t rfl (br_t (leT (a := 0) (b := 1) (by omega) (by omega)) ?_)
          rcases ix_cases b g1 with ⟨i, hi, rfl⟩ | hb
          · refine holds_in (n := 1) g3 g1 (by omega) (br_f (by decide) ?_)
            dsimp only
            rw [up2_id h0, h0]
            refine br_t rfl ⟨hin, ?_⟩
            unfold vX4_read
            refine holds_in (n := 1) (ln := n) g3 g1 (by omega) (br_f (by decide) ⟨inI (by omega) (by omega), hM _ _ ⟨hin, ?_⟩⟩)
            unfold vX7_cell_50
            rw [cl (by omega), cl (by omega), g5, g6, ix40, cl (by omega), ← g7 i (by omega)]
            exact br_f t9 ⟨hin, br_t rfl ⟨hin, nb_f t9 ⟨hin, mwn_in hi g1 (nb_f (by decide) ⟨inI (by omega) (by omega), enL hK hr0⟩)⟩⟩⟩
          · refine holds_out (n := 1) g3 g1 (by have : (1 : Int32).toInt = 1 := rfl; omega) (br_t rfl ?_)
            dsimp only
            rw [u_e]
            refine br_f (by decide) (hM _ _ ⟨hin, ?_⟩)
            unfold vX7_cell_50 vX7_lost
            rw [cl (by omega), g5, g6]
            exact br_f t9 ⟨hin, br_t rfl ⟨hin, nb_f t9 ⟨hin, mwn_out g1 hb (nb_t rfl (enL hK (hr0.flt 3)))⟩⟩⟩
        · have cs2 : ¬ nI s' = nI s := neF cs (by omega) (by omega)
          refine br_f cs2 ?_
          dsimp only
          rw [u_e]
          refine br_f (by decide) (hM _ _ ⟨hin, ?_⟩)
          unfold vX7_lost
          rw [g5]
          exact br_f t9 ⟨hin, br_f cs2 (enL hK (hr0.flt 2))⟩
    · exact xw_out (l := 0) (u := 2) (by omega) (by omega) ho ⟨nar0, nb_t rfl (hQ _ _ (mw_in (l := 0) (u := 3) (by omega) hk (by omega) ⟨nar1, br_f (by decide) (mw_out (l := 0) (u := 2) (by omega) (by omega) ho ⟨nar0, nb_t rfl (enL hK hr0)⟩)⟩))⟩
  · exact xw_out (l := 0) (u := 3) (by omega) (by omega) ho ⟨nar0, br_t rfl (hQ _ _ (mw_out (l := 0) (u := 3) (by omega) (by omega) ho ⟨nar0, br_t rfl (enL hK hr0)⟩))⟩
theorem Rel.put {k n s i : Nat} {v : Int32} (hr : Rel μ ν) (hk : k < 4) (g : Sh μ ν k n s) (hi : i < 40) : Rel (up2 μ (14 + k) i v) (up2 ν 35 (40 * k + i) v) := by
  obtain ⟨g1, g2, g3, g4, g5, g6, g7⟩ := g
  refine hr.sht (fun id h => up2_n (by omega)) (fun id h => up2_n (by omega)) (R8.one (k := k) hr.2.2.2.2.2.2.2 (fun j hj q => ⟨up2_n (by omega), up2_n (by omega)⟩) (fun j hj q => ⟨by rw [up2_n (by decide)], by rw [up2_n (by decide)]⟩) (fun j t hj q ht => u_o (by omega)) (Or.inr ⟨n, s, g1, g2, by rw [up2_n (by omega)]; exact g3, by rw [up2_n (by omega)]; exact g4, by rw [up2_n (by decide)]; exact g5, by rw [up2_n (by decide)]; exact g6, fun j hj => ?_⟩))
  by_cases q : j = i
  · rw [q, u_e, u_e]
  · rw [u_o q, u_o (by omega)]; exact g7 j hj
theorem s_put (hK : ∀ μ' ν' τ', Rel μ' ν' → K μ' ν' τ') (hr : Rel μ ν) (hQ : ∀ x μ1, vX7_put a b d ν τ (En K x μ1) → QX x μ1) : vX6_put a b d μ QX := by
  have hr0 := hr.flt 0
  have h0 : up2 μ 31 10 0 31 10 = 0 := u_e
  unfold vX6_put vX6_isSheet
  unfold vX7_put vX7_isSheet at hQ
  generalize up2 μ 31 10 0 = μ0 at *
  generalize up2 ν 32 0 0 = ν0 at *
  rcases wi_cases a 0 3 (by omega) with ⟨k, -, hk, rfl⟩ | ho
  · have hin : vp_in (nI k) 4 := inI (by omega) (by omega)
    refine xw_in (l := 0) (u := 3) (by omega) hk (by omega) ⟨nar1, nb_f (by decide) ⟨hin, ?_⟩⟩
    have hM : ∀ x μ1, _ := fun x μ1 z => hQ x μ1 (mw_in (l := 0) (u := 3) (by omega) hk (by omega) ⟨nar1, nb_f (by decide) ⟨hin, z⟩⟩)
    rw [cl (by omega)] at hM
    rw [cl (by omega)]
    unfold vX4_isThere
    rcases hr0.2.2.2.2.2.2.2 k (by omega) with ⟨e1, e2⟩ | ⟨n, s, g⟩
    · rw [e1]
      refine br_t rfl (nb_t rfl ?_)
      unfold vX6_faulted
      refine hM _ _ ?_
      rw [e2]
      unfold vX7_fails
      exact nb_t rfl (en hK (hr0.flt 1))
    · obtain ⟨g1, g2, g3, g4, g5, g6, g7⟩ := id g
      have t9 : ¬ nI s = (-9) := ne9 (by omega)
      rw [g3]
      refine br_f (m1_ne (by omega)) (nb_f (by decide) ⟨hin, ?_⟩)
      rcases ix_cases b g1 with ⟨i, hi, rfl⟩ | hb
      · refine holds_in (n := 1) g3 g1 (by omega) (nb_f (by decide) ⟨hin, ?_⟩)
        unfold vX4_write
        refine holds_in (n := 1) g3 g1 (by omega) (br_f (by decide) ?_)
        have hin40 : vp_in (nI i) 40 := inI (by omega) (by omega)
        have hin160 : vp_in (nI (40 * k + i)) 160 := inI (by omega) (by omega)
        unfold vX4_cutToSort
        rw [g4, cl (by omega)]
        rw [g5, g6, ix40, cl (by omega)] at hM
        rcases (show s = 0 ∨ s = 1 ∨ s = 2 by omega) with rfl | rfl | rfl
        · exact br_t rfl ⟨hin40, hM _ _ (nb_f t9 ⟨hin, mwn_in hi g1 (nb_f (by decide) ⟨hin, nb_t rfl ⟨hin160, en hK (hr0.put (by omega) g (by omega))⟩⟩)⟩)⟩
        · exact br_f (by decide) (br_t rfl ⟨hin40, hM _ _ (nb_f t9 ⟨hin, mwn_in hi g1 (nb_f (by decide) ⟨hin, nb_f (by decide) ⟨hin, nb_t rfl ⟨hin160, en hK (hr0.put (by omega) g (by omega))⟩⟩⟩)⟩)⟩)
        · exact br_f (by decide) (br_f (by decide) ⟨hin40, hM _ _ (nb_f t9 ⟨hin, mwn_in hi g1 (nb_f (by decide) ⟨hin, nb_f (by decide) ⟨hin, nb_f (by decide) ⟨hin160, en hK (hr0.put (by omega) g (by omega))⟩⟩⟩)⟩)⟩)
      · refine holds_out (n := 1) g3 g1 (by have : (1 : Int32).toInt = 1 := rfl; omega) (nb_t rfl ?_)
        unfold vX6_faulted
        refine hM _ _ ?_
        rw [g5, g6]
        unfold vX7_fails
        exact nb_f t9 ⟨hin, mwn_out g1 hb (nb_t rfl (en hK (hr0.flt 3)))⟩
  · exact xw_out (l := 0) (u := 3) (by omega) (by omega) ho ⟨nar0, nb_t rfl (hQ _ _ (mw_out (l := 0) (u := 3) (by omega) (by omega) ho ⟨nar0, nb_t rfl (en hK hr0)⟩))⟩
theorem s_sheet (hK : ∀ μ' ν' τ', Rel μ' ν' → K μ' ν' τ') (hr : Rel μ ν) (hQ : ∀ x μ1, vX7_sheet a b d ν τ (En K x μ1) → QX x μ1) : vX6_sheet a b d μ QX := by
  have hr0 := hr.flt 0
  have h0 : up2 μ 31 10 0 31 10 = 0 := u_e
  unfold vX6_sheet vX6_isSheet
  unfold vX7_sheet vX7_isSheet at hQ
  generalize up2 μ 31 10 0 = μ0 at *
  generalize up2 ν 32 0 0 = ν0 at *
  rcases wi_cases a 0 3 (by omega) with ⟨k, -, hk, rfl⟩ | ho
  · have hin : vp_in (nI k) 4 := inI (by omega) (by omega)
    refine xw_in (l := 0) (u := 3) (by omega) hk (by omega) ⟨nar1, nb_f (by decide) ?_⟩
    unfold vX6_isSort
    unfold vX7_isSort at hQ
    rcases wi_cases b 0 2 (by omega) with ⟨s, -, hs, rfl⟩ | ho
    · refine xw_in (l := 0) (u := 2) (by omega) hs (by omega) ⟨nar1, br_f (by decide) ?_⟩
      have hM : ∀ x μ1, _ := fun x μ1 z => hQ x μ1 (mw_in (l := 0) (u := 3) (by omega) hk (by omega) ⟨nar1, nb_f (by decide) (mw_in (l := 0) (u := 2) (by omega) hs (by omega) ⟨nar1, br_f (by decide) z⟩)⟩)
      by_cases c1 : d.toInt ≤ 40
      · have c1' : d ≤ 40 := le_i.mpr c1
        by_cases c2 : 0 ≤ d.toInt
        · have c2' : 0 ≤ d := le_i.mpr c2
          obtain ⟨n, hn, rfl⟩ : ∃ n : Nat, n ≤ 40 ∧ d = nI n := ⟨d.toInt.toNat, by omega, tI (by rw [nI_int (by omega)]; omega)⟩
          refine br_t c1' (br_t c2' ⟨hin, ?_⟩)
          rw [cl (by omega)]
          unfold vX4_renew
          refine fill_ok (by omega) (fun μ' hf hz => hM _ _ (br_t c1' (br_t c2' ⟨hin, hin, ?_⟩)))
          rw [cl (by omega)]
          have key : ∃ m, ∀ ν', ((∀ id, id ≠ 35 → ν' id = up2 (up2 ν0 33 k (nI s)) 34 k (nI n) id) ∧ (∀ j t, j < 4 → j ≠ k → t < 40 → ν' 35 (40 * j + t) = ν0 35 (40 * j + t)) ∧ ∀ t, t < 0 → ν' 35 (40 * k + t) = 0) → vX7_sheet_57 (nI k) (nI s) (nI n) (En K 1 (up2 (up2 μ' (10 + k) 2 (nI s)) (10 + k) 1 (nI n))) m (nI 0) ν' τ := by
            refine ex_up (fun m i => ∀ ν', ((∀ id, id ≠ 35 → ν' id = up2 (up2 ν0 33 k (nI s)) 34 k (nI n) id) ∧ (∀ j t, j < 4 → j ≠ k → t < 40 → ν' 35 (40 * j + t) = ν0 35 (40 * j + t)) ∧ ∀ t, t < i → ν' 35 (40 * k + t) = 0) → vX7_sheet_57 (nI k) (nI s) (nI n) (En K 1 (up2 (up2 μ' (10 + k) 2 (nI s)) (10 + k) 1 (nI n))) m (nI i) ν' τ) 40 0 (by omega) (fun m ν' hI => ?_) (fun m i _ hi ih ν' hI => ?_)
            · show vX7_sheet_57B _ _ _ _ _ _ ν' τ
              unfold vX7_sheet_57B
              refine br_t (leT (a := 40) (by omega) (by omega)) (en hK (hr0.sht (fun id h => ?_) (fun id h => ?_) (R8.one (k := k) hr0.2.2.2.2.2.2.2 (fun j hj q => ⟨?_, ?_⟩) (fun j hj q => ⟨?_, ?_⟩) (fun j t hj q ht => hI.2.1 j t hj q ht) (Or.inr ⟨n, s, hn, by omega, u_e, by rw [u_o (by decide), u_e], ?_, ?_, fun j hj => ?_⟩))))
              · rw [up2_n (by omega), up2_n (by omega)]; exact hf id (by omega)
              · rw [hI.1 id (by omega), up2_n (by omega), up2_n (by omega)]
              · rw [up2_n (by omega), up2_n (by omega)]; exact hf _ (by omega)
              · rw [up2_n (by omega), up2_n (by omega)]; exact hf _ (by omega)
              · rw [hI.1 33 (by decide), up2_n (by decide), u_o q]
              · rw [hI.1 34 (by decide), u_o q, up2_n (by decide)]
              · rw [hI.1 33 (by decide), up2_n (by decide), u_e]
              · rw [hI.1 34 (by decide), u_e]
              · rw [up2_n (by omega), up2_n (by omega), hz j hj, hI.2.2 j hj]
            · show vX7_sheet_57B _ _ _ _ _ _ ν' τ
              unfold vX7_sheet_57B
              refine br_f (leF (a := 40) hi (by omega)) ?_
              rw [ix40, cl (by omega), nI_1]
              refine ⟨inI (by omega) (by omega), ih _ ⟨fun id hid => by rw [up2_n hid]; exact hI.1 id hid, fun j t hj q ht => by rw [u_o (by omega)]; exact hI.2.1 j t hj q ht, fun t ht => ?_⟩⟩
              by_cases q : t = i
              · rw [q, u_e]
              · rw [u_o (by omega)]; exact hI.2.2 t (by omega)
          obtain ⟨m, hm⟩ := key
          exact ⟨m, hm _ ⟨fun _ _ => rfl, fun j t hj q ht => by rw [up2_n (by decide), up2_n (by decide)], fun t ht => by omega⟩⟩
        · have c2' : ¬ 0 ≤ d := fun z => c2 (le_i.mp z)
          refine br_t c1' (br_f c2' ?_)
          unfold vX6_faulted
          refine hM _ _ (br_t c1' (br_f c2' ?_))
          unfold vX7_fails
          exact en hK (hr0.flt 4)
      · have c1' : ¬ d ≤ 40 := fun z => c1 (le_i.mp z)
        exact br_f c1' (hM _ _ (br_f c1' (en hK hr0)))
    · exact xw_out (l := 0) (u := 2) (by omega) (by omega) ho ⟨nar0, br_t rfl (hQ _ _ (mw_in (l := 0) (u := 3) (by omega) hk (by omega) ⟨nar1, nb_f (by decide) (mw_out (l := 0) (u := 2) (by omega) (by omega) ho ⟨nar0, br_t rfl (en hK hr0)⟩)⟩))⟩
  · exact xw_out (l := 0) (u := 3) (by omega) (by omega) ho ⟨nar0, nb_t rfl (hQ _ _ (mw_out (l := 0) (u := 3) (by omega) (by omega) ho ⟨nar0, nb_t rfl (en hK hr0)⟩))⟩
end S3
