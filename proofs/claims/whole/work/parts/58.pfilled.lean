/-! filled -/
section S13
variable {K : gM → gM → gJ → Prop} {μ ν : gM} {τ : gJ} {QL : Int64 → gM → Prop}
theorem xg_in {x l u : Int32} {Q : Int32 → Prop} (h : ¬ x < l ∧ ¬ u < x) (hq : Q 1) : vX6_isWithin x l u Q := br_f h.1 (br_f h.2 hq)
theorem mg_in {x l u : Int32} {Q : Int32 → Prop} (h : ¬ x < l ∧ ¬ u < x) (hq : Q 1) : vX7_within x l u Q := br_f h.1 (br_f h.2 hq)
theorem xg_out {x l u : Int32} {Q : Int32 → Prop} (h : ¬ (¬ x < l ∧ ¬ u < x)) (hq : Q 0) : vX6_isWithin x l u Q := by
  by_cases c : x < l
  · exact br_t c hq
  · exact br_f c (br_t (Classical.byContradiction (fun z => h ⟨c, z⟩)) hq)
theorem mg_out {x l u : Int32} {Q : Int32 → Prop} (h : ¬ (¬ x < l ∧ ¬ u < x)) (hq : Q 0) : vX7_within x l u Q := by
  by_cases c : x < l
  · exact br_t c hq
  · exact br_f c (br_t (Classical.byContradiction (fun z => h ⟨c, z⟩)) hq)
def oc9 (x : Int32) : Prop := ¬ x < (-1) ∧ ¬ 9 < x
theorem oc9_v {x : Int32} (h : oc9 x) : x = -1 ∨ ∃ d, d ≤ 9 ∧ x = nI d := by
  have h1 : ¬ x.toInt < -1 := fun z => h.1 (lt_i.mpr z)
  have h2 : ¬ 9 < x.toInt := fun z => h.2 (lt_i.mpr z)
  by_cases c : x.toInt = -1
  · left; exact tI (by rw [c]; rfl)
  · right; exact ⟨x.toInt.toNat, by omega, tI (by rw [nI_int (by omega)]; omega)⟩
theorem oc_split (c : Nat → Int32) : ∀ m, (∀ j, j < m → oc9 (c j)) ∨ ∃ w, w < m ∧ (∀ j, j < w → oc9 (c j)) ∧ ¬ oc9 (c w) := by
  intro m
  induction m with
  | zero => left; intro j hj; omega
  | succ m ih =>
    rcases ih with z | ⟨w, h1, h2, h3⟩
    · by_cases q : oc9 (c m)
      · left; intro j hj
        by_cases e : j = m
        · rw [e]; exact q
        · exact z j (by omega)
      · right; exact ⟨m, by omega, z, q⟩
    · right; exact ⟨w, by omega, h2, h3⟩
def cl0 (x : Int32) : Nat := if x = -1 then 0 else x.toInt.toNat
def ch0 (x : Int32) : Nat := if x = -1 then 9 else x.toInt.toNat
theorem cl0_v {x : Int32} (h : oc9 x) : (x = -1 ∧ cl0 x = 0 ∧ ch0 x = 9) ∨ ∃ d, d ≤ 9 ∧ x = nI d ∧ ¬ x = -1 ∧ cl0 x = d ∧ ch0 x = d := by
  rcases oc9_v h with z | ⟨d, d1, rfl⟩
  · left; exact ⟨z, if_pos z, if_pos z⟩
  · right
    have n1 := m1_ne (n := d) (by omega)
    exact ⟨d, d1, rfl, n1, by unfold cl0; rw [if_neg n1, nI_int (by omega)]; rfl, by unfold ch0; rw [if_neg n1, nI_int (by omega)]; rfl⟩
theorem allowCells_ok {k ln ii nn : Nat} {Q : gM → Prop} (hk : k < 4) (hl : μ (10 + k) 1 = nI ln) (h40 : ln ≤ 40) (hn : ii + nn ≤ ln) (h8 : nn ≤ 8) (hc : ∀ j, j < nn → oc9 (μ (14 + k) (ii + j))) (hq : ∀ μ', (∀ id, id ≠ 26 → id ≠ 27 → μ' id = μ id) → (∀ j, j < nn → μ' 26 j = nI (cl0 (μ (14 + k) (ii + j))) ∧ μ' 27 j = nI (ch0 (μ (14 + k) (ii + j)))) → Q μ') : vX6_allowCells k (nI ii) (nI nn) μ Q := by
  have key : ∃ n, ∀ μ', ((∀ id, id ≠ 26 → id ≠ 27 → μ' id = μ id) ∧ ∀ j, j < 0 → μ' 26 j = nI (cl0 (μ (14 + k) (ii + j))) ∧ μ' 27 j = nI (ch0 (μ (14 + k) (ii + j)))) → vX6_allowCells_3 k (nI ii) (nI nn) Q n (nI 0) μ' := by
    refine ex_up (fun n q => ∀ μ', ((∀ id, id ≠ 26 → id ≠ 27 → μ' id = μ id) ∧ ∀ j, j < q → μ' 26 j = nI (cl0 (μ (14 + k) (ii + j))) ∧ μ' 27 j = nI (ch0 (μ (14 + k) (ii + j)))) → vX6_allowCells_3 k (nI ii) (nI nn) Q n (nI q) μ') nn 0 (by omega) (fun n μ' hI => ?_) (fun n q _ hqn ih μ' hI => ?_)
    · show vX6_allowCells_3B k _ _ Q _ _ μ'
      unfold vX6_allowCells_3B
      exact br_t (leT (Nat.le_refl _) (by omega)) (hq μ' hI.1 hI.2)
    · show vX6_allowCells_3B k _ _ Q _ _ μ'
      unfold vX6_allowCells_3B
      have eq : nI q + 1 = nI (q + 1) := nI_1 q
      rw [nI_add, eq]
      refine br_f (leF hqn (by omega)) (read_ok (ln := ln) (by rw [hI.1 _ (by omega) (by omega)]; exact hl) h40 (by omega) ?_)
      rw [hI.1 (14 + k) (by omega) (by omega)]
      have step : ∀ l h, cl0 (μ (14 + k) (ii + q)) = l → ch0 (μ (14 + k) (ii + q)) = h → vX6_allowCells_3 k (nI ii) (nI nn) Q n (nI (q + 1)) (up2 (up2 μ' 26 q (nI l)) 27 q (nI h)) := by
        intro l h e1 e2
        refine ih _ ⟨fun id z1 z2 => by rw [up2_n z2, up2_n z1]; exact hI.1 id z1 z2, fun j hj => ?_⟩
        by_cases c : j = q
        · rw [c, up2_n (by decide), u_e, u_e, e1, e2]; exact ⟨rfl, rfl⟩
        · rw [up2_n (by decide), u_o c, u_o c, up2_n (by decide)]; exact hI.2 j (by omega)
      rcases cl0_v (hc q hqn) with ⟨z, e1, e2⟩ | ⟨d, d1, d2, d3, e1, e2⟩
      · exact nb_t z (allow_ok (l := 0) (h := 9) (by omega) (step 0 9 e1 e2))
      · refine nb_f d3 ?_
        have := step d d e1 e2
        rw [d2]
        exact allow_ok (by omega) this
  obtain ⟨n, hn⟩ := key
  exact ⟨n, hn _ ⟨fun _ _ _ => rfl, fun j hj => by omega⟩⟩
theorem s_filled {a b d e f g : Int32} (hK : ∀ μ' ν' τ', Rel μ' ν' → K μ' ν' τ') (hr : Rel μ ν) (hQ : ∀ x μ1, vX7_filled a b d e f g ν τ (EnL K x μ1) → QL x μ1) : vX6_filled a b d e f g μ QL := by
  have hr0 := hr.flt 0
  have h0 : up2 μ 31 10 0 31 10 = 0 := u_e
  unfold vX6_filled vX6_isSheet
  unfold vX7_filled vX7_isSheet at hQ
  generalize up2 μ 31 10 0 = μ0 at *
  generalize up2 ν 32 0 0 = ν0 at *
  rcases wi_cases a 0 3 (by omega) with ⟨k, -, hk, rfl⟩ | ho
  · have hin : vp_in (nI k) 4 := inI (by omega) (by omega)
    refine xw_in (l := 0) (u := 3) (by omega) hk (by omega) ⟨nar1, br_f (by decide) ?_⟩
    unfold vX6_isSort
    unfold vX7_isSort at hQ
    rcases wi_cases b 0 2 (by omega) with ⟨s, -, hs, rfl⟩ | ho
    · refine xw_in (l := 0) (u := 2) (by omega) hs (by omega) ⟨nar1, br_f (by decide) ?_⟩
      rcases wi_cases f 0 9 (by omega) with ⟨w, -, hw, rfl⟩ | ho
      · refine xw_in (l := 0) (u := 9) (by omega) hw (by omega) (nb_f (by decide) ⟨hin, ?_⟩)
        have hM : ∀ x μ1, _ := fun x μ1 z => hQ x μ1 (mw_in (l := 0) (u := 3) (by omega) hk (by omega) ⟨nar1, br_f (by decide) (mw_in (l := 0) (u := 2) (by omega) hs (by omega) ⟨nar1, br_f (by decide) (mw_in (l := 0) (u := 9) (by omega) hw (by omega) (nb_f (by decide) z))⟩)⟩)
        rw [cl (by omega)]
        obtain ⟨ft, hf4, fx, fm, f0⟩ := fc_ok hr0.2.2.2.2.2.2.2 (k := k) (by omega) (nI s) d e
        refine fx _ ?_
        by_cases hf : ft = 0
        · obtain ⟨ln, s', ii, nn, sh, rfl, rfl, hle, -⟩ := f0 hf
          obtain ⟨g1, g2, g3, g4, g5, g6, g7⟩ := id sh
          have hM2 : ∀ x μ1, _ := fun x μ1 z => hM x μ1 (fm τ _ (br_t (by rw [hf]; rfl) z))
          rw [hf, show nI 0 = 0 from rfl, up2_id h0, h0]
          refine nb_t rfl ?_
          by_cases h18 : 1 ≤ nn ∧ nn ≤ 8
          · refine xw_in (l := 1) (u := 8) h18.1 h18.2 (by omega) (br_f (by decide) ⟨hin, ?_⟩)
            have hM3 : ∀ x μ1, _ := fun x μ1 z => hM2 x μ1 (mw_in (l := 1) (u := 8) h18.1 h18.2 (by omega) (nb_f (by decide) z))
            have hc : ∀ j, ii + j < 40 → μ0 (14 + k) (ii + j) = ν0 35 (40 * k + ii + j) := fun j hj => by rw [g7 _ hj, Nat.add_assoc]
            sorry
          · have ho : (nI nn).toInt < ((1 : Nat) : Int) ∨ ((8 : Nat) : Int) < (nI nn).toInt := by rw [nI_int (by omega)]; omega
            exact xw_out (l := 1) (u := 8) (by omega) (by omega) ho (br_t rfl (hM2 _ _ (mw_out (l := 1) (u := 8) (by omega) (by omega) ho (nb_t rfl (enL hK hr0)))))
        · have hfz : ¬ nI ft = 0 := ne0 (by omega) (by omega)
          rw [u_e]
          refine nb_f hfz (hM _ _ (fm τ _ (br_f hfz ?_)))
          unfold vX7_lost
          exact enL hK (hr0.flt _)
      · exact xw_out (l := 0) (u := 9) (by omega) (by omega) ho (nb_t rfl (hQ _ _ (mw_in (l := 0) (u := 3) (by omega) hk (by omega) ⟨nar1, br_f (by decide) (mw_in (l := 0) (u := 2) (by omega) hs (by omega) ⟨nar1, br_f (by decide) (mw_out (l := 0) (u := 9) (by omega) (by omega) ho (nb_t rfl (enL hK hr0)))⟩)⟩)))
    · exact xw_out (l := 0) (u := 2) (by omega) (by omega) ho ⟨nar0, br_t rfl (hQ _ _ (mw_in (l := 0) (u := 3) (by omega) hk (by omega) ⟨nar1, br_f (by decide) (mw_out (l := 0) (u := 2) (by omega) (by omega) ho ⟨nar0, br_t rfl (enL hK hr0)⟩)⟩))⟩
  · exact xw_out (l := 0) (u := 3) (by omega) (by omega) ho ⟨nar0, br_t rfl (hQ _ _ (mw_out (l := 0) (u := 3) (by omega) (by omega) ho ⟨nar0, br_t rfl (enL hK hr0)⟩))⟩
end S13
