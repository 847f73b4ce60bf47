/-! swaps, turns, images -/
theorem hz_i {p : Nat} {h : Nat → Nat} {k : Nat} (hk : k < p) : hz p h (k : Int) = h k := by rw [hz_nat, Nat.mod_eq_of_lt hk]
theorem setHeight_ok {μ : gM} {r p k : Nat} {v : Int32} {Q : gM → Prop} (h1 : μ r 1 = nI p) (h8 : p ≤ 8) (hk : k < p) (hq : Q (up2 μ (5 + r) k v)) : vX3_setHeight r (nI k) v μ Q := by
  unfold vX3_setHeight
  refine hb_in h1 h8 hk (br_f (by decide) ⟨inI (by omega) (by omega), ?_⟩)
  rw [cl (by omega)]; exact hq
theorem takeTurned_ok {μ : gM} {r r1 p a : Nat} {h : Nat → Nat} {Q : gM → Prop} (hR : IsRow μ r1 p h) (hp : 0 < p) (hr : r < 5) (hr1 : r1 < 5) (hne : r ≠ r1) (ha : a < 1000) (hq : ∀ μ', (∀ id, id ≠ r → id ≠ 5 + r → μ' id = μ id) → IsRow μ' r p (fun k => h ((k + a) % p)) → Q μ') : vX3_takeTurned r r1 (nI a) μ Q := by
  obtain ⟨h1, h8, hh⟩ := id hR
  unfold vX3_takeTurned
  rw [h1]
  have key : ∃ n, ∀ μ', ((∀ id, id ≠ 5 + r → μ' id = up2 μ r 1 (nI p) id) ∧ ∀ j, j < 0 → μ' (5 + r) j = nI (h ((j + a) % p))) → vX3_takeTurned_10 r r1 (nI a) Q n (nI 0) μ' := by
    refine ex_up (fun n k => ∀ μ', ((∀ id, id ≠ 5 + r → μ' id = up2 μ r 1 (nI p) id) ∧ ∀ j, j < k → μ' (5 + r) j = nI (h ((j + a) % p))) → vX3_takeTurned_10 r r1 (nI a) Q n (nI k) μ') p 0 (Nat.zero_le _) (fun n μ' hI => ?_) (fun n k _ hk ih μ' hI => ?_)
    · have e1 : μ' r 1 = nI p := by rw [hI.1 r (by omega), u_e]
      show vX3_takeTurned_10B r r1 _ Q _ _ μ'
      unfold vX3_takeTurned_10B
      rw [e1]
      exact br_t (leT (Nat.le_refl _) (by omega)) (hq μ' (fun id i1 i2 => by rw [hI.1 id i2, up2_n i1]) ⟨e1, h8, fun k hk => ⟨(hh _ (Nat.mod_lt _ hp)).1, hI.2 k hk⟩⟩)
    · have e1 : μ' r 1 = nI p := by rw [hI.1 r (by omega), u_e]
      show vX3_takeTurned_10B r r1 _ Q _ _ μ'
      unfold vX3_takeTurned_10B
      rw [e1, nI_add]
      have hR' : IsRow μ' r1 p h := hR.fr (by rw [hI.1 r1 (by omega), up2_n (by omega)]) (by rw [hI.1 (5 + r1) (by omega), up2_n (by omega)])
      refine br_f (leF hk (by omega)) (heightIn_ok hR' hp (setHeight_ok e1 h8 hk ?_))
      rw [nI_int (by omega), hz_nat, nI_1]
      refine ih _ ⟨fun id hid => by rw [up2_n hid]; exact hI.1 id hid, fun j hj => ?_⟩
      by_cases c : j = k
      · rw [c, u_e]
      · rw [u_o c]; exact hI.2 j (by omega)
  obtain ⟨n, hn⟩ := key
  exact ⟨n, hn _ ⟨fun _ _ => rfl, fun j hj => by omega⟩⟩
theorem IsRow.ext {μ : gM} {r p : Nat} {h g : Nat → Nat} (hR : IsRow μ r p h) (e : ∀ k, k < p → g k = h k) : IsRow μ r p g := ⟨hR.1, hR.2.1, fun k hk => by rw [e k hk]; exact hR.2.2 k hk⟩
theorem take_ok {μ : gM} {r r1 p : Nat} {h : Nat → Nat} {Q : gM → Prop} (hR : IsRow μ r1 p h) (hp : 0 < p) (hr : r < 5) (hr1 : r1 < 5) (hne : r ≠ r1) (hq : ∀ μ', (∀ id, id ≠ r → id ≠ 5 + r → μ' id = μ id) → IsRow μ' r p h → Q μ') : vX3_take r r1 μ Q := by
  unfold vX3_take
  exact takeTurned_ok (a := 0) hR hp hr hr1 hne (by omega) (fun μ' hf hR' => hq μ' hf (hR'.ext (fun k hk => by rw [Nat.add_zero, Nat.mod_eq_of_lt hk])))
section S6
variable {K : gM → gM → gJ → Prop} {μ ν : gM} {τ : gJ} {QX : Int32 → gM → Prop} {a b : Int32}
theorem s_swap (hK : ∀ μ' ν' τ', Rel μ' ν' → K μ' ν' τ') (hr : Rel μ ν) (hQ : ∀ x μ1, vX7_swap a b ν τ (En K x μ1) → QX x μ1) : vX6_swap a b μ QX := by
  obtain ⟨p, h, hx, hm, h0, hpos⟩ := hr.1
  have h8 := hx.2.1
  unfold vX6_swap
  unfold vX7_swap at hQ
  rcases bt_cases a h8 with ⟨i, hi, rfl⟩ | ho
  · refine hb_in hx.1 h8 hi (br_f (by decide) ?_)
    rcases bt_cases b h8 with ⟨j, hj, rfl⟩ | ho
    · refine hb_in hx.1 h8 hj (br_f (by decide) ?_)
      have hM : ∀ x μ1, _ := fun x μ1 z => hQ x μ1 (ib_in hm.1 h8 hi (br_f (by decide) (ib_in hm.1 h8 hj (br_f (by decide) z))))
      have i9 := (hx.2.2 i hi).1
      have j9 := (hx.2.2 j hj).1
      by_cases c : i < j
      · have c' := ltT c (show j < 1000000 by omega)
        have vi : vp_in (nI i) 8 := inI (by omega) (by omega)
        have vj : vp_in (nI j) 8 := inI (by omega) (by omega)
        rw [cl (by omega), cl (by omega), (hm.2.2 i hi).2, (hm.2.2 j hj).2] at hM
        refine br_t c' (heightIn_ok hx (by omega) (heightIn_ok hx (by omega) ?_))
        rw [nI_int (by omega), nI_int (by omega), hz_i hi, hz_i hj, pk_sub (by omega), nI_add]
        have eM : nI (h j) + nI j - nI i = nI (h j + (j - i)) := by rw [nI_add, pk_sub (by omega)]; exact nIe (by omega)
        by_cases c1 : j - i ≤ h i
        · have e1 : nI (h i) - nI (j - i) = nI (h i - (j - i)) := pk_sub (by omega)
          have e2 : nI (h i) - nI j + nI i = nI (h i - (j - i)) := by
            apply tI
            rw [add_i (by rw [sub_i (by rw [nI_int (by omega), nI_int (by omega)]; omega) (by rw [nI_int (by omega), nI_int (by omega)]; omega), nI_int (by omega), nI_int (by omega), nI_int (by omega)]; omega) (by rw [sub_i (by rw [nI_int (by omega), nI_int (by omega)]; omega) (by rw [nI_int (by omega), nI_int (by omega)]; omega), nI_int (by omega), nI_int (by omega), nI_int (by omega)]; omega), sub_i (by rw [nI_int (by omega), nI_int (by omega)]; omega) (by rw [nI_int (by omega), nI_int (by omega)]; omega), nI_int (by omega), nI_int (by omega), nI_int (by omega), nI_int (by omega)]
            omega
          rw [e1]
          rw [eM, e2] at hM
          have p1 : (0 : Int32) ≤ nI (h i - (j - i)) := leT (a := 0) (by omega) (by omega)
          by_cases c2 : h j + (j - i) ≤ 9
          · have c2' := leT (b := 9) c2 (by omega)
            refine br_t p1 (br_t c2' (setHeight_ok hx.1 h8 hi (setHeight_ok (by rw [up2_n (by omega)]; exact hx.1) h8 hj (hM _ _ (br_t c' ⟨vj, vi, br_t p1 (br_t c2' ⟨vi, vj, ?_⟩)⟩)))))
            refine en hK (hr.row (p := p) (h := fun k => if k = j then h i - (j - i) else if k = i then h j + (j - i) else h k) hx (by omega) (by omega) (fun id z1 z2 _ => by rw [up2_n (by omega), up2_n (by omega)]) (fun id z1 _ => by rw [up2_n z1, up2_n z1]) (fun k _ _ _ => by rw [up2_n (by decide), up2_n (by decide)]) ⟨by rw [up2_n (by omega), up2_n (by omega)]; exact hx.1, h8, fun k hk => ?_⟩ ⟨by rw [up2_n (by omega), up2_n (by omega)]; exact hm.1, h8, fun k hk => ?_⟩)
            · dsimp only
              rw [up2_at, up2_at]
              by_cases z : k = j
              · rw [if_pos z, if_pos z]; exact ⟨by omega, rfl⟩
              · rw [if_neg z, if_neg z]
                by_cases z : k = i
                · rw [if_pos z, if_pos z]; exact ⟨by omega, rfl⟩
                · rw [if_neg z, if_neg z]; exact hx.2.2 k hk
            · dsimp only
              rw [up2_at, up2_at]
              by_cases z : k = j
              · rw [if_pos z, if_pos z]; exact ⟨by omega, rfl⟩
              · rw [if_neg z, if_neg z]
                by_cases z : k = i
                · rw [if_pos z, if_pos z]; exact ⟨by omega, rfl⟩
                · rw [if_neg z, if_neg z]; exact hm.2.2 k hk
          · have c2' : ¬ nI (h j + (j - i)) ≤ 9 := leF (b := 9) (by omega) (by omega)
            exact br_t p1 (br_f c2' (hM _ _ (br_t c' ⟨vj, vi, br_t p1 (br_f c2' (en hK hr))⟩)))
        · have z0 : (0 : Int32).toInt = 0 := rfl
          have n1 : ¬ (0 : Int32) ≤ nI (h i) - nI (j - i) := by
            rw [le_i, sub_i (by rw [nI_int (by omega), nI_int (by omega)]; omega) (by rw [nI_int (by omega), nI_int (by omega)]; omega), nI_int (by omega), nI_int (by omega), z0]; omega
          have n2 : ¬ (0 : Int32) ≤ nI (h i) - nI j + nI i := by
            rw [le_i, add_i (by rw [sub_i (by rw [nI_int (by omega), nI_int (by omega)]; omega) (by rw [nI_int (by omega), nI_int (by omega)]; omega), nI_int (by omega), nI_int (by omega), nI_int (by omega)]; omega) (by rw [sub_i (by rw [nI_int (by omega), nI_int (by omega)]; omega) (by rw [nI_int (by omega), nI_int (by omega)]; omega), nI_int (by omega), nI_int (by omega), nI_int (by omega)]; omega), sub_i (by rw [nI_int (by omega), nI_int (by omega)]; omega) (by rw [nI_int (by omega), nI_int (by omega)]; omega), nI_int (by omega), nI_int (by omega), nI_int (by omega), z0]
            omega
          exact br_f n1 (hM _ _ (br_t c' ⟨vj, vi, br_f n2 (en hK hr)⟩))
      · have c' := ltF (show j ≤ i by omega) (show i < 1000000 by omega)
        exact br_f c' (hM _ _ (br_f c' (en hK hr)))
    · exact hb_out hx.1 h8 ho (br_t rfl (hQ _ _ (ib_in hm.1 h8 hi (br_f (by decide) (ib_out hm.1 h8 ho (br_t rfl (en hK hr)))))))
  · exact hb_out hx.1 h8 ho (br_t rfl (hQ _ _ (ib_out hm.1 h8 ho (br_t rfl (en hK hr)))))
theorem ix8 {k i : Nat} : (8 : Int32) * nI k + nI i = nI (8 * k + i) := by rw [show (8 : Int32) = nI 8 from rfl, pk_mul, nI_add]
theorem s_keep (hK : ∀ μ' ν' τ', Rel μ' ν' → K μ' ν' τ') (hr : Rel μ ν) (hQ : ∀ x μ1, vX7_keep a ν τ (En K x μ1) → QX x μ1) : vX6_keep a μ QX := by
  obtain ⟨p, h, hx, hm, h0, hpos⟩ := hr.1
  have h8 := hx.2.1
  unfold vX6_keep vX6_isImage
  unfold vX7_keep vX7_isImage at hQ
  rcases wi_cases a 0 2 (by omega) with ⟨i, -, hi, rfl⟩ | ho
  · have hin : vp_in (nI i) 3 := inI (by omega) (by omega)
    refine xw_in (l := 0) (u := 2) (by omega) hi (by omega) ⟨nar1, nb_f (by decide) ?_⟩
    by_cases hp : 0 < p
    · refine th_in hx.1 h8 hp (nb_f (by decide) ⟨hin, ?_⟩)
      rw [cl (by omega)]
      refine take_ok hx hp (by omega) (by omega) (by omega) (fun μ' hf hR => hQ _ _ (mw_in (l := 0) (u := 2) (by omega) hi (by omega) ⟨nar1, nb_f (by decide) (nb_f (by rw [hm.1]; exact ne0 hp (by omega)) ⟨hin, ?_⟩)⟩))
      rw [cl (by omega), hm.1]
      have key : ∃ n, ∀ ν', ((∀ id, id ≠ 42 → ν' id = up2 ν 41 i (nI p) id) ∧ (∀ k, ¬ (8 * i ≤ k ∧ k < 8 * i + 8) → ν' 42 k = ν 42 k) ∧ ∀ k, k < 0 → ν' 42 (8 * i + k) = nI (h k)) → vX7_keep_31 (nI i) (En K 1 μ') n (nI 0) ν' τ := by
        refine ex_up (fun n q => ∀ ν', ((∀ id, id ≠ 42 → ν' id = up2 ν 41 i (nI p) id) ∧ (∀ k, ¬ (8 * i ≤ k ∧ k < 8 * i + 8) → ν' 42 k = ν 42 k) ∧ ∀ k, k < q → ν' 42 (8 * i + k) = nI (h k)) → vX7_keep_31 (nI i) (En K 1 μ') n (nI q) ν' τ) p 0 (Nat.zero_le _) (fun n ν' hI => ?_) (fun n q _ hq ih ν' hI => ?_)
        · show vX7_keep_31B _ _ _ _ ν' τ
          unfold vX7_keep_31B
          rw [hI.1 32 (by decide), up2_n (by decide), hm.1]
          refine br_t (leT (Nat.le_refl _) (by omega)) (en hK (hr.img hx hp (i := i) (by omega) hf (fun id z1 z2 => by rw [hI.1 id z2, up2_n z1]) (fun k z => by rw [hI.1 41 (by decide), u_o z]) hI.2.1 hR (by rw [hI.1 41 (by decide), u_e]) hI.2.2))
        · show vX7_keep_31B _ _ _ _ ν' τ
          unfold vX7_keep_31B
          rw [hI.1 32 (by decide), up2_n (by decide), hm.1, hI.1 36 (by decide), up2_n (by decide), ix8, cl (by omega), cl (by omega), (hm.2.2 q hq).2, nI_1]
          refine br_f (leF hq (by omega)) ⟨inI (by omega) (by omega), inI (by omega) (by omega), ih _ ⟨fun id z => by rw [up2_n z]; exact hI.1 id z, fun k z => by rw [u_o (by omega)]; exact hI.2.1 k z, fun k hk => ?_⟩⟩
          by_cases c : k = q
          · rw [c, u_e]
          · rw [u_o (by omega)]; exact hI.2.2 k (by omega)
      obtain ⟨n, hn⟩ := key
      exact ⟨n, hn _ ⟨fun _ _ => rfl, fun k _ => by rw [up2_n (by decide)], fun k hk => by omega⟩⟩
    · have e0 : p = 0 := by omega
      exact th_out hx.1 e0 (nb_t rfl (hQ _ _ (mw_in (l := 0) (u := 2) (by omega) hi (by omega) ⟨nar1, nb_f (by decide) (nb_t (by rw [hm.1, e0]; rfl) (en hK hr))⟩)))
  · exact xw_out (l := 0) (u := 2) (by omega) (by omega) ho ⟨nar0, nb_t rfl (hQ _ _ (mw_out (l := 0) (u := 2) (by omega) (by omega) ho ⟨nar0, nb_t rfl (en hK hr)⟩))⟩
theorem s_back (hK : ∀ μ' ν' τ', Rel μ' ν' → K μ' ν' τ') (hr : Rel μ ν) (hQ : ∀ x μ1, vX7_back a ν τ (En K x μ1) → QX x μ1) : vX6_back a μ QX := by
  obtain ⟨p0, h0, hx0, hm0, z0, -⟩ := hr.1
  unfold vX6_back vX6_isImage
  unfold vX7_back vX7_isImage at hQ
  rcases wi_cases a 0 2 (by omega) with ⟨i, -, hi, rfl⟩ | ho
  · have hin : vp_in (nI i) 3 := inI (by omega) (by omega)
    obtain ⟨p, h, hx, hm, hm2⟩ := hr.2.1 i (by omega)
    have h8 := hx.2.1
    refine xw_in (l := 0) (u := 2) (by omega) hi (by omega) ⟨nar1, nb_f (by decide) ⟨hin, ?_⟩⟩
    rw [cl (by omega)]
    have hM : ∀ x μ1, _ := fun x μ1 z => hQ x μ1 (mw_in (l := 0) (u := 2) (by omega) hi (by omega) ⟨nar1, nb_f (by decide) ⟨hin, z⟩⟩)
    rw [cl (by omega), hm] at hM
    by_cases hp : 0 < p
    · have hp0 : 0 < p0 := by
        apply Classical.byContradiction
        intro z
        have := (z0 (by omega)).2 i (by omega)
        rw [hm] at this
        exact ne0 hp (by omega) this
      refine th_in hx.1 h8 hp (nb_f (by decide) ⟨hin, ?_⟩)
      refine take_ok hx hp (by omega) (by omega) (by omega) (fun μ' hf hR => hM _ _ (nb_f (ne0 hp (by omega)) ⟨hin, ?_⟩))
      have key : ∃ n, ∀ ν', ((∀ id, id ≠ 36 → ν' id = up2 ν 32 5 (nI p) id) ∧ ∀ k, k < 0 → ν' 36 k = nI (h k)) → vX7_back_33 (nI i) (En K (μ' 0 1) μ') n (nI 0) ν' τ := by
        refine ex_up (fun n q => ∀ ν', ((∀ id, id ≠ 36 → ν' id = up2 ν 32 5 (nI p) id) ∧ ∀ k, k < q → ν' 36 k = nI (h k)) → vX7_back_33 (nI i) (En K (μ' 0 1) μ') n (nI q) ν' τ) p 0 (Nat.zero_le _) (fun n ν' hI => ?_) (fun n q _ hq ih ν' hI => ?_)
        · have e5 : ν' 32 5 = nI p := by rw [hI.1 32 (by decide), u_e]
          show vX7_back_33B _ _ _ _ ν' τ
          unfold vX7_back_33B
          rw [e5, hR.1]
          exact br_t (leT (Nat.le_refl _) (by omega)) (en hK (hr.row hx0 hp0 hp (fun id z1 z2 _ => hf id z1 z2) (fun id z1 z2 => by rw [hI.1 id z1, up2_n (fun e => z2 (by unfold scM; omega))]) (fun k z1 z2 z3 => by rw [hI.1 32 (by decide), u_o z1]) hR ⟨e5, h8, fun k hk => ⟨(hx.2.2 k hk).1, hI.2 k hk⟩⟩))
        · have e5 : ν' 32 5 = nI p := by rw [hI.1 32 (by decide), u_e]
          show vX7_back_33B _ _ _ _ ν' τ
          unfold vX7_back_33B
          rw [e5, hI.1 42 (by decide), up2_n (by decide), ix8, cl (by omega), cl (by omega), hm2 q hq, nI_1]
          refine br_f (leF hq (by omega)) ⟨inI (by omega) (by omega), inI (by omega) (by omega), ih _ ⟨fun id z => by rw [up2_n z]; exact hI.1 id z, fun k hk => ?_⟩⟩
          by_cases c : k = q
          · rw [c, u_e]
          · rw [u_o (by omega)]; exact hI.2 k (by omega)
      obtain ⟨n, hn⟩ := key
      exact ⟨n, hn _ ⟨fun _ _ => rfl, fun k hk => by omega⟩⟩
    · have e0 : p = 0 := by omega
      refine th_out hx.1 e0 (nb_t rfl (hM _ _ (nb_t (by rw [e0]; rfl) (en hK hr))))
  · exact xw_out (l := 0) (u := 2) (by omega) (by omega) ho ⟨nar0, nb_t rfl (hQ _ _ (mw_out (l := 0) (u := 2) (by omega) (by omega) ho ⟨nar0, nb_t rfl (en hK hr)⟩))⟩
/-- the reference's way to take the new row over -/
theorem takeNext_ok {p : Nat} {g : Nat → Nat} {Q : gM → gJ → Prop} (h1 : ν 32 5 = nI p) (h8 : p ≤ 8) (hg : ∀ k, k < p → g k ≤ 9 ∧ ν 40 k = nI (g k)) (hq : ∀ ν', (∀ id, id ≠ 36 → ν' id = ν id) → MRow ν' p g → Q ν' τ) : vX7_takeNext ν τ Q := by
  have key : ∃ n, ∀ ν', ((∀ id, id ≠ 36 → ν' id = ν id) ∧ ∀ k, k < 0 → ν' 36 k = nI (g k)) → vX7_takeNext_2 Q n (nI 0) ν' τ := by
    refine ex_up (fun n q => ∀ ν', ((∀ id, id ≠ 36 → ν' id = ν id) ∧ ∀ k, k < q → ν' 36 k = nI (g k)) → vX7_takeNext_2 Q n (nI q) ν' τ) p 0 (Nat.zero_le _) (fun n ν' hI => ?_) (fun n q _ hq' ih ν' hI => ?_)
    · have e5 : ν' 32 5 = nI p := by rw [hI.1 32 (by decide), h1]
      show vX7_takeNext_2B _ _ _ ν' τ
      unfold vX7_takeNext_2B
      rw [e5]
      exact br_t (leT (Nat.le_refl _) (by omega)) (hq ν' hI.1 ⟨e5, h8, fun k hk => ⟨(hg k hk).1, hI.2 k hk⟩⟩)
    · have e5 : ν' 32 5 = nI p := by rw [hI.1 32 (by decide), h1]
      show vX7_takeNext_2B _ _ _ ν' τ
      unfold vX7_takeNext_2B
      rw [e5, hI.1 40 (by decide), cl (by omega), (hg q hq').2, nI_1]
      refine br_f (leF hq' (by omega)) ⟨inI (by omega) (by omega), inI (by omega) (by omega), ih _ ⟨fun id z => by rw [up2_n z]; exact hI.1 id z, fun k hk => ?_⟩⟩
      by_cases c : k = q
      · rw [c, u_e]
      · rw [u_o (by omega)]; exact hI.2 k (by omega)
  obtain ⟨n, hn⟩ := key
  exact ⟨n, hn _ ⟨fun _ _ => rfl, fun k hk => by omega⟩⟩
theorem s_turn (hK : ∀ μ' ν' τ', Rel μ' ν' → K μ' ν' τ') (hr : Rel μ ν) (hQ : ∀ x μ1, vX7_turn a ν τ (En K x μ1) → QX x μ1) : vX6_turn a μ QX := by
  obtain ⟨p, h, hx, hm, h0, hpos⟩ := hr.1
  have h8 := hx.2.1
  unfold vX6_turn
  unfold vX7_turn at hQ
  rcases wi_cases a 0 7 (by omega) with ⟨i, -, hi, rfl⟩ | ho
  · refine xw_in (l := 0) (u := 7) (by omega) hi (by omega) (nb_f (by decide) ?_)
    by_cases hp : 0 < p
    · refine th_in hx.1 h8 hp (nb_f (by decide) (take_ok hx hp (by omega) (by omega) (by omega) (fun μ1 hf1 hR1 => takeTurned_ok hR1 hp (by omega) (by omega) (by omega) (by omega) (fun μ2 hf2 hR2 => heightIn_ok hR2 hp ?_))))
      rw [show (0 : Int32).toInt = ((0 : Nat) : Int) from rfl, hz_i hp]
      refine hQ _ _ (mw_in (l := 0) (u := 7) (by omega) hi (by omega) (nb_f (by decide) (nb_f (by rw [hm.1]; exact ne0 hp (by omega)) ?_)))
      have key : ∃ n, ∀ ν', ((∀ id, id ≠ 40 → ν' id = ν id) ∧ ∀ k, k < 0 → ν' 40 k = nI (h ((k + i) % p))) → vX7_turn_25 (nI i) (En K (nI (h ((0 + i) % p))) μ2) n (nI 0) ν' τ := by
        refine ex_up (fun n q => ∀ ν', ((∀ id, id ≠ 40 → ν' id = ν id) ∧ ∀ k, k < q → ν' 40 k = nI (h ((k + i) % p))) → vX7_turn_25 (nI i) (En K (nI (h ((0 + i) % p))) μ2) n (nI q) ν' τ) p 0 (Nat.zero_le _) (fun n ν' hI => ?_) (fun n q _ hq ih ν' hI => ?_)
        · have e5 : ν' 32 5 = nI p := by rw [hI.1 32 (by decide), hm.1]
          show vX7_turn_25B _ _ _ _ ν' τ
          unfold vX7_turn_25B
          rw [e5]
          refine br_t (leT (Nat.le_refl _) (by omega)) (takeNext_ok (g := fun k => h ((k + i) % p)) e5 h8 (fun k hk => ⟨(hx.2.2 _ (Nat.mod_lt _ hp)).1, hI.2 k hk⟩) (fun ν2 hf hM2 => ⟨inI (a := 0) (by omega) (by omega), ?_⟩))
          rw [show (0 : Int32).toNatClampNeg = 0 from rfl, (hM2.2.2 0 hp).2]
          refine en hK (hr.row hx hp hp (fun id z1 z2 z3 => ?_) (fun id z1 z2 => ?_) (fun k _ _ _ => ?_) hR2 hM2)
          · have z3 : ¬ (id = 1 ∨ id = 6 ∨ id = 18 ∨ id = 19 ∨ id = 22 ∨ id = 23 ∨ id = 24 ∨ id = 25 ∨ id = 26 ∨ id = 27 ∨ id = 28) := z3
            rw [hf2 id (by omega) (by omega), hf1 id (by omega) (by omega)]
          · have z2 : ¬ (id = 32 ∨ id = 38 ∨ id = 39 ∨ id = 40 ∨ id = 43 ∨ id = 45) := z2
            rw [hf id z1, hI.1 id (by omega)]
          · rw [hf 32 (by decide), hI.1 32 (by decide)]
        · have e5 : ν' 32 5 = nI p := by rw [hI.1 32 (by decide), hm.1]
          have hmod := Nat.mod_lt (q + i) hp
          show vX7_turn_25B _ _ _ _ ν' τ
          unfold vX7_turn_25B
          rw [e5, hI.1 36 (by decide), nI_add, rem_nat (by omega) hp (by omega), cl (by omega), cl (by omega), (hm.2.2 _ hmod).2, nI_1]
          refine br_f (leF hq (by omega)) ⟨ne0 hp (by omega), inI (by omega) (by omega), inI (by omega) (by omega), ih _ ⟨fun id z => by rw [up2_n z]; exact hI.1 id z, fun k hk => ?_⟩⟩
          by_cases c : k = q
          · rw [c, u_e]
          · rw [u_o (by omega)]; exact hI.2 k (by omega)
      obtain ⟨n, hn⟩ := key
      exact ⟨n, hn _ ⟨fun _ _ => rfl, fun k hk => by omega⟩⟩
    · have e0 : p = 0 := by omega
      exact th_out hx.1 e0 (nb_t rfl (hQ _ _ (mw_in (l := 0) (u := 7) (by omega) hi (by omega) (nb_f (by decide) (nb_t (by rw [hm.1, e0]; rfl) (en hK hr))))))
  · exact xw_out (l := 0) (u := 7) (by omega) (by omega) ho (nb_t rfl (hQ _ _ (mw_out (l := 0) (u := 7) (by omega) (by omega) ho (nb_t rfl (en hK hr)))))
end S6
