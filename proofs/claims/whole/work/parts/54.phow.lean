/-! how many -/
theorem ten8 {r : Nat} (h : r ≤ 8) : 10 ^ r ≤ 100000000 := Nat.pow_le_pow_right (n := 10) (by omega) h
theorem mayThrow_ok {ν : gM} {n : Nat} {lo hi : Nat → Nat} (h8 : n ≤ 8) (ho : ∀ i, i < n → (ν 43 i = -1 ∧ lo i = 0 ∧ ν 32 16 = nI (hi i) ∧ hi i ≤ 9) ∨ (∃ x, x ≤ 9 ∧ ν 43 i = nI x ∧ lo i = x ∧ hi i = x)) (pl t : Nat) (τ : gJ) (Q : Int32 → gM → gJ → Prop) (hpl : pl < n) (ht : t < 10) (hq : Q (b01 (alw lo hi pl t)) ν τ) : vX7_mayThrow (nI pl) (nI t) ν τ Q := by
  unfold vX7_mayThrow
  rw [cl (by omega)]
  refine ⟨inI (by omega) (by omega), ?_⟩
  rcases ho pl hpl with ⟨a1, a2, a3, a4⟩ | ⟨x, x1, x2, x3, x4⟩
  · rw [a1, a3]
    refine nb_t rfl ?_
    by_cases c : t ≤ hi pl
    · rw [b01_t (by simp [alw, a2, c])] at hq
      exact br_f (ltF c (by omega)) hq
    · rw [b01_f (by simp [alw, c])] at hq
      exact br_t (ltT (by omega) (by omega)) hq
  · rw [x2]
    refine nb_f (m1_ne (by omega)) ⟨inI (by omega) (by omega), ?_⟩
    by_cases c : x = t
    · rw [b01_t (by simp [alw, x3, x4, c])] at hq
      exact nb_t (by rw [c]) hq
    · rw [b01_f (by simp only [alw, x3, x4, Bool.and_eq_false_iff, decide_eq_false_iff_not]; omega)] at hq
      exact nb_f (neF c (by omega) (by omega)) hq
theorem pc0 : pcN 0 = 0 := rfl
section S12
variable {K : gM → gM → gJ → Prop} {μ ν : gM} {τ : gJ} {QL : Int64 → gM → Prop}
theorem allow_ok {i l h : Nat} {Q : gM → Prop} (hi : i < 8) (hq : Q (up2 (up2 μ 26 i (nI l)) 27 i (nI h))) : vX0_allow (nI i) (nI l) (nI h) μ Q := by
  unfold vX0_allow
  refine xw_in (l := 0) (u := 7) (by omega) (by omega) (by omega) (br_f (by decide) ⟨inI hi (by omega), inI hi (by omega), ?_⟩)
  rw [cl (by omega)]; exact hq
theorem s_howMany {a b d : Int32} (hK : ∀ μ' ν' τ', Rel μ' ν' → K μ' ν' τ') (hr : Rel μ ν) (hQ : ∀ x μ1, vX7_howMany a b d ν τ (EnL K x μ1) → QL x μ1) : vX6_howMany a b d μ QL := by
  unfold vX6_howMany
  unfold vX7_howMany at hQ
  rcases wi_cases a 1 8 (by omega) with ⟨n, hn, h8, rfl⟩ | ho
  · refine xw_in (l := 1) (u := 8) hn h8 (by omega) (br_f (by decide) ?_)
    rcases wi_cases b 0 9 (by omega) with ⟨w, -, hw, rfl⟩ | ho
    · refine xw_in (l := 0) (u := 9) (by omega) hw (by omega) (br_f (by decide) ?_)
      rcases wi_cases d 0 9 (by omega) with ⟨top, -, h9, rfl⟩ | ho
      · refine xw_in (l := 0) (u := 9) (by omega) h9 (by omega) (nb_f (by decide) ?_)
        have hM : ∀ x μ1, _ := fun x μ1 z => hQ x μ1 (mw_in (l := 1) (u := 8) hn h8 (by omega) (br_f (by decide) (mw_in (l := 0) (u := 9) (by omega) hw (by omega) (br_f (by decide) (mw_in (l := 0) (u := 9) (by omega) h9 (by omega) (nb_f (by decide) z))))))
        have cle := CC_le (al := alw (fun _ => 0) (fun _ => top)) (n := n) n 0 w
        have t8 := ten8 h8
        have key : ∃ m, ∀ μ', ((∀ id, id ≠ 26 → id ≠ 27 → μ' id = μ id) ∧ ∀ j, j < 0 → μ' 26 j = nI 0 ∧ μ' 27 j = nI top) → vX6_howMany_37 (nI n) (nI w) (nI top) QL m (nI 0) μ' := by
          refine ex_up (fun m i => ∀ μ', ((∀ id, id ≠ 26 → id ≠ 27 → μ' id = μ id) ∧ ∀ j, j < i → μ' 26 j = nI 0 ∧ μ' 27 j = nI top) → vX6_howMany_37 (nI n) (nI w) (nI top) QL m (nI i) μ') n 0 (by omega) (fun m μ' hI => ?_) (fun m i _ hi ih μ' hI => ?_)
          · show vX6_howMany_37B _ _ _ QL _ _ μ'
            unfold vX6_howMany_37B
            refine br_t (leT (Nat.le_refl _) (by omega)) (count_ok (lo := fun _ => 0) (hi := fun _ => top) (by omega) hn hw (fun i hi => ⟨by omega, h9, (hI.2 i hi).1, (hI.2 i hi).2⟩) (fun μ2 hf _ => hM _ _ ?_))
            rw [nI_l (by omega)]
            have key2 : ∃ m, ∀ ν', ((∀ id, id ≠ 43 → ν' id = up2 (up2 ν 32 15 (nI n)) 32 16 (nI top) id) ∧ ∀ j, j < 0 → ν' 43 j = -1) → vX7_howMany_47 (nI n) (nI w) (nI top) (EnL K (lN (CC (alw (fun _ => 0) (fun _ => top)) n n 0 w)) μ2) m (nI 0) ν' τ := by
              refine ex_up (fun m i => ∀ ν', ((∀ id, id ≠ 43 → ν' id = up2 (up2 ν 32 15 (nI n)) 32 16 (nI top) id) ∧ ∀ j, j < i → ν' 43 j = -1) → vX7_howMany_47 (nI n) (nI w) (nI top) (EnL K (lN (CC (alw (fun _ => 0) (fun _ => top)) n n 0 w)) μ2) m (nI i) ν' τ) n 0 (by omega) (fun m ν' hJ => ?_) (fun m i _ hi ih ν' hJ => ?_)
              · have h15 : ν' 32 15 = nI n := by rw [hJ.1 32 (by decide), u_o (by decide), u_e]
                have h16 : ν' 32 16 = nI top := by rw [hJ.1 32 (by decide), u_e]
                show vX7_howMany_47B _ _ _ _ _ _ ν' τ
                unfold vX7_howMany_47B
                refine br_t (leT (Nat.le_refl _) (by omega)) (layFills_ok (al := alw (fun _ => 0) (fun _ => top)) (by omega) hn h15 (mayThrow_ok h8 (fun i hi => Or.inl ⟨hJ.2 i hi, rfl, h16, h9⟩)) (fun τ2 hE => ?_))
                have nw : n * w ≤ 72 := Nat.mul_le_mul h8 hw
                unfold vX7_spot
                dsimp only
                rw [pk_mul, show (0 : Int32) = nI 0 from rfl, ix81, Nat.mul_zero, Nat.zero_add, cl (by omega)]
                refine br_t (leT (b := 80) (by omega) (by omega)) ⟨inI (by omega) (by omega), ?_⟩
                have e := hE 0 (Nat.two_pow_pos n) (n * w) (by omega)
                rw [Nat.mul_zero, Nat.zero_add, pc0, Nat.sub_zero, CF_0 (by omega) hn] at e
                rw [e]
                refine enL hK (hr.fr (fun id hid => ?_) ⟨fun id hid => ?_, fun k k1 k2 => ?_⟩)
                · have hid : ¬ (id = 1 ∨ id = 6 ∨ id = 18 ∨ id = 19 ∨ id = 22 ∨ id = 23 ∨ id = 24 ∨ id = 25 ∨ id = 26 ∨ id = 27 ∨ id = 28) := hid
                  rw [hf id (by omega), hI.1 id (by omega) (by omega)]
                · have hid : ¬ (id = 32 ∨ id = 38 ∨ id = 39 ∨ id = 40 ∨ id = 43 ∨ id = 45) := hid
                  rw [hJ.1 id (by omega), up2_n (by omega), up2_n (by omega)]
                · rw [hJ.1 32 (by decide), u_o k2, u_o k1]
              · show vX7_howMany_47B _ _ _ _ _ _ ν' τ
                unfold vX7_howMany_47B
                rw [cl (by omega), nI_1]
                refine br_f (leF hi (by omega)) ⟨inI (by omega) (by omega), ih _ ⟨fun id z => by rw [up2_n z]; exact hJ.1 id z, fun j hj => ?_⟩⟩
                by_cases e : j = i
                · rw [e, u_e]
                · rw [u_o e]; exact hJ.2 j (by omega)
            obtain ⟨m, hm⟩ := key2
            exact ⟨m, hm _ ⟨fun _ _ => rfl, fun j hj => by omega⟩⟩
          · show vX6_howMany_37B _ _ _ QL _ _ μ'
            unfold vX6_howMany_37B
            rw [nI_1]
            refine br_f (leF hi (by omega)) (allow_ok (l := 0) (by omega) (ih _ ⟨fun id z1 z2 => by rw [up2_n z2, up2_n z1]; exact hI.1 id z1 z2, fun j hj => ?_⟩))
            by_cases e : j = i
            · rw [e, up2_n (by decide), u_e, u_e]; exact ⟨rfl, rfl⟩
            · rw [up2_n (by decide), u_o e, u_o e, up2_n (by decide)]; exact hI.2 j (by omega)
        obtain ⟨m, hm⟩ := key
        exact ⟨m, hm _ ⟨fun _ _ _ => rfl, fun j hj => by omega⟩⟩
      · exact xw_out (l := 0) (u := 9) (by omega) (by omega) ho (nb_t rfl (hQ _ _ (mw_in (l := 1) (u := 8) hn h8 (by omega) (br_f (by decide) (mw_in (l := 0) (u := 9) (by omega) hw (by omega) (br_f (by decide) (mw_out (l := 0) (u := 9) (by omega) (by omega) ho (nb_t rfl (enL hK hr)))))))))
    · exact xw_out (l := 0) (u := 9) (by omega) (by omega) ho (br_t rfl (hQ _ _ (mw_in (l := 1) (u := 8) hn h8 (by omega) (br_f (by decide) (mw_out (l := 0) (u := 9) (by omega) (by omega) ho (br_t rfl (enL hK hr)))))))
  · exact xw_out (l := 1) (u := 8) (by omega) (by omega) ho (br_t rfl (hQ _ _ (mw_out (l := 1) (u := 8) (by omega) (by omega) ho (br_t rfl (enL hK hr)))))
end S12
