/-! the class's queue -/
def upn (f : Nat → Nat) (i v : Nat) : Nat → Nat := fun x => if x = i then v else f x
theorem upn_e {f : Nat → Nat} {i v : Nat} : upn f i v i = v := if_pos rfl
theorem upn_o {f : Nat → Nat} {i v x : Nat} (h : x ≠ i) : upn f i v x = f x := if_neg h
def XQ (μ0 : gM) (top to i c : Nat) (q d : Nat → Nat) (μ : gM) : Prop :=
  (∀ id, id ≠ 22 → id ≠ 23 → id ≠ 24 → μ id = μ0 id) ∧ (μ 22 2 = nI c ∧ c ≤ 512 ∧ 0 < c ∧ q 0 = to ∧ d 0 = 0) ∧
  (∀ j, j < c → q j < 512 ∧ μ 24 j = nI (q j) ∧ μ 23 (q j) = nI (d j) ∧ d j ≤ j) ∧
  (∀ j k, j < k → k < c → q j ≠ q k ∧ d j ≤ d k) ∧
  (∀ s, s < 512 → μ 23 s = -9 ∨ ∃ j, j < c ∧ q j = s) ∧
  (∀ j, j < c → (d j = 0 → q j = to) ∧ (0 < d j → ∃ k, k < c ∧ d k + 1 = d j ∧ Ed top (q j) (q k))) ∧
  (i < c → ∀ j, j < c → d j ≤ d i + 1) ∧
  (∀ j, j < i → j < c → ∀ s, s < 512 → Ed top s (q j) → ∃ k, k < c ∧ q k = s ∧ d k ≤ d j + 1)
theorem xq_ft {μ0 : gM} {top to c : Nat} {q d : Nat → Nat} {μ : gM} (h : XQ μ0 top to c c q d μ) : FT top to (μ 23) := by
  obtain ⟨-, ⟨-, c5, c0, q0, d0⟩, h2, h3, h4, h5, -, h7⟩ := h
  refine ⟨?_, fun s hs => ?_, fun s s2 hs hs2 he m hm e => ?_⟩
  · rw [← q0, (h2 0 c0).2.2.1, d0]
  · rcases h4 s hs with z | ⟨j, j1, rfl⟩
    · exact Or.inl z
    · right
      obtain ⟨a1, a2, a3, a4⟩ := h2 j j1
      refine ⟨d j, by omega, a3, (h5 j j1).1, fun z => ?_⟩
      obtain ⟨k, k1, k2, k3⟩ := (h5 j j1).2 z
      exact ⟨q k, (h2 k k1).1, k3, by rw [(h2 k k1).2.2.1]; exact nIe (by omega)⟩
  · rcases h4 s2 hs2 with z | ⟨j, j1, rfl⟩
    · rw [z] at e; exact absurd e.symm (ne9 (by omega))
    · obtain ⟨a1, a2, a3, a4⟩ := h2 j j1
      have := nIj (by omega) (by omega) (a3.symm.trans e)
      obtain ⟨k, k1, k2, k3⟩ := h7 j j1 j1 s hs he
      exact ⟨d k, by omega, by rw [← k2]; exact (h2 k k1).2.2.1⟩
theorem reach_ok {μ0 : gM} {top to i c s : Nat} {q d : Nat → Nat} {μ : gM} {Q : gM → Prop} (h : XQ μ0 top to i c q d μ) (hi : i < c) (hs2 : s < 100000) (he : s < 512 → Ed top s (q i)) (hq : ∀ c' q' d' μ', XQ μ0 top to i c' q' d' μ' → c ≤ c' → (∀ j, j < c → q' j = q j ∧ d' j = d j) → (s < 512 → ∃ k, k < c' ∧ q' k = s ∧ d' k ≤ d i + 1) → Q μ') : vX5_reach (nI s) (nI (d i) + 1) μ Q := by
  obtain ⟨h0, ⟨c1, c5, c0, q0, d0⟩, h2, h3, h4, h5, h6, h7⟩ := id h
  unfold vX5_reach
  by_cases hs : s < 512
  · refine xw_in (l := 0) (u := 511) (by omega) (by omega) (by omega) (br_f (by decide) ⟨inI hs (by omega), ?_⟩)
    rw [cl (by omega)]
    rcases h4 s hs with z | ⟨j, j1, j2⟩
    · refine nb_t z ?_
      have hc : c < 512 := by
        apply Classical.byContradiction
        intro hc
        obtain ⟨a, b, ab, bn, e⟩ := fb_twice (m := 512) (n := c + 1) (f := fun j => if j = c then s else q j) (fun j hj => by
          by_cases w : j = c
          · rw [if_pos w]; exact hs
          · rw [if_neg w]; exact (h2 j (by omega)).1) (by omega)
        rw [if_neg (by omega)] at e
        by_cases w : b = c
        · rw [if_pos w] at e
          have := (h2 a (by omega)).2.2.1
          rw [e, z] at this
          exact ne9 (by have := (h2 a (by omega)).2.2.2; omega) this.symm
        · rw [if_neg w] at e
          exact (h3 a b ab (by omega)).1 e
      rw [c1, up2_n (by decide), c1, up2_n (by decide), up2_n (by decide), c1, nI_1, cl (by omega)]
      refine br_f (leF (a := 512) hc (by omega)) ⟨inI hs (by omega), inI hc (by omega), ?_⟩
      have di := (h2 i hi).2.2.2
      rw [nI_1]
      refine hq (c + 1) (upn q c s) (upn d c (d i + 1)) _ ⟨fun id z1 z2 z3 => ?_, ⟨u_e, by omega, by omega, by rw [upn_o (by omega)]; exact q0, by rw [upn_o (by omega)]; exact d0⟩, fun j hj => ?_, fun j k jk kc => ?_, fun x hx => ?_, fun j hj => ?_, fun _ j hj => ?_, fun j ji jc x hx ex => ?_⟩ (by omega) (fun j hj => ⟨upn_o (by omega), upn_o (by omega)⟩) (fun _ => ⟨c, by omega, upn_e, by rw [upn_e]; exact Nat.le_refl _⟩)
      · rw [up2_n z1, up2_n z3, up2_n z2]; exact h0 id z1 z2 z3
      · by_cases w : j = c
        · rw [w, upn_e, upn_e, up2_n (by decide), u_e, up2_n (by decide), up2_n (by decide), u_e]
          exact ⟨hs, rfl, rfl, by omega⟩
        · obtain ⟨a1, a2, a3, a4⟩ := h2 j (by omega)
          have ne : q j ≠ s := fun e => by rw [e, z] at a3; exact ne9 (by omega) a3.symm
          rw [upn_o w, upn_o w, up2_n (by decide), u_o w, up2_n (by decide), up2_n (by decide), up2_n (by decide), u_o ne]
          exact ⟨a1, a2, a3, a4⟩
      · obtain ⟨a1, a2, a3, a4⟩ := h2 j (by omega)
        rw [upn_o (show j ≠ c by omega), upn_o (show j ≠ c by omega)]
        by_cases w : k = c
        · rw [w, upn_e, upn_e]
          exact ⟨fun e => by rw [e, z] at a3; exact ne9 (by omega) a3.symm, h6 hi j (by omega)⟩
        · rw [upn_o w, upn_o w]; exact h3 j k jk (by omega)
      · by_cases w : x = s
        · right; exact ⟨c, by omega, by rw [upn_e]; exact w.symm⟩
        · rw [up2_n (by decide), up2_n (by decide), u_o w]
          rcases h4 x hx with v | ⟨j, j1, j2⟩
          · exact Or.inl v
          · right; exact ⟨j, by omega, by rw [upn_o (by omega)]; exact j2⟩
      · by_cases w : j = c
        · rw [w, upn_e, upn_e]
          exact ⟨fun e => by omega, fun _ => ⟨i, by omega, by rw [upn_o (by omega)], by rw [upn_o (by omega)]; exact he hs⟩⟩
        · rw [upn_o w, upn_o w]
          obtain ⟨b1, b2⟩ := h5 j (by omega)
          refine ⟨b1, fun v => ?_⟩
          obtain ⟨k, k1, k2, k3⟩ := b2 v
          exact ⟨k, by omega, by rw [upn_o (by omega)]; exact k2, by rw [upn_o (by omega)]; exact k3⟩
      · rw [upn_o (show i ≠ c by omega)]
        by_cases w : j = c
        · rw [w, upn_e]; exact Nat.le_refl _
        · rw [upn_o w]; exact h6 hi j (by omega)
      · rw [upn_o (show j ≠ c by omega)] at ex
        obtain ⟨k, k1, k2, k3⟩ := h7 j ji (by omega) x hx ex
        exact ⟨k, by omega, by rw [upn_o (by omega)]; exact k2, by rw [upn_o (show k ≠ c by omega), upn_o (show j ≠ c by omega)]; exact k3⟩
    · have a3 := (h2 j j1).2.2
      rw [j2] at a3
      refine nb_f (fun e => ?_) (hq c q d μ h (Nat.le_refl _) (fun _ _ => ⟨rfl, rfl⟩) (fun _ => ⟨j, j1, j2, h6 hi j j1⟩))
      rw [a3.1] at e; exact ne9 (by omega) e
  · refine xw_out (l := 0) (u := 511) (by omega) (by omega) (Or.inr (by rw [nI_int (by omega)]; omega)) (br_t rfl (hq c q d μ h (Nat.le_refl _) (fun _ _ => ⟨rfl, rfl⟩) (fun z => absurd z hs)))
theorem beatsFrom_ok {μ : gM} {s : Nat} {Q : Int32 → gM → Prop} (hs : s < 512) (hq : Q (μ 23 s) μ) : vX5_beatsFrom (nI s) μ Q := by
  unfold vX5_beatsFrom
  refine xw_in (l := 0) (u := 511) (by omega) (by omega) (by omega) (br_f (by decide) ⟨inI hs (by omega), ?_⟩)
  rw [cl (by omega)]; exact hq
theorem measure_ok {μ : gM} {top to : Nat} {Q : gM → Prop} (h9 : top ≤ 9) (ht : to < 512) (hq : ∀ μ', (∀ id, id ≠ 22 → id ≠ 23 → id ≠ 24 → μ' id = μ id) → FT top to (μ' 23) → Q μ') : vX5_measure (nI to) (nI top) μ Q := by
  unfold vX5_measure
  refine fill_ok (by omega) (fun μ1 hf hz => ?_)
  have first : ∀ Q : gM → Prop, (∀ μ', XQ μ top to 0 1 (fun _ => to) (fun _ => 0) μ' → Q μ') → vX5_reach (nI to) 0 (up2 μ1 22 2 0) Q := by
    intro Q hq
    unfold vX5_reach
    refine xw_in (l := 0) (u := 511) (by omega) (by omega) (by omega) (br_f (by decide) ⟨inI ht (by omega), ?_⟩)
    rw [cl (by omega), up2_n (by decide), hz to ht]
    refine nb_t rfl ?_
    rw [u_e, up2_n (by decide), u_e, up2_n (by decide), up2_n (by decide), u_e]
    refine br_f (by decide) ⟨inI ht (by omega), inI (a := 0) (by omega) (by omega), hq _ ⟨fun id z1 z2 z3 => ?_, ⟨u_e, by omega, by omega, rfl, rfl⟩, fun j hj => ?_, fun j k jk kc => by omega, fun s hs => ?_, fun j hj => ⟨fun _ => rfl, fun z => absurd z (Nat.lt_irrefl _)⟩, fun _ j hj => Nat.zero_le _, fun j hj => by omega⟩⟩
    · rw [up2_n z1, up2_n z3, up2_n z2, up2_n z1]; exact hf id z2
    · have e : j = 0 := by omega
      rw [e]
      refine ⟨ht, ?_, ?_, Nat.le_refl _⟩
      · rw [up2_n (by decide)]; exact u_e
      · rw [up2_n (by decide), up2_n (by decide), u_e]; rfl
    · by_cases w : s = to
      · right; exact ⟨0, by omega, w.symm⟩
      · left; rw [up2_n (by decide), up2_n (by decide), u_o w, up2_n (by decide)]; exact hz s hs
  refine first _ (fun μ2 hX2 => ?_)
  have key : ∃ n, ∀ c q d μ', XQ μ top to 0 c q d μ' → 0 ≤ c → vX5_measure_22 (nI to) (nI top) Q n (nI 0) μ' := by
    refine ex_up (fun n i => ∀ c q d μ', XQ μ top to i c q d μ' → i ≤ c → vX5_measure_22 (nI to) (nI top) Q n (nI i) μ') 512 0 (by omega) (fun n c q d μ' hX hic => ?_) (fun n i _ hi ih c q d μ' hX hic => ?_)
    · have c1 := hX.2.1
      have : c = 512 := by omega
      subst this
      show vX5_measure_22B _ _ Q _ _ μ'
      unfold vX5_measure_22B
      rw [c1.1]
      exact br_t (leT (Nat.le_refl _) (by omega)) (hq μ' hX.1 (xq_ft hX))
    · have c1 := hX.2.1
      show vX5_measure_22B _ _ Q _ _ μ'
      unfold vX5_measure_22B
      rw [c1.1]
      by_cases w : c = i
      · subst w
        exact br_t (leT (Nat.le_refl _) (by omega)) (hq μ' hX.1 (xq_ft hX))
      · have hic : i < c := by omega
        obtain ⟨a1, a2, a3, a4⟩ := hX.2.2.1 i hic
        refine br_f (leF hic (by omega)) (br_f (leF (a := 512) hi (by omega)) ⟨inI hi (by omega), ?_⟩)
        rw [cl (by omega), a2, nI_1]
        unfold vX5_reachFrom
        refine beatsFrom_ok a1 ?_
        rw [a3, i_shl _ a1]
        have hed : ∀ t, t ≤ top → okb (q i) t = true → prd (q i) t < 512 → Ed top (prd (q i) t) (q i) := fun t h1 h2 h3 => by
          obtain ⟨e1, e2⟩ := prd_all1 (q i) a1 t (by omega) h2 h3
          exact ⟨t, by omega, (may_top h9).mpr ⟨e1, h1⟩, e2⟩
        have hlt := prd_lt (q i) a1
        refine reach_ok hX hic (by omega) (fun z => hed 0 (by omega) rfl z) (fun c0 q0 d0 μ3 hX3 hc3 hs3 hr3 => ?_)
        have key2 : ∃ n2, ∀ c' q' d' μ', XQ μ top to i c' q' d' μ' → c ≤ c' → (∀ j, j < c → q' j = q j ∧ d' j = d j) → (∀ t, t < 1 → okb (q i) t = true → prd (q i) t < 512 → ∃ k, k < c' ∧ q' k = prd (q i) t ∧ d' k ≤ d i + 1) → vX5_reachFrom_23 (nI (q i)) (nI top) (fun μ248 => vX5_measure_22 (nI to) (nI top) Q n (nI (i + 1)) μ248) n2 (nI (2 * q i)) (nI (d i) + 1) (nI 1) μ' := by
          refine ex_up (fun n2 t => ∀ c' q' d' μ', XQ μ top to i c' q' d' μ' → c ≤ c' → (∀ j, j < c → q' j = q j ∧ d' j = d j) → (∀ t', t' < t → okb (q i) t' = true → prd (q i) t' < 512 → ∃ k, k < c' ∧ q' k = prd (q i) t' ∧ d' k ≤ d i + 1) → vX5_reachFrom_23 (nI (q i)) (nI top) (fun μ248 => vX5_measure_22 (nI to) (nI top) Q n (nI (i + 1)) μ248) n2 (nI (2 * q i)) (nI (d i) + 1) (nI t) μ') (top + 1) 1 (by omega) (fun n2 c' q' d' μ' hX' hc' hs' hr' => ?_) (fun n2 t ht1 ht ih2 c' q' d' μ' hX' hc' hs' hr' => ?_)
          · show vX5_reachFrom_23B _ _ _ _ _ _ _ μ'
            unfold vX5_reachFrom_23B
            refine br_t (ltT (by omega) (by omega)) (ih c' q' d' μ' ?_ (by omega))
            obtain ⟨g0, g1, g2, g3, g4, g5, g6, g7⟩ := hX'
            refine ⟨g0, g1, g2, g3, g4, g5, fun w j hj => ?_, fun j ji jc s hs he => ?_⟩
            · have := g6 (by omega) j hj
              have := (g3 i (i + 1) (by omega) w).2
              omega
            · by_cases w : j = i
              · rw [w, (hs' i hic).1] at he
                obtain ⟨t, t1, t2, t3⟩ := he
                obtain ⟨m1, m2⟩ := (may_top h9).mp t2
                obtain ⟨p1, p2⟩ := prd_all2 s hs t t1 m1
                rw [t3] at p1 p2
                obtain ⟨k, k1, k2, k3⟩ := hr' t (by omega) p1 (by rw [p2]; exact hs)
                exact ⟨k, k1, k2.trans p2, by rw [w, (hs' i hic).2]; exact k3⟩
              · exact g7 j (by omega) jc s hs he
          · show vX5_reachFrom_23B _ _ _ _ _ _ _ μ'
            unfold vX5_reachFrom_23B
            have et : nI t + 1 = nI (t + 1) := nI_1 t
            rw [i_bit (2 * q i) (by omega) t (by omega), et]
            refine br_f (ltF (by omega) (by omega)) ?_
            rcases mod2 (2 * q i / 2 ^ t) with e | e
            · rw [e]
              refine nb_f (by decide) (ih2 c' q' d' μ' hX' hc' hs' (fun t' ht' ok lt => ?_))
              by_cases w : t' = t
              · rw [w] at ok
                exfalso
                unfold okb at ok
                simp [e] at ok
                omega
              · exact hr' t' (by omega) ok lt
            · rw [e]
              refine nb_t rfl ?_
              have okt : okb (q i) t = true := by unfold okb; simp [e]
              have ept : prd (q i) t = (2 * q i ^^^ 2 ^ t) ||| 1 := by unfold prd; rw [if_neg (by omega)]
              rw [i_prd (q i) a1 t (by omega), ← ept, ← (hs' i hic).2]
              have := hlt t (by omega)
              refine reach_ok hX' (by omega) (by omega) (fun z => by rw [(hs' i hic).1]; exact hed t (by omega) okt z) (fun c2 q2 d2 μ4 hX4 hc4 hs4 hr4 => ?_)
              rw [(hs' i hic).2]
              refine ih2 c2 q2 d2 μ4 hX4 (by omega) (fun j hj => ⟨(hs4 j (by omega)).1.trans (hs' j hj).1, (hs4 j (by omega)).2.trans (hs' j hj).2⟩) (fun t' ht' ok lt => ?_)
              by_cases w : t' = t
              · rw [w] at lt ⊢
                obtain ⟨k, k1, k2, k3⟩ := hr4 lt
                exact ⟨k, k1, k2, by rw [(hs' i hic).2] at k3; exact k3⟩
              · obtain ⟨k, k1, k2, k3⟩ := hr' t' (by omega) ok lt
                exact ⟨k, by omega, by rw [(hs4 k k1).1]; exact k2, by rw [(hs4 k k1).2]; exact k3⟩
        obtain ⟨n2, hn2⟩ := key2
        refine ⟨n2, hn2 c0 q0 d0 μ3 hX3 hc3 hs3 (fun t ht ok lt => ?_)⟩
        have : t = 0 := by omega
        subst this
        exact hr3 lt
  obtain ⟨n, hn⟩ := key
  exact ⟨n, hn 1 _ _ μ2 hX2 (by omega)⟩
