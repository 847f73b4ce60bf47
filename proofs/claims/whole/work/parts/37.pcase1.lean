theorem u_o {μ : gM} {a k : Nat} {v : Int32} {j : Nat} (h : j ≠ k) : up2 μ a k v a j = μ a j := by simp [up2, upd, h]
theorem u_e {μ : gM} {a k : Nat} {v : Int32} : up2 μ a k v a k = v := by simp [up2, upd]
theorem Rel.flt {μ ν : gM} (hr : Rel μ ν) (f : Int32) : Rel (up2 μ 31 10 f) (up2 ν 32 0 f) := by
  obtain ⟨a1, a2, a3, a4, a5, a6, a7, a8⟩ := hr
  refine ⟨a1.fr (up2_n (by decide)) (up2_n (by decide)) (u_o (by decide)) (u_o (by decide)) (u_o (by decide)) (up2_n (by decide)) (up2_n (by decide)), a2.fr (fun i hi => ⟨up2_n (by omega), up2_n (by omega)⟩) (up2_n (by decide)) (up2_n (by decide)), ?_, ?_, ?_, ?_, ?_, a8.fr (fun k hk => ⟨up2_n (by omega), up2_n (by omega)⟩) (up2_n (by decide)) (up2_n (by decide)) (up2_n (by decide))⟩
  · unfold R3; rw [u_o (by decide)]; exact a3
  · unfold R4; rw [u_o (by decide), u_o (by decide)]; exact a4
  · unfold R5; rw [up2_n (by decide), up2_n (by decide)]; exact a5
  · unfold R6; rw [u_o (by decide), up2_n (by decide)]; exact a6
  · unfold R7; rw [u_e, u_e]
theorem Rel.hnd {μ ν : gM} (hr : Rel μ ν) {p : Nat} {h : Nat → Nat} (hx : IsRow μ 0 p h) (hp : 0 < p) {c : Nat} (h1 : 1 ≤ c) (h4 : c ≤ 4) : Rel (up2 μ 31 8 (nI c)) (up2 ν 32 7 (nI c)) := by
  obtain ⟨⟨p', h', b1, b2, b3, b4⟩, a2, a3, a4, a5, a6, a7, a8⟩ := hr
  refine ⟨⟨p', h', b1.fr (by rw [up2_n (by decide)]) (up2_n (by decide)), b2.fr (u_o (by decide)) (up2_n (by decide)), fun z => ?_, fun _ => by rw [u_e, u_e]⟩, a2.fr (fun i hi => ⟨up2_n (by omega), up2_n (by omega)⟩) (up2_n (by decide)) (up2_n (by decide)), ⟨c, h1, h4, u_e⟩, ?_, ?_, ?_, ?_, a8.fr (fun k hk => ⟨up2_n (by omega), up2_n (by omega)⟩) (up2_n (by decide)) (up2_n (by decide)) (up2_n (by decide))⟩
  · have e : nI p = nI p' := hx.1.symm.trans b1.1
    have := (nI_eq (by have := hx.2.1; omega) (by have := b1.2.1; omega)).mp e
    omega
  · unfold R4; rw [u_o (by decide), u_o (by decide)]; exact a4
  · unfold R5; rw [up2_n (by decide), up2_n (by decide)]; exact a5
  · unfold R6; rw [u_o (by decide), up2_n (by decide)]; exact a6
  · unfold R7; rw [u_o (by decide), u_o (by decide)]; exact a7
theorem Rel.drp {μ ν : gM} (hr : Rel μ ν) {d : Nat} (hd : d < 1024) : Rel (up2 μ 31 9 (nI d)) (up2 ν 32 9 (nI d)) := by
  obtain ⟨a1, a2, a3, a4, a5, a6, a7, a8⟩ := hr
  refine ⟨a1.fr (up2_n (by decide)) (up2_n (by decide)) (u_o (by decide)) (u_o (by decide)) (u_o (by decide)) (up2_n (by decide)) (up2_n (by decide)), a2.fr (fun i hi => ⟨up2_n (by omega), up2_n (by omega)⟩) (up2_n (by decide)) (up2_n (by decide)), ?_, ⟨by rw [u_e, u_e], d, hd, u_e⟩, ?_, ?_, ?_, a8.fr (fun k hk => ⟨up2_n (by omega), up2_n (by omega)⟩) (up2_n (by decide)) (up2_n (by decide)) (up2_n (by decide))⟩
  · unfold R3; rw [u_o (by decide)]; exact a3
  · unfold R5; rw [up2_n (by decide), up2_n (by decide)]; exact a5
  · unfold R6; rw [u_o (by decide), up2_n (by decide)]; exact a6
  · unfold R7; rw [u_o (by decide), u_o (by decide)]; exact a7
theorem Rel.trc {μ ν : gM} (hr : Rel μ ν) (t : Int32) : Rel (up2 μ 20 1 t) (up2 ν 32 1 t) := by
  obtain ⟨a1, a2, a3, a4, a5, a6, a7, a8⟩ := hr
  refine ⟨a1.fr (up2_n (by decide)) (up2_n (by decide)) (by rw [up2_n (by decide)]) (u_o (by decide)) (u_o (by decide)) (up2_n (by decide)) (up2_n (by decide)), a2.fr (fun i hi => ⟨up2_n (by omega), up2_n (by omega)⟩) (up2_n (by decide)) (up2_n (by decide)), ?_, ?_, ?_, ?_, ?_, a8.fr (fun k hk => ⟨up2_n (by omega), up2_n (by omega)⟩) (up2_n (by decide)) (up2_n (by decide)) (up2_n (by decide))⟩
  · unfold R3; rw [up2_n (by decide)]; exact a3
  · unfold R4; rw [u_o (by decide), up2_n (by decide)]; exact a4
  · unfold R5; rw [up2_n (by decide), up2_n (by decide)]; exact a5
  · unfold R6; rw [u_e, u_e]
  · unfold R7; rw [u_o (by decide), up2_n (by decide)]; exact a7
theorem Rel.knd {μ ν : gM} (hr : Rel μ ν) {k c : Nat} (hc : c < 3) : Rel (up2 μ 21 k (nI c)) (up2 ν 37 k (nI c)) := by
  obtain ⟨a1, a2, a3, a4, a5, a6, a7, a8⟩ := hr
  refine ⟨a1.fr (up2_n (by decide)) (up2_n (by decide)) (by rw [up2_n (by decide)]) (by rw [up2_n (by decide)]) (by rw [up2_n (by decide)]) (up2_n (by decide)) (up2_n (by decide)), a2.fr (fun i hi => ⟨up2_n (by omega), up2_n (by omega)⟩) (up2_n (by decide)) (up2_n (by decide)), ?_, ?_, ?_, ?_, ?_, a8.fr (fun k hk => ⟨up2_n (by omega), up2_n (by omega)⟩) (up2_n (by decide)) (up2_n (by decide)) (up2_n (by decide))⟩
  · unfold R3; rw [up2_n (by decide)]; exact a3
  · unfold R4; rw [up2_n (by decide), up2_n (by decide)]; exact a4
  · intro j hj
    by_cases q : j = k
    · exact ⟨c, hc, by rw [q, u_e], by rw [q, u_e]⟩
    · obtain ⟨c', h1, h2, h3⟩ := a5 j hj
      exact ⟨c', h1, by rw [u_o q]; exact h2, by rw [u_o q]; exact h3⟩
  · unfold R6; rw [up2_n (by decide), up2_n (by decide)]; exact a6
  · unfold R7; rw [up2_n (by decide), up2_n (by decide)]; exact a7
section S2
variable {K : gM → gM → gJ → Prop} {μ ν : gM} {τ : gJ} {QX : Int32 → gM → Prop} {a b : Int32}
theorem s_hands (hK : ∀ μ' ν' τ', Rel μ' ν' → K μ' ν' τ') (hr : Rel μ ν) (hQ : ∀ x μ1, vX7_hands a ν τ (En K x μ1) → QX x μ1) : vX6_hands a μ QX := by
  obtain ⟨p, h, hx, hm, h0, hpos⟩ := hr.1
  have h8 := hx.2.1
  unfold vX6_hands
  unfold vX7_hands at hQ
  rcases wi_cases a 1 4 (by omega) with ⟨k, hk1, hk, rfl⟩ | ho
  · refine xw_in (l := 1) (u := 4) hk1 hk (by omega) (nb_f (by decide) ?_)
    by_cases hp : 0 < p
    · refine th_in hx.1 h8 hp (nb_f (by decide) (hQ _ _ (mw_in (l := 1) (u := 4) hk1 hk (by omega) (nb_f (by decide) (nb_f (by rw [hm.1]; exact ne0 hp (by omega)) ?_)))))
      rw [hpos hp]
      exact en hK (hr.hnd hx hp hk1 hk)
    · have e0 : p = 0 := by omega
      exact th_out hx.1 e0 (nb_t rfl (hQ _ _ (mw_in (l := 1) (u := 4) hk1 hk (by omega) (nb_f (by decide) (nb_t (by rw [hm.1, e0]; rfl) (en hK hr))))))
  · exact xw_out (l := 1) (u := 4) (by omega) (by omega) ho (nb_t rfl (hQ _ _ (mw_out (l := 1) (u := 4) (by omega) (by omega) ho (nb_t rfl (en hK hr)))))
theorem s_drop (hK : ∀ μ' ν' τ', Rel μ' ν' → K μ' ν' τ') (hr : Rel μ ν) (hQ : ∀ x μ1, vX7_drop a ν τ (En K x μ1) → QX x μ1) : vX6_drop a μ QX := by
  obtain ⟨p, h, hx, hm, h0, hpos⟩ := hr.1
  have h8 := hx.2.1
  unfold vX6_drop
  unfold vX7_drop at hQ
  rcases wi_cases a 0 1023 (by omega) with ⟨k, hk1, hk, rfl⟩ | ho
  · refine xw_in (l := 0) (u := 1023) hk1 hk (by omega) (nb_f (by decide) ?_)
    by_cases hp : 0 < p
    · refine th_in hx.1 h8 hp (nb_f (by decide) (hQ _ _ (mw_in (l := 0) (u := 1023) hk1 hk (by omega) (nb_f (by decide) (nb_f (by rw [hm.1]; exact ne0 hp (by omega)) ?_)))))
      rw [hr.2.2.2.1.1]
      exact en hK (hr.drp (by omega))
    · have e0 : p = 0 := by omega
      exact th_out hx.1 e0 (nb_t rfl (hQ _ _ (mw_in (l := 0) (u := 1023) hk1 hk (by omega) (nb_f (by decide) (nb_t (by rw [hm.1, e0]; rfl) (en hK hr))))))
  · exact xw_out (l := 0) (u := 1023) (by omega) (by omega) ho (nb_t rfl (hQ _ _ (mw_out (l := 0) (u := 1023) (by omega) (by omega) ho (nb_t rfl (en hK hr)))))
theorem kindOf_ok {k c : Nat} {Q : Int32 → gM → Prop} (hk : k ≤ 9) (hc : μ 21 k = nI c) (hq : Q (nI c) μ) : vX2_kindOf (nI k) μ Q := by
  unfold vX2_kindOf vX6_isBall
  refine xw_in (l := 0) (u := 9) (by omega) hk (by omega) ⟨nar1, br_f (by decide) ⟨inI (by omega) (by omega), ?_⟩⟩
  rw [cl (by omega), hc]; exact hq
theorem s_kind (hK : ∀ μ' ν' τ', Rel μ' ν' → K μ' ν' τ') (hr : Rel μ ν) (hQ : ∀ x μ1, vX7_kind a b ν τ (En K x μ1) → QX x μ1) : vX6_kind a b μ QX := by
  unfold vX6_kind vX6_isBall
  unfold vX7_kind vX7_isBall at hQ
  rcases wi_cases a 0 9 (by omega) with ⟨k, -, hk, rfl⟩ | ho
  · refine xw_in (l := 0) (u := 9) (by omega) hk (by omega) ⟨nar1, nb_f (by decide) ?_⟩
    unfold vX6_isKind
    rcases wi_cases b 0 2 (by omega) with ⟨c, -, hc, rfl⟩ | ho
    · refine xw_in (l := 0) (u := 2) (by omega) hc (by omega) ⟨nar1, nb_f (by decide) ?_⟩
      obtain ⟨c', h1, h2, h3⟩ := hr.2.2.2.2.1 k (by omega)
      refine kindOf_ok hk h2 ?_
      unfold vX2_setKind vX6_isBall
      refine xw_in (l := 0) (u := 9) (by omega) hk (by omega) ⟨nar1, br_f (by decide) ⟨inI (by omega) (by omega), ?_⟩⟩
      refine hQ _ _ (mw_in (l := 0) (u := 9) (by omega) hk (by omega) ⟨nar1, nb_f (by decide) (mw_in (l := 0) (u := 2) (by omega) hc (by omega) (nb_f (by decide) ⟨inI (by omega) (by omega), inI (by omega) (by omega), ?_⟩))⟩)
      rw [cl (by omega), h3]
      exact en hK (hr.knd (by omega))
    · exact xw_out (l := 0) (u := 2) (by omega) (by omega) ho ⟨nar0, nb_t rfl (hQ _ _ (mw_in (l := 0) (u := 9) (by omega) hk (by omega) ⟨nar1, nb_f (by decide) (mw_out (l := 0) (u := 2) (by omega) (by omega) ho (nb_t rfl (en hK hr)))⟩))⟩
  · exact xw_out (l := 0) (u := 9) (by omega) (by omega) ho ⟨nar0, nb_t rfl (hQ _ _ (mw_out (l := 0) (u := 9) (by omega) (by omega) ho ⟨nar0, nb_t rfl (en hK hr)⟩))⟩
theorem s_as (hK : ∀ μ' ν' τ', Rel μ' ν' → K μ' ν' τ') (hr : Rel μ ν) (hQ : ∀ x μ1, vX7_as a b ν τ (En K x μ1) → QX x μ1) : vX6_as a b μ QX := by
  have hr0 := hr.flt 0
  unfold vX6_as vX6_isBall
  unfold vX7_as vX7_isBall at hQ
  rcases wi_cases a 0 9 (by omega) with ⟨k, -, hk, rfl⟩ | ho
  · refine xw_in (l := 0) (u := 9) (by omega) hk (by omega) ⟨nar1, nb_f (by decide) ?_⟩
    unfold vX6_isKind
    rcases wi_cases b 0 2 (by omega) with ⟨c, -, hc, rfl⟩ | ho
    · refine xw_in (l := 0) (u := 2) (by omega) hc (by omega) ⟨nar1, nb_f (by decide) ?_⟩
      obtain ⟨c', h1, h2, h3⟩ := hr0.2.2.2.2.1 k (by omega)
      refine kindOf_ok hk h2 ?_
      by_cases q : c' < c
      · refine br_t (ltT q (by omega)) ?_
        unfold vX6_faulted
        refine hQ _ _ (mw_in (l := 0) (u := 9) (by omega) hk (by omega) ⟨nar1, nb_f (by decide) (mw_in (l := 0) (u := 2) (by omega) hc (by omega) (nb_f (by decide) ⟨inI (by omega) (by omega), ?_⟩))⟩)
        rw [cl (by omega), h3]
        refine br_t (ltT q (by omega)) ?_
        unfold vX7_fails
        exact en hK (hr0.flt 2)
      · refine br_f (ltF (by omega) (by omega)) ?_
        refine hQ _ _ (mw_in (l := 0) (u := 9) (by omega) hk (by omega) ⟨nar1, nb_f (by decide) (mw_in (l := 0) (u := 2) (by omega) hc (by omega) (nb_f (by decide) ⟨inI (by omega) (by omega), ?_⟩))⟩)
        rw [cl (by omega), h3]
        exact br_f (ltF (by omega) (by omega)) (en hK hr0)
    · exact xw_out (l := 0) (u := 2) (by omega) (by omega) ho ⟨nar0, nb_t rfl (hQ _ _ (mw_in (l := 0) (u := 9) (by omega) hk (by omega) ⟨nar1, nb_f (by decide) (mw_out (l := 0) (u := 2) (by omega) (by omega) ho (nb_t rfl (en hK hr0)))⟩))⟩
  · exact xw_out (l := 0) (u := 9) (by omega) (by omega) ho ⟨nar0, nb_t rfl (hQ _ _ (mw_out (l := 0) (u := 9) (by omega) (by omega) ho ⟨nar0, nb_t rfl (en hK hr0)⟩))⟩
theorem mayGo_ok {k c : Nat} {Q : Int32 → gM → Prop} (hk : k ≤ 9) (h3 : c < 3) (hc : μ 21 k = nI c) (hq : Q (if c = 0 then 9 else if c = 1 then 6 else 4) μ) : vX2_mayGo (nI k) μ Q := by
  unfold vX2_mayGo
  refine kindOf_ok hk hc ?_
  rcases (show c = 0 ∨ c = 1 ∨ c = 2 by omega) with rfl | rfl | rfl
  · exact br_f (by decide) (br_f (by decide) hq)
  · exact br_t rfl hq
  · exact br_f (by decide) (br_t rfl hq)
theorem mayGoTo_ok {k c : Nat} {Q : Int32 → gM → gJ → Prop} (hk : k ≤ 9) (h3 : c < 3) (hc : ν 37 k = nI c) (hq : Q (if c = 0 then 9 else if c = 1 then 6 else 4) ν τ) : vX7_mayGoTo (nI k) ν τ Q := by
  unfold vX7_mayGoTo
  rw [cl (by omega), hc]
  refine ⟨inI (by omega) (by omega), ?_⟩
  rcases (show c = 0 ∨ c = 1 ∨ c = 2 by omega) with rfl | rfl | rfl
  · exact nb_t rfl hq
  · exact nb_f (by decide) ⟨inI (by omega) (by omega), nb_t rfl hq⟩
  · exact nb_f (by decide) ⟨inI (by omega) (by omega), nb_f (by decide) hq⟩
theorem s_tell (hK : ∀ μ' ν' τ', Rel μ' ν' → K μ' ν' τ') (hr : Rel μ ν) (hQ : ∀ x μ1, vX7_tell a ν τ (En K x μ1) → QX x μ1) : vX6_tell a μ QX := by
  unfold vX6_tell vX6_isBall
  unfold vX7_tell vX7_isBall at hQ
  rcases wi_cases a 0 9 (by omega) with ⟨k, -, hk, rfl⟩ | ho
  · refine xw_in (l := 0) (u := 9) (by omega) hk (by omega) ⟨nar1, br_f (by decide) ?_⟩
    obtain ⟨c, h1, h2, h3⟩ := hr.2.2.2.2.1 k (by omega)
    have h6 : ν 32 1 = μ 20 1 := hr.2.2.2.2.2.1
    unfold vX2_telling
    refine kindOf_ok hk h2 ?_
    rcases (show c = 0 ∨ c = 1 ∨ c = 2 by omega) with rfl | rfl | rfl
    · refine br_f (by decide) (br_f (by decide) ?_)
      unfold vX2_tellingOfBall vX2_leave
      refine hQ _ _ (mw_in (l := 0) (u := 9) (by omega) hk (by omega) ⟨nar1, nb_f (by decide) ⟨inI (by omega) (by omega), ?_⟩⟩)
      rw [cl (by omega), h3]
      refine br_f (by decide) (br_f (by decide) ?_)
      unfold vX7_begins
      rw [h6]
      exact en hK (hr.trc _)
    · refine br_t rfl ?_
      unfold vX2_tellingOfHeavy vX2_tellingOfBall vX2_leave
      refine hQ _ _ (mw_in (l := 0) (u := 9) (by omega) hk (by omega) ⟨nar1, nb_f (by decide) ⟨inI (by omega) (by omega), ?_⟩⟩)
      rw [cl (by omega), h3]
      refine br_t rfl ?_
      unfold vX7_begins
      simp only [u_e, h6]
      exact en hK ((hr.trc _).trc _)
    · refine br_f (by decide) (br_t rfl ?_)
      unfold vX2_tellingOfEgg vX2_tellingOfHeavy vX2_tellingOfBall vX2_leave
      refine hQ _ _ (mw_in (l := 0) (u := 9) (by omega) hk (by omega) ⟨nar1, nb_f (by decide) ⟨inI (by omega) (by omega), ?_⟩⟩)
      rw [cl (by omega), h3]
      refine br_f (by decide) (br_t rfl ?_)
      unfold vX7_begins
      have e : nI k + 100 + nI k = 2 * nI k + 100 := by
        rw [show (100 : Int32) = nI 100 from rfl, show (2 : Int32) = nI 2 from rfl, pk_mul, nI_add, nI_add, nI_add]
        exact nIe (by omega)
      rw [e]
      simp only [u_e, h6]
      exact en hK ((((hr.trc _).trc _).trc _).trc _)
  · exact xw_out (l := 0) (u := 9) (by omega) (by omega) ho ⟨nar0, br_t rfl (hQ _ _ (mw_out (l := 0) (u := 9) (by omega) (by omega) ho ⟨nar0, nb_t rfl (en hK hr)⟩))⟩
theorem s_call (hK : ∀ μ' ν' τ', Rel μ' ν' → K μ' ν' τ') (hr : Rel μ ν) (hQ : ∀ x μ1, vX7_call a ν τ (En K x μ1) → QX x μ1) : vX6_call a μ QX := by
  unfold vX6_call vX6_isBall
  unfold vX7_call vX7_isBall at hQ
  rcases wi_cases a 0 9 (by omega) with ⟨k, -, hk, rfl⟩ | ho
  · refine xw_in (l := 0) (u := 9) (by omega) hk (by omega) ⟨nar1, br_f (by decide) ?_⟩
    obtain ⟨c, h1, h2, h3⟩ := hr.2.2.2.2.1 k (by omega)
    have h6 : ν 32 1 = μ 20 1 := hr.2.2.2.2.2.1
    unfold vX2_calling
    refine kindOf_ok hk h2 ?_
    by_cases q : c = 2
    · rw [q]
      refine nb_t rfl ?_
      unfold vX2_leave
      refine hQ _ _ (mw_in (l := 0) (u := 9) (by omega) hk (by omega) ⟨nar1, nb_f (by decide) ⟨inI (by omega) (by omega), ?_⟩⟩)
      rw [cl (by omega), h3, q]
      refine nb_t rfl ?_
      unfold vX7_begins
      dsimp only
      rw [up2_n (by decide), h3, q, h6]
      exact ⟨inI (by omega) (by omega), nb_t rfl (en hK (hr.trc _))⟩
    · have q2 : ¬ nI c = 2 := neF (b := 2) q (by omega) (by omega)
      refine nb_f q2 ?_
      unfold vX2_leave
      refine mayGo_ok hk h1 (by rw [up2_n (by decide)]; exact h2) ?_
      refine hQ _ _ (mw_in (l := 0) (u := 9) (by omega) hk (by omega) ⟨nar1, nb_f (by decide) ⟨inI (by omega) (by omega), ?_⟩⟩)
      rw [cl (by omega), h3]
      refine nb_f q2 ?_
      unfold vX7_begins
      dsimp only
      rw [up2_n (by decide), h3, h6]
      refine ⟨inI (by omega) (by omega), nb_f q2 (mayGoTo_ok hk h1 (by rw [up2_n (by decide)]; exact h3) (en hK (hr.trc _)))⟩
  · exact xw_out (l := 0) (u := 9) (by omega) (by omega) ho ⟨nar0, br_t rfl (hQ _ _ (mw_out (l := 0) (u := 9) (by omega) (by omega) ho ⟨nar0, nb_t rfl (en hK hr)⟩))⟩
theorem s_trace (hK : ∀ μ' ν' τ', Rel μ' ν' → K μ' ν' τ') (hr : Rel μ ν) (hQ : ∀ x μ1, vX7_trace ν τ (En K x μ1) → QX x μ1) : vX6_trace μ QX := by
  refine hQ _ _ ?_
  unfold vX7_trace
  rw [show ν 32 1 = μ 20 1 from hr.2.2.2.2.2.1]
  exact en hK hr
theorem s_fault (hK : ∀ μ' ν' τ', Rel μ' ν' → K μ' ν' τ') (hr : Rel μ ν) (hQ : ∀ x μ1, vX7_fault ν τ (En K x μ1) → QX x μ1) : vX6_fault μ QX := by
  refine hQ _ _ ?_
  unfold vX7_fault
  rw [show ν 32 0 = μ 31 10 from hr.2.2.2.2.2.2.1]
  exact en hK hr
end S2
