/-! the relation between the two sides -/
def R1 (μ ν : gM) : Prop := ∃ p h, IsRow μ 0 p h ∧ MRow ν p h ∧ (p = 0 → ν 32 7 = 0 ∧ ∀ i, i < 3 → ν 41 i = 0) ∧ (0 < p → ν 32 7 = μ 31 8)
def R2 (μ ν : gM) : Prop := ∀ i, i < 3 → ∃ p h, IsRow μ (2 + i) p h ∧ ν 41 i = nI p ∧ ∀ k, k < p → ν 42 (8 * i + k) = nI (h k)
def R3 (μ : gM) : Prop := ∃ c, 1 ≤ c ∧ c ≤ 4 ∧ μ 31 8 = nI c
def R4 (μ ν : gM) : Prop := ν 32 9 = μ 31 9 ∧ ∃ d, d < 1024 ∧ μ 31 9 = nI d
def R5 (μ ν : gM) : Prop := ∀ k, k < 10 → ∃ c, c < 3 ∧ μ 21 k = nI c ∧ ν 37 k = nI c
def R6 (μ ν : gM) : Prop := ν 32 1 = μ 20 1
def R7 (μ ν : gM) : Prop := ν 32 0 = μ 31 10
def R8 (μ ν : gM) : Prop := ∀ k, k < 4 → (μ (10 + k) 1 = -1 ∧ ν 33 k = -9) ∨ ∃ n s, n ≤ 40 ∧ s < 3 ∧ μ (10 + k) 1 = nI n ∧ μ (10 + k) 2 = nI s ∧ ν 33 k = nI s ∧ ν 34 k = nI n ∧ ∀ j, j < 40 → μ (14 + k) j = ν 35 (40 * k + j)
def Rel (μ ν : gM) : Prop := R1 μ ν ∧ R2 μ ν ∧ R3 μ ∧ R4 μ ν ∧ R5 μ ν ∧ R6 μ ν ∧ R7 μ ν ∧ R8 μ ν
def scX (id : Nat) : Prop := id = 1 ∨ id = 6 ∨ id = 18 ∨ id = 19 ∨ id = 22 ∨ id = 23 ∨ id = 24 ∨ id = 25 ∨ id = 26 ∨ id = 27 ∨ id = 28
def scM (id : Nat) : Prop := id = 32 ∨ id = 38 ∨ id = 39 ∨ id = 40 ∨ id = 43 ∨ id = 45
def SX (μ μ' : gM) : Prop := ∀ id, ¬ scX id → μ' id = μ id
def SM (ν ν' : gM) : Prop := (∀ id, ¬ scM id → ν' id = ν id) ∧ ∀ k, k ≠ 15 → k ≠ 16 → ν' 32 k = ν 32 k
theorem SX.rf {μ : gM} : SX μ μ := fun _ _ => rfl
theorem SM.rf {ν : gM} : SM ν ν := ⟨fun _ _ => rfl, fun _ _ _ => rfl⟩
theorem SX.tr {μ μ1 μ2 : gM} (h1 : SX μ μ1) (h2 : SX μ1 μ2) : SX μ μ2 := fun id h => (h2 id h).trans (h1 id h)
theorem SM.tr {ν ν1 ν2 : gM} (h1 : SM ν ν1) (h2 : SM ν1 ν2) : SM ν ν2 := ⟨fun id h => (h2.1 id h).trans (h1.1 id h), fun k a b => (h2.2 k a b).trans (h1.2 k a b)⟩
theorem IsRow.fr {μ μ' : gM} {r p : Nat} {h : Nat → Nat} (hR : IsRow μ r p h) (h1 : μ' r 1 = μ r 1) (h2 : μ' (5 + r) = μ (5 + r)) : IsRow μ' r p h := by
  unfold IsRow
  rw [h1, h2]; exact hR
theorem sx {μ μ' : gM} (hS : SX μ μ') (id : Nat) (h : ¬ (id = 1 ∨ id = 6 ∨ id = 18 ∨ id = 19 ∨ id = 22 ∨ id = 23 ∨ id = 24 ∨ id = 25 ∨ id = 26 ∨ id = 27 ∨ id = 28)) : μ' id = μ id := hS id h
theorem sm {ν ν' : gM} (hS : SM ν ν') (id : Nat) (h : ¬ (id = 32 ∨ id = 38 ∨ id = 39 ∨ id = 40 ∨ id = 43 ∨ id = 45)) : ν' id = ν id := hS.1 id h
theorem R1.fr {μ ν μ' ν' : gM} (h : R1 μ ν) (e0 : μ' 0 = μ 0) (e5 : μ' 5 = μ 5) (e31 : μ' 31 8 = μ 31 8) (m5 : ν' 32 5 = ν 32 5) (m7 : ν' 32 7 = ν 32 7) (m36 : ν' 36 = ν 36) (m41 : ν' 41 = ν 41) : R1 μ' ν' := by
  obtain ⟨p, h, a, b, c, d⟩ := h
  exact ⟨p, h, a.fr (by rw [e0]) e5, b.fr m5 m36, by rw [m7, m41]; exact c, by rw [m7, e31]; exact d⟩
theorem R2.fr {μ ν μ' ν' : gM} (h : R2 μ ν) (e : ∀ i, i < 3 → μ' (2 + i) = μ (2 + i) ∧ μ' (5 + (2 + i)) = μ (5 + (2 + i))) (m41 : ν' 41 = ν 41) (m42 : ν' 42 = ν 42) : R2 μ' ν' := by
  intro i hi
  obtain ⟨p, h, a, b, c⟩ := h i hi
  exact ⟨p, h, a.fr (by rw [(e i hi).1]) (e i hi).2, by rw [m41]; exact b, by rw [m42]; exact c⟩
theorem R8.fr {μ ν μ' ν' : gM} (h : R8 μ ν) (e : ∀ k, k < 4 → μ' (10 + k) = μ (10 + k) ∧ μ' (14 + k) = μ (14 + k)) (m33 : ν' 33 = ν 33) (m34 : ν' 34 = ν 34) (m35 : ν' 35 = ν 35) : R8 μ' ν' := by
  intro k hk
  rw [m33, m34, m35, (e k hk).1, (e k hk).2]
  exact h k hk
theorem Rel.fr {μ ν μ' ν' : gM} (hr : Rel μ ν) (hx : SX μ μ') (hm : SM ν ν') : Rel μ' ν' := by
  obtain ⟨a1, a2, a3, a4, a5, a6, a7, a8⟩ := hr
  have e31 := sx hx 31 (by decide)
  have f : ∀ k, k ≠ 15 → k ≠ 16 → ν' 32 k = ν 32 k := hm.2
  refine ⟨a1.fr (sx hx 0 (by decide)) (sx hx 5 (by decide)) (by rw [e31]) (f 5 (by decide) (by decide)) (f 7 (by decide) (by decide)) (sm hm 36 (by decide)) (sm hm 41 (by decide)), a2.fr (fun i hi => ⟨sx hx _ (by omega), sx hx _ (by omega)⟩) (sm hm 41 (by decide)) (sm hm 42 (by decide)), ?_, ?_, ?_, ?_, ?_, a8.fr (fun k hk => ⟨sx hx _ (by omega), sx hx _ (by omega)⟩) (sm hm 33 (by decide)) (sm hm 34 (by decide)) (sm hm 35 (by decide))⟩
  · unfold R3; rw [e31]; exact a3
  · unfold R4; rw [e31, f 9 (by decide) (by decide)]; exact a4
  · unfold R5; rw [sx hx 21 (by decide), sm hm 37 (by decide)]; exact a5
  · unfold R6; rw [sx hx 20 (by decide), f 1 (by decide) (by decide)]; exact a6
  · unfold R7; rw [e31, f 0 (by decide) (by decide)]; exact a7
/-! bounds of arguments -/
theorem wi_cases (a : Int32) (l u : Nat) (hu : u < 1000000) : (∃ k, l ≤ k ∧ k ≤ u ∧ a = nI k) ∨ (a.toInt < (l : Int) ∨ (u : Int) < a.toInt) := by
  by_cases c : a.toInt < (l : Int) ∨ (u : Int) < a.toInt
  · exact Or.inr c
  · left
    refine ⟨a.toInt.toNat, by omega, by omega, tI ?_⟩
    rw [nI_int (by omega)]; omega
theorem xw_in {k l u : Nat} {Q : Int32 → Prop} (h1 : l ≤ k) (h2 : k ≤ u) (hu : u < 1000000) (hq : Q 1) : vX6_isWithin (nI k) (nI l) (nI u) Q :=
  br_f (ltF h1 (by omega)) (br_f (ltF h2 (by omega)) hq)
theorem mw_in {k l u : Nat} {Q : Int32 → Prop} (h1 : l ≤ k) (h2 : k ≤ u) (hu : u < 1000000) (hq : Q 1) : vX7_within (nI k) (nI l) (nI u) Q :=
  br_f (ltF h1 (by omega)) (br_f (ltF h2 (by omega)) hq)
theorem xw_out {a : Int32} {l u : Nat} {Q : Int32 → Prop} (hl : l < 1000000) (hu : u < 1000000) (h : a.toInt < (l : Int) ∨ (u : Int) < a.toInt) (hq : Q 0) : vX6_isWithin a (nI l) (nI u) Q := by
  by_cases c : a.toInt < (l : Int)
  · exact br_t (lt_i.mpr (by rw [nI_int hl]; exact c)) hq
  · refine br_f (fun z => c (by rw [lt_i, nI_int hl] at z; exact z)) (br_t (lt_i.mpr (by rw [nI_int hu]; omega)) hq)
theorem mw_out {a : Int32} {l u : Nat} {Q : Int32 → Prop} (hl : l < 1000000) (hu : u < 1000000) (h : a.toInt < (l : Int) ∨ (u : Int) < a.toInt) (hq : Q 0) : vX7_within a (nI l) (nI u) Q := by
  by_cases c : a.toInt < (l : Int)
  · exact br_t (lt_i.mpr (by rw [nI_int hl]; exact c)) hq
  · refine br_f (fun z => c (by rw [lt_i, nI_int hl] at z; exact z)) (br_t (lt_i.mpr (by rw [nI_int hu]; omega)) hq)
theorem nar1 : narrow .boolean (.int 1) = .int 1 := rfl
theorem nar0 : narrow .boolean (.int 0) = .int 0 := rfl
/-- a beat of the pattern, or none -/
theorem bt_cases (a : Int32) {p : Nat} (hp : p ≤ 8) : (∃ k, k < p ∧ a = nI k) ∨ (a.toInt < 0 ∨ (p : Int) ≤ a.toInt) := by
  by_cases c : a.toInt < 0 ∨ (p : Int) ≤ a.toInt
  · exact Or.inr c
  · left
    refine ⟨a.toInt.toNat, by omega, tI ?_⟩
    rw [nI_int (by omega)]; omega
theorem hb_in {μ : gM} {r p k : Nat} {Q : Int32 → gM → Prop} (h1 : μ r 1 = nI p) (h8 : p ≤ 8) (hk : k < p) (hq : Q 1 μ) : vX3_hasBeat r (nI k) μ Q := by
  unfold vX3_hasBeat
  rw [h1]
  exact br_f (posF (by omega)) (br_f (leF hk (by omega)) hq)
theorem hb_out {μ : gM} {r p : Nat} {a : Int32} {Q : Int32 → gM → Prop} (h1 : μ r 1 = nI p) (h8 : p ≤ 8) (hk : a.toInt < 0 ∨ (p : Int) ≤ a.toInt) (hq : Q 0 μ) : vX3_hasBeat r a μ Q := by
  unfold vX3_hasBeat
  rw [h1]
  by_cases c : a.toInt < 0
  · exact br_t (lt_i.mpr c) hq
  · exact br_f (fun z => c (lt_i.mp z)) (br_t (le_i.mpr (by rw [nI_int (by omega)]; omega)) hq)
theorem ib_in {ν : gM} {τ : gJ} {p k : Nat} {Q : Int32 → gM → gJ → Prop} (h1 : ν 32 5 = nI p) (h8 : p ≤ 8) (hk : k < p) (hq : Q 1 ν τ) : vX7_isBeat (nI k) ν τ Q := by
  unfold vX7_isBeat
  rw [h1]
  exact br_f (posF (by omega)) (br_f (leF hk (by omega)) hq)
theorem ib_out {ν : gM} {τ : gJ} {p : Nat} {a : Int32} {Q : Int32 → gM → gJ → Prop} (h1 : ν 32 5 = nI p) (h8 : p ≤ 8) (hk : a.toInt < 0 ∨ (p : Int) ≤ a.toInt) (hq : Q 0 ν τ) : vX7_isBeat a ν τ Q := by
  unfold vX7_isBeat
  rw [h1]
  by_cases c : a.toInt < 0
  · exact br_t (lt_i.mpr c) hq
  · exact br_f (fun z => c (lt_i.mp z)) (br_t (le_i.mpr (by rw [nI_int (by omega)]; omega)) hq)
theorem th_in {μ : gM} {r p : Nat} {Q : Int32 → gM → Prop} (h1 : μ r 1 = nI p) (h8 : p ≤ 8) (hp : 0 < p) (hq : Q 1 μ) : vX3_isThere r μ Q := by
  unfold vX3_isThere
  rw [h1]
  exact br_f (leF (b := 0) hp (by omega)) hq
theorem th_out {μ : gM} {r p : Nat} {Q : Int32 → gM → Prop} (h1 : μ r 1 = nI p) (hp : p = 0) (hq : Q 0 μ) : vX3_isThere r μ Q := by
  unfold vX3_isThere
  rw [h1, hp]
  exact br_t (leT (a := 0) (b := 0) (by omega) (by omega)) hq
/-! the end of a case -/
abbrev En (K : gM → gM → gJ → Prop) (x : Int32) (μ1 : gM) : Int32 → gM → gJ → Prop := fun y ν1 τ1 => (x = y → K μ1 ν1 τ1) ∧ (¬ x = y → False)
theorem en {K : gM → gM → gJ → Prop} (hK : ∀ μ' ν' τ', Rel μ' ν' → K μ' ν' τ') {x : Int32} {μ1 ν1 : gM} {τ1 : gJ} (h : Rel μ1 ν1) : En K x μ1 x ν1 τ1 := ⟨fun _ => hK _ _ _ h, fun z => z rfl⟩
section S1
variable {K : gM → gM → gJ → Prop} {μ ν : gM} {τ : gJ} {QX : Int32 → gM → Prop} {a b : Int32}
theorem s_throwOf (hK : ∀ μ' ν' τ', Rel μ' ν' → K μ' ν' τ') (hr : Rel μ ν) (hQ : ∀ x μ1, vX7_throwOf a ν τ (En K x μ1) → QX x μ1) : vX6_throwOf a μ QX := by
  obtain ⟨p, h, hx, hm, -⟩ := hr.1
  unfold vX6_throwOf
  unfold vX7_throwOf at hQ
  rcases bt_cases a hx.2.1 with ⟨k, hk, rfl⟩ | ho
  · refine hb_in hx.1 hx.2.1 hk (br_f (by decide) (heightIn_ok hx (by omega) (hQ _ _ (ib_in hm.1 hm.2.1 hk (br_f (by decide) ⟨inI (by have := hm.2.1; omega) (by omega), ?_⟩)))))
    have := hm.2.1
    rw [nI_int (by omega), hz_nat, Nat.mod_eq_of_lt hk, cl (by omega), (hm.2.2 k hk).2]
    exact en hK hr
  · exact hb_out hx.1 hx.2.1 ho (br_t rfl (hQ _ _ (ib_out hm.1 hm.2.1 ho (br_t rfl (en hK hr)))))
theorem s_clash (hK : ∀ μ' ν' τ', Rel μ' ν' → K μ' ν' τ') (hr : Rel μ ν) (hQ : ∀ x μ1, vX7_clash ν τ (En K x μ1) → QX x μ1) : vX6_clash μ QX := by
  obtain ⟨p, h, hx, hm, -⟩ := hr.1
  have h8 := hx.2.1
  unfold vX6_clash
  unfold vX7_clash at hQ
  rw [hm.1] at hQ
  by_cases hp : 0 < p
  · exact th_in hx.1 h8 hp (br_f (by decide) (firstClash_ok hx (hQ _ _ (nb_f (ne0 hp (by omega)) (findClash_ok hm (en hK hr))))))
  · have h0 : p = 0 := by omega
    refine th_out hx.1 h0 (br_t rfl (hQ _ _ (nb_t (by rw [h0]; rfl) (en hK hr))))
theorem s_state (hK : ∀ μ' ν' τ', Rel μ' ν' → K μ' ν' τ') (hr : Rel μ ν) (hQ : ∀ x μ1, vX7_state a ν τ (En K x μ1) → QX x μ1) : vX6_state a μ QX := by
  obtain ⟨p, h, hx, hm, -⟩ := hr.1
  have h8 := hx.2.1
  unfold vX6_state
  unfold vX7_state at hQ
  rcases bt_cases a h8 with ⟨k, hk, rfl⟩ | ho
  · refine hb_in hx.1 h8 hk (nb_f (by decide) (isGood_ok hx ?_))
    by_cases g : gd p h = true
    · rw [b01_t g]
      refine br_f (by decide) (stateAhead_ok hx (by omega) (by omega) (hQ _ _ (ib_in hm.1 h8 hk (nb_f (by decide) (misGood_ok hm ?_)))))
      rw [b01_t g]
      exact br_f (by decide) (mstateAhead_ok hm (by omega) (by omega) (en hK hr))
    · have g := Bool.eq_false_iff.mpr g
      rw [b01_f g]
      refine br_t rfl (hQ _ _ (ib_in hm.1 h8 hk (nb_f (by decide) (misGood_ok hm ?_))))
      rw [b01_f g]
      exact br_t rfl (en hK hr)
  · exact hb_out hx.1 h8 ho (nb_t rfl (hQ _ _ (ib_out hm.1 h8 ho (nb_t rfl (en hK hr)))))
theorem s_orbit (hK : ∀ μ' ν' τ', Rel μ' ν' → K μ' ν' τ') (hr : Rel μ ν) (hQ : ∀ x μ1, vX7_orbit a ν τ (En K x μ1) → QX x μ1) : vX6_orbit a μ QX := by
  obtain ⟨p, h, hx, hm, -⟩ := hr.1
  have h8 := hx.2.1
  unfold vX6_orbit
  unfold vX7_orbit at hQ
  rcases bt_cases a h8 with ⟨k, hk, rfl⟩ | ho
  · refine hb_in hx.1 h8 hk (nb_f (by decide) (isGood_ok hx ?_))
    by_cases g : gd p h = true
    · obtain ⟨hp, inj⟩ := gd_inj h8 g
      rw [b01_t g]
      have l1 := lo_lt (h := h) hk
      refine br_f (by decide) (leastInOrbit_ok hx hk (orbitsBelow_ok hx (by omega) (hQ _ _ (ib_in hm.1 h8 hk (nb_f (by decide) (misGood_ok hm ?_))))))
      rw [b01_t g]
      refine nb_f (by decide) (findOrbits_ok hm hp inj (fun ν' hf ho => ⟨inI (by omega) (by omega), ?_⟩))
      rw [cl (by omega), ho k hk]
      exact en hK (hr.fr SX.rf ⟨fun id hid => hf id (fun e => hid (by rw [e]; exact Or.inr (Or.inl rfl))), fun k _ _ => by rw [hf 32 (by decide)]⟩)
    · have g := Bool.eq_false_iff.mpr g
      rw [b01_f g]
      refine br_t rfl (hQ _ _ (ib_in hm.1 h8 hk (nb_f (by decide) (misGood_ok hm ?_))))
      rw [b01_f g]
      exact nb_t rfl (en hK hr)
  · exact hb_out hx.1 h8 ho (nb_t rfl (hQ _ _ (ib_out hm.1 h8 ho (nb_t rfl (en hK hr)))))
theorem s_good (hK : ∀ μ' ν' τ', Rel μ' ν' → K μ' ν' τ') (hr : Rel μ ν) (hQ : ∀ x μ1, vX7_good a ν τ (En K x μ1) → QX x μ1) : vX6_good a μ QX := by
  obtain ⟨p, h, hx, hm, -⟩ := hr.1
  have h8 := hx.2.1
  unfold vX6_good
  unfold vX7_good at hQ
  rcases wi_cases a 0 4 (by omega) with ⟨k, -, hk, rfl⟩ | ho
  · refine xw_in (l := 0) (u := 4) (by omega) hk (by omega) (nb_f (by decide) (isGood_ok hx ?_))
    by_cases g : gd p h = true
    · obtain ⟨hp, inj⟩ := gd_inj h8 g
      rw [b01_t g]
      refine nb_f (by decide) ?_
      rcases (show k = 0 ∨ k = 1 ∨ k = 2 ∨ k = 3 ∨ k = 4 by omega) with rfl | rfl | rfl | rfl | rfl
      · refine br_t rfl (ballCount_ok hx hp (hQ _ _ (mw_in (l := 0) (u := 4) (by omega) (by omega) (by omega) (nb_f (by decide) (misGood_ok hm ?_)))))
        rw [b01_t g]
        exact nb_f (by decide) (br_t rfl (balls_ok hm hp (en hK hr)))
      · refine br_f (by decide) (br_t rfl (greatestHeight_ok hx (hQ _ _ (mw_in (l := 0) (u := 4) (by omega) (by omega) (by omega) (nb_f (by decide) (misGood_ok hm ?_))))))
        rw [b01_t g]
        exact nb_f (by decide) (br_f (by decide) (br_t rfl (greatestThrow_ok hm (en hK hr))))
      · refine br_f (by decide) (br_f (by decide) (br_t rfl (isPrime_ok hx hp ?_)))
        by_cases c : prm p h = 0
        · refine br_t c (hQ _ _ (mw_in (l := 0) (u := 4) (by omega) (by omega) (by omega) (nb_f (by decide) (misGood_ok hm ?_))))
          rw [b01_t g]
          exact nb_f (by decide) (br_f (by decide) (br_f (by decide) (br_t rfl (misPrime_ok hm hp (br_t c (en hK hr))))))
        · refine br_f c (hQ _ _ (mw_in (l := 0) (u := 4) (by omega) (by omega) (by omega) (nb_f (by decide) (misGood_ok hm ?_))))
          rw [b01_t g]
          exact nb_f (by decide) (br_f (by decide) (br_f (by decide) (br_t rfl (misPrime_ok hm hp (br_f c (en hK hr))))))
      · refine br_f (by decide) (br_f (by decide) (br_f (by decide) (br_t rfl (isGround_ok hx hp ?_))))
        by_cases c : gnd p h = 0
        · refine br_t c (hQ _ _ (mw_in (l := 0) (u := 4) (by omega) (by omega) (by omega) (nb_f (by decide) (misGood_ok hm ?_))))
          rw [b01_t g]
          exact nb_f (by decide) (br_f (by decide) (br_f (by decide) (br_f (by decide) (br_t rfl (misGround_ok hm hp (br_t c (en hK hr)))))))
        · refine br_f c (hQ _ _ (mw_in (l := 0) (u := 4) (by omega) (by omega) (by omega) (nb_f (by decide) (misGood_ok hm ?_))))
          rw [b01_t g]
          exact nb_f (by decide) (br_f (by decide) (br_f (by decide) (br_f (by decide) (br_t rfl (misGround_ok hm hp (br_f c (en hK hr)))))))
      · refine br_f (by decide) (br_f (by decide) (br_f (by decide) (br_f (by decide) ?_)))
        rw [hx.1]
        refine orbitsBelow_ok hx (Nat.le_refl _) (hQ _ _ (mw_in (l := 0) (u := 4) (by omega) (by omega) (by omega) (nb_f (by decide) (misGood_ok hm ?_))))
        rw [b01_t g]
        refine nb_f (by decide) (br_f (by decide) (br_f (by decide) (br_f (by decide) (br_f (by decide) (findOrbits_ok hm hp inj (fun ν' hf ho => ?_))))))
        exact en hK (hr.fr SX.rf ⟨fun id hid => hf id (fun e => hid (by rw [e]; exact Or.inr (Or.inl rfl))), fun k _ _ => by rw [hf 32 (by decide)]⟩)
    · have g := Bool.eq_false_iff.mpr g
      rw [b01_f g]
      exact nb_t rfl (hQ _ _ (mw_in (l := 0) (u := 4) (by omega) hk (by omega) (nb_f (by decide) (misGood_ok hm (by rw [b01_f g]; exact nb_t rfl (en hK hr))))))
  · exact xw_out (l := 0) (u := 4) (by omega) (by omega) ho (nb_t rfl (hQ _ _ (mw_out (l := 0) (u := 4) (by omega) (by omega) ho (nb_t rfl (en hK hr)))))
end S1
