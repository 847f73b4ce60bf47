/-! prime, ground -/
def prm (p : Nat) (h : Nat → Nat) : Int32 := sr2 (fun i j => decide (stA p h i = stA p h j)) (fun _ _ => 0) 1 p p 0
def gnd (p : Nat) (h : Nat → Nat) : Int32 := sr (fun i => decide (stA p h i = 2 ^ blN p h - 1)) (fun _ => 1) 0 p 0
theorem isPrime_ok {μ : gM} {r p : Nat} {h : Nat → Nat} {Q : Int32 → gM → Prop} (hR : IsRow μ r p h) (hp : 0 < p) (hq : Q (prm p h) μ) : vX3_isPrime r μ Q := by
  have h1 := hR.1
  have h8 := hR.2.1
  have hh := fun k hk => (hR.2.2 k hk).1
  have key : ∃ n, (Q (sr2 (fun i j => decide (stA p h i = stA p h j)) (fun _ _ => 0) 1 p (p - 0) 0) μ → vX3_isPrime_2 r Q n (nI 0) μ) := by
    refine ex_up (fun n i => Q (sr2 (fun i j => decide (stA p h i = stA p h j)) (fun _ _ => 0) 1 p (p - i) i) μ → vX3_isPrime_2 r Q n (nI i) μ) p 0 (Nat.zero_le _) (fun n hq => ?_) (fun n i _ hi ih hq => ?_)
    · rw [Nat.sub_self] at hq
      show vX3_isPrime_2B r Q _ (nI p) μ
      unfold vX3_isPrime_2B
      rw [h1]
      exact br_t (leT (Nat.le_refl _) (by omega)) hq
    · rw [show p - i = (p - (i + 1)) + 1 by omega] at hq
      show vX3_isPrime_2B r Q _ (nI i) μ
      unfold vX3_isPrime_2B
      rw [h1]
      refine br_f (leF hi (by omega)) ?_
      rw [nI_1]
      refine ex_sr (fun n j => vX3_isPrime_14 r Q _ n (nI i) (nI j) μ) (fun x => Q x μ) _ _ _ p (fun hk n => ?_) (fun n j hj c hk => ?_) (fun n j hj c ih2 => ?_) (i + 1) (by omega) hq
      · show vX3_isPrime_14B r Q _ _ (nI i) (nI p) μ
        unfold vX3_isPrime_14B
        rw [h1, nI_1]
        exact br_t (leT (Nat.le_refl _) (by omega)) (ih hk)
      · show vX3_isPrime_14B r Q _ _ (nI i) (nI j) μ
        unfold vX3_isPrime_14B
        rw [h1]
        refine br_f (leF hj (by omega)) (stateAhead_ok hR hp (by omega) (stateAhead_ok hR hp (by omega) ?_))
        have e : stA p h i = stA p h j := of_decide_eq_true c
        rw [e]
        exact nb_t rfl hk
      · show vX3_isPrime_14B r Q _ _ (nI i) (nI j) μ
        unfold vX3_isPrime_14B
        rw [h1]
        refine br_f (leF hj (by omega)) (stateAhead_ok hR hp (by omega) (stateAhead_ok hR hp (by omega) ?_))
        have e : ¬ stA p h i = stA p h j := of_decide_eq_false c
        have l1 := stN_lt (b := (i : Int)) hp hh 9
        have l2 := stN_lt (b := (j : Int)) hp hh 9
        unfold stA at e ⊢
        refine nb_f (neF e (by omega) (by omega)) ?_
        rw [nI_1]; exact ih2
  obtain ⟨n, hn⟩ := key
  exact ⟨n, hn hq⟩
theorem misPrime_ok {ν : gM} {τ : gJ} {p : Nat} {h : Nat → Nat} {Q : Int32 → gM → gJ → Prop} (hR : MRow ν p h) (hp : 0 < p) (hq : Q (prm p h) ν τ) : vX7_isPrime ν τ Q := by
  have h1 := hR.1
  have h8 := hR.2.1
  have hh := fun k hk => (hR.2.2 k hk).1
  have key : ∃ n, (Q (sr2 (fun i j => decide (stA p h i = stA p h j)) (fun _ _ => 0) 1 p (p - 0) 0) ν τ → vX7_isPrime_2 Q n (nI 0) ν τ) := by
    refine ex_up (fun n i => Q (sr2 (fun i j => decide (stA p h i = stA p h j)) (fun _ _ => 0) 1 p (p - i) i) ν τ → vX7_isPrime_2 Q n (nI i) ν τ) p 0 (Nat.zero_le _) (fun n hq => ?_) (fun n i _ hi ih hq => ?_)
    · rw [Nat.sub_self] at hq
      show vX7_isPrime_2B Q _ (nI p) ν τ
      unfold vX7_isPrime_2B
      rw [h1]
      exact br_t (leT (Nat.le_refl _) (by omega)) hq
    · rw [show p - i = (p - (i + 1)) + 1 by omega] at hq
      show vX7_isPrime_2B Q _ (nI i) ν τ
      unfold vX7_isPrime_2B
      rw [h1]
      refine br_f (leF hi (by omega)) ?_
      rw [nI_1]
      refine ex_sr (fun n j => vX7_isPrime_14 Q _ n (nI i) (nI j) ν τ) (fun x => Q x ν τ) _ _ _ p (fun hk n => ?_) (fun n j hj c hk => ?_) (fun n j hj c ih2 => ?_) (i + 1) (by omega) hq
      · show vX7_isPrime_14B Q _ _ (nI i) (nI p) ν τ
        unfold vX7_isPrime_14B
        rw [h1, nI_1]
        exact br_t (leT (Nat.le_refl _) (by omega)) (ih hk)
      · show vX7_isPrime_14B Q _ _ (nI i) (nI j) ν τ
        unfold vX7_isPrime_14B
        rw [h1]
        refine br_f (leF hj (by omega)) (mstateAhead_ok hR hp (by omega) (mstateAhead_ok hR hp (by omega) ?_))
        have e : stA p h i = stA p h j := of_decide_eq_true c
        rw [e]
        exact nb_t rfl hk
      · show vX7_isPrime_14B Q _ _ (nI i) (nI j) ν τ
        unfold vX7_isPrime_14B
        rw [h1]
        refine br_f (leF hj (by omega)) (mstateAhead_ok hR hp (by omega) (mstateAhead_ok hR hp (by omega) ?_))
        have e : ¬ stA p h i = stA p h j := of_decide_eq_false c
        have l1 := stN_lt (b := (i : Int)) hp hh 9
        have l2 := stN_lt (b := (j : Int)) hp hh 9
        unfold stA at e ⊢
        refine nb_f (neF e (by omega) (by omega)) ?_
        rw [nI_1]; exact ih2
  obtain ⟨n, hn⟩ := key
  exact ⟨n, hn hq⟩
theorem low_ok {B : Nat} (hB : B ≤ 9) : ((1 : Int32) <<< (nI B &&& 31)) - 1 = nI (2 ^ B - 1) := by
  have h2 : 1 ≤ 2 ^ B := Nat.one_le_two_pow
  rw [shl1 B (by omega), show (1 : Int32) = nI 1 from rfl, pk_sub h2]
theorem two9 {B : Nat} (hB : B ≤ 9) : 2 ^ B ≤ 512 := by
  have := Nat.pow_le_pow_right (n := 2) (by omega) hB
  omega
theorem isGround_ok {μ : gM} {r p : Nat} {h : Nat → Nat} {Q : Int32 → gM → Prop} (hR : IsRow μ r p h) (hp : 0 < p) (hq : Q (gnd p h) μ) : vX3_isGround r μ Q := by
  have h1 := hR.1
  have h8 := hR.2.1
  have hh := fun k hk => (hR.2.2 k hk).1
  have hB := blN_le hp hh
  have h29 := two9 hB
  unfold vX3_isGround
  refine ballCount_ok hR hp ?_
  rw [low_ok hB]
  refine ex_sr (fun n j => vX3_isGround_11 r Q n (nI (2 ^ blN p h - 1)) (nI j) μ) (fun x => Q x μ) _ _ _ p (fun hk n => ?_) (fun n j hj c hk => ?_) (fun n j hj c ih2 => ?_) 0 (Nat.zero_le _) hq
  · show vX3_isGround_11B r Q _ _ _ μ
    unfold vX3_isGround_11B
    rw [h1]
    exact br_t (leT (Nat.le_refl _) (by omega)) hk
  · show vX3_isGround_11B r Q _ _ _ μ
    unfold vX3_isGround_11B
    rw [h1]
    refine br_f (leF hj (by omega)) (stateAhead_ok hR hp (by omega) ?_)
    have e := of_decide_eq_true c
    rw [e]
    exact nb_t rfl hk
  · show vX3_isGround_11B r Q _ _ _ μ
    unfold vX3_isGround_11B
    rw [h1]
    refine br_f (leF hj (by omega)) (stateAhead_ok hR hp (by omega) ?_)
    have e : ¬ stA p h j = 2 ^ blN p h - 1 := of_decide_eq_false c
    have l1 := stN_lt (b := (j : Int)) hp hh 9
    unfold stA at e ⊢
    refine nb_f (neF e (by omega) (by omega)) ?_
    rw [nI_1]; exact ih2
theorem misGround_ok {ν : gM} {τ : gJ} {p : Nat} {h : Nat → Nat} {Q : Int32 → gM → gJ → Prop} (hR : MRow ν p h) (hp : 0 < p) (hq : Q (gnd p h) ν τ) : vX7_isGround ν τ Q := by
  have h1 := hR.1
  have h8 := hR.2.1
  have hh := fun k hk => (hR.2.2 k hk).1
  have hB := blN_le hp hh
  have h29 := two9 hB
  unfold vX7_isGround
  refine ex_sr (fun n j => vX7_isGround_2 Q n (nI j) ν τ) (fun x => Q x ν τ) _ _ _ p (fun hk n => ?_) (fun n j hj c hk => ?_) (fun n j hj c ih2 => ?_) 0 (Nat.zero_le _) hq
  · show vX7_isGround_2B Q _ _ ν τ
    unfold vX7_isGround_2B
    rw [h1]
    exact br_t (leT (Nat.le_refl _) (by omega)) hk
  · show vX7_isGround_2B Q _ _ ν τ
    unfold vX7_isGround_2B
    rw [h1]
    refine br_f (leF hj (by omega)) (mstateAhead_ok hR hp (by omega) (balls_ok hR hp ?_))
    have e := of_decide_eq_true c
    rw [low_ok hB, e]
    exact nb_t rfl hk
  · show vX7_isGround_2B Q _ _ ν τ
    unfold vX7_isGround_2B
    rw [h1]
    refine br_f (leF hj (by omega)) (mstateAhead_ok hR hp (by omega) (balls_ok hR hp ?_))
    have e : ¬ stA p h j = 2 ^ blN p h - 1 := of_decide_eq_false c
    have l1 := stN_lt (b := (j : Int)) hp hh 9
    rw [low_ok hB]
    unfold stA at e ⊢
    refine nb_f (neF e (by omega) (by omega)) ?_
    rw [nI_1]; exact ih2
/-! what a row without a clash is -/
theorem sr_none {α : Type} {e : Nat → Bool} {f : Nat → α} {R K : α} : ∀ {d j0 : Nat}, (∀ j, j < j0 + d → f j ≠ K) → sr e f R d j0 = K → (∀ j, j0 ≤ j → j < j0 + d → e j = false) ∧ R = K
  | 0, j0, _, h => ⟨fun j h1 h2 => by omega, h⟩
  | d + 1, j0, hf, h => by
    by_cases c : e j0 = true
    · simp only [sr, c, if_true] at h
      exact absurd h (hf j0 (by omega))
    · simp only [sr, c, if_false] at h
      obtain ⟨a, b⟩ := sr_none (d := d) (j0 := j0 + 1) (fun j hj => hf j (by omega)) h
      refine ⟨fun j h1 h2 => ?_, b⟩
      by_cases q : j = j0
      · rw [q]; simpa using c
      · exact a j (by omega) (by omega)
theorem sr2_none {α : Type} {e : Nat → Nat → Bool} {f : Nat → Nat → α} {K : α} {p : Nat} (hf : ∀ i j, i < p → j < p → f i j ≠ K) : ∀ {d i0 : Nat}, i0 + d = p → sr2 e f K p d i0 = K → ∀ i j, i0 ≤ i → i < j → j < p → e i j = false
  | 0, i0, hd, _, i, j, h1, h2, h3 => by omega
  | d + 1, i0, hd, h, i, j, h1, h2, h3 => by
    have hs := sr_none (e := e i0) (f := f i0) (R := sr2 e f K p d (i0 + 1)) (K := K) (d := p - (i0 + 1)) (j0 := i0 + 1) (fun j hj => hf i0 j (by omega) (by omega)) h
    by_cases q : i = i0
    · rw [q]; exact hs.1 j (by omega) (by omega)
    · exact sr2_none hf (d := d) (i0 := i0 + 1) (by omega) hs.2 i j (by omega) h2 h3
theorem gd_inj {p : Nat} {h : Nat → Nat} (hp8 : p ≤ 8) (hg : gd p h = true) : 0 < p ∧ ∀ i j, i < j → j < p → ld p h i ≠ ld p h j := by
  simp only [gd, Bool.and_eq_true, decide_eq_true_eq] at hg
  refine ⟨hg.1, fun i j h1 h2 => ?_⟩
  have := sr2_none (K := (-9 : Int32)) (e := fun i j => decide (ld p h i = ld p h j)) (f := fun i j => nI (10 * i + j)) (p := p) (fun i j h1 h2 => ne9 (by omega)) (d := p) (i0 := 0) (by omega) hg.2 i j (by omega) h1 h2
  exact of_decide_eq_false this
/-! orbits -/
def itl (p : Nat) (h : Nat → Nat) : Nat → Nat → Nat
  | 0, y => y
  | t + 1, y => ld p h (itl p h t y)
def lig (p : Nat) (h : Nat → Nat) (y : Nat) : Nat → Nat
  | 0 => y
  | t + 1 => min (lig p h y t) (itl p h (t + 1) y)
def lo (p : Nat) (h : Nat → Nat) (y : Nat) : Nat := lig p h y p
theorem itl_lt {p : Nat} {h : Nat → Nat} {y : Nat} (hy : y < p) : ∀ t, itl p h t y < p
  | 0 => hy
  | _ + 1 => ld_lt (by omega)
theorem itl_add {p : Nat} {h : Nat → Nat} {y t : Nat} : ∀ s, itl p h (s + t) y = itl p h s (itl p h t y)
  | 0 => by rw [Nat.zero_add]; rfl
  | s + 1 => by rw [Nat.add_right_comm]; show ld p h (itl p h (s + t) y) = ld p h _; rw [itl_add s]
theorem lig_ex {p : Nat} {h : Nat → Nat} {y : Nat} : ∀ n, ∃ t, t ≤ n ∧ lig p h y n = itl p h t y
  | 0 => ⟨0, Nat.le_refl _, rfl⟩
  | n + 1 => by
    obtain ⟨t, h1, h2⟩ := lig_ex (p := p) (h := h) (y := y) n
    by_cases c : lig p h y n ≤ itl p h (n + 1) y
    · exact ⟨t, by omega, by simp only [lig]; omega⟩
    · exact ⟨n + 1, Nat.le_refl _, by simp only [lig]; omega⟩
theorem lig_le {p : Nat} {h : Nat → Nat} {y : Nat} : ∀ n t, t ≤ n → lig p h y n ≤ itl p h t y
  | 0, t, ht => by rw [show t = 0 by omega]; exact Nat.le_refl _
  | n + 1, t, ht => by
    by_cases c : t = n + 1
    · rw [c]; simp only [lig]; omega
    · have := lig_le (p := p) (h := h) (y := y) n t (by omega)
      simp only [lig]; omega
theorem itl_can {p : Nat} {h : Nat → Nat} {x y : Nat} (inj : ∀ i j, i < j → j < p → ld p h i ≠ ld p h j) (hx : x < p) (hy : y < p) : ∀ t, itl p h t x = itl p h t y → x = y
  | 0, e => e
  | t + 1, e => by
    refine itl_can inj hx hy t ?_
    have h1 := itl_lt (h := h) hx t
    have h2 := itl_lt (h := h) hy t
    rcases Nat.lt_trichotomy (itl p h t x) (itl p h t y) with c | c | c
    · exact absurd e (inj _ _ c h2)
    · exact c
    · exact absurd e.symm (inj _ _ c h1)
theorem itl_per {p : Nat} {h : Nat → Nat} {y : Nat} (inj : ∀ i j, i < j → j < p → ld p h i ≠ ld p h j) (hy : y < p) : ∃ c, 0 < c ∧ c ≤ p ∧ itl p h c y = y := by
  obtain ⟨i, j, h1, h2, h3⟩ := fb_twice (m := p) (n := p + 1) (f := fun t => itl p h t y) (fun t _ => itl_lt hy t) (by omega)
  refine ⟨j - i, by omega, by omega, ?_⟩
  have e : itl p h j y = itl p h i (itl p h (j - i) y) := by rw [← itl_add]; congr 1; omega
  have h3 : itl p h i y = itl p h j y := h3
  rw [e] at h3
  exact (itl_can inj hy (itl_lt hy _) i h3).symm
theorem itl_mul {p : Nat} {h : Nat → Nat} {y c : Nat} (hc : itl p h c y = y) : ∀ m, itl p h (c * m) y = y
  | 0 => rfl
  | m + 1 => by rw [Nat.mul_add, Nat.mul_one, itl_add, hc, itl_mul hc m]
theorem lo_le {p : Nat} {h : Nat → Nat} {y : Nat} (inj : ∀ i j, i < j → j < p → ld p h i ≠ ld p h j) (hy : y < p) (t : Nat) : lo p h y ≤ itl p h t y := by
  obtain ⟨c, h1, h2, h3⟩ := itl_per inj hy
  have e : itl p h t y = itl p h (t % c) y := by
    have e1 : t = t % c + c * (t / c) := by rw [Nat.mod_add_div]
    calc itl p h t y = itl p h (t % c + c * (t / c)) y := by rw [← e1]
      _ = itl p h (t % c) y := by rw [itl_add, itl_mul h3]
  rw [e]
  have := Nat.mod_lt t h1
  exact lig_le p _ (by omega)
theorem lo_ex {p : Nat} {h : Nat → Nat} {y : Nat} : ∃ t, lo p h y = itl p h t y := by
  obtain ⟨t, -, e⟩ := lig_ex (p := p) (h := h) (y := y) p
  exact ⟨t, e⟩
theorem itl_back {p : Nat} {h : Nat → Nat} {y : Nat} (inj : ∀ i j, i < j → j < p → ld p h i ≠ ld p h j) (hy : y < p) (t : Nat) : ∃ u, itl p h u (itl p h t y) = y := by
  obtain ⟨c, h1, h2, h3⟩ := itl_per inj hy
  refine ⟨c * t - t, ?_⟩
  rw [← itl_add]
  have : t ≤ c * t := Nat.le_mul_of_pos_left t h1
  rw [show c * t - t + t = c * t by omega]
  exact itl_mul h3 t
theorem lo_itl {p : Nat} {h : Nat → Nat} {y : Nat} (inj : ∀ i j, i < j → j < p → ld p h i ≠ ld p h j) (hy : y < p) (t : Nat) : lo p h (itl p h t y) = lo p h y := by
  have hz := itl_lt (h := h) hy t
  apply Nat.le_antisymm
  · obtain ⟨s, hs⟩ := lo_ex (p := p) (h := h) (y := y)
    obtain ⟨u, hu⟩ := itl_back inj hy t
    rw [hs]
    have := lo_le inj hz (s + u)
    rw [itl_add, hu] at this
    exact this
  · obtain ⟨s, hs⟩ := lo_ex (p := p) (h := h) (y := itl p h t y)
    rw [hs, ← itl_add]
    exact lo_le inj hy _
theorem lo_lt {p : Nat} {h : Nat → Nat} {y : Nat} (hy : y < p) : lo p h y < p := by
  obtain ⟨t, e⟩ := lo_ex (p := p) (h := h) (y := y)
  rw [e]; exact itl_lt hy t
theorem lo_self {p : Nat} {h : Nat → Nat} {y : Nat} (inj : ∀ i j, i < j → j < p → ld p h i ≠ ld p h j) (hy : y < p) : lo p h y ≤ y := lo_le inj hy 0
theorem lo_lo {p : Nat} {h : Nat → Nat} {y : Nat} (inj : ∀ i j, i < j → j < p → ld p h i ≠ ld p h j) (hy : y < p) : lo p h (lo p h y) = lo p h y := by
  obtain ⟨t, e⟩ := lo_ex (p := p) (h := h) (y := y)
  rw [e, lo_itl inj hy, ← e]
theorem lo_orb {p : Nat} {h : Nat → Nat} {y : Nat} (inj : ∀ i j, i < j → j < p → ld p h i ≠ ld p h j) (hy : y < p) : ∃ u, y = itl p h u (lo p h y) := by
  obtain ⟨t, e⟩ := lo_ex (p := p) (h := h) (y := y)
  obtain ⟨u, hu⟩ := itl_back inj hy t
  exact ⟨u, by rw [e, hu]⟩
def oc (p : Nat) (h : Nat → Nat) (n : Nat) : Nat := fb_ct (fun j => decide (lo p h j = j)) n
theorem leastInOrbit_ok {μ : gM} {r p : Nat} {h : Nat → Nat} {k : Nat} {Q : Int32 → gM → Prop} (hR : IsRow μ r p h) (hk : k < p) (hq : Q (nI (lo p h k)) μ) : vX3_leastInOrbit r (nI k) μ Q := by
  have h1 := hR.1
  have h8 := hR.2.1
  have hl : ∀ n, lig p h k n < p := fun n => by
    obtain ⟨t, -, e⟩ := lig_ex (p := p) (h := h) (y := k) n
    rw [e]; exact itl_lt hk t
  refine ex_up (fun n t => vX3_leastInOrbit_7 r (nI k) Q n (nI (lig p h k t)) (nI (itl p h t k)) (nI t) μ) p 0 (Nat.zero_le _) (fun n => ?_) (fun n t _ ht ih => ?_)
  · show vX3_leastInOrbit_7B r _ Q _ _ _ _ μ
    unfold vX3_leastInOrbit_7B
    rw [h1]
    exact br_t (leT (Nat.le_refl _) (by omega)) hq
  · show vX3_leastInOrbit_7B r _ Q _ _ _ _ μ
    unfold vX3_leastInOrbit_7B vJ9_min_7cf53
    rw [h1]
    have l1 := itl_lt (h := h) hk t
    have l2 := itl_lt (h := h) hk (t + 1)
    have l3 := hl t
    refine br_f (leF ht (by omega)) (landingOf_ok hR l1 ?_)
    rw [nI_1]
    have ih : vX3_leastInOrbit_7 r (nI k) Q n (nI (min (lig p h k t) (ld p h (itl p h t k)))) (nI (ld p h (itl p h t k))) (nI (t + 1)) μ := ih
    have l2 : ld p h (itl p h t k) < p := l2
    by_cases c : ld p h (itl p h t k) < lig p h k t
    · refine br_t (ltT c (by omega)) ?_
      rw [show min (lig p h k t) (ld p h (itl p h t k)) = ld p h (itl p h t k) by omega] at ih
      exact ih
    · refine br_f (ltF (by omega) (by omega)) ?_
      rw [show min (lig p h k t) (ld p h (itl p h t k)) = lig p h k t by omega] at ih
      exact ih
theorem orbitsBelow_ok {μ : gM} {r p : Nat} {h : Nat → Nat} {e : Nat} {Q : Int32 → gM → Prop} (hR : IsRow μ r p h) (he : e ≤ p) (hq : Q (nI (oc p h e)) μ) : vX3_orbitsBelow r (nI e) μ Q := by
  have h1 := hR.1
  have h8 := hR.2.1
  refine ex_up (fun n t => vX3_orbitsBelow_4 r (nI e) Q n (nI (oc p h t)) (nI t) μ) e 0 (Nat.zero_le _) (fun n => ?_) (fun n t _ ht ih => ?_)
  · show vX3_orbitsBelow_4B r _ Q _ _ _ μ
    unfold vX3_orbitsBelow_4B
    exact br_t (leT (Nat.le_refl _) (by omega)) hq
  · show vX3_orbitsBelow_4B r _ Q _ _ _ μ
    unfold vX3_orbitsBelow_4B
    have l1 := lo_lt (h := h) (show t < p by omega)
    refine br_f (leF ht (by omega)) (leastInOrbit_ok hR (by omega) ?_)
    rw [nI_1, nI_1]
    by_cases c : lo p h t = t
    · rw [c]
      refine nb_t rfl ?_
      rw [show oc p h t + 1 = oc p h (t + 1) by simp [oc, fb_ct_succ, c]]
      exact ih
    · refine nb_f (neF c (by omega) (by omega)) ?_
      rw [show oc p h t = oc p h (t + 1) by simp [oc, fb_ct_succ, c]]
      exact ih
