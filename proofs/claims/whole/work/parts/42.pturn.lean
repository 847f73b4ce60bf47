/-! backward, the greatest turn, likeness -/
theorem ld_eq {p : Nat} {h : Nat → Nat} (inj : ∀ i j, i < j → j < p → ld p h i ≠ ld p h j) {i j : Nat} (hi : i < p) (hj : j < p) (e : ld p h i = ld p h j) : i = j := by
  apply Classical.byContradiction
  intro c
  rcases Nat.lt_or_gt_of_ne c with z | z
  · exact inj i j z hj e
  · exact inj j i z hi e.symm
theorem bw_ex {p : Nat} {h : Nat → Nat} (hp : 0 < p) (inj : ∀ i j, i < j → j < p → ld p h i ≠ ld p h j) : ∃ f : Nat → Nat, ∀ j, j < p → f j < p ∧ p - 1 - ld p h (f j) = j := by
  have key : ∀ j, ∃ k, j < p → k < p ∧ p - 1 - ld p h k = j := by
    intro j
    by_cases c : j < p
    · obtain ⟨k, h1, h2⟩ := fb_onto (n := p) (f := ld p h) (fun i hi => ld_lt hp) inj (y := p - 1 - j) (by omega)
      exact ⟨k, fun _ => ⟨h1, by omega⟩⟩
    · exact ⟨0, fun z => absurd z c⟩
  exact ⟨fun j => Classical.choose (key j), fun j => Classical.choose_spec (key j)⟩
theorem takeBackward_ok {μ : gM} {p : Nat} {h : Nat → Nat} {Q : gM → Prop} (hR : IsRow μ 1 p h) (hp : 0 < p) (inj : ∀ i j, i < j → j < p → ld p h i ≠ ld p h j) (hq : ∀ μ', (∀ id, id ≠ 0 → id ≠ 5 → μ' id = μ id) → μ' 0 1 = nI p → (∀ k, k < p → μ' 5 (p - 1 - ld p h k) = nI (h k)) → Q μ') : vX3_takeBackward 0 1 μ Q := by
  obtain ⟨h1, h8, hh⟩ := id hR
  unfold vX3_takeBackward
  rw [h1]
  have key : ∃ n, ∀ μ', ((∀ id, id ≠ 5 → μ' id = up2 μ 0 1 (nI p) id) ∧ ∀ j, j < 0 → μ' 5 (p - 1 - ld p h j) = nI (h j)) → vX3_takeBackward_10 0 1 Q n (nI 0) μ' := by
    refine ex_up (fun n k => ∀ μ', ((∀ id, id ≠ 5 → μ' id = up2 μ 0 1 (nI p) id) ∧ ∀ j, j < k → μ' 5 (p - 1 - ld p h j) = nI (h j)) → vX3_takeBackward_10 0 1 Q n (nI k) μ') p 0 (Nat.zero_le _) (fun n μ' hI => ?_) (fun n k _ hk ih μ' hI => ?_)
    · have e1 : μ' 0 1 = nI p := by rw [hI.1 0 (by omega), u_e]
      show vX3_takeBackward_10B 0 1 Q _ _ μ'
      unfold vX3_takeBackward_10B
      rw [e1]
      exact br_t (leT (Nat.le_refl _) (by omega)) (hq μ' (fun id i1 i2 => by rw [hI.1 id i2, up2_n i1]) e1 hI.2)
    · have e1 : μ' 0 1 = nI p := by rw [hI.1 0 (by omega), u_e]
      have l1 := ld_lt (h := h) (k := k) hp
      show vX3_takeBackward_10B 0 1 Q _ _ μ'
      unfold vX3_takeBackward_10B
      rw [e1]
      have hR' : IsRow μ' 1 p h := hR.fr (by rw [hI.1 1 (by omega), up2_n (by omega)]) (by rw [hI.1 6 (by omega), up2_n (by omega)])
      refine br_f (leF hk (by omega)) (landingOf_ok hR' hk (heightIn_ok hR' hp ?_))
      rw [nI_int (by omega), hz_i hk, show nI p - 1 - nI (ld p h k) = nI (p - 1 - ld p h k) by rw [show (1 : Int32) = nI 1 from rfl, pk_sub (by omega), pk_sub (by omega)]]
      refine setHeight_ok e1 h8 (by omega) ?_
      rw [nI_1]
      refine ih _ ⟨fun id hid => by rw [up2_n hid]; exact hI.1 id hid, fun j hj => ?_⟩
      by_cases c : j = k
      · rw [c]; exact u_e
      · have l2 := ld_lt (h := h) (k := j) hp
        have : ld p h j ≠ ld p h k := fun e => c (ld_eq inj (by omega) hk e)
        rw [show (5 + 0 : Nat) = 5 from rfl, u_o (by omega)]; exact hI.2 j (by omega)
  obtain ⟨n, hn⟩ := key
  exact ⟨n, hn _ ⟨fun _ _ => rfl, fun j hj => by omega⟩⟩
/-- the row from beat a on -/
def ro (p : Nat) (h : Nat → Nat) (a k : Nat) : Nat := h ((k + a) % p)
def tg (p : Nat) (h : Nat → Nat) (a b : Nat) : Bool := sr (fun k => decide (ro p h a k ≠ ro p h b k)) (fun k => decide (ro p h b k < ro p h a k)) false p 0
def bt (p : Nat) (h : Nat → Nat) : Nat → Nat
  | 0 => 0
  | k + 1 => if tg p h k (bt p h k) = true then k else bt p h k
theorem bt_le {p : Nat} {h : Nat → Nat} : ∀ k, bt p h k ≤ k := by
  intro k
  induction k with
  | zero => exact Nat.le_refl _
  | succ k ih => simp only [bt]; split <;> omega
theorem bt_lt {p : Nat} {h : Nat → Nat} : ∀ k, bt p h (k + 1) ≤ k := by
  intro k
  have := bt_le (p := p) (h := h) k
  simp only [bt]; split <;> omega
theorem tg_self {p : Nat} {h : Nat → Nat} {a : Nat} : tg p h a a = false := by
  unfold tg
  generalize 0 = j
  generalize hd : p = d
  have : ∀ d j, sr (fun k => decide (ro p h a k ≠ ro p h a k)) (fun k => decide (ro p h a k < ro p h a k)) false d j = false := by
    intro d
    induction d with
    | zero => intro j; rfl
    | succ d ih => intro j; simp only [sr]; simp; simpa using ih (j + 1)
  subst hd
  exact this p j
theorem bt_1 {p : Nat} {h : Nat → Nat} : bt p h 1 = 0 := by
  show (if tg p h 0 0 = true then 0 else 0) = 0
  rw [tg_self]; rfl
def vl (s : Nat → Nat) : Nat → Nat
  | 0 => 0
  | n + 1 => vl s n * 10 + s n
theorem vl_lt {s t : Nat → Nat} {n : Nat} (hs : ∀ k, k < n → s k ≤ 9) {j : Nat} (hj : j < n) (e : ∀ k, k < j → s k = t k) (l : s j < t j) : vl s n < vl t n := by
  have e1 : ∀ m, m ≤ j → vl s m = vl t m := by
    intro m
    induction m with
    | zero => intro _; rfl
    | succ m ih => intro hm; simp only [vl, ih (by omega), e m (by omega)]
  have key : ∀ m, j < m → m ≤ n → vl s m < vl t m := by
    intro m
    induction m with
    | zero => intro h; omega
    | succ m ih =>
      intro h1 h2
      simp only [vl]
      have hs := hs m (by omega)
      by_cases c : m = j
      · rw [c, e1 j (by omega)]; omega
      · have := ih (by omega) (by omega); omega
  exact key n hj (Nat.le_refl _)
theorem vl_eq {s t : Nat → Nat} {n : Nat} (e : ∀ k, k < n → s k = t k) : vl s n = vl t n := by
  have key : ∀ m, m ≤ n → vl s m = vl t m := by
    intro m
    induction m with
    | zero => intro _; rfl
    | succ m ih => intro hm; simp only [vl, ih (by omega), e m (by omega)]
  exact key n (Nat.le_refl _)
theorem vl_inj {s t : Nat → Nat} : ∀ n, (∀ k, k < n → s k ≤ 9) → (∀ k, k < n → t k ≤ 9) → vl s n = vl t n → ∀ k, k < n → s k = t k := by
  intro n
  induction n with
  | zero => intro _ _ _ k hk; omega
  | succ n ih =>
    intro hs ht e k hk
    simp only [vl] at e
    have a := hs n (by omega)
    have b := ht n (by omega)
    by_cases c : k = n
    · rw [c]; omega
    · exact ih (fun k hk => hs k (by omega)) (fun k hk => ht k (by omega)) (by omega) k (by omega)
theorem ro_le {p : Nat} {h : Nat → Nat} (hp : 0 < p) (hh : ∀ k, k < p → h k ≤ 9) (a k : Nat) : ro p h a k ≤ 9 := hh _ (Nat.mod_lt _ hp)
theorem tg_vl {p : Nat} {h : Nat → Nat} (hp : 0 < p) (hh : ∀ k, k < p → h k ≤ 9) (a b : Nat) : tg p h a b = decide (vl (ro p h b) p < vl (ro p h a) p) := by
  have key : ∀ d j, d + j = p → (∀ k, k < j → ro p h a k = ro p h b k) → sr (fun k => decide (ro p h a k ≠ ro p h b k)) (fun k => decide (ro p h b k < ro p h a k)) false d j = decide (vl (ro p h b) p < vl (ro p h a) p) := by
    intro d
    induction d with
    | zero =>
      intro j hj e
      have : vl (ro p h a) p = vl (ro p h b) p := vl_eq (fun k hk => e k (by omega))
      simp [sr, this]
    | succ d ih =>
      intro j hj e
      by_cases c : ro p h a j = ro p h b j
      · simp only [sr, c]
        simp only [ne_eq, not_true_eq_false, decide_false, Bool.false_eq_true, if_false]
        exact ih (j + 1) (by omega) (fun k hk => by
          by_cases z : k = j
          · rw [z]; exact c
          · exact e k (by omega))
      · have c2 : decide (ro p h a j ≠ ro p h b j) = true := decide_eq_true c
        simp only [sr, c2, if_true]
        rcases Nat.lt_or_gt_of_ne c with z | z
        · have := vl_lt (t := ro p h b) (n := p) (fun k _ => ro_le hp hh a k) (by omega) e z
          rw [decide_eq_false (by omega), decide_eq_false (by omega)]
        · have := vl_lt (t := ro p h a) (n := p) (fun k _ => ro_le hp hh b k) (by omega) (fun k hk => (e k hk).symm) z
          rw [decide_eq_true z, decide_eq_true this]
  exact key p 0 (by omega) (fun k hk => by omega)
theorem bt_max {p : Nat} {h : Nat → Nat} (hp : 0 < p) (hh : ∀ k, k < p → h k ≤ 9) : ∀ n j, j < n → vl (ro p h j) p ≤ vl (ro p h (bt p h n)) p := by
  intro n
  induction n with
  | zero => intro j hj; omega
  | succ n ih =>
    intro j hj
    simp only [bt, tg_vl hp hh]
    by_cases c : vl (ro p h (bt p h n)) p < vl (ro p h n) p
    · rw [if_pos (decide_eq_true c)]
      by_cases z : j = n
      · rw [z]; exact Nat.le_refl _
      · have := ih j (by omega); omega
    · rw [if_neg (by simpa using c)]
      by_cases z : j = n
      · rw [z]; omega
      · exact ih j (by omega)
section S7
variable {K : gM → gM → gJ → Prop} {μ ν : gM} {τ : gJ} {QX : Int32 → gM → Prop} {a b : Int32}
theorem hz_ro {p : Nat} {h : Nat → Nat} {a k : Nat} (ha : a < 1000) (hk : k < 1000) : hz p h (nI k + nI a).toInt = ro p h a k := by rw [nI_add, nI_int (by omega), hz_nat]; rfl
theorem s_backward (hK : ∀ μ' ν' τ', Rel μ' ν' → K μ' ν' τ') (hr : Rel μ ν) (hQ : ∀ x μ1, vX7_backward ν τ (En K x μ1) → QX x μ1) : vX6_backward μ QX := by
  obtain ⟨p, h, hx, hm, h0, hpos⟩ := hr.1
  have h8 := hx.2.1
  unfold vX6_backward
  unfold vX7_backward at hQ
  refine isGood_ok hx ?_
  by_cases g : gd p h = true
  · obtain ⟨hp, inj⟩ := gd_inj h8 g
    obtain ⟨f, hf⟩ := bw_ex hp inj
    rw [b01_t g]
    refine nb_f (by decide) (take_ok hx hp (by omega) (by omega) (by omega) (fun μ1 hf1 hR1 => takeBackward_ok hR1 hp inj (fun μ2 hf2 e1 e2 => ?_)))
    have hR2 : IsRow μ2 0 p (fun j => h (f j)) := ⟨e1, h8, fun k hk => by
      obtain ⟨f1, f2⟩ := hf k hk
      have := e2 (f k) f1
      rw [f2] at this
      exact ⟨(hx.2.2 _ f1).1, this⟩⟩
    refine heightIn_ok hR2 hp ?_
    rw [show (0 : Int32).toInt = ((0 : Nat) : Int) from rfl, hz_i hp]
    refine hQ _ _ (misGood_ok hm ?_)
    rw [b01_t g]
    refine nb_f (by decide) ?_
    have key : ∃ n, ∀ ν', ((∀ id, id ≠ 40 → ν' id = ν id) ∧ ∀ k, k < 0 → ν' 40 (p - 1 - ld p h k) = nI (h k)) → vX7_backward_12 (En K (nI (h (f 0))) μ2) n (nI 0) ν' τ := by
      refine ex_up (fun n q => ∀ ν', ((∀ id, id ≠ 40 → ν' id = ν id) ∧ ∀ k, k < q → ν' 40 (p - 1 - ld p h k) = nI (h k)) → vX7_backward_12 (En K (nI (h (f 0))) μ2) n (nI q) ν' τ) p 0 (Nat.zero_le _) (fun n ν' hI => ?_) (fun n q _ hq ih ν' hI => ?_)
      · have e5 : ν' 32 5 = nI p := by rw [hI.1 32 (by decide), hm.1]
        show vX7_backward_12B _ _ _ ν' τ
        unfold vX7_backward_12B
        rw [e5]
        refine br_t (leT (Nat.le_refl _) (by omega)) (takeNext_ok (g := fun j => h (f j)) e5 h8 (fun k hk => ⟨(hx.2.2 _ (hf k hk).1).1, ?_⟩) (fun ν2 hf3 hM2 => ⟨inI (a := 0) (by omega) (by omega), ?_⟩))
        · have := hI.2 (f k) (hf k hk).1
          rw [(hf k hk).2] at this
          exact this
        · rw [show (0 : Int32).toNatClampNeg = 0 from rfl, (hM2.2.2 0 hp).2]
          refine en hK (hr.row hx hp hp (fun id z1 z2 z3 => ?_) (fun id z1 z2 => ?_) (fun k _ _ _ => ?_) hR2 hM2)
          · have z3 : ¬ (id = 1 ∨ id = 6 ∨ id = 18 ∨ id = 19 ∨ id = 22 ∨ id = 23 ∨ id = 24 ∨ id = 25 ∨ id = 26 ∨ id = 27 ∨ id = 28) := z3
            rw [hf2 id (by omega) (by omega), hf1 id (by omega) (by omega)]
          · have z2 : ¬ (id = 32 ∨ id = 38 ∨ id = 39 ∨ id = 40 ∨ id = 43 ∨ id = 45) := z2
            rw [hf3 id z1, hI.1 id (by omega)]
          · rw [hf3 32 (by decide), hI.1 32 (by decide)]
      · have e5 : ν' 32 5 = nI p := by rw [hI.1 32 (by decide), hm.1]
        have l1 := ld_lt (h := h) (k := q) hp
        show vX7_backward_12B _ _ _ ν' τ
        unfold vX7_backward_12B
        rw [e5]
        have hM' : MRow ν' p h := hm.fr (by rw [hI.1 32 (by decide)]) (hI.1 36 (by decide))
        refine br_f (leF hq (by omega)) (landsIn_ok hM' hq ⟨inI (by omega) (by omega), ?_⟩)
        rw [show nI p - 1 - nI (ld p h q) = nI (p - 1 - ld p h q) by rw [show (1 : Int32) = nI 1 from rfl, pk_sub (by omega), pk_sub (by omega)], cl (by omega), cl (by omega), (hM'.2.2 q hq).2, nI_1]
        refine ⟨inI (by omega) (by omega), ih _ ⟨fun id z => by rw [up2_n z]; exact hI.1 id z, fun k hk => ?_⟩⟩
        by_cases c : k = q
        · rw [c, u_e]
        · have l2 := ld_lt (h := h) (k := k) hp
          have : ld p h k ≠ ld p h q := fun e => c (ld_eq inj (by omega) hq e)
          rw [u_o (by omega)]; exact hI.2 k (by omega)
    obtain ⟨n, hn⟩ := key
    exact ⟨n, hn _ ⟨fun _ _ => rfl, fun k hk => by omega⟩⟩
  · have g := Bool.eq_false_iff.mpr g
    rw [b01_f g]
    exact nb_t rfl (hQ _ _ (misGood_ok hm (by rw [b01_f g]; exact nb_t rfl (en hK hr))))
theorem isTurnGreater_ok {r p x y : Nat} {h : Nat → Nat} {Q : Int32 → gM → Prop} (hR : IsRow μ r p h) (hp : 0 < p) (hx : x < 1000) (hy : y < 1000) (hq : Q (b01 (tg p h x y)) μ) : vX3_isTurnGreater r (nI x) (nI y) μ Q := by
  have h1 := hR.1
  have h8 := hR.2.1
  have hh := fun k hk => (hR.2.2 k hk).1
  unfold vX3_isTurnGreater
  refine ex_sr (fun n j => vX3_isTurnGreater_2 r (nI x) (nI y) Q n (nI j) μ) (fun z => Q (b01 z) μ) _ _ _ p (fun hk n => ?_) (fun n j hj c hk => ?_) (fun n j hj c ih => ?_) 0 (Nat.zero_le _) hq
  · show vX3_isTurnGreater_2B r _ _ Q _ _ μ
    unfold vX3_isTurnGreater_2B
    rw [h1]
    exact br_t (leT (Nat.le_refl _) (by omega)) hk
  · show vX3_isTurnGreater_2B r _ _ Q _ _ μ
    unfold vX3_isTurnGreater_2B
    rw [h1]
    refine br_f (leF hj (by omega)) (heightIn_ok hR hp (heightIn_ok hR hp ?_))
    rw [hz_ro hx (by omega), hz_ro hy (by omega)]
    have a9 := ro_le hp hh x j
    have b9 := ro_le hp hh y j
    have c := of_decide_eq_true c
    rcases Nat.lt_or_gt_of_ne c with z | z
    · rw [b01_f (decide_eq_false (by omega))] at hk
      have hneg : (nI (ro p h x j) - nI (ro p h y j)).toInt = (ro p h x j : Int) - (ro p h y j : Int) := by
        rw [sub_i (by rw [nI_int (by omega), nI_int (by omega)]; omega) (by rw [nI_int (by omega), nI_int (by omega)]; omega), nI_int (by omega), nI_int (by omega)]
      have z0 : (0 : Int32).toInt = 0 := rfl
      refine br_f (fun e => ?_) (br_t (le_i.mpr (by rw [hneg, z0]; omega)) hk)
      have := congrArg Int32.toInt e
      rw [hneg, z0] at this; omega
    · rw [b01_t (decide_eq_true z)] at hk
      rw [pk_sub (by omega)]
      exact br_f (ne0 (by omega) (by omega)) (br_f (leF (b := 0) (by omega) (by omega)) hk)
  · show vX3_isTurnGreater_2B r _ _ Q _ _ μ
    unfold vX3_isTurnGreater_2B
    rw [h1]
    refine br_f (leF hj (by omega)) (heightIn_ok hR hp (heightIn_ok hR hp ?_))
    rw [hz_ro hx (by omega), hz_ro hy (by omega)]
    have c : ro p h x j = ro p h y j := Classical.byContradiction (fun z => by
      have := of_decide_eq_false c
      exact this z)
    rw [c, pk_sub (Nat.le_refl _), Nat.sub_self, nI_1]
    exact br_t rfl ih
theorem greatestTurn_ok {r p : Nat} {h : Nat → Nat} {Q : Int32 → gM → Prop} (hR : IsRow μ r p h) (hp : 0 < p) (hq : Q (nI (bt p h p)) μ) : vX3_greatestTurn r μ Q := by
  have h1 := hR.1
  have h8 := hR.2.1
  unfold vX3_greatestTurn
  have key := ex_up (fun n k => vX3_greatestTurn_4 r Q n (nI (bt p h k)) (nI k) μ) p 1 hp (fun n => ?_) (fun n k _ hk ih => ?_)
  · rw [bt_1] at key; exact key
  · show vX3_greatestTurn_4B r Q _ _ _ μ
    unfold vX3_greatestTurn_4B
    rw [h1]
    exact br_t (leT (Nat.le_refl _) (by omega)) hq
  · show vX3_greatestTurn_4B r Q _ _ _ μ
    unfold vX3_greatestTurn_4B
    have := bt_le (p := p) (h := h) k
    rw [h1, nI_1]
    refine br_f (leF hk (by omega)) (isTurnGreater_ok hR hp (by omega) (by omega) ?_)
    by_cases c : tg p h k (bt p h k) = true
    · rw [b01_t c]
      refine br_f (by decide) ?_
      simp only [bt, if_pos c] at ih
      exact ih
    · have c2 := Bool.eq_false_iff.mpr c
      rw [b01_f c2]
      refine br_t rfl ?_
      simp only [bt, if_neg c] at ih
      exact ih
theorem misGreater_ok {p x y : Nat} {h : Nat → Nat} {Q : Int32 → gM → gJ → Prop} (hR : MRow ν p h) (hp : 0 < p) (hx : x < 1000) (hy : y < 1000) (hq : Q (b01 (tg p h x y)) ν τ) : vX7_isGreater (nI x) (nI y) ν τ Q := by
  have h1 := hR.1
  have h8 := hR.2.1
  have hh := fun k hk => (hR.2.2 k hk).1
  unfold vX7_isGreater
  refine ex_sr (fun n j => vX7_isGreater_2 (nI x) (nI y) Q n (nI j) ν τ) (fun z => Q (b01 z) ν τ) _ _ _ p (fun hk n => ?_) (fun n j hj c hk => ?_) (fun n j hj c ih => ?_) 0 (Nat.zero_le _) hq
  · show vX7_isGreater_2B _ _ Q _ _ ν τ
    unfold vX7_isGreater_2B
    rw [h1]
    exact br_t (leT (Nat.le_refl _) (by omega)) hk
  · have m1 := Nat.mod_lt (j + x) hp
    have m2 := Nat.mod_lt (j + y) hp
    show vX7_isGreater_2B _ _ Q _ _ ν τ
    unfold vX7_isGreater_2B
    rw [h1, nI_add, nI_add, rem_nat (by omega) hp (by omega), rem_nat (by omega) hp (by omega), cl (by omega), cl (by omega), (hR.2.2 _ m1).2, (hR.2.2 _ m2).2]
    have a9 := ro_le hp hh x j
    have b9 := ro_le hp hh y j
    have c : ro p h x j ≠ ro p h y j := of_decide_eq_true c
    unfold ro at c a9 b9 hk
    refine br_f (leF hj (by omega)) ⟨ne0 hp (by omega), inI (by omega) (by omega), ne0 hp (by omega), inI (by omega) (by omega), br_f (neF c (by omega) (by omega)) ?_⟩
    rcases Nat.lt_or_gt_of_ne c with z | z
    · rw [b01_f (decide_eq_false (by omega))] at hk
      exact br_t (leT (by omega) (by omega)) hk
    · rw [b01_t (decide_eq_true z)] at hk
      exact br_f (leF (by omega) (by omega)) hk
  · have m1 := Nat.mod_lt (j + x) hp
    have m2 := Nat.mod_lt (j + y) hp
    show vX7_isGreater_2B _ _ Q _ _ ν τ
    unfold vX7_isGreater_2B
    rw [h1, nI_add, nI_add, rem_nat (by omega) hp (by omega), rem_nat (by omega) hp (by omega), cl (by omega), cl (by omega), (hR.2.2 _ m1).2, (hR.2.2 _ m2).2]
    have c : ro p h x j = ro p h y j := Classical.byContradiction (fun z => by
      have := of_decide_eq_false c
      exact this z)
    unfold ro at c
    rw [c, nI_1]
    exact br_f (leF hj (by omega)) ⟨ne0 hp (by omega), inI (by omega) (by omega), ne0 hp (by omega), inI (by omega) (by omega), br_t rfl ih⟩
theorem s_greatest (hK : ∀ μ' ν' τ', Rel μ' ν' → K μ' ν' τ') (hr : Rel μ ν) (hQ : ∀ x μ1, vX7_greatest a ν τ (En K x μ1) → QX x μ1) : vX6_greatest a μ QX := by
  obtain ⟨p, h, hx, hm, h0, hpos⟩ := hr.1
  have h8 := hx.2.1
  unfold vX6_greatest
  unfold vX7_greatest at hQ
  rcases bt_cases a h8 with ⟨i, hi, rfl⟩ | ho
  · have hp : 0 < p := by omega
    have hb := bt_le (p := p) (h := h) p
    refine hb_in hx.1 h8 hi (br_f (by decide) (greatestTurn_ok hx hp (heightIn_ok hx hp ?_)))
    rw [nI_add, nI_int (by omega), hz_nat]
    refine hQ _ _ (ib_in hm.1 h8 hi (nb_f (by decide) ?_))
    have key := ex_up (fun n k => vX7_greatest_14 (nI i) (En K (nI (h ((bt p h p + i) % p))) μ) n (nI (bt p h k)) (nI k) ν τ) p 1 hp (fun n => ?_) (fun n k _ hk ih => ?_)
    · rw [bt_1] at key; exact key
    · have m1 := Nat.mod_lt (i + bt p h p) hp
      show vX7_greatest_14B _ _ _ _ _ ν τ
      unfold vX7_greatest_14B
      rw [hm.1, nI_add, rem_nat (by omega) hp (by omega), cl (by omega), (hm.2.2 _ m1).2, Nat.add_comm i]
      rw [Nat.add_comm i] at m1
      exact br_t (leT (Nat.le_refl _) (by omega)) ⟨ne0 hp (by omega), inI (by omega) (by omega), en hK hr⟩
    · have := bt_le (p := p) (h := h) k
      show vX7_greatest_14B _ _ _ _ _ ν τ
      unfold vX7_greatest_14B
      rw [hm.1, nI_1]
      refine br_f (leF hk (by omega)) (misGreater_ok hm hp (by omega) (by omega) ?_)
      by_cases c : tg p h k (bt p h k) = true
      · rw [b01_t c]
        refine br_f (by decide) ?_
        simp only [bt, if_pos c] at ih
        exact ih
      · have c2 := Bool.eq_false_iff.mpr c
        rw [b01_f c2]
        refine br_t rfl ?_
        simp only [bt, if_neg c] at ih
        exact ih
  · exact hb_out hx.1 h8 ho (br_t rfl (hQ _ _ (ib_out hm.1 h8 ho (nb_t rfl (en hK hr)))))
end S7
