theorem nb_t {c A B : Prop} (h : c) (b : B) : (¬ c → A) ∧ (c → B) := ⟨fun z => absurd h z, fun _ => b⟩
theorem nb_f {c A B : Prop} (h : ¬ c) (a : A) : (¬ c → A) ∧ (c → B) := ⟨fun _ => a, fun z => absurd z h⟩
def b01 (c : Bool) : Int32 := if c = true then 1 else 0
theorem b01_t {c : Bool} (h : c = true) : b01 c = 1 := by simp [b01, h]
theorem b01_f {c : Bool} (h : c = false) : b01 c = 0 := by simp [b01, h]
theorem b01_ne {c : Bool} (h : c = true) : ¬ b01 c = 0 := by rw [b01_t h]; decide
def gd (p : Nat) (h : Nat → Nat) : Bool := decide (0 < p) && decide (clash p h = -9)
theorem isGood_ok {μ : gM} {r p : Nat} {h : Nat → Nat} {Q : Int32 → gM → Prop} (hR : IsRow μ r p h) (hq : Q (b01 (gd p h)) μ) : vX3_isGood r μ Q := by
  have h1 := hR.1
  have h8 := hR.2.1
  unfold vX3_isGood vX3_isThere
  rw [h1]
  by_cases hp : 0 < p
  · refine br_f (leF (b := 0) hp (by omega)) (br_f (by decide) (firstClash_ok hR ?_))
    by_cases c : clash p h = -9
    · refine nb_t c ?_
      rw [b01_t (by simp [gd, hp, c])] at hq
      exact hq
    · refine nb_f c ?_
      rw [b01_f (by simp [gd, hp, c])] at hq
      exact hq
  · refine br_t (leT (b := 0) (by omega) (by omega)) (br_t rfl ?_)
    rw [b01_f (by simp [gd, hp])] at hq
    exact hq
theorem misGood_ok {ν : gM} {τ : gJ} {p : Nat} {h : Nat → Nat} {Q : Int32 → gM → gJ → Prop} (hR : MRow ν p h) (hq : Q (b01 (gd p h)) ν τ) : vX7_isGood ν τ Q := by
  have h1 := hR.1
  have h8 := hR.2.1
  unfold vX7_isGood
  rw [h1]
  by_cases hp : 0 < p
  · refine br_f (leF (b := 0) hp (by omega)) (findClash_ok hR ?_)
    by_cases c : clash p h = -9
    · refine nb_t c ?_
      rw [b01_t (by simp [gd, hp, c])] at hq
      exact hq
    · refine nb_f c ?_
      rw [b01_f (by simp [gd, hp, c])] at hq
      exact hq
  · refine br_t (leT (b := 0) (by omega) (by omega)) ?_
    rw [b01_f (by simp [gd, hp])] at hq
    exact hq
/-! balls -/
def blN (p : Nat) (h : Nat → Nat) : Nat := fb_sm h p / p
theorem sm_le {p : Nat} {h : Nat → Nat} (hh : ∀ k, k < p → h k ≤ 9) : ∀ n, n ≤ p → fb_sm h n ≤ 9 * n := by
  intro n
  induction n with
  | zero => intro _; exact Nat.le_refl _
  | succ n ih =>
    intro hn
    have h1 := ih (by omega)
    have h2 := hh n (by omega)
    rw [fb_sm_succ]; omega
theorem blN_le {p : Nat} {h : Nat → Nat} (hp : 0 < p) (hh : ∀ k, k < p → h k ≤ 9) : blN p h ≤ 9 := by
  have h1 := sm_le hh p (Nat.le_refl _)
  unfold blN
  exact Nat.div_le_of_le_mul (by omega)
theorem ballCount_ok {μ : gM} {r p : Nat} {h : Nat → Nat} {Q : Int32 → gM → Prop} (hR : IsRow μ r p h) (hp : 0 < p) (hq : Q (nI (blN p h)) μ) : vX3_ballCount r μ Q := by
  obtain ⟨h1, h8, hh⟩ := hR
  have hs := sm_le (h := h) (fun k hk => (hh k hk).1)
  refine ex_up (fun n k => vX3_ballCount_4 r Q n (nI (fb_sm h k)) (nI k) μ) p 0 (Nat.zero_le _) (fun n => ?_) (fun n k _ hk ih => ?_)
  · show vX3_ballCount_4B r Q _ _ _ μ
    unfold vX3_ballCount_4B
    rw [h1]
    have := hs p (Nat.le_refl _)
    refine br_t (leT (Nat.le_refl _) (by omega)) (br_t (leT (a := 1) hp (by omega)) ⟨ne0 hp (by omega), ?_⟩)
    rw [pk_div (by omega) hp (by omega)]
    exact hq
  · show vX3_ballCount_4B r Q _ _ _ μ
    unfold vX3_ballCount_4B
    rw [h1]
    refine br_f (leF hk (by omega)) ⟨inI (by omega) (by omega), ?_⟩
    rw [cl (by omega), (hh k hk).2, nI_add, nI_1]
    exact ih
theorem balls_ok {ν : gM} {τ : gJ} {p : Nat} {h : Nat → Nat} {Q : Int32 → gM → gJ → Prop} (hR : MRow ν p h) (hp : 0 < p) (hq : Q (nI (blN p h)) ν τ) : vX7_balls ν τ Q := by
  obtain ⟨h1, h8, hh⟩ := hR
  have hs := sm_le (h := h) (fun k hk => (hh k hk).1)
  refine ex_up (fun n k => vX7_balls_4 Q n (nI (fb_sm h k)) (nI k) ν τ) p 0 (Nat.zero_le _) (fun n => ?_) (fun n k _ hk ih => ?_)
  · show vX7_balls_4B Q _ _ _ ν τ
    unfold vX7_balls_4B
    rw [h1]
    have := hs p (Nat.le_refl _)
    refine br_t (leT (Nat.le_refl _) (by omega)) ⟨ne0 hp (by omega), ?_⟩
    rw [pk_div (by omega) hp (by omega)]
    exact hq
  · show vX7_balls_4B Q _ _ _ ν τ
    unfold vX7_balls_4B
    rw [h1]
    refine br_f (leF hk (by omega)) ⟨inI (by omega) (by omega), ?_⟩
    rw [cl (by omega), (hh k hk).2, nI_add, nI_1]
    exact ih
/-! the greatest throw -/
def mxH (h : Nat → Nat) : Nat → Nat
  | 0 => 0
  | n + 1 => max (mxH h n) (h n)
theorem mxH_le {p : Nat} {h : Nat → Nat} (hh : ∀ k, k < p → h k ≤ 9) : ∀ n, n ≤ p → mxH h n ≤ 9 := by
  intro n
  induction n with
  | zero => intro _; exact Nat.zero_le _
  | succ n ih => intro hn; have h1 := ih (by omega); have h2 := hh n (by omega); simp only [mxH]; omega
theorem greatestHeight_ok {μ : gM} {r p : Nat} {h : Nat → Nat} {Q : Int32 → gM → Prop} (hR : IsRow μ r p h) (hq : Q (nI (mxH h p)) μ) : vX3_greatestHeight r μ Q := by
  obtain ⟨h1, h8, hh⟩ := hR
  have hs := mxH_le (h := h) (fun k hk => (hh k hk).1)
  refine ex_up (fun n k => vX3_greatestHeight_4 r Q n (nI (mxH h k)) (nI k) μ) p 0 (Nat.zero_le _) (fun n => ?_) (fun n k _ hk ih => ?_)
  · show vX3_greatestHeight_4B r Q _ _ _ μ
    unfold vX3_greatestHeight_4B
    rw [h1]
    exact br_t (leT (Nat.le_refl _) (by omega)) hq
  · show vX3_greatestHeight_4B r Q _ _ _ μ
    unfold vX3_greatestHeight_4B vJ9_max_7cf53
    rw [h1]
    have hm := hs k (by omega)
    have hk9 := (hh k hk).1
    refine br_f (leF hk (by omega)) ⟨inI (by omega) (by omega), ?_⟩
    rw [cl (by omega), (hh k hk).2, nI_1]
    by_cases c : mxH h k < h k
    · refine br_t (ltT c (by omega)) ?_
      rw [show h k = mxH h (k + 1) by simp only [mxH]; omega]; exact ih
    · refine br_f (ltF (by omega) (by omega)) ?_
      rw [show mxH h k = mxH h (k + 1) by simp only [mxH]; omega]; exact ih
theorem greatestThrow_ok {ν : gM} {τ : gJ} {p : Nat} {h : Nat → Nat} {Q : Int32 → gM → gJ → Prop} (hR : MRow ν p h) (hq : Q (nI (mxH h p)) ν τ) : vX7_greatestThrow ν τ Q := by
  obtain ⟨h1, h8, hh⟩ := hR
  have hs := mxH_le (h := h) (fun k hk => (hh k hk).1)
  refine ex_up (fun n k => vX7_greatestThrow_4 Q n (nI (mxH h k)) (nI k) ν τ) p 0 (Nat.zero_le _) (fun n => ?_) (fun n k _ hk ih => ?_)
  · show vX7_greatestThrow_4B Q _ _ _ ν τ
    unfold vX7_greatestThrow_4B
    rw [h1]
    exact br_t (leT (Nat.le_refl _) (by omega)) hq
  · show vX7_greatestThrow_4B Q _ _ _ ν τ
    unfold vX7_greatestThrow_4B
    rw [h1]
    have hm := hs k (by omega)
    have hk9 := (hh k hk).1
    refine br_f (leF hk (by omega)) ⟨inI (by omega) (by omega), ?_⟩
    rw [cl (by omega), (hh k hk).2, nI_1]
    by_cases c : h k ≤ mxH h k
    · refine br_t (leT c (by omega)) ?_
      rw [show mxH h k = mxH h (k + 1) by simp only [mxH]; omega]; exact ih
    · refine br_f (leF (by omega) (by omega)) ⟨inI (by omega) (by omega), ?_⟩
      rw [show h k = mxH h (k + 1) by simp only [mxH]; omega]; exact ih
/-! states -/
def stN (p : Nat) (h : Nat → Nat) (b : Int) : Nat → Nat
  | 0 => 0
  | n + 1 => stN p h b n ||| (if n + 1 ≤ hz p h (b - (n + 1 : Nat)) then 2 ^ (hz p h (b - (n + 1 : Nat)) - (n + 1)) else 0)
def stA (p : Nat) (h : Nat → Nat) (b : Int) : Nat := stN p h b 9
theorem stN_lt {p : Nat} {h : Nat → Nat} {b : Int} (hp : 0 < p) (hh : ∀ k, k < p → h k ≤ 9) : ∀ n, stN p h b n < 512 := by
  intro n
  induction n with
  | zero => simp [stN]
  | succ n ih =>
    have h9 := hz_lt (z := b - (n + 1 : Nat)) hp hh
    simp only [stN]
    refine Nat.or_lt_two_pow (n := 9) ih ?_
    split
    · refine Nat.pow_lt_pow_right (by omega) (by omega)
    · decide
theorem shl1 : ∀ j, j < 31 → (1 : Int32) <<< (nI j &&& 31) = nI (2 ^ j) := by decide +kernel
theorem stateAhead_ok {μ : gM} {r p : Nat} {h : Nat → Nat} {b : Nat} {Q : Int32 → gM → Prop} (hR : IsRow μ r p h) (hp : 0 < p) (hb : b < 100000) (hq : Q (nI (stA p h b)) μ) : vX3_stateAhead r (nI b) μ Q := by
  have hh := fun k hk => (hR.2.2 k hk).1
  refine ex_up (fun n k => vX3_stateAhead_4 r (nI b) Q n (nI (stN p h b k)) (nI (k + 1)) μ) 9 0 (Nat.zero_le _) (fun n => ?_) (fun n k _ hk ih => ?_)
  · show vX3_stateAhead_4B r _ Q _ _ _ μ
    unfold vX3_stateAhead_4B
    exact br_t (ltT (a := 9) (by omega) (by omega)) hq
  · show vX3_stateAhead_4B r _ Q _ _ _ μ
    unfold vX3_stateAhead_4B
    refine br_f (ltF (a := 9) (by omega) (by omega)) (heightIn_ok hR hp ?_)
    have e1 : (nI b - nI (k + 1)).toInt = (b : Int) - (k + 1 : Nat) := by
      rw [sub_i (by rw [nI_int (by omega), nI_int (by omega)]; omega) (by rw [nI_int (by omega), nI_int (by omega)]; omega), nI_int (by omega), nI_int (by omega)]
    rw [e1]
    have h9 := hz_lt (z := (b : Int) - (k + 1 : Nat)) hp hh
    rw [nI_1]
    by_cases c : k + 1 ≤ hz p h ((b : Int) - (k + 1 : Nat))
    · rw [pk_sub c]
      refine br_f (posF (by omega)) ?_
      rw [shl1 _ (by omega), fa_or]
      have e2 : stN p h b (k + 1) = stN p h b k ||| 2 ^ (hz p h ((b : Int) - (k + 1 : Nat)) - (k + 1)) := by simp only [stN, if_pos c]
      rw [← e2]; exact ih
    · refine br_t (pk_sneg (by omega) (by omega)) ?_
      have e2 : stN p h b (k + 1) = stN p h b k := by simp only [stN, if_neg c, Nat.or_zero]
      rw [← e2]; exact ih
theorem rem2 {z : Int32} {p : Nat} (hp : 0 < p) (hp8 : p ≤ 8) : ((z - z / nI p * nI p) + nI p) - ((z - z / nI p * nI p) + nI p) / nI p * nI p = nI (z.toInt % (p : Int)).toNat := by
  have hpi : (nI p).toInt = (p : Int) := nI_int (by omega)
  have hr := rem_toInt z (nI p)
  rw [hpi] at hr
  have hb := tmod_bounds (a := z.toInt) (M := (p : Int)) (by omega)
  have hm0 : 0 ≤ z.toInt % (p : Int) := Int.emod_nonneg _ (by omega)
  have hm1 : z.toInt % (p : Int) < p := Int.emod_lt_of_pos _ (by omega)
  have ha : ((z - z / nI p * nI p) + nI p).toInt = z.toInt.tmod p + p := by
    rw [add_i (by rw [hr, hpi]; omega) (by rw [hr, hpi]; omega), hr, hpi]
  apply tI
  rw [rem_toInt, ha, hpi, nI_int (by omega), Int.tmod_eq_emod_of_nonneg (by omega)]
  have e : z.toInt.tmod p + p = z.toInt + (p : Int) * (1 - z.toInt.tdiv p) := by
    rw [Int.tmod_def, Int.mul_sub, Int.mul_one]; omega
  rw [e, Int.add_mul_emod_self_left]
  omega
theorem mstateAhead_ok {ν : gM} {τ : gJ} {p : Nat} {h : Nat → Nat} {b : Nat} {Q : Int32 → gM → gJ → Prop} (hR : MRow ν p h) (hp : 0 < p) (hb : b < 100000) (hq : Q (nI (stA p h b)) ν τ) : vX7_stateAhead (nI b) ν τ Q := by
  obtain ⟨h1, h8, hr⟩ := hR
  have hh := fun k hk => (hr k hk).1
  refine ex_up (fun n k => vX7_stateAhead_4 (nI b) Q n (nI (stN p h b k)) (nI (k + 1)) ν τ) 9 0 (Nat.zero_le _) (fun n => ?_) (fun n k _ hk ih => ?_)
  · show vX7_stateAhead_4B _ Q _ _ _ ν τ
    unfold vX7_stateAhead_4B
    exact br_t (ltT (a := 9) (by omega) (by omega)) hq
  · show vX7_stateAhead_4B _ Q _ _ _ ν τ
    unfold vX7_stateAhead_4B
    have e1 : (nI b - nI (k + 1)).toInt = (b : Int) - (k + 1 : Nat) := by
      rw [sub_i (by rw [nI_int (by omega), nI_int (by omega)]; omega) (by rw [nI_int (by omega), nI_int (by omega)]; omega), nI_int (by omega), nI_int (by omega)]
    rw [h1, rem2 hp h8, e1]
    have m0 : 0 ≤ ((b : Int) - (k + 1 : Nat)) % (p : Int) := Int.emod_nonneg _ (by omega)
    have m1 : ((b : Int) - (k + 1 : Nat)) % (p : Int) < p := Int.emod_lt_of_pos _ (by omega)
    have hi : (((b : Int) - (k + 1 : Nat)) % (p : Int)).toNat < p := by omega
    have h9 := hz_lt (z := (b : Int) - (k + 1 : Nat)) hp hh
    rw [cl (by omega), (hr _ hi).2, nI_1]
    refine br_f (ltF (a := 9) (by omega) (by omega)) ⟨ne0 hp (by omega), ne0 hp (by omega), inI (by omega) (by omega), ?_⟩
    show (nI (hz p h ((b : Int) - (k + 1 : Nat))) < nI (k + 1) → _) ∧ (¬ nI (hz p h ((b : Int) - (k + 1 : Nat))) < nI (k + 1) → vX7_stateAhead_4 (nI b) Q n (nI (stN p h b k) ||| (1 : Int32) <<< ((nI (hz p h ((b : Int) - (k + 1 : Nat))) - nI (k + 1)) &&& 31)) (nI (k + 1 + 1)) ν τ)
    by_cases c : k + 1 ≤ hz p h ((b : Int) - (k + 1 : Nat))
    · refine br_f (ltF c (by omega)) ?_
      rw [pk_sub c, shl1 _ (by omega), fa_or]
      have e2 : stN p h b (k + 1) = stN p h b k ||| 2 ^ (hz p h ((b : Int) - (k + 1 : Nat)) - (k + 1)) := by simp only [stN, if_pos c]
      rw [← e2]; exact ih
    · refine br_t (ltT (by omega) (by omega)) ?_
      have e2 : stN p h b (k + 1) = stN p h b k := by simp only [stN, if_neg c, Nat.or_zero]
      rw [show nI (stN p h b k) ||| 0 = nI (stN p h b (k + 1)) by rw [show (0 : Int32) = nI 0 from rfl, fa_or, Nat.or_zero, e2]]; exact ih
