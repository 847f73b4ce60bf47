/-! rows of throws: what both sides ask of them -/
def hz (p : Nat) (h : Nat → Nat) (z : Int) : Nat := h (z % (p : Int)).toNat
def IsRow (μ : gM) (r p : Nat) (h : Nat → Nat) : Prop := μ r 1 = nI p ∧ p ≤ 8 ∧ ∀ k, k < p → h k ≤ 9 ∧ μ (5 + r) k = nI (h k)
def MRow (ν : gM) (p : Nat) (h : Nat → Nat) : Prop := ν 32 5 = nI p ∧ p ≤ 8 ∧ ∀ k, k < p → h k ≤ 9 ∧ ν 36 k = nI (h k)
def ld (p : Nat) (h : Nat → Nat) (k : Nat) : Nat := (k + h k) % p
theorem nat_em (a p : Nat) : ((a : Int) % (p : Int)).toNat = a % p := rfl
theorem nI_em {a p : Nat} (ha : a < 1000000) : ((nI a).toInt % (p : Int)).toNat = a % p := by rw [nI_int ha]; rfl
theorem hz_nat {p : Nat} {h : Nat → Nat} {a : Nat} : hz p h (a : Int) = h (a % p) := rfl
theorem hz_lt {p : Nat} {h : Nat → Nat} {z : Int} (hp : 0 < p) (hh : ∀ k, k < p → h k ≤ 9) : hz p h z ≤ 9 := by
  have m0 : 0 ≤ z % (p : Int) := Int.emod_nonneg _ (by omega)
  have m1 : z % (p : Int) < p := Int.emod_lt_of_pos _ (by omega)
  exact hh _ (by omega)
theorem rem_nat {a p : Nat} (ha : a < 1000000) (hp : 0 < p) (hp2 : p < 1000000) : nI a - nI a / nI p * nI p = nI (a % p) := pk_rem (by omega) hp (by omega)
theorem ne0 {p : Nat} (hp : 0 < p) (hp2 : p < 1000000) : ¬ nI p = 0 := nI_ne0 hp (by omega)
theorem inI {a n : Nat} (h : a < n) (hn : n < 1000000) : vp_in (nI a) n := vp_in_nI h (by omega)
theorem cl {a : Nat} (h : a < 1000000) : (nI a).toNatClampNeg = a := nI_clamp (by omega)
theorem leT {a b : Nat} (h : a ≤ b) (hb : b < 1000000) : nI a ≤ nI b := nI_le h (by omega)
theorem leF {a b : Nat} (h : b < a) (ha : a < 1000000) : ¬ nI a ≤ nI b := nI_ge h (by omega)
theorem ltT {a b : Nat} (h : a < b) (hb : b < 1000000) : nI a < nI b := nI_lt h (by omega)
theorem ltF {a b : Nat} (h : b ≤ a) (ha : a < 1000000) : ¬ nI a < nI b := nI_nlt h (by omega)
theorem neF {a b : Nat} (h : a ≠ b) (ha : a < 1000000) (hb : b < 1000000) : ¬ nI a = nI b := fun e => h ((nI_eq (by omega) (by omega)).mp e)
theorem posF {a : Nat} (h : a < 1000000) : ¬ nI a < 0 := nI_pos (by omega)
theorem ne9 {a : Nat} (h : a < 1000000) : ¬ nI a = (-9) := fun e => by
  have := congrArg Int32.toInt e
  rw [nI_int h] at this
  have h9 : (-9 : Int32).toInt = -9 := rfl
  omega
/-- a search with an early end -/
def sr {α : Type} (e : Nat → Bool) (f : Nat → α) (K : α) : Nat → Nat → α
  | 0, _ => K
  | d + 1, j => if e j = true then f j else sr e f K d (j + 1)
def sr2 {α : Type} (e : Nat → Nat → Bool) (f : Nat → Nat → α) (K : α) (p : Nat) : Nat → Nat → α
  | 0, _ => K
  | d + 1, i => sr (e i) (f i) (sr2 e f K p d (i + 1)) (p - (i + 1)) (i + 1)
theorem ex_sr {α : Type} (G : Nat → Nat → Prop) (QK : α → Prop) (e : Nat → Bool) (f : Nat → α) (K : α) (N : Nat) (hx : QK K → ∀ n, G (n + 1) N) (hit : ∀ n j, j < N → e j = true → QK (f j) → G (n + 1) j) (miss : ∀ n j, j < N → e j = false → G n (j + 1) → G (n + 1) j) (k0 : Nat) (hk : k0 ≤ N) (hq : QK (sr e f K (N - k0) k0)) : ∃ n, G n k0 := by
  have key : ∀ d k, k + d = N → QK (sr e f K d k) → ∃ n, G n k := by
    intro d
    induction d with
    | zero => intro k hk hq; exact ⟨1, by rw [show k = N by omega]; exact hx hq 0⟩
    | succ d ih =>
      intro k hk hq
      by_cases c : e k = true
      · simp only [sr, c, if_true] at hq
        exact ⟨1, hit 0 k (by omega) c hq⟩
      · simp only [sr, c, if_false] at hq
        obtain ⟨n, hn⟩ := ih (k + 1) (by omega) hq
        exact ⟨n + 1, miss n k (by omega) (by simpa using c) hn⟩
  exact key (N - k0) k0 (by omega) hq
theorem heightIn_ok {μ : gM} {r p : Nat} {h : Nat → Nat} {b : Int32} {Q : Int32 → gM → Prop} (hR : IsRow μ r p h) (hp : 0 < p) (hq : Q (nI (hz p h b.toInt)) μ) : vX3_heightIn r b μ Q := by
  obtain ⟨h1, h8, hh⟩ := hR
  have m0 : 0 ≤ b.toInt % (p : Int) := Int.emod_nonneg _ (by omega)
  have m1 : b.toInt % (p : Int) < p := Int.emod_lt_of_pos _ (by omega)
  unfold vX3_heightIn
  rw [h1]
  refine br_t (leT (a := 1) hp (by omega)) ?_
  refine floorMod_ok hp h8 ?_
  have hk : (b.toInt % (p : Int)).toNat < p := by omega
  refine ⟨inI (by omega) (by omega), ?_⟩
  rw [cl (by omega), (hh _ hk).2]
  exact hq
theorem landingOf_ok {μ : gM} {r p : Nat} {h : Nat → Nat} {k : Nat} {Q : Int32 → gM → Prop} (hR : IsRow μ r p h) (hk : k < p) (hq : Q (nI (ld p h k)) μ) : vX3_landingOf r (nI k) μ Q := by
  have h1 := hR.1
  have h8 := hR.2.1
  have h9 := (hR.2.2 k hk).1
  unfold vX3_landingOf
  rw [h1]
  refine br_t (leT (a := 1) (by omega) (by omega)) ?_
  refine heightIn_ok hR (by omega) ?_
  rw [h1, nI_int (by omega), hz_nat, Nat.mod_eq_of_lt hk, nI_add]
  refine floorMod_ok (by omega) h8 ?_
  rw [nI_em (by omega)]
  exact hq
theorem landsIn_ok {ν : gM} {τ : gJ} {p : Nat} {h : Nat → Nat} {k : Nat} {Q : Int32 → gM → gJ → Prop} (hR : MRow ν p h) (hk : k < p) (hq : Q (nI (ld p h k)) ν τ) : vX7_landsIn (nI k) ν τ Q := by
  obtain ⟨h1, h8, hh⟩ := hR
  have h9 := hh k hk
  unfold vX7_landsIn
  refine ⟨inI (by omega) (by omega), ?_, ?_⟩
  · rw [h1]; exact ne0 (by omega) (by omega)
  · rw [cl (by omega), h9.2, h1, nI_add, rem_nat (by omega) (by omega) (by omega)]
    exact hq
def clash (p : Nat) (h : Nat → Nat) : Int32 := sr2 (fun i j => decide (ld p h i = ld p h j)) (fun i j => nI (10 * i + j)) (-9) p p 0
theorem ld_lt {p : Nat} {h : Nat → Nat} {k : Nat} (hp : 0 < p) : ld p h k < p := Nat.mod_lt _ hp
theorem firstClash_ok {μ : gM} {r p : Nat} {h : Nat → Nat} {Q : Int32 → gM → Prop} (hR : IsRow μ r p h) (hq : Q (clash p h) μ) : vX3_firstClash r μ Q := by
  have h1 := hR.1
  have h8 := hR.2.1
  have key : ∃ n, (Q (sr2 (fun i j => decide (ld p h i = ld p h j)) (fun i j => nI (10 * i + j)) (-9) p (p - 0) 0) μ → vX3_firstClash_2 r Q n (nI 0) μ) := by
    refine ex_up (fun n i => Q (sr2 (fun i j => decide (ld p h i = ld p h j)) (fun i j => nI (10 * i + j)) (-9) p (p - i) i) μ → vX3_firstClash_2 r Q n (nI i) μ) p 0 (Nat.zero_le _) (fun n hq => ?_) (fun n i _ hi ih hq => ?_)
    · rw [Nat.sub_self] at hq
      show vX3_firstClash_2B r Q _ (nI p) μ
      unfold vX3_firstClash_2B
      rw [h1]
      exact br_t (leT (Nat.le_refl _) (by omega)) hq
    · rw [show p - i = (p - (i + 1)) + 1 by omega] at hq
      show vX3_firstClash_2B r Q _ (nI i) μ
      unfold vX3_firstClash_2B
      rw [h1]
      refine br_f (leF hi (by omega)) ?_
      rw [nI_1]
      refine ex_sr (fun n j => vX3_firstClash_14 r Q _ n (nI i) (nI j) μ) (fun x => Q x μ) _ _ _ p (fun hk n => ?_) (fun n j hj c hk => ?_) (fun n j hj c ih2 => ?_) (i + 1) (by omega) hq
      · show vX3_firstClash_14B r Q _ _ (nI i) (nI p) μ
        unfold vX3_firstClash_14B
        rw [h1, nI_1]
        exact br_t (leT (Nat.le_refl _) (by omega)) (ih hk)
      · show vX3_firstClash_14B r Q _ _ (nI i) (nI j) μ
        unfold vX3_firstClash_14B
        rw [h1]
        refine br_f (leF hj (by omega)) (landingOf_ok hR (by omega) (landingOf_ok hR hj ?_))
        have e : ld p h i = ld p h j := of_decide_eq_true c
        rw [e]
        refine ⟨fun z => absurd rfl z, fun _ => ?_⟩
        have e2 : (10 : Int32) * nI i + nI j = nI (10 * i + j) := by rw [show (10 : Int32) = nI 10 from rfl, pk_mul, nI_add]
        rw [e2]; exact hk
      · show vX3_firstClash_14B r Q _ _ (nI i) (nI j) μ
        unfold vX3_firstClash_14B
        rw [h1]
        refine br_f (leF hj (by omega)) (landingOf_ok hR (by omega) (landingOf_ok hR hj ?_))
        have e : ¬ ld p h i = ld p h j := of_decide_eq_false c
        have l1 := ld_lt (h := h) (k := i) (show 0 < p by omega)
        have l2 := ld_lt (h := h) (k := j) (show 0 < p by omega)
        refine ⟨fun _ => ?_, fun z => absurd z (neF e (by omega) (by omega))⟩
        rw [nI_1]; exact ih2
  obtain ⟨n, hn⟩ := key
  exact ⟨n, hn hq⟩
theorem findClash_ok {ν : gM} {τ : gJ} {p : Nat} {h : Nat → Nat} {Q : Int32 → gM → gJ → Prop} (hR : MRow ν p h) (hq : Q (clash p h) ν τ) : vX7_findClash ν τ Q := by
  have h1 := hR.1
  have h8 := hR.2.1
  have key : ∃ n, (Q (sr2 (fun i j => decide (ld p h i = ld p h j)) (fun i j => nI (10 * i + j)) (-9) p (p - 0) 0) ν τ → vX7_findClash_2 Q n (nI 0) ν τ) := by
    refine ex_up (fun n i => Q (sr2 (fun i j => decide (ld p h i = ld p h j)) (fun i j => nI (10 * i + j)) (-9) p (p - i) i) ν τ → vX7_findClash_2 Q n (nI i) ν τ) p 0 (Nat.zero_le _) (fun n hq => ?_) (fun n i _ hi ih hq => ?_)
    · rw [Nat.sub_self] at hq
      show vX7_findClash_2B Q _ (nI p) ν τ
      unfold vX7_findClash_2B
      rw [h1]
      exact br_t (leT (Nat.le_refl _) (by omega)) hq
    · rw [show p - i = (p - (i + 1)) + 1 by omega] at hq
      show vX7_findClash_2B Q _ (nI i) ν τ
      unfold vX7_findClash_2B
      rw [h1]
      refine br_f (leF hi (by omega)) ?_
      rw [nI_1]
      refine ex_sr (fun n j => vX7_findClash_14 Q _ n (nI i) (nI j) ν τ) (fun x => Q x ν τ) _ _ _ p (fun hk n => ?_) (fun n j hj c hk => ?_) (fun n j hj c ih2 => ?_) (i + 1) (by omega) hq
      · show vX7_findClash_14B Q _ _ (nI i) (nI p) ν τ
        unfold vX7_findClash_14B
        rw [h1, nI_1]
        exact br_t (leT (Nat.le_refl _) (by omega)) (ih hk)
      · show vX7_findClash_14B Q _ _ (nI i) (nI j) ν τ
        unfold vX7_findClash_14B
        rw [h1]
        refine br_f (leF hj (by omega)) (landsIn_ok hR (by omega) (landsIn_ok hR hj ?_))
        have e : ld p h i = ld p h j := of_decide_eq_true c
        rw [e]
        refine ⟨fun z => absurd rfl z, fun _ => ?_⟩
        have e2 : (10 : Int32) * nI i + nI j = nI (10 * i + j) := by rw [show (10 : Int32) = nI 10 from rfl, pk_mul, nI_add]
        rw [e2]; exact hk
      · show vX7_findClash_14B Q _ _ (nI i) (nI j) ν τ
        unfold vX7_findClash_14B
        rw [h1]
        refine br_f (leF hj (by omega)) (landsIn_ok hR (by omega) (landsIn_ok hR hj ?_))
        have e : ¬ ld p h i = ld p h j := of_decide_eq_false c
        have l1 := ld_lt (h := h) (k := i) (show 0 < p by omega)
        have l2 := ld_lt (h := h) (k := j) (show 0 < p by omega)
        refine ⟨fun _ => ?_, fun z => absurd z (neF e (by omega) (by omega))⟩
        rw [nI_1]; exact ih2
  obtain ⟨n, hn⟩ := key
  exact ⟨n, hn hq⟩
