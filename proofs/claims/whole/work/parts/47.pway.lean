/-! ways between states -/
def go (s t : Nat) : Nat := if t = 0 then s / 2 else (s ||| 2 ^ t) / 2
def may (s t top : Nat) : Bool := if s % 2 = 0 then decide (t = 0) else decide (1 ≤ t) && decide (t ≤ top) && decide (s / 2 ^ t % 2 = 0)
def prd (s t : Nat) : Nat := if t = 0 then 2 * s else (2 * s ^^^ 2 ^ t) ||| 1
def okb (s t : Nat) : Bool := decide (t = 0) || decide (2 * s / 2 ^ t % 2 = 1)
theorem go_all : ∀ s, s < 512 → ∀ t, t < 10 → go s t < 512 := by decide +kernel
theorem prd_all1 : ∀ s, s < 512 → ∀ t, t < 10 → okb s t = true → prd s t < 512 → may (prd s t) t 9 = true ∧ go (prd s t) t = s := by decide +kernel
theorem prd_all2 : ∀ s, s < 512 → ∀ t, t < 10 → may s t 9 = true → okb (go s t) t = true ∧ prd (go s t) t = s := by decide +kernel
theorem prd_lt : ∀ s, s < 512 → ∀ t, t < 10 → prd s t < 2048 := by decide +kernel
theorem i_bit : ∀ s, s < 1024 → ∀ t, t < 10 → (nI s >>> (nI t &&& 31)) &&& 1 = nI (s / 2 ^ t % 2) := by decide +kernel
theorem i_and1 : ∀ s, s < 512 → nI s &&& 1 = nI (s % 2) := by decide +kernel
theorem i_go : ∀ s, s < 512 → ∀ t, t < 10 → (nI s ||| ((1 : Int32) <<< (nI t &&& 31))) >>> ((1 : Int32) &&& 31) = nI ((s ||| 2 ^ t) / 2) := by decide +kernel
theorem i_shl : ∀ s, s < 512 → nI s <<< ((1 : Int32) &&& 31) = nI (2 * s) := by decide +kernel
theorem i_prd : ∀ s, s < 512 → ∀ t, t < 10 → ((nI (2 * s) ^^^ ((1 : Int32) <<< (nI t &&& 31))) ||| 1) = nI ((2 * s ^^^ 2 ^ t) ||| 1) := by decide +kernel
theorem may_top {s t top : Nat} (h9 : top ≤ 9) : may s t top = true ↔ may s t 9 = true ∧ t ≤ top := by
  unfold may
  by_cases c : s % 2 = 0
  · simp only [if_pos c, decide_eq_true_eq]
    exact ⟨fun e => ⟨e, by omega⟩, fun e => e.1⟩
  · simp only [if_neg c, Bool.and_eq_true, decide_eq_true_eq]
    exact ⟨fun e => ⟨⟨⟨e.1.1, by omega⟩, e.2⟩, e.1.2⟩, fun e => ⟨⟨e.1.1.1, e.2⟩, e.1.2⟩⟩
def Ed (top s s2 : Nat) : Prop := ∃ t, t < 10 ∧ may s t top = true ∧ go s t = s2
theorem mod2 (s : Nat) : s % 2 = 0 ∨ s % 2 = 1 := by omega
theorem mayGo_m {s t top : Nat} {Q : Int32 → Prop} (hs : s < 512) (ht : t < 10) (h9 : top ≤ 9) (hq : Q (b01 (may s t top))) : vX7_mayGo (nI s) (nI t) (nI top) Q := by
  unfold vX7_mayGo
  rw [i_and1 s hs, i_bit s (by omega) t ht]
  unfold may at hq
  by_cases c : s % 2 = 0
  · rw [c]
    refine nb_t rfl ?_
    rw [if_pos c] at hq
    by_cases z : t = 0
    · rw [b01_t (decide_eq_true z)] at hq
      exact nb_t (by rw [z]; rfl) hq
    · rw [b01_f (decide_eq_false z)] at hq
      exact nb_f (ne0 (by omega) (by omega)) hq
  · rw [if_neg c] at hq
    refine nb_f (ne0 (by omega) (by omega)) ?_
    by_cases z : 1 ≤ t
    · refine br_f (leF (b := 0) (by omega) (by omega)) ?_
      by_cases z2 : t ≤ top
      · refine br_f (ltF (by omega) (by omega)) ?_
        rcases mod2 (s / 2 ^ t) with e | e
        · rw [b01_t (by simp [z, z2, e])] at hq
          rw [e]; exact nb_t rfl hq
        · rw [b01_f (by simp [e])] at hq
          rw [e]; exact nb_f (by decide) hq
      · rw [b01_f (by simp [z2])] at hq
        exact br_t (ltT (by omega) (by omega)) hq
    · rw [b01_f (by simp [z])] at hq
      exact br_t (leT (b := 0) (by omega) (by omega)) hq
theorem goesTo_m {s t : Nat} {Q : Int32 → Prop} (hs : s < 512) (ht : t < 10) (hq : Q (nI (go s t))) : vX7_goesTo (nI s) (nI t) Q := by
  unfold vX7_goesTo vX7_thrownTo
  rw [i_go s hs t ht, shr1 s hs]
  unfold go at hq
  by_cases z : t = 0
  · rw [if_pos z] at hq
    exact nb_t (by rw [z]; rfl) hq
  · rw [if_neg z] at hq
    exact nb_f (ne0 (by omega) (by omega)) hq
theorem behind_x {s t : Nat} {Q : Int32 → Prop} (hs : s < 512) (ht : t < 10) (hq : Q (nI (go s t))) : vX5_stateBehind (nI s) (nI t) Q := by
  unfold vX5_stateBehind
  rw [i_go s hs t ht, shr1 s hs]
  unfold go at hq
  by_cases z : t = 0
  · rw [if_pos z] at hq
    exact nb_t (by rw [z]; rfl) hq
  · rw [if_neg z] at hq
    exact nb_f (ne0 (by omega) (by omega)) hq
/-- the table of distances -/
def FT (top to : Nat) (f : Nat → Int32) : Prop := f to = nI 0 ∧ (∀ s, s < 512 → f s = -9 ∨ ∃ n, n ≤ 600 ∧ f s = nI n ∧ (n = 0 → s = to) ∧ (0 < n → ∃ s2, s2 < 512 ∧ Ed top s s2 ∧ f s2 = nI (n - 1))) ∧ (∀ s s2, s < 512 → s2 < 512 → Ed top s s2 → ∀ m, m ≤ 600 → f s2 = nI m → ∃ n, n ≤ m + 1 ∧ f s = nI n)
theorem nIj {a b : Nat} (ha : a < 100000) (hb : b < 100000) (e : nI a = nI b) : a = b := (nI_eq (by omega) (by omega)).mp e
theorem ft_le {top to : Nat} {f g : Nat → Int32} (hf : FT top to f) (hg : FT top to g) : ∀ n s, s < 512 → n ≤ 600 → f s = nI n → ∃ m, m ≤ n ∧ g s = nI m := by
  intro n
  induction n with
  | zero =>
    intro s hs _ e
    rcases hf.2.1 s hs with z | ⟨m, m1, m2, m3, m4⟩
    · rw [z] at e; exact absurd e.symm (ne9 (by omega))
    · have := nIj (by omega) (by omega) (m2.symm.trans e)
      rw [m3 this]; exact ⟨0, Nat.le_refl _, hg.1⟩
  | succ n ih =>
    intro s hs hn e
    rcases hf.2.1 s hs with z | ⟨m, m1, m2, m3, m4⟩
    · rw [z] at e; exact absurd e.symm (ne9 (by omega))
    · have em := nIj (by omega) (by omega) (m2.symm.trans e)
      obtain ⟨s2, k1, k2, k3⟩ := m4 (by omega)
      obtain ⟨q, q1, q2⟩ := ih s2 k1 (by omega) (by rw [k3, em]; rfl)
      obtain ⟨r, r1, r2⟩ := hg.2.2 s s2 hs k1 k2 q (by omega) q2
      exact ⟨r, by omega, r2⟩
theorem ft_uniq {top to : Nat} {f g : Nat → Int32} (hf : FT top to f) (hg : FT top to g) {s : Nat} (hs : s < 512) : f s = g s := by
  rcases hf.2.1 s hs with z | ⟨n, n1, n2, -⟩
  · rcases hg.2.1 s hs with w | ⟨n, n1, n2, -⟩
    · rw [z, w]
    · obtain ⟨m, m1, m2⟩ := ft_le hg hf n s hs n1 n2
      rw [z] at m2; exact absurd m2.symm (ne9 (by omega))
  · obtain ⟨m, m1, m2⟩ := ft_le hf hg n s hs n1 n2
    obtain ⟨r, r1, r2⟩ := ft_le hg hf m s hs (by omega) m2
    have := nIj (by omega) (by omega) (n2.symm.trans r2)
    rw [n2, m2]; exact nIe (by omega)
