/-! fillings: two ways to count -/
def Sc : Nat → Nat → Nat
  | 0, _ => 0
  | n + 1, u => Sc n u + (if u / 2 ^ n % 2 = 0 then n else 0)
def sI (n : Nat) : Nat → Nat
  | 0 => 0
  | r + 1 => sI n r + (n - (r + 1))
def fre (u j : Nat) : Bool := decide (u / 2 ^ j % 2 = 0)
theorem Sc_a1 : ∀ n, n < 9 → ∀ u, u < 2 ^ n → ∀ j, j < n → fre u j = true → Sc n (u ||| 2 ^ j) + j = Sc n u := by decide +kernel
theorem Sc_a2 : ∀ n, n < 9 → ∀ u, u < 2 ^ n → ∀ j, j < n → fre u j = true → pcN (u ||| 2 ^ j) = pcN u + 1 := by decide +kernel
theorem Sc_a3 : ∀ n, n < 9 → ∀ u, u < 2 ^ n → ∀ j, j < n → fre u j = true → (u ||| 2 ^ j) < 2 ^ n := by decide +kernel
theorem Sc_a4 : ∀ n, n < 9 → ∀ u, u < 2 ^ n → ∀ j, j < n → fre u j = true → u < (u ||| 2 ^ j) := by decide +kernel
theorem Sc_all (n : Nat) (hn : n < 9) (u : Nat) (hu : u < 2 ^ n) (j : Nat) (hj : j < n) (h : fre u j = true) : Sc n (u ||| 2 ^ j) + j = Sc n u ∧ pcN (u ||| 2 ^ j) = pcN u + 1 ∧ (u ||| 2 ^ j) < 2 ^ n ∧ u < (u ||| 2 ^ j) := ⟨Sc_a1 n hn u hu j hj h, Sc_a2 n hn u hu j hj h, Sc_a3 n hn u hu j hj h, Sc_a4 n hn u hu j hj h⟩
theorem Sc_full : ∀ n, n < 9 → ∀ u, u < 2 ^ n → pcN u = n → Sc n u = 0 := by decide +kernel
theorem Sc_0 : ∀ n, n < 9 → Sc n 0 = sI n n := by decide +kernel
theorem pc_full : ∀ n, n < 9 → ∀ u, u < 2 ^ n → pcN u ≤ n ∧ (pcN u = n ↔ u = 2 ^ n - 1) := by decide +kernel
def tC (al : Nat → Nat → Bool) (n : Nat) (g : Nat → Nat → Nat) (pl u w t : Nat) : Nat := if al pl t = true ∧ fre u ((pl + t) % n) = true ∧ (pl + t) / n ≤ w then g (u ||| 2 ^ ((pl + t) % n)) (w - (pl + t) / n) else 0
def tF (al : Nat → Nat → Bool) (n : Nat) (g : Nat → Nat → Nat) (pl u s t : Nat) : Nat := if al pl t = true ∧ fre u ((pl + t) % n) = true ∧ t ≤ s then g (u ||| 2 ^ ((pl + t) % n)) (s - t) else 0
def CC (al : Nat → Nat → Bool) (n : Nat) : Nat → Nat → Nat → Nat
  | 0, _, w => if w = 0 then 1 else 0
  | r + 1, u, w => fb_sm (tC al n (CC al n r) (n - (r + 1)) u w) 10
def FF (al : Nat → Nat → Bool) (n : Nat) : Nat → Nat → Nat → Nat
  | 0, _, s => if s = 0 then 1 else 0
  | r + 1, u, s => fb_sm (tF al n (FF al n r) (n - (r + 1)) u s) 10
section FL
variable {al : Nat → Nat → Bool} {n : Nat}
theorem sm_cg {f g : Nat → Nat} : ∀ k, (∀ t, t < k → f t = g t) → fb_sm f k = fb_sm g k := by
  intro k
  induction k with
  | zero => intro _; rfl
  | succ k ih => intro h; rw [fb_sm_succ, fb_sm_succ, ih (fun t ht => h t (by omega)), h k (by omega)]
theorem sm_0 {f : Nat → Nat} : ∀ k, (∀ t, t < k → f t = 0) → fb_sm f k = 0 := by
  intro k
  induction k with
  | zero => intro _; rfl
  | succ k ih => intro h; rw [fb_sm_succ, ih (fun t ht => h t (by omega)), h k (by omega)]
theorem sm_bd {f : Nat → Nat} {B : Nat} : ∀ k, (∀ t, t < k → f t ≤ B) → fb_sm f k ≤ k * B := by
  intro k
  induction k with
  | zero => intro _; exact Nat.le_of_eq (by rw [Nat.zero_mul]; rfl)
  | succ k ih => intro h; rw [fb_sm_succ, Nat.succ_mul]; have := ih (fun t ht => h t (by omega)); have := h k (by omega); omega
theorem CC_le : ∀ r u w, CC al n r u w ≤ 10 ^ r := by
  intro r
  induction r with
  | zero => intro u w; simp only [CC]; split <;> decide
  | succ r ih =>
    intro u w
    simp only [CC]
    have := sm_bd (f := tC al n (CC al n r) (n - (r + 1)) u w) (B := 10 ^ r) 10 (fun t _ => by
      unfold tC
      split
      · exact ih _ _
      · exact Nat.zero_le _)
    rw [Nat.pow_succ]; omega
theorem ds {x : Nat} (hn : 0 < n) : n * (x / n) + x % n = x := Nat.div_add_mod x n
/-- no filling has so small a sum -/
theorem FF_0 (h8 : n < 9) (hn : 0 < n) : ∀ r u s, r ≤ n → u < 2 ^ n → pcN u = n - r → s + sI n r < Sc n u → FF al n r u s = 0 := by
  intro r
  induction r with
  | zero =>
    intro u s _ hu hp h
    rw [Sc_full n h8 u hu hp] at h; omega
  | succ r ih =>
    intro u s hr hu hp h
    simp only [FF]
    refine sm_0 10 (fun t _ => ?_)
    unfold tF
    split
    · rename_i c
      obtain ⟨c1, c2, c3⟩ := c
      have m := Nat.mod_lt (n - (r + 1) + t) hn
      obtain ⟨e1, e2, e3, -⟩ := Sc_all n h8 u hu _ m c2
      have le := Nat.mod_le (n - (r + 1) + t) n
      refine ih _ _ (by omega) e3 (by omega) ?_
      simp only [sI] at h
      omega
    · rfl
/-- no filling has so few passes -/
theorem CC_0 (h8 : n < 9) (hn : 0 < n) : ∀ r u w, r ≤ n → u < 2 ^ n → pcN u = n - r → n * w + Sc n u < sI n r → CC al n r u w = 0 := by
  intro r
  induction r with
  | zero => intro u w _ hu hp h; simp only [sI] at h; omega
  | succ r ih =>
    intro u w hr hu hp h
    simp only [CC]
    refine sm_0 10 (fun t _ => ?_)
    unfold tC
    split
    · rename_i c
      obtain ⟨c1, c2, c3⟩ := c
      have m := Nat.mod_lt (n - (r + 1) + t) hn
      obtain ⟨e1, e2, e3, -⟩ := Sc_all n h8 u hu _ m c2
      refine ih _ _ (by omega) e3 (by omega) ?_
      have d := ds (x := n - (r + 1) + t) hn
      rw [Nat.mul_sub]
      have le : n * ((n - (r + 1) + t) / n) ≤ n * w := Nat.mul_le_mul_left n c3
      simp only [sI] at h
      generalize n * ((n - (r + 1) + t) / n) = A at *
      generalize n * w = B at *
      omega
    · rfl
theorem CF (h8 : n < 9) (hn : 0 < n) : ∀ r u w s, r ≤ n → u < 2 ^ n → pcN u = n - r → s + sI n r = n * w + Sc n u → FF al n r u s = CC al n r u w := by
  intro r
  induction r with
  | zero =>
    intro u w s _ hu hp h
    rw [Sc_full n h8 u hu hp] at h
    simp only [sI, Nat.add_zero] at h
    simp only [FF, CC]
    by_cases c : w = 0
    · rw [if_pos c, if_pos (by rw [h, c, Nat.mul_zero])]
    · rw [if_neg c, if_neg]
      have : n * 1 ≤ n * w := Nat.mul_le_mul_left n (by omega)
      omega
  | succ r ih =>
    intro u w s hr hu hp h
    simp only [FF, CC]
    refine sm_cg 10 (fun t _ => ?_)
    unfold tF tC
    by_cases c1 : al (n - (r + 1)) t = true
    · by_cases c2 : fre u ((n - (r + 1) + t) % n) = true
      · have m := Nat.mod_lt (n - (r + 1) + t) hn
        obtain ⟨e1, e2, e3, -⟩ := Sc_all n h8 u hu _ m c2
        have d := ds (x := n - (r + 1) + t) hn
        simp only [sI] at h
        by_cases c3 : t ≤ s
        · rw [if_pos ⟨c1, c2, c3⟩]
          by_cases c4 : (n - (r + 1) + t) / n ≤ w
          · rw [if_pos ⟨c1, c2, c4⟩]
            refine ih _ _ _ (by omega) e3 (by omega) ?_
            rw [Nat.mul_sub]
            have le : n * ((n - (r + 1) + t) / n) ≤ n * w := Nat.mul_le_mul_left n c4
            generalize n * ((n - (r + 1) + t) / n) = A at *
            generalize n * w = B at *
            omega
          · rw [if_neg (fun z => c4 z.2.2)]
            refine FF_0 h8 hn _ _ _ (by omega) e3 (by omega) ?_
            have le : n * (w + 1) ≤ n * ((n - (r + 1) + t) / n) := Nat.mul_le_mul_left n (by omega)
            rw [Nat.mul_add, Nat.mul_one] at le
            generalize n * ((n - (r + 1) + t) / n) = A at *
            generalize n * w = B at *
            omega
        · rw [if_neg (fun z => c3 z.2.2)]
          by_cases c4 : (n - (r + 1) + t) / n ≤ w
          · rw [if_pos ⟨c1, c2, c4⟩]
            refine (CC_0 h8 hn _ _ _ (by omega) e3 (by omega) ?_).symm
            rw [Nat.mul_sub]
            have le : n * ((n - (r + 1) + t) / n) ≤ n * w := Nat.mul_le_mul_left n c4
            generalize n * ((n - (r + 1) + t) / n) = A at *
            generalize n * w = B at *
            omega
          · rw [if_neg (fun z => c4 z.2.2)]
      · rw [if_neg (fun z => c2 z.2.1), if_neg (fun z => c2 z.2.1)]
    · rw [if_neg (fun z => c1 z.1), if_neg (fun z => c1 z.1)]
theorem CF_0 (h8 : n < 9) (hn : 0 < n) (w : Nat) : FF al n n 0 (n * w) = CC al n n 0 w := by
  refine CF h8 hn n 0 w (n * w) (Nat.le_refl _) (Nat.two_pow_pos n) (by rw [Nat.sub_self]; rfl) ?_
  rw [Sc_0 n h8]
end FL
