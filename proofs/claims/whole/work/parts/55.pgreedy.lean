/-! the first filling -/
theorem lg_0 : lg_cmp (lN 0) 0 = 0 := lg_self 0
section GR
variable {al : Nat → Nat → Bool} {n : Nat}
theorem CF_t (h8 : n < 9) (hn : 0 < n) (k u w s t : Nat) (hk : k < n) (hu : u < 2 ^ n) (hp : pcN u = k) (h : s + sI n (n - k) = n * w + Sc n u) : tF al n (FF al n (n - (k + 1))) k u s t = tC al n (CC al n (n - (k + 1))) k u w t := by
  unfold tF tC
  by_cases c1 : al k t = true
  · by_cases c2 : fre u ((k + t) % n) = true
    · have m := Nat.mod_lt (k + t) hn
      obtain ⟨e1, e2, e3, -⟩ := Sc_all n h8 u hu _ m c2
      have d := ds (x := k + t) hn
      rw [show n - k = n - (k + 1) + 1 by omega] at h
      simp only [sI] at h
      by_cases c3 : t ≤ s
      · rw [if_pos ⟨c1, c2, c3⟩]
        by_cases c4 : (k + t) / n ≤ w
        · rw [if_pos ⟨c1, c2, c4⟩]
          refine CF h8 hn _ _ _ _ (by omega) e3 (by omega) ?_
          rw [Nat.mul_sub]
          have le : n * ((k + t) / n) ≤ n * w := Nat.mul_le_mul_left n c4
          generalize n * ((k + t) / n) = A at *
          generalize n * w = B at *
          omega
        · rw [if_neg (fun z => c4 z.2.2)]
          refine FF_0 h8 hn _ _ _ (by omega) e3 (by omega) ?_
          have le : n * (w + 1) ≤ n * ((k + t) / n) := Nat.mul_le_mul_left n (by omega)
          rw [Nat.mul_add, Nat.mul_one] at le
          generalize n * ((k + t) / n) = A at *
          generalize n * w = B at *
          omega
      · rw [if_neg (fun z => c3 z.2.2)]
        by_cases c4 : (k + t) / n ≤ w
        · rw [if_pos ⟨c1, c2, c4⟩]
          refine (CC_0 h8 hn _ _ _ (by omega) e3 (by omega) ?_).symm
          rw [Nat.mul_sub]
          have le : n * ((k + t) / n) ≤ n * w := Nat.mul_le_mul_left n c4
          generalize n * ((k + t) / n) = A at *
          generalize n * w = B at *
          omega
        · rw [if_neg (fun z => c4 z.2.2)]
    · rw [if_neg (fun z => c2 z.2.1), if_neg (fun z => c2 z.2.1)]
  · rw [if_neg (fun z => c1 z.1), if_neg (fun z => c1 z.1)]
def gt (al : Nat → Nat → Bool) (n k u w : Nat) : Nat := sr (fun t => decide (0 < tC al n (CC al n (n - (k + 1))) k u w t)) id 0 10 0
def GI (al : Nat → Nat → Bool) (n b k u w s : Nat) : Prop := u < 2 ^ n ∧ pcN u = k ∧ w ≤ b ∧ s ≤ 80 ∧ s + sI n (n - k) = n * w + Sc n u ∧ 0 < CC al n (n - k) u w
theorem gt_ok {k u w : Nat} (hk : k < n) (h : 0 < CC al n (n - k) u w) : gt al n k u w < 10 ∧ 0 < tC al n (CC al n (n - (k + 1))) k u w (gt al n k u w) ∧ ∀ t, t < gt al n k u w → tC al n (CC al n (n - (k + 1))) k u w t = 0 := by
  rw [show n - k = n - (k + 1) + 1 by omega] at h
  simp only [CC] at h
  rw [show n - (n - (k + 1) + 1) = k by omega] at h
  obtain ⟨t, t1, t2⟩ : ∃ t, t < 10 ∧ 0 < tC al n (CC al n (n - (k + 1))) k u w t := by
    apply Classical.byContradiction
    intro z
    rw [sm_0 (f := tC al n (CC al n (n - (k + 1))) k u w) 10 (fun t ht => Classical.byContradiction (fun y => z ⟨t, ht, by omega⟩))] at h
    omega
  obtain ⟨a1, a2, a3, a4⟩ := sr_least (e := fun t => decide (0 < tC al n (CC al n (n - (k + 1))) k u w t)) 10 0 t (by omega) (by omega) (decide_eq_true t2)
  refine ⟨by unfold gt; omega, of_decide_eq_true a3, fun x hx => ?_⟩
  have := of_decide_eq_false (a4 x (by omega) hx)
  omega
theorem GI_next {b k u w s : Nat} (h8 : n < 9) (hn : 0 < n) (hk : k < n) (h : GI al n b k u w s) : al k (gt al n k u w) = true ∧ fre u ((k + gt al n k u w) % n) = true ∧ (k + gt al n k u w) / n ≤ w ∧ gt al n k u w ≤ s ∧ GI al n b (k + 1) (u ||| 2 ^ ((k + gt al n k u w) % n)) (w - (k + gt al n k u w) / n) (s - gt al n k u w) := by
  obtain ⟨h1, h2, h3, h4, h5, h6⟩ := h
  obtain ⟨g1, g2, -⟩ := gt_ok hk h6
  have g3 := CF_t (al := al) h8 hn k u w s (gt al n k u w) hk h1 h2 h5
  generalize gt al n k u w = t at *
  have c : al k t = true ∧ fre u ((k + t) % n) = true ∧ (k + t) / n ≤ w := by
    apply Classical.byContradiction
    intro z
    unfold tC at g2
    rw [if_neg z] at g2; omega
  obtain ⟨c1, c2, c4⟩ := c
  have c3 : t ≤ s := by
    apply Classical.byContradiction
    intro z
    rw [← g3] at g2
    unfold tF at g2
    rw [if_neg (fun y => z y.2.2)] at g2; omega
  have m := Nat.mod_lt (k + t) hn
  obtain ⟨e1, e2, e3, -⟩ := Sc_all n h8 u h1 _ m c2
  have d := ds (x := k + t) hn
  rw [show n - k = n - (k + 1) + 1 by omega] at h5
  simp only [sI] at h5
  unfold tC at g2
  rw [if_pos ⟨c1, c2, c4⟩] at g2
  refine ⟨c1, c2, c4, c3, e3, by omega, Nat.le_trans (Nat.sub_le _ _) h3, by omega, ?_, g2⟩
  rw [Nat.mul_sub]
  have le : n * ((k + t) / n) ≤ n * w := Nat.mul_le_mul_left n c4
  generalize n * ((k + t) / n) = A at *
  generalize n * w = B at *
  omega
end GR
