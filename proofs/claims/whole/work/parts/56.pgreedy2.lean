/-! the first filling, walked -/
def gq (al : Nat → Nat → Bool) (n b : Nat) : Nat → Nat × Nat × Nat
  | 0 => (0, b, n * b)
  | k + 1 => ((gq al n b k).1 ||| 2 ^ ((k + gt al n k (gq al n b k).1 (gq al n b k).2.1) % n), (gq al n b k).2.1 - (k + gt al n k (gq al n b k).1 (gq al n b k).2.1) / n, (gq al n b k).2.2 - gt al n k (gq al n b k).1 (gq al n b k).2.1)
def ga (al : Nat → Nat → Bool) (n b : Nat) : Nat → Nat
  | 0 => 0
  | k + 1 => gt al n k (gq al n b k).1 (gq al n b k).2.1
section G2
variable {al : Nat → Nat → Bool} {n b : Nat} {μ ν : gM} {τ : gJ}
theorem GI_all (h8 : n < 9) (hn : 0 < n) (hb : b ≤ 9) (h : 0 < CC al n n 0 b) : ∀ k, k ≤ n → GI al n b k (gq al n b k).1 (gq al n b k).2.1 (gq al n b k).2.2 := by
  intro k
  induction k with
  | zero =>
    intro _
    have nw : n * b ≤ 72 := Nat.mul_le_mul (show n ≤ 8 by omega) hb
    refine ⟨Nat.two_pow_pos n, by show pcN 0 = 0; rfl, Nat.le_refl _, by show n * b ≤ 80; omega, ?_, by rw [Nat.sub_zero]; exact h⟩
    show n * b + sI n (n - 0) = n * b + Sc n 0
    rw [Sc_0 n h8, Nat.sub_zero]
  | succ k ih =>
    intro hk
    exact (GI_next h8 hn (by omega) (ih (by omega))).2.2.2.2
theorem firstThrow_ok {lo hi : Nat → Nat} {k u w s : Nat} {Q : Int32 → gM → Prop} (h8 : n < 9) (hn : 0 < n) (hb : b ≤ 9) (hk : k < n) (hl : hi k ≤ 9 ∧ μ 26 k = nI (lo k) ∧ μ 27 k = nI (hi k)) (hT : ∀ v, v < 2 ^ n → Er n b μ v (CC (alw lo hi) n (n - pcN v) v)) (hG : GI (alw lo hi) n b k u w s) (hq : Q (nI (gt (alw lo hi) n k u w)) μ) : vX0_firstThrow (nI n) (nI u) (nI w) μ Q := by
  obtain ⟨g1, g2, g3, g4, g5⟩ := GI_next h8 hn hk hG
  obtain ⟨f1, f2, f3⟩ := gt_ok hk hG.2.2.2.2.2
  obtain ⟨u1, u2, u3, -⟩ := hG
  have h256 := p2_le n h8
  unfold vX0_firstThrow
  refine bitCount_ok (by omega) ?_
  rw [u2]
  refine br_t (ltT hk (by omega)) ⟨inI (by omega) (by omega), ?_⟩
  rw [cl (by omega), hl.2.1]
  simp only [alw, Bool.and_eq_true, decide_eq_true_eq] at g1
  generalize ht : gt (alw lo hi) n k u w = t0 at *
  have ev : ∀ t, t ≤ 9 → t < hi k → lo k ≤ t → ∀ K23 : Int32 → Int32 → gM → Prop, (tC (alw lo hi) n (CC (alw lo hi) n (n - (k + 1))) k u w t = 0 → K23 (nI k) (nI (t + 1)) μ) → (0 < tC (alw lo hi) n (CC (alw lo hi) n (n - (k + 1))) k u w t → Q (nI t) μ) → vX0_firstThrow_23B (nI n) (nI u) (nI w) Q K23 (nI k) (nI t) μ := by
    intro t t9 thi tlo K23 h0 h1
    have m := Nat.mod_lt (k + t) hn
    have p9 := pass9 hn hk t9
    have et : nI t + 1 = nI (t + 1) := nI_1 t
    have hal : alw lo hi k t = true := by simp only [alw, Bool.and_eq_true, decide_eq_true_eq]; omega
    unfold vX0_firstThrow_23B
    rw [cl (by omega), hl.2.2, et, nI_add, rem_nat (by omega) hn (by omega), pk_div (by omega) hn (by omega), i_fre u (by omega) _ (by omega), shl1 _ (by omega), fa_or, show (10 : Int32) = nI 10 from rfl, pk_mul]
    refine ⟨inI (by omega) (by omega), br_f (leF thi (by omega)) ⟨ne0 hn (by omega), ne0 hn (by omega), ?_⟩⟩
    by_cases c : fre u ((k + t) % n) = true
    · rw [if_pos c]
      refine nb_t rfl ?_
      obtain ⟨-, e2, e3, -⟩ := Sc_all n h8 u u1 _ m c
      by_cases c4 : (k + t) / n ≤ w
      · have ec : tC (alw lo hi) n (CC (alw lo hi) n (n - (k + 1))) k u w t = CC (alw lo hi) n (n - (k + 1)) (u ||| 2 ^ ((k + t) % n)) (w - (k + t) / n) := if_pos ⟨hal, c, c4⟩
        have hv := hT _ e3 (w - (k + t) / n) (Nat.le_trans (Nat.sub_le _ _) u3)
        rw [e2, u2, ← ec] at hv
        have cle : tC (alw lo hi) n (CC (alw lo hi) n (n - (k + 1))) k u w t ≤ 100000000 := by
          rw [ec]; exact Nat.le_trans (CC_le _ _ _) (ten8 (by omega))
        generalize tC (alw lo hi) n (CC (alw lo hi) n (n - (k + 1))) k u w t = C at *
        generalize u ||| 2 ^ ((k + t) % n) = v at *
        generalize (k + t) / n = ps at *
        rw [pk_sub c4, nI_add, cl (by omega), hv]
        refine br_f (posF (by omega)) ⟨inI (by omega) (by omega), ?_⟩
        by_cases z : C = 0
        · exact br_t (by rw [z]; decide) (h0 z)
        · refine br_f (fun q => z ?_) (h1 (by omega))
          have := (nI_leI (b := 0) (by omega) (by omega)).mp q
          omega
      · exact br_t (pk_sneg (by omega) (by omega)) (h0 (if_neg (fun z => c4 z.2.2)))
    · rw [if_neg c]
      exact nb_f (p2_ne _ (by omega)) (h0 (if_neg (fun z => c z.2.1)))
  have key : ∀ d t, t + d = t0 → lo k ≤ t → ∃ m, vX0_firstThrow_23 (nI n) (nI u) (nI w) Q m (nI k) (nI t) μ := by
    intro d
    induction d with
    | zero =>
      intro t et hlo
      have et : t = t0 := by omega
      refine ⟨1, ?_⟩
      rw [et]
      show vX0_firstThrow_23B _ _ _ Q _ _ _ μ
      by_cases c : t0 < hi k
      · exact ev t0 (by omega) c (by omega) _ (fun z => by omega) (fun _ => hq)
      · unfold vX0_firstThrow_23B
        rw [cl (by omega), hl.2.2]
        refine ⟨inI (by omega) (by omega), br_t (leT (by omega) (by omega)) ⟨inI (by omega) (by omega), ?_⟩⟩
        rw [show hi k = t0 by omega]; exact hq
    | succ d ih =>
      intro t et hlo
      obtain ⟨m, hm⟩ := ih (t + 1) (by omega) (by omega)
      refine ⟨m + 1, ?_⟩
      show vX0_firstThrow_23B _ _ _ Q _ _ _ μ
      exact ev t (by omega) (by omega) hlo _ (fun _ => hm) (fun z => by have := f3 t (by omega); omega)
  exact key (t0 - lo k) (lo k) (by omega) (Nat.le_refl _)
theorem throwOfFirst_ok {lo hi : Nat → Nat} {v : Nat} {Q : Int32 → gM → Prop} (h8 : n < 9) (hn : 0 < n) (hb : b ≤ 9) (hv : v < n) (hl : ∀ k, k < n → hi k ≤ 9 ∧ μ 26 k = nI (lo k) ∧ μ 27 k = nI (hi k)) (hT : ∀ v, v < 2 ^ n → Er n b μ v (CC (alw lo hi) n (n - pcN v) v)) (h0 : 0 < CC (alw lo hi) n n 0 b) (hq : Q (nI (ga (alw lo hi) n b (v + 1))) μ) : vX0_throwOfFirst (nI n) (nI b) (nI v) μ Q := by
  have hG := GI_all h8 hn hb h0
  unfold vX0_throwOfFirst
  refine ex_up (fun m k => vX0_throwOfFirst_12 (nI n) (nI b) (nI v) Q m (nI (gq (alw lo hi) n b k).1) (nI (gq (alw lo hi) n b k).2.1) (nI (ga (alw lo hi) n b k)) (nI k) μ) (v + 1) 0 (by omega) (fun m => ?_) (fun m k _ hk ih => ?_)
  · show vX0_throwOfFirst_12B _ _ _ Q _ _ _ _ _ μ
    unfold vX0_throwOfFirst_12B
    exact br_t (ltT (by omega) (by omega)) hq
  · have G := hG k (by omega)
    obtain ⟨g1, g2, g3, g4, g5⟩ := GI_next h8 hn (by omega) G
    have f1 := (gt_ok (show k < n by omega) G.2.2.2.2.2).1
    have m2 := Nat.mod_lt (k + gt (alw lo hi) n k (gq (alw lo hi) n b k).1 (gq (alw lo hi) n b k).2.1) hn
    have u3 := G.2.2.1
    show vX0_throwOfFirst_12B _ _ _ Q _ _ _ _ _ μ
    unfold vX0_throwOfFirst_12B
    refine br_f (ltF (by omega) (by omega)) (xw_in (l := 1) (u := 8) hn (by omega) (by omega) (br_f (by decide) (firstThrow_ok h8 hn hb (by omega) (hl k (by omega)) hT G ⟨ne0 hn (by omega), ne0 hn (by omega), ?_⟩)))
    have ek : nI k + 1 = nI (k + 1) := nI_1 k
    rw [ek, nI_add, rem_nat (by omega) hn (by omega), pk_div (by omega) hn (by omega), shl1 _ (by omega), fa_or, pk_sub g3]
    exact ih
end G2
