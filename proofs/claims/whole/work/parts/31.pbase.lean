theorem ex_up (G : Nat → Nat → Prop) (N k0 : Nat) (hk : k0 ≤ N) (hx : ∀ n, G (n + 1) N) (hs : ∀ n k, k0 ≤ k → k < N → G n (k + 1) → G (n + 1) k) : ∃ n, G n k0 := by
  have key : ∀ d k, k0 ≤ k → k + d = N → ∃ n, G n k := by
    intro d
    induction d with
    | zero => intro k _ e; exact ⟨1, by rw [show k = N by omega]; exact hx 0⟩
    | succ d ih =>
      intro k h e
      obtain ⟨n, hn⟩ := ih (k + 1) (by omega) (by omega)
      exact ⟨n + 1, hs n k h (by omega) hn⟩
  exact key (N - k0) k0 (Nat.le_refl _) (by omega)
/-- a loop whose measure falls -/
theorem ex_ms {α : Type} (G : Nat → α → Prop) (I : α → Prop) (ms : α → Nat) (hs : ∀ n a, I a → (∀ b, I b → ms b < ms a → G n b) → G (n + 1) a) (mono : ∀ n a, G n a → G (n + 1) a) (a : α) (h : I a) : ∃ n, G n a := by
  have key : ∀ k a, ms a < k → I a → G k a := by
    intro k
    induction k with
    | zero => intro a h; omega
    | succ k ih =>
      intro a hm hI
      exact hs k a hI (fun b hb hlt => ih b (by omega) hb)
  exact ⟨ms a + 1, key (ms a + 1) a (by omega) h⟩
theorem lit (n : Nat) : (OfNat.ofNat n : Int32) = nI n := rfl
theorem nIe {a b : Nat} (h : a = b) : nI a = nI b := by rw [h]
theorem tI {x : Int32} {y : Int32} (h : x.toInt = y.toInt) : x = y := Int32.toInt_inj.mp h
theorem nI_int {n : Nat} (h : n < 1000000) : (nI n).toInt = (n : Int) := nI_toInt (by omega)
theorem le_i {a b : Int32} : a ≤ b ↔ a.toInt ≤ b.toInt := Int32.le_iff_toInt_le
theorem lt_i {a b : Int32} : a < b ↔ a.toInt < b.toInt := Int32.lt_iff_toInt_lt
theorem eq_i {a b : Int32} : a = b ↔ a.toInt = b.toInt := Int32.toInt_inj.symm
theorem rng (x : Int32) : -2147483648 ≤ x.toInt ∧ x.toInt ≤ 2147483647 := by
  have h1 := Int32.le_toInt x
  have h2 := Int32.toInt_lt x
  omega
theorem add_i {a b : Int32} (h1 : -2147483648 ≤ a.toInt + b.toInt) (h2 : a.toInt + b.toInt ≤ 2147483647) : (a + b).toInt = a.toInt + b.toInt := fb_addI h1 (by omega)
theorem sub_i {a b : Int32} (h1 : -2147483648 ≤ a.toInt - b.toInt) (h2 : a.toInt - b.toInt ≤ 2147483647) : (a - b).toInt = a.toInt - b.toInt := fb_subI h1 (by omega)
theorem mul_i {a b : Int32} (h1 : -2147483648 ≤ a.toInt * b.toInt) (h2 : a.toInt * b.toInt ≤ 2147483647) : (a * b).toInt = a.toInt * b.toInt := fb_mulI h1 (by omega)
theorem xor_sign {a : Int32} {p : Nat} (hp : p < 1000000) : 0 ≤ (a ^^^ nI p) ↔ 0 ≤ a.toInt := by
  have e : ∀ x : Int32, (0 : Int32) ≤ x ↔ x.toBitVec.msb = false := by
    intro x
    rw [le_i, BitVec.msb_eq_toInt]
    show (0 : Int) ≤ x.toInt ↔ decide (x.toInt < 0) = false
    simp
  have hm : (nI p).toBitVec.msb = false := (e _).mp (nI_pos' (by omega))
  rw [e]
  have hx : (a ^^^ nI p).toBitVec = a.toBitVec ^^^ (nI p).toBitVec := rfl
  rw [hx, BitVec.msb_xor, hm, Bool.xor_false, ← e a, le_i]
  exact Iff.rfl
theorem emod_tmod {a p : Int} (hp : 0 < p) (h : 0 ≤ a) : a.tmod p = a % p := Int.tmod_eq_emod_of_nonneg h
theorem floorMod_ok {a : Int32} {p : Nat} (hp : 0 < p) (hp8 : p ≤ 8) {Q : Int32 → Prop} (h : Q (nI (a.toInt % (p : Int)).toNat)) : vJ9_floorMod_7cf53 a (nI p) Q := by
  have hpi : (nI p).toInt = (p : Int) := nI_int (by omega)
  have hm0 : 0 ≤ a.toInt % (p : Int) := Int.emod_nonneg _ (by omega)
  have hm1 : a.toInt % (p : Int) < p := Int.emod_lt_of_pos _ (by omega)
  have hr := rem_toInt a (nI p)
  rw [hpi] at hr
  have hn : (nI (a.toInt % (p : Int)).toNat).toInt = a.toInt % (p : Int) := by
    rw [nI_int (by omega)]; omega
  have hb := tmod_bounds (a := a.toInt) (M := (p : Int)) (by omega)
  unfold vJ9_floorMod_7cf53
  refine ⟨nI_ne0 hp (by omega), fun c => ?_, fun c => ?_⟩
  · have ha : 0 ≤ a.toInt := (xor_sign (by omega)).mp c
    have e : a - a / nI p * nI p = nI (a.toInt % (p : Int)).toNat := tI (by rw [hr, hn, Int.tmod_eq_emod_of_nonneg ha])
    rw [e]; exact h
  · have ha : ¬ 0 ≤ a.toInt := fun z => c ((xor_sign (by omega)).mpr z)
    have hneg : a.toInt.tmod p ≤ 0 ∧ (a.toInt % (p : Int) = a.toInt.tmod p ∧ a.toInt.tmod p = 0 ∨ a.toInt % (p : Int) = a.toInt.tmod p + p ∧ a.toInt.tmod p ≠ 0) := by
      have e1 : a.toInt.tmod p = -((-a.toInt).tmod p) := by rw [Int.neg_tmod, Int.neg_neg]
      have e2 : (-a.toInt).tmod p = (-a.toInt) % (p : Int) := Int.tmod_eq_emod_of_nonneg (by omega)
      have e3 : 0 ≤ (-a.toInt) % (p : Int) := Int.emod_nonneg _ (by omega)
      have e4 : (-a.toInt) % (p : Int) < p := Int.emod_lt_of_pos _ (by omega)
      have d1 := Int.emod_add_mul_ediv a.toInt p
      have d2 := Int.emod_add_mul_ediv (-a.toInt) p
      generalize (-a.toInt) % (p : Int) = u at *
      generalize a.toInt % (p : Int) = v at *
      generalize a.toInt / (p : Int) = x at *
      generalize (-a.toInt) / (p : Int) = y at *
      have hs : u + v + (p : Int) * (x + y) = 0 := by rw [Int.mul_add]; omega
      have hxy : x + y = 0 ∨ x + y = -1 := by
        have k1 : x + y ≤ 0 := by
          apply Classical.byContradiction
          intro hc
          have : (p : Int) * 1 ≤ (p : Int) * (x + y) := Int.mul_le_mul_of_nonneg_left (by omega) (by omega)
          omega
        have k2 : -1 ≤ x + y := by
          apply Classical.byContradiction
          intro hc
          have : (p : Int) * (x + y) ≤ (p : Int) * (-2) := Int.mul_le_mul_of_nonneg_left (by omega) (by omega)
          omega
        omega
      refine ⟨by omega, ?_⟩
      rcases hxy with q | q
      · left; rw [q] at hs; omega
      · rw [q] at hs
        by_cases hu : u = 0
        · omega
        · right; omega
    refine ⟨fun c2 => ?_, fun c2 => ?_⟩
    · have hz : a.toInt.tmod p = 0 := by rw [← hr, c2]; rfl
      have e : a - a / nI p * nI p = nI (a.toInt % (p : Int)).toNat := tI (by rw [hr, hn]; omega)
      rw [e]; exact h
    · have hz : a.toInt.tmod p ≠ 0 := fun z => c2 (tI (by rw [hr, z]; rfl))
      have e : a - a / nI p * nI p + nI p = nI (a.toInt % (p : Int)).toNat := by
        apply tI
        rw [add_i (by rw [hr, hpi]; omega) (by rw [hr, hpi]; omega), hr, hpi, hn]; omega
      rw [e]; exact h
