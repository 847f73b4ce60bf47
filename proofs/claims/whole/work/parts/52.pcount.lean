/-! the class's counts -/
theorem i_fre : ∀ u, u < 256 → ∀ j, j < 8 → (nI u &&& ((1 : Int32) <<< (nI j &&& 31))) = if fre u j = true then 0 else nI (2 ^ j) := by decide +kernel
theorem p2_le : ∀ n, n < 9 → 2 ^ n ≤ 256 := by decide
theorem p2_ge : ∀ n, n < 9 → 0 < n → 2 ≤ 2 ^ n := by decide
theorem p2_ne : ∀ j, j < 8 → ¬ nI (2 ^ j) = 0 := by decide +kernel
theorem pass9 {n pl t : Nat} (hn : 0 < n) (hpl : pl < n) (ht : t ≤ 9) : (pl + t) / n ≤ 9 := by
  have : (pl + t) / n < 10 := by
    rw [Nat.div_lt_iff_lt_mul hn]
    have : 1 * 9 ≤ n * 9 := Nat.mul_le_mul_right 9 hn
    omega
  omega
def alw (lo hi : Nat → Nat) (i t : Nat) : Bool := decide (lo i ≤ t) && decide (t ≤ hi i)
section XC
variable {al : Nat → Nat → Bool} {n b : Nat} {μ0 μ : gM}
/-- entries of set u -/
def Er (n b : Nat) (μ : gM) (u : Nat) (g : Nat → Nat) : Prop := ∀ w, w ≤ b → μ 28 (u * 10 + w) = nI (g w)
theorem addThrow_ok {u pl t : Nat} {Q : gM → Prop} (h8 : n < 9) (hn : 0 < n) (hb : b ≤ 9) (hu : u < 2 ^ n) (hp : pcN u = pl) (hpl : pl < n) (ht : t ≤ 9) (hal : al pl t = true) (hfr : ∀ id, id ≠ 28 → μ id = μ0 id) (hT : ∀ v, u < v → v < 2 ^ n → Er n b μ v (CC al n (n - pcN v) v)) (hZ : ∀ v, v < u → Er n b μ v (fun _ => 0)) (hE : Er n b μ u (fun w => fb_sm (tC al n (CC al n (n - (pl + 1))) pl u w) t)) (hq : ∀ μ', (∀ id, id ≠ 28 → μ' id = μ0 id) → (∀ v, u < v → v < 2 ^ n → Er n b μ' v (CC al n (n - pcN v) v)) → (∀ v, v < u → Er n b μ' v (fun _ => 0)) → Er n b μ' u (fun w => fb_sm (tC al n (CC al n (n - (pl + 1))) pl u w) (t + 1)) → Q μ') : vX0_addThrow (nI n) (nI b) (nI u) (nI pl + nI t) μ Q := by
  have h256 := p2_le n h8
  have m := Nat.mod_lt (pl + t) hn
  have p9 := pass9 hn hpl ht
  unfold vX0_addThrow
  rw [nI_add, rem_nat (by omega) hn (by omega), pk_div (by omega) hn (by omega), i_fre u (by omega) _ (by omega)]
  refine ⟨ne0 hn (by omega), ?_⟩
  by_cases c : fre u ((pl + t) % n) = true
  · obtain ⟨-, e2, e3, e4⟩ := Sc_all n h8 u hu _ m c
    rw [if_pos c]
    refine br_t rfl ⟨ne0 hn (by omega), ?_⟩
    rw [shl1 _ (by omega), fa_or, show (10 : Int32) = nI 10 from rfl, pk_mul, pk_mul]
    generalize hv : u ||| 2 ^ ((pl + t) % n) = v at *
    rw [pk_sub (by omega)]
    have hterm : ∀ w, tC al n (CC al n (n - (pl + 1))) pl u w t = if (pl + t) / n ≤ w then CC al n (n - pcN v) v (w - (pl + t) / n) else 0 := fun w => by
      unfold tC
      rw [hv, e2, hp]
      by_cases z : (pl + t) / n ≤ w
      · rw [if_pos ⟨hal, c, z⟩, if_pos z]
      · rw [if_neg (fun y => z y.2.2), if_neg z]
    have hTv := hT v e4 e3
    generalize (pl + t) / n = ps at *
    have key : ∃ m, ∀ μ', ((∀ id, id ≠ 28 → μ' id = μ id) ∧ (∀ x, ¬ (u * 10 ≤ x ∧ x ≤ u * 10 + b) → μ' 28 x = μ 28 x) ∧ (∀ w, w ≤ b → w < ps → μ' 28 (u * 10 + w) = nI (fb_sm (tC al n (CC al n (n - (pl + 1))) pl u w) (t + 1))) ∧ (∀ w, w ≤ b → ps ≤ w → μ' 28 (u * 10 + w) = μ 28 (u * 10 + w))) → vX0_addThrow_44 (nI n) (nI b) (nI u) (nI (pl + t)) Q m (nI (u * 10)) (nI (v * 10 - ps)) (nI ps) μ' := by
      by_cases hpb : ps ≤ b
      · refine ex_up (fun m q => ∀ μ', ((∀ id, id ≠ 28 → μ' id = μ id) ∧ (∀ x, ¬ (u * 10 ≤ x ∧ x ≤ u * 10 + b) → μ' 28 x = μ 28 x) ∧ (∀ w, w ≤ b → w < q → μ' 28 (u * 10 + w) = nI (fb_sm (tC al n (CC al n (n - (pl + 1))) pl u w) (t + 1))) ∧ (∀ w, w ≤ b → q ≤ w → μ' 28 (u * 10 + w) = μ 28 (u * 10 + w))) → vX0_addThrow_44 (nI n) (nI b) (nI u) (nI (pl + t)) Q m (nI (u * 10)) (nI (v * 10 - ps)) (nI q) μ') (b + 1) ps (by omega) (fun m μ' hI => ?_) (fun m q hq1 hq2 ih μ' hI => ?_)
        · show vX0_addThrow_44B _ _ _ _ Q _ _ _ _ μ'
          unfold vX0_addThrow_44B
          refine br_t (ltT (by omega) (by omega)) (hq μ' (fun id z => (hI.1 id z).trans (hfr id z)) (fun y y1 y2 w hw => ?_) (fun y y1 w hw => ?_) (fun w hw => hI.2.2.1 w hw (by omega)))
          · rw [hI.2.1 _ (by omega)]; exact hT y y1 y2 w hw
          · rw [hI.2.1 _ (by omega)]; exact hZ y y1 w hw
        · show vX0_addThrow_44B _ _ _ _ Q _ _ _ _ μ'
          unfold vX0_addThrow_44B
          rw [nI_add, nI_add, nI_1, cl (by omega), cl (by omega)]
          refine br_f (ltF (by omega) (by omega)) ⟨inI (by omega) (by omega), inI (by omega) (by omega), inI (by omega) (by omega), ih _ ⟨fun id z => by rw [up2_n z]; exact hI.1 id z, fun x hx => by rw [u_o (by omega)]; exact hI.2.1 x hx, fun w hw hwq => ?_, fun w hw hwq => by rw [u_o (by omega)]; exact hI.2.2.2 w hw (by omega)⟩⟩
          by_cases e : w = q
          · rw [e, u_e, hI.2.2.2 q (by omega) (Nat.le_refl _), hE q (by omega), hI.2.1 _ (by omega), show v * 10 - ps + q = v * 10 + (q - ps) by omega, hTv (q - ps) (by omega), nI_add, fb_sm_succ, hterm, if_pos hq1]
          · rw [u_o (by omega)]; exact hI.2.2.1 w hw (by omega)
      · refine ⟨1, fun μ' hI => ?_⟩
        show vX0_addThrow_44B _ _ _ _ Q _ _ _ _ μ'
        unfold vX0_addThrow_44B
        refine br_t (ltT (by omega) (by omega)) (hq μ' (fun id z => (hI.1 id z).trans (hfr id z)) (fun y y1 y2 w hw => ?_) (fun y y1 w hw => ?_) (fun w hw => hI.2.2.1 w hw (by omega)))
        · rw [hI.2.1 _ (by omega)]; exact hT y y1 y2 w hw
        · rw [hI.2.1 _ (by omega)]; exact hZ y y1 w hw
    obtain ⟨m, hm⟩ := key
    refine ⟨m, hm μ ⟨fun _ _ => rfl, fun _ _ => rfl, fun w hw hwp => ?_, fun _ _ _ => rfl⟩⟩
    rw [hE w hw, fb_sm_succ, hterm, if_neg (by omega)]; rfl
  · rw [if_neg c]
    refine br_f (p2_ne _ (by omega)) (hq μ hfr hT hZ (fun w hw => ?_))
    have z0 : tC al n (CC al n (n - (pl + 1))) pl u w t = 0 := if_neg (fun z => c z.2.1)
    refine (hE w hw).trans ?_
    show nI (fb_sm (tC al n (CC al n (n - (pl + 1))) pl u w) t) = nI (fb_sm (tC al n (CC al n (n - (pl + 1))) pl u w) t + tC al n (CC al n (n - (pl + 1))) pl u w t)
    rw [z0]; rfl
theorem sm_lo {f : Nat → Nat} {k m : Nat} (h : ∀ t, k ≤ t → t < k + m → f t = 0) : fb_sm f (k + m) = fb_sm f k := by
  induction m with
  | zero => rfl
  | succ m ih => rw [← Nat.add_assoc, fb_sm_succ, ih (fun t h1 h2 => h t h1 (by omega)), h (k + m) (by omega) (by omega), Nat.add_zero]
theorem count_ok {lo hi : Nat → Nat} {Q : Int32 → gM → Prop} (h8 : n < 9) (hn : 0 < n) (hb : b ≤ 9) (hl : ∀ i, i < n → lo i ≤ hi i + 1 ∧ hi i ≤ 9 ∧ μ 26 i = nI (lo i) ∧ μ 27 i = nI (hi i)) (hq : ∀ μ', (∀ id, id ≠ 28 → μ' id = μ id) → (∀ u, u < 2 ^ n → Er n b μ' u (CC (alw lo hi) n (n - pcN u) u)) → Q (nI (CC (alw lo hi) n n 0 b)) μ') : vX0_count (nI n) (nI b) μ Q := by
  have h256 := p2_le n h8
  have h2 := p2_ge n h8 hn
  unfold vX0_count
  refine xw_in (l := 1) (u := 8) (by omega) (by omega) (by omega) (br_f (by decide) (xw_in (l := 0) (u := 9) (by omega) hb (by omega) (nb_f (by decide) (fill_ok (by omega) (fun μ1 hf hz => ?_)))))
  rw [shl1 _ (by omega), show (1 : Int32) = nI 1 from rfl, pk_sub (by omega), show (10 : Int32) = nI 10 from rfl, pk_mul, cl (by omega)]
  refine ⟨inI (by omega) (by omega), ?_⟩
  have key : ∀ k, k ≤ 2 ^ n - 1 → ∃ m, ∀ μ', ((∀ id, id ≠ 28 → μ' id = μ id) ∧ (∀ u, k ≤ u → u < 2 ^ n → Er n b μ' u (CC (alw lo hi) n (n - pcN u) u)) ∧ (∀ u, u < k → Er n b μ' u (fun _ => 0))) → vX0_count_51 (nI n) (nI b) Q m (nI k - nI 1) μ' := by
    intro k
    induction k with
    | zero =>
      intro _
      refine ⟨1, fun μ' hI => ?_⟩
      show vX0_count_51B _ _ Q _ _ μ'
      unfold vX0_count_51B
      refine br_t (by decide) ⟨inI (by omega) (by omega), ?_⟩
      have e := hI.2.1 0 (by omega) (by omega) b (Nat.le_refl _)
      rw [Nat.zero_mul, Nat.zero_add, show pcN 0 = 0 from rfl, Nat.sub_zero] at e
      rw [cl (by omega), e]
      exact hq μ' hI.1 (fun u hu => hI.2.1 u (by omega) hu)
    | succ k ih =>
      intro hk
      obtain ⟨m, hm⟩ := ih (by omega)
      refine ⟨m + 1, fun μ' hI => ?_⟩
      obtain ⟨p1, p2⟩ := pc_full n h8 k (by omega)
      have hpl : pcN k < n := by
        have : pcN k ≠ n := fun z => by have := p2.mp z; omega
        omega
      obtain ⟨l1, l2, l3, l4⟩ := hl (pcN k) hpl
      show vX0_count_51B _ _ Q _ _ μ'
      unfold vX0_count_51B
      rw [pk_sub (by omega), Nat.add_sub_cancel]
      refine br_f (posF (by omega)) (bitCount_ok (by omega) ⟨inI (by omega) (by omega), ?_⟩)
      rw [cl (by omega), hI.1 26 (by decide), l3]
      have key2 : ∃ q, ∀ μ', ((∀ id, id ≠ 28 → μ' id = μ id) ∧ (∀ u, k < u → u < 2 ^ n → Er n b μ' u (CC (alw lo hi) n (n - pcN u) u)) ∧ (∀ u, u < k → Er n b μ' u (fun _ => 0)) ∧ Er n b μ' k (fun w => fb_sm (tC (alw lo hi) n (CC (alw lo hi) n (n - (pcN k + 1))) (pcN k) k w) (lo (pcN k)))) → vX0_count_72 (nI n) (nI b) Q (vX0_count_51 (nI n) (nI b) Q m) q (nI k) (nI (pcN k)) (nI (lo (pcN k))) μ' := by
        refine ex_up (fun q t => ∀ μ', ((∀ id, id ≠ 28 → μ' id = μ id) ∧ (∀ u, k < u → u < 2 ^ n → Er n b μ' u (CC (alw lo hi) n (n - pcN u) u)) ∧ (∀ u, u < k → Er n b μ' u (fun _ => 0)) ∧ Er n b μ' k (fun w => fb_sm (tC (alw lo hi) n (CC (alw lo hi) n (n - (pcN k + 1))) (pcN k) k w) t)) → vX0_count_72 (nI n) (nI b) Q (vX0_count_51 (nI n) (nI b) Q m) q (nI k) (nI (pcN k)) (nI t) μ') (hi (pcN k) + 1) (lo (pcN k)) l1 (fun q μ' hJ => ?_) (fun q t ht1 ht2 ih2 μ' hJ => ?_)
        · show vX0_count_72B _ _ Q _ _ _ _ _ μ'
          unfold vX0_count_72B
          rw [cl (by omega), hJ.1 27 (by decide), l4]
          refine ⟨inI (by omega) (by omega), br_t (ltT (by omega) (by omega)) ?_⟩
          rw [show nI k + -1 = nI k - nI 1 by rw [Int32.sub_eq_add_neg]; rfl]
          refine hm μ' ⟨hJ.1, fun u hu1 hu2 => ?_, hJ.2.2.1⟩
          by_cases e : u = k
          · subst e
            intro w hw
            rw [hJ.2.2.2 w hw, show n - pcN u = n - (pcN u + 1) + 1 by omega]
            simp only [CC]
            have sl := sm_lo (f := tC (alw lo hi) n (CC (alw lo hi) n (n - (pcN u + 1))) (pcN u) u w) (k := hi (pcN u) + 1) (m := 9 - hi (pcN u)) (fun t t1 t2 => if_neg (fun z => by
              have := z.1
              simp only [alw, Bool.and_eq_true, decide_eq_true_eq] at this
              omega))
            rw [show n - (n - (pcN u + 1) + 1) = pcN u by omega, show (10 : Nat) = (hi (pcN u) + 1) + (9 - hi (pcN u)) by omega, sl]
          · exact hJ.2.1 u (by omega) hu2
        · show vX0_count_72B _ _ Q _ _ _ _ _ μ'
          unfold vX0_count_72B
          rw [cl (by omega), hJ.1 27 (by decide), l4, nI_1]
          refine ⟨inI (by omega) (by omega), br_f (ltF (by omega) (by omega)) (addThrow_ok (al := alw lo hi) h8 hn hb (by omega) rfl hpl (by omega) ?_ hJ.1 hJ.2.1 hJ.2.2.1 hJ.2.2.2 (fun μ2 f1 f2 f3 f4 => ih2 μ2 ⟨f1, f2, f3, f4⟩))⟩
          simp only [alw, Bool.and_eq_true, decide_eq_true_eq]
          omega
      obtain ⟨q, hq2⟩ := key2
      refine ⟨q, hq2 μ' ⟨hI.1, fun u h1 h2 => hI.2.1 u (by omega) h2, fun u h1 => hI.2.2 u (by omega), fun w hw => ?_⟩⟩
      refine (hI.2.2 k (by omega) w hw).trans ?_
      show nI 0 = nI (fb_sm (tC (alw lo hi) n (CC (alw lo hi) n (n - (pcN k + 1))) (pcN k) k w) (lo (pcN k)))
      rw [sm_0 (f := tC (alw lo hi) n (CC (alw lo hi) n (n - (pcN k + 1))) (pcN k) k w) (lo (pcN k)) (fun t ht => if_neg (fun z => by
        have := z.1
        simp only [alw, Bool.and_eq_true, decide_eq_true_eq] at this
        omega))]
  obtain ⟨m, hm⟩ := key (2 ^ n - 1) (Nat.le_refl _)
  refine ⟨m, hm _ ⟨fun id z => by rw [up2_n z]; exact hf id z, fun u h1 h2 w hw => ?_, fun u h1 w hw => ?_⟩⟩
  · have e : u = 2 ^ n - 1 := by omega
    have pe := (pc_full n h8 u h2).2.mpr e
    rw [pe, Nat.sub_self]
    simp only [CC]
    by_cases w0 : w = 0
    · rw [w0, if_pos rfl, e, Nat.add_zero, u_e]
    · rw [if_neg w0, u_o (by omega)]; exact hz _ (by omega)
  · rw [u_o (by omega)]; exact hz _ (by omega)
end XC
