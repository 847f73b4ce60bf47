/-! likeness, and the pattern -/
def aq (p : Nat) (s t : Nat → Nat) : Bool := sr (fun k => decide (s k ≠ t k)) (fun _ => false) true p 0
theorem aq_iff {p : Nat} {s t : Nat → Nat} : aq p s t = true ↔ ∀ k, k < p → s k = t k := by
  have key : ∀ d j, sr (fun k => decide (s k ≠ t k)) (fun _ => false) true d j = true ↔ ∀ k, j ≤ k → k < j + d → s k = t k := by
    intro d
    induction d with
    | zero => intro j; simp only [sr, true_iff]; intro k h1 h2; omega
    | succ d ih =>
      intro j
      by_cases c : s j = t j
      · simp only [sr, c, ne_eq, not_true_eq_false, decide_false, Bool.false_eq_true, if_false]
        rw [ih]
        refine ⟨fun z k h1 h2 => ?_, fun z k h1 h2 => z k (by omega) (by omega)⟩
        by_cases e : k = j
        · rw [e]; exact c
        · exact z k (by omega) (by omega)
      · have c2 : decide (s j ≠ t j) = true := decide_eq_true c
        simp only [sr, c2, if_true]
        refine ⟨fun z => by simp at z, fun z => absurd (z j (Nat.le_refl _) (by omega)) c⟩
  unfold aq
  rw [key]
  exact ⟨fun z k hk => z k (by omega) (by omega), fun z k _ hk => z k (by omega)⟩
theorem any_iff {p : Nat} {e : Nat → Bool} : sr e (fun _ => true) false p 0 = true ↔ ∃ t, t < p ∧ e t = true := by
  have key : ∀ d j, sr e (fun _ => true) false d j = true ↔ ∃ t, j ≤ t ∧ t < j + d ∧ e t = true := by
    intro d
    induction d with
    | zero => intro j; simp only [sr]; exact ⟨fun z => by simp at z, fun ⟨t, h1, h2, _⟩ => by omega⟩
    | succ d ih =>
      intro j
      by_cases c : e j = true
      · simp only [sr, c, if_true]
        exact ⟨fun _ => ⟨j, Nat.le_refl _, by omega, c⟩, fun _ => trivial⟩
      · simp only [sr, c]
        rw [if_neg (by simp), ih]
        refine ⟨fun ⟨t, h1, h2, h3⟩ => ⟨t, by omega, by omega, h3⟩, fun ⟨t, h1, h2, h3⟩ => ?_⟩
        by_cases z : t = j
        · rw [z] at h3; exact absurd h3 c
        · exact ⟨t, by omega, by omega, h3⟩
  rw [key]
  exact ⟨fun ⟨t, _, h2, h3⟩ => ⟨t, by omega, h3⟩, fun ⟨t, h2, h3⟩ => ⟨t, by omega, by omega, h3⟩⟩
theorem like_eq {p : Nat} {h g : Nat → Nat} (hp : 0 < p) (hh : ∀ k, k < p → h k ≤ 9) (hg : ∀ k, k < p → g k ≤ 9) : aq p (ro p h (bt p h p)) (ro p g (bt p g p)) = sr (fun t => aq p g (ro p h t)) (fun _ => true) false p 0 := by
  have ba : ∀ f : Nat → Nat, bt p f p < p := fun f => by
    have := bt_lt (p := p) (h := f) (p - 1)
    rw [show p - 1 + 1 = p by omega] at this
    omega
  have l1 := ba h
  have l2 := ba g
  rw [Bool.eq_iff_iff, aq_iff, any_iff]
  refine ⟨fun z => ⟨(bt p h p + (p - bt p g p)) % p, Nat.mod_lt _ hp, aq_iff.mpr (fun k hk => ?_)⟩, fun ⟨t, ht, z⟩ => ?_⟩
  · have := z ((k + (p - bt p g p)) % p) (Nat.mod_lt _ hp)
    unfold ro at this ⊢
    rw [Nat.mod_add_mod, Nat.mod_add_mod, show k + (p - bt p g p) + bt p g p = k + p by omega, Nat.add_mod_right, Nat.mod_eq_of_lt hk] at this
    rw [← this, Nat.add_mod_mod, show k + (p - bt p g p) + bt p h p = k + (bt p h p + (p - bt p g p)) by omega]
  · have z := aq_iff.mp z
    have tr : ∀ b k, ro p g b k = ro p h ((b + t) % p) k := by
      intro b k
      show g ((k + b) % p) = _
      rw [z _ (Nat.mod_lt _ hp)]
      unfold ro
      rw [Nat.mod_add_mod, Nat.add_mod_mod, Nat.add_assoc]
    have e1 : vl (ro p g (bt p g p)) p ≤ vl (ro p h (bt p h p)) p := by
      rw [vl_eq (t := ro p h ((bt p g p + t) % p)) (fun k _ => tr _ k)]
      exact bt_max hp hh p _ (Nat.mod_lt _ hp)
    have e2 : vl (ro p h (bt p h p)) p ≤ vl (ro p g (bt p g p)) p := by
      have e3 := vl_eq (n := p) (t := ro p h (((bt p h p + (p - t)) % p + t) % p)) (fun k _ => tr ((bt p h p + (p - t)) % p) k)
      rw [Nat.mod_add_mod, show bt p h p + (p - t) + t = bt p h p + p by omega, Nat.add_mod_right, Nat.mod_eq_of_lt l1] at e3
      rw [← e3]
      exact bt_max hp hg p _ (Nat.mod_lt _ hp)
    exact vl_inj p (fun k _ => ro_le hp hh _ k) (fun k _ => ro_le hp hg _ k) (by omega)
section S8
variable {K : gM → gM → gJ → Prop} {μ ν : gM} {τ : gJ} {QX : Int32 → gM → Prop} {a b : Int32}
theorem xisTurned_ok {r r1 p : Nat} {h g : Nat → Nat} {Q : Int32 → gM → Prop} (hR : IsRow μ r p h) (hR1 : IsRow μ r1 p g) (hp : 0 < p) (hq : Q (b01 (aq p (ro p h (bt p h p)) (ro p g (bt p g p)))) μ) : vX3_isTurned r r1 μ Q := by
  have h8 := hR.2.1
  unfold vX3_isTurned
  have l1 := bt_le (p := p) (h := h) p
  have l2 := bt_le (p := p) (h := g) p
  refine br_t (by rw [hR.1, hR1.1]) (greatestTurn_ok hR hp (greatestTurn_ok hR1 hp ?_))
  refine ex_sr (fun n j => vX3_isTurned_26 r r1 Q n (nI (bt p h p)) (nI (bt p g p)) (nI j) μ) (fun z => Q (b01 z) μ) _ _ _ p (fun hk n => ?_) (fun n j hj c hk => ?_) (fun n j hj c ih => ?_) 0 (Nat.zero_le _) hq
  · show vX3_isTurned_26B r r1 Q _ _ _ _ μ
    unfold vX3_isTurned_26B
    rw [hR.1]
    exact br_t (leT (Nat.le_refl _) (by omega)) hk
  · show vX3_isTurned_26B r r1 Q _ _ _ _ μ
    unfold vX3_isTurned_26B
    rw [hR.1]
    refine br_f (leF hj (by omega)) (heightIn_ok hR hp (heightIn_ok hR1 hp ?_))
    rw [hz_ro (by omega) (by omega), hz_ro (by omega) (by omega)]
    have c := of_decide_eq_true c
    have a9 := ro_le hp (fun k hk => (hR.2.2 k hk).1) (bt p h p) j
    have b9 := ro_le hp (fun k hk => (hR1.2.2 k hk).1) (bt p g p) j
    exact br_f (neF c (by omega) (by omega)) hk
  · show vX3_isTurned_26B r r1 Q _ _ _ _ μ
    unfold vX3_isTurned_26B
    rw [hR.1]
    refine br_f (leF hj (by omega)) (heightIn_ok hR hp (heightIn_ok hR1 hp ?_))
    rw [hz_ro (by omega) (by omega), hz_ro (by omega) (by omega), nI_1]
    have c : ro p h (bt p h p) j = ro p g (bt p g p) j := Classical.byContradiction (fun z => by
      have := of_decide_eq_false c
      exact this z)
    rw [c]
    exact br_t rfl ih
theorem misTurned_ok {p i t : Nat} {h g : Nat → Nat} {Q : Int32 → gM → gJ → Prop} (hR : MRow ν p h) (hp : 0 < p) (hi : i < 3) (ht : t < p) (hg : ∀ k, k < p → g k ≤ 9 ∧ ν 42 (8 * i + k) = nI (g k)) (hq : Q (b01 (aq p g (ro p h t))) ν τ) : vX7_isTurned (nI i) (nI t) ν τ Q := by
  have h1 := hR.1
  have h8 := hR.2.1
  unfold vX7_isTurned
  refine ex_sr (fun n j => vX7_isTurned_2 (nI i) (nI t) Q n (nI j) ν τ) (fun z => Q (b01 z) ν τ) _ _ _ p (fun hk n => ?_) (fun n j hj c hk => ?_) (fun n j hj c ih => ?_) 0 (Nat.zero_le _) hq
  · show vX7_isTurned_2B _ _ Q _ _ ν τ
    unfold vX7_isTurned_2B
    rw [h1]
    exact br_t (leT (Nat.le_refl _) (by omega)) hk
  · have m1 := Nat.mod_lt (j + t) hp
    show vX7_isTurned_2B _ _ Q _ _ ν τ
    unfold vX7_isTurned_2B
    rw [h1, ix8, nI_add, rem_nat (by omega) hp (by omega), cl (by omega), cl (by omega), (hR.2.2 _ m1).2, (hg j hj).2]
    have c := of_decide_eq_true c
    unfold ro at c
    have := (hR.2.2 _ m1).1
    have := (hg j hj).1
    exact br_f (leF hj (by omega)) ⟨inI (by omega) (by omega), ne0 hp (by omega), inI (by omega) (by omega), br_f (neF c (by omega) (by omega)) hk⟩
  · have m1 := Nat.mod_lt (j + t) hp
    show vX7_isTurned_2B _ _ Q _ _ ν τ
    unfold vX7_isTurned_2B
    rw [h1, ix8, nI_add, rem_nat (by omega) hp (by omega), cl (by omega), cl (by omega), (hR.2.2 _ m1).2, (hg j hj).2]
    have c : g j = ro p h t j := Classical.byContradiction (fun z => by
      have := of_decide_eq_false c
      exact this z)
    unfold ro at c
    rw [c, nI_1]
    exact br_f (leF hj (by omega)) ⟨inI (by omega) (by omega), ne0 hp (by omega), inI (by omega) (by omega), br_t rfl ih⟩
theorem s_like (hK : ∀ μ' ν' τ', Rel μ' ν' → K μ' ν' τ') (hr : Rel μ ν) (hQ : ∀ x μ1, vX7_like a ν τ (En K x μ1) → QX x μ1) : vX6_like a μ QX := by
  obtain ⟨p, h, hx, hm, h0, hpos⟩ := hr.1
  have h8 := hx.2.1
  unfold vX6_like vX6_isImage
  unfold vX7_like vX7_isImage at hQ
  rcases wi_cases a 0 2 (by omega) with ⟨i, -, hi, rfl⟩ | ho
  · have hin : vp_in (nI i) 3 := inI (by omega) (by omega)
    obtain ⟨q, g, gx, gm, gm2⟩ := hr.2.1 i (by omega)
    have g8 := gx.2.1
    refine xw_in (l := 0) (u := 2) (by omega) hi (by omega) ⟨nar1, nb_f (by decide) ⟨hin, ?_⟩⟩
    rw [cl (by omega)]
    have hM : ∀ x μ1, _ := fun x μ1 z => hQ x μ1 (mw_in (l := 0) (u := 2) (by omega) hi (by omega) ⟨nar1, nb_f (by decide) ⟨hin, z⟩⟩)
    rw [cl (by omega), gm, hm.1] at hM
    by_cases hq : 0 < q
    · refine th_in gx.1 g8 hq (br_f (by decide) ?_)
      have q0 := ne0 hq (by omega)
      by_cases hp : 0 < p
      · refine th_in hx.1 h8 hp (nb_f (by decide) ⟨hin, ?_⟩)
        have p0 := ne0 hp (by omega)
        by_cases e : q = p
        · subst e
          refine xisTurned_ok hx gx hq ?_
          rw [like_eq hq (fun k hk => (hx.2.2 k hk).1) (fun k hk => (gx.2.2 k hk).1)]
          have fin : QX (b01 (sr (fun t => aq q g (ro q h t)) (fun _ => true) false q 0)) μ := by
            refine hM _ _ (br_f q0 (nb_f q0 ?_))
            refine ex_sr (fun n t => vX7_like_30 (nI i) (En K (b01 (sr (fun t => aq q g (ro q h t)) (fun _ => true) false q 0)) μ) n (nI t) ν τ) (fun z => En K (b01 (sr (fun t => aq q g (ro q h t)) (fun _ => true) false q 0)) μ (b01 z) ν τ) (fun t => aq q g (ro q h t)) (fun _ => true) false q (fun hk n => ?_) (fun n t ht c hk => ?_) (fun n t ht c ih => ?_) 0 (Nat.zero_le _) (en hK hr)
            · show vX7_like_30B _ _ _ _ ν τ
              unfold vX7_like_30B
              rw [hm.1]
              exact br_t (leT (Nat.le_refl _) (by omega)) hk
            · show vX7_like_30B _ _ _ _ ν τ
              unfold vX7_like_30B
              rw [hm.1, cl (by omega), gm]
              refine br_f (leF ht (by omega)) ⟨hin, nb_t rfl (misTurned_ok hm hp (by omega) ht (fun k hk => ⟨(gx.2.2 k hk).1, gm2 k hk⟩) ?_)⟩
              rw [b01_t c]
              exact br_f (by decide) hk
            · show vX7_like_30B _ _ _ _ ν τ
              unfold vX7_like_30B
              rw [hm.1, cl (by omega), gm, nI_1]
              refine br_f (leF ht (by omega)) ⟨hin, nb_t rfl (misTurned_ok hm hp (by omega) ht (fun k hk => ⟨(gx.2.2 k hk).1, gm2 k hk⟩) ?_)⟩
              rw [b01_f c]
              exact br_t rfl ih
          generalize sr (fun t => aq q g (ro q h t)) (fun _ => true) false q 0 = w at fin ⊢
          cases w with
          | true => exact br_f (by decide) fin
          | false => exact br_t rfl fin
        · have e2 : ¬ nI p = nI q := neF (by omega) (by omega) (by omega)
          have e3 : ¬ nI q = nI p := neF (by omega) (by omega) (by omega)
          unfold vX3_isTurned
          rw [hx.1, gx.1]
          refine br_f e2 (br_t rfl (hM _ _ (br_f q0 (nb_f p0 ⟨1, ?_⟩))))
          show vX7_like_30B _ _ _ _ ν τ
          unfold vX7_like_30B
          rw [hm.1, cl (by omega), gm]
          exact br_f (leF (b := 0) hp (by omega)) ⟨hin, nb_f e3 (en hK hr)⟩
      · have e0 : p = 0 := by omega
        exact th_out hx.1 e0 (nb_t rfl (hM _ _ (br_f q0 (nb_t (by rw [e0]; rfl) (en hK hr)))))
    · have e0 : q = 0 := by omega
      exact th_out gx.1 e0 (br_t rfl (hM _ _ (br_t (by rw [e0]; rfl) (en hK hr))))
  · exact xw_out (l := 0) (u := 2) (by omega) (by omega) ho ⟨nar0, nb_t rfl (hQ _ _ (mw_out (l := 0) (u := 2) (by omega) (by omega) ho ⟨nar0, nb_t rfl (en hK hr)⟩))⟩
end S8
