/-! how many, beats, swaps, images -/
theorem Rel.row {μ ν μ' ν' : gM} {p0 p : Nat} {h0 h : Nat → Nat} (hr : Rel μ ν) (hx0 : IsRow μ 0 p0 h0) (hp0 : 0 < p0) (hp : 0 < p) (hx : ∀ id, id ≠ 0 → id ≠ 5 → ¬ scX id → μ' id = μ id) (hm : ∀ id, id ≠ 36 → ¬ scM id → ν' id = ν id) (h32 : ∀ k, k ≠ 5 → k ≠ 15 → k ≠ 16 → ν' 32 k = ν 32 k) (hX : IsRow μ' 0 p h) (hM : MRow ν' p h) : Rel μ' ν' := by
  obtain ⟨⟨q, g, b1, b2, b3, b4⟩, a2, a3, a4, a5, a6, a7, a8⟩ := hr
  have hq : q = p0 := by
    have e : nI q = nI p0 := b1.1.symm.trans hx0.1
    have := hx0.2.1
    have := b1.2.1
    exact (nI_eq (by omega) (by omega)).mp e
  have e31 : μ' 31 = μ 31 := hx 31 (by decide) (by decide) (by unfold scX; omega)
  have fx : ∀ id, id ≠ 0 → id ≠ 5 → ¬ (id = 1 ∨ id = 6 ∨ id = 18 ∨ id = 19 ∨ id = 22 ∨ id = 23 ∨ id = 24 ∨ id = 25 ∨ id = 26 ∨ id = 27 ∨ id = 28) → μ' id = μ id := hx
  have fm : ∀ id, id ≠ 36 → ¬ (id = 32 ∨ id = 38 ∨ id = 39 ∨ id = 40 ∨ id = 43 ∨ id = 45) → ν' id = ν id := hm
  have f7 : ν' 32 7 = ν 32 7 := h32 7 (by decide) (by decide) (by decide)
  refine ⟨⟨p, h, hX, hM, fun z => by omega, fun _ => by rw [f7, e31]; exact b4 (by omega)⟩, a2.fr (fun i hi => ⟨fx _ (by omega) (by omega) (by omega), fx _ (by omega) (by omega) (by omega)⟩) (fm 41 (by decide) (by decide)) (fm 42 (by decide) (by decide)), ?_, ?_, ?_, ?_, ?_, a8.fr (fun k hk => ⟨fx _ (by omega) (by omega) (by omega), fx _ (by omega) (by omega) (by omega)⟩) (fm 33 (by decide) (by decide)) (fm 34 (by decide) (by decide)) (fm 35 (by decide) (by decide))⟩
  · unfold R3; rw [e31]; exact a3
  · unfold R4; rw [e31, h32 9 (by decide) (by decide) (by decide)]; exact a4
  · unfold R5; rw [fx 21 (by decide) (by decide) (by decide), fm 37 (by decide) (by decide)]; exact a5
  · unfold R6; rw [fx 20 (by decide) (by decide) (by decide), h32 1 (by decide) (by decide) (by decide)]; exact a6
  · unfold R7; rw [e31, h32 0 (by decide) (by decide) (by decide)]; exact a7
theorem Rel.img {μ ν μ' ν' : gM} {p i : Nat} {h : Nat → Nat} (hr : Rel μ ν) (hx0 : IsRow μ 0 p h) (hp : 0 < p) (hi : i < 3) (hx : ∀ id, id ≠ 2 + i → id ≠ 5 + (2 + i) → μ' id = μ id) (hm : ∀ id, id ≠ 41 → id ≠ 42 → ν' id = ν id) (h41 : ∀ k, k ≠ i → ν' 41 k = ν 41 k) (h42 : ∀ k, ¬ (8 * i ≤ k ∧ k < 8 * i + 8) → ν' 42 k = ν 42 k) (hX : IsRow μ' (2 + i) p h) (hM : ν' 41 i = nI p) (hM2 : ∀ k, k < p → ν' 42 (8 * i + k) = nI (h k)) : Rel μ' ν' := by
  obtain ⟨⟨q, g, b1, b2, b3, b4⟩, a2, a3, a4, a5, a6, a7, a8⟩ := hr
  have hq : q = p := by
    have e : nI q = nI p := b1.1.symm.trans hx0.1
    have := hx0.2.1
    have := b1.2.1
    exact (nI_eq (by omega) (by omega)).mp e
  have e32 : ν' 32 = ν 32 := hm 32 (by decide) (by decide)
  have e31 : μ' 31 = μ 31 := hx 31 (by omega) (by omega)
  refine ⟨⟨q, g, b1.fr (by rw [hx 0 (by omega) (by omega)]) (hx 5 (by omega) (by omega)), b2.fr (by rw [e32]) (hm 36 (by decide) (by decide)), fun z => by omega, by rw [e32, e31]; exact b4⟩, ?_, ?_, ?_, ?_, ?_, ?_, a8.fr (fun k hk => ⟨hx _ (by omega) (by omega), hx _ (by omega) (by omega)⟩) (hm 33 (by decide) (by decide)) (hm 34 (by decide) (by decide)) (hm 35 (by decide) (by decide))⟩
  · intro j hj
    by_cases c : j = i
    · rw [c]; exact ⟨p, h, hX, hM, hM2⟩
    · obtain ⟨p', h', c1, c2, c3⟩ := a2 j hj
      have := c1.2.1
      exact ⟨p', h', c1.fr (by rw [hx _ (by omega) (by omega)]) (hx _ (by omega) (by omega)), by rw [h41 j c]; exact c2, fun k hk => by rw [h42 _ (by omega)]; exact c3 k hk⟩
  · unfold R3; rw [e31]; exact a3
  · unfold R4; rw [e31, e32]; exact a4
  · unfold R5; rw [hx 21 (by omega) (by omega), hm 37 (by decide) (by decide)]; exact a5
  · unfold R6; rw [hx 20 (by omega) (by omega), e32]; exact a6
  · unfold R7; rw [e31, e32]; exact a7
def cn (P : Nat → Nat) : Nat → Nat
  | 0 => 0
  | k + 1 => cn P k + (if 0 < P k then 1 else 0)
theorem cn_le (P : Nat → Nat) : ∀ k, cn P k ≤ k := by
  intro k
  induction k with
  | zero => exact Nat.le_refl _
  | succ k ih => simp only [cn]; split <;> omega
theorem cn_t {P : Nat → Nat} {k : Nat} (h : 0 < P k) : cn P (k + 1) = cn P k + 1 := by simp [cn, h]
theorem cn_f {P : Nat → Nat} {k : Nat} (h : ¬ 0 < P k) : cn P (k + 1) = cn P k := by simp [cn, h]
/-! bits -/
def pcN (m : Nat) : Nat := m % 2 + m / 2 % 2 + m / 4 % 2 + m / 8 % 2 + m / 16 % 2 + m / 32 % 2 + m / 64 % 2 + m / 128 % 2 + m / 256 % 2
theorem bc_all : ∀ m, m < 512 → vJ6_bitCount_0f7a4 (nI m) (fun x => x = nI (pcN m)) := by
  unfold vJ6_bitCount_0f7a4
  decide +kernel
theorem bitCount_ok {m : Nat} {Q : Int32 → Prop} (hm : m < 512) (hq : Q (nI (pcN m))) : vJ6_bitCount_0f7a4 (nI m) Q := by
  have h := bc_all m hm
  unfold vJ6_bitCount_0f7a4 at h ⊢
  rw [h]; exact hq
def szI : Nat → Int32 → Int32 → Int32
  | 0, v, _ => v
  | n + 1, v, w => if w ≤ 0 then v else szI n (v + (w &&& 1)) (w >>> ((1 : Int32) &&& 31))
def szD : Nat → Int32 → Bool
  | 0, _ => false
  | n + 1, w => if w ≤ 0 then true else szD n (w >>> ((1 : Int32) &&& 31))
theorem sz_all : ∀ m, m < 512 → szD 11 (nI m) = true ∧ szI 11 0 (nI m) = nI (pcN m) := by decide +kernel
theorem sz_run {a : Int32} {Q : Int32 → Prop} : ∀ n v w, szD n w = true → Q (szI n v w) → vX7_size_4 a Q n v w := by
  intro n
  induction n with
  | zero => intro v w h; simp [szD] at h
  | succ n ih =>
    intro v w h hq
    show vX7_size_4B a Q _ v w
    unfold vX7_size_4B
    by_cases c : w ≤ 0
    · simp only [szI, if_pos c] at hq
      exact br_t c hq
    · simp only [szI, if_neg c] at hq
      simp only [szD, if_neg c] at h
      exact br_f c (ih _ _ h hq)
theorem size_ok {m : Nat} {Q : Int32 → Prop} (hm : m < 512) (hq : Q (nI (pcN m))) : vX7_size (nI m) Q := by
  obtain ⟨h1, h2⟩ := sz_all m hm
  exact ⟨11, sz_run 11 0 (nI m) h1 (by rw [h2]; exact hq)⟩
theorem shr1 : ∀ s, s < 512 → nI s >>> ((1 : Int32) &&& 31) = nI (s / 2) := by decide +kernel
theorem hz_mod {p : Nat} {h : Nat → Nat} {b : Nat} {k : Int} : hz p h ((b % p : Nat) - k) = hz p h (b - k) := by
  unfold hz
  have e : (b : Int) - k = ((b % p : Nat) : Int) - k + (p : Int) * ((b / p : Nat) : Int) := by
    have := Nat.mod_add_div b p
    have h2 : ((b % p : Nat) : Int) + (p : Int) * ((b / p : Nat) : Int) = (b : Int) := by exact_mod_cast this
    omega
  rw [e, Int.add_mul_emod_self_left]
theorem stN_mod {p : Nat} {h : Nat → Nat} {b : Nat} : ∀ n, stN p h ((b % p : Nat) : Int) n = stN p h (b : Int) n := by
  intro n
  induction n with
  | zero => rfl
  | succ n ih => simp only [stN, ih, hz_mod]
theorem stA_mod {p : Nat} {h : Nat → Nat} {b : Nat} : stA p h ((b % p : Nat) : Int) = stA p h (b : Int) := stN_mod 9
section S5
variable {K : gM → gM → gJ → Prop} {μ ν : gM} {τ : gJ} {QX : Int32 → gM → Prop} {a b : Int32}
theorem s_many (hK : ∀ μ' ν' τ', Rel μ' ν' → K μ' ν' τ') (hr : Rel μ ν) (hQ : ∀ x μ1, vX7_many a ν τ (En K x μ1) → QX x μ1) : vX6_many a μ QX := by
  obtain ⟨p, h, hx, hm, h0, hpos⟩ := hr.1
  have h8 := hx.2.1
  obtain ⟨P, hP⟩ : ∃ P : Nat → Nat, ∀ i, i < 3 → P i ≤ 8 ∧ μ (2 + i) 1 = nI (P i) ∧ ν 41 i = nI (P i) := by
    obtain ⟨p0, g0, c0, d0, -⟩ := hr.2.1 0 (by omega)
    obtain ⟨p1, g1, c1, d1, -⟩ := hr.2.1 1 (by omega)
    obtain ⟨p2, g2, c2, d2, -⟩ := hr.2.1 2 (by omega)
    refine ⟨fun i => if i = 0 then p0 else if i = 1 then p1 else p2, fun i hi => ?_⟩
    rcases (show i = 0 ∨ i = 1 ∨ i = 2 by omega) with rfl | rfl | rfl
    · exact ⟨c0.2.1, c0.1, d0⟩
    · exact ⟨c1.2.1, c1.1, d1⟩
    · exact ⟨c2.2.1, c2.1, d2⟩
  have hM : ∀ x μ1, ((¬ a = 0 → ((¬ a = 1 → ((¬ a = 2 → (En K x μ1 (-2) ν τ)) ∧ (a = 2 → (En K x μ1 (nI (cn P 3)) ν τ)))) ∧ (a = 1 → (En K x μ1 (ν 32 7) ν τ)))) ∧ (a = 0 → (En K x μ1 (ν 32 5) ν τ))) → QX x μ1 := fun x μ1 z => hQ x μ1 (by
    refine ex_up (fun n k => vX7_many_4 a (En K x μ1) n (nI (cn P k)) (nI k) ν τ) 3 0 (by omega) (fun n => ?_) (fun n k _ hk ih => ?_)
    · show vX7_many_4B a _ _ _ _ ν τ
      unfold vX7_many_4B
      exact br_t (leT (a := 3) (by omega) (by omega)) z
    · show vX7_many_4B a _ _ _ _ ν τ
      unfold vX7_many_4B
      obtain ⟨p1, p2, p3⟩ := hP k hk
      rw [cl (by omega), p3, nI_1]
      refine br_f (leF (a := 3) hk (by omega)) ⟨inI hk (by omega), ?_⟩
      by_cases c : 0 < P k
      · refine br_f (leF (b := 0) c (by omega)) ?_
        rw [nI_1, ← cn_t c]; exact ih
      · refine br_t (leT (b := 0) (by omega) (by omega)) ?_
        rw [show nI (cn P k) + 0 = nI (cn P (k + 1)) by rw [show (0 : Int32) = nI 0 from rfl, nI_add, cn_f c]; rfl]; exact ih)
  unfold vX6_many
  by_cases c0 : a = 0
  · refine br_t c0 (hM _ _ (nb_t c0 ?_))
    rw [hm.1, hx.1]
    exact en hK hr
  · refine br_f c0 ?_
    by_cases c1 : a = 1
    · refine br_t c1 ?_
      by_cases hp : 0 < p
      · refine th_in hx.1 h8 hp (br_f (by decide) (hM _ _ (nb_f c0 (nb_t c1 ?_))))
        rw [hpos hp]; exact en hK hr
      · have e0 : p = 0 := by omega
        refine th_out hx.1 e0 (br_t rfl (hM _ _ (nb_f c0 (nb_t c1 ?_))))
        rw [(h0 e0).1]; exact en hK hr
    · refine br_f c1 ?_
      by_cases c2 : a = 2
      · refine br_t c2 ?_
        unfold vX6_imageCount
        refine ex_up (fun n k => vX6_imageCount_4 _ n (nI (cn P k)) (nI k) μ) 3 0 (by omega) (fun n => ?_) (fun n k _ hk ih => ?_)
        · show vX6_imageCount_4B _ _ _ _ μ
          unfold vX6_imageCount_4B
          exact br_t (leT (a := 3) (by omega) (by omega)) (hM _ _ (nb_f c0 (nb_f c1 (nb_t c2 (en hK hr)))))
        · show vX6_imageCount_4B _ _ _ _ μ
          unfold vX6_imageCount_4B
          obtain ⟨p1, p2, p3⟩ := hP k hk
          rw [cl (by omega), nI_1]
          refine br_f (leF (a := 3) hk (by omega)) ⟨inI hk (by omega), ?_⟩
          by_cases c : 0 < P k
          · refine th_in p2 p1 c (br_f (by decide) ?_)
            rw [nI_1, ← cn_t c]; exact ih
          · refine th_out p2 (by omega) (br_t rfl ?_)
            rw [← cn_f c]; exact ih
      · exact br_f c2 (hM _ _ (nb_f c0 (nb_f c1 (nb_f c2 (en hK hr)))))
theorem handIn_ok {c n : Nat} {Q : Int32 → gM → Prop} (h1 : 1 ≤ c) (h4 : c ≤ 4) (hc : μ 31 8 = nI c) (hn : n < 100000) (hq : Q (nI (n % c)) μ) : vX6_handIn (nI n) μ Q := by
  unfold vX6_handIn
  rw [hc]
  refine br_t (leT (a := 1) h1 (by omega)) ⟨ne0 (by omega) (by omega), ?_⟩
  rw [rem_nat (by omega) (by omega) (by omega)]; exact hq
theorem s_beat (hK : ∀ μ' ν' τ', Rel μ' ν' → K μ' ν' τ') (hr : Rel μ ν) (hQ : ∀ x μ1, vX7_beat a b ν τ (En K x μ1) → QX x μ1) : vX6_beat a b μ QX := by
  obtain ⟨p, h, hx, hm, h0, hpos⟩ := hr.1
  obtain ⟨c, hc1, hc4, hc⟩ := hr.2.2.1
  have h8 := hx.2.1
  unfold vX6_beat
  unfold vX7_beat at hQ
  rcases wi_cases a 0 999 (by omega) with ⟨k, -, hk, rfl⟩ | ho
  · refine xw_in (l := 0) (u := 999) (by omega) hk (by omega) (br_f (by decide) ?_)
    rcases wi_cases b 0 2 (by omega) with ⟨w, -, hw, rfl⟩ | ho
    · refine xw_in (l := 0) (u := 2) (by omega) hw (by omega) (nb_f (by decide) (isGood_ok hx ?_))
      by_cases g : gd p h = true
      · obtain ⟨hp, inj⟩ := gd_inj h8 g
        have hmod := Nat.mod_lt k hp
        have h7 : ν 32 7 = nI c := (hpos hp).trans hc
        have hM : ∀ x μ1, _ := fun x μ1 z => hQ x μ1 (mw_in (l := 0) (u := 999) (by omega) hk (by omega) (br_f (by decide) (mw_in (l := 0) (u := 2) (by omega) hw (by omega) (nb_f (by decide) (misGood_ok hm (nb_f (b01_ne g) z))))))
        rw [b01_t g]
        rw [hm.1, rem_nat (by omega) hp (by omega), h7, cl (by omega), (hm.2.2 _ hmod).2] at hM
        have h9 := (hm.2.2 _ hmod).1
        have hin : vp_in (nI (k % p)) 8 := inI (by omega) (by omega)
        refine nb_f (by decide) ?_
        rcases (show w = 0 ∨ w = 1 ∨ w = 2 by omega) with rfl | rfl | rfl
        · refine nb_t rfl (handIn_ok hc1 hc4 hc (by omega) (hM _ _ ⟨ne0 hp (by omega), hin, nb_t rfl ⟨ne0 (by omega) (by omega), ?_⟩⟩))
          rw [rem_nat (by omega) (by omega) (by omega)]
          exact en hK hr
        · refine nb_f (by decide) (nb_t rfl (heightIn_ok hx hp ?_))
          rw [nI_int (by omega), hz_nat]
          by_cases z : h (k % p) = 0
          · rw [z] at hM ⊢
            exact nb_t rfl (hM _ _ ⟨ne0 hp (by omega), hin, nb_f (by decide) (nb_t rfl (nb_t rfl (en hK hr)))⟩)
          · have z2 := ne0 (show 0 < h (k % p) by omega) (by omega)
            refine nb_f z2 ?_
            rw [nI_add]
            refine handIn_ok hc1 hc4 hc (by omega) (hM _ _ ⟨ne0 hp (by omega), hin, nb_f (by decide) (nb_t rfl (nb_f z2 ⟨ne0 (by omega) (by omega), ?_⟩))⟩)
            rw [nI_add, rem_nat (by omega) (by omega) (by omega)]
            exact en hK hr
        · have hs := stN_lt (b := (k : Int)) hp (fun j hj => (hx.2.2 j hj).1) 9
          have hs2 : stA p h k < 512 := hs
          refine nb_f (by decide) (nb_f (by decide) (stateAhead_ok hx hp (by omega) ?_))
          rw [shr1 _ hs2]
          refine bitCount_ok (by omega) (hM _ _ ⟨ne0 hp (by omega), hin, nb_f (by decide) (nb_f (by decide) ⟨ne0 hp (by omega), mstateAhead_ok hm hp (by omega) ?_⟩)⟩)
          rw [stA_mod, shr1 _ hs2]
          exact size_ok (by omega) (en hK hr)
      · have g := Bool.eq_false_iff.mpr g
        rw [b01_f g]
        exact nb_t rfl (hQ _ _ (mw_in (l := 0) (u := 999) (by omega) hk (by omega) (br_f (by decide) (mw_in (l := 0) (u := 2) (by omega) hw (by omega) (nb_f (by decide) (misGood_ok hm (by rw [b01_f g]; exact nb_t rfl (en hK hr))))))))
    · exact xw_out (l := 0) (u := 2) (by omega) (by omega) ho (nb_t rfl (hQ _ _ (mw_in (l := 0) (u := 999) (by omega) hk (by omega) (br_f (by decide) (mw_out (l := 0) (u := 2) (by omega) (by omega) ho (nb_t rfl (en hK hr)))))))
  · exact xw_out (l := 0) (u := 999) (by omega) (by omega) ho (br_t rfl (hQ _ _ (mw_out (l := 0) (u := 999) (by omega) (by omega) ho (br_t rfl (en hK hr)))))
end S5
