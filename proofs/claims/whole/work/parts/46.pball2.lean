/-! ball, empty, broken -/
theorem R1.tot {μ ν : gM} (hr : R1 μ ν) : ∃ p h, IsRow μ 0 p h ∧ MRow ν p h ∧ (0 < p → ∀ k, h k ≤ 9) := by
  obtain ⟨p, h, hx, hm, -⟩ := hr
  refine ⟨p, fun k => h (k % p), hx.ext (fun k hk => by rw [Nat.mod_eq_of_lt hk]), ⟨hm.1, hm.2.1, fun k hk => by show h (k % p) ≤ 9 ∧ ν 36 k = nI (h (k % p)); rw [Nat.mod_eq_of_lt hk]; exact hm.2.2 k hk⟩, fun hp k => (hx.2.2 _ (Nat.mod_lt _ hp)).1⟩
theorem and1 (x : Int32) : x &&& 1 = 0 ∨ x &&& 1 = 1 := by
  have e : (x &&& 1).toBitVec.toNat = x.toBitVec.toNat % 2 := by
    show (x.toBitVec &&& (1 : Int32).toBitVec).toNat = _
    rw [BitVec.toNat_and]
    exact Nat.and_one_is_mod _
  rcases Nat.mod_two_eq_zero_or_one x.toBitVec.toNat with z | z
  · left; exact Int32.toBitVec_inj.1 (BitVec.eq_of_toNat_eq (by rw [e, z]; rfl))
  · right; exact Int32.toBitVec_inj.1 (BitVec.eq_of_toNat_eq (by rw [e, z]; rfl))
def pv (p : Nat) (h : Nat → Nat) : Nat → Int32
  | 0 => -9
  | b + 1 => bl p h b
def emp (p : Nat) (h : Nat → Nat) (d : Int32) : Nat → Int32
  | 0 => 0
  | b + 1 => if bl p h b = -9 then emp p h d b else emp p h d b + ((d >>> (bl p h b &&& 31)) &&& 1)
def mg (c : Nat) : Int32 := if c = 0 then 9 else if c = 1 then 6 else 4
def tb (p : Nat) (h cf : Nat → Nat) (b : Nat) : Int32 := if bl p h b = -9 then 0 else if nI (h (b % p)) ≤ mg (cf (bl p h b).toNatClampNeg) then 0 else (1 : Int32) <<< (bl p h b &&& 31)
def brk (p : Nat) (h cf : Nat → Nat) : Nat → Int32
  | 0 => 0
  | b + 1 => brk p h cf b ||| tb p h cf b
theorem brk_in {p : Nat} {h cf : Nat → Nat} {c : Nat} : ∀ n, c < n → brk p h cf n ||| tb p h cf c = brk p h cf n := by
  intro n
  induction n with
  | zero => intro z; omega
  | succ n ih =>
    intro hc
    simp only [brk]
    by_cases e : c = n
    · rw [e, Int32.or_assoc, Int32.or_self]
    · rw [Int32.or_assoc, Int32.or_comm (tb p h cf n), ← Int32.or_assoc, ih (by omega)]
theorem brk_end {p : Nat} {h cf : Nat → Nat} (hp : 0 < p) (h8 : p ≤ 8) (hh : ∀ k, h k ≤ 9) (inj : ∀ i j, i < j → j < p → ld p h i ≠ ld p h j) : ∀ n, 81 ≤ n → brk p h cf n = brk p h cf 81 := by
  intro n
  induction n with
  | zero => intro z; omega
  | succ n ih =>
    intro hn
    by_cases e : n + 1 = 81
    · rw [e]
    · have ih := ih (by omega)
      show brk p h cf n ||| tb p h cf n = brk p h cf 81
      rw [ih]
      by_cases z : h (n % p) = 0
      · have : bl p h n = -9 := if_pos z
        rw [show tb p h cf n = 0 from if_pos this, Int32.or_zero]
      · obtain ⟨c, c1, c2, c3⟩ := bl_low hp h8 hh inj n n (Nat.le_refl _) z
        have e : tb p h cf n = tb p h cf c := by unfold tb; rw [c2, c3]
        rw [e]
        exact brk_in 81 (by omega)
section S10
variable {K : gM → gM → gJ → Prop} {μ ν : gM} {τ : gJ} {QX : Int32 → gM → Prop} {a b : Int32}
theorem xf_sx {p : Nat} {h : Nat → Nat} {μ' : gM} {b : Nat} (hX : XF p h μ b μ') : SX μ μ' := fun id hid => hX.1 id (fun e => hid (by unfold scX; omega)) (fun e => hid (by unfold scX; omega))
theorem lb_sm {ν' : gM} (hf : ∀ id, id ≠ 39 → ν' id = ν id) : SM ν ν' := ⟨fun id hid => hf id (fun e => hid (by unfold scM; omega)), fun k _ _ => by rw [hf 32 (by decide)]⟩
theorem s_ball (hK : ∀ μ' ν' τ', Rel μ' ν' → K μ' ν' τ') (hr : Rel μ ν) (hQ : ∀ x μ1, vX7_ball a ν τ (En K x μ1) → QX x μ1) : vX6_ball a μ QX := by
  obtain ⟨p, h, hx, hm, hh⟩ := hr.1.tot
  have h8 := hx.2.1
  unfold vX6_ball
  unfold vX7_ball at hQ
  rcases wi_cases a 0 999 (by omega) with ⟨k, -, hk, rfl⟩ | ho
  · refine xw_in (l := 0) (u := 999) (by omega) hk (by omega) (nb_f (by decide) (isGood_ok hx ?_))
    by_cases g : gd p h = true
    · obtain ⟨hp, inj⟩ := gd_inj h8 g
      have hh := hh hp
      rw [b01_t g]
      refine nb_f (by decide) (begin_ok (p := p) (h := h) (fun μ1 hX1 => ?_))
      have key : ∃ n, ∀ μ', XF p h μ 0 μ' → vX6_ball_39 (nI k) QX n (pv p h 0) (nI 0) μ' := by
        refine ex_up (fun n b => ∀ μ', XF p h μ b μ' → vX6_ball_39 (nI k) QX n (pv p h b) (nI b) μ') (k + 1) 0 (by omega) (fun n μ' hX => ?_) (fun n b _ hb ih μ' hX => ?_)
        · show vX6_ball_39B _ QX _ _ _ μ'
          unfold vX6_ball_39B
          refine br_t (ltT (by omega) (by omega)) (hQ _ _ (mw_in (l := 0) (u := 999) (by omega) hk (by omega) (nb_f (by decide) (misGood_ok hm (nb_f (b01_ne g) (layBalls_ok hm hp hh inj (fun ν' hf hb => ⟨inI (by omega) (by omega), ?_⟩)))))))
          rw [cl (by omega), hb k (by omega)]
          exact en hK (hr.fr (xf_sx hX) (lb_sm hf))
        · show vX6_ball_39B _ QX _ _ _ μ'
          unfold vX6_ball_39B
          have hR : IsRow μ' 0 p h := hx.fr (by rw [hX.1 0 (by decide) (by decide)]) (hX.1 5 (by decide) (by decide))
          refine br_f (ltF (by omega) (by omega)) (heightIn_ok hR hp ?_)
          rw [nI_int (by omega), hz_nat]
          refine pass_ok hp h8 hh inj (by omega) hX (fun μ2 hX2 => ?_)
          rw [nI_1]
          exact ih μ2 hX2
      obtain ⟨n, hn⟩ := key
      exact ⟨n, hn _ hX1⟩
    · have g := Bool.eq_false_iff.mpr g
      rw [b01_f g]
      exact nb_t rfl (hQ _ _ (mw_in (l := 0) (u := 999) (by omega) hk (by omega) (nb_f (by decide) (misGood_ok hm (by rw [b01_f g]; exact nb_t rfl (en hK hr))))))
  · exact xw_out (l := 0) (u := 999) (by omega) (by omega) ho (nb_t rfl (hQ _ _ (mw_out (l := 0) (u := 999) (by omega) (by omega) ho (nb_t rfl (en hK hr)))))
theorem s_empty (hK : ∀ μ' ν' τ', Rel μ' ν' → K μ' ν' τ') (hr : Rel μ ν) (hQ : ∀ x μ1, vX7_empty a ν τ (En K x μ1) → QX x μ1) : vX6_empty a μ QX := by
  obtain ⟨p, h, hx, hm, hh⟩ := hr.1.tot
  have h8 := hx.2.1
  have hd := hr.2.2.2.1.1
  unfold vX6_empty
  unfold vX7_empty at hQ
  rcases wi_cases a 0 999 (by omega) with ⟨k, -, hk, rfl⟩ | ho
  · refine xw_in (l := 0) (u := 999) (by omega) hk (by omega) (nb_f (by decide) (isGood_ok hx ?_))
    by_cases g : gd p h = true
    · obtain ⟨hp, inj⟩ := gd_inj h8 g
      have hh := hh hp
      rw [b01_t g]
      refine nb_f (by decide) (begin_ok (p := p) (h := h) (fun μ1 hX1 => ?_))
      have key : ∃ n, ∀ μ', XF p h μ 0 μ' → vX6_empty_38 (nI k) QX n (emp p h (μ 31 9) 0) (nI 0) μ' := by
        refine ex_up (fun n b => ∀ μ', XF p h μ b μ' → vX6_empty_38 (nI k) QX n (emp p h (μ 31 9) b) (nI b) μ') (k + 1) 0 (by omega) (fun n μ' hX => ?_) (fun n b _ hb ih μ' hX => ?_)
        · show vX6_empty_38B _ QX _ _ _ μ'
          unfold vX6_empty_38B
          refine br_t (ltT (by omega) (by omega)) (hQ _ _ (mw_in (l := 0) (u := 999) (by omega) hk (by omega) (nb_f (by decide) (misGood_ok hm (nb_f (b01_ne g) (layBalls_ok hm hp hh inj (fun ν' hf hb => ?_)))))))
          refine ex_up (fun n b => vX7_empty_32 (nI k) (En K (emp p h (μ 31 9) (k + 1)) μ') n (emp p h (μ 31 9) b) (nI b) ν' τ) (k + 1) 0 (by omega) (fun n => ?_) (fun n b _ hbk ih => ?_)
          · show vX7_empty_32B _ _ _ _ _ ν' τ
            unfold vX7_empty_32B
            exact br_t (ltT (by omega) (by omega)) (en hK (hr.fr (xf_sx hX) (lb_sm hf)))
          · show vX7_empty_32B _ _ _ _ _ ν' τ
            unfold vX7_empty_32B
            rw [cl (by omega), hb b (by omega), hf 32 (by decide), hd, nI_1]
            refine br_f (ltF (by omega) (by omega)) ⟨inI (by omega) (by omega), ?_⟩
            by_cases c : bl p h b = -9
            · refine br_t c ?_
              simp only [emp, if_pos c] at ih
              rw [Int32.add_zero]; exact ih
            · refine br_f c ⟨inI (by omega) (by omega), ?_⟩
              simp only [emp, if_neg c] at ih
              exact ih
        · show vX6_empty_38B _ QX _ _ _ μ'
          unfold vX6_empty_38B
          have hR : IsRow μ' 0 p h := hx.fr (by rw [hX.1 0 (by decide) (by decide)]) (hX.1 5 (by decide) (by decide))
          refine br_f (ltF (by omega) (by omega)) (heightIn_ok hR hp ?_)
          rw [nI_int (by omega), hz_nat]
          refine pass_ok hp h8 hh inj (by omega) hX (fun μ2 hX2 => ?_)
          rw [nI_1, hX2.1 31 (by decide) (by decide)]
          have ih := ih μ2 hX2
          by_cases c : bl p h b = -9
          · simp only [emp, if_pos c] at ih
            exact br_t c ih
          · simp only [emp, if_neg c] at ih
            refine br_f c ?_
            rcases and1 ((μ 31 9) >>> (bl p h b &&& 31)) with z | z
            · rw [z] at ih ⊢
              rw [Int32.add_zero] at ih
              exact nb_f (by decide) ih
            · rw [z] at ih ⊢
              exact nb_t rfl ih
      obtain ⟨n, hn⟩ := key
      exact ⟨n, hn _ hX1⟩
    · have g := Bool.eq_false_iff.mpr g
      rw [b01_f g]
      exact nb_t rfl (hQ _ _ (mw_in (l := 0) (u := 999) (by omega) hk (by omega) (nb_f (by decide) (misGood_ok hm (by rw [b01_f g]; exact nb_t rfl (en hK hr))))))
  · exact xw_out (l := 0) (u := 999) (by omega) (by omega) ho (nb_t rfl (hQ _ _ (mw_out (l := 0) (u := 999) (by omega) (by omega) ho (nb_t rfl (en hK hr)))))
theorem s_broken (hK : ∀ μ' ν' τ', Rel μ' ν' → K μ' ν' τ') (hr : Rel μ ν) (hQ : ∀ x μ1, vX7_broken ν τ (En K x μ1) → QX x μ1) : vX6_broken μ QX := by
  obtain ⟨p, h, hx, hm, hh⟩ := hr.1.tot
  have h8 := hx.2.1
  obtain ⟨cf, hcf⟩ : ∃ cf : Nat → Nat, ∀ k, k < 10 → cf k < 3 ∧ μ 21 k = nI (cf k) ∧ ν 37 k = nI (cf k) := by
    have key : ∀ k, ∃ c, k < 10 → c < 3 ∧ μ 21 k = nI c ∧ ν 37 k = nI c := by
      intro k
      by_cases z : k < 10
      · obtain ⟨c, c1, c2, c3⟩ := hr.2.2.2.2.1 k z
        exact ⟨c, fun _ => ⟨c1, c2, c3⟩⟩
      · exact ⟨0, fun w => absurd w z⟩
    exact ⟨fun k => Classical.choose (key k), fun k => Classical.choose_spec (key k)⟩
  unfold vX6_broken
  unfold vX7_broken at hQ
  refine isGood_ok hx ?_
  by_cases g : gd p h = true
  · obtain ⟨hp, inj⟩ := gd_inj h8 g
    have hh := hh hp
    rw [b01_t g]
    refine nb_f (by decide) (begin_ok (p := p) (h := h) (fun μ1 hX1 => ?_))
    have key : ∃ n, ∀ μ', XF p h μ 0 μ' → vX6_broken_24 QX n (brk p h cf 0) (nI 0) μ' := by
      refine ex_up (fun n b => ∀ μ', XF p h μ b μ' → vX6_broken_24 QX n (brk p h cf b) (nI b) μ') 81 0 (by omega) (fun n μ' hX => ?_) (fun n b _ hb ih μ' hX => ?_)
      · show vX6_broken_24B QX _ _ _ μ'
        unfold vX6_broken_24B
        refine br_t (leT (a := 81) (by omega) (by omega)) (hQ _ _ (misGood_ok hm (nb_f (b01_ne g) (layBalls_ok hm hp hh inj (fun ν' hf hb => ?_)))))
        have hB := brk_end (cf := cf) hp h8 hh inj 1000 (by omega)
        generalize brk p h cf 81 = B at hB ⊢
        refine ex_up (fun n b => vX7_broken_18 (En K B μ') n (brk p h cf b) (nI b) ν' τ) 1000 0 (by omega) (fun n => ?_) (fun n b _ hbk ih => ?_)
        · show vX7_broken_18B _ _ _ _ ν' τ
          unfold vX7_broken_18B
          refine br_t (ltT (a := 999) (by omega) (by omega)) ?_
          rw [hB]
          exact en hK (hr.fr (xf_sx hX) (lb_sm hf))
        · have hmod := Nat.mod_lt b hp
          show vX7_broken_18B _ _ _ _ ν' τ
          unfold vX7_broken_18B
          have vin : vp_in (nI b) 1010 := inI (by omega) (by omega)
          rw [cl (by omega), hb b hbk, hf 32 (by decide), hm.1, hf 36 (by decide), rem_nat (by omega) hp (by omega), cl (by omega), (hm.2.2 _ hmod).2, nI_1]
          refine br_f (ltF (a := 999) (by omega) (by omega)) ⟨vin, ?_⟩
          change vX7_broken_18 (En K B μ') n (brk p h cf b ||| tb p h cf b) (nI (b + 1)) ν' τ at ih
          unfold tb at ih
          rcases bl_val hp h8 hh inj b with ⟨-, c⟩ | ⟨w, w1, w2⟩
          · rw [if_pos c] at ih
            exact br_t c ih
          · have c : ¬ bl p h b = -9 := by rw [w2]; exact ne9 (by omega)
            rw [if_neg c] at ih
            refine br_f c ⟨ne0 hp (by omega), inI (by omega) (by omega), vin, ?_⟩
            obtain ⟨c1, c2, c3⟩ := hcf w (by omega)
            rw [w2, cl (by omega)] at ih
            rw [w2]
            refine mayGoTo_ok (by omega) c1 (by rw [hf 37 (by decide)]; exact c3) ?_
            change (nI (h (b % p)) ≤ mg (cf w) → _) ∧ (¬ nI (h (b % p)) ≤ mg (cf w) → _)
            by_cases q : nI (h (b % p)) ≤ mg (cf w)
            · rw [if_pos q] at ih
              exact br_t q ih
            · rw [if_neg q] at ih
              refine br_f q ⟨vin, ?_⟩
              rw [hb b hbk, w2]
              exact ih
      · show vX6_broken_24B QX _ _ _ μ'
        unfold vX6_broken_24B
        have hR : IsRow μ' 0 p h := hx.fr (by rw [hX.1 0 (by decide) (by decide)]) (hX.1 5 (by decide) (by decide))
        refine br_f (leF (a := 81) hb (by omega)) (heightIn_ok hR hp ?_)
        rw [nI_int (by omega), hz_nat]
        refine pass_ok hp h8 hh inj (by omega) hX (fun μ2 hX2 => ?_)
        rw [nI_1]
        have hR2 : IsRow μ2 0 p h := hx.fr (by rw [hX2.1 0 (by decide) (by decide)]) (hX2.1 5 (by decide) (by decide))
        have ih := ih μ2 hX2
        simp only [brk] at ih
        unfold tb at ih
        rcases bl_val hp h8 hh inj b with ⟨-, c⟩ | ⟨w, w1, w2⟩
        · rw [if_pos c, Int32.or_zero] at ih
          exact br_t c ih
        · have c : ¬ bl p h b = -9 := by rw [w2]; exact ne9 (by omega)
          rw [if_neg c] at ih
          refine br_f c (heightIn_ok hR2 hp ?_)
          rw [nI_int (by omega), hz_nat]
          obtain ⟨c1, c2, c3⟩ := hcf w (by omega)
          rw [w2, cl (by omega)] at ih
          rw [w2]
          refine mayGo_ok (by omega) c1 (by rw [hX2.1 21 (by decide) (by decide)]; exact c2) ?_
          change (nI (h (b % p)) ≤ mg (cf w) → _) ∧ (¬ nI (h (b % p)) ≤ mg (cf w) → _)
          by_cases q : nI (h (b % p)) ≤ mg (cf w)
          · rw [if_pos q, Int32.or_zero] at ih
            exact br_t q ih
          · rw [if_neg q] at ih
            exact br_f q ih
    obtain ⟨n, hn⟩ := key
    exact ⟨n, hn _ hX1⟩
  · have g := Bool.eq_false_iff.mpr g
    rw [b01_f g]
    exact nb_t rfl (hQ _ _ (misGood_ok hm (by rw [b01_f g]; exact nb_t rfl (en hK hr))))
end S10
