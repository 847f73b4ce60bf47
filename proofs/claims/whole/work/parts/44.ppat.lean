/-! the pattern -/
section S9
variable {K : gM → gM → gJ → Prop} {μ ν : gM} {τ : gJ} {QX : Int32 → gM → Prop}
def dg (x : Int32) : Prop := ∃ d, 48 ≤ d ∧ d ≤ 57 ∧ x = nI d
def hd (x : Int32) : Nat := x.toInt.toNat - 48
theorem dg_sub {x : Int32} (h : dg x) : x - 48 = nI (hd x) ∧ hd x ≤ 9 := by
  obtain ⟨d, h1, h2, rfl⟩ := h
  unfold hd
  rw [nI_int (by omega), show (48 : Int32) = nI 48 from rfl, pk_sub h1]
  exact ⟨nIe (by omega), by omega⟩
theorem dg_x {x : Int32} {Q : Int32 → Prop} (h : dg x) (hq : Q 1) : vX6_isWithin x (48 : Int32) (57 : Int32) Q := by
  obtain ⟨d, h1, h2, rfl⟩ := h
  exact xw_in (l := 48) (u := 57) h1 h2 (by omega) hq
theorem dg_m {x : Int32} {Q : Int32 → Prop} (h : dg x) (hq : Q 1) : vX7_within x (48 : Int32) (57 : Int32) Q := by
  obtain ⟨d, h1, h2, rfl⟩ := h
  exact mw_in (l := 48) (u := 57) h1 h2 (by omega) hq
theorem dg_o {x : Int32} (h : ¬ dg x) : x.toInt < ((48 : Nat) : Int) ∨ ((57 : Nat) : Int) < x.toInt := by
  rcases wi_cases x 48 57 (by omega) with z | z
  · exact absurd z h
  · exact z
theorem dg_split (c : Nat → Int32) : ∀ m, (∀ j, j < m → dg (c j)) ∨ ∃ w, w < m ∧ (∀ j, j < w → dg (c j)) ∧ ¬ dg (c w) := by
  intro m
  induction m with
  | zero => left; intro j hj; omega
  | succ m ih =>
    rcases ih with z | ⟨w, h1, h2, h3⟩
    · by_cases q : dg (c m)
      · left; intro j hj
        by_cases e : j = m
        · rw [e]; exact q
        · exact z j (by omega)
      · right; exact ⟨m, by omega, z, q⟩
    · right; exact ⟨w, by omega, h2, h3⟩
theorem read_ok {k ln i : Nat} {Q : Int32 → gM → Prop} (hl : μ (10 + k) 1 = nI ln) (h40 : ln ≤ 40) (hi : i < ln) (hq : Q (μ (14 + k) i) μ) : vX4_read k (nI i) μ Q := by
  unfold vX4_read
  refine holds_in (n := 1) hl h40 (by omega) (br_f (by decide) ⟨inI (by omega) (by omega), ?_⟩)
  rw [cl (by omega)]; exact hq
theorem takeText_ok {k ln ii nn : Nat} {Q : gM → Prop} (hk : k < 4) (hl : μ (10 + k) 1 = nI ln) (h40 : ln ≤ 40) (hn : ii + nn ≤ ln) (h8 : nn ≤ 8) (hdg : ∀ j, j < nn → dg (μ (14 + k) (ii + j))) (hq : ∀ μ', (∀ id, id ≠ 0 → id ≠ 5 → id ≠ 21 → id ≠ 31 → μ' id = μ id) → (∀ s, s ≠ 8 → s ≠ 9 → μ' 31 s = μ 31 s) → μ' 31 8 = 2 → μ' 31 9 = 0 → (∀ j, j < 10 → μ' 21 j = 0) → IsRow μ' 0 nn (fun j => hd (μ (14 + k) (ii + j))) → Q μ') : vX6_takeText k (nI ii) (nI nn) μ Q := by
  have key : ∃ n, ∀ μ', ((∀ id, id ≠ 5 → μ' id = up2 μ 0 1 (nI nn) id) ∧ ∀ j, j < 0 → μ' 5 j = nI (hd (μ (14 + k) (ii + j)))) → vX6_takeText_11 k (nI ii) (nI nn) Q n (nI 0) μ' := by
    refine ex_up (fun n q => ∀ μ', ((∀ id, id ≠ 5 → μ' id = up2 μ 0 1 (nI nn) id) ∧ ∀ j, j < q → μ' 5 j = nI (hd (μ (14 + k) (ii + j)))) → vX6_takeText_11 k (nI ii) (nI nn) Q n (nI q) μ') nn 0 (Nat.zero_le _) (fun n μ' hI => ?_) (fun n q _ hqn ih μ' hI => ?_)
    · show vX6_takeText_11B k _ _ Q _ _ μ'
      unfold vX6_takeText_11B vX2_reset
      refine br_t (leT (Nat.le_refl _) (by omega)) (fill_ok (by omega) (fun μ2 hf hz => hq _ (fun id z1 z2 z3 z4 => ?_) (fun s s1 s2 => ?_) ?_ ?_ (fun j hj => ?_) ⟨?_, h8, fun j hj => ⟨(dg_sub (hdg j hj)).2, ?_⟩⟩))
      · rw [up2_n z4, hf id z3, up2_n z4, hI.1 id z2, up2_n z1]
      · rw [u_o s2, hf 31 (by decide), u_o s1, hI.1 31 (by decide), up2_n (by decide)]
      · rw [u_o (by decide), hf 31 (by decide), u_e]
      · exact u_e
      · rw [up2_n (by decide)]; exact hz j hj
      · rw [up2_n (by decide), hf 0 (by decide), up2_n (by decide), hI.1 0 (by decide), u_e]
      · rw [up2_n (by decide), hf 5 (by decide), up2_n (by decide)]; exact hI.2 j hj
    · have e1 : μ' 0 1 = nI nn := by rw [hI.1 0 (by decide), u_e]
      show vX6_takeText_11B k _ _ Q _ _ μ'
      unfold vX6_takeText_11B
      rw [nI_add]
      refine br_f (leF hqn (by omega)) (read_ok (ln := ln) (by rw [hI.1 _ (by omega), up2_n (by omega)]; exact hl) h40 (by omega) ?_)
      rw [hI.1 (14 + k) (by omega), up2_n (by omega), (dg_sub (hdg q hqn)).1]
      refine setHeight_ok e1 h8 hqn ?_
      rw [nI_1]
      refine ih _ ⟨fun id z => by rw [up2_n z]; exact hI.1 id z, fun j hj => ?_⟩
      by_cases c : j = q
      · rw [c]; exact u_e
      · rw [u_o c]; exact hI.2 j (by omega)
  obtain ⟨n, hn⟩ := key
  exact ⟨n, hn _ ⟨fun _ _ => rfl, fun j hj => by omega⟩⟩
theorem Rel.pat {μ' ν' : gM} {p : Nat} {h : Nat → Nat} (hr : Rel μ ν) (hp : 0 < p) (hx : ∀ id, id ≠ 0 → id ≠ 5 → id ≠ 21 → id ≠ 31 → μ' id = μ id) (hx31 : ∀ s, s ≠ 8 → s ≠ 9 → μ' 31 s = μ 31 s) (x8 : μ' 31 8 = 2) (x9 : μ' 31 9 = 0) (x21 : ∀ j, j < 10 → μ' 21 j = 0) (hX : IsRow μ' 0 p h) (hm : ∀ id, id ≠ 32 → id ≠ 36 → id ≠ 37 → ν' id = ν id) (hm32 : ∀ s, s ≠ 5 → s ≠ 7 → s ≠ 9 → ν' 32 s = ν 32 s) (m7 : ν' 32 7 = 2) (m9 : ν' 32 9 = 0) (m37 : ∀ j, j < 10 → ν' 37 j = 0) (hM : MRow ν' p h) : Rel μ' ν' := by
  obtain ⟨a1, a2, a3, a4, a5, a6, a7, a8⟩ := hr
  refine ⟨⟨p, h, hX, hM, fun z => by omega, fun _ => by rw [m7, x8]⟩, a2.fr (fun i hi => ⟨hx _ (by omega) (by omega) (by omega) (by omega), hx _ (by omega) (by omega) (by omega) (by omega)⟩) (hm 41 (by decide) (by decide) (by decide)) (hm 42 (by decide) (by decide) (by decide)), ⟨2, by omega, by omega, x8⟩, ⟨by rw [m9, x9], 0, by omega, x9⟩, fun k hk => ⟨0, by omega, x21 k hk, m37 k hk⟩, ?_, ?_, a8.fr (fun k hk => ⟨hx _ (by omega) (by omega) (by omega) (by omega), hx _ (by omega) (by omega) (by omega) (by omega)⟩) (hm 33 (by decide) (by decide) (by decide)) (hm 34 (by decide) (by decide) (by decide)) (hm 35 (by decide) (by decide) (by decide))⟩
  · unfold R6; rw [hx 20 (by decide) (by decide) (by decide) (by decide), hm32 1 (by decide) (by decide) (by decide)]; exact a6
  · unfold R7; rw [hx31 10 (by decide) (by decide), hm32 0 (by decide) (by decide) (by decide)]; exact a7
theorem mtake_ok {k ii nn : Nat} {a1 a2 a3 a4 : Int32} {Q : Int32 → gM → gJ → Prop} (hk : 40 * k + ii + nn ≤ 160) (h8 : nn ≤ 8) (hdg : ∀ j, j < nn → dg (ν 35 (40 * k + ii + j))) (hq : ∀ ν', (∀ id, id ≠ 32 → id ≠ 36 → id ≠ 37 → ν' id = ν id) → (∀ s, s ≠ 5 → s ≠ 7 → s ≠ 9 → ν' 32 s = ν 32 s) → ν' 32 7 = 2 → ν' 32 9 = 0 → (∀ j, j < 10 → ν' 37 j = 0) → MRow ν' nn (fun j => hd (ν 35 (40 * k + ii + j))) → Q (nI nn) ν' τ) : ∃ n, vX7_pattern_125 a1 a2 a3 a4 Q n (nI (40 * k + ii)) (nI nn) 0 (up2 ν 32 5 (nI nn)) τ := by
  have key : ∃ n, ∀ ν', ((∀ id, id ≠ 36 → ν' id = up2 ν 32 5 (nI nn) id) ∧ ∀ j, j < 0 → ν' 36 j = nI (hd (ν 35 (40 * k + ii + j)))) → vX7_pattern_125 a1 a2 a3 a4 Q n (nI (40 * k + ii)) (nI nn) (nI 0) ν' τ := by
    refine ex_up (fun n q => ∀ ν', ((∀ id, id ≠ 36 → ν' id = up2 ν 32 5 (nI nn) id) ∧ ∀ j, j < q → ν' 36 j = nI (hd (ν 35 (40 * k + ii + j)))) → vX7_pattern_125 a1 a2 a3 a4 Q n (nI (40 * k + ii)) (nI nn) (nI q) ν' τ) nn 0 (Nat.zero_le _) (fun n ν' hI => ?_) (fun n q _ hqn ih ν' hI => ?_)
    · show vX7_pattern_125B _ _ _ _ Q _ _ _ _ ν' τ
      unfold vX7_pattern_125B
      refine br_t (leT (Nat.le_refl _) (by omega)) ?_
      have key2 : ∃ n, ∀ ν2, ((∀ id, id ≠ 37 → ν2 id = up2 (up2 ν' 32 7 2) 32 9 0 id) ∧ ∀ j, j < 0 → ν2 37 j = 0) → vX7_pattern_171 a1 a2 a3 a4 Q n (nI nn) (nI 0) ν2 τ := by
        refine ex_up (fun n q => ∀ ν2, ((∀ id, id ≠ 37 → ν2 id = up2 (up2 ν' 32 7 2) 32 9 0 id) ∧ ∀ j, j < q → ν2 37 j = 0) → vX7_pattern_171 a1 a2 a3 a4 Q n (nI nn) (nI q) ν2 τ) 10 0 (Nat.zero_le _) (fun n ν2 hJ => ?_) (fun n q _ hq10 ih ν2 hJ => ?_)
        · show vX7_pattern_171B _ _ _ _ Q _ _ _ ν2 τ
          unfold vX7_pattern_171B
          refine br_t (leT (a := 10) (by omega) (by omega)) (hq ν2 (fun id z1 z2 z3 => ?_) (fun s s1 s2 s3 => ?_) ?_ ?_ hJ.2 ⟨?_, h8, fun j hj => ⟨(dg_sub (hdg j hj)).2, ?_⟩⟩)
          · rw [hJ.1 id z3, up2_n z1, up2_n z1, hI.1 id z2, up2_n z1]
          · rw [hJ.1 32 (by decide), u_o s3, u_o s2, hI.1 32 (by decide), u_o s1]
          · rw [hJ.1 32 (by decide), u_o (by decide), u_e]
          · rw [hJ.1 32 (by decide), u_e]
          · rw [hJ.1 32 (by decide), u_o (by decide), u_o (by decide), hI.1 32 (by decide), u_e]
          · rw [hJ.1 36 (by decide), up2_n (by decide), up2_n (by decide)]; exact hI.2 j hj
        · show vX7_pattern_171B _ _ _ _ Q _ _ _ ν2 τ
          unfold vX7_pattern_171B
          rw [cl (by omega), nI_1]
          refine br_f (leF (a := 10) hq10 (by omega)) ⟨inI hq10 (by omega), ih _ ⟨fun id z => by rw [up2_n z]; exact hJ.1 id z, fun j hj => ?_⟩⟩
          by_cases c : j = q
          · rw [c]; exact u_e
          · rw [u_o c]; exact hJ.2 j (by omega)
      obtain ⟨n, hn⟩ := key2
      exact ⟨n, hn _ ⟨fun _ _ => rfl, fun j hj => by omega⟩⟩
    · show vX7_pattern_125B _ _ _ _ Q _ _ _ _ ν' τ
      unfold vX7_pattern_125B
      rw [nI_add, cl (by omega), cl (by omega), hI.1 35 (by decide), up2_n (by decide), (dg_sub (hdg q hqn)).1, nI_1]
      refine br_f (leF hqn (by omega)) ⟨inI (by omega) (by omega), inI (by omega) (by omega), ih _ ⟨fun id z => by rw [up2_n z]; exact hI.1 id z, fun j hj => ?_⟩⟩
      by_cases c : j = q
      · rw [c]; exact u_e
      · rw [u_o c]; exact hI.2 j (by omega)
  obtain ⟨n, hn⟩ := key
  exact ⟨n, hn _ ⟨fun _ _ => rfl, fun j hj => by omega⟩⟩
theorem s_pattern {a b d e : Int32} (hK : ∀ μ' ν' τ', Rel μ' ν' → K μ' ν' τ') (hr : Rel μ ν) (hQ : ∀ x μ1, vX7_pattern a b d e ν τ (En K x μ1) → QX x μ1) : vX6_pattern a b d e μ QX := by
  have hr0 := hr.flt 0
  have h0 : up2 μ 31 10 0 31 10 = 0 := u_e
  unfold vX6_pattern vX6_isSheet
  unfold vX7_pattern vX7_isSheet at hQ
  generalize up2 μ 31 10 0 = μ0 at *
  generalize up2 ν 32 0 0 = ν0 at *
  rcases wi_cases a 0 3 (by omega) with ⟨k, -, hk, rfl⟩ | ho
  · have hin : vp_in (nI k) 4 := inI (by omega) (by omega)
    refine xw_in (l := 0) (u := 3) (by omega) hk (by omega) ⟨nar1, nb_f (by decide) ?_⟩
    unfold vX6_isSort
    unfold vX7_isSort at hQ
    rcases wi_cases b 0 2 (by omega) with ⟨s, -, hs, rfl⟩ | ho
    · refine xw_in (l := 0) (u := 2) (by omega) hs (by omega) ⟨nar1, nb_f (by decide) ⟨hin, ?_⟩⟩
      have hM : ∀ x μ1, _ := fun x μ1 z => hQ x μ1 (mw_in (l := 0) (u := 3) (by omega) hk (by omega) ⟨nar1, nb_f (by decide) (mw_in (l := 0) (u := 2) (by omega) hs (by omega) ⟨nar1, nb_f (by decide) z⟩)⟩)
      rw [cl (by omega)]
      obtain ⟨f, hf4, fx, fm, f0⟩ := fc_ok hr0.2.2.2.2.2.2.2 (k := k) (by omega) (nI s) d e
      refine fx _ ?_
      by_cases hf : f = 0
      · obtain ⟨ln, s', ii, nn, g, rfl, rfl, hle, -⟩ := f0 hf
        obtain ⟨g1, g2, g3, g4, g5, g6, g7⟩ := id g
        have hM2 : ∀ x μ1, _ := fun x μ1 z => hM x μ1 (fm τ _ (br_t (by rw [hf]; rfl) z))
        rw [hf, show nI 0 = 0 from rfl, up2_id h0, h0]
        refine br_t rfl ⟨hin, ?_⟩
        rw [ix40] at hM2
        -- where the text stops
        have hc : ∀ j, ii + j < 40 → μ0 (14 + k) (ii + j) = ν0 35 (40 * k + ii + j) := fun j hj => by rw [g7 _ hj, Nat.add_assoc]
        have hxw : ∀ w (Q : Int32 → gM → Prop), w ≤ 8 → w ≤ nn → (∀ j, j < w → dg (μ0 (14 + k) (ii + j))) → vX6_firstWrongCode_2B k (nI ii) (nI nn) Q (vX6_firstWrongCode_2 k (nI ii) (nI nn) Q 0) (nI w) μ0 → vX6_firstWrongCode k (nI ii) (nI nn) μ0 Q := by
          intro w Q w8 wn hdg hz
          have mono : ∀ n, vX6_firstWrongCode_2 k (nI ii) (nI nn) Q (n + 1) (nI w) μ0 → True := fun _ _ => trivial
          have key : ∀ d q, q + d = w → ∃ n, vX6_firstWrongCode_2 k (nI ii) (nI nn) Q n (nI q) μ0 := by
            intro d
            induction d with
            | zero => intro q e; exact ⟨1, by rw [show q = w by omega]; exact hz⟩
            | succ d ih =>
              intro q e
              obtain ⟨n, hn⟩ := ih (q + 1) (by omega)
              refine ⟨n + 1, ?_⟩
              show vX6_firstWrongCode_2B k _ _ Q _ _ μ0
              unfold vX6_firstWrongCode_2B
              rw [nI_add, nI_1]
              exact br_f (leF (by omega) (by omega)) (br_f (leF (a := 8) (by omega) (by omega)) (read_ok g3 g1 (by omega) (dg_x (hdg q (by omega)) (nb_f (by decide) hn))))
          exact key w 0 (by omega)
        have hmw : ∀ w (Q : Int32 → gM → gJ → Prop), w ≤ 8 → w ≤ nn → (∀ j, j < w → dg (ν0 35 (40 * k + ii + j))) → vX7_pattern_58B (nI k) (nI s) (nI ii) (nI nn) Q (vX7_pattern_58 (nI k) (nI s) (nI ii) (nI nn) Q 0) (nI (40 * k + ii)) (nI w) ν0 τ → ∃ n, vX7_pattern_58 (nI k) (nI s) (nI ii) (nI nn) Q n (nI (40 * k + ii)) 0 ν0 τ := by
          intro w Q w8 wn hdg hz
          have key : ∀ d q, q + d = w → ∃ n, vX7_pattern_58 (nI k) (nI s) (nI ii) (nI nn) Q n (nI (40 * k + ii)) (nI q) ν0 τ := by
            intro d
            induction d with
            | zero => intro q e; exact ⟨1, by rw [show q = w by omega]; exact hz⟩
            | succ d ih =>
              intro q e
              obtain ⟨n, hn⟩ := ih (q + 1) (by omega)
              refine ⟨n + 1, ?_⟩
              show vX7_pattern_58B _ _ _ _ Q _ _ _ ν0 τ
              unfold vX7_pattern_58B
              rw [nI_add, nI_1, cl (by omega)]
              exact br_f (leF (by omega) (by omega)) (br_f (leF (a := 8) (by omega) (by omega)) ⟨inI (by omega) (by omega), dg_m (hdg q (by omega)) (br_f (by decide) hn)⟩)
          exact key w 0 (by omega)
        have stop : ∀ w, w ≤ 8 → w < nn → (∀ j, j < w → dg (μ0 (14 + k) (ii + j))) → (w = 8 ∨ ¬ dg (μ0 (14 + k) (ii + w))) → vX6_firstWrongCode k (nI ii) (nI nn) μ0 (fun x287 μ288 => (x287 = (-9) → (vp_in (nI k) 4 ∧ vX6_takeText k (nI ii) (nI nn) μ288 (fun μ299 => QX (μ299 0 1) μ299))) ∧ (¬ x287 = (-9) → (QX ((-100) - x287) μ288))) := by
          intro w w8 wn hdg hw
          have fin : QX (-100 - nI w) μ0 := by
            refine hM2 _ _ (hmw w _ w8 (by omega) (fun j hj => by rw [← hc j (by omega)]; exact hdg j hj) ?_)
            unfold vX7_pattern_58B
            refine br_f (leF wn (by omega)) ?_
            by_cases c8 : w = 8
            · exact br_t (leT (a := 8) (by omega) (by omega)) (br_t (ltT wn (by omega)) (en hK hr0))
            · refine br_f (leF (a := 8) (by omega) (by omega)) ?_
              rw [nI_add, cl (by omega), ← hc w (by omega)]
              have hw : ¬ dg (μ0 (14 + k) (ii + w)) := by
                rcases hw with z | z
                · exact absurd z c8
                · exact z
              exact ⟨inI (by omega) (by omega), mw_out (l := 48) (u := 57) (by omega) (by omega) (dg_o hw) (br_t rfl (br_t (ltT wn (by omega)) (en hK hr0)))⟩
          refine hxw w _ w8 (by omega) hdg ?_
          unfold vX6_firstWrongCode_2B
          refine br_f (leF wn (by omega)) ?_
          by_cases c8 : w = 8
          · exact br_t (leT (a := 8) (by omega) (by omega)) (br_f (ne9 (by omega)) fin)
          · refine br_f (leF (a := 8) (by omega) (by omega)) ?_
            have hw : ¬ dg (μ0 (14 + k) (ii + w)) := by
              rcases hw with z | z
              · exact absurd z c8
              · exact z
            rw [nI_add]
            exact read_ok g3 g1 (by omega) (xw_out (l := 48) (u := 57) (by omega) (by omega) (dg_o hw) (nb_t rfl (br_f (ne9 (by omega)) fin)))
        rcases dg_split (fun j => μ0 (14 + k) (ii + j)) (min nn 8) with hall | ⟨w, hw1, hw2, hw3⟩
        · by_cases c8 : 8 < nn
          · exact stop 8 (by omega) c8 (fun j hj => hall j (by omega)) (Or.inl rfl)
          · have hall : ∀ j, j < nn → dg (μ0 (14 + k) (ii + j)) := fun j hj => hall j (by omega)
            have hall2 : ∀ j, j < nn → dg (ν0 35 (40 * k + ii + j)) := fun j hj => by rw [← hc j (by omega)]; exact hall j hj
            refine hxw nn _ (by omega) (Nat.le_refl _) hall ?_
            unfold vX6_firstWrongCode_2B
            refine br_t (leT (Nat.le_refl _) (by omega)) ?_
            by_cases cz : nn = 0
            · refine nb_t (by rw [cz]; rfl) (br_f (by decide) (hM2 _ _ (hmw nn _ (by omega) (Nat.le_refl _) hall2 ?_)))
              unfold vX7_pattern_58B
              refine br_t (leT (Nat.le_refl _) (by omega)) (br_f (ltF (Nat.le_refl _) (by omega)) (nb_t (by rw [cz]; rfl) ?_))
              rw [cz]
              exact en hK hr0
            · have cz := ne0 (show 0 < nn by omega) (by omega)
              refine nb_f cz (br_t rfl ⟨hin, ?_⟩)
              refine takeText_ok (by omega) g3 g1 hle (by omega) hall (fun μ' x1 x2 x3 x4 x5 x6 => ?_)
              rw [x6.1]
              refine hM2 _ _ (hmw nn _ (by omega) (Nat.le_refl _) hall2 ?_)
              unfold vX7_pattern_58B
              refine br_t (leT (Nat.le_refl _) (by omega)) (br_f (ltF (Nat.le_refl _) (by omega)) (nb_f cz (mtake_ok (by omega) (by omega) hall2 (fun ν' m1 m2 m3 m4 m5 m6 => en hK (hr0.pat (p := nn) (by omega) x1 x2 x3 x4 x5 (x6.ext (fun j hj => ?_)) m1 m2 m3 m4 m5 m6)))))
              rw [hc j (by omega)]
        · exact stop w (by omega) (by omega) hw2 (Or.inr hw3)
      · have hfz : ¬ nI f = 0 := ne0 (by omega) (by omega)
        rw [u_e]
        refine br_f hfz (hM _ _ (fm τ _ (br_f hfz ?_)))
        unfold vX7_fails
        exact en hK (hr0.flt _)
    · exact xw_out (l := 0) (u := 2) (by omega) (by omega) ho ⟨nar0, nb_t rfl (hQ _ _ (mw_in (l := 0) (u := 3) (by omega) hk (by omega) ⟨nar1, nb_f (by decide) (mw_out (l := 0) (u := 2) (by omega) (by omega) ho ⟨nar0, nb_t rfl (en hK hr0)⟩)⟩))⟩
  · exact xw_out (l := 0) (u := 3) (by omega) (by omega) ho ⟨nar0, nb_t rfl (hQ _ _ (mw_out (l := 0) (u := 3) (by omega) (by omega) ho ⟨nar0, nb_t rfl (en hK hr0)⟩))⟩
end S9
