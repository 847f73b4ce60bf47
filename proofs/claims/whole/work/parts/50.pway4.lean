/-! the throws of a way -/
def les (top : Nat) (f : Nat → Int32) (s n : Nat) : Nat := sr (fun t => may s t top && decide (f (go s t) = nI n)) id 0 10 0
theorem sr_least {e : Nat → Bool} : ∀ d j t, j ≤ t → t < j + d → e t = true → sr e id 0 d j < j + d ∧ j ≤ sr e id 0 d j ∧ e (sr e id 0 d j) = true ∧ ∀ x, j ≤ x → x < sr e id 0 d j → e x = false := by
  intro d
  induction d with
  | zero => intro j t h1 h2; omega
  | succ d ih =>
    intro j t h1 h2 he
    by_cases c : e j = true
    · have : sr e id 0 (d + 1) j = j := by simp [sr, c]
      rw [this]
      exact ⟨by omega, Nat.le_refl _, c, fun x a b => by omega⟩
    · have : sr e id 0 (d + 1) j = sr e id 0 d (j + 1) := by simp [sr, c]
      rw [this]
      have ne : t ≠ j := fun w => c (by rw [← w]; exact he)
      obtain ⟨a1, a2, a3, a4⟩ := ih (j + 1) t (by omega) (by omega) he
      refine ⟨by omega, by omega, a3, fun x b1 b2 => ?_⟩
      by_cases w : x = j
      · rw [w]; exact Bool.eq_false_iff.mpr c
      · exact a4 x (by omega) b2
section WY
variable {top to : Nat} {f : Nat → Int32}
theorem les_ok (hf : FT top to f) {s n : Nat} (hs : s < 512) (hn : n + 1 ≤ 600) (e : f s = nI (n + 1)) : les top f s n < 10 ∧ may s (les top f s n) top = true ∧ f (go s (les top f s n)) = nI n ∧ ∀ x, x < les top f s n → ¬ (may s x top = true ∧ f (go s x) = nI n) := by
  rcases hf.2.1 s hs with z | ⟨m, m1, m2, m3, m4⟩
  · rw [z] at e; exact absurd e.symm (ne9 (by omega))
  · have em := nIj (by omega) (by omega) (m2.symm.trans e)
    obtain ⟨s2, k1, ⟨t, t1, t2, t3⟩, k3⟩ := m4 (by omega)
    obtain ⟨a1, a2, a3, a4⟩ := sr_least (e := fun t => may s t top && decide (f (go s t) = nI n)) 10 0 t (by omega) (by omega) (by
      simp only [Bool.and_eq_true, decide_eq_true_eq]
      exact ⟨t2, by rw [t3, k3]; exact nIe (by omega)⟩)
    simp only [Bool.and_eq_true, decide_eq_true_eq] at a3
    refine ⟨by unfold les; omega, a3.1, a3.2, fun x hx => ?_⟩
    have := a4 x (by omega) hx
    intro w
    rw [Bool.and_eq_false_iff] at this
    rcases this with q | q
    · rw [w.1] at q; exact absurd q (by decide)
    · exact of_decide_eq_false q w.2
theorem leastThrow_ok {μ : gM} {Q : Int32 → gM → Prop} (h9 : top ≤ 9) (hf : FT top to (μ 23)) {s n : Nat} (hs : s < 512) (hn : n + 1 ≤ 600) (e : μ 23 s = nI (n + 1)) (hq : Q (nI (les top (μ 23) s n)) μ) : vX5_leastThrow (nI s) (nI top) μ Q := by
  obtain ⟨a1, a2, a3, a4⟩ := les_ok hf hs hn e
  unfold vX5_leastThrow
  rw [i_and1 s hs]
  by_cases c : s % 2 = 0
  · rw [c]
    refine nb_t rfl ?_
    unfold may at a2
    rw [if_pos c] at a2
    rw [of_decide_eq_true a2] at hq
    exact hq
  · refine nb_f (ne0 (by omega) (by omega)) (beatsFrom_ok hs ?_)
    rw [e, show nI (n + 1) - 1 = nI n by rw [show (1 : Int32) = nI 1 from rfl, pk_sub (by omega)]; rfl]
    obtain ⟨b1, b2⟩ := (may_top h9).mp a2
    have mz : ∀ x, may s x 9 = true ↔ 1 ≤ x ∧ x ≤ 9 ∧ s / 2 ^ x % 2 = 0 := fun x => by
      unfold may
      rw [if_neg c]
      simp only [Bool.and_eq_true, decide_eq_true_eq]
      exact ⟨fun z => ⟨z.1.1, z.1.2, z.2⟩, fun z => ⟨⟨z.1, z.2.1⟩, z.2.2⟩⟩
    have b3 := (mz _).mp b1
    generalize les top (μ 23) s n = t0 at *
    have key : ∀ d t, t + d = t0 → 1 ≤ t → ∃ m, vX5_leastThrow_19 (nI s) (nI top) Q m (nI n) (nI t) μ := by
      intro d
      induction d with
      | zero =>
        intro t et h1
        refine ⟨1, ?_⟩
        have et : t = t0 := by omega
        rw [et]
        show vX5_leastThrow_19B _ _ Q _ _ _ μ
        unfold vX5_leastThrow_19B
        rw [i_bit s (by omega) t0 (by omega), b3.2.2]
        refine br_f (ltF (by omega) (by omega)) (nb_t rfl (behind_x hs a1 (beatsFrom_ok (go_all s hs t0 a1) (nb_t a3 hq))))
      | succ d ih =>
        intro t et h1
        obtain ⟨m, hm⟩ := ih (t + 1) (by omega) (by omega)
        refine ⟨m + 1, ?_⟩
        show vX5_leastThrow_19B _ _ Q _ _ _ μ
        unfold vX5_leastThrow_19B
        have et2 : nI t + 1 = nI (t + 1) := nI_1 t
        rw [i_bit s (by omega) t (by omega), et2]
        refine br_f (ltF (by omega) (by omega)) ?_
        rcases mod2 (s / 2 ^ t) with z | z
        · rw [z]
          have hm2 : may s t top = true := (may_top h9).mpr ⟨(mz t).mpr ⟨h1, by omega, z⟩, by omega⟩
          exact nb_t rfl (behind_x hs (by omega) (beatsFrom_ok (go_all s hs t (by omega)) (nb_f (fun w => a4 t (by omega) ⟨hm2, w⟩) hm)))
        · rw [z]
          exact nb_f (by decide) hm
    exact key (t0 - 1) 1 (by omega) (Nat.le_refl _)
def wy (top : Nat) (f : Nat → Int32) (D a : Nat) : Nat → Nat
  | 0 => a
  | v + 1 => go (wy top f D a v) (les top f (wy top f D a v) (D - v - 1))
def wt (top : Nat) (f : Nat → Int32) (D a : Nat) : Nat → Nat
  | 0 => 0
  | v + 1 => les top f (wy top f D a v) (D - v - 1)
theorem wy_ok (hf : FT top to f) {D a : Nat} (hD : D ≤ 600) (ha : a < 512) (e : f a = nI D) : ∀ v, v ≤ D → wy top f D a v < 512 ∧ f (wy top f D a v) = nI (D - v) := by
  intro v
  induction v with
  | zero => intro _; exact ⟨ha, e⟩
  | succ v ih =>
    intro hv
    obtain ⟨i1, i2⟩ := ih (by omega)
    obtain ⟨a1, a2, a3, a4⟩ := les_ok hf (n := D - v - 1) i1 (by omega) (by rw [i2]; exact nIe (by omega))
    exact ⟨go_all _ i1 _ a1, by show f (go _ _) = _; rw [a3]; exact nIe (by omega)⟩
end WY
section S11
variable {K : gM → gM → gJ → Prop} {μ ν : gM} {τ : gJ} {QX : Int32 → gM → Prop}
theorem s_way {a b d e : Int32} (hK : ∀ μ' ν' τ', Rel μ' ν' → K μ' ν' τ') (hr : Rel μ ν) (hQ : ∀ x μ1, vX7_way a b d e ν τ (En K x μ1) → QX x μ1) : vX6_way a b d e μ QX := by
  unfold vX6_way
  unfold vX7_way at hQ
  rcases wi_cases a 0 511 (by omega) with ⟨i, -, hi, rfl⟩ | ho
  · refine xw_in (l := 0) (u := 511) (by omega) hi (by omega) (br_f (by decide) ?_)
    rcases wi_cases b 0 511 (by omega) with ⟨to, -, hto, rfl⟩ | ho
    · refine xw_in (l := 0) (u := 511) (by omega) hto (by omega) (br_f (by decide) (bitCount_ok (by omega) (bitCount_ok (by omega) ?_)))
      have hM : ∀ x μ1, _ := fun x μ1 z => hQ x μ1 (mw_in (l := 0) (u := 511) (by omega) hi (by omega) (br_f (by decide) (mw_in (l := 0) (u := 511) (by omega) hto (by omega) (br_f (by decide) (size_ok (by omega) (size_ok (by omega) z))))))
      by_cases cp : nI (pcN i) = nI (pcN to)
      · refine nb_t cp ?_
        rcases wi_cases d 0 9 (by omega) with ⟨top, -, h9, rfl⟩ | ho
        · refine xw_in (l := 0) (u := 9) (by omega) h9 (by omega) (nb_f (by decide) ?_)
          have hM2 : ∀ x μ1, _ := fun x μ1 z => hM x μ1 (nb_t cp (mw_in (l := 0) (u := 9) (by omega) h9 (by omega) (nb_f (by decide) z)))
          by_cases ce : (-1 : Int32) ≤ e
          · refine br_t ce (measure_ok h9 (by omega) (fun μ' fx hFx => ?_))
            have hM3 : ∀ x, (∀ ν', (∀ id, id ≠ 45 → ν' id = ν id) → (∀ s, s < 512 → ν' 45 s = μ' 23 s) → ((vp_in (nI i) 512 ∧ ((ν' 45 i) = (-9) → (En K x μ' (-9) ν' τ)) ∧ (¬ (ν' 45 i) = (-9) → (vp_in (nI i) 512 ∧ (e < (ν' 45 i) → ((¬ e = (-1) → (∃ n, vX7_way_107 (nI i) (nI to) (nI top) e (En K x μ') n (nI i) 0 0 ν' τ)) ∧ (e = (-1) → (vp_in (nI i) 512 ∧ En K x μ' (ν' 45 i) ν' τ)))) ∧ (¬ e < (ν' 45 i) → (En K x μ' (-9) ν' τ))))))) → QX x μ' := fun x z => hM2 x μ' (br_t ce (findFar_ok h9 (by omega) (fun ν' fm hFm => by
              have := z ν' fm (fun s hs => ft_uniq hFm hFx hs)
              rw [cl (by omega)]
              exact this)))
            have hrel : ∀ ν', (∀ id, id ≠ 45 → ν' id = ν id) → Rel μ' ν' := fun ν' fm => hr.fr (fun id hid => fx id (fun z => hid (by unfold scX; omega)) (fun z => hid (by unfold scX; omega)) (fun z => hid (by unfold scX; omega))) ⟨fun id hid => fm id (fun z => hid (by unfold scM; omega)), fun k _ _ => by rw [fm 32 (by decide)]⟩
            have vin : vp_in (nI i) 512 := inI (by omega) (by omega)
            rcases hFx.2.1 i (by omega) with z | ⟨D, D1, D2, -⟩
            · have fin : QX (-9) μ' := hM3 _ (fun ν' fm hs => by
                rw [hs i (by omega), z]
                exact ⟨vin, br_t rfl (en hK (hrel ν' fm))⟩)
              by_cases c1 : e = -1
              · refine nb_t c1 (beatsFrom_ok (by omega) ?_)
                rw [z]; exact fin
              · refine nb_f c1 ?_
                unfold vX5_throwOnWay
                refine beatsFrom_ok (by omega) (br_t z fin)
            · have n9 : ¬ nI D = -9 := ne9 (by omega)
              have m1 : (-1 : Int32).toInt = -1 := rfl
              by_cases c1 : e = -1
              · refine nb_t c1 (beatsFrom_ok (by omega) ?_)
                rw [D2]
                refine hM3 _ (fun ν' fm hs => ?_)
                rw [hs i (by omega), D2]
                refine ⟨vin, br_f n9 ⟨vin, br_t ?_ (nb_t c1 ⟨vin, en hK (hrel ν' fm)⟩)⟩⟩
                rw [lt_i, c1, nI_int (by omega), m1]; omega
              · refine nb_f c1 ?_
                unfold vX5_throwOnWay
                refine beatsFrom_ok (by omega) ?_
                rw [D2]
                refine br_f n9 ?_
                by_cases c2 : e < nI D
                · have ce2 := le_i.mp ce
                  have c22 := lt_i.mp c2
                  have c11 : e.toInt ≠ -1 := fun w => c1 (tI (by rw [w]; rfl))
                  rw [m1] at ce2
                  rw [nI_int (by omega)] at c22
                  obtain ⟨v, hv, rfl⟩ : ∃ v : Nat, v < D ∧ e = nI v := ⟨e.toInt.toNat, by omega, tI (by rw [nI_int (by omega)]; omega)⟩
                  refine br_t c2 ?_
                  have W := wy_ok hFx (D := D) (a := i) D1 (by omega) D2
                  have fin : QX (nI (wt top (μ' 23) D i (v + 1))) μ' := by
                    refine hM3 _ (fun ν' fm hs => ?_)
                    rw [hs i (by omega), D2]
                    refine ⟨vin, br_f n9 ⟨vin, br_t c2 (nb_f c1 ?_)⟩⟩
                    refine ex_up (fun n q => vX7_way_107 (nI i) (nI to) (nI top) (nI v) (En K (nI (wt top (μ' 23) D i (v + 1))) μ') n (nI (wy top (μ' 23) D i q)) (nI (wt top (μ' 23) D i q)) (nI q) ν' τ) (v + 1) 0 (by omega) (fun n => ?_) (fun n q _ hq ih => ?_)
                    · show vX7_way_107B _ _ _ _ _ _ _ _ _ ν' τ
                      unfold vX7_way_107B
                      exact br_t (ltT (by omega) (by omega)) (en hK (hrel ν' fm))
                    · obtain ⟨w1, w2⟩ := W q (by omega)
                      obtain ⟨a1, a2, a3, a4⟩ := les_ok hFx (n := D - q - 1) w1 (by omega) (by rw [w2]; exact nIe (by omega))
                      show vX7_way_107B _ _ _ _ _ _ _ _ _ ν' τ
                      unfold vX7_way_107B
                      refine br_f (ltF (by omega) (by omega)) ?_
                      have ih : vX7_way_107 (nI i) (nI to) (nI top) (nI v) (En K (nI (wt top (μ' 23) D i (v + 1))) μ') n (nI (go (wy top (μ' 23) D i q) (les top (μ' 23) (wy top (μ' 23) D i q) (D - q - 1)))) (nI (les top (μ' 23) (wy top (μ' 23) D i q) (D - q - 1))) (nI (q + 1)) ν' τ := ih
                      generalize wy top (μ' 23) D i q = s at *
                      generalize les top (μ' 23) s (D - q - 1) = t0 at *
                      have eq : nI q + 1 = nI (q + 1) := nI_1 q
                      have eD : nI D - nI q - 1 = nI (D - q - 1) := by rw [show (1 : Int32) = nI 1 from rfl, pk_sub (by omega), pk_sub (by omega)]
                      have key : ∀ d t, t + d = t0 → ∃ m, vX7_way_117 (nI i) (nI to) (nI top) (nI v) (En K (nI (wt top (μ' 23) D i (v + 1))) μ') (vX7_way_107 (nI i) (nI to) (nI top) (nI v) (En K (nI (wt top (μ' 23) D i (v + 1))) μ') n) m (nI s) (nI t) (nI q) ν' τ := by
                        intro d
                        induction d with
                        | zero =>
                          intro t et
                          have et : t = t0 := by omega
                          rw [et]
                          refine ⟨1, ?_⟩
                          show vX7_way_117B _ _ _ _ _ _ _ _ _ _ ν' τ
                          unfold vX7_way_117B
                          refine mayGo_m w1 a1 h9 ?_
                          rw [b01_t a2]
                          have g1 := go_all s w1 t0 a1
                          refine br_f (by decide) (goesTo_m w1 a1 ⟨inI g1 (by omega), vin, br_t ?_ (goesTo_m w1 a1 ?_)⟩)
                          · rw [cl (by omega), cl (by omega), hs _ g1, hs i (by omega), D2, eD]; exact a3
                          · rw [eq]; exact ih
                        | succ d ihd =>
                          intro t et
                          obtain ⟨m, hm⟩ := ihd (t + 1) (by omega)
                          refine ⟨m + 1, ?_⟩
                          have et2 : nI t + 1 = nI (t + 1) := nI_1 t
                          show vX7_way_117B _ _ _ _ _ _ _ _ _ _ ν' τ
                          unfold vX7_way_117B
                          rw [et2]
                          refine mayGo_m w1 (by omega) h9 ?_
                          by_cases hmy : may s t top = true
                          · rw [b01_t hmy]
                            have g1 := go_all s w1 t (by omega)
                            refine br_f (by decide) (goesTo_m w1 (by omega) ⟨inI g1 (by omega), vin, br_f ?_ hm⟩)
                            rw [cl (by omega), cl (by omega), hs _ g1, hs i (by omega), D2, eD]
                            exact fun w => a4 t (by omega) ⟨hmy, w⟩
                          · rw [b01_f (Bool.eq_false_iff.mpr hmy)]
                            exact br_t rfl hm
                      exact key t0 0 (by omega)
                  refine ex_up (fun n q => vX5_throwOnWay_29 (nI i) (nI top) (nI v) QX n (nI (wy top (μ' 23) D i q)) (nI q) μ') v 0 (by omega) (fun n => ?_) (fun n q _ hq ih => ?_)
                  · obtain ⟨w1, w2⟩ := W v (by omega)
                    show vX5_throwOnWay_29B _ _ _ QX _ _ _ μ'
                    unfold vX5_throwOnWay_29B
                    exact br_t (leT (Nat.le_refl _) (by omega)) (leastThrow_ok h9 hFx (n := D - v - 1) w1 (by omega) (by rw [w2]; exact nIe (by omega)) fin)
                  · obtain ⟨w1, w2⟩ := W q (by omega)
                    have a1 := (les_ok hFx (n := D - q - 1) w1 (by omega) (by rw [w2]; exact nIe (by omega))).1
                    have eq : nI q + 1 = nI (q + 1) := nI_1 q
                    show vX5_throwOnWay_29B _ _ _ QX _ _ _ μ'
                    unfold vX5_throwOnWay_29B
                    rw [eq]
                    exact br_f (leF (by omega) (by omega)) (leastThrow_ok h9 hFx (n := D - q - 1) w1 (by omega) (by rw [w2]; exact nIe (by omega)) (behind_x w1 a1 ih))
                · refine br_f c2 (hM3 _ (fun ν' fm hs => ?_))
                  rw [hs i (by omega), D2]
                  exact ⟨vin, br_f n9 ⟨vin, br_f c2 (en hK (hrel ν' fm))⟩⟩
          · exact br_f ce (hM2 _ _ (br_f ce (en hK hr)))
        · exact xw_out (l := 0) (u := 9) (by omega) (by omega) ho (nb_t rfl (hM _ _ (nb_t cp (mw_out (l := 0) (u := 9) (by omega) (by omega) ho (nb_t rfl (en hK hr))))))
      · exact nb_f cp (hM _ _ (nb_f cp (en hK hr)))
    · exact xw_out (l := 0) (u := 511) (by omega) (by omega) ho (br_t rfl (hQ _ _ (mw_in (l := 0) (u := 511) (by omega) hi (by omega) (br_f (by decide) (mw_out (l := 0) (u := 511) (by omega) (by omega) ho (br_t rfl (en hK hr)))))))
  · exact xw_out (l := 0) (u := 511) (by omega) (by omega) ho (br_t rfl (hQ _ _ (mw_out (l := 0) (u := 511) (by omega) (by omega) ho (br_t rfl (en hK hr)))))
end S11
