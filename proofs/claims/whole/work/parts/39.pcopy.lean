section S4
variable {K : gM → gM → gJ → Prop} {μ ν : gM} {τ : gJ} {QX : Int32 → gM → Prop}
theorem Rel.cpy {ν' : gM} {k o n s n2 i j m : Nat} (hr : Rel μ ν) (hk : k < 4) (ho : o < 4) (g : Sh μ ν k n s) (g2 : Sh μ ν o n2 s) (h1 : i + m ≤ n) (h2 : j + m ≤ n2) (hf : ∀ id, id ≠ 35 → ν' id = ν id) (h35 : ∀ x, ν' 35 x = if 40 * o + j ≤ x ∧ x < 40 * o + j + m then ν 35 (40 * k + i + (x - (40 * o + j))) else ν 35 x) : Rel (cp2 μ (14 + k) (14 + o) i j m) ν' := by
  obtain ⟨a1, a2, a3, a4, a5, a6, a7⟩ := g
  obtain ⟨b1, b2, b3, b4, b5, b6, b7⟩ := g2
  refine hr.sht (fun id h => cp2_n (by omega)) (fun id h => hf id (by omega)) (R8.one (k := o) hr.2.2.2.2.2.2.2 (fun q hq z => ⟨cp2_n (by omega), cp2_n (by omega)⟩) (fun q hq z => ⟨by rw [hf 33 (by decide)], by rw [hf 34 (by decide)]⟩) (fun q t hq z ht => by rw [h35, if_neg (by omega)]) (Or.inr ⟨n2, s, b1, b2, by rw [cp2_n (by omega)]; exact b3, by rw [cp2_n (by omega)]; exact b4, by rw [hf 33 (by decide)]; exact b5, by rw [hf 34 (by decide)]; exact b6, fun t ht => ?_⟩))
  rw [cp2_s, h35]
  by_cases c : j ≤ t ∧ t < j + m
  · rw [pk_cpy_in c.1 c.2, if_pos (by omega), a7 (i + (t - j)) (by omega)]
    congr 1; omega
  · rw [pk_cpy_out (by omega), if_neg (by omega)]
    exact b7 t ht
theorem ix40b {k i t : Nat} : (40 : Int32) * nI k + nI i + nI t = nI (40 * k + i + t) := by rw [ix40, nI_add]
theorem mcopy_ok {k o i j m : Nat} {Q : Int32 → gM → gJ → Prop} (hk : k < 4) (ho : o < 4) (h1 : i + m ≤ 40) (h2 : j + m ≤ 40) (hq : ∀ ν', (∀ id, id ≠ 35 → ν' id = ν id) → (∀ x, ν' 35 x = if 40 * o + j ≤ x ∧ x < 40 * o + j + m then ν 35 (40 * k + i + (x - (40 * o + j))) else ν 35 x) → Q (nI m) ν' τ) : ((nI j) ≤ (nI i) → (∃ n, vX7_copy_166 (nI k) (nI i) (nI o) (nI j) (nI m) Q n 0 0 ν τ)) ∧ (¬ (nI j) ≤ (nI i) → (∃ n, vX7_copy_166 (nI k) (nI i) (nI o) (nI j) (nI m) Q n 1 0 ν τ)) := by
  refine ⟨fun c => ?_, fun c => ?_⟩
  · have c : j ≤ i := (nI_leI (by omega) (by omega)).mp c
    have key : ∃ n, ∀ ν', ((∀ id, id ≠ 35 → ν' id = ν id) ∧ ∀ x, ν' 35 x = if 40 * o + j ≤ x ∧ x < 40 * o + j + 0 then ν 35 (40 * k + i + (x - (40 * o + j))) else ν 35 x) → vX7_copy_166 (nI k) (nI i) (nI o) (nI j) (nI m) Q n 0 (nI 0) ν' τ := by
      refine ex_up (fun n q => ∀ ν', ((∀ id, id ≠ 35 → ν' id = ν id) ∧ ∀ x, ν' 35 x = if 40 * o + j ≤ x ∧ x < 40 * o + j + q then ν 35 (40 * k + i + (x - (40 * o + j))) else ν 35 x) → vX7_copy_166 (nI k) (nI i) (nI o) (nI j) (nI m) Q n 0 (nI q) ν' τ) m 0 (Nat.zero_le _) (fun n ν' hI => ?_) (fun n q _ hqm ih ν' hI => ?_)
      · show vX7_copy_166B _ _ _ _ _ _ _ _ _ ν' τ
        unfold vX7_copy_166B
        exact br_t (leT (Nat.le_refl _) (by omega)) (hq ν' hI.1 hI.2)
      · show vX7_copy_166B _ _ _ _ _ _ _ _ _ ν' τ
        unfold vX7_copy_166B vX7_copy_190
        refine br_f (leF hqm (by omega)) (br_t rfl ?_)
        rw [ix40b, ix40b, cl (by omega), cl (by omega), nI_1]
        refine ⟨inI (by omega) (by omega), inI (by omega) (by omega), ih _ ⟨fun id hid => by rw [up2_n hid]; exact hI.1 id hid, fun x => ?_⟩⟩
        rw [up2_at]
        by_cases e : x = 40 * o + j + q
        · rw [if_pos e, if_pos (by omega), hI.2, if_neg (by omega)]
          congr 1; omega
        · rw [if_neg e, hI.2]
          by_cases e2 : 40 * o + j ≤ x ∧ x < 40 * o + j + q
          · rw [if_pos e2, if_pos (by omega)]
          · rw [if_neg e2, if_neg (by omega)]
    obtain ⟨n, hn⟩ := key
    exact ⟨n, hn ν ⟨fun _ _ => rfl, fun x => by rw [if_neg (by omega)]⟩⟩
  · have c : ¬ j ≤ i := fun z => c ((nI_leI (by omega) (by omega)).mpr z)
    have key : ∃ n, ∀ ν', ((∀ id, id ≠ 35 → ν' id = ν id) ∧ ∀ x, ν' 35 x = if 40 * o + j + m - 0 ≤ x ∧ x < 40 * o + j + m then ν 35 (40 * k + i + (x - (40 * o + j))) else ν 35 x) → vX7_copy_166 (nI k) (nI i) (nI o) (nI j) (nI m) Q n 1 (nI 0) ν' τ := by
      refine ex_up (fun n q => ∀ ν', ((∀ id, id ≠ 35 → ν' id = ν id) ∧ ∀ x, ν' 35 x = if 40 * o + j + m - q ≤ x ∧ x < 40 * o + j + m then ν 35 (40 * k + i + (x - (40 * o + j))) else ν 35 x) → vX7_copy_166 (nI k) (nI i) (nI o) (nI j) (nI m) Q n 1 (nI q) ν' τ) m 0 (Nat.zero_le _) (fun n ν' hI => ?_) (fun n q _ hqm ih ν' hI => ?_)
      · show vX7_copy_166B _ _ _ _ _ _ _ _ _ ν' τ
        unfold vX7_copy_166B
        refine br_t (leT (Nat.le_refl _) (by omega)) (hq ν' hI.1 (fun x => ?_))
        rw [hI.2, show 40 * o + j + m - m = 40 * o + j by omega]
      · show vX7_copy_166B _ _ _ _ _ _ _ _ _ ν' τ
        unfold vX7_copy_166B vX7_copy_190
        refine br_f (leF hqm (by omega)) (br_f (by decide) ?_)
        rw [show nI m - 1 - nI q = nI (m - 1 - q) by rw [show (1 : Int32) = nI 1 from rfl, pk_sub (by omega), pk_sub (by omega)], ix40b, ix40b, cl (by omega), cl (by omega), nI_1]
        refine ⟨inI (by omega) (by omega), inI (by omega) (by omega), ih _ ⟨fun id hid => by rw [up2_n hid]; exact hI.1 id hid, fun x => ?_⟩⟩
        rw [up2_at]
        by_cases e : x = 40 * o + j + (m - 1 - q)
        · rw [if_pos e, if_pos (by omega), hI.2, if_neg (by omega)]
          congr 1; omega
        · rw [if_neg e, hI.2]
          by_cases e2 : 40 * o + j + m - q ≤ x ∧ x < 40 * o + j + m
          · rw [if_pos e2, if_pos (by omega)]
          · rw [if_neg e2, if_neg (by omega)]
    obtain ⟨n, hn⟩ := key
    exact ⟨n, hn ν ⟨fun _ _ => rfl, fun x => by rw [if_neg (by omega)]⟩⟩
theorem s_copy {a b d e f : Int32} (hK : ∀ μ' ν' τ', Rel μ' ν' → K μ' ν' τ') (hr : Rel μ ν) (hQ : ∀ x μ1, vX7_copy a b d e f ν τ (En K x μ1) → QX x μ1) : vX6_copy a b d e f μ QX := by
  have hr0 := hr.flt 0
  unfold vX6_copy vX6_isSheet
  unfold vX7_copy vX7_isSheet at hQ
  generalize up2 μ 31 10 0 = μ0 at *
  generalize up2 ν 32 0 0 = ν0 at *
  rcases wi_cases a 0 3 (by omega) with ⟨k, -, hk, rfl⟩ | ho
  · have hin : vp_in (nI k) 4 := inI (by omega) (by omega)
    refine xw_in (l := 0) (u := 3) (by omega) hk (by omega) ⟨nar1, br_f (by decide) ?_⟩
    rcases wi_cases d 0 3 (by omega) with ⟨o, -, ho, rfl⟩ | hoo
    · have hin2 : vp_in (nI o) 4 := inI (by omega) (by omega)
      refine xw_in (l := 0) (u := 3) (by omega) ho (by omega) ⟨nar1, nb_f (by decide) ⟨hin, hin2, ?_⟩⟩
      have hM : ∀ x μ1, _ := fun x μ1 z => hQ x μ1 (mw_in (l := 0) (u := 3) (by omega) hk (by omega) ⟨nar1, br_f (by decide) (mw_in (l := 0) (u := 3) (by omega) ho (by omega) ⟨nar1, nb_f (by decide) ⟨hin, z⟩⟩)⟩)
      have ck : (nI k).toNatClampNeg = k := cl (by omega)
      have co : (nI o).toNatClampNeg = o := cl (by omega)
      simp only [ck, co] at hM ⊢
      rcases hr0.2.2.2.2.2.2.2 k (by omega) with ⟨e1, e2⟩ | ⟨n, s, g⟩
      · unfold vX4_isThere vX6_faulted
        rw [e1]
        refine br_t rfl (br_t rfl (hM _ _ ?_))
        rw [e2]
        exact br_t rfl (en hK (hr0.flt 1))
      · have g := g
        obtain ⟨g1, g2, g3, g4, g5, g6, g7⟩ := id g
        have t9 : ¬ nI s = (-9) := ne9 (by omega)
        unfold vX4_isThere
        rw [g3]
        refine br_f (m1_ne (by omega)) (br_f (by decide) ?_)
        rcases hr0.2.2.2.2.2.2.2 o (by omega) with ⟨e1, e2⟩ | ⟨n2, s2, w⟩
        · rw [e1]
          unfold vX6_faulted
          refine br_t rfl (nb_t rfl (hM _ _ ?_))
          rw [g5, e2]
          exact br_f t9 ⟨hin2, nb_t rfl (en hK (hr0.flt 1))⟩
        · have w := w
          obtain ⟨w1, w2, w3, w4, w5, w6, w7⟩ := id w
          have t92 : ¬ nI s2 = (-9) := ne9 (by omega)
          rw [w3]
          refine br_f (m1_ne (by omega)) (nb_f (by decide) ?_)
          rw [g4, w4]
          by_cases cs : s = s2
          · subst cs
            refine br_t rfl ?_
            have hM2 : ∀ x μ1, _ := fun x μ1 z => hM x μ1 (br_f (by rw [g5]; exact t9) ⟨hin2, nb_f (by rw [w5]; exact t92) ⟨hin, hin2, br_t (by rw [g5, w5]) z⟩⟩)
            have z0 : (0 : Int32).toInt = 0 := rfl
            have en' : (nI n).toInt = (n : Int) := nI_int (by omega)
            have en2 : (nI n2).toInt = (n2 : Int) := nI_int (by omega)
            by_cases bad : f.toInt < 0 ∨ (b.toInt < 0 ∨ (n : Int) < b.toInt + f.toInt ∨ (n : Int) < b.toInt) ∨ (e.toInt < 0 ∨ (n2 : Int) < e.toInt + f.toInt ∨ (n2 : Int) < e.toInt)
            · have hbadM : ∀ x μ1, vX7_copy_109 (nI k) b (nI o) e f (En K x μ1) ν0 τ → _ → QX x μ1 := fun x μ1 z9 (z10 : True) => hM2 x μ1 (by
                have fin9 : vX7_fails 3 ν0 τ (fun x1238 ν1239 τ1240 => En K x μ1 x1238 ν1239 τ1240) := by
                  have := z9
                  unfold vX7_copy_109 vX7_copy_110 at this
                  exact this.1 rfl
                by_cases c1 : b.toInt < 0
                · exact br_t (lt_i.mpr c1) z9
                · refine br_f (fun z => c1 (lt_i.mp z)) ?_
                  by_cases c2 : e.toInt < 0
                  · exact br_t (lt_i.mpr c2) z9
                  · refine br_f (fun z => c2 (lt_i.mp z)) ?_
                    by_cases c3 : f.toInt < 0
                    · exact br_t (lt_i.mpr c3) z9
                    · refine br_f (fun z => c3 (lt_i.mp z)) ⟨hin, ?_⟩
                      rw [g6]
                      by_cases c4 : (n : Int) < b.toInt
                      · exact br_t (lt_i.mpr (by rw [en']; exact c4)) z9
                      · refine br_f (fun z => c4 (by rw [lt_i, en'] at z; exact z)) ⟨hin2, ?_⟩
                        rw [w6]
                        by_cases c5 : (n2 : Int) < e.toInt
                        · exact br_t (lt_i.mpr (by rw [en2]; exact c5)) z9
                        · refine br_f (fun z => c5 (by rw [lt_i, en2] at z; exact z)) ?_
                          unfold vX7_copy_110
                          rw [ck, co, g6, w6]
                          refine br_f (by decide) ⟨hin, ?_⟩
                          have eb : (nI n - b).toInt = (n : Int) - b.toInt := by rw [sub_i (by rw [en']; omega) (by rw [en']; omega), en']
                          have ee : (nI n2 - e).toInt = (n2 : Int) - e.toInt := by rw [sub_i (by rw [en2]; omega) (by rw [en2]; omega), en2]
                          by_cases c6 : (n : Int) - b.toInt < f.toInt
                          · exact br_t (lt_i.mpr (by rw [eb]; exact c6)) fin9
                          · refine br_f (fun z => c6 (by rw [lt_i, eb] at z; exact z)) ⟨hin2, br_f (fun z => ?_) fin9⟩
                            rw [le_i, ee] at z
                            omega)
              have hend : ∀ μ1, μ1 = μ0 → QX (-10 - 3) (up2 μ1 31 10 3) := fun μ1 e9 => by
                rw [e9]
                refine hbadM _ _ ?_ trivial
                unfold vX7_copy_109 vX7_copy_110 vX7_fails
                exact br_t rfl (en hK (hr0.flt 3))
              unfold vX6_faulted
              by_cases c3 : f.toInt < 0
              · exact br_t (lt_i.mpr c3) (hend _ rfl)
              · refine br_f (fun z => c3 (lt_i.mp z)) ?_
                by_cases c7 : b.toInt < 0 ∨ (n : Int) < b.toInt + f.toInt ∨ (n : Int) < b.toInt
                · exact holds_out g3 g1 c7 (br_t rfl (hend _ rfl))
                · obtain ⟨bi, hbi⟩ : ∃ bi : Nat, b = nI bi ∧ bi < 1000 := ⟨b.toInt.toNat, tI (by rw [nI_int (by omega)]; omega), by omega⟩
                  obtain ⟨fi, hfi⟩ : ∃ fi : Nat, f = nI fi ∧ fi < 1000 := ⟨f.toInt.toNat, tI (by rw [nI_int (by omega)]; omega), by omega⟩
                  have e1 : b.toInt = (bi : Int) := by rw [hbi.1, nI_int (by omega)]
                  have e2 : f.toInt = (fi : Int) := by rw [hfi.1, nI_int (by omega)]
                  have hd : vX4_holds k b f μ0 (fun x636 μ637 => (x636 = 0 → QX (-10 - 3) (up2 μ637 31 10 3)) ∧ (¬ x636 = 0 → (vX4_holds o e f μ637 (fun x641 μ642 => (¬ x641 = 0 → ((¬ b < 0 ∧ ¬ e < 0 ∧ ¬ f < 0 ∧ b.toNatClampNeg + f.toNatClampNeg ≤ 40 ∧ e.toNatClampNeg + f.toNatClampNeg ≤ 40) ∧ QX f (cp2 μ642 (14 + k) (14 + o) b.toNatClampNeg e.toNatClampNeg f.toNatClampNeg))) ∧ (x641 = 0 → QX (-10 - 3) (up2 μ642 31 10 3)))))) := by
                    have hd2 : vX4_holds o e f μ0 (fun x641 μ642 => (¬ x641 = 0 → ((¬ b < 0 ∧ ¬ e < 0 ∧ ¬ f < 0 ∧ b.toNatClampNeg + f.toNatClampNeg ≤ 40 ∧ e.toNatClampNeg + f.toNatClampNeg ≤ 40) ∧ QX f (cp2 μ642 (14 + k) (14 + o) b.toNatClampNeg e.toNatClampNeg f.toNatClampNeg))) ∧ (x641 = 0 → QX (-10 - 3) (up2 μ642 31 10 3))) := holds_out w3 w1 (by omega) (nb_t rfl (hend _ rfl))
                    rw [hbi.1, hfi.1] at hd2 ⊢
                    exact holds_in g3 g1 (by omega) (br_f (by decide) hd2)
                  exact hd
            · obtain ⟨bi, rfl, hb9⟩ : ∃ bi : Nat, b = nI bi ∧ bi < 1000 := ⟨b.toInt.toNat, tI (by rw [nI_int (by omega)]; omega), by omega⟩
              obtain ⟨fi, rfl, hf9⟩ : ∃ fi : Nat, f = nI fi ∧ fi < 1000 := ⟨f.toInt.toNat, tI (by rw [nI_int (by omega)]; omega), by omega⟩
              obtain ⟨ei, rfl, he9⟩ : ∃ ei : Nat, e = nI ei ∧ ei < 1000 := ⟨e.toInt.toNat, tI (by rw [nI_int (by omega)]; omega), by omega⟩
              rw [nI_int (by omega), nI_int (by omega), nI_int (by omega)] at bad
              refine br_f (posF (by omega)) (holds_in g3 g1 (by omega) (br_f (by decide) (holds_in w3 w1 (by omega) (nb_f (by decide) ⟨⟨posF (by omega), posF (by omega), posF (by omega), by rw [cl (by omega), cl (by omega)]; omega, by rw [cl (by omega), cl (by omega)]; omega⟩, ?_⟩))))
              rw [cl (by omega), cl (by omega), cl (by omega)]
              refine hM2 _ _ (br_f (posF (by omega)) (br_f (posF (by omega)) (br_f (posF (by omega)) ⟨hin, ?_⟩)))
              rw [g6]
              refine br_f (ltF (by omega) (by omega)) ⟨hin2, ?_⟩
              rw [w6]
              refine br_f (ltF (by omega) (by omega)) ?_
              unfold vX7_copy_110
              rw [ck, co, g6, w6, pk_sub (by omega), pk_sub (by omega)]
              exact br_f (by decide) ⟨hin, br_f (ltF (by omega) (by omega)) ⟨hin2, br_t (leT (by omega) (by omega)) (mcopy_ok (by omega) (by omega) (by omega) (by omega) (fun ν' hf h35 => en hK (hr0.cpy (by omega) (by omega) g w (by omega) (by omega) hf h35)))⟩⟩
          · have cs2 : ¬ nI s = nI s2 := neF cs (by omega) (by omega)
            unfold vX6_faulted
            refine br_f cs2 (hM _ _ ?_)
            rw [g5, w5]
            exact br_f t9 ⟨hin2, nb_f t92 ⟨hin, hin2, br_f cs2 (en hK (hr0.flt 2))⟩⟩
    · exact xw_out (l := 0) (u := 3) (by omega) (by omega) hoo ⟨nar0, nb_t rfl (hQ _ _ (mw_in (l := 0) (u := 3) (by omega) hk (by omega) ⟨nar1, br_f (by decide) (mw_out (l := 0) (u := 3) (by omega) (by omega) hoo ⟨nar0, nb_t rfl (en hK hr0)⟩)⟩))⟩
  · exact xw_out (l := 0) (u := 3) (by omega) (by omega) ho ⟨nar0, br_t rfl (hQ _ _ (mw_out (l := 0) (u := 3) (by omega) (by omega) ho ⟨nar0, br_t rfl (en hK hr0)⟩))⟩
end S4
