/-! the reference's first filling -/
section G3
variable {al : Nat → Nat → Bool} {n b : Nat} {μ ν : gM} {τ : gJ}
theorem lg_pos {c : Nat} (h : 0 < c) (hc : c < 1000000000) : ¬ lg_cmp (lN c) 0 ≤ 0 := fun z => by
  have := (lg_cmp_le _ _).mp z
  have := (lN_le (b := 0) (by omega) (by omega)).mp this
  omega
theorem firstFill_ok {v : Nat} {Q : Int64 → gM → gJ → Prop} (h8 : n < 9) (hn : 0 < n) (hb : b ≤ 9) (hv : v < n) (h15 : ν 32 15 = nI n) (hmay : ∀ pl t (τ : gJ) (Q : Int32 → gM → gJ → Prop), pl < n → t < 10 → Q (b01 (al pl t)) ν τ → vX7_mayThrow (nI pl) (nI t) ν τ Q) (hE : ∀ u, u < 2 ^ n → Eg τ u (FF al n (n - pcN u) u)) (h0 : 0 < CC al n n 0 b) (hq : Q (nI (ga al n b (v + 1))).toInt64 ν τ) : vX7_firstFill (nI (n * b)) (nI v) ν τ Q := by
  have hG := GI_all h8 hn hb h0
  have h256 := p2_le n h8
  unfold vX7_firstFill
  refine ex_up (fun m k => vX7_firstFill_11 (nI (n * b)) (nI v) Q m (nI (gq al n b k).1) (nI (gq al n b k).2.2) (nI (ga al n b k)) (nI k) ν τ) (v + 1) 0 (by omega) (fun m => ?_) (fun m k _ hk ih => ?_)
  · show vX7_firstFill_11B _ _ Q _ _ _ _ _ ν τ
    unfold vX7_firstFill_11B
    exact br_t (ltT (by omega) (by omega)) hq
  · have G := hG k (by omega)
    obtain ⟨g1, g2, g3, g4, g5⟩ := GI_next h8 hn (by omega) G
    obtain ⟨f1, f2, f3⟩ := gt_ok (show k < n by omega) G.2.2.2.2.2
    have ih : vX7_firstFill_11 (nI (n * b)) (nI v) Q m (nI ((gq al n b k).1 ||| 2 ^ ((k + gt al n k (gq al n b k).1 (gq al n b k).2.1) % n))) (nI ((gq al n b k).2.2 - gt al n k (gq al n b k).1 (gq al n b k).2.1)) (nI (gt al n k (gq al n b k).1 (gq al n b k).2.1)) (nI (k + 1)) ν τ := ih
    show vX7_firstFill_11B _ _ Q _ _ _ _ _ ν τ
    unfold vX7_firstFill_11B
    refine br_f (ltF (by omega) (by omega)) ?_
    generalize gt al n k (gq al n b k).1 (gq al n b k).2.1 = t0 at *
    generalize (gq al n b k).1 = u at *
    generalize (gq al n b k).2.1 = w at *
    generalize (gq al n b k).2.2 = s at *
    obtain ⟨u1, u2, u3, u4, u5, u6⟩ := G
    have ev : ∀ t, t < 10 → ∀ Q2 : Int32 → gM → gJ → Prop, (tC al n (CC al n (n - (k + 1))) k u w t = 0 → Q2 0 ν τ) → (0 < tC al n (CC al n (n - (k + 1))) k u w t → Q2 1 ν τ) → vX7_leadsOn (nI u) (nI s) (nI k) (nI t) ν τ Q2 := by
      intro t t9 Q2 q0 q1
      have m2 := Nat.mod_lt (k + t) hn
      have etc := CF_t (al := al) h8 hn k u w s t (by omega) u1 u2 u5
      rw [← etc] at q0 q1
      unfold vX7_leadsOn vX7_spot
      dsimp only
      rw [h15, nI_add, rem_nat (by omega) hn (by omega), i_fre u (by omega) _ (by omega), shl1 _ (by omega), fa_or]
      refine ⟨ne0 hn (by omega), hmay k t τ _ (by omega) t9 ?_⟩
      by_cases hal : al k t = true
      · rw [b01_t hal]
        refine br_f (by decide) ?_
        by_cases c : fre u ((k + t) % n) = true
        · obtain ⟨-, e2, e3, -⟩ := Sc_all n h8 u u1 _ m2 c
          rw [if_pos c]
          refine nb_t rfl ?_
          by_cases c3 : t ≤ s
          · have ec : tF al n (FF al n (n - (k + 1))) k u s t = FF al n (n - (k + 1)) (u ||| 2 ^ ((k + t) % n)) (s - t) := if_pos ⟨hal, c, c3⟩
            have hx := hE _ e3 (s - t) (by omega)
            rw [e2, u2, ← ec] at hx
            have cle : tF al n (FF al n (n - (k + 1))) k u s t ≤ 100000000 := by
              rw [etc]
              unfold tC
              split
              · exact Nat.le_trans (CC_le _ _ _) (ten8 (by omega))
              · omega
            generalize tF al n (FF al n (n - (k + 1))) k u s t = C at *
            generalize u ||| 2 ^ ((k + t) % n) = y at *
            rw [pk_sub c3, ix81, cl (by omega), hx]
            refine br_f (ltF c3 (by omega)) ⟨inI (by omega) (by omega), ?_⟩
            by_cases z : C = 0
            · exact br_t (by rw [z, lg_0]; decide) (q0 z)
            · exact br_f (lg_pos (by omega) (by omega)) (q1 (by omega))
          · exact br_t (ltT (by omega) (by omega)) (q0 (if_neg (fun z => c3 z.2.2)))
        · rw [if_neg c]
          exact nb_f (p2_ne _ (by omega)) (q0 (if_neg (fun z => c z.2.1)))
      · rw [b01_f (Bool.eq_false_iff.mpr hal)]
        exact br_t rfl (q0 (if_neg (fun z => hal z.1)))
    have key : ∀ d t, t + d = t0 → ∃ q, vX7_firstFill_20 (nI (n * b)) (nI v) Q (vX7_firstFill_11 (nI (n * b)) (nI v) Q m) q (nI u) (nI s) (nI t) (nI k) ν τ := by
      intro d
      induction d with
      | zero =>
        intro t et
        have et : t = t0 := by omega
        refine ⟨1, ?_⟩
        rw [et]
        show vX7_firstFill_20B _ _ Q _ _ _ _ _ _ ν τ
        unfold vX7_firstFill_20B
        refine ev t0 f1 _ (fun z => by omega) (fun _ => nb_f (by decide) ?_)
        have m2 := Nat.mod_lt (k + t0) hn
        have ek : nI k + 1 = nI (k + 1) := nI_1 k
        rw [h15, ek, nI_add, rem_nat (by omega) hn (by omega), shl1 _ (by omega), fa_or, pk_sub g4]
        exact ⟨ne0 hn (by omega), ih⟩
      | succ d ihd =>
        intro t et
        obtain ⟨q, hq2⟩ := ihd (t + 1) (by omega)
        refine ⟨q + 1, ?_⟩
        show vX7_firstFill_20B _ _ Q _ _ _ _ _ _ ν τ
        unfold vX7_firstFill_20B
        have et2 : nI t + 1 = nI (t + 1) := nI_1 t
        rw [et2]
        exact ev t (by omega) _ (fun _ => nb_t rfl hq2) (fun z => by have := f3 t (by omega); omega)
    exact key t0 0 (by omega)
end G3
