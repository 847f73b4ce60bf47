theorem MRow.fr {ν ν' : gM} {p : Nat} {h : Nat → Nat} (hR : MRow ν p h) (h1 : ν' 32 5 = ν 32 5) (h2 : ν' 36 = ν 36) : MRow ν' p h := by
  unfold MRow
  rw [h1, h2]; exact hR
theorem oc_le {p : Nat} {h : Nat → Nat} (n : Nat) : oc p h n ≤ n := fb_ct_le _ n
theorem oc_yes {p : Nat} {h : Nat → Nat} {n : Nat} (c : lo p h n = n) : oc p h (n + 1) = oc p h n + 1 := by simp [oc, fb_ct_succ, c]
theorem oc_no {p : Nat} {h : Nat → Nat} {n : Nat} (c : ¬ lo p h n = n) : oc p h (n + 1) = oc p h n := by simp [oc, fb_ct_succ, c]
theorem up2_at {μ : gM} {a k : Nat} {v : Int32} {j : Nat} : up2 μ a k v a j = if j = k then v else μ a j := by simp [up2, upd]
def oI (ν ν' : gM) (p : Nat) (h : Nat → Nat) (K : Nat) : Prop := (∀ id, id ≠ 38 → ν' id = ν id) ∧ ∀ x, x < p → (lo p h x < K → ν' 38 x = nI (oc p h (lo p h x))) ∧ (K ≤ lo p h x → ν' 38 x = -9)
def oJ (ν ν' : gM) (p : Nat) (h : Nat → Nat) (K t : Nat) : Prop := (∀ id, id ≠ 38 → ν' id = ν id) ∧ (∀ x, x < p → lo p h x < K → ν' 38 x = nI (oc p h (lo p h x))) ∧ (∀ s, s < t → ν' 38 (itl p h s K) = nI (oc p h K)) ∧ ∀ x, x < p → K ≤ lo p h x → (∀ s, s < t → x ≠ itl p h s K) → ν' 38 x = -9
theorem findOrbits_ok {ν : gM} {τ : gJ} {p : Nat} {h : Nat → Nat} {Q : Int32 → gM → gJ → Prop} (hR : MRow ν p h) (hp : 0 < p) (inj : ∀ i j, i < j → j < p → ld p h i ≠ ld p h j) (hq : ∀ ν', (∀ id, id ≠ 38 → ν' id = ν id) → (∀ x, x < p → ν' 38 x = nI (oc p h (lo p h x))) → Q (nI (oc p h p)) ν' τ) : vX7_findOrbits ν τ Q := by
  have h1 := hR.1
  have h8 := hR.2.1
  have hl : ∀ x, x < p → lo p h x < p := fun x hx => lo_lt hx
  have f5 : ∀ ν' : gM, (∀ id, id ≠ 38 → ν' id = ν id) → ν' 32 5 = nI p := fun ν' hf => by rw [hf 32 (by decide)]; exact h1
  have fR : ∀ ν' : gM, (∀ id, id ≠ 38 → ν' id = ν id) → MRow ν' p h := fun ν' hf => hR.fr (by rw [hf 32 (by decide)]) (hf 36 (by decide))
  have L28 : ∀ ν', oI ν ν' p h 0 → ∃ n, vX7_findOrbits_28 Q n (nI 0) (nI 0) ν' τ := by
    intro ν0 hI0
    have key : ∃ n, ∀ ν', oI ν ν' p h 0 → vX7_findOrbits_28 Q n (nI (oc p h 0)) (nI 0) ν' τ := by
      refine ex_up (fun n K => ∀ ν', oI ν ν' p h K → vX7_findOrbits_28 Q n (nI (oc p h K)) (nI K) ν' τ) p 0 (Nat.zero_le _) (fun n ν' hI => ?_) (fun n K _ hK ih ν' hI => ?_)
      · show vX7_findOrbits_28B Q _ _ _ ν' τ
        unfold vX7_findOrbits_28B
        rw [f5 ν' hI.1]
        exact br_t (leT (Nat.le_refl _) (by omega)) (hq ν' hI.1 (fun x hx => (hI.2 x hx).1 (hl x hx)))
      · show vX7_findOrbits_28B Q _ _ _ ν' τ
        unfold vX7_findOrbits_28B
        have hoK := oc_le (p := p) (h := h) K
        have hlK := lo_self inj hK
        rw [f5 ν' hI.1]
        refine br_f (leF hK (by omega)) ⟨inI (by omega) (by omega), ?_⟩
        rw [cl (by omega), nI_1]
        by_cases c : lo p h K = K
        · rw [(hI.2 K hK).2 (by omega)]
          refine nb_t rfl ?_
          obtain ⟨cc, ⟨hc1, hc2⟩, hc3⟩ := pk_least (fun c => 0 < c ∧ itl p h c K = K) (by obtain ⟨c, a, _, b⟩ := itl_per inj hK; exact ⟨c, a, b⟩)
          have hne : ∀ s t, s < t → t < cc → itl p h t K ≠ itl p h s K := by
            intro s t h1 h2 e
            have e2 : itl p h t K = itl p h s (itl p h (t - s) K) := by rw [← itl_add]; congr 1; omega
            rw [e2] at e
            exact hc3 (t - s) (by omega) ⟨by omega, itl_can inj (itl_lt hK _) hK s e⟩
          have hloK : ∀ t, lo p h (itl p h t K) = K := fun t => by rw [lo_itl inj hK, c]
          have key2 : ∃ m, ∀ ν'', oJ ν ν'' p h K 0 → vX7_findOrbits_49 Q (vX7_findOrbits_28 Q n) m (nI (oc p h K)) (nI K) (nI (itl p h 0 K)) ν'' τ := by
            refine ex_up (fun m t => ∀ ν'', oJ ν ν'' p h K t → vX7_findOrbits_49 Q (vX7_findOrbits_28 Q n) m (nI (oc p h K)) (nI K) (nI (itl p h t K)) ν'' τ) cc 0 (Nat.zero_le _) (fun m ν'' hJ => ?_) (fun m t _ ht ih2 ν'' hJ => ?_)
            · show vX7_findOrbits_49B Q _ _ _ _ _ ν'' τ
              unfold vX7_findOrbits_49B
              rw [hc2, cl (by omega)]
              have e0 : ν'' 38 K = nI (oc p h K) := hJ.2.2.1 0 hc1
              refine ⟨inI (by omega) (by omega), ?_⟩
              rw [e0]
              refine nb_f (ne9 (by omega)) ?_
              rw [nI_1, nI_1, ← oc_yes c]
              refine ih ν'' ⟨hJ.1, fun x hx => ⟨fun z => ?_, fun z => ?_⟩⟩
              · by_cases q : lo p h x = K
                · obtain ⟨u, hu⟩ := lo_orb inj hx
                  rw [q] at hu
                  have e3 : x = itl p h (u % cc) K := by
                    have e1 : u = u % cc + cc * (u / cc) := by rw [Nat.mod_add_div]
                    calc x = itl p h (u % cc + cc * (u / cc)) K := by rw [← e1]; exact hu
                      _ = itl p h (u % cc) K := by rw [itl_add, itl_mul hc2]
                  rw [q, e3]
                  exact hJ.2.2.1 _ (Nat.mod_lt _ hc1)
                · exact hJ.2.1 x hx (by omega)
              · refine hJ.2.2.2 x hx (by omega) (fun s _ e => ?_)
                have := hloK s
                rw [← e] at this
                omega
            · show vX7_findOrbits_49B Q _ _ _ _ _ ν'' τ
              unfold vX7_findOrbits_49B
              have lt := itl_lt (h := h) hK t
              rw [cl (by omega)]
              have e0 : ν'' 38 (itl p h t K) = -9 := hJ.2.2.2 _ lt (by rw [hloK]; exact Nat.le_refl _) (fun s hs => hne s t hs ht)
              refine ⟨inI (by omega) (by omega), ?_⟩
              rw [e0]
              have hf : ∀ id, id ≠ 38 → up2 ν'' 38 (itl p h t K) (nI (oc p h K)) id = ν id := fun id hid => by rw [up2_n hid]; exact hJ.1 id hid
              refine nb_t rfl ⟨inI (by omega) (by omega), landsIn_ok (fR _ hf) lt ?_⟩
              refine ih2 _ ⟨hf, fun x hx z => ?_, fun s hs => ?_, fun x hx z hn => ?_⟩
              · rw [up2_at, if_neg (fun e => by have := hloK t; rw [← e] at this; omega)]
                exact hJ.2.1 x hx z
              · rw [up2_at]
                by_cases q : s = t
                · rw [q, if_pos rfl]
                · rw [if_neg (fun e => hne s t (by omega) ht e.symm)]
                  exact hJ.2.2.1 s (by omega)
              · rw [up2_at, if_neg (hn t (by omega))]
                exact hJ.2.2.2 x hx z (fun s hs => hn s (by omega))
          obtain ⟨m, hm⟩ := key2
          exact ⟨m, hm ν' ⟨hI.1, fun x hx z => (hI.2 x hx).1 z, fun s hs => by omega, fun x hx z _ => (hI.2 x hx).2 z⟩⟩
        · have hoL := oc_le (p := p) (h := h) (lo p h K)
          rw [(hI.2 K hK).1 (by omega)]
          refine nb_f (ne9 (by omega)) ?_
          rw [← oc_no c]
          refine ih ν' ⟨hI.1, fun x hx => ⟨fun z => (hI.2 x hx).1 ?_, fun z => (hI.2 x hx).2 (by omega)⟩⟩
          have : lo p h x ≠ K := fun e => c (by rw [← e]; exact lo_lo inj hx)
          omega
    obtain ⟨n, hn⟩ := key
    exact ⟨n, hn ν0 hI0⟩
  have key : ∃ n, ∀ ν', ((∀ id, id ≠ 38 → ν' id = ν id) ∧ ∀ x, x < 0 → ν' 38 x = -9) → vX7_findOrbits_2 Q n (nI 0) ν' τ := by
    refine ex_up (fun n k => ∀ ν', ((∀ id, id ≠ 38 → ν' id = ν id) ∧ ∀ x, x < k → ν' 38 x = -9) → vX7_findOrbits_2 Q n (nI k) ν' τ) p 0 (Nat.zero_le _) (fun n ν' hI => ?_) (fun n k _ hk ih ν' hI => ?_)
    · show vX7_findOrbits_2B Q _ _ ν' τ
      unfold vX7_findOrbits_2B
      rw [f5 ν' hI.1]
      exact br_t (leT (Nat.le_refl _) (by omega)) (L28 ν' ⟨hI.1, fun x hx => ⟨fun z => by omega, fun _ => hI.2 x hx⟩⟩)
    · show vX7_findOrbits_2B Q _ _ ν' τ
      unfold vX7_findOrbits_2B
      rw [f5 ν' hI.1]
      refine br_f (leF hk (by omega)) ⟨inI (by omega) (by omega), ?_⟩
      rw [cl (by omega), nI_1]
      refine ih _ ⟨fun id hid => by rw [up2_n hid]; exact hI.1 id hid, fun x hx => ?_⟩
      rw [up2_at]
      by_cases q : x = k
      · rw [if_pos q]
      · rw [if_neg q]; exact hI.2 x (by omega)
  obtain ⟨n, hn⟩ := key
  exact ⟨n, hn ν ⟨fun _ _ => rfl, fun x hx => by omega⟩⟩
