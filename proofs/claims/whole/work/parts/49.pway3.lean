/-! the reference's levels -/
def PB (top to u : Nat) (f : Nat → Int32) : Prop := ∀ s, s < 512 → f s = -9 ∨ ∃ n, n ≤ u ∧ f s = nI n ∧ (n = 0 → s = to) ∧ (0 < n → ∃ s2, s2 < 512 ∧ Ed top s s2 ∧ f s2 = nI (n - 1))
def PC (top u : Nat) (f : Nat → Int32) : Prop := ∀ s s2, s < 512 → s2 < 512 → Ed top s s2 → ∀ m, m < u → f s2 = nI m → ∃ n, n ≤ m + 1 ∧ f s = nI n
def PQ (ν0 : gM) (top to l k : Nat) (fl : Int32) (ν : gM) : Prop := (∀ id, id ≠ 45 → ν id = ν0 id) ∧ ν 45 to = nI 0 ∧ PB top to (l + 1) (ν 45) ∧ PC top l (ν 45) ∧ (∀ s s2, s < k → s < 512 → s2 < 512 → Ed top s s2 → ν 45 s2 = nI l → ∃ n, n ≤ l + 1 ∧ ν 45 s = nI n) ∧ ((fl = 0 ∧ ∀ s, s < 512 → ν 45 s ≠ nI (l + 1)) ∨ (fl = 1 ∧ ∃ s, s < 512 ∧ ν 45 s = nI (l + 1)))
def LQ (ν0 : gM) (top to l : Nat) (fl : Int32) (ν : gM) : Prop := (∀ id, id ≠ 45 → ν id = ν0 id) ∧ ν 45 to = nI 0 ∧ PB top to l (ν 45) ∧ PC top l (ν 45) ∧ ((fl = 0 ∧ PC top (l + 1) (ν 45)) ∨ (fl = 1 ∧ ∃ s, s < 512 ∧ ν 45 s = nI l))
section MF
variable {ν0 : gM} {top to l : Nat} {fl : Int32} {ν : gM} {τ : gJ}
theorem lq_pq (hl : l ≤ 600) (h : LQ ν0 top to l 1 ν) : PQ ν0 top to l 0 0 ν := by
  obtain ⟨a, b, c, d, -⟩ := h
  refine ⟨a, b, fun s hs => ?_, d, fun s s2 z => by omega, Or.inl ⟨rfl, fun s hs e => ?_⟩⟩
  · rcases c s hs with z | ⟨n, n1, n2⟩
    · exact Or.inl z
    · exact Or.inr ⟨n, by omega, n2⟩
  · rcases c s hs with z | ⟨n, n1, n2, -⟩
    · rw [z] at e; exact ne9 (by omega) e.symm
    · have := nIj (by omega) (by omega) (n2.symm.trans e); omega
theorem pq_lq (hl : l ≤ 600) (h : PQ ν0 top to l 512 fl ν) : LQ ν0 top to (l + 1) fl ν := by
  obtain ⟨a, b, c, d, e, f⟩ := h
  have d2 : PC top (l + 1) (ν 45) := by
    intro s s2 hs hs2 he m hm em
    by_cases w : m = l
    · rw [w] at em ⊢; exact e s s2 hs hs hs2 he em
    · exact d s s2 hs hs2 he m (by omega) em
  refine ⟨a, b, c, d2, ?_⟩
  rcases f with ⟨f1, f2⟩ | f
  · left
    refine ⟨f1, fun s s2 hs hs2 he m hm em => ?_⟩
    by_cases w : m = l + 1
    · rw [w] at em; exact absurd em (f2 s2 hs2)
    · exact d2 s s2 hs hs2 he m (by omega) em
  · exact Or.inr f
theorem lq_ft (hl : l ≤ 600) (h : LQ ν0 top to l 0 ν) : FT top to (ν 45) := by
  obtain ⟨a, b, c, d, e⟩ := h
  rcases e with ⟨-, e⟩ | ⟨e, -⟩
  · refine ⟨b, fun s hs => ?_, fun s s2 hs hs2 he m hm em => ?_⟩
    · rcases c s hs with z | ⟨n, n1, n2⟩
      · exact Or.inl z
      · exact Or.inr ⟨n, by omega, n2⟩
    · rcases c s2 hs2 with z | ⟨n, n1, n2, -⟩
      · rw [z] at em; exact absurd em.symm (ne9 (by omega))
      · have := nIj (by omega) (by omega) (n2.symm.trans em)
        exact e s s2 hs hs2 he m (by omega) em
  · exact absurd e (by decide)
theorem lq_lt (hl : l ≤ 600) (h : LQ ν0 top to l 1 ν) : l < 512 := by
  obtain ⟨a, b, c, d, e⟩ := h
  rcases e with ⟨e, -⟩ | ⟨-, e⟩
  · exact absurd e (by decide)
  · have key : ∀ d, d ≤ l → ∃ s, s < 512 ∧ ν 45 s = nI (l - d) := by
      intro d
      induction d with
      | zero => intro _; exact e
      | succ d ih =>
        intro hd
        obtain ⟨s, s1, s2⟩ := ih (by omega)
        rcases c s s1 with z | ⟨n, n1, n2, n3, n4⟩
        · rw [z] at s2; exact absurd s2.symm (ne9 (by omega))
        · have := nIj (by omega) (by omega) (n2.symm.trans s2)
          obtain ⟨x, x1, x2, x3⟩ := n4 (by omega)
          exact ⟨x, x1, by rw [x3]; exact nIe (by omega)⟩
    have key2 : ∀ j, ∃ s, j ≤ l → s < 512 ∧ ν 45 s = nI j := by
      intro j
      by_cases w : j ≤ l
      · obtain ⟨s, s1, s2⟩ := key (l - j) (by omega)
        exact ⟨s, fun _ => ⟨s1, by rw [s2]; exact nIe (by omega)⟩⟩
      · exact ⟨0, fun z => absurd z w⟩
    apply Classical.byContradiction
    intro hc
    obtain ⟨i, j, ij, jn, e⟩ := fb_twice (m := 512) (n := l + 1) (f := fun j => Classical.choose (key2 j)) (fun j hj => (Classical.choose_spec (key2 j) (by omega)).1) (by omega)
    have e1 := (Classical.choose_spec (key2 i) (by omega)).2
    have e2 := (Classical.choose_spec (key2 j) (by omega)).2
    have e3 : Classical.choose (key2 i) = Classical.choose (key2 j) := e
    rw [e3] at e1
    have := nIj (by omega) (by omega) (e1.symm.trans e2)
    omega
theorem pq_set {k t : Nat} (hl : l ≤ 600) (hk : k < 512) (ht : t < 10) (h : PQ ν0 top to l k fl ν) (hm : may k t top = true) (hg : go k t < 512) (e9 : ν 45 k = -9) (el : ν 45 (go k t) = nI l) : PQ ν0 top to l k 1 (up2 ν 45 k (nI (l + 1))) := by
  obtain ⟨a, b, c, d, e, f⟩ := h
  have n9 : ∀ {x n : Nat}, n < 100000 → ν 45 x = nI n → x ≠ k := fun hn e w => by
    rw [w, e9] at e; exact ne9 (by omega) e.symm
  refine ⟨fun id z => by rw [up2_n z]; exact a id z, by rw [u_o (n9 (by omega) b)]; exact b, fun s hs => ?_, fun s s2 hs hs2 he m hm2 em => ?_, fun s s2 sk hs hs2 he em => ?_, Or.inr ⟨rfl, k, hk, u_e⟩⟩
  · by_cases w : s = k
    · right
      refine ⟨l + 1, Nat.le_refl _, by rw [w, u_e], fun z => by omega, fun _ => ⟨go k t, hg, by rw [w]; exact ⟨t, ht, hm, rfl⟩, ?_⟩⟩
      rw [u_o (n9 (by omega) el)]; exact el
    · rw [u_o w]
      rcases c s hs with z | ⟨n, n1, n2, n3, n4⟩
      · exact Or.inl z
      · right
        refine ⟨n, n1, n2, n3, fun z => ?_⟩
        obtain ⟨x, x1, x2, x3⟩ := n4 z
        exact ⟨x, x1, x2, by rw [u_o (n9 (by omega) x3)]; exact x3⟩
  · by_cases w : s2 = k
    · rw [w, u_e] at em
      have := nIj (by omega) (by omega) em; omega
    · rw [u_o w] at em
      obtain ⟨n, n1, n2⟩ := d s s2 hs hs2 he m hm2 em
      exact ⟨n, n1, by rw [u_o (n9 (by omega) n2)]; exact n2⟩
  · by_cases w : s2 = k
    · rw [w, u_e] at em
      have := nIj (by omega) (by omega) em; omega
    · rw [u_o w] at em
      obtain ⟨n, n1, n2⟩ := e s s2 sk hs hs2 he em
      exact ⟨n, n1, by rw [u_o (n9 (by omega) n2)]; exact n2⟩
theorem pq_next {k : Nat} (h : PQ ν0 top to l k fl ν) (hk : k < 512) (hn : ν 45 k = -9 → ∀ t, t < 10 → may k t top = true → ν 45 (go k t) ≠ nI l) : PQ ν0 top to l (k + 1) fl ν := by
  obtain ⟨a, b, c, d, e, f⟩ := h
  refine ⟨a, b, c, d, fun s s2 sk hs hs2 he em => ?_, f⟩
  by_cases w : s = k
  · subst w
    rcases c s hs with z | ⟨n, n1, n2, -⟩
    · obtain ⟨t, t1, t2, t3⟩ := he
      rw [← t3] at em
      exact absurd em (hn z t t1 t2)
    · exact ⟨n, n1, n2⟩
  · exact e s s2 (by omega) hs hs2 he em
theorem findFar_ok {Q : gM → gJ → Prop} (h9 : top ≤ 9) (ht : to < 512) (hq : ∀ ν', (∀ id, id ≠ 45 → ν' id = ν id) → FT top to (ν' 45) → Q ν' τ) : vX7_findFar (nI to) (nI top) ν τ Q := by
  have key : ∃ n, ∀ ν', ((∀ id, id ≠ 45 → ν' id = ν id) ∧ ∀ j, j < 0 → ν' 45 j = if j = to then 0 else -9) → vX7_findFar_2 (nI to) (nI top) Q n (nI 0) ν' τ := by
    refine ex_up (fun n k => ∀ ν', ((∀ id, id ≠ 45 → ν' id = ν id) ∧ ∀ j, j < k → ν' 45 j = if j = to then 0 else -9) → vX7_findFar_2 (nI to) (nI top) Q n (nI k) ν' τ) 512 0 (by omega) (fun n ν1 hI => ?_) (fun n k _ hk ih ν1 hI => ?_)
    · show vX7_findFar_2B _ _ Q _ _ ν1 τ
      unfold vX7_findFar_2B
      refine br_t (leT (a := 512) (by omega) (by omega)) ?_
      have e0 : ν1 45 to = 0 := by rw [hI.2 to ht, if_pos rfl]
      have hL : LQ ν top to 0 1 ν1 := by
        refine ⟨hI.1, e0, fun s hs => ?_, fun s s2 _ _ _ m hm => by omega, Or.inr ⟨rfl, to, ht, e0⟩⟩
        by_cases w : s = to
        · right; exact ⟨0, Nat.le_refl _, by rw [w]; exact e0, fun _ => w, fun z => by omega⟩
        · left; rw [hI.2 s hs, if_neg w]
      have key2 : ∃ n, ∀ fl ν', LQ ν top to 0 fl ν' → vX7_findFar_37 (nI to) (nI top) Q n fl (nI 0) ν' τ := by
        refine ex_up (fun n l => ∀ fl ν', LQ ν top to l fl ν' → vX7_findFar_37 (nI to) (nI top) Q n fl (nI l) ν' τ) 513 0 (by omega) (fun n fl ν' hL => ?_) (fun n l _ hl ih fl ν' hL => ?_)
        · rcases hL.2.2.2.2 with ⟨rfl, -⟩ | ⟨rfl, -⟩
          · show vX7_findFar_37B _ _ Q _ _ _ ν' τ
            unfold vX7_findFar_37B
            exact br_t rfl (hq ν' hL.1 (lq_ft (by omega) hL))
          · have := lq_lt (by omega) hL; omega
        · rcases hL.2.2.2.2 with ⟨rfl, -⟩ | ⟨rfl, -⟩
          · show vX7_findFar_37B _ _ Q _ _ _ ν' τ
            unfold vX7_findFar_37B
            exact br_t rfl (hq ν' hL.1 (lq_ft (by omega) hL))
          · show vX7_findFar_37B _ _ Q _ _ _ ν' τ
            unfold vX7_findFar_37B
            refine br_f (by decide) ?_
            have key3 : ∃ n2, ∀ fl ν', PQ ν top to l 0 fl ν' → vX7_findFar_46 (nI to) (nI top) Q (vX7_findFar_37 (nI to) (nI top) Q n) n2 fl (nI l) (nI 0) ν' τ := by
              refine ex_up (fun n2 k => ∀ fl ν', PQ ν top to l k fl ν' → vX7_findFar_46 (nI to) (nI top) Q (vX7_findFar_37 (nI to) (nI top) Q n) n2 fl (nI l) (nI k) ν' τ) 512 0 (by omega) (fun n2 fl ν' hP => ?_) (fun n2 k _ hk ih2 fl ν' hP => ?_)
              · show vX7_findFar_46B _ _ Q _ _ _ _ _ ν' τ
                unfold vX7_findFar_46B
                rw [nI_1]
                exact br_t (leT (a := 512) (by omega) (by omega)) (ih fl ν' (pq_lq (by omega) hP))
              · show vX7_findFar_46B _ _ Q _ _ _ _ _ ν' τ
                unfold vX7_findFar_46B
                refine br_f (leF (a := 512) hk (by omega)) ?_
                have key4 : ∃ n3, ∀ fl ν', PQ ν top to l k fl ν' → (ν' 45 k = -9 → ∀ t, t < 0 → may k t top = true → ν' 45 (go k t) ≠ nI l) → vX7_findFar_57 (nI to) (nI top) Q (vX7_findFar_37 (nI to) (nI top) Q n) (vX7_findFar_46 (nI to) (nI top) Q (vX7_findFar_37 (nI to) (nI top) Q n) n2) n3 fl (nI l) (nI k) (nI 0) ν' τ := by
                  refine ex_up (fun n3 t => ∀ fl ν', PQ ν top to l k fl ν' → (ν' 45 k = -9 → ∀ t', t' < t → may k t' top = true → ν' 45 (go k t') ≠ nI l) → vX7_findFar_57 (nI to) (nI top) Q (vX7_findFar_37 (nI to) (nI top) Q n) (vX7_findFar_46 (nI to) (nI top) Q (vX7_findFar_37 (nI to) (nI top) Q n) n2) n3 fl (nI l) (nI k) (nI t) ν' τ) 10 0 (by omega) (fun n3 fl ν' hP hn => ?_) (fun n3 t _ ht10 ih3 fl ν' hP hn => ?_)
                  · show vX7_findFar_57B _ _ Q _ _ _ _ _ _ _ ν' τ
                    unfold vX7_findFar_57B
                    rw [nI_1]
                    exact br_t (ltT (a := 9) (by omega) (by omega)) (ih2 fl ν' (pq_next hP hk hn))
                  · have ek : nI k + 1 = nI (k + 1) := nI_1 k
                    have et : nI t + 1 = nI (t + 1) := nI_1 t
                    have el : nI l + 1 = nI (l + 1) := nI_1 l
                    show vX7_findFar_57B _ _ Q _ _ _ _ _ _ _ ν' τ
                    unfold vX7_findFar_57B
                    rw [ek, et, el, cl (by omega)]
                    refine br_f (ltF (a := 9) (by omega) (by omega)) ⟨inI hk (by omega), ?_⟩
                    by_cases e9 : ν' 45 k = -9
                    · refine nb_t e9 (mayGo_m hk ht10 h9 ?_)
                      by_cases hm : may k t top = true
                      · rw [b01_t hm]
                        have hg := go_all k hk t ht10
                        refine br_f (by decide) (goesTo_m hk ht10 ⟨inI hg (by omega), ?_⟩)
                        rw [cl (by omega)]
                        by_cases eg : ν' 45 (go k t) = nI l
                        · refine nb_t eg ⟨inI hk (by omega), ih3 1 _ (pq_set (by omega) hk ht10 hP hm hg e9 eg) (fun z => ?_)⟩
                          rw [u_e] at z
                          exact absurd z (ne9 (by omega))
                        · refine nb_f eg (ih3 fl ν' hP (fun z t' ht' hm' => ?_))
                          by_cases w : t' = t
                          · rw [w]; exact eg
                          · exact hn z t' (by omega) hm'
                      · rw [b01_f (Bool.eq_false_iff.mpr hm)]
                        refine br_t rfl (ih3 fl ν' hP (fun z t' ht' hm' => ?_))
                        by_cases w : t' = t
                        · rw [w] at hm'; exact absurd hm' hm
                        · exact hn z t' (by omega) hm'
                    · exact nb_f e9 (ih2 fl ν' (pq_next hP hk (fun z => absurd z e9)))
                obtain ⟨n3, hn3⟩ := key4
                exact ⟨n3, hn3 fl ν' hP (fun _ t z => by omega)⟩
            obtain ⟨n2, hn2⟩ := key3
            exact ⟨n2, hn2 0 ν' (lq_pq (by omega) hL)⟩
      obtain ⟨n2, hn2⟩ := key2
      exact ⟨n2, hn2 1 ν1 hL⟩
    · show vX7_findFar_2B _ _ Q _ _ ν1 τ
      unfold vX7_findFar_2B
      rw [cl (by omega), nI_1]
      refine br_f (leF (a := 512) hk (by omega)) ?_
      by_cases w : k = to
      · refine nb_t (by rw [w]) ⟨inI hk (by omega), ih _ ⟨fun id z => by rw [up2_n z]; exact hI.1 id z, fun j hj => ?_⟩⟩
        by_cases v : j = k
        · rw [v, u_e, if_pos w]
        · rw [u_o v]; exact hI.2 j (by omega)
      · refine nb_f (neF w (by omega) (by omega)) ⟨inI hk (by omega), ih _ ⟨fun id z => by rw [up2_n z]; exact hI.1 id z, fun j hj => ?_⟩⟩
        by_cases v : j = k
        · rw [v, u_e, if_neg w]
        · rw [u_o v]; exact hI.2 j (by omega)
  obtain ⟨n, hn⟩ := key
  exact ⟨n, hn _ ⟨fun _ _ => rfl, fun j hj => by omega⟩⟩
end MF
