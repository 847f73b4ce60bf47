/-! the reference's fills -/
theorem lN_ad (a b : Nat) : lN a + lN b = lN (a + b) := by
  apply Int64.toBitVec_inj.1
  show BitVec.ofNat 64 a + BitVec.ofNat 64 b = BitVec.ofNat 64 (a + b)
  rw [BitVec.ofNat_add]
theorem uL_e {τ : gJ} {i : Nat} {v : Int64} : vp_updL τ i v i = v := if_pos rfl
theorem uL_o {τ : gJ} {i j : Nat} {v : Int64} (h : j ≠ i) : vp_updL τ i v j = τ j := if_neg h
theorem ix81 {u s : Nat} : (81 : Int32) * nI u + nI s = nI (81 * u + s) := by rw [show (81 : Int32) = nI 81 from rfl, pk_mul, nI_add]
section MC
variable {al : Nat → Nat → Bool} {n : Nat} {ν : gM} {τ : gJ}
def Eg (τ : gJ) (u : Nat) (g : Nat → Nat) : Prop := ∀ s, s ≤ 80 → τ (81 * u + s) = lN (g s)
theorem addFills_ok {u v pl t : Nat} {Q : gM → gJ → Prop} (h8 : n < 9) (hn : 0 < n) (hu : u < 2 ^ n) (hp : pcN u = pl) (hpl : pl < n) (ht : t ≤ 9) (hal : al pl t = true) (c : fre u ((pl + t) % n) = true) (hv : v = u ||| 2 ^ ((pl + t) % n)) (hT : ∀ x, u < x → x < 2 ^ n → Eg τ x (FF al n (n - pcN x) x)) (hZ : ∀ x, x < u → Eg τ x (fun _ => 0)) (hE : Eg τ u (fun s => fb_sm (tF al n (FF al n (n - (pl + 1))) pl u s) t)) (hq : ∀ τ', (∀ x, u < x → x < 2 ^ n → Eg τ' x (FF al n (n - pcN x) x)) → (∀ x, x < u → Eg τ' x (fun _ => 0)) → Eg τ' u (fun s => fb_sm (tF al n (FF al n (n - (pl + 1))) pl u s) (t + 1)) → Q ν τ') : vX7_addFills (nI u) (nI v) (nI t) ν τ Q := by
  have h256 := p2_le n h8
  have m := Nat.mod_lt (pl + t) hn
  obtain ⟨-, e2, e3, e4⟩ := Sc_all n h8 u hu _ m c
  have hterm : ∀ s, tF al n (FF al n (n - (pl + 1))) pl u s t = if t ≤ s then FF al n (n - pcN v) v (s - t) else 0 := fun s => by
    unfold tF
    rw [← hv] at e2 ⊢
    rw [e2, hp]
    by_cases z : t ≤ s
    · rw [if_pos ⟨hal, c, z⟩, if_pos z]
    · rw [if_neg (fun y => z y.2.2), if_neg z]
  rw [← hv] at e2 e3 e4
  have hTv := hT v e4 e3
  unfold vX7_addFills
  have key : ∃ m, ∀ τ', ((∀ x, ¬ (81 * u ≤ x ∧ x ≤ 81 * u + 80) → τ' x = τ x) ∧ (∀ s, s ≤ 80 → s < t → τ' (81 * u + s) = lN (fb_sm (tF al n (FF al n (n - (pl + 1))) pl u s) (t + 1))) ∧ (∀ s, s ≤ 80 → t ≤ s → τ' (81 * u + s) = τ (81 * u + s))) → vX7_addFills_3 (nI u) (nI v) (nI t) Q m (nI t) ν τ' := by
    refine ex_up (fun m q => ∀ τ', ((∀ x, ¬ (81 * u ≤ x ∧ x ≤ 81 * u + 80) → τ' x = τ x) ∧ (∀ s, s ≤ 80 → s < q → τ' (81 * u + s) = lN (fb_sm (tF al n (FF al n (n - (pl + 1))) pl u s) (t + 1))) ∧ (∀ s, s ≤ 80 → q ≤ s → τ' (81 * u + s) = τ (81 * u + s))) → vX7_addFills_3 (nI u) (nI v) (nI t) Q m (nI q) ν τ') 81 t (by omega) (fun m τ' hI => ?_) (fun m q hq1 hq2 ih τ' hI => ?_)
    · show vX7_addFills_3B _ _ _ Q _ _ ν τ'
      unfold vX7_addFills_3B
      refine br_t (ltT (a := 80) (by omega) (by omega)) (hq τ' (fun y y1 y2 s hs => ?_) (fun y y1 s hs => ?_) (fun s hs => hI.2.1 s hs (by omega)))
      · rw [hI.1 _ (by omega)]; exact hT y y1 y2 s hs
      · rw [hI.1 _ (by omega)]; exact hZ y y1 s hs
    · show vX7_addFills_3B _ _ _ Q _ _ ν τ'
      unfold vX7_addFills_3B vX7_spot
      dsimp only
      rw [pk_sub hq1, ix81, ix81, nI_1, cl (by omega), cl (by omega)]
      refine br_f (ltF (a := 80) (by omega) (by omega)) ⟨inI (by omega) (by omega), inI (by omega) (by omega), inI (by omega) (by omega), ih _ ⟨fun x hx => by rw [uL_o (by omega)]; exact hI.1 x hx, fun s hs hsq => ?_, fun s hs hsq => by rw [uL_o (by omega)]; exact hI.2.2 s hs (by omega)⟩⟩
      by_cases e : s = q
      · rw [e, uL_e, hI.2.2 q (by omega) (Nat.le_refl _), hE q (by omega), hI.1 _ (by omega), hTv (q - t) (by omega), lN_ad, fb_sm_succ, hterm, if_pos hq1]
      · rw [uL_o (by omega)]; exact hI.2.1 s hs (by omega)
  obtain ⟨m, hm⟩ := key
  refine ⟨m, hm τ ⟨fun _ _ => rfl, fun s hs hst => ?_, fun _ _ _ => rfl⟩⟩
  rw [hE s hs, fb_sm_succ, hterm, if_neg (by omega)]; rfl
theorem layFills_ok {Q : gM → gJ → Prop} (h8 : n < 9) (hn : 0 < n) (h15 : ν 32 15 = nI n) (hmay : ∀ pl t (τ : gJ) (Q : Int32 → gM → gJ → Prop), pl < n → t < 10 → Q (b01 (al pl t)) ν τ → vX7_mayThrow (nI pl) (nI t) ν τ Q) (hq : ∀ τ', (∀ u, u < 2 ^ n → Eg τ' u (FF al n (n - pcN u) u)) → Q ν τ') : vX7_layFills ν τ Q := by
  have h256 := p2_le n h8
  have h2 := p2_ge n h8 hn
  unfold vX7_layFills
  rw [h15, shl1 _ (by omega), show (1 : Int32) = nI 1 from rfl, pk_sub (by omega)]
  have key0 : ∃ m, ∀ τ', (∀ x, x < 0 → τ' x = 0) → vX7_layFills_11 Q m (nI (2 ^ n - 1)) (nI 0) ν τ' := by
    refine ex_up (fun m q => ∀ τ', (∀ x, x < q → τ' x = 0) → vX7_layFills_11 Q m (nI (2 ^ n - 1)) (nI q) ν τ') 20736 0 (by omega) (fun m τ1 hz => ?_) (fun m q _ hq1 ih τ' hz => ?_)
    · show vX7_layFills_11B Q _ _ _ ν τ1
      unfold vX7_layFills_11B vX7_spot
      refine br_t (leT (a := 20736) (by omega) (by omega)) ?_
      dsimp only
      rw [show (0 : Int32) = nI 0 from rfl, ix81, show (1 : Int32) = nI 1 from rfl, cl (by omega)]
      refine ⟨inI (by omega) (by omega), ?_⟩
      have key : ∀ k, k ≤ 2 ^ n - 1 → ∃ m, ∀ τ', ((∀ u, k ≤ u → u < 2 ^ n → Eg τ' u (FF al n (n - pcN u) u)) ∧ (∀ u, u < k → Eg τ' u (fun _ => 0))) → vX7_layFills_46 Q m (nI k - nI 1) ν τ' := by
        intro k
        induction k with
        | zero =>
          intro _
          refine ⟨1, fun τ' hI => ?_⟩
          show vX7_layFills_46B Q _ _ ν τ'
          unfold vX7_layFills_46B
          exact br_t (by decide) (hq τ' (fun u hu => hI.1 u (by omega) hu))
        | succ k ih =>
          intro hk
          obtain ⟨m, hm⟩ := ih (by omega)
          refine ⟨m + 1, fun τ' hI => ?_⟩
          obtain ⟨p1, p2⟩ := pc_full n h8 k (by omega)
          have hpl : pcN k < n := by
            have : pcN k ≠ n := fun z => by have := p2.mp z; omega
            omega
          show vX7_layFills_46B Q _ _ ν τ'
          unfold vX7_layFills_46B
          rw [pk_sub (by omega), Nat.add_sub_cancel]
          refine br_f (posF (by omega)) (size_ok (by omega) ?_)
          have key2 : ∃ q, ∀ τ', ((∀ u, k < u → u < 2 ^ n → Eg τ' u (FF al n (n - pcN u) u)) ∧ (∀ u, u < k → Eg τ' u (fun _ => 0)) ∧ Eg τ' k (fun s => fb_sm (tF al n (FF al n (n - (pcN k + 1))) (pcN k) k s) 0)) → vX7_layFills_58 Q (vX7_layFills_46 Q m) q (nI k) (nI (pcN k)) (nI 0) ν τ' := by
            refine ex_up (fun q t => ∀ τ', ((∀ u, k < u → u < 2 ^ n → Eg τ' u (FF al n (n - pcN u) u)) ∧ (∀ u, u < k → Eg τ' u (fun _ => 0)) ∧ Eg τ' k (fun s => fb_sm (tF al n (FF al n (n - (pcN k + 1))) (pcN k) k s) t)) → vX7_layFills_58 Q (vX7_layFills_46 Q m) q (nI k) (nI (pcN k)) (nI t) ν τ') 10 0 (by omega) (fun q τ' hJ => ?_) (fun q t _ ht ih2 τ' hJ => ?_)
            · show vX7_layFills_58B Q _ _ _ _ _ ν τ'
              unfold vX7_layFills_58B
              refine br_t (ltT (a := 9) (by omega) (by omega)) ?_
              rw [show nI k + -1 = nI k - nI 1 by rw [Int32.sub_eq_add_neg]; rfl]
              refine hm τ' ⟨fun u hu1 hu2 => ?_, hJ.2.1⟩
              by_cases e : u = k
              · subst e
                intro s hs
                rw [hJ.2.2 s hs, show n - pcN u = n - (pcN u + 1) + 1 by omega]
                simp only [FF]
                rw [show n - (n - (pcN u + 1) + 1) = pcN u by omega]
              · exact hJ.1 u (by omega) hu2
            · have md := Nat.mod_lt (pcN k + t) hn
              have et : nI t + nI 1 = nI (t + 1) := nI_1 t
              show vX7_layFills_58B Q _ _ _ _ _ ν τ'
              unfold vX7_layFills_58B
              rw [show (1 : Int32) = nI 1 from rfl, et, show nI 1 = (1 : Int32) from rfl, h15, nI_add, rem_nat (by omega) hn (by omega), i_fre k (by omega) _ (by omega), shl1 _ (by omega), fa_or]
              have skip : tF al n (FF al n (n - (pcN k + 1))) (pcN k) k = tF al n (FF al n (n - (pcN k + 1))) (pcN k) k := rfl
              have same : (∀ s, tF al n (FF al n (n - (pcN k + 1))) (pcN k) k s t = 0) → vX7_layFills_58 Q (vX7_layFills_46 Q m) q (nI k) (nI (pcN k)) (nI (t + 1)) ν τ' := fun z => ih2 τ' ⟨hJ.1, hJ.2.1, fun s hs => by
                refine (hJ.2.2 s hs).trans ?_
                show lN (fb_sm (tF al n (FF al n (n - (pcN k + 1))) (pcN k) k s) t) = lN (fb_sm (tF al n (FF al n (n - (pcN k + 1))) (pcN k) k s) t + tF al n (FF al n (n - (pcN k + 1))) (pcN k) k s t)
                rw [z s]; rfl⟩
              refine br_f (ltF (a := 9) (by omega) (by omega)) ⟨ne0 hn (by omega), hmay (pcN k) t τ' _ hpl ht ?_⟩
              by_cases hal : al (pcN k) t = true
              · rw [b01_t hal]
                refine br_f (by decide) ?_
                by_cases c : fre k ((pcN k + t) % n) = true
                · rw [if_pos c]
                  exact nb_t rfl (addFills_ok (al := al) h8 hn (by omega) rfl hpl (by omega) hal c rfl hJ.1 hJ.2.1 hJ.2.2 (fun τ2 f1 f2 f3 => ih2 τ2 ⟨f1, f2, f3⟩))
                · rw [if_neg c]
                  exact nb_f (p2_ne _ (by omega)) (same (fun s => if_neg (fun z => c z.2.1)))
              · rw [b01_f (Bool.eq_false_iff.mpr hal)]
                exact br_t rfl (same (fun s => if_neg (fun z => hal z.1)))
          obtain ⟨q, hq2⟩ := key2
          refine ⟨q, hq2 τ' ⟨fun u h1 h2 => hI.1 u (by omega) h2, fun u h1 => hI.2 u (by omega), fun s hs => ?_⟩⟩
          exact hI.2 k (by omega) s hs
      obtain ⟨m, hm⟩ := key (2 ^ n - 1) (Nat.le_refl _)
      refine ⟨m, hm _ ⟨fun u h1 h2 s hs => ?_, fun u h1 s hs => ?_⟩⟩
      · have e : u = 2 ^ n - 1 := by omega
        have pe := (pc_full n h8 u h2).2.mpr e
        rw [pe, Nat.sub_self]
        simp only [FF]
        by_cases w0 : s = 0
        · rw [w0, if_pos rfl, e, uL_e]; rfl
        · rw [if_neg w0, uL_o (by omega)]; exact hz _ (by omega)
      · rw [uL_o (by omega)]; exact hz _ (by omega)
    · show vX7_layFills_11B Q _ _ _ ν τ'
      unfold vX7_layFills_11B
      rw [cl (by omega), nI_1]
      refine br_f (leF (a := 20736) hq1 (by omega)) ⟨inI hq1 (by omega), ih _ (fun x hx => ?_)⟩
      by_cases e : x = q
      · rw [e, uL_e]
      · rw [uL_o e]; exact hz x (by omega)
  obtain ⟨m, hm⟩ := key0
  exact ⟨m, hm τ (fun x hx => by omega)⟩
end MC
