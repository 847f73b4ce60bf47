/-! the whole law -/
theorem rel0 : Rel gμ0 gν0 := by
  refine ⟨⟨0, fun _ => 0, ⟨rfl, by omega, fun k hk => by omega⟩, ⟨rfl, by omega, fun k hk => by omega⟩, fun _ => ⟨rfl, fun i hi => rfl⟩, fun z => by omega⟩, fun i hi => ⟨0, fun _ => 0, ⟨?_, by omega, fun k hk => by omega⟩, rfl, fun k hk => by omega⟩, ⟨2, by omega, by omega, rfl⟩, ⟨rfl, 0, by omega, rfl⟩, fun k hk => ⟨0, by omega, rfl, rfl⟩, rfl, rfl, fun k hk => Or.inl ?_⟩
  · rcases (show i = 0 ∨ i = 1 ∨ i = 2 by omega) with rfl | rfl | rfl <;> rfl
  · rcases (show k = 0 ∨ k = 1 ∨ k = 2 ∨ k = 3 by omega) with rfl | rfl | rfl | rfl <;> exact ⟨rfl, rfl⟩
theorem law_step {L : Nat} {xs : Nat → Int32} {K18 : Int32 → gM → gM → gJ → Prop} {i : Nat} {μ ν : gM} {τ : gJ} (hL : L ≤ 3584) (hi : i + 7 ≤ L) (hK : ∀ μ' ν' τ', Rel μ' ν' → K18 (nI i + 7) μ' ν' τ') (hr : Rel μ ν) : vL_18B L xs K18 (nI i) μ ν τ := by
  have hlt : ¬ (nI L - 7) < nI i := by
    rw [show (7 : Int32) = nI 7 from rfl, pk_sub (by omega)]
    exact ltF (by omega) (by omega)
  have v0 : vp_in (nI i) L := inI (by omega) (by omega)
  have v1 : vp_in (nI i + 1) L := by rw [show (1 : Int32) = nI 1 from rfl, nI_add]; exact inI (by omega) (by omega)
  have v2 : vp_in (nI i + 2) L := by rw [show (2 : Int32) = nI 2 from rfl, nI_add]; exact inI (by omega) (by omega)
  have v3 : vp_in (nI i + 3) L := by rw [show (3 : Int32) = nI 3 from rfl, nI_add]; exact inI (by omega) (by omega)
  have v4 : vp_in (nI i + 4) L := by rw [show (4 : Int32) = nI 4 from rfl, nI_add]; exact inI (by omega) (by omega)
  have v5 : vp_in (nI i + 5) L := by rw [show (5 : Int32) = nI 5 from rfl, nI_add]; exact inI (by omega) (by omega)
  have v6 : vp_in (nI i + 6) L := by rw [show (6 : Int32) = nI 6 from rfl, nI_add]; exact inI (by omega) (by omega)
  unfold vL_18B
  exact br_f hlt ⟨v0, fun _ => ⟨v1, v2, v3, v4, s_pattern (K := K18 (nI i + 7)) hK hr (fun x μ1 z => ⟨v1, v2, v3, v4, z⟩)⟩, fun _ => ⟨v1, s_throwOf (K := K18 (nI i + 7)) hK hr (fun x μ1 z => ⟨v1, z⟩)⟩, fun _ => s_clash (K := K18 (nI i + 7)) hK hr (fun x μ1 z => z), fun _ => ⟨v1, s_good (K := K18 (nI i + 7)) hK hr (fun x μ1 z => ⟨v1, z⟩)⟩, fun _ => ⟨v1, s_state (K := K18 (nI i + 7)) hK hr (fun x μ1 z => ⟨v1, z⟩)⟩, fun _ => ⟨v1, s_ball (K := K18 (nI i + 7)) hK hr (fun x μ1 z => ⟨v1, z⟩)⟩, fun _ => ⟨v1, s_orbit (K := K18 (nI i + 7)) hK hr (fun x μ1 z => ⟨v1, z⟩)⟩, fun _ => ⟨v1, s_hands (K := K18 (nI i + 7)) hK hr (fun x μ1 z => ⟨v1, z⟩)⟩, fun _ => ⟨v1, v2, s_beat (K := K18 (nI i + 7)) hK hr (fun x μ1 z => ⟨v1, v2, z⟩)⟩, fun _ => ⟨v1, v2, s_swap (K := K18 (nI i + 7)) hK hr (fun x μ1 z => ⟨v1, v2, z⟩)⟩, fun _ => ⟨v1, s_turn (K := K18 (nI i + 7)) hK hr (fun x μ1 z => ⟨v1, z⟩)⟩, fun _ => s_backward (K := K18 (nI i + 7)) hK hr (fun x μ1 z => z), fun _ => ⟨v1, s_greatest (K := K18 (nI i + 7)) hK hr (fun x μ1 z => ⟨v1, z⟩)⟩, fun _ => ⟨v1, s_keep (K := K18 (nI i + 7)) hK hr (fun x μ1 z => ⟨v1, z⟩)⟩, fun _ => ⟨v1, s_back (K := K18 (nI i + 7)) hK hr (fun x μ1 z => ⟨v1, z⟩)⟩, fun _ => ⟨v1, s_like (K := K18 (nI i + 7)) hK hr (fun x μ1 z => ⟨v1, z⟩)⟩, fun _ => ⟨v1, v2, v3, s_howMany (K := K18 (nI i + 7)) hK hr (fun x μ1 z => ⟨v1, v2, v3, z⟩)⟩, fun _ => ⟨v1, v2, v3, v4, s_way (K := K18 (nI i + 7)) hK hr (fun x μ1 z => ⟨v1, v2, v3, v4, z⟩)⟩, fun _ => ⟨v1, v2, v3, v4, v5, v6, s_filled (K := K18 (nI i + 7)) hK hr (fun x μ1 z => ⟨v1, v2, v3, v4, v5, v6, z⟩)⟩, fun _ => ⟨v1, v2, s_kind (K := K18 (nI i + 7)) hK hr (fun x μ1 z => ⟨v1, v2, z⟩)⟩, fun _ => s_broken (K := K18 (nI i + 7)) hK hr (fun x μ1 z => z), fun _ => ⟨v1, s_drop (K := K18 (nI i + 7)) hK hr (fun x μ1 z => ⟨v1, z⟩)⟩, fun _ => ⟨v1, s_empty (K := K18 (nI i + 7)) hK hr (fun x μ1 z => ⟨v1, z⟩)⟩, fun _ => ⟨v1, v2, v3, s_sheet (K := K18 (nI i + 7)) hK hr (fun x μ1 z => ⟨v1, v2, v3, z⟩)⟩, fun _ => ⟨v1, s_lose (K := K18 (nI i + 7)) hK hr (fun x μ1 z => ⟨v1, z⟩)⟩, fun _ => ⟨v1, v2, v3, s_put (K := K18 (nI i + 7)) hK hr (fun x μ1 z => ⟨v1, v2, v3, z⟩)⟩, fun _ => ⟨v1, v2, v3, s_cell (K := K18 (nI i + 7)) hK hr (fun x μ1 z => ⟨v1, v2, v3, z⟩)⟩, fun _ => ⟨v1, v2, v3, v4, v5, s_copy (K := K18 (nI i + 7)) hK hr (fun x μ1 z => ⟨v1, v2, v3, v4, v5, z⟩)⟩, fun _ => ⟨v1, s_tell (K := K18 (nI i + 7)) hK hr (fun x μ1 z => ⟨v1, z⟩)⟩, fun _ => ⟨v1, s_call (K := K18 (nI i + 7)) hK hr (fun x μ1 z => ⟨v1, z⟩)⟩, fun _ => ⟨v1, v2, s_as (K := K18 (nI i + 7)) hK hr (fun x μ1 z => ⟨v1, v2, z⟩)⟩, fun _ => s_trace (K := K18 (nI i + 7)) hK hr (fun x μ1 z => z), fun _ => s_fault (K := K18 (nI i + 7)) hK hr (fun x μ1 z => z), fun _ => ⟨v1, s_many (K := K18 (nI i + 7)) hK hr (fun x μ1 z => ⟨v1, z⟩)⟩, hK _ _ _ hr⟩
theorem law_pure {L : Nat} (hL : L ≤ 3584) (xs : Nat → Int32) : ∃ n, vL_18 L xs n 0 gμ0 gν0 gτ0 := by
  have key : ∀ d i, L ≤ i + d → i ≤ 10000 → ∃ n, ∀ μ ν τ, Rel μ ν → vL_18 L xs n (nI i) μ ν τ := by
    intro d
    induction d with
    | zero =>
      intro i h1 h2
      refine ⟨1, fun μ ν τ hr => ?_⟩
      show vL_18B L xs _ (nI i) μ ν τ
      refine br_t ?_ trivial
      rw [lt_i, sub_i (by rw [nI_int (by omega), show (7 : Int32).toInt = 7 from rfl]; omega) (by rw [nI_int (by omega), show (7 : Int32).toInt = 7 from rfl]; omega), nI_int (by omega), nI_int (by omega), show (7 : Int32).toInt = 7 from rfl]
      omega
    | succ d ih =>
      intro i h1 h2
      by_cases c : i + 7 ≤ L
      · obtain ⟨n, hn⟩ := ih (i + 7) (by omega) (by omega)
        refine ⟨n + 1, fun μ ν τ hr => ?_⟩
        show vL_18B L xs (vL_18 L xs n) (nI i) μ ν τ
        refine law_step hL c (fun μ' ν' τ' h => ?_) hr
        rw [show (7 : Int32) = nI 7 from rfl, nI_add]
        exact hn μ' ν' τ' h
      · refine ⟨1, fun μ ν τ hr => ?_⟩
        show vL_18B L xs _ (nI i) μ ν τ
        refine br_t ?_ trivial
        rw [lt_i, sub_i (by rw [nI_int (by omega), show (7 : Int32).toInt = 7 from rfl]; omega) (by rw [nI_int (by omega), show (7 : Int32).toInt = 7 from rfl]; omega), nI_int (by omega), nI_int (by omega), show (7 : Int32).toInt = 7 from rfl]
        omega
  obtain ⟨n, hn⟩ := key L 0 (by omega) (by omega)
  exact ⟨n, hn gμ0 gν0 gτ0 rel0⟩
