theorem law_pure {L : Nat} (hL : L ≤ 3584) (xs : Nat → Int32) : ∃ n, vL_18 L xs n 0 gμ0 gν0 gτ0 := sorry
