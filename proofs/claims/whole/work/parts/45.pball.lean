/-! balls in flight -/
def stf (f : Nat → Int32) (i : Nat) (v : Int32) : Nat → Int32 := fun x => if x = i then v else f x
def bs (p : Nat) (h : Nat → Nat) : Nat → Nat × (Nat → Int32)
  | 0 => (0, fun _ => -9)
  | b + 1 => if h (b % p) = 0 then bs p h b else if (bs p h b).2 b = -9 then ((bs p h b).1 + 1, stf (stf (bs p h b).2 b (nI (bs p h b).1)) (b + h (b % p)) (nI (bs p h b).1)) else ((bs p h b).1, stf (bs p h b).2 (b + h (b % p)) ((bs p h b).2 b))
def vb (p : Nat) (h : Nat → Nat) (b : Nat) : Int32 := if (bs p h b).2 b = -9 then nI (bs p h b).1 else (bs p h b).2 b
def bl (p : Nat) (h : Nat → Nat) (b : Nat) : Int32 := if h (b % p) = 0 then -9 else vb p h b
section BS
variable {p : Nat} {h : Nat → Nat}
theorem bs_z {b : Nat} (z : h (b % p) = 0) : bs p h (b + 1) = bs p h b := by simp [bs, z]
theorem bs_n {b : Nat} (z : ¬ h (b % p) = 0) (c : (bs p h b).2 b = -9) : bs p h (b + 1) = ((bs p h b).1 + 1, stf (stf (bs p h b).2 b (nI (bs p h b).1)) (b + h (b % p)) (nI (bs p h b).1)) := by simp only [bs, if_neg z, if_pos c]
theorem bs_o {b : Nat} (z : ¬ h (b % p) = 0) (c : ¬ (bs p h b).2 b = -9) : bs p h (b + 1) = ((bs p h b).1, stf (bs p h b).2 (b + h (b % p)) ((bs p h b).2 b)) := by simp only [bs, if_neg z, if_neg c]
theorem bs_at {b : Nat} (z : ¬ h (b % p) = 0) (x : Nat) : (bs p h (b + 1)).2 x = if x = b + h (b % p) then vb p h b else if x = b then vb p h b else (bs p h b).2 x := by
  by_cases c : (bs p h b).2 b = -9
  · rw [bs_n z c]
    simp only [stf, vb, if_pos c]
  · rw [bs_o z c]
    simp only [stf, vb, if_neg c]
    by_cases e : x = b + h (b % p)
    · rw [if_pos e, if_pos e]
    · rw [if_neg e, if_neg e]
      by_cases e2 : x = b
      · rw [if_pos e2, e2]
      · rw [if_neg e2]
theorem bs_far (hh : ∀ k, h k ≤ 9) : ∀ b x, b + 9 ≤ x → (bs p h b).2 x = -9 := by
  intro b
  induction b with
  | zero => intro x _; rfl
  | succ b ih =>
    intro x hx
    by_cases z : h (b % p) = 0
    · rw [bs_z z]; exact ih x (by omega)
    · have := hh (b % p)
      rw [bs_at z, if_neg (by omega), if_neg (by omega)]; exact ih x (by omega)
theorem bs_from : ∀ b x, b ≤ x → (bs p h b).2 x ≠ -9 → ∃ c, c < b ∧ c + h (c % p) = x := by
  intro b
  induction b with
  | zero => intro x _ e; exact absurd rfl e
  | succ b ih =>
    intro x hx e
    by_cases z : h (b % p) = 0
    · rw [bs_z z] at e
      obtain ⟨c, h1, h2⟩ := ih x (by omega) e
      exact ⟨c, by omega, h2⟩
    · rw [bs_at z] at e
      by_cases q : x = b + h (b % p)
      · exact ⟨b, by omega, q.symm⟩
      · rw [if_neg q, if_neg (by omega)] at e
        obtain ⟨c, h1, h2⟩ := ih x (by omega) e
        exact ⟨c, by omega, h2⟩
theorem col (hp : 0 < p) (inj : ∀ i j, i < j → j < p → ld p h i ≠ ld p h j) {b c : Nat} (e : b + h (b % p) = c + h (c % p)) : b = c := by
  have l : ∀ x, ld p h (x % p) = (x + h (x % p)) % p := fun x => by unfold ld; rw [Nat.mod_add_mod]
  have e2 : b % p = c % p := ld_eq inj (Nat.mod_lt _ hp) (Nat.mod_lt _ hp) (by rw [l, l, e])
  rw [e2] at e; omega
theorem bs_to (hp : 0 < p) (inj : ∀ i j, i < j → j < p → ld p h i ≠ ld p h j) {c : Nat} (z : ¬ h (c % p) = 0) : ∀ b, c < b → b ≤ c + h (c % p) → (bs p h b).2 (c + h (c % p)) = vb p h c := by
  intro b
  induction b with
  | zero => intro h1; omega
  | succ b ih =>
    intro h1 h2
    by_cases q : b = c
    · rw [q, bs_at z, if_pos rfl]
    · have ih := ih (by omega) (by omega)
      by_cases z2 : h (b % p) = 0
      · rw [bs_z z2]; exact ih
      · rw [bs_at z2, if_neg (fun e => q (col hp inj e).symm), if_neg (by omega)]; exact ih
theorem bs_rest (hp : 0 < p) (inj : ∀ i j, i < j → j < p → ld p h i ≠ ld p h j) {b : Nat} (z : h (b % p) = 0) : (bs p h b).2 b = -9 := by
  apply Classical.byContradiction
  intro e
  obtain ⟨c, h1, h2⟩ := bs_from b b (Nat.le_refl _) e
  have := col hp inj (b := c) (c := b) (by omega)
  omega
theorem bs_fin (hp : 0 < p) (inj : ∀ i j, i < j → j < p → ld p h i ≠ ld p h j) {b : Nat} : ∀ n, b < n → (bs p h n).2 b = bl p h b := by
  intro n
  induction n with
  | zero => intro h; omega
  | succ n ih =>
    intro hn
    by_cases q : b = n
    · rw [← q]
      unfold bl
      by_cases z : h (b % p) = 0
      · rw [bs_z z, if_pos z]; exact bs_rest hp inj z
      · rw [if_neg z, bs_at z, if_pos rfl]
        split <;> rfl
    · by_cases z : h (n % p) = 0
      · rw [bs_z z]; exact ih (by omega)
      · rw [bs_at z, if_neg (by omega), if_neg (by omega)]; exact ih (by omega)
theorem mod_can {p x y c : Nat} (hp : 0 < p) (h8 : p ≤ 8) (hx : x < p) (hy : y < p) (e : (x + c) % p = (y + c) % p) : x = y := by
  rcases (show p = 1 ∨ p = 2 ∨ p = 3 ∨ p = 4 ∨ p = 5 ∨ p = 6 ∨ p = 7 ∨ p = 8 by omega) with rfl | rfl | rfl | rfl | rfl | rfl | rfl | rfl <;> omega
theorem mod_bk {p k b s : Nat} (hp : 0 < p) (h8 : p ≤ 8) (hs : s ≤ b) (hb : b % p = k) (e : (k + s) % p = k) : (b - s) % p = k := by
  rcases (show p = 1 ∨ p = 2 ∨ p = 3 ∨ p = 4 ∨ p = 5 ∨ p = 6 ∨ p = 7 ∨ p = 8 by omega) with rfl | rfl | rfl | rfl | rfl | rfl | rfl | rfl <;> omega
theorem bs_vals : ∀ b, (bs p h b).1 ≤ b ∧ ∀ x, (bs p h b).2 x = -9 ∨ ∃ k, k < (bs p h b).1 ∧ (bs p h b).2 x = nI k := by
  intro b
  induction b with
  | zero => exact ⟨Nat.le_refl _, fun x => Or.inl rfl⟩
  | succ b ih =>
    obtain ⟨i1, i2⟩ := ih
    by_cases z : h (b % p) = 0
    · rw [bs_z z]; exact ⟨by omega, i2⟩
    · by_cases c : (bs p h b).2 b = -9
      · rw [bs_n z c]
        refine ⟨by simp only; omega, fun x => ?_⟩
        simp only [stf]
        by_cases e1 : x = b + h (b % p)
        · rw [if_pos e1]; exact Or.inr ⟨_, Nat.lt_succ_self _, rfl⟩
        · rw [if_neg e1]
          by_cases e2 : x = b
          · rw [if_pos e2]; exact Or.inr ⟨_, Nat.lt_succ_self _, rfl⟩
          · rw [if_neg e2]
            rcases i2 x with q | ⟨k, k1, k2⟩
            · exact Or.inl q
            · exact Or.inr ⟨k, by omega, k2⟩
      · rw [bs_o z c]
        refine ⟨by simp only; omega, fun x => ?_⟩
        simp only [stf]
        by_cases e1 : x = b + h (b % p)
        · rw [if_pos e1]; exact i2 b
        · rw [if_neg e1]; exact i2 x
theorem bs_old (hp : 0 < p) (h8 : p ≤ 8) (hh : ∀ k, h k ≤ 9) (inj : ∀ i j, i < j → j < p → ld p h i ≠ ld p h j) {b : Nat} (hb : 9 ≤ b) (hc : ∀ c, c < b → (bs p h c).1 ≤ 9) (z : ¬ h (b % p) = 0) : (bs p h b).2 b ≠ -9 := by
  obtain ⟨k, hk, e⟩ := fb_onto (n := p) (f := ld p h) (fun i hi => ld_lt hp) inj (y := b % p) (Nat.mod_lt _ hp)
  have h9 := hh k
  have e1 : (b - h k) % p = k := mod_can hp h8 (Nat.mod_lt _ hp) hk (c := h k) (by rw [Nat.mod_add_mod, Nat.sub_add_cancel (by omega)]; exact e.symm)
  have hk0 : h k ≠ 0 := by
    intro q
    rw [q, Nat.sub_zero] at e1
    rw [e1] at z; exact z q
  have e2 : b = (b - h k) + h ((b - h k) % p) := by rw [e1]; omega
  have key := bs_to hp inj (c := b - h k) (by rw [e1]; exact hk0) b (by omega) (by omega)
  rw [← e2] at key
  rw [key]
  unfold vb
  have := hc (b - h k) (by omega)
  split
  · exact ne9 (by omega)
  · assumption
theorem bs_cnt (hp : 0 < p) (h8 : p ≤ 8) (hh : ∀ k, h k ≤ 9) (inj : ∀ i j, i < j → j < p → ld p h i ≠ ld p h j) : ∀ n b, b ≤ n → (bs p h b).1 ≤ 9 := by
  intro n
  induction n with
  | zero => intro b hb; rw [show b = 0 by omega]; exact Nat.zero_le _
  | succ n ih =>
    intro b hb
    by_cases q : b ≤ n
    · exact ih b q
    · rw [show b = n + 1 by omega]
      have i1 := ih n (Nat.le_refl _)
      have i2 := (bs_vals (p := p) (h := h) n).1
      by_cases z : h (n % p) = 0
      · rw [bs_z z]; exact i1
      · by_cases c : (bs p h n).2 n = -9
        · by_cases g : 9 ≤ n
          · exact absurd c (bs_old hp h8 hh inj g (fun c hc => ih c (by omega)) z)
          · rw [bs_n z c]; show (bs p h n).1 + 1 ≤ 9; omega
        · rw [bs_o z c]; exact i1
theorem vb_val (hp : 0 < p) (h8 : p ≤ 8) (hh : ∀ k, h k ≤ 9) (inj : ∀ i j, i < j → j < p → ld p h i ≠ ld p h j) (b : Nat) (z : ¬ h (b % p) = 0) : ∃ k, k < 9 ∧ vb p h b = nI k := by
  have i1 := bs_cnt hp h8 hh inj (b + 1) (b + 1) (Nat.le_refl _)
  have i2 := (bs_vals (p := p) (h := h) (b + 1)).2 b
  have e : (bs p h (b + 1)).2 b = vb p h b := by
    rw [bs_at z, if_pos rfl]
    split <;> rfl
  rw [e] at i2
  rcases i2 with q | ⟨k, k1, k2⟩
  · exfalso
    have i3 := bs_cnt hp h8 hh inj b b (Nat.le_refl _)
    unfold vb at q
    split at q
    · exact ne9 (by omega) q
    · contradiction
  · exact ⟨k, by omega, k2⟩
theorem bl_val (hp : 0 < p) (h8 : p ≤ 8) (hh : ∀ k, h k ≤ 9) (inj : ∀ i j, i < j → j < p → ld p h i ≠ ld p h j) (b : Nat) : (h (b % p) = 0 ∧ bl p h b = -9) ∨ ∃ k, k < 9 ∧ bl p h b = nI k := by
  by_cases z : h (b % p) = 0
  · left; exact ⟨z, if_pos z⟩
  · right
    obtain ⟨k, h1, h2⟩ := vb_val hp h8 hh inj b z
    exact ⟨k, h1, by unfold bl; rw [if_neg z]; exact h2⟩
theorem bl_next (hp : 0 < p) (h8 : p ≤ 8) (hh : ∀ k, h k ≤ 9) (inj : ∀ i j, i < j → j < p → ld p h i ≠ ld p h j) (b : Nat) : bl p h (b + h (b % p)) = bl p h b := by
  by_cases z : h (b % p) = 0
  · rw [z, Nat.add_zero]
  · have key := bs_to hp inj z (b + h (b % p)) (by omega) (Nat.le_refl _)
    obtain ⟨k, k1, k2⟩ := vb_val hp h8 hh inj b z
    have ne : (bs p h (b + h (b % p))).2 (b + h (b % p)) ≠ -9 := by rw [key, k2]; exact ne9 (by omega)
    have z2 : ¬ h ((b + h (b % p)) % p) = 0 := fun q => ne (bs_rest hp inj q)
    have e : bl p h (b + h (b % p)) = vb p h (b + h (b % p)) := if_neg z2
    have e3 : bl p h b = vb p h b := if_neg z
    rw [e, e3]
    show (if (bs p h (b + h (b % p))).2 (b + h (b % p)) = -9 then _ else (bs p h (b + h (b % p))).2 (b + h (b % p))) = _
    rw [if_neg ne, key]
/-- the beats that a ball takes for n throws from a beat of the pattern -/
def tms (p : Nat) (h : Nat → Nat) (k : Nat) : Nat → Nat
  | 0 => 0
  | n + 1 => tms p h k n + h (itl p h n k)
theorem tms_itl {k : Nat} (hk : k < p) : ∀ n, (k + tms p h k n) % p = itl p h n k := by
  intro n
  induction n with
  | zero => exact Nat.mod_eq_of_lt hk
  | succ n ih =>
    show (k + (tms p h k n + h (itl p h n k))) % p = ld p h (itl p h n k)
    unfold ld
    rw [← Nat.add_assoc, ← Nat.mod_add_mod, ih]
theorem tms_le (hh : ∀ k, h k ≤ 9) {k : Nat} : ∀ n, tms p h k n ≤ 9 * n := by
  intro n
  induction n with
  | zero => exact Nat.le_refl _
  | succ n ih => have := hh (itl p h n k); simp only [tms]; omega
theorem bl_tms (hp : 0 < p) (h8 : p ≤ 8) (hh : ∀ k, h k ≤ 9) (inj : ∀ i j, i < j → j < p → ld p h i ≠ ld p h j) {b k : Nat} (hb : b % p = k) : ∀ n, bl p h (b + tms p h k n) = bl p h b := by
  intro n
  induction n with
  | zero => rfl
  | succ n ih =>
    have hk : k < p := hb ▸ Nat.mod_lt _ hp
    have e : (b + tms p h k n) % p = itl p h n k := by rw [← tms_itl hk, ← hb, Nat.mod_add_mod]
    have := bl_next hp h8 hh inj (b + tms p h k n)
    rw [e, ih] at this
    show bl p h (b + (tms p h k n + h (itl p h n k))) = _
    rw [← Nat.add_assoc]; exact this
theorem bl_low (hp : 0 < p) (h8 : p ≤ 8) (hh : ∀ k, h k ≤ 9) (inj : ∀ i j, i < j → j < p → ld p h i ≠ ld p h j) : ∀ n b, b ≤ n → ¬ h (b % p) = 0 → ∃ c, c ≤ 80 ∧ c % p = b % p ∧ bl p h c = bl p h b := by
  intro n
  induction n with
  | zero => intro b hb z; exact ⟨b, by omega, rfl, rfl⟩
  | succ n ih =>
    intro b hb z
    by_cases q : b ≤ 80
    · exact ⟨b, q, rfl, rfl⟩
    · have hk := Nat.mod_lt b hp
      obtain ⟨c, c1, c2, c3⟩ := itl_per inj hk
      have t1 := tms_le (p := p) hh (k := b % p) c
      have t2 := tms_itl (h := h) hk c
      rw [c3] at t2
      have t3 : 0 < tms p h (b % p) c := by
        have : ∀ m, 0 < m → 0 < tms p h (b % p) m := by
          intro m
          induction m with
          | zero => intro w; omega
          | succ m im =>
            intro _
            simp only [tms]
            by_cases w : m = 0
            · rw [w]; show 0 < 0 + h (b % p); omega
            · have := im (by omega); omega
        exact this c c1
      have e := mod_bk hp h8 (b := b) (s := tms p h (b % p) c) (by omega) rfl t2
      have e2 := bl_tms hp h8 hh inj e c
      rw [show b - tms p h (b % p) c + tms p h (b % p) c = b by omega] at e2
      obtain ⟨d, d1, d2, d3⟩ := ih (b - tms p h (b % p) c) (by omega) (by rw [e]; exact z)
      exact ⟨d, d1, d2.trans e, d3.trans e2.symm⟩
end BS
/-! the class's flight -/
def XF (p : Nat) (h : Nat → Nat) (μ0 : gM) (b : Nat) (μ : gM) : Prop := (∀ id, id ≠ 18 → id ≠ 19 → μ id = μ0 id) ∧ μ 18 1 = nI (bs p h b).1 ∧ ∀ x, b ≤ x → x ≤ b + 9 → μ 19 (x % 10) = (bs p h b).2 x
theorem begin_ok {p : Nat} {h : Nat → Nat} {μ : gM} {Q : gM → Prop} (hq : ∀ μ', XF p h μ 0 μ' → Q μ') : vX1_begin μ Q := by
  unfold vX1_begin
  refine fill_ok (by omega) (fun μ' hf hz => hq _ ⟨fun id z1 z2 => by rw [up2_n z1]; exact hf id z2, u_e, fun x h1 h2 => ?_⟩)
  rw [up2_n (by decide)]
  exact hz _ (Nat.mod_lt _ (by omega))
theorem pass_ok {p : Nat} {h : Nat → Nat} {μ0 μ : gM} {b : Nat} {Q : Int32 → gM → Prop} (hp : 0 < p) (h8 : p ≤ 8) (hh : ∀ k, h k ≤ 9) (inj : ∀ i j, i < j → j < p → ld p h i ≠ ld p h j) (hb : b < 1000) (hX : XF p h μ0 b μ) (hq : ∀ μ', XF p h μ0 (b + 1) μ' → Q (bl p h b) μ') : vX1_pass (nI b) (nI (h (b % p))) μ Q := by
  obtain ⟨x1, x2, x3⟩ := hX
  have h9 := hh (b % p)
  unfold vX1_pass
  refine br_f (posF (by omega)) ?_
  by_cases z : h (b % p) = 0
  · refine br_f (leF (a := 1) (by omega) (by omega)) ?_
    have e : bl p h b = -9 := if_pos z
    rw [← e]
    refine hq μ ⟨x1, by rw [bs_z z]; exact x2, fun x h1 h2 => ?_⟩
    rw [bs_z z]
    by_cases q : x = b + 10
    · rw [q, show (b + 10) % 10 = b % 10 by omega, x3 b (Nat.le_refl _) (by omega), bs_rest hp inj z, bs_far hh b _ (by omega)]
    · exact x3 x (by omega) (by omega)
  · refine br_t (leT (a := 1) (by omega) (by omega)) ?_
    have e10 : ∀ n, n < 100000 → nI n - nI n / 10 * 10 = nI (n % 10) := fun n hn => by
      rw [show (10 : Int32) = nI 10 from rfl, rem_nat (by omega) (by omega) (by omega)]
    have m1 := Nat.mod_lt b (show 0 < 10 by omega)
    have m2 := Nat.mod_lt (b + h (b % p)) (show 0 < 10 by omega)
    have hbl : bl p h b = vb p h b := if_neg z
    have xb := x3 b (Nat.le_refl _) (by omega)
    have fin : ∀ μ1 v, (∀ id, id ≠ 18 → id ≠ 19 → μ1 id = μ id) → μ1 19 = μ 19 → μ1 18 1 = nI (bs p h (b + 1)).1 → v = vb p h b → vX1_pass_51 (nI b) (nI (h (b % p))) Q (nI (b % 10)) v μ1 := by
      intro μ1 v f1 f2 f3 hv
      unfold vX1_pass_51
      rw [nI_add, e10 _ (by omega), cl (by omega), cl (by omega), hv]
      refine ⟨inI m1 (by omega), inI m2 (by omega), ?_⟩
      rw [← hbl]
      refine hq _ ⟨fun id z1 z2 => by rw [up2_n z2, up2_n z2, f1 id z1 z2]; exact x1 id z1 z2, by rw [up2_n (by decide), up2_n (by decide)]; exact f3, fun x h1 h2 => ?_⟩
      rw [bs_at z, up2_at, up2_at, hbl]
      by_cases q : x = b + h (b % p)
      · rw [if_pos q, q, if_pos rfl]
      · rw [if_neg q, if_neg (show ¬ x = b by omega), if_neg (show ¬ x % 10 = (b + h (b % p)) % 10 by omega)]
        by_cases q2 : x = b + 10
        · rw [if_pos (by omega), bs_far hh b _ (by omega)]
        · rw [if_neg (by omega), f2]; exact x3 x (by omega) (by omega)
    rw [e10 _ (by omega), cl (by omega), xb]
    refine ⟨inI m1 (by omega), ?_⟩
    by_cases c : (bs p h b).2 b = -9
    · refine nb_t c (fin _ _ (fun id z1 z2 => up2_n z1) (up2_n (by decide)) ?_ ?_)
      · rw [u_e, x2, bs_n z c, nI_1]
      · rw [x2]; unfold vb; rw [if_pos c]
    · refine nb_f c (fin _ _ (fun id z1 z2 => rfl) rfl ?_ ?_)
      · rw [x2, bs_o z c]
      · unfold vb; rw [if_neg c]
/-! the reference's balls -/
theorem layBalls_ok {p : Nat} {h : Nat → Nat} {ν : gM} {τ : gJ} {Q : gM → gJ → Prop} (hR : MRow ν p h) (hp : 0 < p) (hh : ∀ k, h k ≤ 9) (inj : ∀ i j, i < j → j < p → ld p h i ≠ ld p h j) (hq : ∀ ν', (∀ id, id ≠ 39 → ν' id = ν id) → (∀ b, b < 1000 → ν' 39 b = bl p h b) → Q ν' τ) : vX7_layBalls ν τ Q := by
  obtain ⟨h1, h8, hr⟩ := hR
  have key : ∃ n, ∀ ν', ((∀ id, id ≠ 39 → ν' id = ν id) ∧ ∀ j, j < 0 → ν' 39 j = -9) → vX7_layBalls_2 Q n (nI 0) ν' τ := by
    refine ex_up (fun n k => ∀ ν', ((∀ id, id ≠ 39 → ν' id = ν id) ∧ ∀ j, j < k → ν' 39 j = -9) → vX7_layBalls_2 Q n (nI k) ν' τ) 1010 0 (by omega) (fun n ν' hI => ?_) (fun n k _ hk ih ν' hI => ?_)
    · show vX7_layBalls_2B Q _ _ ν' τ
      unfold vX7_layBalls_2B
      refine br_t (leT (a := 1010) (by omega) (by omega)) ?_
      have key2 : ∃ n, ∀ ν2, ((∀ id, id ≠ 39 → ν2 id = ν id) ∧ ∀ x, x < 1010 → ν2 39 x = (bs p h 0).2 x) → vX7_layBalls_27 Q n (nI (bs p h 0).1) (nI 0) ν2 τ := by
        refine ex_up (fun n b => ∀ ν2, ((∀ id, id ≠ 39 → ν2 id = ν id) ∧ ∀ x, x < 1010 → ν2 39 x = (bs p h b).2 x) → vX7_layBalls_27 Q n (nI (bs p h b).1) (nI b) ν2 τ) 1000 0 (by omega) (fun n ν2 hJ => ?_) (fun n b _ hb ih ν2 hJ => ?_)
        · show vX7_layBalls_27B Q _ _ _ ν2 τ
          unfold vX7_layBalls_27B
          exact br_t (ltT (a := 999) (by omega) (by omega)) (hq ν2 hJ.1 (fun b hb => by rw [hJ.2 b (by omega)]; exact bs_fin hp inj 1000 hb))
        · have hmod := Nat.mod_lt b hp
          have h9 := hh (b % p)
          show vX7_layBalls_27B Q _ _ _ ν2 τ
          unfold vX7_layBalls_27B
          rw [hJ.1 32 (by decide), h1, hJ.1 36 (by decide), rem_nat (by omega) hp (by omega), cl (by omega), cl (by omega), (hr _ hmod).2, hJ.2 b (by omega), nI_1, nI_add, cl (by omega)]
          refine br_f (ltF (a := 999) (by omega) (by omega)) ⟨ne0 hp (by omega), inI (by omega) (by omega), ?_⟩
          have vb1 : vp_in (nI b) 1010 := inI (by omega) (by omega)
          have vb2 : vp_in (nI (b + h (b % p))) 1010 := inI (by omega) (by omega)
          by_cases z : h (b % p) = 0
          · rw [bs_z z] at ih
            exact br_t (leT (b := 0) (by omega) (by omega)) (ih ν2 hJ)
          · refine br_f (leF (b := 0) (by omega) (by omega)) ⟨vb1, ?_⟩
            by_cases c : (bs p h b).2 b = -9
            · rw [bs_n z c] at ih
              refine nb_t c ⟨vb1, vb1, vb2, ?_⟩
              rw [u_e, nI_1]
              refine ih _ ⟨fun id w => by rw [up2_n w, up2_n w]; exact hJ.1 id w, fun x hx => ?_⟩
              rw [up2_at, up2_at]
              simp only [stf]
              rw [hJ.2 x hx]
            · rw [bs_o z c] at ih
              refine nb_f c ⟨vb1, vb2, ih _ ⟨fun id w => by rw [up2_n w]; exact hJ.1 id w, fun x hx => ?_⟩⟩
              rw [up2_at]
              simp only [stf]
              rw [hJ.2 x hx]
      obtain ⟨n, hn⟩ := key2
      exact ⟨n, hn _ ⟨hI.1, hI.2⟩⟩
    · show vX7_layBalls_2B Q _ _ ν' τ
      unfold vX7_layBalls_2B
      rw [cl (by omega), nI_1]
      refine br_f (leF (a := 1010) hk (by omega)) ⟨inI hk (by omega), ih _ ⟨fun id w => by rw [up2_n w]; exact hI.1 id w, fun j hj => ?_⟩⟩
      by_cases c : j = k
      · rw [c]; exact u_e
      · rw [u_o c]; exact hI.2 j (by omega)
  obtain ⟨n, hn⟩ := key
  exact ⟨n, hn _ ⟨fun _ _ => rfl, fun j hj => by omega⟩⟩
