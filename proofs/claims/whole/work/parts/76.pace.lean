/-! paces: legs sorted by their fractions, on both sides -/
section PC
variable {d : Nat → Nat} {σ σ' : gSt} {a c i : Nat}
theorem gdv_n {x y : Nat} (hx : x < 2147483648) (h0 : 0 < y) (hy : y < 2147483648) : gdv (nI x) (nI y) = some (nI (x / y)) := by
  unfold gdv
  rw [if_neg (nI_ne0 h0 hy), pk_div hx h0 hy]
theorem grm_n {x y : Nat} (hx : x < 2147483648) (h0 : 0 < y) (hy : y < 2147483648) : grm (nI x) (nI y) = some (nI (x % y)) := by
  unfold grm
  rw [if_neg (nI_ne0 h0 hy), pk_rem hx h0 hy]
theorem sub_le0 {x y : Nat} (h : x ≤ y) (hy : y < 1073741824) : nI x - nI y ≤ 0 := by
  rw [Int32.le_iff_toInt_le, Int32.toInt_sub, nI_toInt (by omega), nI_toInt (by omega)]
  show Int.bmod _ (2 ^ 32) ≤ 0
  rw [Int.bmod_eq_of_le (by omega) (by omega)]
  omega
theorem mul_b {x y : Nat} (hx : x < 10000) (hy : y < 10000) : x * y < 100000000 := by
  have h1 : x * y ≤ 9999 * 9999 := Nat.mul_le_mul (by omega) (by omega)
  omega
/-- where a fraction goes among n sorted ones; a row with a number put in -/
def ip (A B : Nat → Nat) (t b : Nat) : Nat → Nat
  | 0 => 0
  | k + 1 => if A k * b ≤ t * B k then k + 1 else ip A B t b k
def isr (A : Nat → Nat) (p v : Nat) : Nat → Nat := fun j => if j < p then A j else if j = p then v else A (j - 1)
theorem ip_le {A B : Nat → Nat} {t b : Nat} : ∀ n, ip A B t b n ≤ n := by
  intro n
  induction n with
  | zero => exact Nat.le_refl _
  | succ n ih => rw [ip]; split <;> omega
theorem isr_all {A : Nat → Nat} {p v n j : Nat} {Q : Nat → Prop} (hp : p ≤ n) (h : ∀ j, j < n → Q (A j)) (hv : Q v) (hj : j < n + 1) : Q (isr A p v j) := by
  unfold isr
  by_cases h1 : j < p
  · rw [if_pos h1]; exact h j (by omega)
  · rw [if_neg h1]
    by_cases h2 : j = p
    · rw [if_pos h2]; exact hv
    · rw [if_neg h2]; exact h _ (by omega)
section XS
variable {A B : Nat → Nat} {t b n : Nat}
theorem X_sort76 {p : Nat} (hp : p ≤ n) (hn : n < 11) (τ : gSt) (hc : τ 17 0 6 = nI n) (h1 : ∀ j, j < p → τ 20 0 j = nI (A j) ∧ τ 21 0 j = nI (B j)) (h2 : ∀ j, p < j → j ≤ n → τ 20 0 j = nI (A (j - 1)) ∧ τ 21 0 j = nI (B (j - 1))) :
    Wp (f_X5_sortIn_76 (nI t) (nI b) (nI p) τ) (fun τ' => (∀ k i s, k ≠ 20 → k ≠ 21 → ¬ (k = 17 ∧ s = 6) → τ' k i s = τ k i s) ∧ τ' 17 0 6 = nI (n + 1) ∧ ∀ j, j ≤ n → τ' 20 0 j = nI (isr A p t j) ∧ τ' 21 0 j = nI (isr B p b j)) := by
  unfold f_X5_sortIn_76
  refine Wp.st p rfl (by omega) (by decide) ?_
  refine Wp.st p rfl (by omega) (by decide) ?_
  refine Wp.ret ⟨fun k i s q1 q2 q3 => ?_, ?_, fun j hj => ?_⟩
  · have q4 : ¬ (k = 17 ∧ i = 0 ∧ s = 6) := fun q => q3 ⟨q.1, q.2.2⟩
    simp only [gup, q1, q2, q4, false_and, if_false]
  · simp [gup, hc, nI_1]
  · rcases Nat.lt_trichotomy j p with q | q | q
    · have g := h1 j q
      simp [gup, isr, q, Nat.ne_of_lt q, g.1, g.2]
    · subst q
      simp [gup, isr]
    · have g := h2 j q hj
      have e1 : ¬ j < p := by omega
      have e2 : ¬ j = p := by omega
      simp [gup, isr, e1, e2, g.1, g.2]
theorem X_sort15 (hA : ∀ j, j < n → A j < 10000) (hB : ∀ j, j < n → B j < 10000) (ht : t < 10000) (hb : b < 10000) (hn : n < 11) : ∀ (m fuel : Nat) (τ : gSt), m ≤ n → m < fuel → τ 17 0 6 = nI n → (∀ j, j < m → τ 20 0 j = nI (A j) ∧ τ 21 0 j = nI (B j)) → (∀ j, m < j → j ≤ n → τ 20 0 j = nI (A (j - 1)) ∧ τ 21 0 j = nI (B (j - 1))) →
    Wp (f_X5_sortIn_15 (nI t) (nI b) fuel (nI m) τ) (fun τ' => (∀ k i s, k ≠ 20 → k ≠ 21 → ¬ (k = 17 ∧ s = 6) → τ' k i s = τ k i s) ∧ τ' 17 0 6 = nI (n + 1) ∧ ∀ j, j ≤ n → τ' 20 0 j = nI (isr A (ip A B t b m) t j) ∧ τ' 21 0 j = nI (isr B (ip A B t b m) b j)) := by
  intro m
  induction m with
  | zero =>
    intro fuel τ hm hf hc h1 h2
    obtain ⟨fuel, rfl⟩ : ∃ g, fuel = g + 1 := ⟨fuel - 1, by omega⟩
    rw [f_X5_sortIn_15]
    exact Wp.t (by decide) (X_sort76 hm hn τ hc h1 h2)
  | succ m ih =>
    intro fuel τ hm hf hc h1 h2
    obtain ⟨fuel, rfl⟩ : ∃ g, fuel = g + 1 := ⟨fuel - 1, by omega⟩
    have g := h1 m (by omega)
    have b1 := mul_b (hA m (by omega)) hb
    have b2 := mul_b ht (hB m (by omega))
    rw [f_X5_sortIn_15, nI_pred]
    refine Wp.f (nI_nle (by omega) (by omega)) ?_
    refine Wp.ld m rfl (by omega) (by decide) g.1 ?_
    refine Wp.ld m rfl (by omega) (by decide) g.2 ?_
    rw [nI_mul, nI_mul, ip]
    by_cases e : A m * b ≤ t * B m
    · rw [if_pos e]
      exact Wp.t (nI_le e (by omega)) (X_sort76 hm hn τ hc h1 h2)
    · rw [if_neg e]
      refine Wp.f (nI_ge (by omega) (by omega)) ?_
      refine Wp.ld m rfl (by omega) (by decide) g.1 ?_
      refine Wp.st (m + 1) rfl (by omega) (by decide) ?_
      refine Wp.ld (v := nI (B m)) m rfl (by omega) (by decide) (by simp [gup, g.2]) ?_
      refine Wp.st (m + 1) rfl (by omega) (by decide) ?_
      rw [nI_dec (by omega)]
      refine Wp.mono (ih fuel _ (by omega) (by omega) (by simp [gup, hc]) (fun j hj => ?_) (fun j hj hj2 => ?_)) (fun τ' hq => ⟨fun k i s q1 q2 q3 => (hq.1 k i s q1 q2 q3).trans (by simp only [gup, q1, q2, false_and, if_false]), hq.2⟩)
      · have g2 := h1 j (by omega)
        have e2 : ¬ j = m + 1 := by omega
        simp [gup, e2, g2.1, g2.2]
      · by_cases e3 : j = m + 1
        · subst e3
          simp [gup]
        · have g2 := h2 j (by omega) hj2
          simp [gup, e3, g2.1, g2.2]
theorem X_sortIn (hA : ∀ j, j < n → A j < 10000) (hB : ∀ j, j < n → B j < 10000) (ht : t < 10000) (hb : b < 10000) (hn : n < 11) {τ : gSt} (hc : τ 17 0 6 = nI n) (h1 : ∀ j, j < n → τ 20 0 j = nI (A j) ∧ τ 21 0 j = nI (B j)) :
    Wp (f_X5_sortIn (nI t) (nI b) τ) (fun τ' => (∀ k i s, k ≠ 20 → k ≠ 21 → ¬ (k = 17 ∧ s = 6) → τ' k i s = τ k i s) ∧ τ' 17 0 6 = nI (n + 1) ∧ ∀ j, j ≤ n → τ' 20 0 j = nI (isr A (ip A B t b n) t j) ∧ τ' 21 0 j = nI (isr B (ip A B t b n) b j)) := by
  unfold f_X5_sortIn
  rw [hc]
  refine Wp.t (by rw [i11]; exact nI_lt hn (by decide)) ?_
  exact X_sort15 hA hB ht hb hn n gFuel τ (Nat.le_refl _) (Nat.lt_trans (by omega) gFuel_ge) hc h1 (fun j h1 h2 => by omega)
/-- the reference's -/
theorem M_sort65 (hA : ∀ j, j < n → A j < 10000) (hB : ∀ j, j < n → B j < 10000) (ht : t < 10000) (hb : b < 10000) (hn : n < 11) {v1 v2 v3 v4 : Int32} {k15 : Int32 → Int32 → gSt → Option (Int32 × gSt)} {Q : Int32 × gSt → Prop} : ∀ (m fuel : Nat) (τ : gSt), m ≤ n → m < fuel → (∀ j, j < m → τ 36 0 j = nI (A j) ∧ τ 37 0 j = nI (B j)) → (∀ j, m < j → j ≤ n → τ 36 0 j = nI (A (j - 1)) ∧ τ 37 0 j = nI (B (j - 1))) →
    (∀ τ', (∀ k i s, k ≠ 36 → k ≠ 37 → τ' k i s = τ k i s) → (∀ j, j ≤ n → τ' 36 0 j = nI (isr A (ip A B t b m) t j) ∧ τ' 37 0 j = nI (isr B (ip A B t b m) b j)) → Wp (k15 (v3 + 1) (v4 + 1) τ') Q) →
    Wp (f_X12_paces_65 v1 v2 v3 v4 (nI t) (nI b) k15 fuel (nI m) τ) Q := by
  have fin : ∀ (p : Nat) (τ : gSt), p ≤ n → (∀ j, j < p → τ 36 0 j = nI (A j) ∧ τ 37 0 j = nI (B j)) → (∀ j, p < j → j ≤ n → τ 36 0 j = nI (A (j - 1)) ∧ τ 37 0 j = nI (B (j - 1))) →
      (∀ τ', (∀ k i s, k ≠ 36 → k ≠ 37 → τ' k i s = τ k i s) → (∀ j, j ≤ n → τ' 36 0 j = nI (isr A p t j) ∧ τ' 37 0 j = nI (isr B p b j)) → Wp (k15 (v3 + 1) (v4 + 1) τ') Q) →
      Wp ((gst τ 36 0 11 (nI p) (nI t)).bind fun z143 => (gst z143 37 0 11 (nI p) (nI b)).bind fun z152 => k15 (v3 + 1) (v4 + 1) z152) Q := by
    intro p τ hp h1 h2 kk
    refine Wp.st p rfl (by omega) (by decide) ?_
    refine Wp.st p rfl (by omega) (by decide) ?_
    refine kk _ (fun k i s q1 q2 => by simp only [gup, q1, q2, false_and, if_false]) (fun j hj => ?_)
    rcases Nat.lt_trichotomy j p with q | q | q
    · have g := h1 j q
      simp [gup, isr, q, Nat.ne_of_lt q, g.1, g.2]
    · subst q
      simp [gup, isr]
    · have g := h2 j q hj
      have e1 : ¬ j < p := by omega
      have e2 : ¬ j = p := by omega
      simp [gup, isr, e1, e2, g.1, g.2]
  intro m
  induction m with
  | zero =>
    intro fuel τ hm hf h1 h2 kk
    obtain ⟨fuel, rfl⟩ : ∃ g, fuel = g + 1 := ⟨fuel - 1, by omega⟩
    rw [f_X12_paces_65]
    exact Wp.t (by decide) (fin 0 τ hm h1 h2 kk)
  | succ m ih =>
    intro fuel τ hm hf h1 h2 kk
    obtain ⟨fuel, rfl⟩ : ∃ g, fuel = g + 1 := ⟨fuel - 1, by omega⟩
    have g := h1 m (by omega)
    have b1 := mul_b (hA m (by omega)) hb
    have b2 := mul_b ht (hB m (by omega))
    rw [f_X12_paces_65, nI_pred]
    refine Wp.f (nI_nle (by omega) (by omega)) ?_
    refine Wp.ld m rfl (by omega) (by decide) g.2 ?_
    refine Wp.ld m rfl (by omega) (by decide) g.1 ?_
    rw [nI_mul, nI_mul]
    rw [ip] at kk
    by_cases e : A m * b ≤ t * B m
    · rw [if_pos e] at kk
      exact Wp.t (nI_le e (by omega)) (fin (m + 1) τ hm h1 h2 kk)
    · rw [if_neg e] at kk
      refine Wp.f (nI_ge (by omega) (by omega)) ?_
      refine Wp.ld m rfl (by omega) (by decide) g.1 ?_
      refine Wp.st (m + 1) rfl (by omega) (by decide) ?_
      refine Wp.ld (v := nI (B m)) m rfl (by omega) (by decide) (by simp [gup, g.2]) ?_
      refine Wp.st (m + 1) rfl (by omega) (by decide) ?_
      rw [nI_dec (by omega)]
      refine ih fuel _ (by omega) (by omega) (fun j hj => ?_) (fun j hj hj2 => ?_) (fun τ' q1 q2 => kk τ' (fun k i s e1 e2 => (q1 k i s e1 e2).trans (by simp only [gup, e1, e2, false_and, if_false])) q2)
      · have g2 := h1 j (by omega)
        have e2 : ¬ j = m + 1 := by omega
        simp [gup, e2, g2.1, g2.2]
      · by_cases e3 : j = m + 1
        · subst e3
          simp [gup]
        · have g2 := h2 j (by omega) hj2
          simp [gup, e3, g2.1, g2.2]
end XS
/-- Euclid: two steps halve -/
theorem mod_half {x y : Nat} (hx : 0 < x) (hy : 0 < y) (hxy : y < x) {k : Nat} (h : x < 2 ^ (k + 1)) : x % y < 2 ^ k := by
  have h1 := Nat.mod_lt x hy
  have h2 := Nat.div_add_mod x y
  have h3 : 1 ≤ x / y := (Nat.one_le_div_iff hy).mpr (by omega)
  have h4 : y * 1 ≤ y * (x / y) := Nat.mul_le_mul (Nat.le_refl _) h3
  rw [Nat.pow_succ] at h
  omega
theorem X_gcd {v1 v2 : Int32} {τ : gSt} : ∀ (k x y s fuel : Nat), x < 10000 → y < 10000 → y < 2 ^ k → s + 2 * k < 64 → 2 * k < fuel → f_X5_reduce_8 v1 v2 fuel (nI x) (nI y) (nI s) τ = f_X5_reduce_39 v1 v2 (nI (Nat.gcd x y)) τ := by
  have z : ∀ (x s fuel : Nat), s < 64 → f_X5_reduce_8 v1 v2 (fuel + 1) (nI x) (nI 0) (nI s) τ = f_X5_reduce_39 v1 v2 (nI x) τ := by
    intro x s fuel hs
    rw [f_X5_reduce_8, if_neg (by rw [i64]; exact nI_ge hs (by decide)), if_pos (by decide)]
  have st : ∀ (x y s fuel : Nat), x < 10000 → 0 < y → y < 10000 → s < 64 → f_X5_reduce_8 v1 v2 (fuel + 1) (nI x) (nI y) (nI s) τ = f_X5_reduce_8 v1 v2 fuel (nI y) (nI (x % y)) (nI (s + 1)) τ := by
    intro x y s fuel hx h0 hy hs
    rw [f_X5_reduce_8, if_neg (by rw [i64]; exact nI_ge hs (by decide)), if_neg (nI_ne0 h0 (by omega)), grm_n (by omega) h0 (by omega), bind_some', nI_1]
  intro k
  induction k with
  | zero =>
    intro x y s fuel hx hy h1 h2 h3
    obtain ⟨fuel, rfl⟩ : ∃ g, fuel = g + 1 := ⟨fuel - 1, by omega⟩
    obtain rfl : y = 0 := by simpa using h1
    rw [z x s fuel (by omega), Nat.gcd_zero_right]
  | succ k ih =>
    intro x y s fuel hx hy h1 h2 h3
    obtain ⟨fuel, rfl⟩ : ∃ g, fuel = g + 1 := ⟨fuel - 1, by omega⟩
    by_cases e : y = 0
    · subst e
      rw [z x s fuel (by omega), Nat.gcd_zero_right]
    · have hy0 : 0 < y := by omega
      have l1 := Nat.mod_lt x hy0
      obtain ⟨fuel, rfl⟩ : ∃ g, fuel = g + 1 := ⟨fuel - 1, by omega⟩
      rw [st x y s (fuel + 1) hx hy0 hy (by omega)]
      have eg : Nat.gcd x y = Nat.gcd y (x % y) := by rw [Nat.gcd_comm x y, Nat.gcd_rec y x, Nat.gcd_comm]
      rw [eg]
      by_cases e2 : x % y = 0
      · rw [e2, z y (s + 1) fuel (by omega), Nat.gcd_zero_right]
      · have l2 := Nat.mod_lt y (show 0 < x % y by omega)
        rw [st y (x % y) (s + 1) fuel hy (by omega) (by omega) (by omega)]
        rw [ih (x % y) (y % (x % y)) (s + 1 + 1) fuel (by omega) (by omega) (mod_half hy0 (by omega) l1 h1) (by omega) (by omega)]
        rw [show Nat.gcd y (x % y) = Nat.gcd (x % y) (y % (x % y)) by rw [Nat.gcd_comm y (x % y), Nat.gcd_rec (x % y) y, Nat.gcd_comm]]
theorem M_gcd {τ : gSt} : ∀ (k x y fuel : Nat), x < 10000 → y < 10000 → y < 2 ^ k → 2 * k < fuel → f_X12_divisor_4 fuel (nI x) (nI y) τ = some (nI (Nat.gcd x y), τ) := by
  have z : ∀ (x fuel : Nat), f_X12_divisor_4 (fuel + 1) (nI x) (nI 0) τ = some (nI x, τ) := by
    intro x fuel
    rw [f_X12_divisor_4, if_pos (by decide)]
  have st : ∀ (x y fuel : Nat), x < 10000 → 0 < y → y < 10000 → f_X12_divisor_4 (fuel + 1) (nI x) (nI y) τ = f_X12_divisor_4 fuel (nI y) (nI (x % y)) τ := by
    intro x y fuel hx h0 hy
    rw [f_X12_divisor_4, if_neg (nI_ne0 h0 (by omega)), grm_n (by omega) h0 (by omega), bind_some']
  intro k
  induction k with
  | zero =>
    intro x y fuel hx hy h1 h3
    obtain ⟨fuel, rfl⟩ : ∃ g, fuel = g + 1 := ⟨fuel - 1, by omega⟩
    obtain rfl : y = 0 := by simpa using h1
    rw [z x fuel, Nat.gcd_zero_right]
  | succ k ih =>
    intro x y fuel hx hy h1 h3
    obtain ⟨fuel, rfl⟩ : ∃ g, fuel = g + 1 := ⟨fuel - 1, by omega⟩
    by_cases e : y = 0
    · subst e
      rw [z x fuel, Nat.gcd_zero_right]
    · have hy0 : 0 < y := by omega
      have l1 := Nat.mod_lt x hy0
      obtain ⟨fuel, rfl⟩ : ∃ g, fuel = g + 1 := ⟨fuel - 1, by omega⟩
      rw [st x y (fuel + 1) hx hy0 hy]
      have eg : Nat.gcd x y = Nat.gcd y (x % y) := by rw [Nat.gcd_comm x y, Nat.gcd_rec y x, Nat.gcd_comm]
      rw [eg]
      by_cases e2 : x % y = 0
      · rw [e2, z y fuel, Nat.gcd_zero_right]
      · have l2 := Nat.mod_lt y (show 0 < x % y by omega)
        rw [st y (x % y) fuel hy (by omega) (by omega)]
        rw [ih (x % y) (y % (x % y)) fuel (by omega) (by omega) (mod_half hy0 (by omega) l1 h1) (by omega)]
        rw [show Nat.gcd y (x % y) = Nat.gcd (x % y) (y % (x % y)) by rw [Nat.gcd_comm y (x % y), Nat.gcd_rec (x % y) y, Nat.gcd_comm]]
theorem X_reduce {x y : Nat} {τ : gSt} (hx0 : 0 < x) (hx : x < 10000) (hy : y < 10000) : f_X5_reduce (nI x) (nI y) τ = some (gup (gup τ 17 0 7 (nI (x / Nat.gcd x y))) 17 0 8 (nI (y / Nat.gcd x y))) := by
  have hg : 0 < Nat.gcd x y := Nat.gcd_pos_of_pos_left _ hx0
  have hg2 : Nat.gcd x y ≤ x := Nat.gcd_le_left _ hx0
  unfold f_X5_reduce
  rw [show (0 : Int32) = nI 0 from i0, X_gcd 14 x y 0 gFuel hx hy (by omega) (by omega) (Nat.lt_trans (by decide) gFuel_ge)]
  unfold f_X5_reduce_39
  rw [if_neg (nI_nle hg (by omega)), gdv_n (by omega) hg (by omega), bind_some', gdv_n (by omega) hg (by omega), bind_some']
theorem M_divisor {x y : Nat} {τ : gSt} (hx : x < 10000) (hy : y < 10000) : f_X12_divisor (nI x) (nI y) τ = some (nI (Nat.gcd x y), τ) := by
  unfold f_X12_divisor
  exact M_gcd 14 x y gFuel hx hy (by omega) (Nat.lt_trans (by decide) gFuel_ge)
end PC
