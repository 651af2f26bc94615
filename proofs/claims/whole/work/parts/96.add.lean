/-! add, drop -/
def adM (d : Nat → Nat) (a k c t : Nat) : Nat → Nat := fun q =>
  if q = 67 + a then d (67 + a) + 1
  else if q = 77 + 16 * a + k then c
  else if q = 237 + 16 * a + k then t
  else if 77 + 16 * a + k < q ∧ q ≤ 77 + 16 * a + d (67 + a) then d (q - 1)
  else if 237 + 16 * a + k < q ∧ q ≤ 237 + 16 * a + d (67 + a) then d (q - 1)
  else d q
def drM (d : Nat → Nat) (a k : Nat) : Nat → Nat := fun q =>
  if q = 67 + a then d (67 + a) - 1
  else if 77 + 16 * a + k ≤ q ∧ q < 77 + 16 * a + (d (67 + a) - 1) then d (q + 1)
  else if 237 + 16 * a + k ≤ q ∧ q < 237 + 16 * a + (d (67 + a) - 1) then d (q + 1)
  else d q
section A4
variable {d e : Nat → Nat} {σ τ τ' : gSt} {m a b c i k t v z : Nat}
theorem adM_o {q : Nat} (h1 : q ≠ 67 + a) (h2 : ¬ (77 + 16 * a + k ≤ q ∧ q ≤ 77 + 16 * a + d (67 + a))) (h3 : ¬ (237 + 16 * a + k ≤ q ∧ q ≤ 237 + 16 * a + d (67 + a))) (hk : k ≤ d (67 + a)) : adM d a k c t q = d q := by
  unfold adM
  rw [if_neg h1, if_neg (by omega), if_neg (by omega), if_neg (by omega), if_neg (by omega)]
theorem adM_n : adM d a k c t (67 + a) = d (67 + a) + 1 := if_pos rfl
theorem adM_P (ha : a < 10) (hp : d (67 + a) < 16) (hk : k ≤ d (67 + a)) (hz : z < d (67 + a) + 1) : adM d a k c t (77 + 16 * a + z) = isr (dP d a) k c z := by
  unfold adM isr
  rw [if_neg (by omega)]
  by_cases h1 : z < k
  · rw [if_neg (by omega), if_neg (by omega), if_neg (by omega), if_neg (by omega), if_pos h1]
  · rw [if_neg h1]
    by_cases h2 : z = k
    · rw [if_pos (by omega), if_pos h2]
    · rw [if_neg (by omega), if_neg (by omega), if_pos (by omega), if_neg h2]
      show d (77 + 16 * a + z - 1) = d (77 + 16 * a + (z - 1))
      congr 1
      omega
theorem adM_T (ha : a < 10) (hp : d (67 + a) < 16) (hk : k ≤ d (67 + a)) (hz : z < d (67 + a) + 1) : adM d a k c t (237 + 16 * a + z) = isr (dT d a) k t z := by
  unfold adM isr
  rw [if_neg (by omega), if_neg (by omega)]
  by_cases h1 : z < k
  · rw [if_neg (by omega), if_neg (by omega), if_neg (by omega), if_pos h1]
  · rw [if_neg h1]
    by_cases h2 : z = k
    · rw [if_pos (by omega), if_pos h2]
    · rw [if_neg (by omega), if_neg (by omega), if_pos (by omega), if_neg h2]
      show d (237 + 16 * a + z - 1) = d (237 + 16 * a + (z - 1))
      congr 1
      omega
theorem adM_b (hw : WF d) (hc : c < 10000) (ht : t < 10000) : ∀ q, adM d a k c t q < 10000 ∨ (q = 67 + a ∧ adM d a k c t q = d (67 + a) + 1) := fun q => by
  unfold adM
  split
  · next h => exact Or.inr ⟨h, rfl⟩
  · split
    · exact Or.inl hc
    · split
      · exact Or.inl ht
      · split
        · exact Or.inl (hw.b _)
        · split
          · exact Or.inl (hw.b _)
          · exact Or.inl (hw.b _)
theorem drM_o {q : Nat} (h1 : q ≠ 67 + a) (h2 : ¬ (77 + 16 * a + k ≤ q ∧ q < 77 + 16 * a + (d (67 + a) - 1))) (h3 : ¬ (237 + 16 * a + k ≤ q ∧ q < 237 + 16 * a + (d (67 + a) - 1))) : drM d a k q = d q := by
  unfold drM
  rw [if_neg h1, if_neg h2, if_neg h3]
theorem drM_n : drM d a k (67 + a) = d (67 + a) - 1 := if_pos rfl
theorem drM_P (ha : a < 10) (hp : d (67 + a) ≤ 16) (hz : z < d (67 + a) - 1) : drM d a k (77 + 16 * a + z) = rmv (dP d a) k z := by
  unfold drM rmv
  rw [if_neg (by omega)]
  by_cases h1 : z < k
  · rw [if_neg (by omega), if_neg (by omega), if_pos h1]
  · rw [if_pos (by omega), if_neg h1]
    rfl
theorem drM_T (ha : a < 10) (hp : d (67 + a) ≤ 16) (hz : z < d (67 + a) - 1) : drM d a k (237 + 16 * a + z) = rmv (dT d a) k z := by
  unfold drM rmv
  rw [if_neg (by omega), if_neg (by omega)]
  by_cases h1 : z < k
  · rw [if_neg (by omega), if_pos h1]
  · rw [if_pos (by omega), if_neg h1]
    rfl
theorem drM_b (hw : WF d) : ∀ q, drM d a k q < 10000 := fun q => by
  have := hw.b (67 + a)
  unfold drM
  split
  · omega
  · split
    · exact hw.b _
    · split
      · exact hw.b _
      · exact hw.b _
/-- where a punch goes -/
theorem X_placeFor (h : XR d σ) (hw : WF d) (ha : a < d 1) (ht : t < 10000) : ∃ K, K ≤ d (67 + a) ∧ (∀ j, j < K → dT d a j ≤ t) ∧ (∀ j, K ≤ j → j < d (67 + a) → t < dT d a j) ∧ f_X9_placeFor (10 + a) (nI t) σ = some (nI K, σ) := by
  have hru := hw.run ha
  obtain ⟨-, -, -, g8, -⟩ := h.2.2.2.2.2 a ha
  have key : ∀ (m k fuel : Nat), k + m = d (67 + a) → m < fuel → (∀ j, j < k → dT d a j ≤ t) → ∃ K, K ≤ d (67 + a) ∧ (∀ j, j < K → dT d a j ≤ t) ∧ (∀ j, K ≤ j → j < d (67 + a) → t < dT d a j) ∧ f_X9_placeFor_2 (10 + a) (nI t) fuel (nI k) σ = some (nI K, σ) := by
    intro m
    induction m with
    | zero =>
      intro k fuel h1 h2 h3
      obtain ⟨fuel, rfl⟩ : ∃ g, fuel = g + 1 := ⟨fuel - 1, by omega⟩
      refine ⟨k, by omega, h3, fun j q1 q2 => by omega, ?_⟩
      rw [f_X9_placeFor_2, g8.1, if_pos (nI_le (by omega) (by omega))]
    | succ m ih =>
      intro k fuel h1 h2 h3
      obtain ⟨fuel, rfl⟩ : ∃ g, fuel = g + 1 := ⟨fuel - 1, by omega⟩
      have bT := hw.b (237 + 16 * a + k)
      by_cases e : t < dT d a k
      · refine ⟨k, by omega, h3, fun j q1 q2 => Nat.lt_of_lt_of_le e (hw.ts ha q1 q2), ?_⟩
        rw [f_X9_placeFor_2, g8.1, if_neg (nI_ge (by omega) (by omega)), X_timeOf g8 hru.2.2 (by omega), bind_some', if_pos (nI_lt e (Nat.lt_trans bT (by decide)))]
      · obtain ⟨K, k1, k2, k3, k4⟩ := ih (k + 1) fuel (by omega) (by omega) (fun j hj => by
          by_cases ej : j = k
          · rw [ej]; exact Nat.le_of_not_lt e
          · exact h3 j (by omega))
        refine ⟨K, k1, k2, k3, ?_⟩
        rw [f_X9_placeFor_2, g8.1, if_neg (nI_ge (by omega) (by omega)), X_timeOf g8 hru.2.2 (by omega), bind_some', if_neg (nI_nlt (Nat.le_of_not_lt e) (by omega)), nI_1]
        exact k4
  exact key (d (67 + a)) 0 gFuel (by omega) (Nat.lt_trans (by omega) gFuel_ge) (fun j hj => by omega)
def sh1 (d : Nat → Nat) (a p k : Nat) : Nat → Nat := fun q => if 77 + 16 * a + k < q ∧ q ≤ 77 + 16 * a + p then d (q - 1) else if 237 + 16 * a + k < q ∧ q ≤ 237 + 16 * a + p then d (q - 1) else d q
theorem M_add118 (ha : a < 10) {p K : Nat} (hb : ∀ q, d q < 10000) (ht : t < 10000) (hp : p < 16) (hpd : d (67 + a) = p) (h1 : ∀ j, j < K → dT d a j ≤ t) (h2 : ∀ j, K ≤ j → j < p → t < dT d a j) : ∀ (m fuel : Nat) (τ : gSt), K + m ≤ p → m < fuel → MR (sh1 d a p (K + m)) τ → Wp (f_X12_add_118 (nI a) (nI c) (nI t) (nI (16 * a)) fuel (nI (K + m)) τ) (fun r => r.1 = nI K ∧ MR (adM d a K c t) r.2 ∧ ∀ k i s, k ≠ 30 → r.2 k i s = τ k i s) := by
  have fin : ∀ τ, K ≤ p → MR (sh1 d a p K) τ → Wp (f_X12_add_207 (nI a) (nI c) (nI t) (nI K) (nI (16 * a)) τ) (fun r => r.1 = nI K ∧ MR (adM d a K c t) r.2 ∧ ∀ k i s, k ≠ 30 → r.2 k i s = τ k i s) := by
    intro τ hK hM
    unfold f_X12_add_207
    refine Wp.st (237 + 16 * a + K) (by rw [i237, nI_add, nI_add]) (by omega) (by decide) ?_
    refine Wp.st (77 + 16 * a + K) (by rw [i77, nI_add, nI_add]) (by omega) (by decide) ?_
    refine Wp.ld (v := nI p) (67 + a) (by rw [i67, nI_add]) (by omega) (by decide) ?_ ?_
    · have e1 : ¬ 67 + a = 77 + 16 * a + K := by omega
      have e2 : ¬ 67 + a = 237 + 16 * a + K := by omega
      have := hM (67 + a) (by omega)
      rw [show sh1 d a p K (67 + a) = p by unfold sh1; rw [if_neg (by omega), if_neg (by omega), hpd]] at this
      simp [gup, e1, e2, this]
    · refine Wp.st (67 + a) (by rw [i67, nI_add]) (by omega) (by decide) ?_
      refine Wp.ret ⟨rfl, fun q hq => ?_, fun k i s hk => ?_⟩
      · have hMq := hM q hq
        by_cases q1 : q = 67 + a
        · subst q1; rw [adM_n, hpd]; simp [gup, nI_1]
        · by_cases q2 : q = 77 + 16 * a + K
          · subst q2
            rw [show adM d a K c t (77 + 16 * a + K) = c by unfold adM; rw [if_neg q1, if_pos rfl]]
            simp [gup, q1]
          · by_cases q3 : q = 237 + 16 * a + K
            · subst q3
              rw [show adM d a K c t (237 + 16 * a + K) = t by unfold adM; rw [if_neg q1, if_neg q2, if_pos rfl]]
              simp [gup, q1, q2]
            · have e : adM d a K c t q = sh1 d a p K q := by unfold adM sh1; rw [if_neg q1, if_neg q2, if_neg q3, hpd]
              rw [e, ← hMq]
              simp [gup, q1, q2, q3]
      · show gup (gup (gup τ 30 0 _ _) 30 0 _ _) 30 0 _ _ k i s = _
        rw [gup_kind hk, gup_kind hk, gup_kind hk]
  intro m
  induction m with
  | zero =>
    intro fuel τ hm hf hM
    obtain ⟨fuel, rfl⟩ : ∃ g, fuel = g + 1 := ⟨fuel - 1, by omega⟩
    rw [f_X12_add_118]
    by_cases hK : K = 0
    · subst hK
      exact Wp.t (by decide) (fin τ (by omega) hM)
    · refine Wp.f (nI_nle (by omega) (by omega)) ?_
      have e : sh1 d a p K (237 + 16 * a + (K - 1)) = dT d a (K - 1) := by unfold sh1; rw [if_neg (by omega), if_neg (by omega)]
      refine Wp.ld (v := nI (dT d a (K - 1))) (237 + 16 * a + (K - 1)) (by rw [i237, nI_add, nI_add, i1, nI_sub (by omega)]; congr 1; omega) (by omega) (by decide) (by rw [← e]; exact hM _ (by omega)) ?_
      exact Wp.t (nI_le (h1 (K - 1) (by omega)) (by omega)) (fin τ (by omega) hM)
  | succ m ih =>
    intro fuel τ hm hf hM
    obtain ⟨fuel, rfl⟩ : ∃ g, fuel = g + 1 := ⟨fuel - 1, by omega⟩
    rw [f_X12_add_118]
    refine Wp.f (nI_nle (by omega) (by omega)) ?_
    have eT : sh1 d a p (K + (m + 1)) (237 + 16 * a + (K + m)) = dT d a (K + m) := by unfold sh1; rw [if_neg (by omega), if_neg (by omega)]
    have eP : sh1 d a p (K + (m + 1)) (77 + 16 * a + (K + m)) = dP d a (K + m) := by unfold sh1; rw [if_neg (by omega), if_neg (by omega)]
    have x1 : 237 + nI (16 * a) + nI (K + (m + 1)) - 1 = nI (237 + 16 * a + (K + m)) := by rw [i237, nI_add, nI_add, i1, nI_sub (by omega)]; congr 1
    have x2 : 77 + nI (16 * a) + nI (K + (m + 1)) - 1 = nI (77 + 16 * a + (K + m)) := by rw [i77, nI_add, nI_add, i1, nI_sub (by omega)]; congr 1
    refine Wp.ld (v := nI (dT d a (K + m))) (237 + 16 * a + (K + m)) x1 (by omega) (by decide) (by rw [← eT]; exact hM _ (by omega)) ?_
    refine Wp.f (nI_ge (h2 (K + m) (by omega) (by omega)) (Nat.lt_trans (hb _) (by decide))) ?_
    refine Wp.ld (v := nI (dT d a (K + m))) (237 + 16 * a + (K + m)) x1 (by omega) (by decide) (by rw [← eT]; exact hM _ (by omega)) ?_
    refine Wp.st (237 + 16 * a + (K + (m + 1))) (by rw [i237, nI_add, nI_add]) (by omega) (by decide) ?_
    refine Wp.ld (v := nI (dP d a (K + m))) (77 + 16 * a + (K + m)) x2 (by omega) (by decide) (by
      have := hM (77 + 16 * a + (K + m)) (by omega)
      rw [eP] at this
      have en : ¬ 77 + 16 * a + (K + m) = 237 + 16 * a + (K + (m + 1)) := by omega
      show (if (30 : Nat) = 30 ∧ (0 : Nat) = 0 ∧ 77 + 16 * a + (K + m) = 237 + 16 * a + (K + (m + 1)) then _ else τ 30 0 (77 + 16 * a + (K + m))) = _
      rw [if_neg (fun w => en w.2.2)]
      exact this) ?_
    refine Wp.st (77 + 16 * a + (K + (m + 1))) (by rw [i77, nI_add, nI_add]) (by omega) (by decide) ?_
    rw [nI_dec (by omega), show K + (m + 1) - 1 = K + m by omega]
    refine Wp.mono (ih fuel _ (by omega) (by omega) (fun q hq => ?_)) (fun r hr => ⟨hr.1, hr.2.1, fun k i s hk => (hr.2.2 k i s hk).trans (by rw [gup_kind hk, gup_kind hk])⟩)
    have hMq := hM q hq
    by_cases q2 : q = 77 + 16 * a + (K + (m + 1))
    · subst q2
      rw [show sh1 d a p (K + m) (77 + 16 * a + (K + (m + 1))) = dP d a (K + m) by unfold sh1; rw [if_pos (by omega)]; rfl]
      simp [gup]
    · by_cases q3 : q = 237 + 16 * a + (K + (m + 1))
      · subst q3
        rw [show sh1 d a p (K + m) (237 + 16 * a + (K + (m + 1))) = dT d a (K + m) by unfold sh1; rw [if_neg (by omega), if_pos (by omega)]; rfl]
        rw [gup_slot q2]
        simp [gup]
      · rw [gup_slot q2, gup_slot q3, hMq]
        congr 1
        unfold sh1
        by_cases c1 : 77 + 16 * a + (K + m) < q ∧ q ≤ 77 + 16 * a + p
        · rw [if_pos c1, if_pos (by omega)]
        · rw [if_neg c1, if_neg (by omega)]
          by_cases c2 : 237 + 16 * a + (K + m) < q ∧ q ≤ 237 + 16 * a + p
          · rw [if_pos c2, if_pos (by omega)]
          · rw [if_neg c2, if_neg (by omega)]
end A4
