/-! names and words that are kept -/
def ic (N B : Nat → Nat) (at' fr' to k : Nat) : Bool := if fr' + k < to then decide (¬ B (fr' + k) = 0 ∧ N (at' + k) = B (fr' + k)) else decide (N (at' + k) = 0)
def ia (N B : Nat → Nat) (at' fr' to : Nat) : Nat → Bool
  | 0 => decide (to - fr' ≤ 6)
  | k + 1 => ia N B at' fr' to k && ic N B at' fr' to k
section NM
variable {B N : Nat → Nat} {n s p m L : Nat} {σ τ τ' : gSt}
theorem ia_iff {at' fr' to : Nat} : ∀ k, ia N B at' fr' to k = true ↔ to - fr' ≤ 6 ∧ ∀ z, z < k → ic N B at' fr' to z = true := by
  intro k
  induction k with
  | zero => rw [ia, decide_eq_true_eq]; exact ⟨fun h => ⟨h, fun z hz => absurd hz (Nat.not_lt_zero _)⟩, fun h => h.1⟩
  | succ k ih =>
    rw [ia, Bool.and_eq_true, ih]
    constructor
    · rintro ⟨⟨h1, h2⟩, h3⟩
      refine ⟨h1, fun z hz => ?_⟩
      by_cases e : z = k
      · rw [e]; exact h3
      · exact h2 z (by omega)
    · rintro ⟨h1, h2⟩
      exact ⟨⟨h1, fun z hz => h2 z (by omega)⟩, h2 k (by omega)⟩
/-- a kept word has a length, and its number is that of its letters -/
theorem isW_len {w : Nat → Nat} (h : isW w) : ∃ m, 1 ≤ m ∧ m ≤ 6 ∧ (∀ q, q < m → 97 ≤ w q ∧ w q ≤ 122) ∧ (∀ q, m ≤ q → q < 6 → w q = 0) ∧ wval w 6 = wv w 0 m := by
  obtain ⟨h1, h2, h3⟩ := h
  have hr := rn_b (q := fun j => decide (¬ w j = 0)) 6 0
  have hm1 : 0 < rn (fun j => decide (¬ w j = 0)) 6 0 := rn_pos (by decide) (decide_eq_true (by omega))
  obtain ⟨m, hm⟩ : ∃ m, m = rn (fun j => decide (¬ w j = 0)) 6 0 := ⟨_, rfl⟩
  rw [← hm] at hr hm1
  have hL : ∀ q, q < m → 97 ≤ w q ∧ w q ≤ 122 := fun q hq => by
    have := of_decide_eq_true (hr.2.2.1 q (Nat.zero_le _) hq)
    rcases h2 q (by omega) with z | z
    · exact absurd z this
    · exact z
  have hZ : ∀ k q, q = m + k → q < 6 → w q = 0 := by
    intro k
    induction k with
    | zero =>
      intro q e hq
      rcases hr.2.2.2 with z | z
      · omega
      · rw [e, Nat.add_zero]
        exact Decidable.byContradiction (fun c => by rw [decide_eq_true c] at z; cases z)
    | succ k ih =>
      intro q e hq
      have := ih (m + k) rfl (by omega)
      rw [e]
      exact h3 (m + k) (by omega) this
  have v1 : ∀ k, k ≤ m → wval w k = wv w 0 k := by
    intro k
    induction k with
    | zero => intro _; rfl
    | succ k ih =>
      intro hk
      have := hL k (by omega)
      rw [wval, wv, if_neg (by omega), ih (by omega), Nat.zero_add]
  have v2 : ∀ k, m + k ≤ 6 → wval w (m + k) = wv w 0 m := by
    intro k
    induction k with
    | zero => intro _; exact v1 m (Nat.le_refl _)
    | succ k ih =>
      intro hk
      show wval w (m + k + 1) = _
      rw [wval, if_pos (hZ k (m + k) rfl (by omega))]
      exact ih (by omega)
  refine ⟨m, hm1, by omega, hL, fun q h1 h2 => hZ (q - m) q (by omega) h2, ?_⟩
  have := v2 (6 - m) (by omega)
  rw [show m + (6 - m) = 6 by omega] at this
  exact this
theorem isW_b {w : Nat → Nat} (h : isW w) {q : Nat} (hq : q < 6) : w q < 256 := by
  have := h.2.1 q hq
  omega
theorem ia_name {j fr' m : Nat} (hw : isW (fun q => N (6 * j + q))) (hm : 0 < m) : ia N B (6 * j) fr' (fr' + m) 6 = true ↔ m ≤ 6 ∧ (∀ z, z < m → 97 ≤ B (fr' + z) ∧ B (fr' + z) ≤ 122) ∧ wval (fun q => N (6 * j + q)) 6 = wv B fr' m := by
  obtain ⟨l, l1, l2, l3, l4, l5⟩ := isW_len hw
  rw [ia_iff]
  constructor
  · rintro ⟨h1, h2⟩
    have hm6 : m ≤ 6 := by omega
    have hlm : l = m := by
      rcases Nat.lt_trichotomy l m with q | q | q
      · exfalso
        have a := l4 l (Nat.le_refl _) (by omega)
        have b := h2 l (by omega)
        unfold ic at b
        rw [if_pos (by omega), decide_eq_true_eq] at b
        omega
      · exact q
      · exfalso
        have a := l3 m q
        have b := h2 m (by omega)
        unfold ic at b
        rw [if_neg (by omega), decide_eq_true_eq] at b
        omega
    subst hlm
    have hE : ∀ z, z < l → N (6 * j + z) = B (fr' + z) := fun z hz => by
      have b := h2 z (by omega)
      unfold ic at b
      rw [if_pos (by omega), decide_eq_true_eq] at b
      exact b.2
    refine ⟨hm6, fun z hz => by rw [← hE z hz]; exact l3 z hz, ?_⟩
    rw [l5]
    have : ∀ k, k ≤ l → wv (fun q => N (6 * j + q)) 0 k = wv B fr' k := by
      intro k
      induction k with
      | zero => intro _; rfl
      | succ k ih =>
        intro hk
        rw [wv, wv, ih (by omega)]
        rw [Nat.zero_add, hE k (by omega)]
    exact this l (Nat.le_refl _)
  · rintro ⟨h1, h2, h3⟩
    rw [l5] at h3
    obtain ⟨e1, e2⟩ := wv_inj (B := fun q => N (6 * j + q)) (B' := B) (p := 0) (p' := fr') l m (fun z hz => by rw [Nat.zero_add]; exact l3 z hz) h2 h3
    subst e1
    refine ⟨by omega, fun z hz => ?_⟩
    unfold ic
    by_cases c : fr' + z < fr' + l
    · have a := e2 z (by omega)
      have b := h2 z (by omega)
      rw [Nat.zero_add] at a
      rw [if_pos c]
      exact decide_eq_true ⟨by omega, a⟩
    · rw [if_neg c]
      exact decide_eq_true (l4 z (by omega) hz)
theorem M_isAt33 (hB : ∀ j, j < n → B j < 256 ∧ τ 29 0 j = nI (B j)) (hn : n ≤ 900) {at' fr' to : Nat} (hN : ∀ j, at' ≤ j → j < at' + 6 → N j < 256 ∧ τ 33 0 j = nI (N j)) (hat : at' + 6 ≤ 78) (hft : fr' ≤ to) (hto : to ≤ n) : f_X12_isAt_k33 (nI at') (nI fr') (nI to) τ = some (if ia N B at' fr' to 6 = true then 1 else 0, τ) := by
  have key : ∀ b : Int32, b = (if ia N B at' fr' to 0 = true then 1 else 0) → Wp (f_X12_isAt_k33_19 (nI at') (nI fr') (nI to) gFuel b (nI 0) τ) (fun r => r = (if ia N B at' fr' to 6 = true then 1 else 0, τ)) := by
    intro b hb
    refine loop0 (F := fun f (x : Int32) k τ' => f_X12_isAt_k33_19 (nI at') (nI fr') (nI to) f x (nI k) τ') (N := 6) (I := fun k x τ' => x = (if ia N B at' fr' to k = true then 1 else 0) ∧ τ' = τ) (by omega)
      (fun f k x τ' hk hI kk => ?_) (fun f x τ' hI => ?_) (x := b) (σ := τ) ⟨hb, rfl⟩
    · obtain ⟨rfl, rfl⟩ := hI
      have tail : ∀ vs : Int32, vs = (if fr' + k < to then 1 else 0) → Wp (f_X12_isAt_k33_40 (nI at') (nI fr') (nI to) (if ia N B at' fr' to k = true then 1 else 0) (nI k) (fun v5 v6 σ => f_X12_isAt_k33_19 (nI at') (nI fr') (nI to) f v5 v6 σ) vs τ') (fun r => r = (if ia N B at' fr' to 6 = true then 1 else 0, τ')) := by
        intro vs hvs
        have hNk := hN (at' + k) (by omega) (by omega)
        unfold f_X12_isAt_k33_40
        rw [nI_1]
        by_cases h1 : ia N B at' fr' to k = true
        · rw [if_pos h1]
          refine Wp.f o1n0 ?_
          by_cases h2 : fr' + k < to
          · rw [if_pos h2] at hvs
            subst hvs
            have hBk := hB (fr' + k) (by omega)
            refine Wp.f o1n0 ?_
            refine Wp.ld (fr' + k) (nI_add _ _) (by omega) (by decide) hBk.2 ?_
            by_cases h3 : B (fr' + k) = 0
            · refine Wp.t (by rw [h3]; rfl) (kk _ _ ⟨?_, rfl⟩)
              rw [if_neg (by rw [ia, h1]; simp [ic, h2, h3])]
            · refine Wp.f (nI_ne0 (by omega) (by omega)) ?_
              refine Wp.ld (at' + k) (nI_add _ _) (by omega) (by decide) hNk.2 ?_
              refine Wp.ld (fr' + k) (nI_add _ _) (by omega) (by decide) hBk.2 ?_
              by_cases h4 : N (at' + k) = B (fr' + k)
              · refine Wp.t (by rw [h4]) (kk _ _ ⟨?_, rfl⟩)
                rw [if_pos (by rw [ia, h1]; simp [ic, h2, h3, h4])]
              · refine Wp.f (nI_ne (by omega) (by omega) h4) (kk _ _ ⟨?_, rfl⟩)
                rw [if_neg (by rw [ia, h1]; simp [ic, h2, h4])]
          · rw [if_neg h2] at hvs
            subst hvs
            refine Wp.t rfl ?_
            refine Wp.ld (at' + k) (nI_add _ _) (by omega) (by decide) hNk.2 ?_
            by_cases h3 : N (at' + k) = 0
            · refine Wp.t (by rw [h3]; rfl) (kk _ _ ⟨?_, rfl⟩)
              rw [if_pos (by rw [ia, h1]; simp [ic, h2, h3])]
            · refine Wp.f (nI_ne0 (by omega) (by omega)) (kk _ _ ⟨?_, rfl⟩)
              rw [if_neg (by rw [ia, h1]; simp [ic, h2, h3])]
        · rw [if_neg h1]
          refine Wp.t rfl (kk _ _ ⟨?_, rfl⟩)
          rw [if_neg (by rw [ia]; simp [h1])]
      simp only [f_X12_isAt_k33_19]
      refine Wp.f (by rw [i6]; exact nI_ge hk (by decide)) ?_
      rw [nI_add]
      by_cases h2 : fr' + k < to
      · refine Wp.f (nI_ge h2 (by omega)) ?_
        exact tail 1 (by rw [if_pos h2])
      · refine Wp.t (nI_le (by omega) (by omega)) ?_
        exact tail 0 (by rw [if_neg h2])
    · obtain ⟨rfl, rfl⟩ := hI
      simp only [f_X12_isAt_k33_19]
      refine Wp.t (by decide) ?_
      unfold gzr
      refine Wp.t (by split <;> simp) (Wp.ret rfl)
  unfold f_X12_isAt_k33
  rw [nI_sub hft]
  have e0 : ia N B at' fr' to 0 = decide (to - fr' ≤ 6) := rfl
  by_cases h : to - fr' ≤ 6
  · rw [if_neg (by rw [i6]; exact nI_nlt h (by decide))]
    obtain ⟨r, h1, h2⟩ := key 1 (by rw [e0, if_pos (decide_eq_true h)])
    rw [h2] at h1
    exact h1
  · rw [if_pos (by rw [i6]; exact nI_lt (by omega) (by omega))]
    obtain ⟨r, h1, h2⟩ := key 0 (by rw [e0, if_neg (by simpa using h)])
    rw [h2] at h1
    exact h1
theorem M_isAt32 (hB : ∀ j, j < n → B j < 256 ∧ τ 29 0 j = nI (B j)) (hn : n ≤ 900) {at' fr' to : Nat} (hN : ∀ j, at' ≤ j → j < at' + 6 → N j < 256 ∧ τ 32 0 j = nI (N j)) (hat : at' + 6 ≤ 78) (hft : fr' ≤ to) (hto : to ≤ n) : f_X12_isAt_k32 (nI at') (nI fr') (nI to) τ = some (if ia N B at' fr' to 6 = true then 1 else 0, τ) := by
  have key : ∀ b : Int32, b = (if ia N B at' fr' to 0 = true then 1 else 0) → Wp (f_X12_isAt_k32_19 (nI at') (nI fr') (nI to) gFuel b (nI 0) τ) (fun r => r = (if ia N B at' fr' to 6 = true then 1 else 0, τ)) := by
    intro b hb
    refine loop0 (F := fun f (x : Int32) k τ' => f_X12_isAt_k32_19 (nI at') (nI fr') (nI to) f x (nI k) τ') (N := 6) (I := fun k x τ' => x = (if ia N B at' fr' to k = true then 1 else 0) ∧ τ' = τ) (by omega)
      (fun f k x τ' hk hI kk => ?_) (fun f x τ' hI => ?_) (x := b) (σ := τ) ⟨hb, rfl⟩
    · obtain ⟨rfl, rfl⟩ := hI
      have tail : ∀ vs : Int32, vs = (if fr' + k < to then 1 else 0) → Wp (f_X12_isAt_k32_40 (nI at') (nI fr') (nI to) (if ia N B at' fr' to k = true then 1 else 0) (nI k) (fun v5 v6 σ => f_X12_isAt_k32_19 (nI at') (nI fr') (nI to) f v5 v6 σ) vs τ') (fun r => r = (if ia N B at' fr' to 6 = true then 1 else 0, τ')) := by
        intro vs hvs
        have hNk := hN (at' + k) (by omega) (by omega)
        unfold f_X12_isAt_k32_40
        rw [nI_1]
        by_cases h1 : ia N B at' fr' to k = true
        · rw [if_pos h1]
          refine Wp.f o1n0 ?_
          by_cases h2 : fr' + k < to
          · rw [if_pos h2] at hvs
            subst hvs
            have hBk := hB (fr' + k) (by omega)
            refine Wp.f o1n0 ?_
            refine Wp.ld (fr' + k) (nI_add _ _) (by omega) (by decide) hBk.2 ?_
            by_cases h3 : B (fr' + k) = 0
            · refine Wp.t (by rw [h3]; rfl) (kk _ _ ⟨?_, rfl⟩)
              rw [if_neg (by rw [ia, h1]; simp [ic, h2, h3])]
            · refine Wp.f (nI_ne0 (by omega) (by omega)) ?_
              refine Wp.ld (at' + k) (nI_add _ _) (by omega) (by decide) hNk.2 ?_
              refine Wp.ld (fr' + k) (nI_add _ _) (by omega) (by decide) hBk.2 ?_
              by_cases h4 : N (at' + k) = B (fr' + k)
              · refine Wp.t (by rw [h4]) (kk _ _ ⟨?_, rfl⟩)
                rw [if_pos (by rw [ia, h1]; simp [ic, h2, h3, h4])]
              · refine Wp.f (nI_ne (by omega) (by omega) h4) (kk _ _ ⟨?_, rfl⟩)
                rw [if_neg (by rw [ia, h1]; simp [ic, h2, h4])]
          · rw [if_neg h2] at hvs
            subst hvs
            refine Wp.t rfl ?_
            refine Wp.ld (at' + k) (nI_add _ _) (by omega) (by decide) hNk.2 ?_
            by_cases h3 : N (at' + k) = 0
            · refine Wp.t (by rw [h3]; rfl) (kk _ _ ⟨?_, rfl⟩)
              rw [if_pos (by rw [ia, h1]; simp [ic, h2, h3])]
            · refine Wp.f (nI_ne0 (by omega) (by omega)) (kk _ _ ⟨?_, rfl⟩)
              rw [if_neg (by rw [ia, h1]; simp [ic, h2, h3])]
        · rw [if_neg h1]
          refine Wp.t rfl (kk _ _ ⟨?_, rfl⟩)
          rw [if_neg (by rw [ia]; simp [h1])]
      simp only [f_X12_isAt_k32_19]
      refine Wp.f (by rw [i6]; exact nI_ge hk (by decide)) ?_
      rw [nI_add]
      by_cases h2 : fr' + k < to
      · refine Wp.f (nI_ge h2 (by omega)) ?_
        exact tail 1 (by rw [if_pos h2])
      · refine Wp.t (nI_le (by omega) (by omega)) ?_
        exact tail 0 (by rw [if_neg h2])
    · obtain ⟨rfl, rfl⟩ := hI
      simp only [f_X12_isAt_k32_19]
      refine Wp.t (by decide) ?_
      unfold gzr
      refine Wp.t (by split <;> simp) (Wp.ret rfl)
  unfold f_X12_isAt_k32
  rw [nI_sub hft]
  have e0 : ia N B at' fr' to 0 = decide (to - fr' ≤ 6) := rfl
  by_cases h : to - fr' ≤ 6
  · rw [if_neg (by rw [i6]; exact nI_nlt h (by decide))]
    obtain ⟨r, h1, h2⟩ := key 1 (by rw [e0, if_pos (decide_eq_true h)])
    rw [h2] at h1
    exact h1
  · rw [if_pos (by rw [i6]; exact nI_lt (by omega) (by omega))]
    obtain ⟨r, h1, h2⟩ := key 0 (by rw [e0, if_neg (by simpa using h)])
    rw [h2] at h1
    exact h1
end NM
