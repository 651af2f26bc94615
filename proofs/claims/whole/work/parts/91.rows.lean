/-! rows of punches and of controls: one comes in, one goes -/
def rmv (A : Nat → Nat) (k : Nat) : Nat → Nat := fun j => if j < k then A j else A (j + 1)
section RW
variable {σ τ : gSt} {j p k n i c t : Nat} {P T C : Nat → Nat}
theorem X_codeR {z q : Nat} (hc : τ 10 j 8 = nI q) (hq : q ≤ 16) (hz : z < q) : f_X9_codeOf j (nI z) τ = some (τ 11 j z, τ) := by
  unfold f_X9_codeOf
  rw [if_neg (nI_pos (by omega)), hc, if_neg (nI_ge hz (by omega)), i16, if_neg (nI_ge (by omega) (by omega)), gld_n (by omega) (by decide), bind_some']
theorem X_timeR {z q : Nat} (hc : τ 10 j 8 = nI q) (hq : q ≤ 16) (hz : z < q) : f_X9_timeOf j (nI z) τ = some (τ 12 j z, τ) := by
  unfold f_X9_timeOf
  rw [if_neg (nI_pos (by omega)), hc, if_neg (nI_ge hz (by omega)), i16, if_neg (nI_ge (by omega) (by omega)), gld_n (by omega) (by decide), bind_some']
theorem X_setP {v w : Int32} (hk : k < 16) : f_X9_set j (nI k) v w τ = some (gup (gup τ 11 j k v) 12 j k w) := by
  unfold f_X9_set
  rw [if_neg (nI_pos (by omega)), if_neg (by rw [i16]; exact nI_ge hk (by decide)), if_neg (by rw [i16]; exact nI_ge hk (by decide)), gst_n hk (by decide), bind_some', gst_n hk (by decide), bind_some']
theorem X_ins31 (hp : p < 16) (hk : k ≤ p) : ∀ (m fuel : Nat) (τ : gSt), k + m ≤ p → m < fuel → τ 10 j 8 = nI (p + 1) → (∀ z, z < k + m → τ 11 j z = nI (P z) ∧ τ 12 j z = nI (T z)) → (∀ z, k + m < z → z ≤ p → τ 11 j z = nI (P (z - 1)) ∧ τ 12 j z = nI (T (z - 1))) →
    Wp (f_X9_insert_31 j (nI k) (nI c) (nI t) fuel (nI (k + m)) τ) (fun τ' => Fr j τ τ' ∧ (∀ s, τ' 10 j s = τ 10 j s) ∧ (∀ q s, q = 13 ∨ q = 14 → τ' q j s = τ q j s) ∧ XP τ' j (p + 1) (isr P k c) (isr T k t)) := by
  intro m
  induction m with
  | zero =>
    intro fuel τ hm hf hc h1 h2
    obtain ⟨fuel, rfl⟩ : ∃ g, fuel = g + 1 := ⟨fuel - 1, by omega⟩
    rw [f_X9_insert_31]
    refine Wp.t (nI_le (by omega) (by omega)) ?_
    refine Wp.eq (X_setP (show k < 16 by omega)) ?_
    refine Wp.ret ⟨Fr.up (by omega) (Fr.up (by omega) Fr.rf), fun s => by simp [gup], fun q s hq => by rcases hq with z | z <;> subst z <;> simp [gup], by simp [gup, hc], fun z hz => ?_⟩
    rcases Nat.lt_trichotomy z k with q | q | q
    · have g := h1 z q
      simp [gup, isr, q, Nat.ne_of_lt q, g.1, g.2]
    · subst q
      simp [gup, isr]
    · have g := h2 z q (by omega)
      have e1 : ¬ z < k := by omega
      have e2 : ¬ z = k := by omega
      simp [gup, isr, e1, e2, g.1, g.2]
  | succ m ih =>
    intro fuel τ hm hf hc h1 h2
    obtain ⟨fuel, rfl⟩ : ∃ g, fuel = g + 1 := ⟨fuel - 1, by omega⟩
    have g := h1 (k + m) (by omega)
    have e0 : nI (k + (m + 1)) - 1 = nI (k + m) := nI_pred (k + m)
    rw [f_X9_insert_31, e0]
    refine Wp.f (nI_ge (by omega) (by omega)) ?_
    refine Wp.eq (X_codeR hc (by omega) (show k + m < p + 1 by omega)) ?_
    refine Wp.eq (X_timeR hc (by omega) (show k + m < p + 1 by omega)) ?_
    refine Wp.eq (X_setP (show k + (m + 1) < 16 by omega)) ?_
    rw [nI_dec (by omega), show k + (m + 1) - 1 = k + m by omega]
    refine Wp.mono (ih fuel _ (by omega) (by omega) (by simp [gup, hc]) (fun z hz => ?_) (fun z hz hz2 => ?_)) (fun τ' hq => ⟨(Fr.up (by omega) (Fr.up (by omega) Fr.rf)).tr hq.1, fun s => (hq.2.1 s).trans (by simp [gup]), fun q s hs => (hq.2.2.1 q s hs).trans (by rcases hs with z | z <;> subst z <;> simp [gup]), hq.2.2.2⟩)
    · have g2 := h1 z (by omega)
      have e2 : ¬ z = k + (m + 1) := by omega
      simp [gup, e2, g2.1, g2.2]
    · by_cases e3 : z = k + (m + 1)
      · subst e3
        have e4 : k + (m + 1) - 1 = k + m := by omega
        simp [gup, e4, g.1, g.2]
      · have g2 := h2 z (by omega) hz2
        simp [gup, e3, g2.1, g2.2]
theorem X_insP (hp : p < 16) (hk : k ≤ p) (h : XP τ j p P T) : Wp (f_X9_insert j (nI k) (nI c) (nI t) τ) (fun τ' => Fr j τ τ' ∧ (∀ s, s ≠ 8 → τ' 10 j s = τ 10 j s) ∧ (∀ q s, q = 13 ∨ q = 14 → τ' q j s = τ q j s) ∧ XP τ' j (p + 1) (isr P k c) (isr T k t)) := by
  unfold f_X9_insert
  rw [h.1]
  refine Wp.t (by rw [i16]; exact nI_lt hp (by decide)) ?_
  have e : gup τ 10 j 8 (nI p + 1) 10 j 8 - 1 = nI (k + (p - k)) := by
    rw [gup_same, nI_1, nI_pred]
    congr 1
    omega
  rw [e]
  refine Wp.mono (X_ins31 (P := P) (T := T) hp hk (p - k) gFuel _ (by omega) (Nat.lt_trans (by omega) gFuel_ge) (by simp [gup, nI_1]) (fun z hz => ?_) (fun z h1 h2 => by omega)) (fun τ' hq => ⟨(Fr.up (by omega) Fr.rf).tr hq.1, fun s hs => (hq.2.1 s).trans (by simp [gup, hs]), fun q s hs => (hq.2.2.1 q s hs).trans (by rcases hs with z | z <;> subst z <;> simp [gup]), hq.2.2.2⟩)
  have g := h.2 z (by omega)
  simp [gup, g.1, g.2]
theorem X_rem11 (hp : p ≤ 16) (hk : k < p) : ∀ (m y fuel : Nat) (τ : gSt), y + m = p - 1 → k ≤ y → m < fuel → τ 10 j 8 = nI p → (∀ z, z < p → (z < k → τ 11 j z = nI (P z) ∧ τ 12 j z = nI (T z)) ∧ (k ≤ z → z < y → τ 11 j z = nI (P (z + 1)) ∧ τ 12 j z = nI (T (z + 1))) ∧ (y ≤ z → τ 11 j z = nI (P z) ∧ τ 12 j z = nI (T z))) →
    Wp (f_X9_remove_11 j fuel (nI y) τ) (fun τ' => Fr j τ τ' ∧ (∀ s, s ≠ 8 → τ' 10 j s = τ 10 j s) ∧ (∀ q s, q = 13 ∨ q = 14 → τ' q j s = τ q j s) ∧ XP τ' j (p - 1) (rmv P k) (rmv T k)) := by
  intro m
  induction m with
  | zero =>
    intro y fuel τ hm hy hf hc h1
    obtain ⟨fuel, rfl⟩ : ∃ g, fuel = g + 1 := ⟨fuel - 1, by omega⟩
    have e0 : nI p - 1 = nI (p - 1) := by rw [i1, nI_sub (by omega)]
    rw [f_X9_remove_11, hc, e0]
    refine Wp.t (nI_le (by omega) (by omega)) ?_
    refine Wp.ret ⟨Fr.up (by omega) Fr.rf, fun s hs => by simp [gup, hs], fun q s hq => by rcases hq with z | z <;> subst z <;> simp [gup], by simp [gup], fun z hz => ?_⟩
    have g := h1 z (by omega)
    by_cases e : z < k
    · have g2 := g.1 e
      simp [gup, rmv, e, g2.1, g2.2]
    · have g2 := g.2.1 (by omega) (by omega)
      simp [gup, rmv, e, g2.1, g2.2]
  | succ m ih =>
    intro y fuel τ hm hy hf hc h1
    obtain ⟨fuel, rfl⟩ : ∃ g, fuel = g + 1 := ⟨fuel - 1, by omega⟩
    have e0 : nI p - 1 = nI (p - 1) := by rw [i1, nI_sub (by omega)]
    have g := (h1 (y + 1) (by omega)).2.2 (by omega)
    rw [f_X9_remove_11, hc, e0, nI_1]
    refine Wp.f (nI_ge (by omega) (by omega)) ?_
    refine Wp.eq (X_codeR hc hp (show y + 1 < p by omega)) ?_
    refine Wp.eq (X_timeR hc hp (show y + 1 < p by omega)) ?_
    refine Wp.eq (X_setP (show y < 16 by omega)) ?_
    refine Wp.mono (ih (y + 1) fuel _ (by omega) (by omega) (by omega) (by simp [gup, hc]) (fun z hz => ?_)) (fun τ' hq => ⟨(Fr.up (by omega) (Fr.up (by omega) Fr.rf)).tr hq.1, fun s hs => (hq.2.1 s hs).trans (by simp [gup]), fun q s hs => (hq.2.2.1 q s hs).trans (by rcases hs with z | z <;> subst z <;> simp [gup]), hq.2.2.2⟩)
    have g2 := h1 z hz
    by_cases e3 : z = y
    · subst e3
      refine ⟨fun q => by omega, fun _ _ => by simp [gup, g.1, g.2], fun q => by omega⟩
    · refine ⟨fun q => ?_, fun q1 q2 => ?_, fun q => ?_⟩
      · have g3 := g2.1 q
        simp [gup, e3, g3.1, g3.2]
      · have g3 := g2.2.1 q1 (by omega)
        simp [gup, e3, g3.1, g3.2]
      · have g3 := g2.2.2 (by omega)
        simp [gup, e3, g3.1, g3.2]
theorem X_remP (hp : p ≤ 16) (hk : k < p) (h : XP τ j p P T) : Wp (f_X9_remove j (nI k) τ) (fun τ' => Fr j τ τ' ∧ (∀ s, s ≠ 8 → τ' 10 j s = τ 10 j s) ∧ (∀ q s, q = 13 ∨ q = 14 → τ' q j s = τ q j s) ∧ XP τ' j (p - 1) (rmv P k) (rmv T k)) := by
  unfold f_X9_remove
  refine Wp.eq (a := (1, τ)) ?_ ?_
  · unfold f_X9_has
    rw [if_neg (nI_pos (by omega)), h.1, if_neg (nI_ge hk (by omega)), i16, if_neg (nI_ge (by omega) (by omega))]
  · refine Wp.f o1n0 ?_
    exact X_rem11 hp hk (p - 1 - k) k gFuel τ (by omega) (Nat.le_refl _) (Nat.lt_trans (by omega) gFuel_ge) h.1 (fun z hz => ⟨fun _ => h.2 z hz, fun q1 q2 => by omega, fun _ => h.2 z hz⟩)
/-- only course j changes -/
def Fc (j : Nat) (σ σ' : gSt) : Prop := ∀ k i s, ¬ (k = 8 ∧ i = j ∧ s = 2) → ¬ (k = 9 ∧ i = j) → σ' k i s = σ k i s
theorem Fc.rf : Fc j σ σ := fun _ _ _ _ _ => rfl
theorem Fc.tr {σ' σ'' : gSt} (h : Fc j σ σ') (h' : Fc j σ' σ'') : Fc j σ σ'' := fun k i s a1 a2 => (h' k i s a1 a2).trans (h k i s a1 a2)
theorem Fc.up9 {s : Nat} {v : Int32} (h : Fc j σ τ) : Fc j σ (gup τ 9 j s v) := fun k' i' s' a1 a2 => by
  have e : ¬ (k' = 9 ∧ i' = j ∧ s' = s) := fun q => a2 ⟨q.1, q.2.1⟩
  show (if k' = 9 ∧ i' = j ∧ s' = s then v else τ k' i' s') = _
  rw [if_neg e]
  exact h k' i' s' a1 a2
theorem Fc.up8 {v : Int32} (h : Fc j σ τ) : Fc j σ (gup τ 8 j 2 v) := fun k' i' s' a1 a2 => by
  show (if k' = 8 ∧ i' = j ∧ s' = 2 then v else τ k' i' s') = _
  rw [if_neg a1]
  exact h k' i' s' a1 a2
theorem X_hasR {z q : Nat} (hc : τ 8 j 2 = nI q) (hq : q ≤ 10) (hz : z < q) : f_X1_has j (nI z) τ = some (1, τ) := by
  unfold f_X1_has
  rw [if_neg (nI_pos (by omega)), hc, if_neg (nI_ge hz (by omega)), i10, if_neg (nI_ge (by omega) (by omega))]
theorem X_codeC {z q : Nat} (hc : τ 8 j 2 = nI q) (hq : q ≤ 10) (hz : z < q) : f_X1_codeAt j (nI z) τ = some (τ 9 j z, τ) := by
  unfold f_X1_codeAt
  rw [if_neg (nI_pos (by omega)), hc, if_neg (nI_ge hz (by omega)), i10, if_neg (nI_ge (by omega) (by omega)), gld_n (by omega) (by decide), bind_some']
theorem X_setC {z q : Nat} {v : Int32} (hc : τ 8 j 2 = nI q) (hq : q ≤ 10) (hz : z < q) : f_X1_set j (nI z) v τ = some (gup τ 9 j z v) := by
  unfold f_X1_set
  rw [X_hasR hc hq hz, bind_some', if_neg o1n0]
  dsimp only
  rw [gst_n (by omega) (by decide), bind_some']
theorem X_insC30 (hn : n < 10) (hk : k ≤ n) : ∀ (m fuel : Nat) (τ : gSt), k + m ≤ n → m < fuel → τ 8 j 2 = nI (n + 1) → (∀ z, z < k + m → τ 9 j z = nI (C z)) → (∀ z, k + m < z → z ≤ n → τ 9 j z = nI (C (z - 1))) →
    Wp (f_X1_insert_30 j (nI k) (nI c) fuel (nI (k + m)) τ) (fun τ' => Fc j τ τ' ∧ XC τ' j (n + 1) (isr C k c)) := by
  intro m
  induction m with
  | zero =>
    intro fuel τ hm hf hc h1 h2
    obtain ⟨fuel, rfl⟩ : ∃ g, fuel = g + 1 := ⟨fuel - 1, by omega⟩
    rw [f_X1_insert_30]
    refine Wp.t (nI_le (by omega) (by omega)) ?_
    refine Wp.eq (X_setC hc (by omega) (show k < n + 1 by omega)) ?_
    refine Wp.ret ⟨Fc.up9 Fc.rf, by simp [gup, hc], fun z hz => ?_⟩
    rcases Nat.lt_trichotomy z k with q | q | q
    · have g := h1 z q
      simp [gup, isr, q, Nat.ne_of_lt q, g]
    · subst q
      simp [gup, isr]
    · have g := h2 z q (by omega)
      have e1 : ¬ z < k := by omega
      have e2 : ¬ z = k := by omega
      simp [gup, isr, e1, e2, g]
  | succ m ih =>
    intro fuel τ hm hf hc h1 h2
    obtain ⟨fuel, rfl⟩ : ∃ g, fuel = g + 1 := ⟨fuel - 1, by omega⟩
    have g := h1 (k + m) (by omega)
    have e0 : nI (k + (m + 1)) - 1 = nI (k + m) := nI_pred (k + m)
    rw [f_X1_insert_30, e0]
    refine Wp.f (nI_ge (by omega) (by omega)) ?_
    refine Wp.eq (X_codeC hc (by omega) (show k + m < n + 1 by omega)) ?_
    refine Wp.eq (X_setC hc (by omega) (show k + (m + 1) < n + 1 by omega)) ?_
    rw [nI_dec (by omega), show k + (m + 1) - 1 = k + m by omega]
    refine Wp.mono (ih fuel _ (by omega) (by omega) (by simp [gup, hc]) (fun z hz => ?_) (fun z hz hz2 => ?_)) (fun τ' hq => ⟨(Fc.up9 Fc.rf).tr hq.1, hq.2⟩)
    · have g2 := h1 z (by omega)
      have e2 : ¬ z = k + (m + 1) := by omega
      simp [gup, e2, g2]
    · by_cases e3 : z = k + (m + 1)
      · subst e3
        have e4 : k + (m + 1) - 1 = k + m := by omega
        simp [gup, e4, g]
      · have g2 := h2 z (by omega) hz2
        simp [gup, e3, g2]
theorem X_insC (hn : n < 10) (hk : k ≤ n) (h : XC τ j n C) : Wp (f_X1_insert j (nI k) (nI c) τ) (fun τ' => Fc j τ τ' ∧ XC τ' j (n + 1) (isr C k c)) := by
  unfold f_X1_insert
  rw [h.1]
  refine Wp.t (by rw [i10]; exact nI_lt hn (by decide)) ?_
  have e : gup τ 8 j 2 (nI n + 1) 8 j 2 - 1 = nI (k + (n - k)) := by
    rw [gup_same, nI_1, nI_pred]
    congr 1
    omega
  rw [e]
  refine Wp.mono (X_insC30 (C := C) hn hk (n - k) gFuel _ (by omega) (Nat.lt_trans (by omega) gFuel_ge) (by simp [gup, nI_1]) (fun z hz => ?_) (fun z h1 h2 => by omega)) (fun τ' hq => ⟨(Fc.up8 Fc.rf).tr hq.1, hq.2⟩)
  have g := h.2 z (by omega)
  simp [gup, g]
theorem X_remC11 (hn : n ≤ 10) (hk : k < n) : ∀ (m y fuel : Nat) (τ : gSt), y + m = n - 1 → k ≤ y → m < fuel → τ 8 j 2 = nI n → (∀ z, z < n → (z < k → τ 9 j z = nI (C z)) ∧ (k ≤ z → z < y → τ 9 j z = nI (C (z + 1))) ∧ (y ≤ z → τ 9 j z = nI (C z))) →
    Wp (f_X1_remove_11 j fuel (nI y) τ) (fun τ' => Fc j τ τ' ∧ XC τ' j (n - 1) (rmv C k)) := by
  intro m
  induction m with
  | zero =>
    intro y fuel τ hm hy hf hc h1
    obtain ⟨fuel, rfl⟩ : ∃ g, fuel = g + 1 := ⟨fuel - 1, by omega⟩
    have e0 : nI n - 1 = nI (n - 1) := by rw [i1, nI_sub (by omega)]
    rw [f_X1_remove_11, hc, e0]
    refine Wp.t (nI_le (by omega) (by omega)) ?_
    refine Wp.ret ⟨Fc.up8 Fc.rf, by simp [gup], fun z hz => ?_⟩
    have g := h1 z (by omega)
    by_cases e : z < k
    · have g2 := g.1 e
      simp [gup, rmv, e, g2]
    · have g2 := g.2.1 (by omega) (by omega)
      simp [gup, rmv, e, g2]
  | succ m ih =>
    intro y fuel τ hm hy hf hc h1
    obtain ⟨fuel, rfl⟩ : ∃ g, fuel = g + 1 := ⟨fuel - 1, by omega⟩
    have e0 : nI n - 1 = nI (n - 1) := by rw [i1, nI_sub (by omega)]
    have g := (h1 (y + 1) (by omega)).2.2 (by omega)
    rw [f_X1_remove_11, hc, e0, nI_1]
    refine Wp.f (nI_ge (by omega) (by omega)) ?_
    refine Wp.eq (X_codeC hc hn (show y + 1 < n by omega)) ?_
    refine Wp.eq (X_setC hc hn (show y < n by omega)) ?_
    refine Wp.mono (ih (y + 1) fuel _ (by omega) (by omega) (by omega) (by simp [gup, hc]) (fun z hz => ?_)) (fun τ' hq => ⟨(Fc.up9 Fc.rf).tr hq.1, hq.2⟩)
    have g2 := h1 z hz
    by_cases e3 : z = y
    · subst e3
      refine ⟨fun q => by omega, fun _ _ => by simp [gup, g], fun q => by omega⟩
    · refine ⟨fun q => ?_, fun q1 q2 => ?_, fun q => ?_⟩
      · have g3 := g2.1 q
        simp [gup, e3, g3]
      · have g3 := g2.2.1 q1 (by omega)
        simp [gup, e3, g3]
      · have g3 := g2.2.2 (by omega)
        simp [gup, e3, g3]
theorem X_remC (hn : n ≤ 10) (hk : k < n) (h : XC τ j n C) : Wp (f_X1_remove j (nI k) τ) (fun τ' => Fc j τ τ' ∧ XC τ' j (n - 1) (rmv C k)) := by
  unfold f_X1_remove
  refine Wp.eq (X_hasR h.1 hn hk) ?_
  refine Wp.f o1n0 ?_
  exact X_remC11 hn hk (n - 1 - k) k gFuel τ (by omega) (Nat.le_refl _) (Nat.lt_trans (by omega) gFuel_ge) h.1 (fun z hz => ⟨fun _ => h.2 z hz, fun q1 q2 => by omega, fun _ => h.2 z hz⟩)
end RW
