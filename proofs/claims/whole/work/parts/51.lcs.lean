/-! the longest common row of codes, from each control on by punches from each one on -/
def lcr (C P : Nat → Nat) (n p : Nat) : Nat → Nat → Nat
  | 0, _ => 0
  | _ + 1, 0 => 0
  | a + 1, b + 1 => if C (n - (a + 1)) = P (p - (b + 1)) then 1 + lcr C P n p a b else max (lcr C P n p a (b + 1)) (lcr C P n p (a + 1) b)
termination_by a b => a + b
theorem lcr_0 {C P : Nat → Nat} {n p b : Nat} : lcr C P n p 0 b = 0 := by rw [lcr]
theorem lcr_b0 {C P : Nat → Nat} {n p a : Nat} : lcr C P n p a 0 = 0 := by cases a <;> rw [lcr]
theorem lcr_ab {C P : Nat → Nat} {n p : Nat} : ∀ (s a b : Nat), a + b ≤ s → (lcr C P n p a b ≤ lcr C P n p a (b + 1) ∧ lcr C P n p a (b + 1) ≤ 1 + lcr C P n p a b) ∧ (lcr C P n p a b ≤ lcr C P n p (a + 1) b ∧ lcr C P n p (a + 1) b ≤ 1 + lcr C P n p a b) := by
  intro s
  induction s with
  | zero =>
    intro a b h
    obtain ⟨rfl, rfl⟩ : a = 0 ∧ b = 0 := by omega
    simp [lcr_0, lcr_b0]
  | succ s ih =>
    intro a b h
    refine ⟨?_, ?_⟩
    · cases a with
      | zero => simp [lcr_0]
      | succ a =>
        cases b with
        | zero =>
          rw [lcr_b0, lcr]
          split
          · rw [lcr_b0]; omega
          · have h1 := (ih a 0 (by omega)).1
            rw [lcr_b0] at h1
            rw [lcr_b0]
            omega
        | succ b =>
          have h1 := ih a b (by omega)
          have h2 := ih a (b + 1) (by omega)
          have h3 := ih (a + 1) b (by omega)
          generalize hX : lcr C P n p (a + 1) (b + 1) = X at *
          rw [lcr]
          split
          · omega
          · omega
    · cases b with
      | zero => simp [lcr_b0]
      | succ b =>
        cases a with
        | zero =>
          rw [lcr_0, lcr]
          split
          · rw [lcr_0]; omega
          · have h1 := (ih 0 b (by omega)).2
            rw [lcr_0] at h1
            rw [lcr_0]
            omega
        | succ a =>
          have h1 := ih a b (by omega)
          have h2 := ih a (b + 1) (by omega)
          have h3 := ih (a + 1) b (by omega)
          generalize hX : lcr C P n p (a + 1) (b + 1) = X at *
          rw [lcr]
          split
          · omega
          · omega
def lc (C P : Nat → Nat) (n p i k : Nat) : Nat := lcr C P n p (n - i) (p - k)
section LCS
variable {C P : Nat → Nat} {n p i k : Nat}
theorem lc_n : lc C P n p n k = 0 := by unfold lc; rw [Nat.sub_self]; exact lcr_0
theorem lc_p : lc C P n p i p = 0 := by unfold lc; rw [Nat.sub_self]; exact lcr_b0
theorem lc_eq (hi : i < n) (hk : k < p) (h : C i = P k) : lc C P n p i k = 1 + lc C P n p (i + 1) (k + 1) := by
  unfold lc
  rw [show n - i = (n - (i + 1)) + 1 by omega, show p - k = (p - (k + 1)) + 1 by omega, lcr, if_pos]
  rw [show n - (n - (i + 1) + 1) = i by omega, show p - (p - (k + 1) + 1) = k by omega]
  exact h
theorem lc_ne (hi : i < n) (hk : k < p) (h : ¬ C i = P k) : lc C P n p i k = max (lc C P n p (i + 1) k) (lc C P n p i (k + 1)) := by
  unfold lc
  rw [show n - i = (n - (i + 1)) + 1 by omega, show p - k = (p - (k + 1)) + 1 by omega, lcr, if_neg]
  rw [show n - (n - (i + 1) + 1) = i by omega, show p - (p - (k + 1) + 1) = k by omega]
  exact h
theorem lc_mk (hk : k < p) : lc C P n p i (k + 1) ≤ lc C P n p i k ∧ lc C P n p i k ≤ 1 + lc C P n p i (k + 1) := by
  unfold lc
  have := (lcr_ab (C := C) (P := P) (n := n) (p := p) _ (n - i) (p - (k + 1)) (Nat.le_refl _)).1
  rw [show p - (k + 1) + 1 = p - k by omega] at this
  exact this
theorem lc_mi (hi : i < n) : lc C P n p (i + 1) k ≤ lc C P n p i k ∧ lc C P n p i k ≤ 1 + lc C P n p (i + 1) k := by
  unfold lc
  have := (lcr_ab (C := C) (P := P) (n := n) (p := p) _ (n - (i + 1)) (p - k) (Nat.le_refl _)).2
  rw [show n - (i + 1) + 1 = n - i by omega] at this
  exact this
theorem lc_le : lc C P n p i k ≤ n - i := by
  by_cases hi : i ≤ n
  · obtain ⟨m, hm⟩ : ∃ m, n - i = m := ⟨_, rfl⟩
    induction m generalizing i with
    | zero => rw [show i = n by omega, lc_n]; omega
    | succ m ih =>
      have h1 := ih (i := i + 1) (by omega) (by omega)
      have h2 := (lc_mi (C := C) (P := P) (n := n) (p := p) (k := k) (show i < n by omega)).2
      omega
  · unfold lc
    rw [show n - i = 0 by omega, lcr_0]
    omega
theorem lc_mono {k' : Nat} (h : k ≤ k') (h' : k' ≤ p) : lc C P n p i k' ≤ lc C P n p i k := by
  obtain ⟨m, rfl⟩ : ∃ m, k' = k + m := ⟨k' - k, by omega⟩
  clear h
  induction m with
  | zero => exact Nat.le_refl _
  | succ m ih =>
    have h1 := (lc_mk (C := C) (P := P) (n := n) (p := p) (i := i) (show k + m < p by omega)).1
    exact Nat.le_trans h1 (ih (by omega))
/-- the first of m places from k on with q -/
def nx (q : Nat → Bool) : Nat → Nat → Option Nat
  | 0, _ => none
  | m + 1, k => if q k then some k else nx q m (k + 1)
theorem nx_some {q : Nat → Bool} : ∀ {m k j : Nat}, nx q m k = some j → k ≤ j ∧ j < k + m ∧ q j = true ∧ ∀ z, k ≤ z → z < j → q z = false := by
  intro m
  induction m with
  | zero => intro k j h; simp [nx] at h
  | succ m ih =>
    intro k j h
    rw [nx] at h
    by_cases hq : q k = true
    · rw [if_pos hq] at h
      cases h
      exact ⟨Nat.le_refl _, by omega, hq, fun z h1 h2 => by omega⟩
    · rw [if_neg hq] at h
      obtain ⟨h1, h2, h3, h4⟩ := ih h
      exact ⟨by omega, by omega, h3, fun z z1 z2 => by
        by_cases e : z = k
        · subst e; simpa using hq
        · exact h4 z (by omega) z2⟩
theorem nx_none {q : Nat → Bool} : ∀ {m k : Nat}, nx q m k = none → ∀ z, k ≤ z → z < k + m → q z = false := by
  intro m
  induction m with
  | zero => intro k _ z h1 h2; omega
  | succ m ih =>
    intro k h z h1 h2
    rw [nx] at h
    by_cases hq : q k = true
    · rw [if_pos hq] at h; cases h
    · rw [if_neg hq] at h
      by_cases e : z = k
      · subst e; simpa using hq
      · exact ih h z (by omega) (by omega)
/-- which punch from f on control i is taken by -/
def tq (C P : Nat → Nat) (n p i f k : Nat) : Bool := decide (C i = P k) && decide (1 + lc C P n p (i + 1) (k + 1) = lc C P n p i f)
def tk (C P : Nat → Nat) (n p i f : Nat) : Option Nat := nx (tq C P n p i f) (p - f) f
/-- where punches for control i begin -/
def fr (C P : Nat → Nat) (n p : Nat) : Nat → Nat
  | 0 => 0
  | i + 1 => match tk C P n p i (fr C P n p i) with
    | none => fr C P n p i
    | some k => k + 1
/-- the match -/
def mt (C P : Nat → Nat) (n p i : Nat) : Option Nat := tk C P n p i (fr C P n p i)
theorem fr_le (i : Nat) : fr C P n p i ≤ p := by
  induction i with
  | zero => exact Nat.zero_le _
  | succ i ih =>
    rw [fr]
    split
    · exact ih
    · next k h =>
      have := (nx_some h).2.1
      omega
/-- the first punch of the code decides -/
theorem tk_first (hi : i < n) {f : Nat} (hf : f ≤ p) : tk C P n p i f = match nx (fun k => decide (C i = P k)) (p - f) f with
    | none => none
    | some k => if 1 + lc C P n p (i + 1) (k + 1) = lc C P n p i f then some k else none := by
  unfold tk
  cases h : nx (fun k => decide (C i = P k)) (p - f) f with
  | none =>
    simp only
    cases h2 : nx (tq C P n p i f) (p - f) f with
    | none => rfl
    | some j =>
      obtain ⟨a1, a2, a3, -⟩ := nx_some h2
      have := nx_none h j a1 a2
      simp [tq] at a3 this
      exact absurd a3.1 this
  | some k =>
    obtain ⟨a1, a2, a3, a4⟩ := nx_some h
    simp only [decide_eq_true_eq] at a3
    have key : ∀ j, k ≤ j → j < p → C i = P j → 1 + lc C P n p (i + 1) (j + 1) = lc C P n p i f → 1 + lc C P n p (i + 1) (k + 1) = lc C P n p i f := by
      intro j h1 h2 h3 h4
      have e1 := lc_mono (C := C) (P := P) (n := n) (p := p) (i := i + 1) (show k + 1 ≤ j + 1 by omega) (by omega)
      have e2 := lc_mono (C := C) (P := P) (n := n) (p := p) (i := i) a1 (by omega)
      have e3 := lc_eq (C := C) (P := P) (n := n) (p := p) hi (show k < p by omega) a3
      omega
    by_cases hc : 1 + lc C P n p (i + 1) (k + 1) = lc C P n p i f
    · simp only [if_pos hc]
      cases h2 : nx (tq C P n p i f) (p - f) f with
      | none =>
        have := nx_none h2 k a1 (by omega)
        simp [tq, a3, hc] at this
      | some j =>
        obtain ⟨b1, b2, b3, b4⟩ := nx_some h2
        by_cases e : j = k
        · rw [e]
        · exfalso
          rcases Nat.lt_or_gt_of_ne e with q | q
          · have := a4 j b1 q
            simp [tq] at b3 this
            exact this b3.1
          · have := b4 k a1 q
            simp [tq, a3, hc] at this
    · simp only [if_neg hc]
      cases h2 : nx (tq C P n p i f) (p - f) f with
      | none => rfl
      | some j =>
        exfalso
        obtain ⟨b1, b2, b3, b4⟩ := nx_some h2
        simp [tq] at b3
        rcases Nat.lt_or_ge j k with q | q
        · have := a4 j b1 q
          simp at this
          exact this b3.1
        · exact hc (key j q (by omega) b3.1 b3.2)
end LCS
