/-! packs: who took a code, sorted by time, on both sides -/
section PG
variable {d : Nat → Nat} {σ σ' : gSt} {a b c i : Nat}
def ipT (A : Nat → Nat) (t : Nat) : Nat → Nat
  | 0 => 0
  | k + 1 => if A k ≤ t then k + 1 else ipT A t k
theorem ipT_le {A : Nat → Nat} {t : Nat} : ∀ n, ipT A t n ≤ n := by
  intro n
  induction n with
  | zero => exact Nat.le_refl _
  | succ n ih => rw [ipT]; split <;> omega
def insT (t b : Nat) (q : Nat × (Nat → Nat) × (Nat → Nat)) : Nat × (Nat → Nat) × (Nat → Nat) := (q.1 + 1, isr q.2.1 (ipT q.2.1 t q.1) t, isr q.2.2 (ipT q.2.1 t q.1) b)
section XG
variable {A B : Nat → Nat} {t r n : Nat}
theorem X_srt65 {p : Nat} (hp : p ≤ n) (hn : n < 100) (τ : gSt) (hc : τ 22 0 3 = nI n) (h1 : ∀ j, j < p → τ 23 0 j = nI (A j) ∧ τ 24 0 j = nI (B j)) (h2 : ∀ j, p < j → j ≤ n → τ 23 0 j = nI (A (j - 1)) ∧ τ 24 0 j = nI (B (j - 1))) :
    Wp (f_X6_sortIn_65 (nI t) (nI r) (nI p) τ) (fun τ' => (∀ k i s, k ≠ 23 → k ≠ 24 → ¬ (k = 22 ∧ s = 3) → τ' k i s = τ k i s) ∧ τ' 22 0 3 = nI (n + 1) ∧ ∀ j, j ≤ n → τ' 23 0 j = nI (isr A p t j) ∧ τ' 24 0 j = nI (isr B p r j)) := by
  unfold f_X6_sortIn_65
  refine Wp.st p rfl (by omega) (by decide) ?_
  refine Wp.st p rfl (by omega) (by decide) ?_
  refine Wp.ret ⟨fun k i s q1 q2 q3 => ?_, ?_, fun j hj => ?_⟩
  · have q4 : ¬ (k = 22 ∧ i = 0 ∧ s = 3) := fun q => q3 ⟨q.1, q.2.2⟩
    simp only [gup, q1, q2, q4, false_and, if_false]
  · simp [gup, hc, nI_1]
  · rcases Nat.lt_trichotomy j p with q | q | q
    · have g := h1 j q
      simp [gup, isr, q, Nat.ne_of_lt q, g.1, g.2]
    · subst q
      simp [gup, isr]
    · have g := h2 j q hj
      have e1 : ¬ j < p := by omega
      have e2 : ¬ j = p := by omega
      simp [gup, isr, e1, e2, g.1, g.2]
theorem X_srt15 (hA : ∀ j, j < n → A j < 10000) (ht : t < 10000) (hn : n < 100) : ∀ (m fuel : Nat) (τ : gSt), m ≤ n → m < fuel → τ 22 0 3 = nI n → (∀ j, j < m → τ 23 0 j = nI (A j) ∧ τ 24 0 j = nI (B j)) → (∀ j, m < j → j ≤ n → τ 23 0 j = nI (A (j - 1)) ∧ τ 24 0 j = nI (B (j - 1))) →
    Wp (f_X6_sortIn_15 (nI t) (nI r) fuel (nI m) τ) (fun τ' => (∀ k i s, k ≠ 23 → k ≠ 24 → ¬ (k = 22 ∧ s = 3) → τ' k i s = τ k i s) ∧ τ' 22 0 3 = nI (n + 1) ∧ ∀ j, j ≤ n → τ' 23 0 j = nI (isr A (ipT A t m) t j) ∧ τ' 24 0 j = nI (isr B (ipT A t m) r j)) := by
  intro m
  induction m with
  | zero =>
    intro fuel τ hm hf hc h1 h2
    obtain ⟨fuel, rfl⟩ : ∃ g, fuel = g + 1 := ⟨fuel - 1, by omega⟩
    rw [f_X6_sortIn_15]
    exact Wp.t (by decide) (X_srt65 hm hn τ hc h1 h2)
  | succ m ih =>
    intro fuel τ hm hf hc h1 h2
    obtain ⟨fuel, rfl⟩ : ∃ g, fuel = g + 1 := ⟨fuel - 1, by omega⟩
    have g := h1 m (by omega)
    have b1 := hA m (by omega)
    rw [f_X6_sortIn_15, nI_pred]
    refine Wp.f (nI_nle (by omega) (by omega)) ?_
    refine Wp.ld m rfl (by omega) (by decide) g.1 ?_
    rw [ipT]
    by_cases e : A m ≤ t
    · rw [if_pos e]
      exact Wp.t (nI_le e (by omega)) (X_srt65 hm hn τ hc h1 h2)
    · rw [if_neg e]
      refine Wp.f (nI_ge (by omega) (by omega)) ?_
      refine Wp.ld m rfl (by omega) (by decide) g.1 ?_
      refine Wp.st (m + 1) rfl (by omega) (by decide) ?_
      refine Wp.ld (v := nI (B m)) m rfl (by omega) (by decide) (by simp [gup, g.2]) ?_
      refine Wp.st (m + 1) rfl (by omega) (by decide) ?_
      rw [nI_dec (by omega)]
      refine Wp.mono (ih fuel _ (by omega) (by omega) (by simp [gup, hc]) (fun j hj => ?_) (fun j hj hj2 => ?_)) (fun τ' hq => ⟨fun k i s q1 q2 q3 => (hq.1 k i s q1 q2 q3).trans (by simp only [gup, q1, q2, false_and, if_false]), hq.2⟩)
      · have g2 := h1 j (by omega)
        have e2 : ¬ j = m + 1 := by omega
        simp [gup, e2, g2.1, g2.2]
      · by_cases e3 : j = m + 1
        · subst e3
          simp [gup]
        · have g2 := h2 j (by omega) hj2
          simp [gup, e3, g2.1, g2.2]
theorem X_srtIn (hA : ∀ j, j < n → A j < 10000) (ht : t < 10000) (hn : n < 100) {τ : gSt} (hc : τ 22 0 3 = nI n) (h1 : ∀ j, j < n → τ 23 0 j = nI (A j) ∧ τ 24 0 j = nI (B j)) :
    Wp (f_X6_sortIn (nI t) (nI r) τ) (fun τ' => (∀ k i s, k ≠ 23 → k ≠ 24 → ¬ (k = 22 ∧ s = 3) → τ' k i s = τ k i s) ∧ τ' 22 0 3 = nI (n + 1) ∧ ∀ j, j ≤ n → τ' 23 0 j = nI (isr A (ipT A t n) t j) ∧ τ' 24 0 j = nI (isr B (ipT A t n) r j)) := by
  unfold f_X6_sortIn
  rw [hc]
  refine Wp.t (by rw [i100]; exact nI_lt hn (by decide)) ?_
  exact X_srt15 hA ht hn n gFuel τ (Nat.le_refl _) (Nat.lt_trans (by omega) gFuel_ge) hc h1 (fun j h1 h2 => by omega)
theorem M_srt89 (hA : ∀ j, j < n → A j < 10000) (ht : t < 10000) (hn : n < 100) {v1 v3 : Int32} {k7 k25 : Int32 → gSt → Option gSt} {Q : gSt → Prop} : ∀ (m fuel : Nat) (τ : gSt), m ≤ n → m < fuel → τ 28 0 27 = nI n → (∀ j, j < m → τ 38 0 j = nI (A j) ∧ τ 39 0 j = nI (B j)) → (∀ j, m < j → j ≤ n → τ 38 0 j = nI (A (j - 1)) ∧ τ 39 0 j = nI (B (j - 1))) →
    (∀ τ', (∀ k i s, k ≠ 38 → k ≠ 39 → ¬ (k = 28 ∧ s = 27) → τ' k i s = τ k i s) → τ' 28 0 27 = nI (n + 1) → (∀ j, j ≤ n → τ' 38 0 j = nI (isr A (ipT A t m) t j) ∧ τ' 39 0 j = nI (isr B (ipT A t m) r j)) → Wp (k25 (v3 + 1) τ') Q) →
    Wp (f_X12_laysMet_89 v1 (nI r) v3 (nI t) k7 k25 fuel (nI m) τ) Q := by
  have fin : ∀ (p : Nat) (τ : gSt), p ≤ n → τ 28 0 27 = nI n → (∀ j, j < p → τ 38 0 j = nI (A j) ∧ τ 39 0 j = nI (B j)) → (∀ j, p < j → j ≤ n → τ 38 0 j = nI (A (j - 1)) ∧ τ 39 0 j = nI (B (j - 1))) →
      (∀ τ', (∀ k i s, k ≠ 38 → k ≠ 39 → ¬ (k = 28 ∧ s = 27) → τ' k i s = τ k i s) → τ' 28 0 27 = nI (n + 1) → (∀ j, j ≤ n → τ' 38 0 j = nI (isr A p t j) ∧ τ' 39 0 j = nI (isr B p r j)) → Wp (k25 (v3 + 1) τ') Q) →
      Wp (f_X12_laysMet_146 v1 (nI r) v3 (nI t) (nI p) k7 k25 τ) Q := by
    intro p τ hp hc h1 h2 kk
    unfold f_X12_laysMet_146
    refine Wp.st p rfl (by omega) (by decide) ?_
    refine Wp.st p rfl (by omega) (by decide) ?_
    refine kk _ (fun k i s q1 q2 q3 => ?_) (by simp [gup, hc, nI_1]) (fun j hj => ?_)
    · have q4 : ¬ (k = 28 ∧ i = 0 ∧ s = 27) := fun q => q3 ⟨q.1, q.2.2⟩
      simp only [gup, q1, q2, q4, false_and, if_false]
    · rcases Nat.lt_trichotomy j p with q | q | q
      · have g := h1 j q
        simp [gup, isr, q, Nat.ne_of_lt q, g.1, g.2]
      · subst q
        simp [gup, isr]
      · have g := h2 j q hj
        have e1 : ¬ j < p := by omega
        have e2 : ¬ j = p := by omega
        simp [gup, isr, e1, e2, g.1, g.2]
  intro m
  induction m with
  | zero =>
    intro fuel τ hm hf hc h1 h2 kk
    obtain ⟨fuel, rfl⟩ : ∃ g, fuel = g + 1 := ⟨fuel - 1, by omega⟩
    rw [f_X12_laysMet_89]
    exact Wp.t (by decide) (fin 0 τ hm hc h1 h2 kk)
  | succ m ih =>
    intro fuel τ hm hf hc h1 h2 kk
    obtain ⟨fuel, rfl⟩ : ∃ g, fuel = g + 1 := ⟨fuel - 1, by omega⟩
    have g := h1 m (by omega)
    have b1 := hA m (by omega)
    rw [f_X12_laysMet_89, nI_pred]
    refine Wp.f (nI_nle (by omega) (by omega)) ?_
    refine Wp.ld m rfl (by omega) (by decide) g.1 ?_
    rw [ipT] at kk
    by_cases e : A m ≤ t
    · rw [if_pos e] at kk
      exact Wp.t (nI_le e (by omega)) (fin (m + 1) τ hm hc h1 h2 kk)
    · rw [if_neg e] at kk
      refine Wp.f (nI_ge (by omega) (by omega)) ?_
      refine Wp.ld m rfl (by omega) (by decide) g.1 ?_
      refine Wp.st (m + 1) rfl (by omega) (by decide) ?_
      refine Wp.ld (v := nI (B m)) m rfl (by omega) (by decide) (by simp [gup, g.2]) ?_
      refine Wp.st (m + 1) rfl (by omega) (by decide) ?_
      rw [nI_dec (by omega)]
      refine ih fuel _ (by omega) (by omega) (by simp [gup, hc]) (fun j hj => ?_) (fun j hj hj2 => ?_) (fun τ' q1 q2 q3 => kk τ' (fun k i s e1 e2 e3 => (q1 k i s e1 e2 e3).trans (by simp only [gup, e1, e2, false_and, if_false])) q2 q3)
      · have g2 := h1 j (by omega)
        have e2 : ¬ j = m + 1 := by omega
        simp [gup, e2, g2.1, g2.2]
      · by_cases e3 : j = m + 1
        · subst e3
          simp [gup]
        · have g2 := h2 j (by omega) hj2
          simp [gup, e3, g2.1, g2.2]
end XG
/-- a punch is taken by one of the first n controls -/
def tkB (d : Nat → Nat) (a k : Nat) : Nat → Bool
  | 0 => false
  | i + 1 => tkB d a k i || decide (Mo d a i = some k)
theorem tkB_iff {k : Nat} : ∀ n, tkB d a k n = true ↔ ∃ i, i < n ∧ Mo d a i = some k := by
  intro n
  induction n with
  | zero => exact ⟨(fun h => nomatch h), (fun ⟨i, h, _⟩ => absurd h (Nat.not_lt_zero _))⟩
  | succ n ih =>
    rw [tkB, Bool.or_eq_true, decide_eq_true_eq, ih]
    constructor
    · rintro (⟨i, h1, h2⟩ | h)
      · exact ⟨i, by omega, h2⟩
      · exact ⟨n, by omega, h⟩
    · rintro ⟨i, h1, h2⟩
      by_cases e : i = n
      · subst e; exact Or.inr h2
      · exact Or.inl ⟨i, by omega, h2⟩
/-- those of one runner come in, by his punches; by his controls -/
def stK (d : Nat → Nat) (u a : Nat) (s : Nat × (Nat → Nat) × (Nat → Nat)) : Nat → Nat × (Nat → Nat) × (Nat → Nat)
  | 0 => s
  | k + 1 => if dP d a k = u ∧ tkB d a k (nown d a) = true then insT (dT d a k) a (stK d u a s k) else stK d u a s k
def stI (d : Nat → Nat) (u a : Nat) (s : Nat × (Nat → Nat) × (Nat → Nat)) : Nat → Nat × (Nat → Nat) × (Nat → Nat)
  | 0 => s
  | i + 1 => match Mo d a i with
    | none => stI d u a s i
    | some k => if dP d a k = u then insT (dT d a k) a (stI d u a s i) else stI d u a s i
theorem stK_skip {u : Nat} {s : Nat × (Nat → Nat) × (Nat → Nat)} : ∀ m k, (∀ z, k ≤ z → z < k + m → tkB d a z (nown d a) = false) → stK d u a s (k + m) = stK d u a s k := by
  intro m k
  induction m with
  | zero => intro _; rfl
  | succ m ih =>
    intro h
    show stK d u a s (k + m + 1) = _
    rw [stK, if_neg (fun q => by rw [h (k + m) (by omega) (by omega)] at q; exact nomatch q.2)]
    exact ih (fun z h1 h2 => h z h1 (by omega))
abbrev fro (d : Nat → Nat) (a i : Nat) : Nat := fr (dC d (d (37 + a))) (dP d a) (nown d a) (d (67 + a)) i
theorem Mo_fr {k : Nat} (h : Mo d a i = some k) : fro d a i ≤ k ∧ k < d (67 + a) ∧ fro d a (i + 1) = k + 1 := mt_fr h
theorem Mo_frn (h : Mo d a i = none) : fro d a (i + 1) = fro d a i := by
  show fr _ _ _ _ (i + 1) = _
  rw [fr]
  have : tk (dC d (d (37 + a))) (dP d a) (nown d a) (d (67 + a)) i (fr (dC d (d (37 + a))) (dP d a) (nown d a) (d (67 + a)) i) = none := h
  rw [this]
theorem stK_mo {u k : Nat} {s : Nat × (Nat → Nat) × (Nat → Nat)} (hm : Mo d a i = some k) : stK d u a s k = stK d u a s (fro d a i) := by
  have g := Mo_fr hm
  have := stK_skip (d := d) (a := a) (u := u) (s := s) (k - fro d a i) (fro d a i) (fun z h1 h2 => by
    cases hz : tkB d a z (nown d a) with
    | false => rfl
    | true =>
      exfalso
      obtain ⟨i', h3, h4⟩ := (tkB_iff _).mp hz
      rcases Nat.lt_trichotomy i' i with q | q | q
      · have := (Mo_fr h4).2.2
        have h5 : fro d a (i' + 1) ≤ fro d a i := fr_mono (by omega)
        omega
      · subst q; rw [hm] at h4; cases h4; omega
      · have := mt_lt q hm h4
        omega)
  rw [show fro d a i + (k - fro d a i) = k by omega] at this
  exact this
theorem stI_stK {u : Nat} {s : Nat × (Nat → Nat) × (Nat → Nat)} : ∀ i, i ≤ nown d a → stI d u a s i = stK d u a s (fro d a i) := by
  intro i
  induction i with
  | zero => intro _; rfl
  | succ i ih =>
    intro hi
    have h := ih (by omega)
    rw [stI]
    cases hm : Mo d a i with
    | none => rw [Mo_frn hm]; exact h
    | some k =>
      have g := Mo_fr hm
      rw [g.2.2, stK]
      have htk : tkB d a k (nown d a) = true := (tkB_iff _).mpr ⟨i, by omega, hm⟩
      rw [stK_mo hm, ← h]
      dsimp only
      by_cases e : dP d a k = u
      · rw [if_pos e, if_pos ⟨e, htk⟩]
      · rw [if_neg e, if_neg (fun q => e q.1)]
theorem stI_all {u : Nat} {s : Nat × (Nat → Nat) × (Nat → Nat)} : stI d u a s (nown d a) = stK d u a s (d (67 + a)) := by
  have hle : fro d a (nown d a) ≤ d (67 + a) := fr_le _
  have := stK_skip (d := d) (a := a) (u := u) (s := s) (d (67 + a) - fro d a (nown d a)) (fro d a (nown d a)) (fun z h1 h2 => by
    cases hz : tkB d a z (nown d a) with
    | false => rfl
    | true =>
      exfalso
      obtain ⟨i', h3, h4⟩ := (tkB_iff _).mp hz
      have := (Mo_fr h4).2.2
      have h5 : fro d a (i' + 1) ≤ fro d a (nown d a) := fr_mono (by omega)
      omega)
  rw [show fro d a (nown d a) + (d (67 + a) - fro d a (nown d a)) = d (67 + a) by omega] at this
  rw [stI_stK _ (Nat.le_refl _), this]
def gs (d : Nat → Nat) (u : Nat) : Nat → Nat × (Nat → Nat) × (Nat → Nat)
  | 0 => (0, fun _ => 0, fun _ => 0)
  | a + 1 => stK d u a (gs d u a) (d (67 + a))
/-- small numbers -/
def gok2 (m : Nat) (s : Nat × (Nat → Nat) × (Nat → Nat)) : Prop := s.1 ≤ m ∧ ∀ j, j < s.1 → s.2.1 j < 10000 ∧ s.2.2 j < 10
theorem gok2_ins {m t : Nat} {s : Nat × (Nat → Nat) × (Nat → Nat)} (h : gok2 m s) (ht : t < 10000) (ha : a < 10) : gok2 (m + 1) (insT t a s) := by
  have hl := ipT_le (A := s.2.1) (t := t) s.1
  refine ⟨Nat.succ_le_succ h.1, fun j hj => ⟨?_, ?_⟩⟩
  · exact isr_all (Q := fun v => v < 10000) hl (fun j hj => (h.2 j hj).1) ht hj
  · exact isr_all (Q := fun v => v < 10) hl (fun j hj => (h.2 j hj).2) ha hj
theorem gok2_m {m m' : Nat} {s : Nat × (Nat → Nat) × (Nat → Nat)} (h : gok2 m s) (hm : m ≤ m') : gok2 m' s := ⟨Nat.le_trans h.1 hm, h.2⟩
theorem stI_ok (hw : WF d) {u m : Nat} {s : Nat × (Nat → Nat) × (Nat → Nat)} (ha : a < 10) (h : gok2 m s) : ∀ i, gok2 (m + i) (stI d u a s i) := by
  intro i
  induction i with
  | zero => exact h
  | succ i ih =>
    rw [stI]
    cases hm : Mo d a i with
    | none => exact gok2_m ih (by omega)
    | some k =>
      dsimp only
      by_cases e : dP d a k = u
      · rw [if_pos e]; exact gok2_ins ih (hw.b _) ha
      · rw [if_neg e]; exact gok2_m ih (by omega)
theorem gs_ok (hw : WF d) {u : Nat} : ∀ a, a ≤ d 1 → gok2 (10 * a) (gs d u a) := by
  intro a
  induction a with
  | zero => intro _; exact ⟨Nat.le_refl _, fun j hj => absurd hj (Nat.not_lt_zero _)⟩
  | succ a ih =>
    intro ha
    have ho := hw.own (show a < d 1 by omega)
    have hr := hw.2.1
    rw [gs, ← stI_all]
    exact gok2_m (stI_ok hw (show a < 10 by omega) (ih (by omega)) (nown d a)) (by omega)
/-- the class holds these rows; the reference does -/
def GX (s : Nat × (Nat → Nat) × (Nat → Nat)) (τ : gSt) : Prop := τ 22 0 3 = nI s.1 ∧ ∀ j, j < s.1 → τ 23 0 j = nI (s.2.1 j) ∧ τ 24 0 j = nI (s.2.2 j)
def GM (s : Nat × (Nat → Nat) × (Nat → Nat)) (τ : gSt) : Prop := τ 28 0 27 = nI s.1 ∧ ∀ j, j < s.1 → τ 38 0 j = nI (s.2.1 j) ∧ τ 39 0 j = nI (s.2.2 j)
end PG
