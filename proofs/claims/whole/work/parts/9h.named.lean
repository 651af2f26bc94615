/-! named -/
section ND
variable {B N : Nat → Nat} {n s p m L t : Nat} {σ τ τ' : gSt} {d : Nat → Nat}
theorem X_cNamed {C w i0 : Nat} {nm : Nat → Nat} (hi : i0 < 2) (h3 : σ 3 i0 3 = nI C) (hC : C ≤ 3) (hn : ∀ c, c < C → σ 8 (3 * i0 + c) 1 = nI (nm c) ∧ nm c < 2147483648) (hw : w < 2147483648) : f_X4_courseNamed i0 (nI w) σ = some (xo (nx (fun c => decide (nm c = w)) C 0), σ) := by
  have key : ∀ (m k fuel : Nat), k + m = C → m < fuel → f_X4_courseNamed_2 i0 (nI w) fuel (nI k) σ = some (xo (nx (fun c => decide (nm c = w)) m k), σ) := by
    intro m
    induction m with
    | zero =>
      intro k fuel h1 h2
      obtain ⟨fuel, rfl⟩ : ∃ g, fuel = g + 1 := ⟨fuel - 1, by omega⟩
      rw [f_X4_courseNamed_2, h3, if_pos (nI_le (by omega) (by omega))]; rfl
    | succ m ih =>
      intro k fuel h1 h2
      obtain ⟨fuel, rfl⟩ : ∃ g, fuel = g + 1 := ⟨fuel - 1, by omega⟩
      have hk := hn k (by omega)
      have e : f_X4_courseAt i0 (nI k) σ = some (3 * i0 + k, σ) := by
        unfold f_X4_courseAt
        rw [if_neg (nI_pos (by omega)), if_neg (by rw [i3]; exact nI_ge (by omega) (by decide)), gox_n (by omega) (by decide), bind_some']
        unfold grf
        rw [if_pos (by omega)]
      rw [f_X4_courseNamed_2, h3, if_neg (nI_ge (by omega) (by omega)), e, bind_some', nx]
      by_cases c : nm k = w
      · rw [if_pos (decide_eq_true c)]
        exact if_pos (show σ 8 (3 * i0 + k) 1 = nI w by rw [hk.1, c])
      · rw [if_neg (show ¬ decide (nm k = w) = true from fun q => c (of_decide_eq_true q))]
        refine (if_neg (show ¬ σ 8 (3 * i0 + k) 1 = nI w by rw [hk.1]; exact nI_ne hk.2 hw c)).trans ?_
        rw [nI_1]
        exact ih (k + 1) fuel (by omega) (by omega)
  exact key C 0 gFuel (by omega) (Nat.lt_trans (by omega) gFuel_ge)
theorem X_rNamed {C w i0 : Nat} {nm : Nat → Nat} (hi : i0 < 2) (h3 : σ 3 i0 4 = nI C) (hC : C ≤ 10) (hn : ∀ c, c < C → σ 10 (10 * i0 + c) 4 = nI (nm c) ∧ nm c < 2147483648) (hw : w < 2147483648) : f_X4_runnerNamed i0 (nI w) σ = some (xo (nx (fun c => decide (nm c = w)) C 0), σ) := by
  have key : ∀ (m k fuel : Nat), k + m = C → m < fuel → f_X4_runnerNamed_2 i0 (nI w) fuel (nI k) σ = some (xo (nx (fun c => decide (nm c = w)) m k), σ) := by
    intro m
    induction m with
    | zero =>
      intro k fuel h1 h2
      obtain ⟨fuel, rfl⟩ : ∃ g, fuel = g + 1 := ⟨fuel - 1, by omega⟩
      rw [f_X4_runnerNamed_2, h3, if_pos (nI_le (by omega) (by omega))]; rfl
    | succ m ih =>
      intro k fuel h1 h2
      obtain ⟨fuel, rfl⟩ : ∃ g, fuel = g + 1 := ⟨fuel - 1, by omega⟩
      have hk := hn k (by omega)
      have e : f_X4_runnerAt i0 (nI k) σ = some (10 * i0 + k, σ) := by
        unfold f_X4_runnerAt
        rw [if_neg (nI_pos (by omega)), if_neg (by rw [i10]; exact nI_ge (by omega) (by decide)), gox_n (by omega) (by decide), bind_some']
        unfold grf
        rw [if_pos (by omega)]
      rw [f_X4_runnerNamed_2, h3, if_neg (nI_ge (by omega) (by omega)), e, bind_some', nx]
      by_cases c : nm k = w
      · rw [if_pos (decide_eq_true c)]
        exact if_pos (show σ 10 (10 * i0 + k) 4 = nI w by rw [hk.1, c])
      · rw [if_neg (show ¬ decide (nm k = w) = true from fun q => c (of_decide_eq_true q))]
        refine (if_neg (show ¬ σ 10 (10 * i0 + k) 4 = nI w by rw [hk.1]; exact nI_ne hk.2 hw c)).trans ?_
        rw [nI_1]
        exact ih (k + 1) fuel (by omega) (by omega)
  exact key C 0 gFuel (by omega) (Nat.lt_trans (by omega) gFuel_ge)
theorem nm_b (hw : isW (fun q => N (6 * s + q))) : 0 < wval (fun q => N (6 * s + q)) 6 ∧ wval (fun q => N (6 * s + q)) 6 < 1073741824 := by
  obtain ⟨l, l1, l2, l3, l4, l5⟩ := isW_len hw
  rw [l5]
  have h1 := wv_b (B := fun q => N (6 * s + q)) (p := 0) (m := l) (fun z a b => l3 z (by omega))
  have h2 : 32 ^ l ≤ 32 ^ 6 := Nat.pow_le_pow_right (by decide) l2
  refine ⟨?_, by omega⟩
  obtain ⟨l, rfl⟩ : ∃ k, l = k + 1 := ⟨l - 1, by omega⟩
  have := l3 l (by omega)
  rw [wv]
  simp only [Nat.zero_add]
  omega
/-- the end of a text without blanks -/
def rtr (B : Nat → Nat) (f : Nat) : Nat → Nat
  | 0 => f
  | m + 1 => if B (f + m) = 32 then rtr B f m else f + m + 1
theorem rtr_b {f : Nat} : ∀ m, f ≤ rtr B f m ∧ rtr B f m ≤ f + m := by
  intro m
  induction m with
  | zero => exact ⟨Nat.le_refl _, Nat.le_refl _⟩
  | succ m ih =>
    rw [rtr]
    split
    · exact ⟨ih.1, by omega⟩
    · exact ⟨by omega, by omega⟩
/-- a word alone: its number, 0 if it is none -/
def wal (B : Nat → Nat) (f m : Nat) : Nat := if m ≤ 6 ∧ (rn (isL B) m f = f + m) then wv B f m else 0
theorem wal_L {f m : Nat} : rn (isL B) m f = f + m ↔ ∀ z, z < m → 97 ≤ B (f + z) ∧ B (f + z) ≤ 122 := by
  have hr := rn_b (q := isL B) m f
  constructor
  · intro h z hz
    exact of_decide_eq_true (hr.2.2.1 (f + z) (by omega) (by omega))
  · intro h
    refine Decidable.byContradiction (fun c => ?_)
    rcases hr.2.2.2 with q | q
    · exact c q
    · have := h (rn (isL B) m f - f) (by omega)
      rw [show f + (rn (isL B) m f - f) = rn (isL B) m f by omega] at this
      have e : isL B (rn (isL B) m f) = true := decide_eq_true this
      rw [e] at q
      cases q
def XT0 (B : Nat → Nat) (t : Nat) (τ : gSt) : Prop := t ≤ 900 ∧ τ 1 0 1 = nI t ∧ ∀ j, j < t → B j < 256 ∧ τ 2 0 j = nI (B j)
theorem X_byteT (h : XT0 B t τ) {j : Nat} (hj : j < t) : f_X10_byteAt (nI j) τ = some (nI (B j), τ) := by
  unfold f_X10_byteAt
  have h1 := h.1
  rw [if_neg (nI_pos (by omega)), h.2.1, if_neg (nI_ge (by omega) (by omega)), if_neg (by rw [i900]; exact nI_ge (by omega) (by decide)), gld_n (by omega) (by decide), bind_some', (h.2.2 j hj).2]
theorem X_wa64 (h : XT0 B t τ) {f m : Nat} (hm : m ≤ 6) (hf : f + m ≤ t) : ∀ (r k fuel : Nat), k + r = m → r < fuel → (∀ z, z < k → 97 ≤ B (f + z) ∧ B (f + z) ≤ 122) → f_X10_wordAlone_64 (nI (f + m)) fuel (nI (wv B f k)) (nI (f + k)) τ = some (nI (if rn (isL B) r (f + k) = f + m then wv B f m else 0), τ) := by
  have ht := h.1
  intro r
  induction r with
  | zero =>
    intro k fuel h1 h2 h3
    obtain ⟨fuel, rfl⟩ : ∃ g, fuel = g + 1 := ⟨fuel - 1, by omega⟩
    obtain rfl : k = m := by omega
    rw [f_X10_wordAlone_64, if_pos (nI_le (Nat.le_refl _) (by omega)), if_pos (show rn (isL B) 0 (f + k) = f + k from rfl)]
  | succ r ih =>
    intro k fuel h1 h2 h3
    obtain ⟨fuel, rfl⟩ : ∃ g, fuel = g + 1 := ⟨fuel - 1, by omega⟩
    have bb := (h.2.2 (f + k) (by omega)).1
    rw [f_X10_wordAlone_64, if_neg (nI_ge (by omega) (by omega)), X_byteT h (by omega), bind_some']
    dsimp only
    rw [X_isLetter bb, bind_some', rn]
    by_cases c : 97 ≤ B (f + k) ∧ B (f + k) ≤ 122
    · have hwb := wv_b (B := B) (p := f) (m := k) (fun y q1 q2 => by have := h3 (y - f) (by omega); rw [show f + (y - f) = y by omega] at this; exact this)
      have hpw : 32 ^ k ≤ 32 ^ 5 := Nat.pow_le_pow_right (by decide) (by omega)
      rw [if_pos c, if_pos (show isL B (f + k) = true from decide_eq_true c), if_neg o1n0]
      dsimp only
      rw [X_byteT h (by omega), bind_some']
      dsimp only
      rw [longer_n (by omega) c, bind_some', nI_1]
      exact ih (k + 1) fuel (by omega) (by omega) (fun z hz => by
        by_cases ez : z = k
        · rw [ez]; exact c
        · exact h3 z (by omega))
    · rw [if_neg c, if_neg (show ¬ isL B (f + k) = true from fun q => c (of_decide_eq_true q)), if_pos rfl, if_neg (by omega)]
      rfl
theorem X_wa48 (h : XT0 B t τ) {f m : Nat} (hf : f + m ≤ t) : f_X10_wordAlone_48 (nI f) (nI (f + m)) τ = some (nI (wal B f m), τ) := by
  have ht := h.1
  unfold f_X10_wordAlone_48
  rw [nI_sub (by omega), show f + m - f = m by omega]
  unfold wal
  by_cases c : m ≤ 6
  · rw [if_pos (by rw [i6]; exact nI_le c (by decide))]
    have := X_wa64 h c hf m 0 gFuel (by omega) (Nat.lt_trans (by omega) gFuel_ge) (fun z hz => absurd hz (Nat.not_lt_zero _))
    refine Eq.trans this ?_
    congr 2
    by_cases c2 : rn (isL B) m (f + 0) = f + m
    · rw [if_pos c2, if_pos ⟨c, c2⟩]
    · rw [if_neg c2, if_neg (fun q => c2 q.2)]
  · rw [if_neg (by rw [i6]; exact nI_ge (by omega) (by omega)), if_neg (fun q => c q.1)]
    rfl
theorem X_wa25 (h : XT0 B t τ) {f : Nat} : ∀ (m fuel : Nat), f + m ≤ t → m < fuel → f_X10_wordAlone_25 (nI f) fuel (nI (f + m)) τ = some (nI (wal B f (rtr B f m - f)), τ) := by
  have ht := h.1
  intro m
  induction m with
  | zero =>
    intro fuel h1 h2
    obtain ⟨fuel, rfl⟩ : ∃ g, fuel = g + 1 := ⟨fuel - 1, by omega⟩
    rw [f_X10_wordAlone_25, if_pos (nI_le (by omega) (by omega)), X_wa48 h h1, rtr, Nat.sub_self]
  | succ m ih =>
    intro fuel h1 h2
    obtain ⟨fuel, rfl⟩ : ∃ g, fuel = g + 1 := ⟨fuel - 1, by omega⟩
    have bb := (h.2.2 (f + m) (by omega)).1
    have e0 : nI (f + (m + 1)) - 1 = nI (f + m) := nI_pred (f + m)
    rw [f_X10_wordAlone_25, if_neg (nI_ge (by omega) (by omega)), e0, X_byteT h (by omega), bind_some', rtr]
    by_cases c : B (f + m) = 32
    · rw [if_pos c]
      refine (if_pos (show nI (B (f + m)) = 32 by rw [c]; rfl)).trans ?_
      rw [nI_dec (by omega)]
      exact ih fuel (by omega) (by omega)
    · rw [if_neg c]
      refine (if_neg (show ¬ nI (B (f + m)) = 32 by rw [i32]; exact nI_ne (by omega) (by decide) c)).trans ?_
      rw [show f + m + 1 - f = m + 1 by omega]
      exact X_wa48 h h1
theorem X_wordAlone (h : XT0 B t τ) {n : Nat} (hn : n ≤ t) : f_X10_wordAlone (nI n) τ = some (nI (wal B (rn (isB B) n 0) (rtr B (rn (isB B) n 0) (n - rn (isB B) n 0) - rn (isB B) n 0)), τ) := by
  have ht := h.1
  have key : ∀ (m z fuel : Nat), z + m = n → m < fuel → f_X10_wordAlone_4 (nI n) fuel (nI z) τ = some (nI (wal B (rn (isB B) m z) (rtr B (rn (isB B) m z) (n - rn (isB B) m z) - rn (isB B) m z)), τ) := by
    intro m
    induction m with
    | zero =>
      intro z fuel h1 h2
      obtain ⟨fuel, rfl⟩ : ∃ g, fuel = g + 1 := ⟨fuel - 1, by omega⟩
      obtain rfl : z = n := by omega
      rw [f_X10_wordAlone_4, if_pos (nI_le (Nat.le_refl _) (by omega))]
      have := X_wa25 h (f := z) 0 gFuel (by omega) (Nat.lt_trans (by omega) gFuel_ge)
      rw [Nat.add_zero] at this
      rw [this, rn, Nat.sub_self]
    | succ m ih =>
      intro z fuel h1 h2
      obtain ⟨fuel, rfl⟩ : ∃ g, fuel = g + 1 := ⟨fuel - 1, by omega⟩
      have bb := (h.2.2 z (by omega)).1
      rw [f_X10_wordAlone_4, if_neg (nI_ge (by omega) (by omega)), X_byteT h (by omega), bind_some', rn]
      by_cases c : B z = 32
      · rw [if_pos (show isB B z = true from decide_eq_true c)]
        refine (if_pos (show nI (B z) = 32 by rw [c]; rfl)).trans ?_
        rw [nI_1]
        exact ih (z + 1) fuel (by omega) (by omega)
      · rw [if_neg (show ¬ isB B z = true from fun q => c (of_decide_eq_true q))]
        refine (if_neg (show ¬ nI (B z) = 32 by rw [i32]; exact nI_ne (by omega) (by decide) c)).trans ?_
        have := X_wa25 h (f := z) (n - z) gFuel (by omega) (Nat.lt_trans (by omega) gFuel_ge)
        rw [show z + (n - z) = n by omega] at this
        exact this
  exact key n 0 gFuel (by omega) (Nat.lt_trans (by omega) gFuel_ge)
/-- which of many names, from one on, the text from f to e is -/
def nmS (N B : Nat → Nat) (base many f e : Nat) : Option Nat := nx (fun k => ia N B (6 * (base + k)) f e 6) many 0
theorem M_named89 (hM : MR d τ) (hB : ∀ j, j < t → B j < 256 ∧ τ 29 0 j = nI (B j)) (ht : t ≤ 900) {f e base many : Nat} (hN : ∀ k, k < many → ∀ j, 6 * (base + k) ≤ j → j < 6 * (base + k) + 6 → N j < 256 ∧ τ 32 0 j = nI (N j)) {b : Int32} (hfe : f < e) (he : e ≤ t) (hb : (b = 0 ∧ base = 3 ∧ many = d 1 ∧ many ≤ 10) ∨ (¬ b = 0 ∧ base = 0 ∧ many = d 0 ∧ many ≤ 3)) : ∀ (m k fuel : Nat), k + m = many → m < fuel → f_X12_named_89 b (nI f) (nI e) (nI base) fuel (nI k) τ = some (match nx (fun k => ia N B (6 * (base + k)) f e 6) m k with | none => (0, gup τ 28 0 0 1) | some k => (nI k, τ)) := by
  have step : ∀ (k : Nat) (k89 : Int32 → gSt → Option (Int32 × gSt)) (vs2 : Int32), vs2 = nI (if b = 0 then 1 else 0) → k ≤ many → f_X12_named_110 b (nI f) (nI e) (nI base) (nI k) k89 (nI k) vs2 τ = if k = many then some (0, gup τ 28 0 0 1) else if ia N B (6 * (base + k)) f e 6 = true then some (nI k, τ) else k89 (nI (k + 1)) τ := by
    intro k k89 vs2 hv hk
    subst hv
    unfold f_X12_named_110
    have hm : gld τ 30 0 397 (nI (if b = 0 then 1 else 0)) = some (nI many) := by
      rcases hb with ⟨b1, b2, b3, b4⟩ | ⟨b1, b2, b3, b4⟩
      · rw [if_pos b1, M_rd (j := 1) hM rfl (by decide), b3]
      · rw [if_neg b1, M_rd (j := 0) hM rfl (by decide), b3]
    have hbm : base + many ≤ 13 ∧ many ≤ 10 := by omega
    rw [hm, bind_some']
    by_cases c : k = many
    · rw [if_pos (nI_le (by omega) (by omega)), if_pos c]
    · rw [if_neg (nI_ge (by omega) (by omega)), if_neg c, nI_add, i6, nI_mul, M_isAt32 hB ht (hN k (by omega)) (by omega) (by omega) (by omega), bind_some']
      by_cases c2 : ia N B (6 * (base + k)) f e 6 = true
      · rw [if_pos c2, if_pos c2]; exact if_neg o1n0
      · rw [if_neg c2, if_neg c2, nI_1]; exact if_pos rfl
  have both : ∀ (k fuel : Nat), k ≤ many → f_X12_named_89 b (nI f) (nI e) (nI base) (fuel + 1) (nI k) τ = if k = many then some (0, gup τ 28 0 0 1) else if ia N B (6 * (base + k)) f e 6 = true then some (nI k, τ) else f_X12_named_89 b (nI f) (nI e) (nI base) fuel (nI (k + 1)) τ := by
    intro k fuel hk
    rw [f_X12_named_89, if_neg (nI_ge hfe (by omega))]
    by_cases c : b = 0
    · rw [if_pos c]; exact step k _ 1 (by rw [if_pos c]; rfl) hk
    · rw [if_neg c]; exact step k _ 0 (by rw [if_neg c]; rfl) hk
  intro m
  induction m with
  | zero =>
    intro k fuel h1 h2
    obtain ⟨fuel, rfl⟩ : ∃ g, fuel = g + 1 := ⟨fuel - 1, by omega⟩
    rw [both k fuel (by omega), if_pos (by omega)]; rfl
  | succ m ih =>
    intro k fuel h1 h2
    obtain ⟨fuel, rfl⟩ : ∃ g, fuel = g + 1 := ⟨fuel - 1, by omega⟩
    rw [both k fuel (by omega), if_neg (by omega), nx]
    by_cases c : ia N B (6 * (base + k)) f e 6 = true
    · rw [if_pos c, if_pos c]
    · rw [if_neg c, if_neg c]
      exact ih (k + 1) fuel (by omega) (by omega)
theorem M_named26 (hB : ∀ j, j < t → B j < 256 ∧ τ 29 0 j = nI (B j)) (ht : t ≤ 900) {b : Int32} {n : Nat} (hn : n ≤ t) : f_X12_named_26 b (nI n) gFuel 0 τ = f_X12_named_75 b (nI (rn (isB B) n 0)) (nI (rtr B (rn (isB B) n 0) (n - rn (isB B) n 0))) τ := by
  have k49 : ∀ (f m fuel : Nat), f + m ≤ t → m < fuel → f_X12_named_49 b (nI f) fuel (nI (f + m)) τ = f_X12_named_75 b (nI f) (nI (rtr B f m)) τ := by
    intro f m
    induction m with
    | zero =>
      intro fuel h1 h2
      obtain ⟨fuel, rfl⟩ : ∃ g, fuel = g + 1 := ⟨fuel - 1, by omega⟩
      rw [f_X12_named_49, if_pos (nI_le (by omega) (by omega))]; rfl
    | succ m ih =>
      intro fuel h1 h2
      obtain ⟨fuel, rfl⟩ : ∃ g, fuel = g + 1 := ⟨fuel - 1, by omega⟩
      have bb := hB (f + m) (by omega)
      have e0 : nI (f + (m + 1)) - 1 = nI (f + m) := nI_pred (f + m)
      rw [f_X12_named_49, if_neg (nI_ge (by omega) (by omega)), e0, gld_n (by omega) (by decide), bb.2, bind_some', rtr]
      by_cases c : B (f + m) = 32
      · rw [if_pos c, if_pos (by rw [c]; rfl), nI_dec (by omega)]
        exact ih fuel (by omega) (by omega)
      · rw [if_neg c, if_neg (by rw [i32]; exact nI_ne (by omega) (by decide) c)]; rfl
  have key : ∀ (m z fuel : Nat), z + m = n → m < fuel → f_X12_named_26 b (nI n) fuel (nI z) τ = f_X12_named_75 b (nI (rn (isB B) m z)) (nI (rtr B (rn (isB B) m z) (n - rn (isB B) m z))) τ := by
    intro m
    induction m with
    | zero =>
      intro z fuel h1 h2
      obtain ⟨fuel, rfl⟩ : ∃ g, fuel = g + 1 := ⟨fuel - 1, by omega⟩
      obtain rfl : z = n := by omega
      rw [f_X12_named_26, if_pos (nI_le (Nat.le_refl _) (by omega))]
      have := k49 z 0 gFuel (by omega) (Nat.lt_trans (by omega) gFuel_ge)
      rw [Nat.add_zero] at this
      rw [this, rn, Nat.sub_self]
    | succ m ih =>
      intro z fuel h1 h2
      obtain ⟨fuel, rfl⟩ : ∃ g, fuel = g + 1 := ⟨fuel - 1, by omega⟩
      have bb := hB z (by omega)
      rw [f_X12_named_26, if_neg (nI_ge (by omega) (by omega)), gld_n (by omega) (by decide), bb.2, bind_some', rn]
      by_cases c : B z = 32
      · rw [if_pos (show isB B z = true from decide_eq_true c), if_pos (by rw [c]; rfl), nI_1]
        exact ih (z + 1) fuel (by omega) (by omega)
      · rw [if_neg (show ¬ isB B z = true from fun q => c (of_decide_eq_true q)), if_neg (by rw [i32]; exact nI_ne (by omega) (by decide) c)]
        have := k49 z (n - z) gFuel (by omega) (Nat.lt_trans (by omega) gFuel_ge)
        rw [show z + (n - z) = n by omega] at this
        exact this
  exact key n 0 gFuel (by omega) (Nat.lt_trans (by omega) gFuel_ge)
theorem S_named : SSN Inv := by
  intro a1 a2 ha2 σ hI
  have hI0 := hI
  obtain ⟨d, h1, h2, h3, h4, ⟨N, n1, n2, n3, n4⟩, ⟨t, B, t1, t2, t3, t4, t5⟩, h7, h8⟩ := hI
  have h10 := h1.2.1
  have hd3 := h1.1
  have hX0 : XT0 B t σ := ⟨t1, t3, fun j hj => ⟨(t5 j hj).1, (t5 j hj).2.1⟩⟩
  have hB : ∀ j, j < t → B j < 256 ∧ gup σ 28 0 0 0 29 0 j = nI (B j) := fun j hj => ⟨(t5 j hj).1, by rw [gup_kind (by decide)]; exact (t5 j hj).2.2⟩
  have hM0 : MR d (gup σ 28 0 0 0) := fun j hj => by rw [gup_kind (by decide)]; exact h2 j hj
  -- the number that counts
  obtain ⟨n', hn', hx, hm⟩ : ∃ n', n' ≤ t ∧ f_nm a1 a2 σ = f_nm_28 a2 (nI (wal B (rn (isB B) n' 0) (rtr B (rn (isB B) n' 0) (n' - rn (isB B) n' 0) - rn (isB B) n' 0))) σ ∧ f_X12_named a1 a2 σ = f_X12_named_26 a2 (nI n') gFuel 0 (gup σ 28 0 0 0) := by
    have w0 : wal B (rn (isB B) 0 0) (rtr B (rn (isB B) 0 0) (0 - rn (isB B) 0 0) - rn (isB B) 0 0) = 0 := by
      show wal B 0 0 = 0
      unfold wal
      split <;> rfl
    have hin : f_X12_in a1 0 (gup σ 28 0 0 0 28 0 5) (gup σ 28 0 0 0) = some (bG a1 (t + 1), gup σ 28 0 0 0) := by
      rw [gup_slot (by decide), t4]; exact M_in0 (by omega) _
    by_cases c : gin a1 (t + 1) = true
    · obtain ⟨he, hlt⟩ := gin_nI c
      generalize a1.toNatClampNeg = n' at he hlt
      subst he
      refine ⟨n', by omega, ?_, ?_⟩
      · unfold f_nm
        rw [if_neg (nI_pos (by omega)), if_pos (by rw [t3]; exact nI_le (by omega) (by omega)), X_wordAlone hX0 (by omega), bind_some']
      · unfold f_X12_named
        rw [hin, bG_t c, bind_some', if_neg o1n0]
    · refine ⟨0, Nat.zero_le _, ?_, ?_⟩
      · rw [w0]
        unfold f_nm
        rcases x_cases a1 with q | ⟨j, q1, rfl⟩
        · rw [if_pos q]; rfl
        · rw [if_neg (nI_pos q1), if_neg (by rw [t3]; exact nI_ge (Nat.lt_of_not_le (fun z => c ((gin_nI_iff q1).mpr (by omega)))) (by omega))]; rfl
      · unfold f_X12_named
        rw [hin, bG_f c, bind_some', if_pos rfl]; rfl
  obtain ⟨f, hf⟩ : ∃ f, f = rn (isB B) n' 0 := ⟨_, rfl⟩
  obtain ⟨e, he⟩ : ∃ e, e = rtr B f (n' - f) := ⟨_, rfl⟩
  rw [← hf, ← he] at hx
  rw [M_named26 hB t1 hn', ← hf, ← he] at hm
  have hfn : f ≤ n' := by have := (rn_b (q := isB B) n' 0).2.1; omega
  have hfe : f ≤ e ∧ e ≤ n' := by have := rtr_b (B := B) (f := f) (n' - f); omega
  have ht := hX0.1
  -- both look through the same names
  have cls : ∀ (base many : Nat) (nm : Nat → Nat), (∀ k, k < many → isW (fun q => N (6 * (base + k) + q)) ∧ nm k = wval (fun q => N (6 * (base + k) + q)) 6) → f < e → nx (fun k => decide (nm k = wal B f (e - f))) many 0 = nx (fun k => ia N B (6 * (base + k)) f e 6) many 0 := by
    intro base many nm hnm hlt
    refine nx_cg _ _ (fun k k1 k2 => ?_)
    obtain ⟨w1, w2⟩ := hnm k (by omega)
    have hia := ia_name (B := B) (N := N) (j := base + k) (fr' := f) (m := e - f) w1 (by omega)
    rw [show f + (e - f) = e by omega] at hia
    have hb := nm_b w1
    rw [w2]
    by_cases c : ia N B (6 * (base + k)) f e 6 = true
    · rw [c]
      obtain ⟨c1, c2, c3⟩ := hia.mp c
      refine decide_eq_true ?_
      rw [c3]
      unfold wal
      rw [if_pos ⟨c1, wal_L.mpr c2⟩]
    · rw [show ia N B (6 * (base + k)) f e 6 = false by simpa using c]
      refine decide_eq_false (fun z => c (hia.mpr ?_))
      unfold wal at z
      by_cases c1 : e - f ≤ 6 ∧ rn (isL B) (e - f) f = f + (e - f)
      · rw [if_pos c1] at z
        exact ⟨c1.1, wal_L.mp c1.2, z⟩
      · rw [if_neg c1] at z
        omega
  have cls0 : ∀ (base many : Nat) (nm : Nat → Nat), (∀ k, k < many → isW (fun q => N (6 * (base + k) + q)) ∧ nm k = wval (fun q => N (6 * (base + k) + q)) 6) → f = e → nx (fun k => decide (nm k = wal B f (e - f))) many 0 = none := by
    intro base many nm hnm hlt
    have : nx (fun k => decide (nm k = wal B f (e - f))) many 0 = nx (fun _ => false) many 0 := nx_cg _ _ (fun k k1 k2 => by
      obtain ⟨w1, w2⟩ := hnm k (by omega)
      have hb := nm_b w1
      refine decide_eq_false (fun z => ?_)
      rw [w2, hlt, Nat.sub_self] at z
      have : wal B e 0 = 0 := by unfold wal; split <;> rfl
      omega)
    rw [this]
    have nn : ∀ m k, nx (fun _ => false) m k = none := by
      intro m
      induction m with
      | zero => intro k; rfl
      | succ m ih => intro k; rw [nx]; exact ih (k + 1)
    exact nn _ _
  have walb : wal B f (e - f) < 2147483648 := by
    unfold wal
    split
    · next q =>
      have h1 := wv_b (B := B) (p := f) (m := e - f) (fun y q1 q2 => by have := wal_L.mp q.2 (y - f) (by omega); rw [show f + (y - f) = y by omega] at this; exact this)
      have h2 : 32 ^ (e - f) ≤ 32 ^ 6 := Nat.pow_le_pow_right (by decide) q.1
      omega
    · decide
  have fin : ∀ (base many : Nat) (nm : Nat → Nat) (b : Int32), a2 = b → ((b = 0 ∧ base = 3 ∧ many = d 1 ∧ many ≤ 10) ∨ (¬ b = 0 ∧ base = 0 ∧ many = d 0 ∧ many ≤ 3)) → (∀ k, k < many → isW (fun q => N (6 * (base + k) + q)) ∧ nm k = wval (fun q => N (6 * (base + k) + q)) 6) → f_nm_28 a2 (nI (wal B f (e - f))) σ = some (xo (nx (fun k => decide (nm k = wal B f (e - f))) many 0), σ) → (f_X12_named_75 a2 (nI f) (nI e) (gup σ 28 0 0 0) = f_X12_named_89 b (nI f) (nI e) (nI base) gFuel (nI 0) (gup σ 28 0 0 0)) → ∃ r1 r2 r3 : Int32 × gSt, f_nm a1 a2 σ = some r1 ∧ f_X12_named a1 a2 r1.2 = some r2 ∧ f_X12_thrown r2.2 = some r3 ∧ (r1.1 = -1 → r3.1 = 1) ∧ (¬ r1.1 = -1 → r3.1 = 0 ∧ r2.1 = r1.1) ∧ Inv r3.2 := by
    intro base many nm b hab hb hnm g1 g2
    rw [g1] at hx
    rw [g2] at hm
    have thr : ∀ v, Inv (gup (gup σ 28 0 0 0) 28 0 0 v) := fun v => inv_thrown (inv_thrown hI0)
    by_cases hlt : f = e
    · rw [cls0 base many nm hnm hlt] at hx
      have hm2 : f_X12_named a1 a2 σ = some (0, gup (gup σ 28 0 0 0) 28 0 0 1) := by
        rw [hm]
        show f_X12_named_89 b (nI f) (nI e) (nI base) (4999 + 1) (nI 0) _ = _
        rw [f_X12_named_89, if_pos (nI_le (by omega) (by omega))]
      exact ⟨_, _, (1, gup (gup σ 28 0 0 0) 28 0 0 1), hx, hm2, by unfold f_X12_thrown; dsimp only; rw [gup_same], fun _ => rfl, fun q => absurd rfl q, thr 1⟩
    · have hN' : ∀ k, k < many → ∀ j, 6 * (base + k) ≤ j → j < 6 * (base + k) + 6 → N j < 256 ∧ gup σ 28 0 0 0 32 0 j = nI (N j) := by
        intro k hk j j1 j2
        have h1 := isW_b (hnm k hk).1 (q := j - 6 * (base + k)) (by omega)
        rw [show 6 * (base + k) + (j - 6 * (base + k)) = j by omega] at h1
        refine ⟨h1, ?_⟩
        rw [gup_kind (by decide)]
        exact n1 j (by omega)
      have h89 := M_named89 (b := b) (base := base) (many := many) hM0 hB t1 hN' (show f < e by omega) (by omega) hb many 0 gFuel (by omega) (Nat.lt_trans (by omega) gFuel_ge)
      rw [h89, ← cls base many nm hnm (by omega)] at hm
      cases hq : nx (fun k => decide (nm k = wal B f (e - f))) many 0 with
      | none =>
        rw [hq] at hx hm
        exact ⟨_, _, (1, gup (gup σ 28 0 0 0) 28 0 0 1), hx, hm, by unfold f_X12_thrown; dsimp only; rw [gup_same], fun _ => rfl, fun q => absurd rfl q, thr 1⟩
      | some k =>
        have hk := nx_some hq
        rw [hq] at hx hm
        exact ⟨_, _, (0, gup σ 28 0 0 0), hx, hm, by unfold f_X12_thrown; dsimp only; rw [gup_same], fun q => absurd q (nI_nm1 (show k < 2147483648 by omega)), fun _ => ⟨rfl, rfl⟩, inv_thrown hI0⟩
  rcases ha2 with q | q
  · refine fin 3 (d 1) (fun a => wval (fun q => N (6 * (3 + a) + q)) 6) 0 q (Or.inl ⟨rfl, rfl, rfl, h10⟩) (fun k hk => ⟨(n4 k hk).1, rfl⟩) ?_ ?_
    · unfold f_nm_28
      rw [if_pos q]
      exact X_rNamed (i0 := 1) (by decide) h3.2.1 h10 (fun c hc => ⟨(n4 c hc).2, by have := (nm_b (n4 c hc).1).2; omega⟩) walb
    · unfold f_X12_named_75
      rw [if_pos q, q]; rfl
  · have q0 : ¬ a2 = 0 := by rw [q]; exact o1n0
    refine fin 0 (d 0) (fun c => wval (fun q => N (6 * (0 + c) + q)) 6) 1 q (Or.inr ⟨o1n0, rfl, rfl, hd3⟩) (fun k hk => ⟨by rw [Nat.zero_add]; exact (n3 k hk).1, rfl⟩) ?_ ?_
    · unfold f_nm_28
      rw [if_neg q0]
      exact X_cNamed (i0 := 1) (by decide) h3.1 hd3 (fun c hc => ⟨by simp only [Nat.zero_add]; exact (n3 c hc).2, by have := (nm_b (n3 c hc).1).2; simp only [Nat.zero_add]; omega⟩) walb
    · unfold f_X12_named_75
      rw [if_neg q0, q]; rfl
end ND
