/-! the class's match -/
def XC (σ : gSt) (j n : Nat) (C : Nat → Nat) : Prop := σ 8 j 2 = nI n ∧ ∀ i, i < n → σ 9 j i = nI (C i)
def XP (σ : gSt) (r p : Nat) (P T : Nat → Nat) : Prop := σ 10 r 8 = nI p ∧ ∀ k, k < p → σ 11 r k = nI (P k) ∧ σ 12 r k = nI (T k)
/-- nothing but the class's own working rows has changed -/
def Xs (σ σ' : gSt) : Prop := ∀ k i s, k ≠ 7 → (k < 17 ∨ 25 < k) → σ' k i s = σ k i s
theorem Xs.rf {σ : gSt} : Xs σ σ := fun _ _ _ _ _ => rfl
theorem Xs.tr {σ σ' σ'' : gSt} (h : Xs σ σ') (h' : Xs σ' σ'') : Xs σ σ'' := fun k i s h1 h2 => (h' k i s h1 h2).trans (h k i s h1 h2)
theorem Xs.up {σ σ' : gSt} {k i s : Nat} {v : Int32} (hk : k = 7 ∨ (17 ≤ k ∧ k ≤ 25)) (h : Xs σ σ') : Xs σ (gup σ' k i s v) := fun k' i' s' h1 h2 => by
  rw [gup_kind (by omega)]
  exact h k' i' s' h1 h2
theorem XC.of {σ σ' : gSt} {j n : Nat} {C : Nat → Nat} (h : XC σ j n C) (hs : Xs σ σ') : XC σ' j n C := ⟨(hs 8 j 2 (by decide) (by omega)).trans h.1, fun i hi => (hs 9 j i (by decide) (by omega)).trans (h.2 i hi)⟩
theorem XP.of {σ σ' : gSt} {r p : Nat} {P T : Nat → Nat} (h : XP σ r p P T) (hs : Xs σ σ') : XP σ' r p P T := ⟨(hs 10 r 8 (by decide) (by omega)).trans h.1, fun k hk => ⟨(hs 11 r k (by decide) (by omega)).trans (h.2 k hk).1, (hs 12 r k (by decide) (by omega)).trans (h.2 k hk).2⟩⟩
section XM
variable {σ σ' : gSt} {m0 j r n p : Nat} {C P T : Nat → Nat}
theorem X_codeAt {i : Nat} (h : XC σ j n C) (hn : n ≤ 10) (hi : i < n) : f_X1_codeAt j (nI i) σ = some (nI (C i), σ) := by
  unfold f_X1_codeAt
  rw [h.1, if_neg (nI_pos (by omega)), if_neg (nI_ge hi (by omega)), i10, if_neg (nI_ge (by omega) (by omega)), gld_n (by omega) (by decide), h.2 i hi]
  rfl
theorem X_codeOf {k : Nat} (h : XP σ r p P T) (hp : p ≤ 16) (hk : k < p) : f_X9_codeOf r (nI k) σ = some (nI (P k), σ) := by
  unfold f_X9_codeOf
  rw [h.1, if_neg (nI_pos (by omega)), if_neg (nI_ge hk (by omega)), i16, if_neg (nI_ge (by omega) (by omega)), gld_n (by omega) (by decide), (h.2 k hk).1]
  rfl
theorem X_timeOf {k : Nat} (h : XP σ r p P T) (hp : p ≤ 16) (hk : k < p) : f_X9_timeOf r (nI k) σ = some (nI (T k), σ) := by
  unfold f_X9_timeOf
  rw [h.1, if_neg (nI_pos (by omega)), if_neg (nI_ge hk (by omega)), i16, if_neg (nI_ge (by omega) (by omega)), gld_n (by omega) (by decide), (h.2 k hk).2]
  rfl
theorem X_cell {i k : Nat} : nI i * 17 + nI k = nI (17 * i + k) := by rw [i17, nI_mul, nI_add, Nat.mul_comm]
theorem X_mostFrom {i k : Nat} (h : 17 * i + k < 187) : f_X3_mostFrom m0 (nI i) (nI k) σ = some (σ 7 m0 (17 * i + k), σ) := by
  unfold f_X3_mostFrom
  rw [X_cell, if_neg (nI_pos (by omega)), i187, if_neg (nI_ge h (by omega)), gld_n h (by decide)]
  rfl
theorem X_set {i k : Nat} {v : Int32} (h : 17 * i + k < 187) : f_X3_set m0 (nI i) (nI k) v σ = some (gup σ 7 m0 (17 * i + k) v) := by
  unfold f_X3_set
  rw [X_cell, if_neg (nI_pos (by omega)), i187, if_neg (nI_ge h (by omega)), gst_n h (by decide)]
  rfl
theorem gmx_n {x y : Nat} (hx : x < 2147483648) (hy : y < 2147483648) : gmx (nI x) (nI y) = nI (max x y) := by
  unfold gmx
  by_cases h : x < y
  · rw [if_pos (nI_lt h (by omega)), Nat.max_eq_right (by omega)]
  · rw [if_neg (nI_nlt (by omega) (by omega)), Nat.max_eq_left (by omega)]
def xTab (C P : Nat → Nat) (n p m0 i : Nat) (σ : gSt) : Prop := ∀ i' k, i ≤ i' → i' ≤ n → k ≤ p → σ 7 m0 (17 * i' + k) = nI (lc C P n p i' k)
theorem X_15 (hC : XC σ j n C) (hP : XP σ r p P T) (hn : n ≤ 10) (hp : p ≤ 16) (hbC : ∀ i, C i < 10000) (hbP : ∀ k, P k < 10000) {i : Nat} (hi : i ≤ n) {k5 : Int32 → gSt → Option (Int32 × gSt)} {Q : Int32 × gSt → Prop}
    (kk : ∀ σ', Xs σ σ' → xTab C P n p m0 i σ' → Wp (k5 (dn i) σ') Q) :
    ∀ (m fuel : Nat) (σ' : gSt), m ≤ p + 1 → m < fuel → Xs σ σ' → xTab C P n p m0 (i + 1) σ' → (∀ k, m ≤ k → k ≤ p → σ' 7 m0 (17 * i + k) = nI (lc C P n p i k)) → Wp (f_X3_mostTaken_15 m0 j r (nI i) k5 fuel (dn m) σ') Q := by
  intro m
  induction m with
  | zero =>
    intro fuel σ' h1 h2 hs hT hR
    obtain ⟨fuel, rfl⟩ : ∃ f, fuel = f + 1 := ⟨fuel - 1, by omega⟩
    rw [f_X3_mostTaken_15, dn_0]
    refine Wp.t m1_lt0 ?_
    rw [dn_m]
    refine kk σ' hs (fun i' k h3 h4 h5 => ?_)
    by_cases e : i' = i
    · subst e; exact hR k (by omega) h5
    · exact hT i' k (by omega) h4 h5
  | succ m ih =>
    intro fuel σ' h1 h2 hs hT hR
    obtain ⟨fuel, rfl⟩ : ∃ f, fuel = f + 1 := ⟨fuel - 1, by omega⟩
    rw [f_X3_mostTaken_15, dn_s]
    have hC' := hC.of hs
    have hP' := hP.of hs
    have wr : ∀ v : Nat, v = lc C P n p i m → Wp ((f_X3_set m0 (nI i) (nI m) (nI v) σ').bind fun z => f_X3_mostTaken_15 m0 j r (nI i) k5 fuel (nI m + (-1)) z) Q := by
      intro v hv
      refine Wp.eq (X_set (by omega)) ?_
      rw [dn_m]
      refine ih fuel _ (by omega) (by omega) (hs.up (by omega)) (fun i' k h3 h4 h5 => ?_) (fun k h3 h4 => ?_)
      · rw [gup_get, if_neg (by omega)]; exact hT i' k h3 h4 h5
      · rw [gup_get]
        by_cases e : k = m
        · subst e; rw [if_pos rfl, hv]
        · rw [if_neg (by omega)]; exact hR k (by omega) h4
    refine Wp.f (nI_pos (by omega)) ?_
    rw [hC'.1]
    by_cases hin : i = n
    · refine Wp.t (by rw [hin]) ?_
      rw [i0]
      exact wr 0 (by rw [hin, lc_n])
    · refine Wp.f (nI_ne (by omega) (by omega) hin) ?_
      rw [hP'.1]
      by_cases hpm : m = p
      · refine Wp.t (by rw [hpm]) ?_
        rw [i0]
        exact wr 0 (by rw [hpm, lc_p])
      · refine Wp.f (nI_ne (by omega) (by omega) hpm) ?_
        refine Wp.eq (X_codeAt hC' hn (by omega)) ?_
        refine Wp.eq (X_codeOf hP' hp (by omega)) ?_
        have b1 := hbC i
        have b2 := hbP m
        have l1 : lc C P n p (i + 1) m ≤ 10 := Nat.le_trans lc_le (by omega)
        have l2 : lc C P n p i (m + 1) ≤ 10 := Nat.le_trans lc_le (by omega)
        have l3 : lc C P n p (i + 1) (m + 1) ≤ 10 := Nat.le_trans lc_le (by omega)
        show Wp (if nI (C i) = nI (P m) then _ else _) Q
        rw [show nI i + 1 = nI (i + 1) from nI_1 i, show nI m + 1 = nI (m + 1) from nI_1 m]
        by_cases he : C i = P m
        · refine Wp.t (by rw [he]) ?_
          refine Wp.eq (X_mostFrom (by omega)) ?_
          dsimp only
          rw [hT (i + 1) (m + 1) (by omega) (by omega) (by omega)]
          show Wp ((f_X3_set m0 (nI i) (nI m) (1 + nI (lc C P n p (i + 1) (m + 1))) σ').bind _) Q
          rw [i1, nI_add]
          exact wr _ (lc_eq (by omega) (by omega) he).symm
        · refine Wp.f (nI_ne (by omega) (by omega) he) ?_
          refine Wp.eq (X_mostFrom (by omega)) ?_
          refine Wp.eq (X_mostFrom (by omega)) ?_
          dsimp only
          rw [hT (i + 1) m (by omega) (by omega) (by omega), hR (m + 1) (by omega) (by omega)]
          show Wp ((f_X3_set m0 (nI i) (nI m) (gmx (nI (lc C P n p (i + 1) m)) (nI (lc C P n p i (m + 1)))) σ').bind _) Q
          rw [gmx_n (by omega) (by omega)]
          exact wr _ (lc_ne (by omega) (by omega) he).symm
theorem X_5 (hC : XC σ j n C) (hP : XP σ r p P T) (hn : n ≤ 10) (hp : p ≤ 16) (hbC : ∀ i, C i < 10000) (hbP : ∀ k, P k < 10000) {Q : Int32 × gSt → Prop} (kk : ∀ σ', Xs σ σ' → xTab C P n p m0 0 σ' → Q (nI (lc C P n p 0 0), σ')) :
    ∀ (m fuel : Nat) (σ' : gSt), m ≤ n + 1 → m < fuel → Xs σ σ' → xTab C P n p m0 m σ' → Wp (f_X3_mostTaken_5 m0 j r fuel (dn m) σ') Q := by
  intro m
  induction m with
  | zero =>
    intro fuel σ' h1 h2 hs hT
    obtain ⟨fuel, rfl⟩ : ∃ f, fuel = f + 1 := ⟨fuel - 1, by omega⟩
    rw [f_X3_mostTaken_5, dn_0]
    refine Wp.t m1_lt0 ?_
    rw [i0]
    refine Wp.eq (X_mostFrom (by omega)) ?_
    rw [hT 0 0 (Nat.le_refl _) (Nat.zero_le _) (Nat.zero_le _)]
    exact Wp.ret (kk σ' hs hT)
  | succ m ih =>
    intro fuel σ' h1 h2 hs hT
    obtain ⟨fuel, rfl⟩ : ∃ f, fuel = f + 1 := ⟨fuel - 1, by omega⟩
    rw [f_X3_mostTaken_5, dn_s]
    refine Wp.f (nI_pos (by omega)) ?_
    rw [(hP.of hs).1, ← dn_s (m := p)]
    refine X_15 hC hP hn hp hbC hbP (show m ≤ n by omega) (fun σ'' hs' hT' => ?_) (p + 1) gFuel σ' (Nat.le_refl _) (Nat.lt_of_le_of_lt (show p + 1 ≤ 4000 by omega) gFuel_ge) hs hT (fun k h3 h4 => by omega)
    exact ih fuel σ'' (by omega) (by omega) hs' hT'
theorem X_mostTaken (hC : XC σ j n C) (hP : XP σ r p P T) (hn : n ≤ 10) (hp : p ≤ 16) (hbC : ∀ i, C i < 10000) (hbP : ∀ k, P k < 10000) : Wp (f_X3_mostTaken m0 j r σ) (fun q => q.1 = nI (lc C P n p 0 0) ∧ Xs σ q.2 ∧ xTab C P n p m0 0 q.2) := by
  unfold f_X3_mostTaken
  rw [hC.1, ← dn_s (m := n)]
  exact X_5 hC hP hn hp hbC hbP (fun σ' hs hT => ⟨rfl, hs, hT⟩) (n + 1) gFuel σ (Nat.le_refl _) (Nat.lt_of_le_of_lt (show n + 1 ≤ 4000 by omega) gFuel_ge) Xs.rf (fun i' k h1 h2 h3 => by omega)
theorem X_firstOf (hP : XP σ r p P T) (hp : p ≤ 16) {v : Nat} (hv : v < 10000) (hbP : ∀ k, P k < 10000) : ∀ (m k fuel : Nat), k + m = p → m < fuel → f_X9_firstOf_2 r (nI v) fuel (nI k) σ = some (enc (nx (fun k => decide (v = P k)) m k), σ) := by
  intro m
  induction m with
  | zero =>
    intro k fuel h1 h2
    obtain ⟨fuel, rfl⟩ : ∃ f, fuel = f + 1 := ⟨fuel - 1, by omega⟩
    rw [f_X9_firstOf_2, hP.1, if_pos (nI_le (by omega) (by omega))]
    rfl
  | succ m ih =>
    intro k fuel h1 h2
    obtain ⟨fuel, rfl⟩ : ∃ f, fuel = f + 1 := ⟨fuel - 1, by omega⟩
    have b := hbP k
    rw [f_X9_firstOf_2, hP.1, if_neg (nI_ge (by omega) (by omega)), X_codeOf hP hp (by omega), bind_some', nx]
    show (if nI (P k) = nI v then _ else _) = _
    by_cases he : v = P k
    · rw [if_pos (by rw [he]), if_pos (by simp [he])]
      rfl
    · rw [if_neg (nI_ne (by omega) (by omega) (fun q => he q.symm)), if_neg (by simp [he]), nI_1]
      exact ih (k + 1) fuel (by omega) (by omega)
theorem X_fill13 : ∀ (m s fuel : Nat) (σ' : gSt), s + m = 16 → m < fuel → Wp (f_J7_fill_53178_k13_5 r (-1) 16 fuel (nI s) σ') (fun σ'' => (∀ k i z, ¬ (k = 13 ∧ i = r) → σ'' k i z = σ' k i z) ∧ (∀ z, z < 16 → (s ≤ z → σ'' 13 r z = -1) ∧ (z < s → σ'' 13 r z = σ' 13 r z))) := by
  intro m
  induction m with
  | zero =>
    intro s fuel σ' h1 h2
    obtain ⟨fuel, rfl⟩ : ∃ f, fuel = f + 1 := ⟨fuel - 1, by omega⟩
    rw [f_J7_fill_53178_k13_5, i16]
    refine Wp.t (nI_le (by omega) (by omega)) ?_
    exact Wp.ret ⟨fun _ _ _ _ => rfl, fun z hz => ⟨fun h => by omega, fun _ => rfl⟩⟩
  | succ m ih =>
    intro s fuel σ' h1 h2
    obtain ⟨fuel, rfl⟩ : ∃ f, fuel = f + 1 := ⟨fuel - 1, by omega⟩
    rw [f_J7_fill_53178_k13_5]
    refine Wp.f (by rw [i16]; exact nI_ge (by omega) (by omega)) ?_
    refine Wp.st s rfl (by omega) (by decide) ?_
    rw [nI_1]
    refine (ih (s + 1) fuel _ (by omega) (by omega)).mono (fun σ'' h => ⟨fun k i z hn => ?_, fun z hz => ⟨fun h3 => ?_, fun h3 => ?_⟩⟩)
    · rw [h.1 k i z hn]
      simp only [gup]
      rw [if_neg (fun q => hn ⟨q.1, q.2.1⟩)]
    · by_cases e : z = s
      · subst e; rw [((h.2 z hz).2 (by omega)), gup_get, if_pos rfl]
      · exact (h.2 z hz).1 (by omega)
    · rw [(h.2 z hz).2 (by omega), gup_get, if_neg (by omega)]
theorem X_fill14 : ∀ (m s fuel : Nat) (σ' : gSt), s + m = 10 → m < fuel → Wp (f_J7_fill_53178_k14_5 r (-1) 10 fuel (nI s) σ') (fun σ'' => (∀ k i z, ¬ (k = 14 ∧ i = r) → σ'' k i z = σ' k i z) ∧ (∀ z, z < 10 → (s ≤ z → σ'' 14 r z = -1) ∧ (z < s → σ'' 14 r z = σ' 14 r z))) := by
  intro m
  induction m with
  | zero =>
    intro s fuel σ' h1 h2
    obtain ⟨fuel, rfl⟩ : ∃ f, fuel = f + 1 := ⟨fuel - 1, by omega⟩
    rw [f_J7_fill_53178_k14_5, i10]
    refine Wp.t (nI_le (by omega) (by omega)) ?_
    exact Wp.ret ⟨fun _ _ _ _ => rfl, fun z hz => ⟨fun h => by omega, fun _ => rfl⟩⟩
  | succ m ih =>
    intro s fuel σ' h1 h2
    obtain ⟨fuel, rfl⟩ : ∃ f, fuel = f + 1 := ⟨fuel - 1, by omega⟩
    rw [f_J7_fill_53178_k14_5]
    refine Wp.f (by rw [i10]; exact nI_ge (by omega) (by omega)) ?_
    refine Wp.st s rfl (by omega) (by decide) ?_
    rw [nI_1]
    refine (ih (s + 1) fuel _ (by omega) (by omega)).mono (fun σ'' h => ⟨fun k i z hn => ?_, fun z hz => ⟨fun h3 => ?_, fun h3 => ?_⟩⟩)
    · rw [h.1 k i z hn]
      simp only [gup]
      rw [if_neg (fun q => hn ⟨q.1, q.2.1⟩)]
    · by_cases e : z = s
      · subst e; rw [((h.2 z hz).2 (by omega)), gup_get, if_pos rfl]
      · exact (h.2 z hz).1 (by omega)
    · rw [(h.2 z hz).2 (by omega), gup_get, if_neg (by omega)]
/-- what of the world a match of runner r may change -/
def Xm (r : Nat) (σ σ' : gSt) : Prop := ∀ k i s, k ≠ 7 → (k < 17 ∨ 25 < k) → ¬ (k = 10 ∧ i = r ∧ (s = 9 ∨ s = 10)) → ¬ (k = 13 ∧ i = r) → ¬ (k = 14 ∧ i = r) → σ' k i s = σ k i s
theorem X_unmatch {v : Int32} : Wp (f_X9_unmatch r v σ) (fun σ' => (∀ k i s, ¬ (k = 10 ∧ i = r ∧ (s = 9 ∨ s = 10)) → ¬ (k = 13 ∧ i = r) → ¬ (k = 14 ∧ i = r) → σ' k i s = σ k i s) ∧ σ' 10 r 9 = v ∧ σ' 10 r 10 = 0 ∧ (∀ z, z < 16 → σ' 13 r z = -1) ∧ ∀ z, z < 10 → σ' 14 r z = -1) := by
  unfold f_X9_unmatch f_J7_fill_53178_k14 f_J7_fill_53178_k13
  have h14 := X_fill14 (r := r) 10 0 gFuel (gup (gup σ 10 r 9 v) 10 r 10 0) rfl (Nat.lt_trans (by decide) gFuel_ge)
  rw [← i0] at h14
  refine Wp.bind h14 (fun σ1 h1 => ?_)
  have h13 := X_fill13 (r := r) 16 0 gFuel σ1 rfl (Nat.lt_trans (by decide) gFuel_ge)
  rw [← i0] at h13
  refine Wp.bind h13 (fun σ2 h2 => ?_)
  refine Wp.ret ⟨fun k i s n1 n2 n3 => ?_, ?_, ?_, fun z hz => (h2.2 z hz).1 (Nat.zero_le _), fun z hz => ?_⟩
  · rw [h2.1 k i s n2, h1.1 k i s n3]
    simp only [gup]
    rw [if_neg (fun q => n1 ⟨q.1, q.2.1, Or.inr q.2.2⟩), if_neg (fun q => n1 ⟨q.1, q.2.1, Or.inl q.2.2⟩)]
  · rw [h2.1 10 r 9 (by simp), h1.1 10 r 9 (by simp)]
    simp [gup]
  · rw [h2.1 10 r 10 (by simp), h1.1 10 r 10 (by simp)]
    simp [gup]
  · rw [h2.1 14 r z (by simp)]
    exact (h1.2 z hz).1 (Nat.zero_le _)
/-- how many are taken, by whom, when -/
def tmx (T : Nat → Nat) (o : Option Nat) : Int32 := match o with
  | none => -1
  | some k => nI (T k)
def Xk (C P T : Nat → Nat) (n p i r : Nat) (σ : gSt) : Prop := σ 10 r 9 = nI n ∧ σ 10 r 10 = nI (i - mc C P n p i) ∧ (∀ z, z < 10 → (z < i → σ 14 r z = tmx T (mt C P n p z)) ∧ (i ≤ z → σ 14 r z = -1)) ∧ ∀ k, k < 16 → (∀ i', i' < i → mt C P n p i' = some k → σ 13 r k = nI i') ∧ ((∀ i', i' < i → mt C P n p i' ≠ some k) → σ 13 r k = -1)
theorem fr_mono {i' i : Nat} (h : i' ≤ i) : fr C P n p i' ≤ fr C P n p i := by
  obtain ⟨m, rfl⟩ : ∃ m, i = i' + m := ⟨i - i', by omega⟩
  clear h
  induction m with
  | zero => exact Nat.le_refl _
  | succ m ih =>
    refine Nat.le_trans ih ?_
    show _ ≤ fr C P n p (i' + m + 1)
    rw [fr]
    split
    · exact Nat.le_refl _
    · next k h => have := (nx_some h).1; omega
theorem mt_fr {i k : Nat} (h : mt C P n p i = some k) : fr C P n p i ≤ k ∧ k < p ∧ fr C P n p (i + 1) = k + 1 := by
  obtain ⟨h1, h2, h3, h4⟩ := nx_some (show nx _ _ _ = some k from h)
  have hf := fr_le (C := C) (P := P) (n := n) (p := p) i
  refine ⟨h1, by omega, ?_⟩
  rw [fr]
  have : tk C P n p i (fr C P n p i) = some k := h
  rw [this]
theorem mt_lt {i' i k' k : Nat} (h : i' < i) (h1 : mt C P n p i' = some k') (h2 : mt C P n p i = some k) : k' < k := by
  have a1 := (mt_fr h1).2.2
  have a2 := (mt_fr h2).1
  have a3 := fr_mono (C := C) (P := P) (n := n) (p := p) (show i' + 1 ≤ i by omega)
  omega
theorem X_20 (hC : XC σ j n C) (hP : XP σ r p P T) (hn : n ≤ 10) (hp : p ≤ 16) (hbC : ∀ i, C i < 10000) (hbP : ∀ k, P k < 10000) {Q : gSt → Prop} (kk : ∀ σ', Xm r σ σ' → Xk C P T n p n r σ' → Q σ') :
    ∀ (m i fuel : Nat) (σ' : gSt), i + m = n → m < fuel → Xm r σ σ' → xTab C P n p m0 0 σ' → Xk C P T n p i r σ' → Wp (f_X3_match_20 m0 j r fuel (nI (fr C P n p i)) (nI i) σ') Q := by
  intro m
  induction m with
  | zero =>
    intro i fuel σ' h1 h2 hs hT hk
    obtain ⟨fuel, rfl⟩ : ∃ f, fuel = f + 1 := ⟨fuel - 1, by omega⟩
    obtain rfl : i = n := by omega
    rw [f_X3_match_20, hs 8 j 2 (by decide) (by omega) (by simp) (by simp) (by simp), hC.1]
    refine Wp.t (nI_le (Nat.le_refl _) (by omega)) ?_
    exact Wp.ret (kk σ' hs hk)
  | succ m ih =>
    intro i fuel σ' h1 h2 hs hT hk
    obtain ⟨fuel, rfl⟩ : ∃ f, fuel = f + 1 := ⟨fuel - 1, by omega⟩
    have hC' : XC σ' j n C := ⟨(hs 8 j 2 (by decide) (by omega) (by simp) (by simp) (by simp)).trans hC.1, fun i hi => (hs 9 j i (by decide) (by omega) (by simp) (by simp) (by simp)).trans (hC.2 i hi)⟩
    have hP' : XP σ' r p P T := ⟨(hs 10 r 8 (by decide) (by omega) (by simp) (by simp) (by simp)).trans hP.1, fun k hk => ⟨(hs 11 r k (by decide) (by omega) (by simp) (by simp) (by simp)).trans (hP.2 k hk).1, (hs 12 r k (by decide) (by omega) (by simp) (by simp) (by simp)).trans (hP.2 k hk).2⟩⟩
    have hfp := fr_le (C := C) (P := P) (n := n) (p := p) i
    have htk : mt C P n p i = _ := tk_first (C := C) (P := P) (n := n) (p := p) (show i < n by omega) hfp
    rw [f_X3_match_20, hC'.1]
    refine Wp.f (nI_ge (by omega) (by omega)) ?_
    refine Wp.eq (X_codeAt hC' hn (by omega)) ?_
    refine Wp.eq (show f_X9_firstOf r (nI (C i)) (nI (fr C P n p i)) σ' = _ from X_firstOf hP' hp (hbC i) hbP (p - fr C P n p i) _ gFuel (by omega) (Nat.lt_of_le_of_lt (show _ ≤ 4000 by omega) gFuel_ge)) ?_
    -- nothing is taken
    have skip : mt C P n p i = none → ∀ f3 : Int32, f3 = nI (fr C P n p i) → Wp (f_X3_match_20 m0 j r fuel f3 (nI i + 1) σ') Q := by
      intro hmt f3 hf3
      rw [hf3, nI_1]
      have e : fr C P n p (i + 1) = fr C P n p i := by
        rw [fr]
        have : tk C P n p i (fr C P n p i) = none := hmt
        rw [this]
      rw [← e]
      refine ih (i + 1) fuel σ' (by omega) (by omega) hs hT ⟨hk.1, ?_, fun z hz => ⟨fun h3 => ?_, fun h3 => (hk.2.2.1 z hz).2 (by omega)⟩, fun k hk2 => ⟨fun i' h3 h4 => ?_, fun h3 => (hk.2.2.2 k hk2).2 (fun i' h4 => h3 i' (by omega))⟩⟩
      · rw [hk.2.1, mc, if_pos hmt]
        congr 1
        omega
      · by_cases e : z = i
        · subst e; rw [(hk.2.2.1 z hz).2 (Nat.le_refl _), hmt]; rfl
        · exact (hk.2.2.1 z hz).1 (by omega)
      · by_cases e : i' = i
        · subst e; rw [hmt] at h4; cases h4
        · exact (hk.2.2.2 k hk2).1 i' (by omega) h4
    cases hnx : nx (fun k => decide (C i = P k)) (p - fr C P n p i) (fr C P n p i) with
    | none =>
      rw [hnx] at htk
      refine Wp.t rfl ?_
      exact skip htk _ rfl
    | some k =>
      rw [hnx] at htk
      have hkp := (nx_some hnx).2.1
      refine Wp.f (nI_nm1 (by omega)) ?_
      show Wp ((f_X3_mostFrom m0 (nI i + 1) (nI k + 1) σ').bind _) Q
      rw [nI_1, nI_1]
      refine Wp.eq (X_mostFrom (by omega)) ?_
      refine Wp.eq (X_mostFrom (by omega)) ?_
      dsimp only
      rw [hT (i + 1) (k + 1) (by omega) (by omega) (by omega), hT i _ (Nat.zero_le _) (by omega) hfp]
      have l1 : lc C P n p (i + 1) (k + 1) ≤ 10 := Nat.le_trans lc_le (by omega)
      have l2 : lc C P n p i (fr C P n p i) ≤ 10 := Nat.le_trans lc_le (by omega)
      show Wp (if 1 + nI (lc C P n p (i + 1) (k + 1)) = nI (lc C P n p i (fr C P n p i)) then _ else _) Q
      rw [i1, nI_add]
      by_cases hq : 1 + lc C P n p (i + 1) (k + 1) = lc C P n p i (fr C P n p i)
      · refine Wp.t (by rw [hq]) ?_
        simp only [if_pos hq] at htk
        obtain ⟨f1, f2, f3⟩ := mt_fr htk
        show Wp ((f_X9_take r (nI i) (nI k) σ').bind _) Q
        unfold f_X9_take
        rw [if_neg (nI_pos (by omega)), i10, if_neg (nI_ge (by omega) (by omega)), if_neg (nI_pos (by omega)), i16, if_neg (nI_ge (by omega) (by omega)), X_timeOf hP' hp (by omega), bind_some', gst_n (by omega) (by decide), bind_some', gst_n (by omega) (by decide), bind_some', bind_some']
        dsimp only
        show Wp (f_X3_match_20 m0 j r fuel (nI k + nI 1) (nI (i + 1)) _) Q
        rw [nI_add, ← f3]
        refine ih (i + 1) fuel _ (by omega) (by omega) ?_ ?_ ⟨?_, ?_, fun z hz => ⟨fun h3 => ?_, fun h3 => ?_⟩, fun k' hk2 => ⟨fun i' h3 h4 => ?_, fun h3 => ?_⟩⟩
        · intro k' i' s' n1 n2 n3 n4 n5
          rw [← hs k' i' s' n1 n2 n3 n4 n5]
          simp only [gup]
          rw [if_neg (fun q => n3 ⟨q.1, q.2.1, Or.inr q.2.2⟩), if_neg (fun q => n4 ⟨q.1, q.2.1⟩), if_neg (fun q => n5 ⟨q.1, q.2.1⟩)]
        · intro i' k' h3 h4 h5
          rw [← hT i' k' h3 h4 h5]
          simp [gup]
        · rw [← hk.1]
          simp [gup]
        · have e1 : ∀ v w : Int32, gup (gup σ' 14 r i v) 13 r k w 10 r 10 = nI (i - mc C P n p i) := fun v w => by rw [← hk.2.1]; simp [gup]
          rw [gup_get, if_pos rfl, e1, nI_1, mc, if_neg (by rw [htk]; simp)]
          congr 1
          have := mc_le (C := C) (P := P) (n := n) (p := p) i
          omega
        · by_cases e : z = i
          · subst e; rw [htk]; simp [gup, tmx]
          · rw [← (hk.2.2.1 z hz).1 (by omega)]; simp [gup, e]
        · rw [← (hk.2.2.1 z hz).2 (by omega)]; simp [gup, show ¬ z = i by omega]
        · by_cases e : k' = k
          · subst e
            by_cases e2 : i' = i
            · subst e2; simp [gup]
            · exact absurd (mt_lt (show i' < i by omega) h4 htk) (Nat.lt_irrefl _)
          · have e2 : i' ≠ i := fun e2 => by subst e2; rw [htk] at h4; cases h4; exact e rfl
            rw [← (hk.2.2.2 k' hk2).1 i' (by omega) h4]
            simp [gup, e]
        · have e : k' ≠ k := fun e => by subst e; exact h3 i (by omega) htk
          rw [← (hk.2.2.2 k' hk2).2 (fun i' h4 => h3 i' (by omega))]
          simp [gup, e]
      · refine Wp.f (nI_ne (by omega) (by omega) hq) ?_
        simp only [if_neg hq] at htk
        have := skip htk _ rfl
        rw [nI_1] at this
        exact this
/-- the match of runner r on course j -/
theorem X_match (hC : XC σ j n C) (hP : XP σ r p P T) (hn : n ≤ 10) (hp : p ≤ 16) (hbC : ∀ i, C i < 10000) (hbP : ∀ k, P k < 10000) : Wp (f_X3_match m0 j r σ) (fun σ' => Xm r σ σ' ∧ Xk C P T n p n r σ') := by
  unfold f_X3_match
  refine Wp.bind (X_mostTaken (m0 := m0) hC hP hn hp hbC hbP) (fun q h => ?_)
  obtain ⟨-, hs, hT⟩ := h
  rw [(hC.of hs).1]
  refine Wp.bind X_unmatch (fun σ2 h2 => ?_)
  obtain ⟨u1, u2, u3, u4, u5⟩ := h2
  have hs2 : Xm r σ σ2 := fun k i s n1 n2 n3 n4 n5 => (u1 k i s n3 n4 n5).trans (hs k i s n1 n2)
  rw [i0]
  exact X_20 hC hP hn hp hbC hbP (fun σ' h1 h2 => ⟨h1, h2⟩) n 0 gFuel σ2 (by omega) (Nat.lt_of_le_of_lt (show n ≤ 4000 by omega) gFuel_ge) hs2 (fun i' k h3 h4 h5 => by rw [u1 7 m0 _ (by simp) (by simp) (by simp)]; exact hT i' k h3 h4 h5) ⟨u2, by rw [u3]; rfl, fun z hz => ⟨fun h => by omega, fun _ => u5 z hz⟩, fun k hk => ⟨fun i' h => by omega, fun _ => u4 k hk⟩⟩
end XM
