/-! the reference's match -/
def MR (d : Nat → Nat) (σ : gSt) : Prop := ∀ j, j < 397 → σ 30 0 j = nI (d j)
/-- nothing but the reference's own working rows has changed -/
def Ms (σ σ' : gSt) : Prop := ∀ k i s, (k < 34 ∨ 39 < k) → (k = 28 → s ≠ 23 ∧ s ≠ 24 ∧ s ≠ 27 ∧ s ≠ 28 ∧ s ≠ 29) → σ' k i s = σ k i s
theorem Ms.rf {σ : gSt} : Ms σ σ := fun _ _ _ _ _ => rfl
theorem Ms.tr {σ σ' σ'' : gSt} (h : Ms σ σ') (h' : Ms σ' σ'') : Ms σ σ'' := fun k i s h1 h2 => (h' k i s h1 h2).trans (h k i s h1 h2)
theorem Ms.up {σ σ' : gSt} {k i s : Nat} {v : Int32} (hk : 34 ≤ k ∧ k ≤ 39) (h : Ms σ σ') : Ms σ (gup σ' k i s v) := fun k' i' s' h1 h2 => by
  rw [gup_kind (by omega)]
  exact h k' i' s' h1 h2
theorem MR.of {d : Nat → Nat} {σ σ' : gSt} (h : MR d σ) (hs : Ms σ σ') : MR d σ' := fun j hj => (hs 30 0 j (by omega) (by omega)).trans (h j hj)
theorem gup_get {σ : gSt} {k i s s' : Nat} {v : Int32} : gup σ k i s v k i s' = if s' = s then v else σ k i s' := by simp [gup]
def enc (o : Option Nat) : Int32 := match o with
  | none => -1
  | some k => nI k
def dn (m : Nat) : Int32 := if m = 0 then -1 else nI (m - 1)
theorem dn_s {m : Nat} : dn (m + 1) = nI m := by simp [dn]
theorem dn_m {m : Nat} : nI m + (-1) = dn m := by
  cases m with
  | zero => simp [dn, nI_0m]
  | succ m => rw [nI_dec (by omega)]; simp [dn]
theorem dn_0 : dn 0 = -1 := rfl
/-- how many of the first m controls are missed -/
def mc (C P : Nat → Nat) (n p : Nat) : Nat → Nat
  | 0 => 0
  | m + 1 => mc C P n p m + (if mt C P n p m = none then 1 else 0)
theorem mc_le {C P : Nat → Nat} {n p : Nat} (m : Nat) : mc C P n p m ≤ m := by
  induction m with
  | zero => exact Nat.le_refl _
  | succ m ih => rw [mc]; split <;> omega
section MM
variable {d : Nat → Nat} {σ σ' : gSt} {a c n p : Nat}
theorem M_cell {i k : Nat} : f_X12_cell (nI i) (nI k) σ' = some (nI (17 * i + k), σ') := by
  unfold f_X12_cell
  rw [i17, nI_mul, nI_add]
theorem M_codeOf {i : Nat} (hM : MR d σ') (h : 7 + 10 * c + i < 397) : f_X12_codeOf (nI c) (nI i) σ' = some (nI (d (7 + 10 * c + i)), σ') := by
  unfold f_X12_codeOf
  rw [i7, i10, nI_mul, nI_add, nI_add, gld_n h (by decide), hM _ h]
  rfl
theorem M_punchCode {k : Nat} (hM : MR d σ') (h : 77 + 16 * a + k < 397) : f_X12_punchCode (nI a) (nI k) σ' = some (nI (d (77 + 16 * a + k)), σ') := by
  unfold f_X12_punchCode
  rw [i77, i16, nI_mul, nI_add, nI_add, gld_n h (by decide), hM _ h]
  rfl
theorem M_punchTime {k : Nat} (hM : MR d σ') (h : 237 + 16 * a + k < 397) : f_X12_punchTime (nI a) (nI k) σ' = some (nI (d (237 + 16 * a + k)), σ') := by
  unfold f_X12_punchTime
  rw [i237, i16, nI_mul, nI_add, nI_add, gld_n h (by decide), hM _ h]
  rfl
/-- the table of how many can be taken, from row i on -/
def mTab (C P : Nat → Nat) (n p i : Nat) (σ : gSt) : Prop := ∀ i' k, i ≤ i' → i' ≤ n → k ≤ p → σ 34 0 (17 * i' + k) = nI (lc C P n p i' k)
theorem M_32 (hM : MR d σ) (hd : ∀ j, d j < 10000) (ha : a < 10) (hc : c < 3) (hn : n ≤ 10) (hp : p ≤ 16) {i : Nat} (hi : i ≤ n) {k23 : Int32 → gSt → Option (Int32 × gSt)} {Q : Int32 × gSt → Prop}
    (kk : ∀ σ', Ms σ σ' → mTab (fun i => d (7 + 10 * c + i)) (fun k => d (77 + 16 * a + k)) n p i σ' → Wp (k23 (dn i) σ') Q) :
    ∀ (m fuel : Nat) (σ' : gSt), m ≤ p + 1 → m < fuel → Ms σ σ' → mTab (fun i => d (7 + 10 * c + i)) (fun k => d (77 + 16 * a + k)) n p (i + 1) σ' → (∀ k, m ≤ k → k ≤ p → σ' 34 0 (17 * i + k) = nI (lc (fun i => d (7 + 10 * c + i)) (fun k => d (77 + 16 * a + k)) n p i k)) →
    Wp (f_X12_matches_32 (nI a) (nI c) (nI n) (nI p) (nI i) k23 fuel (dn m) σ') Q := by
  intro m
  generalize hC : (fun i => d (7 + 10 * c + i)) = C at *
  generalize hP : (fun k => d (77 + 16 * a + k)) = P at *
  have eC : ∀ i, d (7 + 10 * c + i) = C i := fun i => by rw [← hC]
  have eP : ∀ k, d (77 + 16 * a + k) = P k := fun k => by rw [← hP]
  induction m with
  | zero =>
    intro fuel σ' h1 h2 hs hT hR
    obtain ⟨fuel, rfl⟩ : ∃ f, fuel = f + 1 := ⟨fuel - 1, by omega⟩
    rw [f_X12_matches_32, dn_0]
    refine Wp.t m1_lt0 ?_
    rw [dn_m]
    refine kk σ' hs (fun i' k h3 h4 h5 => ?_)
    by_cases e : i' = i
    · subst e; exact hR k (by omega) h5
    · exact hT i' k (by omega) h4 h5
  | succ m ih =>
    intro fuel σ' h1 h2 hs hT hR
    obtain ⟨fuel, rfl⟩ : ∃ f, fuel = f + 1 := ⟨fuel - 1, by omega⟩
    rw [f_X12_matches_32, dn_s]
    have hM' := hM.of hs
    -- a value written at (i, m), and on
    have wr : ∀ v : Nat, v = lc C P n p i m → Wp ((gst σ' 34 0 187 (nI (17 * i + m)) (nI v)).bind fun z171 => f_X12_matches_32 (nI a) (nI c) (nI n) (nI p) (nI i) k23 fuel (nI m + (-1)) z171) Q := by
      intro v hv
      refine Wp.st (17 * i + m) rfl (by omega) (by decide) ?_
      rw [dn_m]
      refine ih fuel _ (by omega) (by omega) (hs.up (by omega)) (fun i' k h3 h4 h5 => ?_) (fun k h3 h4 => ?_)
      · rw [gup_get, if_neg (by omega)]; exact hT i' k h3 h4 h5
      · rw [gup_get]
        by_cases e : k = m
        · subst e; rw [if_pos rfl, hv]
        · rw [if_neg (by omega)]; exact hR k (by omega) h4
    refine Wp.f (nI_pos (by omega)) ?_
    by_cases hin : n ≤ i
    · refine Wp.t (nI_le hin (by omega)) ?_
      refine Wp.eq M_cell ?_
      rw [i0]
      exact wr 0 (by rw [show i = n by omega, lc_n])
    · refine Wp.f (nI_ge (by omega) (by omega)) ?_
      by_cases hpm : p ≤ m
      · refine Wp.t (nI_le hpm (by omega)) ?_
        refine Wp.eq M_cell ?_
        rw [i0]
        exact wr 0 (by rw [show m = p by omega, lc_p])
      · refine Wp.f (nI_ge (by omega) (by omega)) ?_
        have l1 : lc C P n p (i + 1) m ≤ 10 := Nat.le_trans lc_le (by omega)
        have l2 : lc C P n p i (m + 1) ≤ 10 := Nat.le_trans lc_le (by omega)
        have l3 : lc C P n p (i + 1) (m + 1) ≤ 10 := Nat.le_trans lc_le (by omega)
        have q1 := lc_mk (C := C) (P := P) (n := n) (p := p) (i := i + 1) (show m < p by omega)
        have q2 := lc_mi (C := C) (P := P) (n := n) (p := p) (k := m + 1) (show i < n by omega)
        -- the rest, with the greater of both on the stack
        have go : ∀ v : Nat, v = max (lc C P n p (i + 1) m) (lc C P n p i (m + 1)) → Wp (f_X12_matches_99 (nI a) (nI c) (nI n) (nI p) (nI i) (nI m) k23 (fun v6 σ => f_X12_matches_32 (nI a) (nI c) (nI n) (nI p) (nI i) k23 fuel v6 σ) (nI v) σ') Q := by
          intro v hv
          unfold f_X12_matches_99
          refine Wp.eq (M_codeOf hM' (by omega)) ?_
          refine Wp.eq (M_punchCode hM' (by omega)) ?_
          show Wp (if nI (d (7 + 10 * c + i)) = nI (d (77 + 16 * a + m)) then _ else _) Q
          rw [eC, eP]
          have b1 : C i < 10000 := by rw [← eC]; exact hd _
          have b2 : P m < 10000 := by rw [← eP]; exact hd _
          by_cases he : C i = P m
          · refine Wp.t (by rw [he]) ?_
            rw [show nI i + 1 = nI (i + 1) from nI_1 i, show nI m + 1 = nI (m + 1) from nI_1 m]
            refine Wp.eq M_cell ?_
            refine Wp.ld (17 * (i + 1) + (m + 1)) rfl (by omega) (by decide) (hT (i + 1) (m + 1) (by omega) (by omega) (by omega)) ?_
            unfold f_X12_matches_140
            rw [i1, nI_add]
            have e1 := lc_eq (C := C) (P := P) (n := n) (p := p) (show i < n by omega) (show m < p by omega) he
            by_cases hv2 : 1 + lc C P n p (i + 1) (m + 1) ≤ v
            · refine Wp.t (nI_le hv2 (by omega)) ?_
              refine Wp.eq M_cell ?_
              exact wr v (by omega)
            · refine Wp.f (nI_ge (by omega) (by omega)) ?_
              refine Wp.eq M_cell ?_
              exact wr _ (by omega)
          · refine Wp.f (nI_ne (by omega) (by omega) he) ?_
            unfold f_X12_matches_140
            rw [i0]
            refine Wp.t (nI_le (Nat.zero_le _) (by omega)) ?_
            refine Wp.eq M_cell ?_
            exact wr v (by rw [hv, lc_ne (by omega) (by omega) he])
        rw [show nI i + 1 = nI (i + 1) from nI_1 i, show nI m + 1 = nI (m + 1) from nI_1 m]
        refine Wp.eq M_cell ?_
        refine Wp.ld (17 * (i + 1) + m) rfl (by omega) (by decide) (hT (i + 1) m (by omega) (by omega) (by omega)) ?_
        refine Wp.eq M_cell ?_
        refine Wp.ld (17 * i + (m + 1)) rfl (by omega) (by decide) (hR (m + 1) (by omega) (by omega)) ?_
        by_cases hcmp : lc C P n p (i + 1) m ≤ lc C P n p i (m + 1)
        · refine Wp.t (nI_le hcmp (by omega)) ?_
          exact go _ (by omega)
        · refine Wp.f (nI_ge (by omega) (by omega)) ?_
          exact go _ (by omega)
theorem M_23 (hM : MR d σ) (hd : ∀ j, d j < 10000) (ha : a < 10) (hc : c < 3) (hn : n ≤ 10) (hp : p ≤ 16) {Q : Int32 × gSt → Prop}
    (kk : ∀ σ', Ms σ σ' → mTab (fun i => d (7 + 10 * c + i)) (fun k => d (77 + 16 * a + k)) n p 0 σ' → Wp (f_X12_matches_193 (nI a) (nI c) (nI n) (nI p) gFuel 0 0 0 σ') Q) :
    ∀ (m fuel : Nat) (σ' : gSt), m ≤ n + 1 → m < fuel → Ms σ σ' → mTab (fun i => d (7 + 10 * c + i)) (fun k => d (77 + 16 * a + k)) n p m σ' → Wp (f_X12_matches_23 (nI a) (nI c) (nI n) (nI p) fuel (dn m) σ') Q := by
  intro m
  induction m with
  | zero =>
    intro fuel σ' h1 h2 hs hT
    obtain ⟨fuel, rfl⟩ : ∃ f, fuel = f + 1 := ⟨fuel - 1, by omega⟩
    rw [f_X12_matches_23, dn_0]
    refine Wp.t m1_lt0 ?_
    exact kk σ' hs hT
  | succ m ih =>
    intro fuel σ' h1 h2 hs hT
    obtain ⟨fuel, rfl⟩ : ∃ f, fuel = f + 1 := ⟨fuel - 1, by omega⟩
    rw [f_X12_matches_23, dn_s]
    refine Wp.f (nI_pos (by omega)) ?_
    rw [← dn_s (m := p)]
    refine M_32 hM hd ha hc hn hp (show m ≤ n by omega) (fun σ'' hs' hT' => ?_) (p + 1) gFuel σ' (Nat.le_refl _) (Nat.lt_of_le_of_lt (show p + 1 ≤ 4000 by omega) gFuel_ge) hs hT (fun k h3 h4 => by omega)
    exact ih fuel σ'' (by omega) (by omega) hs' hT'
/-- how the search of one control goes on -/
theorem M_211 (hM : MR d σ) (hd : ∀ j, d j < 10000) (ha : a < 10) (hc : c < 3) (hn : n ≤ 10) (hp : p ≤ 16) {i f : Nat} {v6 : Int32} (hi : i < n) (hf : f ≤ p) {k193 : Int32 → Int32 → Int32 → gSt → Option (Int32 × gSt)} {Q : Int32 × gSt → Prop} {z : Nat → Int32}
    (kk : ∀ σ', Ms σ σ' → mTab (fun i => d (7 + 10 * c + i)) (fun k => d (77 + 16 * a + k)) n p 0 σ' → (∀ i', i' < i → σ' 35 0 i' = z i') → ∀ o : Option Nat, o = tk (fun i => d (7 + 10 * c + i)) (fun k => d (77 + 16 * a + k)) n p i f → σ' 35 0 i = enc o → Wp (f_X12_matches_294 (nI a) (nI c) (nI n) (nI p) (nI f) v6 (nI i) k193 σ') Q) :
    ∀ (m k fuel : Nat) (σ' : gSt), k + m = p → m < fuel → f ≤ k → Ms σ σ' → mTab (fun i => d (7 + 10 * c + i)) (fun k => d (77 + 16 * a + k)) n p 0 σ' → (∀ i', i' < i → σ' 35 0 i' = z i') →
      (tk (fun i => d (7 + 10 * c + i)) (fun k => d (77 + 16 * a + k)) n p i f = nx (tq (fun i => d (7 + 10 * c + i)) (fun k => d (77 + 16 * a + k)) n p i f) m k) → σ' 35 0 i = -1 →
      Wp (f_X12_matches_211 (nI a) (nI c) (nI n) (nI p) (nI f) v6 (nI i) k193 fuel (nI k) σ') Q := by
  intro m
  generalize hC : (fun i => d (7 + 10 * c + i)) = C at *
  generalize hP : (fun k => d (77 + 16 * a + k)) = P at *
  have eC : ∀ i, d (7 + 10 * c + i) = C i := fun i => by rw [← hC]
  have eP : ∀ k, d (77 + 16 * a + k) = P k := fun k => by rw [← hP]
  induction m with
  | zero =>
    intro k fuel σ' h1 h2 h3 hs hT hz ht hv
    obtain ⟨fuel, rfl⟩ : ∃ f, fuel = f + 1 := ⟨fuel - 1, by omega⟩
    rw [f_X12_matches_211]
    refine Wp.t (nI_le (by omega) (by omega)) ?_
    exact kk σ' hs hT hz none (by rw [ht]; rfl) hv
  | succ m ih =>
    intro k fuel σ' h1 h2 h3 hs hT hz ht hv
    obtain ⟨fuel, rfl⟩ : ∃ f, fuel = f + 1 := ⟨fuel - 1, by omega⟩
    rw [f_X12_matches_211]
    have hM' := hM.of hs
    refine Wp.f (nI_ge (by omega) (by omega)) ?_
    refine Wp.ld i rfl (by omega) (by decide) hv ?_
    refine Wp.t rfl ?_
    refine Wp.eq (M_codeOf hM' (by omega)) ?_
    refine Wp.eq (M_punchCode hM' (by omega)) ?_
    show Wp (if nI (d (7 + 10 * c + i)) = nI (d (77 + 16 * a + k)) then _ else _) Q
    rw [eC, eP]
    have b1 : C i < 10000 := by rw [← eC]; exact hd _
    have b2 : P k < 10000 := by rw [← eP]; exact hd _
    have l1 : lc C P n p (i + 1) (k + 1) ≤ 10 := Nat.le_trans lc_le (by omega)
    have l2 : lc C P n p i f ≤ 10 := Nat.le_trans lc_le (by omega)
    rw [nx] at ht
    by_cases he : C i = P k
    · refine Wp.t (by rw [he]) ?_
      rw [show nI i + 1 = nI (i + 1) from nI_1 i, show nI k + 1 = nI (k + 1) from nI_1 k]
      refine Wp.eq M_cell ?_
      refine Wp.ld (17 * (i + 1) + (k + 1)) rfl (by omega) (by decide) (hT (i + 1) (k + 1) (by omega) (by omega) (by omega)) ?_
      refine Wp.eq M_cell ?_
      refine Wp.ld (17 * i + f) rfl (by omega) (by decide) (hT i f (by omega) (by omega) (by omega)) ?_
      rw [i1, nI_add]
      by_cases hq : 1 + lc C P n p (i + 1) (k + 1) = lc C P n p i f
      · refine Wp.t (by rw [hq]) ?_
        rw [if_pos (by simp [tq, he, hq])] at ht
        refine Wp.st i rfl (by omega) (by decide) ?_
        -- the next round of the loop sees that it is taken
        obtain ⟨fuel, rfl⟩ : ∃ f, fuel = f + 1 := ⟨fuel - 1, by omega⟩
        have fin : Wp (f_X12_matches_294 (nI a) (nI c) (nI n) (nI p) (nI f) v6 (nI i) k193 (gup σ' 35 0 i (nI k))) Q := by
          refine kk _ (hs.up (by omega)) (fun i' k' h4 h5 h6 => by rw [gup_kind (by decide)]; exact hT i' k' h4 h5 h6) (fun i' h4 => by rw [gup_get, if_neg (by omega)]; exact hz i' h4) (some k) ht.symm (by rw [gup_get, if_pos rfl]; rfl)
        rw [f_X12_matches_211]
        by_cases hk2 : p ≤ k + 1
        · refine Wp.t (nI_le hk2 (by omega)) ?_
          exact fin
        · refine Wp.f (nI_ge (by omega) (by omega)) ?_
          refine Wp.ld (v := nI k) i rfl (by omega) (by decide) (by rw [gup_get, if_pos rfl]) ?_
          refine Wp.f (nI_nm1 (by omega)) ?_
          exact fin
      · refine Wp.f (nI_ne (by omega) (by omega) hq) ?_
        rw [if_neg (by simp [tq, hq])] at ht
        exact ih (k + 1) fuel σ' (by omega) (by omega) (by omega) hs hT hz ht hv
    · refine Wp.f (nI_ne (by omega) (by omega) he) ?_
      rw [if_neg (by simp [tq, he])] at ht
      rw [show nI k + 1 = nI (k + 1) from nI_1 k]
      exact ih (k + 1) fuel σ' (by omega) (by omega) (by omega) hs hT hz ht hv
theorem M_193 (hM : MR d σ) (hd : ∀ j, d j < 10000) (ha : a < 10) (hc : c < 3) (hn : n ≤ 10) (hp : p ≤ 16) {Q : Int32 × gSt → Prop}
    (kk : ∀ σ', Ms σ σ' → (∀ i', i' < n → σ' 35 0 i' = enc (mt (fun i => d (7 + 10 * c + i)) (fun k => d (77 + 16 * a + k)) n p i')) → Q (nI (mc (fun i => d (7 + 10 * c + i)) (fun k => d (77 + 16 * a + k)) n p n), σ')) :
    ∀ (m i fuel : Nat) (σ' : gSt), i + m = n → m < fuel → Ms σ σ' → mTab (fun i => d (7 + 10 * c + i)) (fun k => d (77 + 16 * a + k)) n p 0 σ' → (∀ i', i' < i → σ' 35 0 i' = enc (mt (fun i => d (7 + 10 * c + i)) (fun k => d (77 + 16 * a + k)) n p i')) →
      Wp (f_X12_matches_193 (nI a) (nI c) (nI n) (nI p) fuel (nI (fr (fun i => d (7 + 10 * c + i)) (fun k => d (77 + 16 * a + k)) n p i)) (nI (mc (fun i => d (7 + 10 * c + i)) (fun k => d (77 + 16 * a + k)) n p i)) (nI i) σ') Q := by
  intro m
  generalize hC : (fun i => d (7 + 10 * c + i)) = C at *
  generalize hP : (fun k => d (77 + 16 * a + k)) = P at *
  induction m with
  | zero =>
    intro i fuel σ' h1 h2 hs hT hz
    obtain ⟨fuel, rfl⟩ : ∃ f, fuel = f + 1 := ⟨fuel - 1, by omega⟩
    rw [f_X12_matches_193]
    obtain rfl : i = n := by omega
    refine Wp.t (nI_le (Nat.le_refl _) (by omega)) ?_
    exact Wp.ret (kk σ' hs hz)
  | succ m ih =>
    intro i fuel σ' h1 h2 hs hT hz
    obtain ⟨fuel, rfl⟩ : ∃ f, fuel = f + 1 := ⟨fuel - 1, by omega⟩
    rw [f_X12_matches_193]
    refine Wp.f (nI_ge (by omega) (by omega)) ?_
    refine Wp.st i rfl (by omega) (by decide) ?_
    have hfp := fr_le (C := C) (P := P) (n := n) (p := p) i
    subst hC
    subst hP
    refine M_211 (z := fun i' => enc (mt (fun i => d (7 + 10 * c + i)) (fun k => d (77 + 16 * a + k)) n p i')) hM hd ha hc hn hp (show i < n by omega) hfp (fun σ'' hs' hT' hz' o ho hv => ?_) (p - fr (fun i => d (7 + 10 * c + i)) (fun k => d (77 + 16 * a + k)) n p i) _ gFuel _ (by omega) (Nat.lt_of_le_of_lt (show _ ≤ 4000 by omega) gFuel_ge) (Nat.le_refl _) (hs.up (by omega)) (fun i' k' h4 h5 h6 => by rw [gup_kind (by decide)]; exact hT i' k' h4 h5 h6) (fun i' h4 => by rw [gup_get, if_neg (by omega)]; exact hz i' h4) rfl (by rw [gup_get, if_pos rfl])
    have hmc := mc_le (C := fun i => d (7 + 10 * c + i)) (P := fun k => d (77 + 16 * a + k)) (n := n) (p := p) i
    have hz2 : ∀ i', i' < i + 1 → σ'' 35 0 i' = enc (mt (fun i => d (7 + 10 * c + i)) (fun k => d (77 + 16 * a + k)) n p i') := by
      intro i' h4
      by_cases e : i' = i
      · subst e; rw [hv, ho]; rfl
      · exact hz' i' (by omega)
    have hmt : mt (fun i => d (7 + 10 * c + i)) (fun k => d (77 + 16 * a + k)) n p i = o := ho.symm
    unfold f_X12_matches_294
    refine Wp.ld i rfl (by omega) (by decide) hv ?_
    cases o with
    | none =>
      refine Wp.t rfl ?_
      unfold f_X12_matches_319
      refine Wp.ld i rfl (by omega) (by decide) hv ?_
      refine Wp.t rfl ?_
      have := ih (i + 1) fuel σ'' (by omega) (by omega) hs' hT' hz2
      rw [fr, mc, ← ho, hmt] at this
      rw [nI_1, nI_1]
      simpa using this
    | some k =>
      have hk := (nx_some ho.symm).2.1
      refine Wp.f (nI_nm1 (by omega)) ?_
      refine Wp.ld i rfl (by omega) (by decide) hv ?_
      unfold f_X12_matches_319
      refine Wp.ld i rfl (by omega) (by decide) hv ?_
      refine Wp.f (nI_nm1 (by omega)) ?_
      have := ih (i + 1) fuel σ'' (by omega) (by omega) hs' hT' hz2
      rw [fr, mc, ← ho, hmt] at this
      show Wp (f_X12_matches_193 _ _ _ _ fuel (nI k + 1) (_ + 0) (nI i + 1) σ'') Q
      rw [nI_1, nI_1, add0]
      simpa using this
theorem M_matches (hM : MR d σ) (hs : Ms σ σ') (hd : ∀ j, d j < 10000) (ha : a < 10) (hc : c < 3) (hn : d (4 + c) ≤ 10) (hp : d (67 + a) ≤ 16) :
    Wp (f_X12_matches (nI a) (nI c) σ') (fun r => r.1 = nI (mc (fun i => d (7 + 10 * c + i)) (fun k => d (77 + 16 * a + k)) (d (4 + c)) (d (67 + a)) (d (4 + c))) ∧ Ms σ r.2 ∧ ∀ i, i < d (4 + c) → r.2 35 0 i = enc (mt (fun i => d (7 + 10 * c + i)) (fun k => d (77 + 16 * a + k)) (d (4 + c)) (d (67 + a)) i)) := by
  have hM' := hM.of hs
  unfold f_X12_matches
  refine Wp.ld (4 + c) (by rw [i4, nI_add]) (by omega) (by decide) (hM' _ (by omega)) ?_
  refine Wp.ld (67 + a) (by rw [i67, nI_add]) (by omega) (by decide) (hM' _ (by omega)) ?_
  rw [← dn_s (m := d (4 + c))]
  refine M_23 hM hd ha hc hn hp (fun σ'' hs' hT => ?_) (d (4 + c) + 1) gFuel σ' (Nat.le_refl _) (Nat.lt_of_le_of_lt (show _ ≤ 4000 by omega) gFuel_ge) hs (fun i' k h1 h2 h3 => by omega)
  rw [i0]
  exact M_193 hM hd ha hc hn hp (fun σ3 h3 hz => ⟨rfl, h3, hz⟩) (d (4 + c)) 0 gFuel σ'' (by omega) (Nat.lt_of_le_of_lt (show _ ≤ 4000 by omega) gFuel_ge) hs' hT (fun i' h => by omega)
end MM
