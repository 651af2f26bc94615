/-! the reference reads: nothing but its two rows of matching changes -/
def Mz (σ σ' : gSt) : Prop := ∀ k i s, (k < 34 ∨ 35 < k) → σ' k i s = σ k i s
theorem Mz.rf {σ : gSt} : Mz σ σ := fun _ _ _ _ => rfl
theorem Mz.tr {σ σ' σ'' : gSt} (h : Mz σ σ') (h' : Mz σ' σ'') : Mz σ σ'' := fun k i s h1 => (h' k i s h1).trans (h k i s h1)
theorem Mz.up {σ σ' : gSt} {k i s : Nat} {v : Int32} (hk : 34 ≤ k ∧ k ≤ 35) (h : Mz σ σ') : Mz σ (gup σ' k i s v) := fun k' i' s' h1 => by
  rw [gup_kind (by omega)]
  exact h k' i' s' h1
theorem MR.ofz {d : Nat → Nat} {σ σ' : gSt} (h : MR d σ) (hs : Mz σ σ') : MR d σ' := fun j hj => (hs 30 0 j (by omega)).trans (h j hj)
theorem Mz.ms {σ σ' : gSt} (h : Mz σ σ') : Ms σ σ' := fun k i s h1 _ => h k i s (by omega)
section Z52
variable {d : Nat → Nat} {σ σ' : gSt} {a c n p : Nat}
theorem Z_32 (hM : MR d σ) (hd : ∀ j, d j < 10000) (ha : a < 10) (hc : c < 3) (hn : n ≤ 10) (hp : p ≤ 16) {i : Nat} (hi : i ≤ n) {k23 : Int32 → gSt → Option (Int32 × gSt)} {Q : Int32 × gSt → Prop}
    (kk : ∀ σ', Mz σ σ' → mTab (fun i => d (7 + 10 * c + i)) (fun k => d (77 + 16 * a + k)) n p i σ' → Wp (k23 (dn i) σ') Q) :
    ∀ (m fuel : Nat) (σ' : gSt), m ≤ p + 1 → m < fuel → Mz σ σ' → mTab (fun i => d (7 + 10 * c + i)) (fun k => d (77 + 16 * a + k)) n p (i + 1) σ' → (∀ k, m ≤ k → k ≤ p → σ' 34 0 (17 * i + k) = nI (lc (fun i => d (7 + 10 * c + i)) (fun k => d (77 + 16 * a + k)) n p i k)) →
    Wp (f_X12_matches_32 (nI a) (nI c) (nI n) (nI p) (nI i) k23 fuel (dn m) σ') Q := by
  intro m
  generalize hC : (fun i => d (7 + 10 * c + i)) = C at *
  generalize hP : (fun k => d (77 + 16 * a + k)) = P at *
  have eC : ∀ i, d (7 + 10 * c + i) = C i := fun i => by rw [← hC]
  have eP : ∀ k, d (77 + 16 * a + k) = P k := fun k => by rw [← hP]
  induction m with
  | zero =>
    intro fuel σ' h1 h2 hs hT hR
    obtain ⟨fuel, rfl⟩ : ∃ f, fuel = f + 1 := ⟨fuel - 1, by omega⟩
    rw [f_X12_matches_32, dn_0]
    refine Wp.t m1_lt0 ?_
    rw [dn_m]
    refine kk σ' hs (fun i' k h3 h4 h5 => ?_)
    by_cases e : i' = i
    · subst e; exact hR k (by omega) h5
    · exact hT i' k (by omega) h4 h5
  | succ m ih =>
    intro fuel σ' h1 h2 hs hT hR
    obtain ⟨fuel, rfl⟩ : ∃ f, fuel = f + 1 := ⟨fuel - 1, by omega⟩
    rw [f_X12_matches_32, dn_s]
    have hM' := hM.ofz hs
    -- a value written at (i, m), and on
    have wr : ∀ v : Nat, v = lc C P n p i m → Wp ((gst σ' 34 0 187 (nI (17 * i + m)) (nI v)).bind fun z171 => f_X12_matches_32 (nI a) (nI c) (nI n) (nI p) (nI i) k23 fuel (nI m + (-1)) z171) Q := by
      intro v hv
      refine Wp.st (17 * i + m) rfl (by omega) (by decide) ?_
      rw [dn_m]
      refine ih fuel _ (by omega) (by omega) (hs.up (by omega)) (fun i' k h3 h4 h5 => ?_) (fun k h3 h4 => ?_)
      · rw [gup_get, if_neg (by omega)]; exact hT i' k h3 h4 h5
      · rw [gup_get]
        by_cases e : k = m
        · subst e; rw [if_pos rfl, hv]
        · rw [if_neg (by omega)]; exact hR k (by omega) h4
    refine Wp.f (nI_pos (by omega)) ?_
    by_cases hin : n ≤ i
    · refine Wp.t (nI_le hin (by omega)) ?_
      refine Wp.eq M_cell ?_
      rw [i0]
      exact wr 0 (by rw [show i = n by omega, lc_n])
    · refine Wp.f (nI_ge (by omega) (by omega)) ?_
      by_cases hpm : p ≤ m
      · refine Wp.t (nI_le hpm (by omega)) ?_
        refine Wp.eq M_cell ?_
        rw [i0]
        exact wr 0 (by rw [show m = p by omega, lc_p])
      · refine Wp.f (nI_ge (by omega) (by omega)) ?_
        have l1 : lc C P n p (i + 1) m ≤ 10 := Nat.le_trans lc_le (by omega)
        have l2 : lc C P n p i (m + 1) ≤ 10 := Nat.le_trans lc_le (by omega)
        have l3 : lc C P n p (i + 1) (m + 1) ≤ 10 := Nat.le_trans lc_le (by omega)
        have q1 := lc_mk (C := C) (P := P) (n := n) (p := p) (i := i + 1) (show m < p by omega)
        have q2 := lc_mi (C := C) (P := P) (n := n) (p := p) (k := m + 1) (show i < n by omega)
        -- the rest, with the greater of both on the stack
        have go : ∀ v : Nat, v = max (lc C P n p (i + 1) m) (lc C P n p i (m + 1)) → Wp (f_X12_matches_99 (nI a) (nI c) (nI n) (nI p) (nI i) (nI m) k23 (fun v6 σ => f_X12_matches_32 (nI a) (nI c) (nI n) (nI p) (nI i) k23 fuel v6 σ) (nI v) σ') Q := by
          intro v hv
          unfold f_X12_matches_99
          refine Wp.eq (M_codeOf hM' (by omega)) ?_
          refine Wp.eq (M_punchCode hM' (by omega)) ?_
          show Wp (if nI (d (7 + 10 * c + i)) = nI (d (77 + 16 * a + m)) then _ else _) Q
          rw [eC, eP]
          have b1 : C i < 10000 := by rw [← eC]; exact hd _
          have b2 : P m < 10000 := by rw [← eP]; exact hd _
          by_cases he : C i = P m
          · refine Wp.t (by rw [he]) ?_
            rw [show nI i + 1 = nI (i + 1) from nI_1 i, show nI m + 1 = nI (m + 1) from nI_1 m]
            refine Wp.eq M_cell ?_
            refine Wp.ld (17 * (i + 1) + (m + 1)) rfl (by omega) (by decide) (hT (i + 1) (m + 1) (by omega) (by omega) (by omega)) ?_
            unfold f_X12_matches_140
            rw [i1, nI_add]
            have e1 := lc_eq (C := C) (P := P) (n := n) (p := p) (show i < n by omega) (show m < p by omega) he
            by_cases hv2 : 1 + lc C P n p (i + 1) (m + 1) ≤ v
            · refine Wp.t (nI_le hv2 (by omega)) ?_
              refine Wp.eq M_cell ?_
              exact wr v (by omega)
            · refine Wp.f (nI_ge (by omega) (by omega)) ?_
              refine Wp.eq M_cell ?_
              exact wr _ (by omega)
          · refine Wp.f (nI_ne (by omega) (by omega) he) ?_
            unfold f_X12_matches_140
            rw [i0]
            refine Wp.t (nI_le (Nat.zero_le _) (by omega)) ?_
            refine Wp.eq M_cell ?_
            exact wr v (by rw [hv, lc_ne (by omega) (by omega) he])
        rw [show nI i + 1 = nI (i + 1) from nI_1 i, show nI m + 1 = nI (m + 1) from nI_1 m]
        refine Wp.eq M_cell ?_
        refine Wp.ld (17 * (i + 1) + m) rfl (by omega) (by decide) (hT (i + 1) m (by omega) (by omega) (by omega)) ?_
        refine Wp.eq M_cell ?_
        refine Wp.ld (17 * i + (m + 1)) rfl (by omega) (by decide) (hR (m + 1) (by omega) (by omega)) ?_
        by_cases hcmp : lc C P n p (i + 1) m ≤ lc C P n p i (m + 1)
        · refine Wp.t (nI_le hcmp (by omega)) ?_
          exact go _ (by omega)
        · refine Wp.f (nI_ge (by omega) (by omega)) ?_
          exact go _ (by omega)
theorem Z_23 (hM : MR d σ) (hd : ∀ j, d j < 10000) (ha : a < 10) (hc : c < 3) (hn : n ≤ 10) (hp : p ≤ 16) {Q : Int32 × gSt → Prop}
    (kk : ∀ σ', Mz σ σ' → mTab (fun i => d (7 + 10 * c + i)) (fun k => d (77 + 16 * a + k)) n p 0 σ' → Wp (f_X12_matches_193 (nI a) (nI c) (nI n) (nI p) gFuel 0 0 0 σ') Q) :
    ∀ (m fuel : Nat) (σ' : gSt), m ≤ n + 1 → m < fuel → Mz σ σ' → mTab (fun i => d (7 + 10 * c + i)) (fun k => d (77 + 16 * a + k)) n p m σ' → Wp (f_X12_matches_23 (nI a) (nI c) (nI n) (nI p) fuel (dn m) σ') Q := by
  intro m
  induction m with
  | zero =>
    intro fuel σ' h1 h2 hs hT
    obtain ⟨fuel, rfl⟩ : ∃ f, fuel = f + 1 := ⟨fuel - 1, by omega⟩
    rw [f_X12_matches_23, dn_0]
    refine Wp.t m1_lt0 ?_
    exact kk σ' hs hT
  | succ m ih =>
    intro fuel σ' h1 h2 hs hT
    obtain ⟨fuel, rfl⟩ : ∃ f, fuel = f + 1 := ⟨fuel - 1, by omega⟩
    rw [f_X12_matches_23, dn_s]
    refine Wp.f (nI_pos (by omega)) ?_
    rw [← dn_s (m := p)]
    refine Z_32 hM hd ha hc hn hp (show m ≤ n by omega) (fun σ'' hs' hT' => ?_) (p + 1) gFuel σ' (Nat.le_refl _) (Nat.lt_of_le_of_lt (show p + 1 ≤ 4000 by omega) gFuel_ge) hs hT (fun k h3 h4 => by omega)
    exact ih fuel σ'' (by omega) (by omega) hs' hT'
theorem Z_211 (hM : MR d σ) (hd : ∀ j, d j < 10000) (ha : a < 10) (hc : c < 3) (hn : n ≤ 10) (hp : p ≤ 16) {i f : Nat} {v6 : Int32} (hi : i < n) (hf : f ≤ p) {k193 : Int32 → Int32 → Int32 → gSt → Option (Int32 × gSt)} {Q : Int32 × gSt → Prop} {z : Nat → Int32}
    (kk : ∀ σ', Mz σ σ' → mTab (fun i => d (7 + 10 * c + i)) (fun k => d (77 + 16 * a + k)) n p 0 σ' → (∀ i', i' < i → σ' 35 0 i' = z i') → ∀ o : Option Nat, o = tk (fun i => d (7 + 10 * c + i)) (fun k => d (77 + 16 * a + k)) n p i f → σ' 35 0 i = enc o → Wp (f_X12_matches_294 (nI a) (nI c) (nI n) (nI p) (nI f) v6 (nI i) k193 σ') Q) :
    ∀ (m k fuel : Nat) (σ' : gSt), k + m = p → m < fuel → f ≤ k → Mz σ σ' → mTab (fun i => d (7 + 10 * c + i)) (fun k => d (77 + 16 * a + k)) n p 0 σ' → (∀ i', i' < i → σ' 35 0 i' = z i') →
      (tk (fun i => d (7 + 10 * c + i)) (fun k => d (77 + 16 * a + k)) n p i f = nx (tq (fun i => d (7 + 10 * c + i)) (fun k => d (77 + 16 * a + k)) n p i f) m k) → σ' 35 0 i = -1 →
      Wp (f_X12_matches_211 (nI a) (nI c) (nI n) (nI p) (nI f) v6 (nI i) k193 fuel (nI k) σ') Q := by
  intro m
  generalize hC : (fun i => d (7 + 10 * c + i)) = C at *
  generalize hP : (fun k => d (77 + 16 * a + k)) = P at *
  have eC : ∀ i, d (7 + 10 * c + i) = C i := fun i => by rw [← hC]
  have eP : ∀ k, d (77 + 16 * a + k) = P k := fun k => by rw [← hP]
  induction m with
  | zero =>
    intro k fuel σ' h1 h2 h3 hs hT hz ht hv
    obtain ⟨fuel, rfl⟩ : ∃ f, fuel = f + 1 := ⟨fuel - 1, by omega⟩
    rw [f_X12_matches_211]
    refine Wp.t (nI_le (by omega) (by omega)) ?_
    exact kk σ' hs hT hz none (by rw [ht]; rfl) hv
  | succ m ih =>
    intro k fuel σ' h1 h2 h3 hs hT hz ht hv
    obtain ⟨fuel, rfl⟩ : ∃ f, fuel = f + 1 := ⟨fuel - 1, by omega⟩
    rw [f_X12_matches_211]
    have hM' := hM.ofz hs
    refine Wp.f (nI_ge (by omega) (by omega)) ?_
    refine Wp.ld i rfl (by omega) (by decide) hv ?_
    refine Wp.t rfl ?_
    refine Wp.eq (M_codeOf hM' (by omega)) ?_
    refine Wp.eq (M_punchCode hM' (by omega)) ?_
    show Wp (if nI (d (7 + 10 * c + i)) = nI (d (77 + 16 * a + k)) then _ else _) Q
    rw [eC, eP]
    have b1 : C i < 10000 := by rw [← eC]; exact hd _
    have b2 : P k < 10000 := by rw [← eP]; exact hd _
    have l1 : lc C P n p (i + 1) (k + 1) ≤ 10 := Nat.le_trans lc_le (by omega)
    have l2 : lc C P n p i f ≤ 10 := Nat.le_trans lc_le (by omega)
    rw [nx] at ht
    by_cases he : C i = P k
    · refine Wp.t (by rw [he]) ?_
      rw [show nI i + 1 = nI (i + 1) from nI_1 i, show nI k + 1 = nI (k + 1) from nI_1 k]
      refine Wp.eq M_cell ?_
      refine Wp.ld (17 * (i + 1) + (k + 1)) rfl (by omega) (by decide) (hT (i + 1) (k + 1) (by omega) (by omega) (by omega)) ?_
      refine Wp.eq M_cell ?_
      refine Wp.ld (17 * i + f) rfl (by omega) (by decide) (hT i f (by omega) (by omega) (by omega)) ?_
      rw [i1, nI_add]
      by_cases hq : 1 + lc C P n p (i + 1) (k + 1) = lc C P n p i f
      · refine Wp.t (by rw [hq]) ?_
        rw [if_pos (by simp [tq, he, hq])] at ht
        refine Wp.st i rfl (by omega) (by decide) ?_
        -- the next round of the loop sees that it is taken
        obtain ⟨fuel, rfl⟩ : ∃ f, fuel = f + 1 := ⟨fuel - 1, by omega⟩
        have fin : Wp (f_X12_matches_294 (nI a) (nI c) (nI n) (nI p) (nI f) v6 (nI i) k193 (gup σ' 35 0 i (nI k))) Q := by
          refine kk _ (hs.up (by omega)) (fun i' k' h4 h5 h6 => by rw [gup_kind (by decide)]; exact hT i' k' h4 h5 h6) (fun i' h4 => by rw [gup_get, if_neg (by omega)]; exact hz i' h4) (some k) ht.symm (by rw [gup_get, if_pos rfl]; rfl)
        rw [f_X12_matches_211]
        by_cases hk2 : p ≤ k + 1
        · refine Wp.t (nI_le hk2 (by omega)) ?_
          exact fin
        · refine Wp.f (nI_ge (by omega) (by omega)) ?_
          refine Wp.ld (v := nI k) i rfl (by omega) (by decide) (by rw [gup_get, if_pos rfl]) ?_
          refine Wp.f (nI_nm1 (by omega)) ?_
          exact fin
      · refine Wp.f (nI_ne (by omega) (by omega) hq) ?_
        rw [if_neg (by simp [tq, hq])] at ht
        exact ih (k + 1) fuel σ' (by omega) (by omega) (by omega) hs hT hz ht hv
    · refine Wp.f (nI_ne (by omega) (by omega) he) ?_
      rw [if_neg (by simp [tq, he])] at ht
      rw [show nI k + 1 = nI (k + 1) from nI_1 k]
      exact ih (k + 1) fuel σ' (by omega) (by omega) (by omega) hs hT hz ht hv
theorem Z_193 (hM : MR d σ) (hd : ∀ j, d j < 10000) (ha : a < 10) (hc : c < 3) (hn : n ≤ 10) (hp : p ≤ 16) {Q : Int32 × gSt → Prop}
    (kk : ∀ σ', Mz σ σ' → (∀ i', i' < n → σ' 35 0 i' = enc (mt (fun i => d (7 + 10 * c + i)) (fun k => d (77 + 16 * a + k)) n p i')) → Q (nI (mc (fun i => d (7 + 10 * c + i)) (fun k => d (77 + 16 * a + k)) n p n), σ')) :
    ∀ (m i fuel : Nat) (σ' : gSt), i + m = n → m < fuel → Mz σ σ' → mTab (fun i => d (7 + 10 * c + i)) (fun k => d (77 + 16 * a + k)) n p 0 σ' → (∀ i', i' < i → σ' 35 0 i' = enc (mt (fun i => d (7 + 10 * c + i)) (fun k => d (77 + 16 * a + k)) n p i')) →
      Wp (f_X12_matches_193 (nI a) (nI c) (nI n) (nI p) fuel (nI (fr (fun i => d (7 + 10 * c + i)) (fun k => d (77 + 16 * a + k)) n p i)) (nI (mc (fun i => d (7 + 10 * c + i)) (fun k => d (77 + 16 * a + k)) n p i)) (nI i) σ') Q := by
  intro m
  generalize hC : (fun i => d (7 + 10 * c + i)) = C at *
  generalize hP : (fun k => d (77 + 16 * a + k)) = P at *
  induction m with
  | zero =>
    intro i fuel σ' h1 h2 hs hT hz
    obtain ⟨fuel, rfl⟩ : ∃ f, fuel = f + 1 := ⟨fuel - 1, by omega⟩
    rw [f_X12_matches_193]
    obtain rfl : i = n := by omega
    refine Wp.t (nI_le (Nat.le_refl _) (by omega)) ?_
    exact Wp.ret (kk σ' hs hz)
  | succ m ih =>
    intro i fuel σ' h1 h2 hs hT hz
    obtain ⟨fuel, rfl⟩ : ∃ f, fuel = f + 1 := ⟨fuel - 1, by omega⟩
    rw [f_X12_matches_193]
    refine Wp.f (nI_ge (by omega) (by omega)) ?_
    refine Wp.st i rfl (by omega) (by decide) ?_
    have hfp := fr_le (C := C) (P := P) (n := n) (p := p) i
    subst hC
    subst hP
    refine Z_211 (z := fun i' => enc (mt (fun i => d (7 + 10 * c + i)) (fun k => d (77 + 16 * a + k)) n p i')) hM hd ha hc hn hp (show i < n by omega) hfp (fun σ'' hs' hT' hz' o ho hv => ?_) (p - fr (fun i => d (7 + 10 * c + i)) (fun k => d (77 + 16 * a + k)) n p i) _ gFuel _ (by omega) (Nat.lt_of_le_of_lt (show _ ≤ 4000 by omega) gFuel_ge) (Nat.le_refl _) (hs.up (by omega)) (fun i' k' h4 h5 h6 => by rw [gup_kind (by decide)]; exact hT i' k' h4 h5 h6) (fun i' h4 => by rw [gup_get, if_neg (by omega)]; exact hz i' h4) rfl (by rw [gup_get, if_pos rfl])
    have hmc := mc_le (C := fun i => d (7 + 10 * c + i)) (P := fun k => d (77 + 16 * a + k)) (n := n) (p := p) i
    have hz2 : ∀ i', i' < i + 1 → σ'' 35 0 i' = enc (mt (fun i => d (7 + 10 * c + i)) (fun k => d (77 + 16 * a + k)) n p i') := by
      intro i' h4
      by_cases e : i' = i
      · subst e; rw [hv, ho]; rfl
      · exact hz' i' (by omega)
    have hmt : mt (fun i => d (7 + 10 * c + i)) (fun k => d (77 + 16 * a + k)) n p i = o := ho.symm
    unfold f_X12_matches_294
    refine Wp.ld i rfl (by omega) (by decide) hv ?_
    cases o with
    | none =>
      refine Wp.t rfl ?_
      unfold f_X12_matches_319
      refine Wp.ld i rfl (by omega) (by decide) hv ?_
      refine Wp.t rfl ?_
      have := ih (i + 1) fuel σ'' (by omega) (by omega) hs' hT' hz2
      rw [fr, mc, ← ho, hmt] at this
      rw [nI_1, nI_1]
      simpa using this
    | some k =>
      have hk := (nx_some ho.symm).2.1
      refine Wp.f (nI_nm1 (by omega)) ?_
      refine Wp.ld i rfl (by omega) (by decide) hv ?_
      unfold f_X12_matches_319
      refine Wp.ld i rfl (by omega) (by decide) hv ?_
      refine Wp.f (nI_nm1 (by omega)) ?_
      have := ih (i + 1) fuel σ'' (by omega) (by omega) hs' hT' hz2
      rw [fr, mc, ← ho, hmt] at this
      show Wp (f_X12_matches_193 _ _ _ _ fuel (nI k + 1) (_ + 0) (nI i + 1) σ'') Q
      rw [nI_1, nI_1, add0]
      simpa using this
theorem Z_matches (hM : MR d σ) (hs : Mz σ σ') (hd : ∀ j, d j < 10000) (ha : a < 10) (hc : c < 3) (hn : d (4 + c) ≤ 10) (hp : d (67 + a) ≤ 16) :
    Wp (f_X12_matches (nI a) (nI c) σ') (fun r => r.1 = nI (mc (fun i => d (7 + 10 * c + i)) (fun k => d (77 + 16 * a + k)) (d (4 + c)) (d (67 + a)) (d (4 + c))) ∧ Mz σ r.2 ∧ ∀ i, i < d (4 + c) → r.2 35 0 i = enc (mt (fun i => d (7 + 10 * c + i)) (fun k => d (77 + 16 * a + k)) (d (4 + c)) (d (67 + a)) i)) := by
  have hM' := hM.ofz hs
  unfold f_X12_matches
  refine Wp.ld (4 + c) (by rw [i4, nI_add]) (by omega) (by decide) (hM' _ (by omega)) ?_
  refine Wp.ld (67 + a) (by rw [i67, nI_add]) (by omega) (by decide) (hM' _ (by omega)) ?_
  rw [← dn_s (m := d (4 + c))]
  refine Z_23 hM hd ha hc hn hp (fun σ'' hs' hT => ?_) (d (4 + c) + 1) gFuel σ' (Nat.le_refl _) (Nat.lt_of_le_of_lt (show _ ≤ 4000 by omega) gFuel_ge) hs (fun i' k h1 h2 h3 => by omega)
  rw [i0]
  exact Z_193 hM hd ha hc hn hp (fun σ3 h3 hz => ⟨rfl, h3, hz⟩) (d (4 + c)) 0 gFuel σ'' (by omega) (Nat.lt_of_le_of_lt (show _ ≤ 4000 by omega) gFuel_ge) hs' hT (fun i' h => by omega)
end Z52
section Z56
variable {d : Nat → Nat} {σ σ' : gSt} {a c i : Nat}
theorem Z_missedBy (hM : MR d σ) (hw : WF d) (hs : Mz σ σ') (ha : a < d 1) : Wp (f_X12_missedBy (nI a) σ') (fun r => r.1 = nI (mso d a) ∧ Mz σ r.2 ∧ ∀ i, i < nown d a → r.2 35 0 i = enc (Mo d a i)) := by
  have hr := hw.2.1
  have h3 := hw.1
  have hru := hw.run ha
  have ho := hw.own ha
  unfold f_X12_missedBy
  refine Wp.eq (M_rd (j := 37 + a) (hM.ofz hs) (by rw [i37, nI_add]) (by omega)) ?_
  refine Wp.bind (Z_matches hM hs (hw.b) (show a < 10 by omega) (show d (37 + a) < 3 by omega) ho.2 hru.2.2) (fun q h => ?_)
  exact Wp.ret ⟨h.1, h.2.1, h.2.2⟩
theorem Z_isValid (hM : MR d σ) (hw : WF d) (hs : Mz σ σ') (ha : a < d 1) : Wp (f_X12_isValid (nI a) σ') (fun r => r.1 = (if mso d a = 0 then 1 else 0) ∧ Mz σ r.2) := by
  have ho := hw.own ha
  have hm : mso d a ≤ nown d a := mc_le _
  unfold f_X12_isValid
  refine Wp.bind (Z_missedBy hM hw hs ha) (fun q h => ?_)
  rw [h.1]
  by_cases e : mso d a = 0
  · refine Wp.t (by rw [e]; decide) (Wp.ret ⟨by rw [if_pos e], h.2.1⟩)
  · refine Wp.f (by rw [i0]; exact nI_ne (by omega) (by omega) e) (Wp.ret ⟨by rw [if_neg e], h.2.1⟩)
theorem Z_timeAt (hM : MR d σ) (hw : WF d) (hs : Mz σ σ') (ha : a < d 1) (hi : i ≤ nown d a) : Wp (f_X12_timeAt (nI a) (nI i) σ') (fun r => r.1 = xo (tA d a i) ∧ Mz σ r.2) := by
  have hr := hw.2.1
  have h3 := hw.1
  have hru := hw.run ha
  have ho := hw.own ha
  have hM' := hM.ofz hs
  unfold f_X12_timeAt tA
  refine Wp.eq (M_rd (j := 37 + a) hM' (by rw [i37, nI_add]) (by omega)) ?_
  refine Wp.f (nI_pos (by omega)) ?_
  refine Wp.eq (M_rd (j := 4 + d (37 + a)) hM' (by rw [i4, nI_add]) (by omega)) ?_
  by_cases e : i = nown d a
  · refine Wp.t (by rw [e]; rfl) ?_
    unfold f_X12_timeAt_26
    refine Wp.t (nI_pos' (by omega)) ?_
    refine Wp.eq (M_rd (j := 57 + a) hM' (by rw [i57, nI_add]) (by omega)) ?_
    exact Wp.ret ⟨by rw [if_pos e]; rfl, hs⟩
  · refine Wp.f (nI_ne (by omega) (show d (4 + d (37 + a)) < _ from by have := hw.b (4 + d (37 + a)); omega) e) ?_
    refine Wp.bind (Z_missedBy hM hw hs ha) (fun q h => ?_)
    have hq := h.2.2 i (by omega)
    refine Wp.ld i rfl (by omega) (by decide) hq ?_
    rw [if_neg e]
    cases hmo : Mo d a i with
    | none => exact Wp.t rfl (Wp.ret ⟨rfl, h.2.1⟩)
    | some k =>
      have hk := Mo_lt hmo
      rw [hmo] at hq
      refine Wp.f (nI_nm1 (by omega)) ?_
      refine Wp.ld i rfl (by omega) (by decide) hq ?_
      refine Wp.eq (M_punchTime (hM.ofz h.2.1) (by omega)) ?_
      exact Wp.ret ⟨rfl, h.2.1⟩
theorem Z_timeB (hM : MR d σ) (hw : WF d) (hs : Mz σ σ') (ha : a < d 1) (hi : i ≤ nown d a) : Wp (f_X12_timeAt (nI a) (nI i - 1) σ') (fun r => r.1 = xo (tB d a i) ∧ Mz σ r.2) := by
  have hr := hw.2.1
  have ho := hw.own ha
  have hM' := hM.ofz hs
  unfold tB
  by_cases e : i = 0
  · subst e
    rw [show nI 0 - 1 = -1 by decide, if_pos rfl]
    unfold f_X12_timeAt
    refine Wp.eq (M_rd (j := 37 + a) hM' (by rw [i37, nI_add]) (by omega)) ?_
    refine Wp.t m1_lt0 ?_
    unfold f_X12_timeAt_26
    refine Wp.f (by decide) ?_
    refine Wp.eq (M_rd (j := 47 + a) hM' (by rw [i47, nI_add]) (by omega)) ?_
    exact Wp.ret ⟨rfl, hs⟩
  · rw [if_neg e, i1, nI_sub (by omega)]
    exact Z_timeAt hM hw hs ha (by omega)
theorem Z_legOf (hM : MR d σ) (hw : WF d) (hs : Mz σ σ') (ha : a < d 1) (hi : i ≤ nown d a) : Wp (f_X12_legOf (nI a) (nI i) σ') (fun r => r.1 = mo (lg d a i) ∧ Mz σ r.2) := by
  have b := hw.b (57 + a)
  unfold f_X12_legOf lg
  refine Wp.bind (Z_timeB hM hw hs ha hi) (fun q h => ?_)
  refine Wp.bind (Z_timeAt hM hw h.2 ha hi) (fun q2 h2 => ?_)
  rw [h.1, h2.1]
  cases e1 : tB d a i with
  | none => exact Wp.t rfl (Wp.ret ⟨rfl, h2.2⟩)
  | some x =>
    have hb := tB_b hw ha e1
    refine Wp.f (nI_nm1 (by omega)) ?_
    cases e2 : tA d a i with
    | none => exact Wp.t rfl (Wp.ret ⟨rfl, h2.2⟩)
    | some t =>
      have hb2 := tA_b hw ha e2
      refine Wp.f (nI_nm1 (by omega)) ?_
      exact Wp.ret ⟨nI_sub (tBA hw ha hi e1 e2), h2.2⟩
end Z56
section Z58
variable {d : Nat → Nat} {σ σ' : gSt} {a c i : Nat}
theorem Z_bestRunnerL (hM : MR d σ) (hw : WF d) (hs : Mz σ σ') (hc : c < d 0) (hi : i ≤ d (4 + c)) : Wp (f_X12_bestRunner (nI c) (nI i) 1 σ') (fun r => r.1 = mo (am (lf d c i) (d 1)) ∧ Mz σ r.2) := by
  have hr := hw.2.1
  have h3 := hw.1
  refine loop0 (F := fun f (x : Int32 × Int32) a σ => f_X12_bestRunner_10 (nI c) (nI i) 1 f x.1 x.2 (nI a) σ) (N := d 1) (I := fun a x τ => x.1 = mo (am (lf d c i) a) ∧ (∀ j v, am (lf d c i) a = some j → lf d c i j = some v → x.2 = nI v) ∧ Mz σ τ) (by omega)
    (fun f a x τ ha hI kk => ?_) (fun f x τ hI => ?_) (x := (-2, 0)) (σ := σ') ⟨rfl, (fun j v h => nomatch h), hs⟩
  · obtain ⟨x1, x2⟩ := x
    obtain ⟨e1, e2, hs⟩ := hI
    dsimp only at e1 e2
    have b := hw.b (37 + a)
    show Wp (f_X12_bestRunner_10 (nI c) (nI i) 1 (f + 1) x1 x2 (nI a) τ) _
    rw [f_X12_bestRunner_10]
    refine Wp.eq (M_rd (j := 1) (hM.ofz hs) i1 (by decide)) ?_
    refine Wp.f (nI_ge ha (by omega)) ?_
    refine Wp.eq (M_rd (j := 37 + a) (hM.ofz hs) (by rw [i37, nI_add]) (by omega)) ?_
    have hsp := am_spec (lf d c i) a
    have tail : ∀ (o : Option Nat) (τ : gSt), lf d c i a = o → Mz σ τ → Wp (f_X12_bestRunner_61 (nI c) (nI i) 1 x1 x2 (nI a) (fun v4 v5 v6 σ => f_X12_bestRunner_10 (nI c) (nI i) 1 f v4 v5 v6 σ) (mo o) τ) (fun r => r.1 = mo (am (lf d c i) (d 1)) ∧ Mz σ r.2) := by
      intro o τ ho hs
      unfold f_X12_bestRunner_61
      rw [nI_1 a]
      cases o with
      | none =>
        refine Wp.t rfl ?_
        have hn : am (lf d c i) (a + 1) = am (lf d c i) a := by rw [am, ho]; cases am (lf d c i) a <;> rfl
        exact kk (x1, x2) τ ⟨by rw [hn]; exact e1, fun j v hj => e2 j v (by rw [← hn]; exact hj), hs⟩
      | some v =>
        have hv := lf_b hw hi ha ho
        refine Wp.f (nI_nm2 (by omega)) ?_
        cases ham : am (lf d c i) a with
        | none =>
          rw [ham] at e1
          have hn : am (lf d c i) (a + 1) = some a := by rw [am, ho, ham]
          refine Wp.t e1 ?_
          exact kk (nI a, nI v) τ ⟨by rw [hn]; rfl, fun j u hj hu => by rw [hn] at hj; cases hj; rw [ho] at hu; cases hu; rfl, hs⟩
        | some j =>
          rw [ham] at hsp e1 e2
          obtain ⟨s1, y, s2, s3, s4, s5⟩ := hsp
          have hy := lf_b hw hi (show j < d 1 by omega) s2
          have ex := e2 j y rfl s2
          refine Wp.f (by rw [e1]; exact nI_nm2 (by omega)) ?_
          rw [ex]
          by_cases hle : y ≤ v
          · have hn : am (lf d c i) (a + 1) = some j := by rw [am, ho, ham]; simp [s2, show ¬ v < y by omega]
            refine Wp.t (nI_le hle (by omega)) ?_
            exact kk (x1, nI y) τ ⟨by rw [hn]; exact e1, fun j' u hj hu => by rw [hn] at hj; cases hj; rw [s2] at hu; cases hu; rfl, hs⟩
          · have hn : am (lf d c i) (a + 1) = some a := by rw [am, ho, ham]; simp [s2, show v < y by omega]
            refine Wp.f (nI_ge (by omega) (by omega)) ?_
            exact kk (nI a, nI v) τ ⟨by rw [hn]; rfl, fun j' u hj hu => by rw [hn] at hj; cases hj; rw [ho] at hu; cases hu; rfl, hs⟩
    by_cases e : d (37 + a) = c
    · refine Wp.t (by rw [e]) ?_
      refine Wp.f o1n0 ?_
      refine Wp.bind (Z_legOf hM hw hs ha (show i ≤ nown d a by unfold nown; rw [e]; exact hi)) (fun q hq => ?_)
      rw [hq.1]
      exact tail _ _ (by unfold lf; rw [if_pos e]) hq.2
    · refine Wp.f (nI_ne (by omega) (by omega) e) ?_
      exact tail none _ (by unfold lf; rw [if_neg e]) hs
  · obtain ⟨e1, -, hs⟩ := hI
    show Wp (f_X12_bestRunner_10 (nI c) (nI i) 1 (f + 1) x.1 x.2 (nI (d 1)) τ) _
    rw [f_X12_bestRunner_10]
    refine Wp.eq (M_rd (j := 1) (hM.ofz hs) i1 (by decide)) ?_
    exact Wp.t (nI_le (Nat.le_refl _) (by omega)) (Wp.ret ⟨e1, hs⟩)
theorem Z_bestLeg (hM : MR d σ) (hw : WF d) (hs : Mz σ σ') (hc : c < d 0) (hi : i ≤ d (4 + c)) : Wp (f_X12_bestLeg (nI c) (nI i) σ') (fun r => r.1 = mo (lst (lf d c i) (d 1)) ∧ Mz σ r.2) := by
  have hr := hw.2.1
  unfold f_X12_bestLeg
  refine Wp.bind (Z_bestRunnerL hM hw hs hc hi) (fun q hq => ?_)
  rw [hq.1]
  have hsp := am_spec (lf d c i) (d 1)
  cases ham : am (lf d c i) (d 1) with
  | none =>
    rw [ham] at hsp
    obtain ⟨q1, -⟩ := hsp
    refine Wp.t rfl (Wp.ret ⟨by rw [q1]; rfl, hq.2⟩)
  | some j =>
    rw [ham] at hsp
    obtain ⟨s1, y, s2, s3, -⟩ := hsp
    refine Wp.f (nI_nm2 (by omega)) ?_
    have ej : d (37 + j) = c := by
      unfold lf at s2
      split at s2
      · next e => exact e
      · cases s2
    have hg : lg d j i = some y := by unfold lf at s2; rw [if_pos ej] at s2; exact s2
    refine Wp.bind (Z_legOf hM hw hq.2 s1 (show i ≤ nown d j by unfold nown; rw [ej]; exact hi)) (fun q2 h2 => ?_)
    exact Wp.ret ⟨by rw [h2.1, hg, s3], h2.2⟩
end Z58
