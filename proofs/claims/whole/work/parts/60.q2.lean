/-! a question, once and for all; misses, missed -/
def QA (d : Nat → Nat) (σ : gSt) (fx fm : gSt → Option (Int32 × gSt)) : Prop := ∃ (v e : Int32) (σ1 : gSt), ¬ e = 4 ∧ fx σ = some (v, σ1) ∧ Xq σ σ1 e ∧ (∀ σ2, MR d σ2 → σ2 28 0 6 = (if d 0 = 0 then 0 else 1) → (∀ k i s, 26 ≤ k → σ2 k i s = σ k i s) → Wp (fm σ2) (fun r => r.1 = v ∧ Mq σ2 r.2 e))
theorem QA.ss {fx fm : gSt → Option (Int32 × gSt)} (h : ∀ σ d, Inv σ → WF d → MR d σ → XR d σ → QA d σ fx fm) : SS0 Inv fx fm := ss0_of (fun σ d hI hw hM hX _ => h σ d hI hw hM hX)
theorem QA.no {d : Nat → Nat} {σ : gSt} {fx fm : gSt → Option (Int32 × gSt)} (e : Int32) (he : ¬ e = 4) (h1 : fx σ = some (-1, xA σ e)) (h2 : ∀ σ2, MR d σ2 → fm σ2 = some (-1, mR σ2 e)) : QA d σ fx fm :=
  ⟨-1, e, xA σ e, he, h1, xA_q Xs.rf, fun σ2 hM2 _ _ => ⟨_, h2 σ2 hM2, rfl, mR_q⟩⟩
theorem QA.yes {d : Nat → Nat} {σ : gSt} {fx fm : gSt → Option (Int32 × gSt)} (v : Int32) (h1 : Wp (fx σ) (fun r => r.1 = v ∧ ∃ σ', Xs σ σ' ∧ r.2 = xA σ' 0)) (h2 : ∀ σ2, MR d (mR σ2 0) → MR d σ2 → Wp (fm σ2) (fun r => r.1 = v ∧ Ms (mR σ2 0) r.2)) : QA d σ fx fm := by
  obtain ⟨r, hr, hv, σ', hs, he⟩ := h1
  refine ⟨v, 0, xA σ' 0, by decide, ?_, xA_q hs, fun σ2 hM2 _ _ => Wp.mono (h2 σ2 hM2.mR hM2) (fun q hq => ⟨hq.1, mR_q.ms hq.2⟩)⟩
  rw [hr, ← hv, ← he]
theorem XR.of {d : Nat → Nat} {σ σ' : gSt} (h : XR d σ) (hs : Xs σ σ') : XR d σ' := h.same (fun k i s hk => hs k i s (by omega) (by omega))
section LM
variable {C P : Nat → Nat} {n p i : Nat}
theorem lc_tk (hi : i < n) : ∀ (m f : Nat), f + m = p → lc C P n p i f = lc C P n p (i + 1) f ∨ ∃ k, f ≤ k ∧ k < p ∧ C i = P k ∧ 1 + lc C P n p (i + 1) (k + 1) = lc C P n p i f := by
  intro m
  induction m with
  | zero =>
    intro f h
    obtain rfl : f = p := by omega
    left
    rw [lc_p, lc_p]
  | succ m ih =>
    intro f h
    by_cases e : C i = P f
    · exact Or.inr ⟨f, Nat.le_refl _, by omega, e, (lc_eq hi (by omega) e).symm⟩
    · have h1 := lc_ne (C := C) (P := P) hi (show f < p by omega) e
      have h2 := lc_mk (C := C) (P := P) (n := n) (i := i + 1) (show f < p by omega)
      rcases ih (f + 1) (by omega) with q | ⟨k, k1, k2, k3, k4⟩
      · left
        omega
      · by_cases g : lc C P n p i f = lc C P n p (i + 1) f
        · exact Or.inl g
        · exact Or.inr ⟨k, by omega, k2, k3, by omega⟩
theorem mt_none (hi : i < n) (h : mt C P n p i = none) : lc C P n p i (fr C P n p i) = lc C P n p (i + 1) (fr C P n p i) := by
  have hf := fr_le (C := C) (P := P) (n := n) (p := p) i
  rcases lc_tk (C := C) (P := P) (n := n) (p := p) hi (p - fr C P n p i) (fr C P n p i) (by omega) with q | ⟨k, k1, k2, k3, k4⟩
  · exact q
  · have := nx_none h k k1 (by omega)
    simp [tq, k3, k4] at this
theorem lc_mc : ∀ i, i ≤ n → lc C P n p 0 0 + mc C P n p i = i + lc C P n p i (fr C P n p i) := by
  intro i
  induction i with
  | zero => intro _; rw [fr, mc]; omega
  | succ i ih =>
    intro hi
    have h := ih (by omega)
    rw [mc]
    cases hm : mt C P n p i with
    | none =>
      have h1 := mt_none (by omega) hm
      have h2 : fr C P n p (i + 1) = fr C P n p i := by
        rw [fr]
        have : tk C P n p i (fr C P n p i) = none := hm
        rw [this]
      rw [if_pos rfl, h2]
      omega
    | some k =>
      have h1 := (nx_some (show nx _ _ _ = some k from hm)).2.2.1
      have h2 := (mt_fr hm).2.2
      simp only [tq, Bool.and_eq_true, decide_eq_true_eq] at h1
      rw [if_neg (by simp), h2]
      omega
theorem lc_full : lc C P n p 0 0 + mc C P n p n = n := by
  have := lc_mc (C := C) (P := P) (n := n) (p := p) n (Nat.le_refl _)
  rw [lc_n] at this
  omega
end LM
section Q2
variable {d : Nat → Nat} {σ σ' : gSt} {a c i : Nat}
theorem X_missesOn (h : XR d σ) (hw : WF d) (ha : a < d 1) (hc : c < d 0) : Wp (f_X4_missesOn 1 (10 + a) (nI c) σ) (fun r => r.1 = nI (ms2 d a c) ∧ Xs σ r.2) := by
  have h3 := hw.1
  have hl := hw.len hc
  have hru := hw.run ha
  unfold f_X4_missesOn
  refine Wp.eq (X_courseAt (by omega)) ?_
  refine Wp.eq (X_courseAt (by omega)) ?_
  refine Wp.bind (X_mostTaken (h.2.2.2.2.1 c hc) (h.2.2.2.2.2 a ha).2.2.2.1 hl.2 hru.2.2 (fun i => hw.b _) (fun i => hw.b _)) (fun q hq => ?_)
  refine Wp.ret ⟨?_, hq.2.1⟩
  have hf := lc_full (C := dC d c) (P := dP d a) (n := d (4 + c)) (p := d (67 + a))
  dsimp only
  rw [hq.1, (h.2.2.2.2.1 c hc).1, nI_sub (by omega)]
  congr 1
  unfold ms2
  omega
theorem M_ms2 (hM : MR d σ) (hw : WF d) (hs : Ms σ σ') (ha : a < d 1) (hc : c < d 0) : Wp (f_X12_matches (nI a) (nI c) σ') (fun r => r.1 = nI (ms2 d a c) ∧ Ms σ r.2) := by
  have hr := hw.2.1
  have h3 := hw.1
  exact Wp.mono (M_matches hM hs hw.b (by omega) (by omega) (hw.len hc).2 (hw.run ha).2.2) (fun q hq => ⟨hq.1, hq.2.1⟩)
theorem S_misses : SS2 Inv f_X11_misses f_X12_misses := by
  intro x y
  refine QA.ss (fun σ d hI hw hM hX => ?_)
  have h3 := hw.1
  have hr := hw.2.1
  by_cases hx : gin x (d 1) = true
  · obtain ⟨hxe, ha⟩ := gin_nI hx
    generalize x.toNatClampNeg = a at hxe ha
    subst hxe
    by_cases hy : gin y (d 0) = true
    · obtain ⟨hye, hc⟩ := gin_nI hy
      generalize y.toNatClampNeg = c at hye hc
      subst hye
      refine QA.yes (nI (ms2 d a c)) ?_ (fun σ2 hM2 hM3 => ?_)
      · unfold f_X11_misses
        refine Wp.eq (X_hasRunner hX hw _) ?_
        rw [bG_t hx]
        refine Wp.f o1n0 ?_
        refine Wp.eq (X_hasCourse hX hw _) ?_
        rw [bG_t hy]
        refine Wp.f o1n0 ?_
        refine Wp.eq (X_runnerAt (by omega)) ?_
        refine Wp.bind (X_missesOn hX hw ha hc) (fun q hq => ?_)
        rw [X_answered]
        exact Wp.ret ⟨hq.1, _, hq.2, rfl⟩
      · unfold f_X12_misses f_X12_misses_22
        refine Wp.eq (M_isRunner hM3 hw _) ?_
        rw [bG_t hx]
        refine Wp.f o1n0 ?_
        refine Wp.eq (M_isCourse hM3 hw _) ?_
        rw [bG_t hy]
        refine Wp.f o1n0 ?_
        refine Wp.eq un_1 ?_
        refine Wp.eq ref_0 ?_
        refine Wp.t rfl ?_
        exact Wp.bind (M_ms2 hM2 hw Ms.rf ha hc) (fun q hq => Wp.ret ⟨hq.1, hq.2⟩)
    · refine QA.no 1 (by decide) ?_ (fun σ2 hM2 => ?_)
      · unfold f_X11_misses
        rw [X_hasRunner hX hw, bG_t hx, bind_some', if_neg o1n0, X_hasCourse hX hw, bG_f hy, bind_some', if_pos rfl, X_refused]
        rfl
      · unfold f_X12_misses f_X12_misses_21 f_X12_misses_22
        rw [M_isRunner hM2 hw, bG_t hx, bind_some', if_neg o1n0, M_isCourse hM2 hw, bG_f hy, bind_some', if_pos rfl, un_0, bind_some', ref_1, bind_some', if_neg o1n0]
  · refine QA.no 1 (by decide) ?_ (fun σ2 hM2 => ?_)
    · unfold f_X11_misses
      rw [X_hasRunner hX hw, bG_f hx, bind_some', if_pos rfl, X_refused]
      rfl
    · unfold f_X12_misses f_X12_misses_21 f_X12_misses_22
      rw [M_isRunner hM2 hw, bG_f hx, bind_some', if_pos rfl, un_0, bind_some', ref_1, bind_some', if_neg o1n0]
/-- the bits of those he misses -/
def mbt (d : Nat → Nat) (a : Nat) : Nat → Int32
  | 0 => 0
  | i + 1 => if Mo d a i = none then mbt d a i ||| (1 <<< (nI i &&& 31)) else mbt d a i
theorem X_missedBits (h : XR d σ) (hw : WF d) (ha : a < d 1) : f_X9_missedBits (10 + a) σ = some (mbt d a (nown d a), σ) := by
  have ho := hw.own ha
  have := loop0 (F := fun f (x : Int32) i σ => f_X9_missedBits_4 (10 + a) f x (nI i) σ) (N := nown d a) (I := fun i x τ => x = mbt d a i ∧ τ = σ) (Q := fun r => r = (mbt d a (nown d a), σ)) (by omega)
    (fun f i x τ hi hI kk => by
      obtain ⟨rfl, rfl⟩ := hI
      simp only [f_X9_missedBits_4]
      rw [(h.2.2.2.2.2 a ha).2.2.2.2.1]
      refine Wp.f (nI_ge hi (by omega)) ?_
      refine Wp.eq (X_timeAt h hw ha (Nat.le_of_lt hi)) ?_
      dsimp only
      rw [nI_1 i]
      cases hm : Mo d a i with
      | none =>
        refine Wp.t (by rw [tA, if_neg (by omega), hm]; rfl) ?_
        exact kk _ _ ⟨by rw [mbt, if_pos hm], rfl⟩
      | some k =>
        have hb := hw.b (237 + 16 * a + k)
        refine Wp.f (by rw [tA, if_neg (by omega), hm]; exact nI_nm1 (show d (237 + 16 * a + k) < 2147483648 by omega)) ?_
        exact kk _ _ ⟨by rw [mbt, if_neg (by rw [hm]; simp)], rfl⟩)
    (fun f x τ hI => by
      obtain ⟨rfl, rfl⟩ := hI
      simp only [f_X9_missedBits_4]
      rw [(h.2.2.2.2.2 a ha).2.2.2.2.1]
      exact Wp.t (nI_le (Nat.le_refl _) (by omega)) (Wp.ret rfl)) (x := 0) (σ := σ) ⟨rfl, rfl⟩
  obtain ⟨r, hr1, rfl⟩ := this
  exact hr1
theorem or0 (x : Int32) : x ||| 0 = x := Int32.or_zero
theorem M_missed27 (hM : MR d σ) (hw : WF d) (hs : Ms σ σ') (ha : a < d 1) (ht : ∀ i, i < nown d a → σ' 35 0 i = enc (Mo d a i)) : Wp (f_X12_missed_27 (nI a) gFuel 0 0 σ') (fun r => r.1 = mbt d a (nown d a) ∧ Ms σ r.2) := by
  have ho := hw.own ha
  have hr := hw.2.1
  have h3 := hw.1
  have hru := hw.run ha
  refine loop0 (F := fun f (x : Int32) i σ => f_X12_missed_27 (nI a) f x (nI i) σ) (N := nown d a) (I := fun i x τ => x = mbt d a i ∧ τ = σ') (by omega)
    (fun f i x τ hi hI kk => ?_) (fun f x τ hI => ?_) (x := 0) (σ := σ') ⟨rfl, rfl⟩
  · obtain ⟨rfl, rfl⟩ := hI
    simp only [f_X12_missed_27]
    refine Wp.eq (M_rd (j := 37 + a) (hM.of hs) (by rw [i37, nI_add]) (by omega)) ?_
    refine Wp.eq (M_rd (j := 4 + d (37 + a)) (hM.of hs) (by rw [i4, nI_add]) (by omega)) ?_
    refine Wp.f (nI_ge hi (show nown d a < 2147483648 by omega)) ?_
    refine Wp.ld i rfl (by omega) (by decide) (ht i hi) ?_
    rw [nI_1 i]
    cases hm : Mo d a i with
    | none =>
      refine Wp.t rfl ?_
      exact kk _ _ ⟨by rw [mbt, if_pos hm], rfl⟩
    | some k =>
      have := Mo_lt hm
      refine Wp.f (nI_nm1 (show k < 2147483648 by omega)) ?_
      exact kk _ _ ⟨by rw [mbt, if_neg (by rw [hm]; simp), or0], rfl⟩
  · obtain ⟨rfl, rfl⟩ := hI
    simp only [f_X12_missed_27]
    refine Wp.eq (M_rd (j := 37 + a) (hM.of hs) (by rw [i37, nI_add]) (by omega)) ?_
    refine Wp.eq (M_rd (j := 4 + d (37 + a)) (hM.of hs) (by rw [i4, nI_add]) (by omega)) ?_
    exact Wp.t (nI_le (Nat.le_refl _) (show nown d a < 2147483648 by omega)) (Wp.ret ⟨rfl, hs⟩)
theorem S_missed : SS1 Inv f_X11_missed f_X12_missed := by
  intro x
  refine QA.ss (fun σ d hI hw hM hX => ?_)
  have hr := hw.2.1
  by_cases hx : gin x (d 1) = true
  · obtain ⟨hxe, ha⟩ := gin_nI hx
    generalize x.toNatClampNeg = a at hxe ha
    subst hxe
    refine QA.yes (mbt d a (nown d a)) ?_ (fun σ2 hM2 hM3 => ?_)
    · unfold f_X11_missed
      refine Wp.eq (X_hasRunner hX hw _) ?_
      rw [bG_t hx]
      refine Wp.f o1n0 ?_
      refine Wp.eq (X_runnerAt (by omega)) ?_
      refine Wp.eq (X_missedBits hX hw ha) ?_
      rw [X_answered]
      exact Wp.ret ⟨rfl, _, Xs.rf, rfl⟩
    · unfold f_X12_missed
      refine Wp.eq (M_isRunner hM3 hw _) ?_
      rw [bG_t hx]
      refine Wp.eq un_1 ?_
      refine Wp.eq ref_0 ?_
      refine Wp.t rfl ?_
      exact Wp.bind (M_missedBy hM2 hw Ms.rf ha) (fun q hq => M_missed27 hM2 hw hq.2.1 ha hq.2.2)
  · refine QA.no 1 (by decide) ?_ (fun σ2 hM2 => ?_)
    · unfold f_X11_missed
      rw [X_hasRunner hX hw, bG_f hx, bind_some', if_pos rfl, X_refused]
      rfl
    · unfold f_X12_missed
      rw [M_isRunner hM2 hw, bG_f hx, bind_some', un_0, bind_some', ref_1, bind_some', if_neg o1n0]
end Q2
