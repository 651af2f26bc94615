/-! packs: both gather alike -/
section PG2
variable {d : Nat → Nat} {σ σ' : gSt} {a b c i : Nat}
theorem pcl_tk {k : Nat} : pcl d a k = none ↔ tkB d a k (nown d a) = false := by
  constructor
  · intro h
    cases hz : tkB d a k (nown d a) with
    | false => rfl
    | true =>
      obtain ⟨i', h3, h4⟩ := (tkB_iff _).mp hz
      have := nx_none h i' (Nat.zero_le _) (by omega)
      rw [h4] at this
      simp at this
  · intro h
    cases hp : pcl d a k with
    | none => rfl
    | some i =>
      have g := nx_some hp
      have : tkB d a k (nown d a) = true := (tkB_iff _).mpr ⟨i, by omega, of_decide_eq_true g.2.2.1⟩
      rw [h] at this
      cases this
theorem X_gather30 (h : XR d σ) (hw : WF d) (ha : a < d 1) {u : Nat} (hu : u < 10000) {s : Nat × (Nat → Nat) × (Nat → Nat)} (hg : gok2 (10 * a) s) {k7 : Int32 → gSt → Option gSt} {Q : gSt → Prop} (kk : ∀ τ, Xs σ τ → GX (stK d u a s (d (67 + a))) τ → Wp (k7 (nI (a + 1)) τ) Q) (hs : Xs σ σ') (hG : GX s σ') : Wp (f_X6_gather_30 (nI u) (nI a) (10 + a) k7 gFuel 0 σ') Q := by
  have hr := hw.2.1
  have ho := hw.own ha
  have hru := hw.run ha
  refine loop0 (F := fun f (_ : Unit) k τ => f_X6_gather_30 (nI u) (nI a) (10 + a) k7 f (nI k) τ) (N := d (67 + a)) (I := fun k _ τ => Xs σ τ ∧ GX (stK d u a s k) τ) (by omega)
    (fun f k x τ hk hI kk2 => ?_) (fun f x τ hI => ?_) (x := ()) (σ := σ') ⟨hs, hG⟩
  · obtain ⟨hs, hG⟩ := hI
    have hX := h.of hs
    obtain ⟨-, -, -, hP, -⟩ := hX.2.2.2.2.2 a ha
    have bP := hw.b (77 + 16 * a + k)
    show Wp (f_X6_gather_30 (nI u) (nI a) (10 + a) k7 (f + 1) (nI k) τ) _
    rw [f_X6_gather_30, hP.1]
    refine Wp.f (nI_ge hk (by omega)) ?_
    refine Wp.eq (X_codeOf hP hru.2.2 hk) ?_
    dsimp only
    rw [nI_1 k]
    by_cases e : dP d a k = u
    · refine Wp.t (by rw [e]) ?_
      refine Wp.eq (X_controlOf hX hw ha hk) ?_
      cases hp : pcl d a k with
      | none =>
        refine Wp.t rfl ?_
        refine kk2 () τ ⟨hs, ?_⟩
        rw [stK, if_neg (fun q => by rw [pcl_tk.mp hp] at q; exact nomatch q.2)]
        exact hG
      | some i =>
        have g := nx_some hp
        have hm : Mo d a i = some k := of_decide_eq_true g.2.2.1
        have htk : tkB d a k (nown d a) = true := (tkB_iff _).mpr ⟨i, by omega, hm⟩
        have hst : stK d u a s k = stI d u a s i := by rw [stK_mo hm, stI_stK i (by omega)]
        have hok : gok2 (10 * a + i) (stK d u a s k) := by rw [hst]; exact stI_ok hw (by omega) hg i
        refine Wp.f (nI_nm1 (show i < 2147483648 by omega)) ?_
        refine Wp.eq (X_timeOf hP hru.2.2 hk) ?_
        have h1 := hok.1
        refine Wp.bind (X_srtIn (A := (stK d u a s k).2.1) (B := (stK d u a s k).2.2) (t := dT d a k) (r := a) (n := (stK d u a s k).1) (fun j hj => (hok.2 j hj).1) (hw.b _) (by omega) hG.1 hG.2) (fun τ' hq => ?_)
        refine kk2 () τ' ⟨hs.tr (fun k i s q1 q2 => hq.1 k i s (by omega) (by omega) (by omega)), ?_⟩
        rw [stK, if_pos ⟨e, htk⟩]
        exact ⟨hq.2.1, fun j hj => hq.2.2 j (by have : (insT (dT d a k) a (stK d u a s k)).1 = (stK d u a s k).1 + 1 := rfl; omega)⟩
    · refine Wp.f (nI_ne (show dP d a k < 2147483648 from Nat.lt_trans bP (by decide)) (by omega) e) ?_
      refine kk2 () τ ⟨hs, ?_⟩
      rw [stK, if_neg (fun q => e q.1)]
      exact hG
  · obtain ⟨hs, hG⟩ := hI
    have hX := h.of hs
    obtain ⟨-, -, -, hP, -⟩ := hX.2.2.2.2.2 a ha
    show Wp (f_X6_gather_30 (nI u) (nI a) (10 + a) k7 (f + 1) (nI (d (67 + a))) τ) _
    rw [f_X6_gather_30, hP.1]
    refine Wp.t (nI_le (Nat.le_refl _) (by omega)) ?_
    rw [nI_1 a]
    exact kk τ hs hG
theorem X_gather (h : XR d σ) (hw : WF d) {u : Nat} (hu : u < 10000) : Wp (f_X6_gather (nI u) σ) (fun τ => Xs σ τ ∧ GX (gs d u (d 1)) τ) := by
  have hr := hw.2.1
  unfold f_X6_gather
  refine loop0 (F := fun f (_ : Unit) a τ => f_X6_gather_7 (nI u) f (nI a) τ) (N := d 1) (I := fun a _ τ => Xs σ τ ∧ GX (gs d u a) τ) (by omega)
    (fun f a x τ ha hI kk => ?_) (fun f x τ hI => ?_) (x := ()) (σ := gup σ 22 0 3 0) ⟨Xs.up (by omega) Xs.rf, by simp [gup, gs, nI_0], fun j hj => absurd hj (Nat.not_lt_zero _)⟩
  · obtain ⟨hs, hG⟩ := hI
    have hX := h.of hs
    show Wp (f_X6_gather_7 (nI u) (f + 1) (nI a) τ) _
    rw [f_X6_gather_7, hX.2.1]
    refine Wp.f (nI_ge ha (by omega)) ?_
    refine Wp.eq (X_runnerAt (by omega)) ?_
    exact X_gather30 h hw ha hu (gs_ok hw a (by omega)) (fun τ hs hG => kk () τ ⟨hs, hG⟩) hs hG
  · obtain ⟨hs, hG⟩ := hI
    have hX := h.of hs
    show Wp (f_X6_gather_7 (nI u) (f + 1) (nI (d 1)) τ) _
    rw [f_X6_gather_7, hX.2.1]
    exact Wp.t (nI_le (Nat.le_refl _) (by omega)) (Wp.ret ⟨hs, hG⟩)
theorem M_laysMet25 (hM : MR d σ) (hw : WF d) (ha : a < d 1) {u : Nat} (hu : u < 10000) {s : Nat × (Nat → Nat) × (Nat → Nat)} (hg : gok2 (10 * a) s) {k7 : Int32 → gSt → Option gSt} {Q : gSt → Prop} (kk : ∀ τ, Ms σ τ → GM (stK d u a s (d (67 + a))) τ → Wp (k7 (nI (a + 1)) τ) Q) (hs : Ms σ σ') (hG : GM s σ') (hT : ∀ i, i < nown d a → σ' 35 0 i = enc (Mo d a i)) : Wp (f_X12_laysMet_25 (nI u) (nI a) k7 gFuel 0 σ') Q := by
  have hr := hw.2.1
  have h3 := hw.1
  have ho := hw.own ha
  have hru := hw.run ha
  have hon : nown d a = d (4 + d (37 + a)) := rfl
  refine loop0 (F := fun f (_ : Unit) i τ => f_X12_laysMet_25 (nI u) (nI a) k7 f (nI i) τ) (N := nown d a) (I := fun i _ τ => Ms σ τ ∧ GM (stI d u a s i) τ ∧ ∀ i, i < nown d a → τ 35 0 i = enc (Mo d a i)) (by omega)
    (fun f i x τ hi hI kk2 => ?_) (fun f x τ hI => ?_) (x := ()) (σ := σ') ⟨hs, hG, hT⟩
  · obtain ⟨hs, hG, hT⟩ := hI
    have hTi := hT i hi
    show Wp (f_X12_laysMet_25 (nI u) (nI a) k7 (f + 1) (nI i) τ) _
    rw [f_X12_laysMet_25]
    refine Wp.eq (M_rd (j := 37 + a) (hM.of hs) (by rw [i37, nI_add]) (by omega)) ?_
    refine Wp.eq (M_rd (j := 4 + d (37 + a)) (hM.of hs) (by rw [i4, nI_add]) (by omega)) ?_
    refine Wp.f (nI_ge (show i < d (4 + d (37 + a)) by omega) (by omega)) ?_
    refine Wp.ld i rfl (by omega) (by decide) hTi ?_
    cases hm : Mo d a i with
    | none =>
      refine Wp.t rfl ?_
      rw [nI_1]
      exact kk2 () τ ⟨hs, by rw [stI, hm]; exact hG, hT⟩
    | some k =>
      have hk := Mo_lt hm
      have bP := hw.b (77 + 16 * a + k)
      rw [hm] at hTi
      refine Wp.f (nI_nm1 (show k < 2147483648 by omega)) ?_
      refine Wp.ld i rfl (by omega) (by decide) hTi ?_
      refine Wp.eq (M_punchCode (hM.of hs) (show 77 + 16 * a + k < 397 by omega)) ?_
      by_cases e : dP d a k = u
      · refine Wp.t (show nI (d (77 + 16 * a + k)) = nI u by rw [show d (77 + 16 * a + k) = u from e]) ?_
        refine Wp.ld i rfl (by omega) (by decide) hTi ?_
        refine Wp.eq (M_punchTime (hM.of hs) (show 237 + 16 * a + k < 397 by omega)) ?_
        have hok : gok2 (10 * a + i) (stI d u a s i) := stI_ok hw (by omega) hg i
        have h1 := hok.1
        dsimp only
        rw [hG.1]
        refine M_srt89 (A := (stI d u a s i).2.1) (B := (stI d u a s i).2.2) (t := dT d a k) (r := a) (n := (stI d u a s i).1) (fun j hj => (hok.2 j hj).1) (hw.b _) (by omega) (stI d u a s i).1 gFuel τ (Nat.le_refl _) (Nat.lt_trans (by omega) gFuel_ge) hG.1 hG.2 (fun j h1 h2 => by omega) (fun τ' q1 q2 q3 => ?_)
        rw [nI_1]
        refine kk2 () τ' ⟨fun k i s e1 e2 => (q1 k i s (by omega) (by omega) (fun z => by have := e2 z.1; omega)).trans (hs k i s e1 e2), ?_, fun i hi => (q1 35 0 i (by omega) (by omega) (by omega)).trans (hT i hi)⟩
        rw [stI, hm]
        dsimp only
        rw [if_pos e]
        exact ⟨q2, fun j hj => q3 j (by have : (insT (dT d a k) a (stI d u a s i)).1 = (stI d u a s i).1 + 1 := rfl; omega)⟩
      · refine Wp.f (nI_ne (show d (77 + 16 * a + k) < 2147483648 by omega) (by omega) e) ?_
        rw [nI_1]
        refine kk2 () τ ⟨hs, ?_, hT⟩
        rw [stI, hm]
        dsimp only
        rw [if_neg e]
        exact hG
  · obtain ⟨hs, hG, -⟩ := hI
    show Wp (f_X12_laysMet_25 (nI u) (nI a) k7 (f + 1) (nI (nown d a)) τ) _
    rw [f_X12_laysMet_25]
    refine Wp.eq (M_rd (j := 37 + a) (hM.of hs) (by rw [i37, nI_add]) (by omega)) ?_
    refine Wp.eq (M_rd (j := 4 + d (37 + a)) (hM.of hs) (by rw [i4, nI_add]) (by omega)) ?_
    refine Wp.t (nI_le (show d (4 + d (37 + a)) ≤ nown d a by omega) (by omega)) ?_
    rw [nI_1 a]
    exact kk τ hs (by rw [← stI_all]; exact hG)
theorem M_laysMet (hM : MR d σ) (hw : WF d) (hs : Ms σ σ') {u : Nat} (hu : u < 10000) : Wp (f_X12_laysMet (nI u) σ') (fun τ => Ms σ τ ∧ GM (gs d u (d 1)) τ) := by
  have hr := hw.2.1
  unfold f_X12_laysMet
  refine loop0 (F := fun f (_ : Unit) a τ => f_X12_laysMet_7 (nI u) f (nI a) τ) (N := d 1) (I := fun a _ τ => Ms σ τ ∧ GM (gs d u a) τ) (by omega)
    (fun f a x τ ha hI kk => ?_) (fun f x τ hI => ?_) (x := ()) (σ := gup σ' 28 0 27 0) ⟨Ms.up28 (by omega) hs, by simp [gup, gs, nI_0], fun j hj => absurd hj (Nat.not_lt_zero _)⟩
  · obtain ⟨hs, hG⟩ := hI
    show Wp (f_X12_laysMet_7 (nI u) (f + 1) (nI a) τ) _
    rw [f_X12_laysMet_7]
    refine Wp.eq (M_rd (j := 1) (hM.of hs) i1 (by decide)) ?_
    refine Wp.f (nI_ge ha (by omega)) ?_
    refine Wp.bind (Z_missedBy (hM.of hs) hw Mz.rf ha) (fun q hq => ?_)
    refine M_laysMet25 hM hw ha hu (gs_ok hw a (by omega)) (fun τ hs hG => kk () τ ⟨hs, hG⟩) (hs.tr hq.2.1.ms) ⟨(hq.2.1 28 0 27 (by omega)).trans hG.1, fun j hj => ?_⟩ hq.2.2
    rw [hq.2.1 38 0 j (by omega), hq.2.1 39 0 j (by omega)]
    exact hG.2 j hj
  · obtain ⟨hs, hG⟩ := hI
    show Wp (f_X12_laysMet_7 (nI u) (f + 1) (nI (d 1)) τ) _
    rw [f_X12_laysMet_7]
    refine Wp.eq (M_rd (j := 1) (hM.of hs) i1 (by decide)) ?_
    exact Wp.t (nI_le (Nat.le_refl _) (by omega)) (Wp.ret ⟨hs, hG⟩)
end PG2
