/-! the pace of one: the class's and the reference's -/
section PD
variable {d : Nat → Nat} {σ σ' : gSt} {a c i : Nat}
/-- his legs, and the best of each that he has -/
def lgo (d : Nat → Nat) (a i : Nat) : Option Nat := if i ≤ nown d a then lg d a i else none
def bs (d : Nat → Nat) (a i : Nat) : Option Nat := match lgo d a i with
  | none => none
  | some _ => lst (lf d (d (37 + a)) i) (d 1)
theorem lgo_some (hw : WF d) (ha : a < d 1) {t : Nat} (h : lgo d a i = some t) : i ≤ nown d a ∧ lg d a i = some t ∧ t < 10000 ∧ ∃ b, lst (lf d (d (37 + a)) i) (d 1) = some b ∧ bs d a i = some b ∧ b ≤ t := by
  have h0 := h
  unfold lgo at h
  by_cases hi : i ≤ nown d a
  · rw [if_pos hi] at h
    obtain ⟨j, l, -, -, -, -, g5, g6, -⟩ := lf_has hw ha hi h
    exact ⟨hi, h, lg_b hw ha hi h, l, g5, by rw [bs, h0]; exact g5, g6⟩
  · rw [if_neg hi] at h; cases h
def psI (t b : Nat) (q : Nat × (Nat → Nat) × (Nat → Nat)) : Nat × (Nat → Nat) × (Nat → Nat) := (q.1 + 1, isr q.2.1 (ip q.2.1 q.2.2 t b q.1) t, isr q.2.2 (ip q.2.1 q.2.2 t b q.1) b)
/-- his first legs that have a best above 0, sorted -/
def ps (d : Nat → Nat) (a : Nat) : Nat → Nat × (Nat → Nat) × (Nat → Nat)
  | 0 => (0, fun _ => 0, fun _ => 0)
  | i + 1 => match lgo d a i, bs d a i with
    | some t, some b => if b = 0 then ps d a i else psI t b (ps d a i)
    | _, _ => ps d a i
theorem ps_none (h : lgo d a i = none) : ps d a (i + 1) = ps d a i := by rw [ps, h]
theorem ps_zero {t : Nat} (h : lgo d a i = some t) (hb : bs d a i = some 0) : ps d a (i + 1) = ps d a i := by rw [ps, h, hb]; rfl
theorem ps_pos {t b : Nat} (h : lgo d a i = some t) (hb : bs d a i = some b) (h0 : ¬ b = 0) : ps d a (i + 1) = psI t b (ps d a i) := by
  rw [ps, h, hb]
  exact if_neg h0
theorem ps_b (hw : WF d) (ha : a < d 1) : ∀ i, (ps d a i).1 ≤ i ∧ (∀ j, j < (ps d a i).1 → (0 < (ps d a i).2.1 j ∧ (ps d a i).2.1 j < 10000) ∧ (0 < (ps d a i).2.2 j ∧ (ps d a i).2.2 j < 10000)) := by
  intro i
  induction i with
  | zero => exact ⟨Nat.le_refl _, fun j hj => by simp [ps] at hj⟩
  | succ i ih =>
    cases h : lgo d a i with
    | none => rw [ps_none h]; exact ⟨by omega, ih.2⟩
    | some t =>
      obtain ⟨g1, g2, g3, b, g4, g5, g6⟩ := lgo_some hw ha h
      by_cases h0 : b = 0
      · subst h0
        rw [ps_zero h g5]; exact ⟨by omega, ih.2⟩
      · rw [ps_pos h g5 h0]
        have hl := ip_le (A := (ps d a i).2.1) (B := (ps d a i).2.2) (t := t) (b := b) (ps d a i).1
        refine ⟨by show (ps d a i).1 + 1 ≤ i + 1; omega, fun j hj => ⟨?_, ?_⟩⟩
        · exact isr_all (Q := fun v => 0 < v ∧ v < 10000) hl (fun j hj => (ih.2 j hj).1) ⟨by omega, g3⟩ hj
        · exact isr_all (Q := fun v => 0 < v ∧ v < 10000) hl (fun j hj => (ih.2 j hj).2) ⟨by omega, by omega⟩ hj
theorem ps_stay : ∀ m, ps d a (nown d a + 1 + m) = ps d a (nown d a + 1) := by
  intro m
  induction m with
  | zero => rfl
  | succ m ih =>
    rw [← ih]
    exact ps_none (i := nown d a + 1 + m) (by unfold lgo; rw [if_neg (by omega)])
theorem ps_own (hw : WF d) (ha : a < d 1) : ps d a 11 = ps d a (nown d a + 1) := by
  have ho := hw.own ha
  have := ps_stay (d := d) (a := a) (11 - (nown d a + 1))
  rw [show nown d a + 1 + (11 - (nown d a + 1)) = 11 by omega] at this
  exact this
theorem ps_mono : ∀ m i, (ps d a i).1 ≤ (ps d a (i + m)).1 := by
  intro m i
  induction m with
  | zero => exact Nat.le_refl _
  | succ m ih =>
    refine Nat.le_trans ih ?_
    show _ ≤ (ps d a (i + m + 1)).1
    rw [ps]
    split
    · split
      · exact Nat.le_refl _
      · exact Nat.le_succ _
    · exact Nat.le_refl _
/-- how many; the middle one -/
def pN (d : Nat → Nat) (a : Nat) : Nat := (ps d a 11).1
def pO (d : Nat → Nat) (a : Nat) : Nat := (ps d a 11).2.1 ((pN d a - 1) / 2)
def pU (d : Nat → Nat) (a : Nat) : Nat := (ps d a 11).2.2 ((pN d a - 1) / 2)
theorem pN_le (hw : WF d) (ha : a < d 1) : pN d a ≤ 11 := (ps_b hw ha 11).1
theorem pOU_b (hw : WF d) (ha : a < d 1) (h : pN d a ≠ 0) : (0 < pO d a ∧ pO d a < 10000) ∧ (0 < pU d a ∧ pU d a < 10000) := (ps_b hw ha 11).2 _ (by show (pN d a - 1) / 2 < pN d a; omega)
theorem pN_pos {t b : Nat} (hi : i < 11) (h : lgo d a i = some t) (hb : bs d a i = some b) (h0 : ¬ b = 0) : pN d a ≠ 0 := by
  have := ps_mono (d := d) (a := a) (11 - (i + 1)) (i + 1)
  rw [show i + 1 + (11 - (i + 1)) = 11 by omega, ps_pos h hb h0] at this
  have h2 : (psI t b (ps d a i)).1 = (ps d a i).1 + 1 := rfl
  unfold pN
  omega
/-- what the class holds behind its reckoning -/
def RK (d : Nat → Nat) (a : Nat) (τ : gSt) : Prop := (∀ j, j < 11 → τ 18 0 j = xo (lgo d a j) ∧ τ 19 0 j = xo (bs d a j)) ∧ (pN d a ≠ 0 → τ 17 0 7 = nI (pO d a / Nat.gcd (pO d a) (pU d a)) ∧ τ 17 0 8 = nI (pU d a / Nat.gcd (pO d a) (pU d a)))
def rkI (d : Nat → Nat) (a : Nat) (σ : gSt) (i : Nat) (τ : gSt) : Prop := Xs σ τ ∧ τ 17 0 6 = nI (ps d a i).1 ∧ (∀ j, j < (ps d a i).1 → τ 20 0 j = nI ((ps d a i).2.1 j) ∧ τ 21 0 j = nI ((ps d a i).2.2 j)) ∧ ∀ j, j < i → τ 18 0 j = xo (lgo d a j) ∧ τ 19 0 j = xo (bs d a j)
theorem X_reckon40 (h : XR d σ) (hw : WF d) (ha : a < d 1) (hi : i < 11) {τ : gSt} (hI : rkI d a σ i τ) {k17 : Int32 → gSt → Option (Int32 × gSt)} {Q : Int32 × gSt → Prop} (kk : ∀ τ', rkI d a σ (i + 1) τ' → Wp (k17 (nI (i + 1)) τ') Q) : Wp (f_X5_reckon_40 (10 + a) (nI i) k17 (xo (lgo d a i)) τ) Q := by
  obtain ⟨hs, h6, hA, hT⟩ := hI
  have hb := ps_b hw ha i
  have fr2 : ∀ (u v : Int32), Xs σ (gup (gup τ 18 0 i u) 19 0 i v) := fun u v => Xs.up (by omega) (Xs.up (by omega) hs)
  have rows : ∀ (o1 o2 : Option Nat), lgo d a i = o1 → bs d a i = o2 → ∀ j, j < i + 1 → gup (gup τ 18 0 i (xo o1)) 19 0 i (xo o2) 18 0 j = xo (lgo d a j) ∧ gup (gup τ 18 0 i (xo o1)) 19 0 i (xo o2) 19 0 j = xo (bs d a j) := by
    intro o1 o2 e1 e2 j hj
    by_cases e : j = i
    · subst e
      rw [e1, e2]
      simp [gup]
    · have g := hT j (by omega)
      simp [gup, e, g.1, g.2]
  unfold f_X5_reckon_40
  cases hl : lgo d a i with
  | none =>
    have hbn : bs d a i = none := by rw [bs, hl]
    refine Wp.t rfl ?_
    unfold f_X5_reckon_62
    refine Wp.st i rfl (by omega) (by decide) ?_
    refine Wp.st i rfl (by omega) (by decide) ?_
    refine Wp.t (by decide) ?_
    rw [nI_1]
    refine kk _ ⟨fr2 _ _, ?_, ?_, rows none none hl hbn⟩
    · rw [ps_none hl]; simp [gup, h6]
    · rw [ps_none hl]
      intro j hj
      have g := hA j hj
      simp [gup, g.1, g.2]
  | some t =>
    obtain ⟨g1, g2, g3, b, g4, g5, g6⟩ := lgo_some hw ha hl
    refine Wp.f (nI_nm1 (show t < 2147483648 by omega)) ?_
    have hX := h.of hs
    rw [(hX.2.2.2.2.2 a ha).1]
    refine Wp.eq (X_bestTime hX hw (hw.run ha).1 g1) ?_
    dsimp only
    rw [g4]
    unfold f_X5_reckon_62
    refine Wp.st i rfl (by omega) (by decide) ?_
    refine Wp.st i rfl (by omega) (by decide) ?_
    by_cases h0 : b = 0
    · subst h0
      refine Wp.t (by decide) ?_
      rw [nI_1]
      refine kk _ ⟨fr2 _ _, ?_, ?_, rows (some t) (some 0) hl g5⟩
      · rw [ps_zero hl g5]; simp [gup, h6]
      · rw [ps_zero hl g5]
        intro j hj
        have g := hA j hj
        simp [gup, g.1, g.2]
    · refine Wp.f (nI_nle (by omega) (show b < 2147483648 by omega)) ?_
      have hs2 : ∀ j, j < (ps d a i).1 → gup (gup τ 18 0 i (xo (some t))) 19 0 i (xo (some b)) 20 0 j = nI ((ps d a i).2.1 j) ∧ gup (gup τ 18 0 i (xo (some t))) 19 0 i (xo (some b)) 21 0 j = nI ((ps d a i).2.2 j) := by
        intro j hj
        have g := hA j hj
        simp [gup, g.1, g.2]
      refine Wp.bind (X_sortIn (A := (ps d a i).2.1) (B := (ps d a i).2.2) (t := t) (b := b) (n := (ps d a i).1) (fun j hj => ((hb.2 j hj).1).2) (fun j hj => ((hb.2 j hj).2).2) g3 (by omega) (by omega) (τ := gup (gup τ 18 0 i (xo (some t))) 19 0 i (xo (some b))) (by simp [gup, h6]) hs2) (fun τ' hq => ?_)
      rw [nI_1]
      refine kk _ ⟨(fr2 (xo (some t)) (xo (some b))).tr (fun k i s q1 q2 => hq.1 k i s (by omega) (by omega) (by omega)), ?_, ?_, ?_⟩
      · rw [ps_pos hl g5 h0]; exact hq.2.1
      · rw [ps_pos hl g5 h0]
        intro j hj
        have : (psI t b (ps d a i)).1 = (ps d a i).1 + 1 := rfl
        exact hq.2.2 j (by omega)
      · intro j hj
        rw [hq.1 18 0 j (by omega) (by omega) (by omega), hq.1 19 0 j (by omega) (by omega) (by omega)]
        exact rows (some t) (some b) hl g5 j hj
theorem X_reckon (h : XR d σ) (hw : WF d) (ha : a < d 1) : Wp (f_X5_reckon (10 + a) σ) (fun r => r.1 = (if pN d a = 0 then 0 else 1) ∧ Xs σ r.2 ∧ RK d a r.2) := by
  have ho := hw.own ha
  unfold f_X5_reckon
  refine loop0 (F := fun f (_ : Unit) i τ => f_X5_reckon_17 (10 + a) f (nI i) τ) (N := 11) (I := fun i _ τ => rkI d a σ i τ) (by omega)
    (fun f i x τ hi hI kk => ?_) (fun f x τ hI => ?_) (x := ()) (σ := gup (gup (gup σ 17 0 6 0) 17 0 7 0) 17 0 8 0) ⟨Xs.up (by omega) (Xs.up (by omega) (Xs.up (by omega) Xs.rf)), by simp [gup, ps, nI_0], fun j hj => by simp [ps] at hj, fun j hj => by omega⟩
  · show Wp (f_X5_reckon_17 (10 + a) (f + 1) (nI i) τ) _
    rw [f_X5_reckon_17]
    refine Wp.f (by rw [i11]; exact nI_ge hi (by decide)) ?_
    have hX := h.of hI.1
    have h9 := (hX.2.2.2.2.2 a ha).2.2.2.2.1
    rw [h9]
    by_cases hle : i ≤ nown d a
    · refine Wp.f (nI_nlt hle (by omega)) ?_
      refine Wp.eq (X_legTime hX hw ha hle) ?_
      dsimp only
      have e : lg d a i = lgo d a i := by unfold lgo; rw [if_pos hle]
      rw [e]
      exact X_reckon40 h hw ha hi hI (fun τ' h' => kk () τ' h')
    · refine Wp.t (nI_lt (by omega) (by omega)) ?_
      have e : (-1 : Int32) = xo (lgo d a i) := by unfold lgo; rw [if_neg hle]; rfl
      have := X_reckon40 h hw ha hi hI (fun τ' h' => kk () τ' h')
      rw [← e] at this
      exact this
  · obtain ⟨hs, h6, hA, hT⟩ := hI
    show Wp (f_X5_reckon_17 (10 + a) (f + 1) (nI 11) τ) _
    rw [f_X5_reckon_17]
    refine Wp.t (by decide) ?_
    rw [h6]
    have hN : (ps d a 11).1 = pN d a := rfl
    have hle := pN_le hw ha
    by_cases h0 : pN d a = 0
    · refine Wp.t (by rw [hN, h0]; decide) ?_
      exact Wp.ret ⟨by rw [if_pos h0], hs, hT, fun q => absurd h0 q⟩
    · have hb := pOU_b hw ha h0
      refine Wp.f (nI_nle (by omega) (by omega)) ?_
      refine Wp.t (by rw [i11]; exact nI_le (by omega) (by decide)) ?_
      refine Wp.eq (a := nI ((pN d a - 1) / 2)) (by rw [hN, i1, nI_sub (by omega), i2, gdv_n (by omega) (by decide) (by decide)]) ?_
      have g := hA ((pN d a - 1) / 2) (by omega)
      refine Wp.ld ((pN d a - 1) / 2) rfl (by omega) (by decide) (show _ = nI (pO d a) from g.1) ?_
      refine Wp.ld ((pN d a - 1) / 2) rfl (by omega) (by decide) (show _ = nI (pU d a) from g.2) ?_
      refine Wp.eq (X_reduce hb.1.1 hb.1.2 hb.2.2) ?_
      refine Wp.ret ⟨by rw [if_neg h0], Xs.up (by omega) (Xs.up (by omega) hs), fun j hj => ?_, fun _ => ?_⟩
      · have g := hT j hj
        simp [gup, g.1, g.2]
      · simp [gup]
def mpI (d : Nat → Nat) (a : Nat) (σ : gSt) (i : Nat) (x : Int32) (τ : gSt) : Prop := Ms σ τ ∧ x = nI (ps d a i).1 ∧ ∀ j, j < (ps d a i).1 → τ 36 0 j = nI ((ps d a i).2.1 j) ∧ τ 37 0 j = nI ((ps d a i).2.2 j)
theorem Ms.up28 {τ : gSt} {s : Nat} {v : Int32} (hs : s = 23 ∨ s = 24 ∨ s = 27 ∨ s = 28 ∨ s = 29) (h : Ms σ τ) : Ms σ (gup τ 28 0 s v) := fun k i s' q1 q2 => by
  have e : ¬ (k = 28 ∧ i = 0 ∧ s' = s) := fun q => by
    have := q2 q.1
    omega
  show (if k = 28 ∧ i = 0 ∧ s' = s then v else τ k i s') = _
  rw [if_neg e]
  exact h k i s' q1 q2
theorem Ms.keep {τ τ' : gSt} (h : Ms σ τ) (k1 k2 : Nat) (hk1 : 34 ≤ k1 ∧ k1 ≤ 39) (hk2 : 34 ≤ k2 ∧ k2 ≤ 39) (h2 : ∀ k i s, k ≠ k1 → k ≠ k2 → τ' k i s = τ k i s) : Ms σ τ' := fun k i s q1 q2 => (h2 k i s (by omega) (by omega)).trans (h k i s q1 q2)
theorem M_paces (hM : MR d σ) (hw : WF d) (hs : Ms σ σ') (ha : a < d 1) : Wp (f_X12_paces (nI a) σ') (fun r => r.1 = (if pN d a = 0 then 0 else 1) ∧ Ms σ r.2 ∧ (pN d a ≠ 0 → r.2 28 0 23 = nI (pO d a) ∧ r.2 28 0 24 = nI (pU d a))) := by
  have ho := hw.own ha
  have hr := hw.2.1
  have h3 := hw.1
  have hru := hw.run ha
  have hon : nown d a = d (4 + d (37 + a)) := rfl
  unfold f_X12_paces
  refine Wp.eq (M_rd (j := 37 + a) (hM.of hs) (by rw [i37, nI_add]) (by omega)) ?_
  refine loop0 (F := fun f (x : Int32) i τ => f_X12_paces_15 (nI a) (nI (d (37 + a))) f x (nI i) τ) (N := nown d a + 1) (I := fun i x τ => mpI d a σ i x τ) (by omega)
    (fun f i x τ hi hI kk => ?_) (fun f x τ hI => ?_) (x := 0) (σ := σ') ⟨hs, rfl, fun j hj => by simp [ps] at hj⟩
  · obtain ⟨hs, rfl, hA⟩ := hI
    have hb := ps_b hw ha i
    have hle : i ≤ nown d a := by omega
    have e : lg d a i = lgo d a i := by unfold lgo; rw [if_pos hle]
    show Wp (f_X12_paces_15 (nI a) (nI (d (37 + a))) (f + 1) (nI (ps d a i).1) (nI i) τ) _
    rw [f_X12_paces_15]
    refine Wp.eq (M_rd (j := 4 + d (37 + a)) (hM.of hs) (by rw [i4, nI_add]) (by omega)) ?_
    refine Wp.f (nI_nlt (by omega) (by omega)) ?_
    refine Wp.bind (Z_legOf (hM.of hs) hw Mz.rf ha hle) (fun q hq => ?_)
    rw [hq.1, e]
    have hsq := hs.tr hq.2.ms
    have keep : ∀ τ', Mz τ τ' → ∀ j, j < (ps d a i).1 → τ' 36 0 j = nI ((ps d a i).2.1 j) ∧ τ' 37 0 j = nI ((ps d a i).2.2 j) := fun τ' hz j hj => by
      rw [hz 36 0 j (by omega), hz 37 0 j (by omega)]
      exact hA j hj
    cases hl : lgo d a i with
    | none =>
      refine Wp.t rfl ?_
      unfold f_X12_paces_55
      refine Wp.t (by decide) ?_
      rw [nI_1]
      exact kk _ _ ⟨hsq, by rw [ps_none hl], by rw [ps_none hl]; exact keep _ hq.2⟩
    | some t =>
      obtain ⟨g1, g2, g3, b, g4, g5, g6⟩ := lgo_some hw ha hl
      refine Wp.f (nI_nm2 (show t < 2147483648 by omega)) ?_
      refine Wp.bind (Z_bestLeg (hM.of hsq) hw Mz.rf hru.1 (show i ≤ d (4 + d (37 + a)) from hle)) (fun p hp => ?_)
      rw [hp.1, g4]
      have hsp := hsq.tr hp.2.ms
      have hzp := hq.2.tr hp.2
      unfold f_X12_paces_55
      by_cases h0 : b = 0
      · subst h0
        refine Wp.t (by decide) ?_
        rw [nI_1]
        exact kk _ _ ⟨hsp, by rw [ps_zero hl g5], by rw [ps_zero hl g5]; exact keep _ hzp⟩
      · refine Wp.f (nI_nle (by omega) (show b < 2147483648 by omega)) ?_
        refine M_sort65 (A := (ps d a i).2.1) (B := (ps d a i).2.2) (t := t) (b := b) (n := (ps d a i).1) (fun j hj => ((hb.2 j hj).1).2) (fun j hj => ((hb.2 j hj).2).2) g3 (by omega) (by omega) (ps d a i).1 gFuel p.2 (Nat.le_refl _) (Nat.lt_trans (by omega) gFuel_ge) (keep _ hzp) (fun j h1 h2 => by omega) (fun τ' q1 q2 => ?_)
        rw [nI_1, nI_1]
        refine kk _ _ ⟨hsp.keep 36 37 (by omega) (by omega) q1, by rw [ps_pos hl g5 h0]; rfl, ?_⟩
        rw [ps_pos hl g5 h0]
        intro j hj
        have e3 : (psI t b (ps d a i)).1 = (ps d a i).1 + 1 := rfl
        exact q2 j (by omega)
  · obtain ⟨hs, rfl, hA⟩ := hI
    show Wp (f_X12_paces_15 (nI a) (nI (d (37 + a))) (f + 1) (nI (ps d a (nown d a + 1)).1) (nI (nown d a + 1)) τ) _
    rw [← ps_own hw ha]
    rw [← ps_own hw ha] at hA
    have hN : (ps d a 11).1 = pN d a := rfl
    have hle := pN_le hw ha
    rw [f_X12_paces_15]
    refine Wp.eq (M_rd (j := 4 + d (37 + a)) (hM.of hs) (by rw [i4, nI_add]) (by omega)) ?_
    refine Wp.t (nI_lt (by omega) (by omega)) ?_
    by_cases h0 : pN d a = 0
    · refine Wp.t (by rw [hN, h0]; rfl) ?_
      exact Wp.ret ⟨by rw [if_pos h0], hs, fun q => absurd h0 q⟩
    · have hb := pOU_b hw ha h0
      have g := hA ((pN d a - 1) / 2) (by omega)
      have eg : gdv (nI (ps d a 11).1 - 1) 2 = some (nI ((pN d a - 1) / 2)) := by rw [hN, i1, nI_sub (by omega), i2, gdv_n (by omega) (by decide) (by decide)]
      refine Wp.f (nI_ne0 (by omega) (by omega)) ?_
      refine Wp.eq eg ?_
      refine Wp.ld ((pN d a - 1) / 2) rfl (by omega) (by decide) (show _ = nI (pO d a) from g.1) ?_
      refine Wp.eq eg ?_
      refine Wp.ld (v := nI (pU d a)) ((pN d a - 1) / 2) rfl (by omega) (by decide) (by simp only [gup]; exact g.2) ?_
      exact Wp.ret ⟨by rw [if_neg h0], Ms.up28 (by omega) (Ms.up28 (by omega) hs), fun _ => by simp [gup]⟩
end PD
