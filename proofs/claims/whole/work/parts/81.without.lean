/-! the least and who has it, in two numbers; without, hardest -/
section PW
variable {d : Nat → Nat} {σ σ' : gSt} {a c i : Nat}
def AMI (f : Nat → Option Nat) (n : Nat) (w l nn : Int32) : Prop := (am f n = none ∧ w = nn) ∨ ∃ j v, am f n = some j ∧ j < n ∧ f j = some v ∧ w = nI j ∧ l = nI v
theorem AMI.no {f : Nat → Option Nat} {n : Nat} {w l nn : Int32} (h : AMI f n w l nn) (hf : f n = none) : AMI f (n + 1) w l nn := by
  have e : am f (n + 1) = am f n := by rw [am, hf]; cases am f n <;> rfl
  rcases h with ⟨h1, h2⟩ | ⟨j, v, h1, h2, h3, h4, h5⟩
  · exact Or.inl ⟨e.trans h1, h2⟩
  · exact Or.inr ⟨j, v, e.trans h1, by omega, h3, h4, h5⟩
theorem AMI.st {β : Type} {f : Nat → Option Nat} {n v : Nat} {w l nn vs : Int32} {K : Int32 → Int32 → Option β} {Q : β → Prop} (h : AMI f n w l nn) (hnn : nn = -1 ∨ nn = -2) (hn : n < 10000) (hb : ∀ j u, j < n + 1 → f j = some u → u < 2147483648) (hf : f n = some v) (hv : vs = nI v) (kk : ∀ w' l', AMI f (n + 1) w' l' nn → Wp (K w' l') Q) : Wp (if w = nn then K (nI n) vs else if l ≤ vs then K w l else K (nI n) vs) Q := by
  subst hv
  rcases h with ⟨h1, h2⟩ | ⟨j, y, h1, h2, h3, h4, h5⟩
  · refine Wp.t h2 (kk _ _ (Or.inr ⟨n, v, by rw [am, hf, h1], by omega, hf, rfl, rfl⟩))
  · subst h4; subst h5
    have b1 := hb j y (by omega) h3
    have b2 := hb n v (by omega) hf
    refine Wp.f ?_ ?_
    · rcases hnn with q | q
      · rw [q]; exact nI_nm1 (by omega)
      · rw [q]; exact nI_nm2 (by omega)
    · by_cases e : y ≤ v
      · refine Wp.t (nI_le e b2) (kk _ _ (Or.inr ⟨j, y, by rw [am, hf, h1]; simp [h3, show ¬ v < y by omega], by omega, h3, rfl, rfl⟩))
      · refine Wp.f (nI_ge (by omega) b1) (kk _ _ (Or.inr ⟨n, v, by rw [am, hf, h1]; simp [h3, show v < y by omega], by omega, hf, rfl, rfl⟩))
theorem AMI.x {f : Nat → Option Nat} {n : Nat} {w l : Int32} (h : AMI f n w l (-1)) : w = xo (am f n) := by
  rcases h with ⟨h1, h2⟩ | ⟨j, v, h1, h2, h3, h4, h5⟩
  · rw [h1, h2]; rfl
  · rw [h1, h4]; rfl
theorem AMI.m {f : Nat → Option Nat} {n : Nat} {w l : Int32} (h : AMI f n w l (-2)) : w = mo (am f n) := by
  rcases h with ⟨h1, h2⟩ | ⟨j, v, h1, h2, h3, h4, h5⟩
  · rw [h1, h2]; rfl
  · rw [h1, h4]; rfl
theorem X_timeAt_any {b : Nat} (hi : i ≤ 10) : ∃ v, f_X9_timeAt (10 + b) (nI i) σ = some (v, σ) := by
  unfold f_X9_timeAt
  split
  · exact ⟨_, rfl⟩
  · split
    · exact ⟨_, rfl⟩
    · split
      · exact ⟨_, rfl⟩
      · split
        · exact ⟨_, rfl⟩
        · next hh =>
          have h10 : i < 10 := Nat.lt_of_not_le (fun q => hh (by rw [i10]; exact nI_le q (by omega)))
          rw [gld_n h10 (by decide), bind_some']
          exact ⟨_, rfl⟩
theorem X_legTime_any {b : Nat} (hi : i ≤ 10) : ∃ v, f_X9_legTime (10 + b) (nI i) σ = some (v, σ) := by
  have tail : ∀ x y, ∃ v, f_X9_legTime_24 x y σ = some (v, σ) := by
    intro x y
    unfold f_X9_legTime_24
    split
    · exact ⟨_, rfl⟩
    · split
      · exact ⟨_, rfl⟩
      · exact ⟨_, rfl⟩
  obtain ⟨v, hv⟩ := X_timeAt_any (σ := σ) (b := b) hi
  unfold f_X9_legTime
  rw [hv, bind_some']
  by_cases e : i = 0
  · rw [if_pos (by rw [e]; decide)]
    exact tail _ _
  · rw [if_neg (by rw [i0]; exact nI_ne (by omega) (by omega) e), i1, nI_sub (by omega)]
    obtain ⟨u, hu⟩ := X_timeAt_any (σ := σ) (b := b) (show i - 1 ≤ 10 by omega)
    dsimp only
    rw [hu, bind_some']
    exact tail _ _
theorem mc_0 {C P : Nat → Nat} {n p : Nat} : ∀ {m}, mc C P n p m = 0 → ∀ i, i < m → mt C P n p i ≠ none := by
  intro m
  induction m with
  | zero => intro _ i hi; omega
  | succ m ih =>
    intro h i hi
    rw [mc] at h
    by_cases e : i = m
    · subst e
      intro q
      rw [if_pos q] at h
      omega
    · exact ih (by omega) i (by omega)
theorem tA_valid (hv : mso d a = 0) (hi : i ≤ nown d a) : ∃ t, tA d a i = some t := by
  unfold tA
  by_cases e : i = nown d a
  · rw [if_pos e]; exact ⟨_, rfl⟩
  · rw [if_neg e]
    have := mc_0 hv i (by show i < nown d a; omega)
    cases h : Mo d a i with
    | none => exact absurd h this
    | some k => exact ⟨_, rfl⟩
theorem lg_valid (hw : WF d) (ha : a < d 1) (hv : mso d a = 0) (hi : i ≤ nown d a) : ∃ v, lg d a i = some v ∧ v ≤ tot d a := by
  obtain ⟨t, ht⟩ := tA_valid hv hi
  have hb := tA_b hw ha ht
  have hB : ∃ s, tB d a i = some s := by
    unfold tB
    by_cases e : i = 0
    · rw [if_pos e]; exact ⟨_, rfl⟩
    · rw [if_neg e]; exact tA_valid hv (by omega)
  obtain ⟨s, hs⟩ := hB
  have hb2 := tB_b hw ha hs
  exact ⟨t - s, by unfold lg; rw [hs, ht], by unfold tot; omega⟩
/-- the total of a valid one of course c without a leg -/
def wo (d : Nat → Nat) (c i b : Nat) : Option Nat := if d (37 + b) = c ∧ mso d b = 0 then some (tot d b - (lg d b i).getD 0) else none
theorem wo_b (hw : WF d) {j u : Nat} (h : wo d c i j = some u) : u < 10000 := by
  have := tot_b hw (a := j)
  unfold wo at h
  split at h
  · cases h; omega
  · cases h
theorem X_totalWithout (h : XR d σ) (hw : WF d) (ha : a < d 1) (hv : mso d a = 0) (hi : i ≤ nown d a) : f_X9_totalWithout (10 + a) (nI i) σ = some (nI (tot d a - (lg d a i).getD 0), σ) := by
  obtain ⟨v, h1, h2⟩ := lg_valid hw ha hv hi
  unfold f_X9_totalWithout
  rw [X_total h hw ha, bind_some', X_legTime h hw ha hi, bind_some', h1]
  show some (nI (tot d a) - nI v, σ) = _
  rw [nI_sub h2]
  rfl
theorem X_firstWithout (h : XR d σ) (hw : WF d) (hc : c < d 0) (hi : i ≤ d (4 + c)) : f_X2_firstWithout (nI c) (nI i) σ = some (xo (am (wo d c i) (d 1)), σ) := by
  have hr := hw.2.1
  have h3 := hw.1
  have hl := hw.len hc
  have := loop0 (F := fun f (x : Int32 × Int32) b σ => f_X2_firstWithout_8 (nI c) (nI i) f x.1 x.2 (nI b) σ) (N := d 1) (I := fun b x τ => AMI (wo d c i) b x.1 x.2 (-1) ∧ τ = σ) (Q := fun r => r = (xo (am (wo d c i) (d 1)), σ)) (by omega)
    (fun f b x τ hb hI kk => by
      obtain ⟨hA, rfl⟩ := hI
      show Wp (f_X2_firstWithout_8 (nI c) (nI i) (f + 1) x.1 x.2 (nI b) τ) _
      rw [f_X2_firstWithout_8, h.2.1]
      refine Wp.f (nI_ge hb (by omega)) ?_
      refine Wp.eq (X_runnerAt (by omega)) ?_
      by_cases e : d (37 + b) = c ∧ mso d b = 0
      · refine Wp.eq (X_totalWithout h hw hb e.2 (by show i ≤ d (4 + d (37 + b)); rw [e.1]; exact hi)) ?_
        refine Wp.eq (X_isValidOf h hw hb (by omega)) ?_
        rw [if_pos e, nI_1 b]
        refine Wp.f o1n0 ?_
        exact AMI.st (K := fun w l => f_X2_firstWithout_8 (nI c) (nI i) f w l (nI (b + 1)) τ) hA (Or.inl rfl) (by omega) (fun j u _ hu => Nat.lt_trans (wo_b hw hu) (by decide)) (show wo d c i b = some _ from if_pos e) rfl (fun w' l' h' => kk (w', l') _ ⟨h', rfl⟩)
      · obtain ⟨v, hv⟩ := X_legTime_any (σ := τ) (b := b) (show i ≤ 10 by omega)
        refine Wp.eq (a := (nI (tot d b) - v, τ)) (by unfold f_X9_totalWithout; rw [X_total h hw hb, bind_some', hv, bind_some']) ?_
        refine Wp.eq (X_isValidOf h hw hb (by omega)) ?_
        rw [if_neg e, nI_1 b]
        refine Wp.t rfl ?_
        exact kk x _ ⟨hA.no (if_neg e), rfl⟩)
    (fun f x τ hI => by
      obtain ⟨hA, rfl⟩ := hI
      show Wp (f_X2_firstWithout_8 (nI c) (nI i) (f + 1) x.1 x.2 (nI (d 1)) τ) _
      rw [f_X2_firstWithout_8, h.2.1]
      exact Wp.t (nI_le (Nat.le_refl _) (by omega)) (Wp.ret (by rw [hA.x]))) (x := (-1, -1)) (σ := σ) ⟨Or.inl ⟨rfl, rfl⟩, rfl⟩
  obtain ⟨r, hr1, rfl⟩ := this
  exact hr1
theorem M_without46 (hM : MR d σ) (hw : WF d) (hs : Ms σ σ') (hc : c < d 0) (hi : i ≤ d (4 + c)) {z : Int32} : Wp (f_X12_without_46 (nI c) (nI i) z gFuel (-2) (-2) 0 σ') (fun r => (∃ l, AMI (wo d c i) (d 1) (mo (am (wo d c i) (d 1))) l (-2) ∧ (am (wo d c i) (d 1) = none → l = -2) ∧ r.1 = if z = 0 then mo (am (wo d c i) (d 1)) else l) ∧ Ms σ r.2) := by
  have hr := hw.2.1
  have h3 := hw.1
  refine loop0 (F := fun f (x : Int32 × Int32) b σ => f_X12_without_46 (nI c) (nI i) z f x.1 x.2 (nI b) σ) (N := d 1) (I := fun b x τ => AMI (wo d c i) b x.1 x.2 (-2) ∧ (am (wo d c i) b = none → x.2 = -2) ∧ Ms σ τ) (by omega)
    (fun f b x τ hb hI kk => ?_) (fun f x τ hI => ?_) (x := (-2, -2)) (σ := σ') ⟨Or.inl ⟨rfl, rfl⟩, fun _ => rfl, hs⟩
  · obtain ⟨hA, h2, hs⟩ := hI
    have bb := hw.b (37 + b)
    have no : ∀ τ, Ms σ τ → ¬ (d (37 + b) = c ∧ mso d b = 0) → Wp (f_X12_without_46 (nI c) (nI i) z f x.1 x.2 (nI (b + 1)) τ) (fun r => (∃ l, AMI (wo d c i) (d 1) (mo (am (wo d c i) (d 1))) l (-2) ∧ (am (wo d c i) (d 1) = none → l = -2) ∧ r.1 = if z = 0 then mo (am (wo d c i) (d 1)) else l) ∧ Ms σ r.2) := fun τ hs e => by
      have hn : wo d c i b = none := if_neg e
      refine kk x τ ⟨hA.no hn, fun q => h2 ?_, hs⟩
      have e2 : am (wo d c i) (b + 1) = am (wo d c i) b := by rw [am, hn]; cases am (wo d c i) b <;> rfl
      rw [← e2]
      exact q
    show Wp (f_X12_without_46 (nI c) (nI i) z (f + 1) x.1 x.2 (nI b) τ) _
    rw [f_X12_without_46]
    refine Wp.eq (M_rd (j := 1) (hM.of hs) i1 (by decide)) ?_
    refine Wp.f (nI_ge hb (by omega)) ?_
    refine Wp.eq (M_rd (j := 37 + b) (hM.of hs) (by rw [i37, nI_add]) (by omega)) ?_
    rw [nI_1 b]
    by_cases e : d (37 + b) = c
    · refine Wp.t (by rw [e]) ?_
      refine Wp.bind (M_isValid hM hw hs hb) (fun q hq => ?_)
      rw [hq.1]
      by_cases e2 : mso d b = 0
      · rw [if_pos e2]
        refine Wp.f o1n0 ?_
        have hib : i ≤ nown d b := by show i ≤ d (4 + d (37 + b)); rw [e]; exact hi
        obtain ⟨v, g1, g2⟩ := lg_valid hw hb e2 hib
        refine Wp.eq (M_totalOf (hM.of hq.2) hw hb) ?_
        refine Wp.bind (M_legOf hM hw hq.2 hb hib) (fun p hp => ?_)
        have hvs : nI (tot d b) - p.1 = nI (tot d b - (lg d b i).getD 0) := by
          rw [hp.1, g1]
          exact nI_sub g2
        dsimp only
        rw [hvs]
        have hwo : wo d c i b = some (tot d b - (lg d b i).getD 0) := if_pos ⟨e, e2⟩
        have hsm : ∀ w' l', AMI (wo d c i) (b + 1) w' l' (-2) → am (wo d c i) (b + 1) = none → l' = -2 := by
          intro w' l' _ q
          exfalso
          have := am_spec (wo d c i) (b + 1)
          rw [q] at this
          have := this.2 b (by omega)
          rw [hwo] at this
          cases this
        exact AMI.st (K := fun w l => f_X12_without_46 (nI c) (nI i) z f w l (nI (b + 1)) p.2) hA (Or.inr rfl) (by omega) (fun j u _ hu => Nat.lt_trans (wo_b hw hu) (by decide)) hwo rfl (fun w' l' h' => kk (w', l') _ ⟨h', hsm w' l' h', hp.2⟩)
      · rw [if_neg e2]
        refine Wp.t rfl ?_
        exact no _ hq.2 (fun q => e2 q.2)
    · refine Wp.f (nI_ne (by omega) (by omega) e) ?_
      exact no _ hs (fun q => e q.1)
  · obtain ⟨hA, h2, hs⟩ := hI
    show Wp (f_X12_without_46 (nI c) (nI i) z (f + 1) x.1 x.2 (nI (d 1)) τ) _
    rw [f_X12_without_46]
    refine Wp.eq (M_rd (j := 1) (hM.of hs) i1 (by decide)) ?_
    refine Wp.t (nI_le (Nat.le_refl _) (by omega)) ?_
    have hm := hA.m
    by_cases ez : z = 0
    · refine Wp.t ez ?_
      exact Wp.ret ⟨⟨x.2, by rw [← hm]; exact hA, h2, by rw [if_pos ez]; exact hm⟩, hs⟩
    · refine Wp.f ez ?_
      exact Wp.ret ⟨⟨x.2, by rw [← hm]; exact hA, h2, by rw [if_neg ez]⟩, hs⟩
def woQ (d : Nat → Nat) (c i : Nat) (z : Int32) : Int32 := match am (wo d c i) (d 1) with
  | none => -2
  | some j => if z = 0 then nI j else mo (wo d c i j)
theorem S_without : SS3 Inv f_X11_without f_X12_without := by
  intro x y z
  refine QA.ss (fun σ d hI hw hM hX => ?_)
  have h3 := hw.1
  have hr := hw.2.1
  have no : f_X4_hasPoint 1 x y σ = some (0, σ) → (∀ σ2, MR d σ2 → f_X12_isPoint x y σ2 = some (0, σ2)) → QA d σ (f_X11_without x y z) (f_X12_without x y z) := fun g1 g2 => by
    refine QA.no 1 (by decide) ?_ (fun σ2 hM2 => ?_)
    · unfold f_X11_without
      rw [g1, bind_some', if_pos rfl, X_refused]
      rfl
    · unfold f_X12_without f_X12_without_23 f_X12_without_24
      rw [g2 σ2 hM2, bind_some', if_pos rfl, un_0, bind_some', ref_1, bind_some', if_neg o1n0]
  by_cases hx : gin x (d 0) = true
  · obtain ⟨hxe, hc⟩ := gin_nI hx
    generalize x.toNatClampNeg = c at hxe hc
    subst hxe
    by_cases hy : gin y (d (4 + c) + 1) = true
    · have hl := hw.len hc
      obtain ⟨hye, hi⟩ := gin_nI hy
      generalize y.toNatClampNeg = i at hye hi
      subst hye
      have hi : i ≤ d (4 + c) := by omega
      by_cases hz : gin z (1 + 1) = true
      · have hz' := sel_t (by decide) hz
        have hsp := am_spec (wo d c i) (d 1)
        refine QA.yes (woQ d c i z) ?_ (fun σ2 hM2 hM3 => ?_)
        · unfold f_X11_without
          refine Wp.eq (X_hasPoint_t hX hw hc _) ?_
          rw [bG_t hy]
          refine Wp.f o1n0 ?_
          refine Wp.f hz'.1 ?_
          refine Wp.t (show z ≤ 1 from hz'.2) ?_
          refine Wp.eq (X_firstWithout hX hw hc hi) ?_
          cases ham : am (wo d c i) (d 1) with
          | none =>
            refine Wp.t rfl ?_
            exact Wp.ret ⟨by rw [woQ, ham], _, Xs.rf, rfl⟩
          | some j =>
            rw [ham] at hsp
            obtain ⟨g1, v, g2, -⟩ := hsp
            refine Wp.f (nI_nm1 (show j < 2147483648 by omega)) ?_
            rw [woQ, ham]
            by_cases e0 : z = 0
            · refine Wp.t e0 ?_
              exact Wp.ret ⟨by simp only [if_pos e0]; rfl, _, Xs.rf, rfl⟩
            · refine Wp.f e0 ?_
              have hj : d (37 + j) = c ∧ mso d j = 0 := by
                unfold wo at g2
                split at g2
                · next q => exact q
                · cases g2
              refine Wp.eq (X_runnerAt (show j < 10 by omega)) ?_
              refine Wp.eq (X_totalWithout hX hw g1 hj.2 (by show i ≤ d (4 + d (37 + j)); rw [hj.1]; exact hi)) ?_
              refine Wp.ret ⟨?_, _, Xs.rf, rfl⟩
              simp only [if_neg e0]
              rw [wo, if_pos hj]
              rfl
        · unfold f_X12_without f_X12_without_24
          refine Wp.eq (M_isPoint_t hM3 hw hc _) ?_
          rw [bG_t hy]
          refine Wp.f o1n0 ?_
          refine Wp.eq (by rw [i1]; exact M_in0 (by decide) _) ?_
          rw [bG_t hz]
          refine Wp.f o1n0 ?_
          refine Wp.eq un_1 ?_
          refine Wp.eq ref_0 ?_
          refine Wp.t rfl ?_
          refine Wp.mono (M_without46 hM2 hw Ms.rf hc hi) (fun r hr2 => ⟨?_, hr2.2⟩)
          obtain ⟨⟨l, q1, q2, q3⟩, -⟩ := hr2
          rw [q3]
          rcases q1 with ⟨k1, k2⟩ | ⟨j, v, k1, k2, k3, k4, k5⟩
          · rw [woQ, k1, q2 k1]
            by_cases e0 : z = 0
            · rw [if_pos e0]; rfl
            · rw [if_neg e0]
          · rw [woQ, k1, k5]
            simp only [k3]
            rfl
      · refine QA.no 1 (by decide) ?_ (fun σ2 hM2 => ?_)
        · unfold f_X11_without
          rw [X_hasPoint_t hX hw hc, bG_t hy, bind_some', if_neg o1n0]
          rcases sel_f (by decide) hz with q | ⟨q1, q2⟩
          · rw [if_pos q, X_refused]; rfl
          · rw [if_neg q1, if_neg (show ¬ z ≤ 1 from q2), X_refused]; rfl
        · unfold f_X12_without f_X12_without_23 f_X12_without_24
          rw [M_isPoint_t hM2 hw hc, bG_t hy, bind_some', if_neg o1n0, show f_X12_in z 0 1 σ2 = some (bG z (1 + 1), σ2) from by rw [i1]; exact M_in0 (by decide) _, bG_f hz, bind_some', if_pos rfl, un_0, bind_some', ref_1, bind_some', if_neg o1n0]
    · exact no (by rw [X_hasPoint_t hX hw hc, bG_f hy]) (fun σ2 hM2 => by rw [M_isPoint_t hM2 hw hc, bG_f hy])
  · exact no (X_hasPoint_f hX hw hx) (fun σ2 hM2 => M_isPoint_f hM2 hw hx)
end PW
