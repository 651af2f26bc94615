/-! over -/
theorem QA.noT {d : Nat → Nat} {σ : gSt} {fx fm : gSt → Option (Int32 × gSt)} (e : Int32) (he : ¬ e = 4) (h1 : fx σ = some (-1, xA σ e)) (h2 : ∀ σ2, MR d σ2 → σ2 28 0 6 = (if d 0 = 0 then 0 else 1) → fm σ2 = some (-1, mR σ2 e)) : QA d σ fx fm :=
  ⟨-1, e, xA σ e, he, h1, xA_q Xs.rf, fun σ2 hM2 hT _ => ⟨_, h2 σ2 hM2 hT, rfl, mR_q⟩⟩
theorem QA.yesT {d : Nat → Nat} {σ : gSt} {fx fm : gSt → Option (Int32 × gSt)} (v : Int32) (h1 : Wp (fx σ) (fun r => r.1 = v ∧ ∃ σ', Xs σ σ' ∧ r.2 = xA σ' 0)) (h2 : ∀ σ2, MR d (mR σ2 0) → MR d σ2 → σ2 28 0 6 = (if d 0 = 0 then 0 else 1) → Wp (fm σ2) (fun r => r.1 = v ∧ Ms (mR σ2 0) r.2)) : QA d σ fx fm := by
  obtain ⟨r, hr, hv, σ', hs, he⟩ := h1
  refine ⟨v, 0, xA σ' 0, by decide, ?_, xA_q hs, fun σ2 hM2 hT _ => Wp.mono (h2 σ2 hM2.mR hM2 hT) (fun q hq => ⟨hq.1, mR_q.ms hq.2⟩)⟩
  rw [hr, ← hv, ← he]
section PO
variable {d : Nat → Nat} {σ σ' : gSt} {a b c i : Nat}
theorem code_cases (x : Int32) : ((∀ σ : gSt, f_X11_isCode x σ = some (0, σ)) ∧ ∀ σ : gSt, f_X12_in x 1 99 σ = some (0, σ)) ∨ ∃ u : Nat, 1 ≤ u ∧ u ≤ 99 ∧ x = nI u ∧ (∀ σ : gSt, f_X11_isCode x σ = some (1, σ)) ∧ ∀ σ : gSt, f_X12_in x 1 99 σ = some (1, σ) := by
  by_cases h1 : x < 1
  · exact Or.inl ⟨fun σ => by unfold f_X11_isCode; rw [if_pos h1], fun σ => by unfold f_X12_in; rw [if_pos h1]⟩
  · by_cases h2 : 99 < x
    · exact Or.inl ⟨fun σ => by unfold f_X11_isCode; rw [if_neg h1, if_pos h2], fun σ => by unfold f_X12_in; rw [if_neg h1, if_pos h2]⟩
    · have h0 : ¬ x < 0 := fun q => h1 (by
        rw [Int32.lt_iff_toInt_lt] at q ⊢
        have e0 : (0 : Int32).toInt = 0 := by decide
        have e1 : (1 : Int32).toInt = 1 := by decide
        omega)
      obtain ⟨u, hu, rfl⟩ := nI_of h0
      refine Or.inr ⟨u, ?_, ?_, rfl, fun σ => by unfold f_X11_isCode; rw [if_neg h1, if_neg h2], fun σ => by unfold f_X12_in; rw [if_neg h1, if_neg h2]⟩
      · exact Nat.lt_of_not_le (fun q => h1 (by rw [i1]; exact nI_lt (by omega) (by decide)))
      · exact Nat.le_of_not_lt (fun q => h2 (by rw [i99]; exact nI_lt q (by omega)))
theorem lst_st {β : Type} {f : Nat → Option Nat} {n : Nat} {K : Int32 → Option β} {Q : β → Prop} (hb : ∀ j u, j < n + 1 → f j = some u → u < 2147483648) (kk : Wp (K (xo (lst f (n + 1)))) Q) : Wp (if xo (f n) = -1 then K (xo (lst f n)) else if xo (lst f n) = -1 then K (xo (f n)) else if xo (lst f n) ≤ xo (f n) then K (xo (lst f n)) else K (xo (f n))) Q := by
  cases hf : f n with
  | none =>
    refine Wp.t rfl ?_
    have : lst f (n + 1) = lst f n := by rw [lst, hf]; cases lst f n <;> rfl
    rw [← this]
    exact kk
  | some v =>
    have b1 := hb n v (by omega) hf
    refine Wp.f (nI_nm1 b1) ?_
    cases hl : lst f n with
    | none =>
      refine Wp.t rfl ?_
      have : lst f (n + 1) = some v := by rw [lst, hf, hl]
      rw [← this]
      exact kk
    | some l =>
      have b2 := lst_b (fun j u hj hu => hb j u (by omega) hu) hl
      refine Wp.f (nI_nm1 b2) ?_
      by_cases e : l ≤ v
      · refine Wp.t (nI_le e b1) ?_
        have : lst f (n + 1) = some l := by rw [lst, hf, hl]; simp only [if_neg (show ¬ v < l by omega)]
        rw [← this]
        exact kk
      · refine Wp.f (nI_ge (by omega) b2) ?_
        have : lst f (n + 1) = some v := by rw [lst, hf, hl]; simp only [if_pos (show v < l by omega)]
        rw [← this]
        exact kk
/-- the time of b over a leg from code u to code v; the least of them -/
def ovl (d : Nat → Nat) (u v b i : Nat) : Option Nat := if 1 ≤ i ∧ d (7 + 10 * d (37 + b) + (i - 1)) = u ∧ d (7 + 10 * d (37 + b) + i) = v then lg d b i else none
def ov (d : Nat → Nat) (u v b : Nat) : Option Nat := lst (ovl d u v b) (nown d b)
theorem ovl_b (hw : WF d) (hb : b < d 1) {u v w : Nat} (hi : i ≤ nown d b) (h : ovl d u v b i = some w) : w < 10000 := by
  unfold ovl at h
  split at h
  · exact lg_b hw hb hi h
  · cases h
theorem ov_b (hw : WF d) (hb : b < d 1) {u v w : Nat} (h : ov d u v b = some w) : w < 10000 := lst_b (fun j y hj hy => ovl_b hw hb (Nat.le_of_lt hj) hy) h
theorem X_timeOver (h : XR d σ) (hw : WF d) (hb : b < d 1) {u v : Nat} (hu : u < 10000) (hv : v < 10000) : f_X2_timeOver (10 + b) (nI u) (nI v) σ = some (xo (ov d u v b), σ) := by
  have ho := hw.own hb
  have hru := hw.run hb
  have h3 := hw.1
  have hon : nown d b = d (4 + d (37 + b)) := rfl
  have h8 := (h.2.2.2.2.1 (d (37 + b)) hru.1).1
  have key : Wp (f_X2_timeOver_19 (10 + b) (nI u) (nI v) (3 + d (37 + b)) gFuel (-1) (nI 1) σ) (fun r => r = (xo (ov d u v b), σ)) := by
    refine loopW (F := fun f (x : Int32) i σ => f_X2_timeOver_19 (10 + b) (nI u) (nI v) (3 + d (37 + b)) f x (nI i) σ) (N := nown d b) (I := fun i x τ => 1 ≤ i ∧ x = xo (lst (ovl d u v b) i) ∧ τ = σ)
      (fun f i x τ hi hI kk => ?_) (fun f x τ hI => ?_) (nown d b - 1) 1 gFuel (-1) σ (by omega) (Nat.lt_trans (by omega) gFuel_ge) ⟨Nat.le_refl _, by rw [lst, ovl, if_neg (by omega)]; rfl, rfl⟩
    · obtain ⟨hi1, rfl, rfl⟩ := hI
      have tail : ∀ o, ovl d u v b i = o → Wp (f_X2_timeOver_63 (10 + b) (nI u) (nI v) (3 + d (37 + b)) (xo (lst (ovl d u v b) i)) (nI i) (fun v5 v6 σ => f_X2_timeOver_19 (10 + b) (nI u) (nI v) (3 + d (37 + b)) f v5 v6 σ) (xo o) τ) (fun r => r = (xo (ov d u v b), τ)) := by
        intro o ho
        subst ho
        unfold f_X2_timeOver_63
        rw [nI_1 i]
        exact lst_st (f := ovl d u v b) (n := i) (K := fun l => f_X2_timeOver_19 (10 + b) (nI u) (nI v) (3 + d (37 + b)) f l (nI (i + 1)) τ) (fun j y hj hy => Nat.lt_trans (ovl_b hw hb (show j ≤ nown d b by omega) hy) (by decide)) (kk _ _ ⟨by omega, rfl, rfl⟩)
      simp only [f_X2_timeOver_19, f_X2_timeOver_62]
      rw [h8]
      refine Wp.f (nI_ge (show i < d (4 + d (37 + b)) by omega) (by omega)) ?_
      rw [i1, nI_sub hi1]
      refine Wp.eq (X_isCode h hw hru.1 (show i - 1 < d (4 + d (37 + b)) by omega) hu) ?_
      by_cases c1 : d (7 + 10 * d (37 + b) + (i - 1)) = u
      · rw [if_pos c1]
        refine Wp.f o1n0 ?_
        refine Wp.eq (X_isCode h hw hru.1 (show i < d (4 + d (37 + b)) by omega) hv) ?_
        by_cases c2 : d (7 + 10 * d (37 + b) + i) = v
        · rw [if_pos c2]
          refine Wp.f o1n0 ?_
          refine Wp.eq (X_legTime h hw hb (by omega)) ?_
          exact tail (lg d b i) (if_pos ⟨hi1, c1, c2⟩)
        · rw [if_neg c2]
          refine Wp.t rfl ?_
          exact tail none (if_neg (fun q => c2 q.2.2))
      · rw [if_neg c1]
        refine Wp.t rfl ?_
        exact tail none (if_neg (fun q => c1 q.2.1))
    · obtain ⟨-, rfl, rfl⟩ := hI
      simp only [f_X2_timeOver_19]
      rw [h8]
      exact Wp.t (nI_le (show d (4 + d (37 + b)) ≤ nown d b by omega) (by omega)) (Wp.ret rfl)
  obtain ⟨r, hr1, hr2⟩ := key
  rw [hr2] at hr1
  unfold f_X2_timeOver
  rw [(h.2.2.2.2.2 b hb).1, X_courseAt (by omega), bind_some']
  exact hr1
def cmb (b : Nat) : Option (Nat × Nat) → Option Nat → Option (Nat × Nat)
  | none, none => none
  | none, some v => some (b, v)
  | some q, none => some q
  | some q, some v => if v < q.2 then some (b, v) else some q
def amo (f : Nat → Option Nat) : Nat → Option (Nat × Nat)
  | 0 => none
  | b + 1 => cmb b (amo f b) (f b)
theorem amo_b {f : Nat → Option Nat} : ∀ {n : Nat} {q : Nat × Nat}, amo f n = some q → q.1 < n ∧ f q.1 = some q.2 := by
  intro n
  induction n with
  | zero => intro q h; cases h
  | succ n ih =>
    intro q h
    rw [amo] at h
    cases e1 : amo f n with
    | none =>
      cases e2 : f n with
      | none => rw [e1, e2] at h; cases h
      | some v => rw [e1, e2] at h; cases h; exact ⟨by show n < n + 1; omega, e2⟩
    | some p =>
      have hp := ih e1
      cases e2 : f n with
      | none => rw [e1, e2] at h; cases h; exact ⟨by omega, hp.2⟩
      | some v =>
        rw [e1, e2, cmb] at h
        by_cases c : v < p.2
        · rw [if_pos c] at h; cases h; exact ⟨by show n < n + 1; omega, e2⟩
        · rw [if_neg c] at h; cases h; exact ⟨by omega, hp.2⟩
theorem X_fastestOver (h : XR d σ) (hw : WF d) {u v : Nat} (hu : u < 10000) (hv : v < 10000) : f_X2_fastestOver (nI u) (nI v) σ = some (xo ((amo (ov d u v) (d 1)).map (·.1)), σ) := by
  have hr := hw.2.1
  have key : Wp (f_X2_fastestOver_8 (nI u) (nI v) gFuel (-1) (-1) (nI 0) σ) (fun r => r = (xo ((amo (ov d u v) (d 1)).map (·.1)), σ)) := by
    refine loop0 (F := fun f (x : Int32 × Int32) b σ => f_X2_fastestOver_8 (nI u) (nI v) f x.1 x.2 (nI b) σ) (N := d 1) (I := fun b x τ => x.1 = xo ((amo (ov d u v) b).map (·.1)) ∧ x.2 = xo ((amo (ov d u v) b).map (·.2)) ∧ τ = σ) (by omega)
      (fun f b x τ hb hI kk => ?_) (fun f x τ hI => ?_) (x := (-1, -1)) (σ := σ) ⟨rfl, rfl, rfl⟩
    · obtain ⟨x1, x2⟩ := x
      obtain ⟨e1, e2, rfl⟩ := hI
      dsimp only at e1 e2
      subst e1 e2
      simp only [f_X2_fastestOver_8]
      rw [h.2.1]
      refine Wp.f (nI_ge hb (by omega)) ?_
      refine Wp.eq (X_runnerAt (by omega)) ?_
      refine Wp.eq (X_timeOver h hw hb hu hv) ?_
      dsimp only
      rw [nI_1 b]
      cases ho : ov d u v b with
      | none =>
        refine Wp.t rfl ?_
        have e : amo (ov d u v) (b + 1) = amo (ov d u v) b := by rw [amo, ho]; cases amo (ov d u v) b <;> rfl
        exact kk (_, _) _ ⟨by first | (rw [e]; done) | (rw [e]; rfl), by first | (rw [e]; done) | (rw [e]; rfl), rfl⟩
      | some w =>
        have hwb := ov_b hw hb ho
        refine Wp.f (nI_nm1 (show w < 2147483648 by omega)) ?_
        cases hq : amo (ov d u v) b with
        | none =>
          refine Wp.t rfl ?_
          have e : amo (ov d u v) (b + 1) = some (b, w) := by rw [amo, ho, hq]; rfl
          exact kk (_, _) _ ⟨by rw [e]; rfl, by rw [e]; rfl, rfl⟩
        | some q =>
          have hqb := amo_b hq
          have hq2 := ov_b hw (show q.1 < d 1 by omega) hqb.2
          refine Wp.f (nI_nm1 (show q.1 < 2147483648 by omega)) ?_
          by_cases c : q.2 ≤ w
          · refine Wp.t (nI_le c (show w < 2147483648 by omega)) ?_
            have e : amo (ov d u v) (b + 1) = some q := by rw [amo, ho, hq, cmb, if_neg (by omega)]
            exact kk (_, _) _ ⟨by rw [e]; rfl, by rw [e]; rfl, rfl⟩
          · refine Wp.f (nI_ge (show w < q.2 by omega) (show q.2 < 2147483648 by omega)) ?_
            have e : amo (ov d u v) (b + 1) = some (b, w) := by rw [amo, ho, hq, cmb, if_pos (by omega)]
            exact kk (_, _) _ ⟨by rw [e]; rfl, by rw [e]; rfl, rfl⟩
    · obtain ⟨x1, x2⟩ := x
      obtain ⟨e1, e2, rfl⟩ := hI
      dsimp only at e1 e2
      subst e1 e2
      simp only [f_X2_fastestOver_8]
      rw [h.2.1]
      exact Wp.t (nI_le (Nat.le_refl _) (by omega)) (Wp.ret rfl)
  obtain ⟨r, hr1, hr2⟩ := key
  rw [hr2] at hr1
  unfold f_X2_fastestOver
  rw [show (0 : Int32) = nI 0 from i0]
  exact hr1
theorem cmb_st {O : Option (Nat × Nat)} {f : Nat → Option Nat} {v : Nat} (hf : f i = some v) : (cmb b O (lst f i) = none → cmb b O (lst f (i + 1)) = some (b, v)) ∧ (∀ q, cmb b O (lst f i) = some q → (q.2 ≤ v → cmb b O (lst f (i + 1)) = some q) ∧ (v < q.2 → cmb b O (lst f (i + 1)) = some (b, v))) := by
  rw [lst, hf]
  cases hl : lst f i with
  | none =>
    cases O with
    | none => exact ⟨fun _ => rfl, fun q h => nomatch h⟩
    | some p =>
      refine ⟨fun h => (nomatch h), fun q h => ?_⟩
      have e : p = q := Option.some.inj h
      rw [← e]
      exact ⟨fun c => if_neg (by omega), fun c => if_pos c⟩
  | some l =>
    cases O with
    | none =>
      refine ⟨fun h => (nomatch h), fun q h => ?_⟩
      have e : (b, l) = q := Option.some.inj h
      subst e
      dsimp only
      exact ⟨fun c => by rw [cmb, if_neg (by omega)], fun c => by rw [cmb, if_pos c]⟩
    | some p =>
      by_cases c1 : l < p.2
      · have e1 : cmb b (some p) (some l) = some (b, l) := by rw [cmb, if_pos c1]
        rw [e1]
        refine ⟨fun h => (nomatch h), fun q h => ?_⟩
        have e : (b, l) = q := Option.some.inj h
        subst e
        dsimp only
        refine ⟨fun c => ?_, fun c => ?_⟩
        · rw [if_neg (show ¬ v < l by omega), e1]
        · rw [if_pos c, cmb, if_pos (by omega)]
      · have e1 : cmb b (some p) (some l) = some p := by rw [cmb, if_neg c1]
        rw [e1]
        refine ⟨fun h => (nomatch h), fun q h => ?_⟩
        have e : p = q := Option.some.inj h
        rw [← e]
        dsimp only
        refine ⟨fun c => ?_, fun c => ?_⟩
        · rw [cmb, if_neg]
          split <;> omega
        · rw [if_pos (show v < l by omega), cmb, if_pos c]
theorem cmb_b {O : Option (Nat × Nat)} {o : Option Nat} (hO : ∀ q, O = some q → q.1 < 10000 ∧ q.2 < 10000) (hb : b < 10000) (ho : ∀ v, o = some v → v < 10000) {q : Nat × Nat} (h : cmb b O o = some q) : q.1 < 10000 ∧ q.2 < 10000 := by
  cases O with
  | none =>
    cases o with
    | none => cases h
    | some v => cases h; exact ⟨hb, ho v rfl⟩
  | some p =>
    cases o with
    | none => cases h; exact hO _ rfl
    | some v =>
      rw [cmb] at h
      by_cases c : v < p.2
      · rw [if_pos c] at h; cases h; exact ⟨hb, ho v rfl⟩
      · rw [if_neg c] at h; cases h; exact hO _ rfl
theorem M_over95 (hM : MR d σ) (hw : WF d) (hs : Ms σ σ') (hb : b < d 1) {u v : Nat} (hu : u < 10000) (hv : v < 10000) {z : Int32} {O : Option (Nat × Nat)} (hO : ∀ q, O = some q → q.1 < 10000 ∧ q.2 < 10000) {k69 : Int32 → Int32 → Int32 → gSt → Option (Int32 × gSt)} {Q : Int32 × gSt → Prop} (kk : ∀ τ, Ms σ τ → Wp (k69 (mo ((cmb b O (ov d u v b)).map (·.2))) (mo ((cmb b O (ov d u v b)).map (·.1))) (nI (b + 1)) τ) Q) : Wp (f_X12_over_95 (nI u) (nI v) z (nI b) (nI (d (37 + b))) k69 gFuel (mo (O.map (·.2))) (mo (O.map (·.1))) 1 σ') Q := by
  have ho := hw.own hb
  have hru := hw.run hb
  have hr := hw.2.1
  have h3 := hw.1
  have hon : nown d b = d (4 + d (37 + b)) := rfl
  have l1 : lst (ovl d u v b) 1 = none := by rw [lst, ovl, if_neg (by omega)]; rfl
  have c0 : cmb b O (lst (ovl d u v b) 1) = O := by rw [l1]; cases O <;> rfl
  obtain ⟨A, hA⟩ : ∃ A, A = mo (O.map (·.2)) := ⟨_, rfl⟩
  obtain ⟨B, hB⟩ : ∃ B, B = mo (O.map (·.1)) := ⟨_, rfl⟩
  rw [show (1 : Int32) = nI 1 from i1, ← hA, ← hB]
  refine loopW (F := fun f (x : Int32 × Int32) i σ => f_X12_over_95 (nI u) (nI v) z (nI b) (nI (d (37 + b))) k69 f x.1 x.2 (nI i) σ) (N := nown d b) (I := fun i x τ => 1 ≤ i ∧ x.1 = mo ((cmb b O (lst (ovl d u v b) i)).map (·.2)) ∧ x.2 = mo ((cmb b O (lst (ovl d u v b) i)).map (·.1)) ∧ Ms σ τ)
    (fun f i x τ hi hI kk2 => ?_) (fun f x τ hI => ?_) (nown d b - 1) 1 gFuel (A, B) σ' (by omega) (Nat.lt_trans (by omega) gFuel_ge) ⟨Nat.le_refl _, by rw [c0]; exact hA, by rw [c0]; exact hB, hs⟩
  · obtain ⟨x1, x2⟩ := x
    obtain ⟨hi1, e1, e2, hs⟩ := hI
    dsimp only at e1 e2
    subst e1 e2
    have tail : ∀ o τ, ovl d u v b i = o → Ms σ τ → Wp (f_X12_over_148 (nI u) (nI v) z (mo ((cmb b O (lst (ovl d u v b) i)).map (·.2))) (mo ((cmb b O (lst (ovl d u v b) i)).map (·.1))) (nI b) (nI (d (37 + b))) (nI i) k69 (fun v4 v5 v8 σ => f_X12_over_95 (nI u) (nI v) z (nI b) (nI (d (37 + b))) k69 f v4 v5 v8 σ) (mo o) τ) Q := by
      intro o τ ho hs
      unfold f_X12_over_148
      rw [nI_1 i]
      cases o with
      | none =>
        refine Wp.t rfl ?_
        have e : lst (ovl d u v b) (i + 1) = lst (ovl d u v b) i := by rw [lst, ho]; cases lst (ovl d u v b) i <;> rfl
        exact kk2 (_, _) _ ⟨by omega, by first | (rw [e]; done) | (rw [e]; rfl), by first | (rw [e]; done) | (rw [e]; rfl), hs⟩
      | some w =>
        have hwb := ovl_b hw hb (show i ≤ nown d b by omega) ho
        have hst := cmb_st (b := b) (O := O) ho
        refine Wp.f (nI_nm2 (show w < 2147483648 by omega)) ?_
        cases hc : cmb b O (lst (ovl d u v b) i) with
        | none =>
          refine Wp.t rfl ?_
          have e := hst.1 hc
          exact kk2 (_, _) _ ⟨by omega, by rw [e]; rfl, by rw [e]; rfl, hs⟩
        | some q =>
          have hqb := cmb_b hO (show b < 10000 by omega) (fun y hy => lst_b (fun j y hj hy => ovl_b hw hb (show j ≤ nown d b by omega) hy) hy) hc
          refine Wp.f (nI_nm2 (show q.2 < 2147483648 by omega)) ?_
          by_cases c : q.2 ≤ w
          · refine Wp.t (nI_le c (show w < 2147483648 by omega)) ?_
            have e := (hst.2 q hc).1 c
            exact kk2 (_, _) _ ⟨by omega, by rw [e]; rfl, by rw [e]; rfl, hs⟩
          · refine Wp.f (nI_ge (show w < q.2 by omega) (show q.2 < 2147483648 by omega)) ?_
            have e := (hst.2 q hc).2 (by omega)
            exact kk2 (_, _) _ ⟨by omega, by rw [e]; rfl, by rw [e]; rfl, hs⟩
    have bc1 := hw.b (7 + 10 * d (37 + b) + (i - 1))
    have bc2 := hw.b (7 + 10 * d (37 + b) + i)
    simp only [f_X12_over_95, f_X12_over_146]
    refine Wp.eq (M_rd (j := 4 + d (37 + b)) (hM.of hs) (by rw [i4, nI_add]) (by omega)) ?_
    refine Wp.f (nI_ge (show i < d (4 + d (37 + b)) by omega) (by omega)) ?_
    refine Wp.eq (a := (nI (d (7 + 10 * d (37 + b) + (i - 1))), τ)) (by rw [i1, nI_sub hi1]; exact M_codeOf (hM.of hs) (by omega)) ?_
    by_cases c1 : d (7 + 10 * d (37 + b) + (i - 1)) = u
    · refine Wp.t (by rw [c1]) ?_
      refine Wp.eq (M_codeOf (hM.of hs) (show 7 + 10 * d (37 + b) + i < 397 by omega)) ?_
      by_cases c2 : d (7 + 10 * d (37 + b) + i) = v
      · refine Wp.t (by rw [c2]) ?_
        refine Wp.bind (M_legOf hM hw hs hb (by omega)) (fun q hq => ?_)
        rw [hq.1]
        exact tail (lg d b i) _ (if_pos ⟨hi1, c1, c2⟩) hq.2
      · refine Wp.f (nI_ne (by omega) (by omega) c2) ?_
        exact tail none _ (if_neg (fun q => c2 q.2.2)) hs
    · refine Wp.f (nI_ne (by omega) (by omega) c1) ?_
      exact tail none _ (if_neg (fun q => c1 q.2.1)) hs
  · obtain ⟨x1, x2⟩ := x
    obtain ⟨hi1, e1, e2, hs⟩ := hI
    dsimp only at e1 e2
    subst e1 e2
    simp only [f_X12_over_95]
    refine Wp.eq (M_rd (j := 4 + d (37 + b)) (hM.of hs) (by rw [i4, nI_add]) (by omega)) ?_
    refine Wp.t (nI_le (show d (4 + d (37 + b)) ≤ nown d b by omega) (by omega)) ?_
    rw [nI_1 b]
    exact kk _ hs
theorem M_over69 (hM : MR d σ) (hw : WF d) (hs : Ms σ σ') {u v : Nat} (hu : u < 10000) (hv : v < 10000) {z : Int32} : Wp (f_X12_over_69 (nI u) (nI v) z gFuel (-2) (-2) 0 σ') (fun r => (r.1 = if z = 0 then mo ((amo (ov d u v) (d 1)).map (·.2)) else mo ((amo (ov d u v) (d 1)).map (·.1))) ∧ Ms σ r.2) := by
  have hr := hw.2.1
  have h3 := hw.1
  refine loop0 (F := fun f (x : Int32 × Int32) b σ => f_X12_over_69 (nI u) (nI v) z f x.1 x.2 (nI b) σ) (N := d 1) (I := fun b x τ => x.1 = mo ((amo (ov d u v) b).map (·.2)) ∧ x.2 = mo ((amo (ov d u v) b).map (·.1)) ∧ Ms σ τ) (by omega)
    (fun f b x τ hb hI kk => ?_) (fun f x τ hI => ?_) (x := (-2, -2)) (σ := σ') ⟨rfl, rfl, hs⟩
  · obtain ⟨x1, x2⟩ := x
    obtain ⟨e1, e2, hs⟩ := hI
    dsimp only at e1 e2
    subst e1 e2
    have hru := hw.run hb
    simp only [f_X12_over_69]
    refine Wp.eq (M_rd (j := 1) (hM.of hs) i1 (by decide)) ?_
    refine Wp.f (nI_ge hb (by omega)) ?_
    refine Wp.eq (M_rd (j := 37 + b) (hM.of hs) (by rw [i37, nI_add]) (by omega)) ?_
    exact M_over95 hM hw hs hb hu hv (fun q hq => by
      have h1 := amo_b hq
      have h2 := ov_b hw (show q.1 < d 1 by omega) h1.2
      exact ⟨by omega, h2⟩) (fun τ hs => kk (_, _) τ ⟨by first | (rw [amo]; done) | (rw [amo]; rfl), by first | (rw [amo]; done) | (rw [amo]; rfl), hs⟩)
  · obtain ⟨x1, x2⟩ := x
    obtain ⟨e1, e2, hs⟩ := hI
    dsimp only at e1 e2
    subst e1 e2
    simp only [f_X12_over_69]
    refine Wp.eq (M_rd (j := 1) (hM.of hs) i1 (by decide)) ?_
    refine Wp.t (nI_le (Nat.le_refl _) (by omega)) ?_
    by_cases e0 : z = 0
    · exact Wp.t e0 (Wp.ret ⟨by rw [if_pos e0], hs⟩)
    · exact Wp.f e0 (Wp.ret ⟨by rw [if_neg e0], hs⟩)
theorem une_0 {y : Int32} : f_X12_unless_ 0 y σ = some (1, σ) := by unfold f_X12_unless_; rw [if_pos rfl]
theorem une_2 : f_X12_unless_ 1 0 σ = some (2, σ) := by unfold f_X12_unless_; rw [if_neg o1n0, if_pos rfl]
theorem une_1 : f_X12_unless_ 1 1 σ = some (0, σ) := by unfold f_X12_unless_; rw [if_neg o1n0, if_neg o1n0]
theorem ref_2 : f_X12_isRefused 2 σ = some (1, mR σ 2) := by rw [M_isRefused, if_neg (by decide)]
theorem S_over : SS3 Inv f_X11_over f_X12_over := by
  intro x y z
  refine QA.ss (fun σ d hI hw hM hX => ?_)
  have hr := hw.2.1
  have hin : ∀ σ2, f_X12_in z 0 1 σ2 = some (bG z (1 + 1), σ2) := fun σ2 => by rw [i1]; exact M_in0 (by decide) _
  have m22 : ∀ σ2, f_X12_over_22 x y z 0 σ2 = some (-1, mR σ2 1) := fun σ2 => by
    unfold f_X12_over_22 f_X12_over_46 f_X12_over_47
    rcases code_cases x with ⟨-, g2⟩ | ⟨u, -, -, -, -, g2⟩
    · rw [g2, bind_some', if_pos rfl, une_0, bind_some', ref_1, bind_some', if_neg o1n0]
    · rw [g2, bind_some', if_neg o1n0]
      rcases code_cases y with ⟨-, k2⟩ | ⟨v, -, -, -, -, k2⟩
      · rw [k2, bind_some', if_pos rfl, une_0, bind_some', ref_1, bind_some', if_neg o1n0]
      · rw [k2, bind_some', if_neg o1n0, une_0, bind_some', ref_1, bind_some', if_neg o1n0]
  by_cases h0 : d 0 = 0
  · refine QA.noT 1 (by decide) ?_ (fun σ2 hM2 hT2 => ?_)
    · unfold f_X11_over
      rw [X_isTold hX hw, if_pos h0, bind_some', if_pos rfl, X_refused]
      rfl
    · unfold f_X12_over f_X12_over_21
      rw [if_pos (by rw [hT2, if_pos h0]), m22]
  · by_cases hz : gin z (1 + 1) = true
    · have hz' := sel_t (by decide) hz
      have no2 : (∀ σ2, f_X12_over_22 x y z 1 σ2 = some (-1, mR σ2 2)) → f_X11_over x y z σ = some (-1, xA σ 2) → QA d σ (f_X11_over x y z) (f_X12_over x y z) := fun g1 g2 => by
        refine QA.noT 2 (by decide) g2 (fun σ2 hM2 hT2 => ?_)
        unfold f_X12_over
        rw [if_neg (by rw [hT2, if_neg h0]; exact o1n0), hin, bG_t hz, bind_some', if_neg o1n0, g1]
      rcases code_cases x with ⟨g1, g2⟩ | ⟨u, hu1, hu2, rfl, g1, g2⟩
      · refine no2 (fun σ2 => ?_) ?_
        · unfold f_X12_over_22 f_X12_over_46 f_X12_over_47
          rw [g2, bind_some', if_pos rfl, une_2, bind_some', ref_2, bind_some', if_neg o1n0]
        · unfold f_X11_over
          rw [X_isTold hX hw, if_neg h0, bind_some', if_neg o1n0, if_neg hz'.1, if_pos (show z ≤ 1 from hz'.2), g1, bind_some', if_pos rfl, X_refused]
          rfl
      · rcases code_cases y with ⟨k1, k2⟩ | ⟨v, hv1, hv2, rfl, k1, k2⟩
        · refine no2 (fun σ2 => ?_) ?_
          · unfold f_X12_over_22 f_X12_over_46 f_X12_over_47
            rw [g2, bind_some', if_neg o1n0, k2, bind_some', if_pos rfl, une_2, bind_some', ref_2, bind_some', if_neg o1n0]
          · unfold f_X11_over
            rw [X_isTold hX hw, if_neg h0, bind_some', if_neg o1n0, if_neg hz'.1, if_pos (show z ≤ 1 from hz'.2), g1, bind_some', if_neg o1n0, k1, bind_some', if_pos rfl, X_refused]
            rfl
        · refine QA.yesT (if z = 0 then mo ((amo (ov d u v) (d 1)).map (·.2)) else mo ((amo (ov d u v) (d 1)).map (·.1))) ?_ (fun σ2 hM2 hM3 hT2 => ?_)
          · unfold f_X11_over
            refine Wp.eq (X_isTold hX hw) ?_
            rw [if_neg h0]
            refine Wp.f o1n0 ?_
            refine Wp.f hz'.1 ?_
            refine Wp.t (show z ≤ 1 from hz'.2) ?_
            refine Wp.eq (g1 σ) ?_
            refine Wp.f o1n0 ?_
            refine Wp.eq (k1 σ) ?_
            refine Wp.f o1n0 ?_
            refine Wp.eq (X_fastestOver hX hw (by omega) (by omega)) ?_
            cases hq : amo (ov d u v) (d 1) with
            | none =>
              refine Wp.t rfl ?_
              refine Wp.ret ⟨?_, _, Xs.rf, rfl⟩
              by_cases e0 : z = 0
              · rw [if_pos e0]; rfl
              · rw [if_neg e0]; rfl
            | some q =>
              have hqb := amo_b hq
              refine Wp.f (nI_nm1 (show q.1 < 2147483648 by omega)) ?_
              by_cases e0 : z = 0
              · refine Wp.t e0 ?_
                refine Wp.eq (X_runnerAt (show q.1 < 10 by omega)) ?_
                refine Wp.eq (X_timeOver hX hw (show q.1 < d 1 by omega) (by omega) (by omega)) ?_
                rw [hqb.2]
                exact Wp.ret ⟨by rw [if_pos e0]; rfl, _, Xs.rf, rfl⟩
              · refine Wp.f e0 ?_
                exact Wp.ret ⟨by rw [if_neg e0]; rfl, _, Xs.rf, rfl⟩
          · unfold f_X12_over
            refine Wp.f (by rw [hT2, if_neg h0]; exact o1n0) ?_
            refine Wp.eq (hin σ2) ?_
            rw [bG_t hz]
            refine Wp.f o1n0 ?_
            unfold f_X12_over_22
            refine Wp.eq (g2 σ2) ?_
            refine Wp.f o1n0 ?_
            refine Wp.eq (k2 σ2) ?_
            refine Wp.f o1n0 ?_
            unfold f_X12_over_47
            refine Wp.eq une_1 ?_
            refine Wp.eq ref_0 ?_
            refine Wp.t rfl ?_
            exact M_over69 hM2 hw Ms.rf (by omega) (by omega)
    · refine QA.noT 1 (by decide) ?_ (fun σ2 hM2 hT2 => ?_)
      · unfold f_X11_over
        rw [X_isTold hX hw, if_neg h0, bind_some', if_neg o1n0]
        rcases sel_f (by decide) hz with q | ⟨q1, q2⟩
        · rw [if_pos q, X_refused]; rfl
        · rw [if_neg q1, if_neg (show ¬ z ≤ 1 from q2), X_refused]; rfl
      · unfold f_X12_over f_X12_over_21
        rw [if_neg (by rw [hT2, if_neg h0]; exact o1n0), hin, bG_f hz, bind_some', if_pos rfl, m22]
end PO
