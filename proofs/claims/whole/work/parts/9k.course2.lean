/-! a line of a course, both sides -/
section TC
variable {B N N' d e : Nat → Nat} {n s L u nc nr v S0 : Nat} {σ τ σ' τ' σ0 τ0 : gSt}
/-- a place of the row that no course and no runner holds -/
def irr (d : Nat → Nat) (j : Nat) : Prop := 4 ≤ j ∧ (∀ c, c < d 0 → j ≠ 4 + c ∧ ¬ (7 + 10 * c ≤ j ∧ j < 17 + 10 * c)) ∧ ∀ a, a < d 1 → j ≠ 37 + a ∧ j ≠ 47 + a ∧ j ≠ 57 + a ∧ j ≠ 67 + a ∧ ¬ (77 + 16 * a ≤ j ∧ j < 93 + 16 * a) ∧ ¬ (237 + 16 * a ≤ j ∧ j < 253 + 16 * a)
theorem irr.ag (hw : WF d) {j : Nat} (h : irr d j) : (∀ c, c < d 0 → AgC d (upd1 d j v) c) ∧ ∀ a, a < d 1 → AgP d (upd1 d j v) a := by
  obtain ⟨w0, w1, w2, w3, w4, w5, w6, w7⟩ := hw
  obtain ⟨h1, h2, h3⟩ := h
  refine ⟨fun c hc => ?_, fun a ha => ?_⟩
  · have := h2 c hc
    have := w6 c hc
    exact ⟨upd1_ne (by omega), fun i hi => upd1_ne (by omega)⟩
  · have := h3 a ha
    have := (w7 a ha).2.2.1
    exact ⟨upd1_ne (by omega), upd1_ne (by omega), upd1_ne (by omega), upd1_ne (by omega), fun k hk => ⟨upd1_ne (by omega), upd1_ne (by omega)⟩⟩
theorem wf_cg (hw : WF d) (hb : ∀ j, e j < 10000) (h0 : e 0 = d 0) (h1 : e 1 = d 1) (h2 : e 2 = d 2) (h3 : e 3 = d 3) (hc : ∀ c, c < d 0 → AgC d e c) (ha : ∀ a, a < d 1 → AgP d e a) : WF e := by
  obtain ⟨w0, w1, w2, w3, w4, w5, w6, w7⟩ := hw
  refine ⟨by omega, by omega, by omega, by omega, hb, by rw [h0, h1]; exact w5, fun c q => ?_, fun a q => ?_⟩
  · rw [h0] at q
    rw [(hc c q).1]; exact w6 c q
  · rw [h1] at q
    obtain ⟨p1, p2, p3, p4, p5⟩ := ha a q
    obtain ⟨r1, r2, r3, r4, r5⟩ := w7 a q
    rw [p1, p2, p3, p4, h0]
    refine ⟨r1, r2, r3, fun k hk => ?_, fun k hk => ?_⟩
    · rw [(p5 k hk).2]; exact r4 k hk
    · rw [(p5 k (by omega)).2, (p5 (k + 1) hk).2]; exact r5 k hk
theorem irr.wf (hw : WF d) {j : Nat} (h : irr d j) (hv : v < 10000) : WF (upd1 d j v) := by
  have ag := h.ag (v := v) hw
  have h4 := h.1
  refine wf_cg hw (fun q => ?_) (upd1_ne (by omega)) (upd1_ne (by omega)) (upd1_ne (by omega)) (upd1_ne (by omega)) ag.1 ag.2
  unfold upd1
  split
  · exact hv
  · exact hw.2.2.2.2.1 q
theorem irr.c {c j : Nat} (h0 : d 0 = c) (hc : c < 3) (h1 : d 1 ≤ 10) (hj : j = 4 + c ∨ (7 + 10 * c ≤ j ∧ j < 17 + 10 * c)) : irr d j := ⟨by omega, fun c' hc' => by omega, fun a ha => by omega⟩
theorem irr.r {r j : Nat} (h0 : d 0 ≤ 3) (h1 : d 1 = r) (hr : r < 10) (hj : j = 37 + r ∨ j = 47 + r ∨ j = 57 + r ∨ j = 67 + r ∨ (77 + 16 * r ≤ j ∧ j < 93 + 16 * r) ∨ (237 + 16 * r ≤ j ∧ j < 253 + 16 * r)) : irr d j := ⟨by omega, fun c' hc' => by omega, fun a ha => by omega⟩
/-- the class's draft moves on -/
theorem CX.mv (h : CX σ0 B n L u nc nr d N σ) {nc' nr' : Nat} (hf : Fx σ σ') (h15 : ∀ s, σ' 15 0 s = σ 15 0 s) (h3 : σ' 3 0 3 = nI nc' ∧ σ' 3 0 4 = nI nr' ∧ σ' 3 0 5 = σ 3 0 5 ∧ σ' 3 0 6 = σ 3 0 6) (h0 : e 0 = d 0) (h1 : e 1 = d 1) (e2 : e 2 = d 2) (e3 : e 3 = d 3) (hc : ∀ c, c < d 0 → AgC d e c) (ha : ∀ a, a < d 1 → AgP d e a) (hN : ∀ j, (j < 6 * d 0 ∨ (18 ≤ j ∧ j < 18 + 6 * d 1)) → N' j = N j) (hs : ∀ c, c < d 0 → ∀ s, (σ' 8 c s = σ 8 c s) ∧ σ' 9 c s = σ 9 c s) (ht : ∀ a, a < d 1 → ∀ k s, 10 ≤ k → k ≤ 12 → (σ' k a s = σ k a s)) : CX σ0 B n L u nc' nr' e N' σ' := by
  obtain ⟨g1, ⟨b1, b2, b3, b4, b5⟩, g3, g4, g5⟩ := h
  refine ⟨g1.tr hf, ⟨b1, b2, (hf 1 0 1 (by omega) (by omega) (by omega) (by omega) (by omega) (by omega)).trans b3, (h15 2).trans b4, fun j hj => ⟨(b5 j hj).1, (hf 2 0 j (by omega) (by omega) (by omega) (by omega) (by omega) (by omega)).trans (b5 j hj).2⟩⟩, (h15 6).trans g3, (h15 7).trans g4, ?_⟩
  exact g5.cg ⟨h3.1, h3.2.1, by rw [h3.2.2.1, e2]; exact g5.1.2.2.1, by rw [h3.2.2.2, e3]; exact g5.1.2.2.2⟩ h0 h1 hc ha hN hs ht
theorem XT.same (h : XT B n s σ) (h15 : ∀ s, σ' 15 0 s = σ 15 0 s) : XT B n s σ' := by
  unfold XT
  rw [h15, h15, h15, h15]
  exact h
theorem CM.set (hM : CM τ0 B n u d N τ) {j : Nat} {x : Int32} (hx : x = nI v) : CM τ0 B n u (upd1 d j v) N (gup τ 31 0 j x) := by
  refine ⟨hM.1.up (by omega), ⟨hM.2.1.1, by rw [gup_kind (by decide)]; exact hM.2.1.2.1, fun z hz => by rw [gup_kind (by decide)]; exact hM.2.1.2.2 z hz⟩, by rw [gup_kind (by decide)]; exact hM.2.2.1, fun z hz => ?_, fun z hz => by rw [gup_kind (by decide)]; exact hM.2.2.2.2 z hz⟩
  rw [gup_get]
  unfold upd1
  by_cases e : z = j
  · rw [if_pos e, if_pos e, hx]
  · rw [if_neg e, if_neg e]; exact hM.2.2.2.1 z hz
theorem MT.set (h : MT B n s τ) {j : Nat} {x : Int32} : MT B n s (gup τ 31 0 j x) := by
  unfold MT
  rw [gup_kind (by decide)]
  exact h
/-- a line is read -/
def LnP (σ0 τ0 : gSt) (B : Nat → Nat) (n L S0 : Nat) (σ τ : gSt) : Prop := ∃ (s u : Nat) (e N : Nat → Nat), S0 ≤ s ∧ s ≤ n ∧ u < 4 ∧ WF e ∧ CX σ0 B n L u (e 0) (e 1) e N σ ∧ CM τ0 B n u e N τ ∧ XT B n s σ ∧ MT B n s τ
theorem ck_ne3 (h : ¬ tK B n s = 3) (hk : tK B n s < 256) : ¬ nI (tK B n s) = 3 := by rw [i3]; exact nI_ne (by omega) (by decide) h
/-- a sign: both see it -/
theorem sg2 (hX : XT B n s σ) (hM : MT B n s τ) (hk : tK B n s < 256) {g : Nat} {x : Int32} (hx : x = nI g) (hg : 3 < g ∧ g < 256 ∨ g = 0) : (tK B n s = g ∧ σ 15 0 4 = x ∧ τ 28 0 14 = x) ∨ (¬ tK B n s = g ∧ ¬ σ 15 0 4 = x ∧ ¬ τ 28 0 14 = x) := by
  rw [hX.2.2.1, hM.2.2.1, hx]
  have hc : ck (tK B n s) = g ↔ tK B n s = g := by
    unfold ck
    split
    · omega
    · split
      · omega
      · split <;> omega
  have hcb : ck (tK B n s) < 256 := by
    unfold ck
    split
    · omega
    · split
      · omega
      · split <;> omega
  by_cases c : tK B n s = g
  · left
    exact ⟨c, by rw [hc.mpr c], by rw [c]⟩
  · right
    exact ⟨c, nI_ne (by omega) (by omega) (fun q => c (hc.mp q)), nI_ne (by omega) (by omega) c⟩
theorem c_end {E : Nat → Nat} {c k : Nat} (hc : c < 3) (hw : WF e) (e0 : e 0 = c) (hk : 1 ≤ k ∧ k ≤ 10) (hX : CX σ0 B n L u (c + 1) (e 1) e N σ) (hC : XC σ c k (dC e c)) (hW : isW (fun q => N (6 * c + q))) (h8 : σ 8 c 1 = nI (wval (fun q => N (6 * c + q)) 6)) (E0 : E 0 = c + 1) (Ec : E (4 + c) = k) (Eq' : ∀ q, q ≠ 0 → q ≠ 4 + c → E q = e q) : WF E ∧ CX σ0 B n L u (E 0) (E 1) E N σ := by
  obtain ⟨w0, w1, w2, w3, w4, w5, w6, w7⟩ := hw
  have E1 : E 1 = e 1 := Eq' 1 (by omega) (by omega)
  have E2 : E 2 = e 2 := Eq' 2 (by omega) (by omega)
  have E3 : E 3 = e 3 := Eq' 3 (by omega) (by omega)
  constructor
  · refine ⟨by omega, by omega, by omega, by omega, fun j => ?_, fun q => by omega, fun c' hc' => ?_, fun a' ha' => ?_⟩
    · by_cases j0 : j = 0
      · subst j0; omega
      · by_cases jc : j = 4 + c
        · subst jc; omega
        · rw [Eq' j j0 jc]; exact w4 j
    · by_cases ec : c' = c
      · subst ec; omega
      · rw [Eq' (4 + c') (by omega) (by omega)]; exact w6 c' (by omega)
    · rw [E1] at ha'
      obtain ⟨r1, r2, r3, r4, r5⟩ := w7 a' ha'
      rw [Eq' (37 + a') (by omega) (by omega), Eq' (47 + a') (by omega) (by omega), Eq' (57 + a') (by omega) (by omega), Eq' (67 + a') (by omega) (by omega), E0]
      refine ⟨by omega, r2, r3, fun k' hk' => ?_, fun k' hk' => ?_⟩
      · rw [Eq' (237 + 16 * a' + k') (by omega) (by omega)]; exact r4 k' hk'
      · rw [Eq' (237 + 16 * a' + k') (by omega) (by omega), Eq' (237 + 16 * a' + (k' + 1)) (by omega) (by omega)]; exact r5 k' hk'
  · refine ⟨hX.1, hX.2.1, hX.2.2.1, hX.2.2.2.1, ?_⟩
    obtain ⟨⟨p1, p2, p3, p4⟩, p5, p6⟩ := hX.2.2.2.2
    refine ⟨⟨by rw [E0]; exact p1, by rw [E1]; exact p2, by rw [E2]; exact p3, by rw [E3]; exact p4⟩, fun c' hc' => ?_, fun a' ha' => ?_⟩
    · by_cases ec : c' = c
      · subst ec
        refine ⟨?_, hW, h8⟩
        rw [Ec]
        exact XC_cg hC (fun z hz => Eq' _ (by omega) (by omega))
      · obtain ⟨r1, r2, r3⟩ := p5 c' (by omega)
        refine ⟨?_, r2, r3⟩
        rw [Eq' (4 + c') (by omega) (by omega)]
        exact XC_cg r1 (fun z hz => Eq' _ (by omega) (by omega))
    · rw [E1] at ha'
      obtain ⟨⟨r1, r2, r3, r4⟩, r5, r6⟩ := p6 a' ha'
      rw [Eq' (37 + a') (by omega) (by omega), Eq' (47 + a') (by omega) (by omega), Eq' (57 + a') (by omega) (by omega), Eq' (67 + a') (by omega) (by omega)]
      exact ⟨⟨r1, r2, r3, XP_cg r4 (fun z hz => ⟨Eq' _ (by omega) (by omega), Eq' _ (by omega) (by omega)⟩)⟩, r5, r6⟩
theorem c44 (hk : ∀ s, s ≤ n → tK B n s < 256) (hu : u < 4) {c : Nat} (hc : c < 3) (hW : isW (fun q => N (6 * c + q))) : ∀ (m k fx fm s : Nat) (σ τ : gSt) (e : Nat → Nat), k + m = 11 → k ≤ 10 → m < fx → m + 1 < fm → s ≤ n → S0 ≤ s → e 0 = c → WF e → CX σ0 B n L u (c + 1) (e 1) e N σ → σ 15 0 3 = nI s → XC σ c k (dC e c) → σ 8 c 1 = nI (wval (fun q => N (6 * c + q)) 6) → CM τ0 B n u e N τ → MT B n s τ → W2 (f_X8_readCourse_44 c fx (nI k) σ) (f_X12_readCourse_32 (nI c) fm (nI k) 1 τ) (R2 σ0 τ0 (LnP σ0 τ0 B n L S0)) := by
  intro m
  induction m with
  | zero =>
    intro k fx fm s σ τ e h1 hk10 h2 h3 hs hS he hw hX hp hC h8 hM hT
    exact absurd h1 (by omega)
  | succ m ih =>
    intro k fx fm s σ τ e h1 hk10 h2 h3 hs hS he hw hX hp hC h8 hM hT
    obtain ⟨fx, rfl⟩ : ∃ g, fx = g + 1 := ⟨fx - 1, by omega⟩
    obtain ⟨fm, rfl⟩ : ∃ g, fm = g + 1 := ⟨fm - 1, by omega⟩
    have h10 := hw.2.1
    have tb := tQ_b (B := B) hs
    have tpb := tP_b (B := B) hs
    rw [f_X8_readCourse_44, f_X12_readCourse_32]
    refine W2.xf (by rw [i10]; exact nI_nlt (by omega) (by decide)) ?_
    refine hX.adv hs hp (fun σ1 f1 hX1 hT1 => ?_)
    have hC1 : XC σ1 c k (dC e c) := hC.same (f1 8 c 2 (by omega)) (fun i => f1 9 c i (by omega))
    have h81 : σ1 8 c 1 = nI (wval (fun q => N (6 * c + q)) 6) := (f1 8 c 1 (by omega)).trans h8
    refine W2.yf o1n0 ?_
    refine W2.xe (X_isWhole (lo := 1) (hi := 99) hT1 hs (hk s hs) (by decide) (by decide)) ?_
    by_cases c3 : tK B n s = 3
    · refine W2.yt (by rw [hT.2.2.1, c3]; rfl) ?_
      have hv : tv B n s < 10000 := (tok_D hs c3).2
      have h15 : τ 28 0 15 = nI (tv B n s) := hT.2.2.2 c3
      have x15 : σ1 15 0 5 = nI (tv B n s) := hT1.2.2.2.2 c3
      refine W2.ye (by rw [h15]; exact M_in (lo := 1) (hi := 99) (by omega) (by decide) (by decide)) ?_
      rw [if_pos c3]
      by_cases c1 : 1 ≤ tv B n s ∧ tv B n s ≤ 99
      · rw [if_pos c1, if_pos c1]
        refine W2.xf o1n0 ?_
        refine W2.yf o1n0 ?_
        -- both behind the look at the control before
        have both : (∃ a, f_X1_isCode c (nI k - 1) (nI (tv B n s)) σ1 = some (a, σ1) ∧ ((a = 0 ∧ (k = 0 ∨ ¬ tv B n s = e (7 + 10 * c + (k - 1)))) ∨ (a = 1 ∧ 0 < k ∧ tv B n s = e (7 + 10 * c + (k - 1))))) := by
          unfold f_X1_isCode
          by_cases k0 : k = 0
          · refine ⟨0, ?_, Or.inl ⟨rfl, Or.inl k0⟩⟩
            subst k0
            have : f_X1_has c (nI 0 - 1) σ1 = some (0, σ1) := by
              unfold f_X1_has
              rw [if_pos (show nI 0 - 1 < 0 by decide)]
            rw [this, bind_some']
            rfl
          · have e1 : nI k - 1 = nI (k - 1) := by rw [i1, nI_sub (by omega)]
            rw [e1, X_hasR hC1.1 (by omega) (by omega), bind_some']
            refine ⟨if tv B n s = e (7 + 10 * c + (k - 1)) then 1 else 0, (if_neg o1n0).trans ?_, ?_⟩
            · dsimp only
              rw [X_codeC hC1.1 (by omega) (by omega), bind_some', hC1.2 (k - 1) (by omega)]
              by_cases c5 : tv B n s = e (7 + 10 * c + (k - 1))
              · rw [if_pos c5]
                exact if_pos (show nI (e (7 + 10 * c + (k - 1))) = nI (tv B n s) by rw [c5])
              · rw [if_neg c5]
                exact if_neg (show ¬ nI (e (7 + 10 * c + (k - 1))) = nI (tv B n s) from nI_ne (by have := hw.2.2.2.2.1 (7 + 10 * c + (k - 1)); omega) (by omega) (fun q => c5 q.symm))
            · by_cases c5 : tv B n s = e (7 + 10 * c + (k - 1))
              · rw [if_pos c5]; exact Or.inr ⟨rfl, by omega, c5⟩
              · rw [if_neg c5]; exact Or.inl ⟨rfl, Or.inr c5⟩
        obtain ⟨a, ha, hcase⟩ := both
        refine W2.xe (show f_X1_isCode c (nI k - 1) (σ1 15 0 5) σ1 = some (a, σ1) by rw [x15]; exact ha) ?_
        -- what follows if it is another control
        have next : W2 (if nI k = 10 then (f_X8_failed 4 σ1).bind fun p94 => gzr p94.1 p94.2 else (f_X1_insert c (nI k) (σ1 15 0 5) σ1).bind fun z104 => (f_X8_advance z104).bind fun z108 => if (z108 15 0 4) = 44 then f_X8_readCourse_44 c fx (nI k + 1) z108 else some (1, z108)) (f_X12_readCourse_96 (nI c) (nI k) (fun v2 v3 σ => f_X12_readCourse_32 (nI c) fm v2 v3 σ) τ) (R2 σ0 τ0 (LnP σ0 τ0 B n L S0)) := by
          unfold f_X12_readCourse_96
          by_cases e10 : k = 10
          · refine W2.xt (by rw [e10]; rfl) ?_
            refine W2.yt (by rw [e10]; rfl) ?_
            exact er2 hX1.1 hM.1 (pl2 hT1 hT)
          · have n10 : ¬ nI k = 10 := by rw [i10]; exact nI_ne (by omega) (by decide) e10
            refine W2.xf n10 ?_
            refine W2.yf n10 ?_
            rw [x15, h15]
            refine W2.x (X_insC (n := k) (k := k) (c := tv B n s) (by omega) (Nat.le_refl _) hC1) (fun σ2 i2' => ?_)
            obtain ⟨fc, hC2⟩ := i2'
            refine W2.st (7 + 10 * c + k) (by rw [i7, i10, nI_mul, nI_add, nI_add]) (by omega) (by decide) ?_
            have hir : irr e (7 + 10 * c + k) := irr.c he hc h10 (by omega)
            have hag := hir.ag (v := tv B n s) hw
            have hw2 := hir.wf hw hv
            have hX2 : CX σ0 B n L u (c + 1) (e 1) (upd1 e (7 + 10 * c + k) (tv B n s)) N σ2 := by
              refine hX1.mv (fun k' i' s' a1 a2 a3 a4 a5 a6 => fc k' i' s' (by omega) (by omega)) (fun s' => fc 15 0 s' (by omega) (by omega)) ⟨(fc 3 0 3 (by omega) (by omega)).trans hX1.2.2.2.2.1.1, (fc 3 0 4 (by omega) (by omega)).trans hX1.2.2.2.2.1.2.1, fc 3 0 5 (by omega) (by omega), fc 3 0 6 (by omega) (by omega)⟩ (upd1_ne (by omega)) (upd1_ne (by omega)) (upd1_ne (by omega)) (upd1_ne (by omega)) hag.1 hag.2 (fun _ _ => rfl) (fun c' hc' s' => ⟨fc 8 c' s' (by omega) (by omega), fc 9 c' s' (by omega) (by omega)⟩) (fun a' ha' k' s' b1 b2 => fc k' a' s' (by omega) (by omega))
            have hC2' : XC σ2 c (k + 1) (dC (upd1 e (7 + 10 * c + k) (tv B n s)) c) := by
              refine XC_cg hC2 (fun z hz => ?_)
              unfold isr
              by_cases ez : z = k
              · subst ez
                rw [if_neg (by omega), if_pos rfl]; exact upd1_eq
              · rw [if_pos (by omega)]; exact upd1_ne (by omega)
            have h82 : σ2 8 c 1 = nI (wval (fun q => N (6 * c + q)) 6) := (fc 8 c 1 (by omega) (by omega)).trans h81
            have hM2 := hM.set (j := 7 + 10 * c + k) (v := tv B n s) rfl
            have hT2 : MT B n s (gup τ 31 0 (7 + 10 * c + k) (nI (tv B n s))) := hT.set
            refine hX2.adv (s := tQ B n s) tb.2.1 ((fc 15 0 3 (by omega) (by omega)).trans hT1.1) (fun σ3 f3 hX3 hT3 => ?_)
            refine hM2.adv (s := tQ B n s) tb.2.1 hT2.1 (fun τ3 g3 hM3 hU3 => ?_)
            have hC3 : XC σ3 c (k + 1) (dC (upd1 e (7 + 10 * c + k) (tv B n s)) c) := hC2'.same (f3 8 c 2 (by omega)) (fun i => f3 9 c i (by omega))
            have h83 : σ3 8 c 1 = nI (wval (fun q => N (6 * c + q)) 6) := (f3 8 c 1 (by omega)).trans h82
            have e1 : upd1 e (7 + 10 * c + k) (tv B n s) 1 = e 1 := upd1_ne (by omega)
            have e0 : upd1 e (7 + 10 * c + k) (tv B n s) 0 = c := (upd1_ne (by omega)).trans he
            generalize upd1 e (7 + 10 * c + k) (tv B n s) = e' at *
            rw [← e1] at hX3
            have tb3 := tQ_b (B := B) tb.2.1
            have tp3 := tP_b (B := B) tb.2.1
            rcases sg2 hT3 hU3 (hk _ tb.2.1) (g := 44) (x := 44) rfl (by omega) with ⟨q1, q2, q3⟩ | ⟨q1, q2, q3⟩
            · refine W2.xt q2 ?_
              refine W2.yt q3 ?_
              unfold f_X12_readCourse_147
              refine W2.yf o1n0 ?_
              refine hM3.adv (s := tQ B n (tQ B n s)) tb3.2.1 hU3.1 (fun τ4 g4 hM4 hU4 => ?_)
              rw [nI_1]
              exact ih (k + 1) fx fm (tQ B n (tQ B n s)) σ3 τ4 e' (by omega) (by omega) (by omega) (by omega) tb3.2.1 (by omega) e0 hw2 hX3 hT3.1 hC3 h83 hM4 hU4
            · refine W2.xf q2 ?_
              refine W2.yf q3 ?_
              unfold f_X12_readCourse_147
              refine W2.yt rfl ?_
              obtain ⟨fm, rfl⟩ : ∃ g, fm = g + 1 := ⟨fm - 1, by omega⟩
              show W2 _ (f_X12_readCourse_32 (nI c) (fm + 1) (nI k + 1) 0 τ3) _
              rw [f_X12_readCourse_32]
              refine W2.yt rfl ?_
              rw [nI_1]
              refine W2.st (4 + c) (by rw [i4, nI_add]) (by omega) (by decide) ?_
              have hM5 := hM3.set (j := 4 + c) (v := k + 1) rfl
              have hir5 : irr e' (4 + c) := irr.c e0 hc (by omega) (by omega)
              have hag5 := hir5.ag (v := k + 1) hw2
              have hw5 := hir5.wf (v := k + 1) hw2 (by omega)
              have f50 : upd1 e' (4 + c) (k + 1) 0 = c := (upd1_ne (by omega)).trans e0
              refine W2.ld 0 rfl (by decide) (by decide) (hM5.2.2.2.1 0 (by decide)) ?_
              rw [f50, nI_1]
              refine W2.st 0 rfl (by decide) (by decide) ?_
              have hM6 := hM5.set (j := 0) (v := c + 1) rfl
              have hU6 : MT B n (tQ B n s) (gup (gup τ3 31 0 (4 + c) (nI (k + 1))) 31 0 0 (nI (c + 1))) := hU3.set.set
              have hend := c_end (E := upd1 (upd1 e' (4 + c) (k + 1)) 0 (c + 1)) (k := k + 1) hc hw2 e0 (by omega) hX3 hC3 hW h83 upd1_eq ((upd1_ne (by omega)).trans upd1_eq) (fun q q1 q2 => (upd1_ne q1).trans (upd1_ne q2))
              refine W2.ret (Or.inr ⟨rfl, rfl, tQ B n s, u, _, N, by omega, tb.2.1, hu, ?_, ?_, hM6, hT3, hU6⟩)
              · exact hend.1
              · exact hend.2
        rcases hcase with ⟨a0, aq⟩ | ⟨a1, aq1, aq2⟩
        · refine W2.xt a0 ?_
          by_cases k0 : k = 0
          · refine W2.yt (by rw [k0]; exact nI_le (by omega) (by decide)) ?_
            exact next
          · refine W2.yf (nI_ge (a := 0) (by omega) (by omega)) ?_
            refine W2.ld (7 + 10 * c + (k - 1)) (by rw [i7, i10, nI_mul, nI_add, nI_add, i1, nI_sub (by omega)]; congr 1; omega) (by omega) (by decide) (hM.2.2.2.1 _ (by omega)) ?_
            refine W2.yf ?_ next
            show ¬ τ 28 0 15 = _
            rw [h15]
            have := hw.2.2.2.2.1 (7 + 10 * c + (k - 1))
            exact nI_ne (by omega) (by omega) (by omega)
        · refine W2.xf (by rw [a1]; exact o1n0) ?_
          refine W2.yf (nI_ge (a := 0) (by omega) (by omega)) ?_
          refine W2.ld (7 + 10 * c + (k - 1)) (by rw [i7, i10, nI_mul, nI_add, nI_add, i1, nI_sub (by omega)]; congr 1; omega) (by omega) (by decide) (hM.2.2.2.1 _ (by omega)) ?_
          refine W2.yt ?_ (er2 hX1.1 hM.1 (pl2 hT1 hT))
          show τ 28 0 15 = _
          rw [h15, aq2]
      · rw [if_neg c1, if_neg c1]
        exact W2.ret (Or.inl (F2.mk hX1.1 hM.1 (pl2 hT1 hT)))
    · rw [if_neg c3]
      refine W2.yf (by rw [hT.2.2.1]; exact ck_ne3 c3 (hk s hs)) ?_
      exact W2.ret (Or.inl (F2.mk hX1.1 hM.1 (pl2 hT1 hT)))
/-- the whole line -/
theorem course2 (hk : ∀ s, s ≤ n → tK B n s < 256) (hu : u < 4) (hw : WF d) (hX : CX σ0 B n L u (d 0) (d 1) d N σ) (hT : XT B n s σ) (hM : CM τ0 B n u d N τ) (hU : MT B n s τ) (hs : s ≤ n) : W2 (f_X8_readCourse σ) (f_X12_readCourse τ) (R2 σ0 τ0 (LnP σ0 τ0 B n L (tQ B n s))) := by
  unfold f_X8_readCourse f_X12_readCourse
  have h3 := hw.1
  have h10 := hw.2.1
  have tb := tQ_b (B := B) hs
  refine W2.ld 0 rfl (by decide) (by decide) (hM.2.2.2.1 0 (by decide)) ?_
  have p3 := hX.2.2.2.2.1.1
  by_cases c3 : d 0 = 3
  · refine W2.xf (by rw [p3, i3]; exact nI_nlt (by omega) (by omega)) ?_
    refine W2.yt (by rw [c3]; rfl) ?_
    exact er2 hX.1 hM.1 (pl2 hT hU)
  · refine W2.xt (by rw [p3, i3]; exact nI_lt (by omega) (by decide)) ?_
    refine W2.yf (by rw [i3]; exact nI_ne (by omega) (by decide) c3) ?_
    refine hX.adv (s := tQ B n s) tb.2.1 hT.1 (fun σ1 f1 hX1 hT1 => ?_)
    have tb1 := tQ_b (B := B) tb.2.1
    have tp1 := tP_b (B := B) tb.2.1
    rcases name2 (v := d 0) hX1 hT1 hM hU.1 tb.2.1 hk rfl rfl h3 h10 (by omega) with ⟨a, b, q1, q2, q3⟩ | ⟨q1, q2, q3, τ1, q4, q5, q6⟩
    · refine W2.xe q1 ?_
      refine W2.ye q2 ?_
      exact W2.xt q3.1 (W2.yt q3.2.1 (W2.ret (Or.inl ⟨rfl, rfl, q3.2.2⟩)))
    · refine W2.xe q3 ?_
      refine W2.ye q4 ?_
      refine W2.xf o1n0 ?_
      refine W2.yf o1n0 ?_
      have hc0 : d 0 < 3 := by omega
      have ent : f_X4_enterCourse 0 (σ1 15 0 5) σ1 = some (d 0, gup (gup (gup σ1 8 (d 0) 1 (σ1 15 0 5)) 8 (d 0) 2 0) 3 0 3 (nI (d 0 + 1))) := by
        unfold f_X4_enterCourse
        have e : f_X4_courseAt 0 (σ1 3 0 3) σ1 = some (d 0, σ1) := by
          unfold f_X4_courseAt
          rw [hX1.2.2.2.2.1.1, if_neg (nI_pos (by omega)), if_neg (by rw [i3]; exact nI_ge (by omega) (by decide)), gox_n (by omega) (by decide), bind_some']
          unfold grf
          rw [if_pos (by omega), show 3 * 0 + d 0 = d 0 by omega]
        rw [e, bind_some']
        unfold grf
        dsimp only
        rw [if_pos (by omega), gup_kind (by decide), gup_kind (by decide), hX1.2.2.2.2.1.1, nI_1]
      refine W2.xe ent ?_
      obtain ⟨nw1, nw2⟩ := nmN_w (N := N) (v := d 0) tb.2.1 q1
      have hN : ∀ j, (j < 6 * d 0 ∨ (18 ≤ j ∧ j < 18 + 6 * d 1)) → nmN N B (tP B n (tQ B n s)) (tQ B n (tQ B n s)) (d 0) 6 j = N j := by
        intro j hj
        unfold nmN
        rw [if_neg (by omega)]
      have hX2 : CX σ0 B n L u (d 0 + 1) (d 1) d (nmN N B (tP B n (tQ B n s)) (tQ B n (tQ B n s)) (d 0) 6) (gup (gup (gup σ1 8 (d 0) 1 (σ1 15 0 5)) 8 (d 0) 2 0) 3 0 3 (nI (d 0 + 1))) := by
        refine hX1.mv (((Fx.rf.up (by omega)).up (by omega)).up (by omega)) (fun s' => by rw [gup_kind (by decide), gup_kind (by decide), gup_kind (by decide)]) ⟨gup_same, ?_, ?_, ?_⟩ rfl rfl rfl rfl (fun _ _ => AgC.rf) (fun _ _ => AgP.rf) hN (fun c hc s' => ?_) (fun a ha k s' k1 k2 => ?_)
        · rw [gup_slot (by decide), gup_kind (by decide), gup_kind (by decide)]; exact hX1.2.2.2.2.1.2.1
        · rw [gup_slot (by decide), gup_kind (by decide), gup_kind (by decide)]
        · rw [gup_slot (by decide), gup_kind (by decide), gup_kind (by decide)]
        · refine ⟨?_, ?_⟩
          · rw [gup_kind (by decide), gup_num (by omega), gup_num (by omega)]
          · rw [gup_kind (by decide), gup_kind (by decide), gup_kind (by decide)]
        · rw [gup_kind (by omega), gup_kind (by omega), gup_kind (by omega)]
      refine c44 (S0 := tQ B n s) hk hu hc0 nw1 11 0 gFuel gFuel (tQ B n (tQ B n s)) _ τ1 d (by omega) (by omega) (Nat.lt_trans (by omega) gFuel_ge) (Nat.lt_trans (by omega) gFuel_ge) tb1.2.1 (by omega) rfl hw hX2 ?_ ⟨?_, fun i hi => absurd hi (Nat.not_lt_zero _)⟩ ?_ q5 q6
      · dsimp only; rw [gup_kind (by decide), gup_kind (by decide), gup_kind (by decide)]; exact hT1.1
      · dsimp only; rw [gup_kind (by decide), gup_same]; rfl
      · dsimp only; rw [gup_kind (by decide), gup_slot (by decide), gup_same, q2, nw2]
end TC
