/-! a line of a runner, both sides -/
section TN
variable {B N N' d e : Nat → Nat} {n s L u nc nr v S0 r k : Nat} {σ τ σ' τ' σ0 τ0 : gSt}
def RI (e : Nat → Nat) (r k : Nat) : Prop := e 1 = r ∧ WF e ∧ e (37 + r) < e 0 ∧ e (47 + r) < e (57 + r) ∧ e (67 + r) = k ∧ (∀ i, i < k → e (47 + r) ≤ e (237 + 16 * r + i) ∧ e (237 + 16 * r + i) ≤ e (57 + r)) ∧ ∀ i, i + 1 < k → e (237 + 16 * r + i) ≤ e (237 + 16 * r + (i + 1))
def RX (e N : Nat → Nat) (r k : Nat) (σ : gSt) : Prop := σ 10 r 5 = nI (e (37 + r)) ∧ σ 10 r 6 = nI (e (47 + r)) ∧ σ 10 r 7 = nI (e (57 + r)) ∧ XP σ r k (dP e r) (dT e r) ∧ σ 10 r 4 = nI (wval (fun q => N (6 * (3 + r) + q)) 6)
def prv (e : Nat → Nat) (r k : Nat) : Nat := if k = 0 then e (47 + r) else e (237 + 16 * r + (k - 1))
theorem RX.ft (h : RX e N r k σ) (hf : Ft σ σ') : RX e N r k σ' := ⟨(hf 10 r 5 (by omega)).trans h.1, (hf 10 r 6 (by omega)).trans h.2.1, (hf 10 r 7 (by omega)).trans h.2.2.1, h.2.2.2.1.same (hf 10 r 8 (by omega)) (fun z => hf 11 r z (by omega)) (fun z => hf 12 r z (by omega)), (hf 10 r 4 (by omega)).trans h.2.2.2.2⟩
theorem r_end {E : Nat → Nat} (hr : r < 10) (hk : k ≤ 16) (hI : RI e r k) (hX : CX σ0 B n L u (e 0) (r + 1) e N σ) (hR : RX e N r k σ) (hW : isW (fun q => N (6 * (3 + r) + q))) (E1 : E 1 = r + 1) (Eq' : ∀ q, q ≠ 1 → E q = e q) : WF E ∧ CX σ0 B n L u (E 0) (E 1) E N σ := by
  obtain ⟨i1', ⟨w0, w1, w2, w3, w4, w5, w6, w7⟩, i3', i4', i5', i6', i7'⟩ := hI
  have E0 : E 0 = e 0 := Eq' 0 (by omega)
  have E2 : E 2 = e 2 := Eq' 2 (by omega)
  have E3 : E 3 = e 3 := Eq' 3 (by omega)
  constructor
  · refine ⟨by omega, by omega, by omega, by omega, fun j => ?_, fun q => by omega, fun c' hc' => ?_, fun a' ha' => ?_⟩
    · by_cases j0 : j = 1
      · subst j0; omega
      · rw [Eq' j j0]; exact w4 j
    · rw [Eq' (4 + c') (by omega)]; exact w6 c' (by omega)
    · rw [Eq' (37 + a') (by omega), Eq' (47 + a') (by omega), Eq' (57 + a') (by omega), Eq' (67 + a') (by omega), E0]
      have te : ∀ k', E (237 + 16 * a' + k') = e (237 + 16 * a' + k') := fun k' => Eq' _ (by omega)
      by_cases ea : a' = r
      · subst ea
        refine ⟨i3', i4', by omega, fun k' hk' => ?_, fun k' hk' => ?_⟩
        · rw [te]; exact i6' k' (by omega)
        · rw [te, te]; exact i7' k' (by omega)
      · obtain ⟨r1, r2, r3, r4, r5⟩ := w7 a' (by omega)
        refine ⟨r1, r2, r3, fun k' hk' => ?_, fun k' hk' => ?_⟩
        · rw [te]; exact r4 k' hk'
        · rw [te, te]; exact r5 k' hk'
  · refine ⟨hX.1, hX.2.1, hX.2.2.1, hX.2.2.2.1, ?_⟩
    obtain ⟨⟨p1, p2, p3, p4⟩, p5, p6⟩ := hX.2.2.2.2
    refine ⟨⟨by rw [E0]; exact p1, by rw [E1]; exact p2, by rw [E2]; exact p3, by rw [E3]; exact p4⟩, fun c' hc' => ?_, fun a' ha' => ?_⟩
    · obtain ⟨r1, r2, r3⟩ := p5 c' (by omega)
      refine ⟨?_, r2, r3⟩
      rw [Eq' (4 + c') (by omega)]
      exact XC_cg r1 (fun z hz => Eq' _ (by omega))
    · rw [Eq' (37 + a') (by omega), Eq' (47 + a') (by omega), Eq' (57 + a') (by omega), Eq' (67 + a') (by omega)]
      by_cases ea : a' = r
      · subst ea
        obtain ⟨x1, x2, x3, x4, x5⟩ := hR
        rw [i5']
        exact ⟨⟨x1, x2, x3, XP_cg x4 (fun z hz => ⟨Eq' _ (by omega), Eq' _ (by omega)⟩)⟩, hW, x5⟩
      · obtain ⟨⟨r1, r2, r3, r4⟩, r5, r6⟩ := p6 a' (by omega)
        exact ⟨⟨r1, r2, r3, XP_cg r4 (fun z hz => ⟨Eq' _ (by omega), Eq' _ (by omega)⟩)⟩, r5, r6⟩
theorem prv_b (hI : RI e r k) : e (47 + r) ≤ prv e r k ∧ prv e r k < 10000 := by
  obtain ⟨i1', i2', i3', i4', i5', i6', i7'⟩ := hI
  unfold prv
  split
  · exact ⟨Nat.le_refl _, i2'.2.2.2.2.1 _⟩
  · exact ⟨(i6' (k - 1) (by omega)).1, i2'.2.2.2.2.1 _⟩
/-- the reference reads a punch -/
theorem M_punch (hM : CM τ0 B n u e N τ) (hT : MT B n s τ) (hs : s ≤ n) (hk : tK B n s < 256) (hr : r < 10) (hk16 : k ≤ 16) (hI : RI e r k) : f_X12_readPunch (nI r) τ = if tK B n s = 3 then if 1 ≤ tv B n s ∧ tv B n s ≤ 99 then if k = 16 then some (0, er 4 τ) else f_X12_readPunch_90 (nI r) (nI (16 * r + k)) (nI (prv e r k)) τ else some (0, er 2 τ) else some (0, er 1 τ) := by
  unfold f_X12_readPunch
  have l67 : gld τ 31 0 397 (67 + nI r) = some (nI k) := by
    rw [show (67 : Int32) = nI 67 from rfl, nI_add, gld_n (by omega) (by decide), hM.2.2.2.1 _ (by omega), hI.2.2.2.2.1]
  rw [l67, bind_some']
  by_cases c3 : tK B n s = 3
  · have hv : tv B n s < 10000 := (tok_D hs c3).2
    have h15 : τ 28 0 15 = nI (tv B n s) := hT.2.2.2 c3
    rw [if_pos c3, if_pos (show τ 28 0 14 = 3 by rw [hT.2.2.1, c3]; rfl), h15]
    have := M_in (τ := τ) (v := tv B n s) (lo := 1) (hi := 99) (by omega) (by decide) (by decide)
    change f_X12_in (nI (tv B n s)) 1 99 τ = _ at this
    rw [this, bind_some']
    by_cases c1 : 1 ≤ tv B n s ∧ tv B n s ≤ 99
    · rw [if_pos c1, if_pos c1]
      refine (if_neg o1n0).trans ?_
      by_cases c16 : k = 16
      · rw [if_pos c16, if_pos (show nI k = 16 by rw [c16]; rfl)]; rfl
      · rw [if_neg c16, if_neg (show ¬ nI k = 16 by rw [i16]; exact nI_ne (by omega) (by decide) c16)]
        have em : 16 * nI r + nI k = nI (16 * r + k) := by rw [i16, nI_mul, nI_add]
        by_cases k0 : k = 0
        · rw [if_pos (show nI k = 0 by rw [k0]; rfl), em]
          dsimp only
          rw [show (47 : Int32) = nI 47 from rfl, nI_add, gld_n (by omega) (by decide), hM.2.2.2.1 _ (by omega), bind_some']
          unfold prv
          rw [if_pos k0]
        · rw [if_neg (show ¬ nI k = 0 by rw [i0]; exact nI_ne (by omega) (by decide) k0), em]
          dsimp only
          rw [show (237 : Int32) = nI 237 from rfl, nI_add, show (1 : Int32) = nI 1 from rfl, nI_sub (by omega), gld_n (by omega) (by decide), hM.2.2.2.1 _ (by omega), bind_some']
          unfold prv
          rw [if_neg k0, show 237 + (16 * r + k) - 1 = 237 + 16 * r + (k - 1) by omega]
    · rw [if_neg c1, if_neg c1]
      exact if_pos rfl
  · rw [if_neg c3, if_neg (by rw [hT.2.2.1]; exact ck_ne3 c3 hk)]; rfl
theorem p7 (hk : ∀ s, s ≤ n → tK B n s < 256) (hu : u < 4) (hr : r < 10) (hW : isW (fun q => N (6 * (3 + r) + q))) : ∀ (m k fx fm s : Nat) (σ τ : gSt) (e : Nat → Nat) (pv : Int32), k + m = 17 → k ≤ 16 → m < fx → m + 1 < fm → s ≤ n → S0 ≤ s → RI e r k → CX σ0 B n L u (e 0) (r + 1) e N σ → RX e N r k σ → σ 15 0 3 = nI s → pv = nI (prv e r k) → CM τ0 B n u e N τ → τ 28 0 13 = nI s → W2 (f_X8_readPunches_7 r fx pv (nI k) σ) (f_X12_readRunner_154 (nI r) fm 1 τ) (R2 σ0 τ0 (LnP σ0 τ0 B n L S0)) := by
  intro m
  induction m with
  | zero =>
    intro k fx fm s σ τ e pv h1 hk16
    exact absurd h1 (by omega)
  | succ m ih =>
    intro k fx fm s σ τ e pv h1 hk16 h2 h3 hs hS hI hX hR hp hpv hM hq
    obtain ⟨fx, rfl⟩ : ∃ g, fx = g + 1 := ⟨fx - 1, by omega⟩
    obtain ⟨fm, rfl⟩ : ∃ g, fm = g + 1 := ⟨fm - 1, by omega⟩
    have tb := tQ_b (B := B) hs
    have tpb := tP_b (B := B) hs
    have pb := prv_b hI
    rw [f_X8_readPunches_7, f_X12_readRunner_154]
    refine W2.xf (by rw [i16]; exact nI_nlt (by omega) (by decide)) ?_
    refine hX.adv hs hp (fun σ1 f1 hX1 hT1 => ?_)
    refine W2.yf o1n0 ?_
    refine hM.adv hs hq (fun τ1 g1 hM1 hU1 => ?_)
    have hR1 := hR.ft f1
    have mp := M_punch hM1 hU1 hs (hk s hs) hr hk16 hI
    refine W2.xe (X_isWhole (lo := 1) (hi := 99) hT1 hs (hk s hs) (by decide) (by decide)) ?_
    by_cases c3 : tK B n s = 3
    · have hv : tv B n s < 10000 := (tok_D hs c3).2
      have x15 : σ1 15 0 5 = nI (tv B n s) := hT1.2.2.2.2 c3
      rw [if_pos c3]
      rw [if_pos c3] at mp
      by_cases c1 : 1 ≤ tv B n s ∧ tv B n s ≤ 99
      · rw [if_pos c1]
        rw [if_pos c1] at mp
        refine W2.xf o1n0 ?_
        by_cases c16 : k = 16
        · rw [if_pos c16] at mp
          refine W2.xt (by rw [c16]; rfl) ?_
          refine W2.ye mp ?_
          exact W2.ret (Or.inl (F2.mk hX1.1 hM1.1 (pl2 hT1 hU1)))
        · rw [if_neg c16] at mp
          refine W2.xf (by rw [i16]; exact nI_ne (by omega) (by decide) c16) ?_
          rcases take2 (j := 77 + (16 * r + k)) (lo := 1) (hi := 99) hX1 hT1 hM1 hU1 hs (hk s hs) (by decide) (by decide) (by omega) with ⟨a, b, z1, z2, z3⟩ | ⟨z1, z2, z3, z4, z5, z6, τ2, z7, hM2, hU2⟩
          · rw [X_isWhole (lo := 1) (hi := 99) hT1 hs (hk s hs) (by decide) (by decide), if_pos c3, if_pos c1] at z1
            injection z1 with z1
            have := z3.1
            rw [← z1] at this
            exact absurd this o1n0
          · have hir : irr e (77 + (16 * r + k)) := irr.r hI.2.1.1 hI.1 hr (by omega)
            have hag := hir.ag (v := tv B n s) hI.2.1
            have hw2 := hir.wf hI.2.1 hv
            refine hX1.adv (s := tQ B n s) tb.2.1 hT1.1 (fun σ2 f2 hX2 hT2 => ?_)
            have hR2 := hR1.ft f2
            have hX2' : CX σ0 B n L u (e 0) (r + 1) (upd1 e (77 + (16 * r + k)) (tv B n s)) N σ2 := hX2.mv Fx.rf (fun _ => rfl) ⟨hX2.2.2.2.2.1.1, hX2.2.2.2.2.1.2.1, rfl, rfl⟩ (upd1_ne (by omega)) (upd1_ne (by omega)) (upd1_ne (by omega)) (upd1_ne (by omega)) hag.1 hag.2 (fun _ _ => rfl) (fun _ _ _ => ⟨rfl, rfl⟩) (fun _ _ _ _ _ _ => rfl)
            have l57 : gld τ2 31 0 397 (57 + nI r) = some (nI (e (57 + r))) := by
              rw [show (57 : Int32) = nI 57 from rfl, nI_add, gld_n (by omega) (by decide), hM2.2.2.2.1 _ (by omega), upd1_ne (by omega)]
            have e57 := hI.2.1.2.2.2.2.1 (57 + r)
            have tk := take2 (j := 237 + (16 * r + k)) (lo := prv e r k) (hi := e (57 + r)) hX2' hT2 hM2 hU2 tb.2.1 (hk _ tb.2.1) (by omega) (by omega) (by omega)
            have hiw : f_X8_isWhole pv (σ2 10 r 7) σ2 = f_X8_isWhole (nI (prv e r k)) (nI (e (57 + r))) σ2 := by rw [hpv, hR2.2.2.1]
            have m90 : ∀ b, f_X12_takes (nI (237 + (16 * r + k))) (nI (prv e r k)) (nI (e (57 + r))) τ2 = some b → f_X12_readPunch (nI r) τ1 = if b.1 = 0 then some (0, b.2) else (gld b.2 31 0 397 (67 + nI r)).bind fun a140 => (gst b.2 31 0 397 (67 + nI r) (a140 + 1)).bind fun z143 => some (1, z143) := by
              intro b hb
              rw [mp]
              unfold f_X12_readPunch_90
              have z7' : f_X12_takes (77 + nI (16 * r + k)) 1 99 τ1 = some (1, τ2) := by
                rw [show (77 : Int32) + nI (16 * r + k) = nI (77 + (16 * r + k)) from nI_add 77 (16 * r + k)]
                exact z7
              rw [z7', bind_some']
              refine (if_neg o1n0).trans ?_
              dsimp only
              rw [l57, bind_some', show (237 : Int32) + nI (16 * r + k) = nI (237 + (16 * r + k)) from nI_add 237 (16 * r + k), hb, bind_some']
            rcases tk with ⟨a, b, y1, y2, y3⟩ | ⟨y1, y2, y3, y4, y5, y6, τ3, y7, hM3, hU3⟩
            · refine W2.xe (hiw.trans y1) ?_
              have := m90 b y2
              rw [if_pos y3.2.1] at this
              refine W2.ye this ?_
              exact W2.xt y3.1 (W2.yt rfl (W2.ret (Or.inl ⟨rfl, rfl, y3.2.2⟩)))
            · refine W2.xe (hiw.trans y6) ?_
              refine W2.xf o1n0 ?_
              have m9 := m90 _ y7
              have hI67 : upd1 (upd1 e (77 + (16 * r + k)) (tv B n s)) (237 + (16 * r + k)) (tv B n (tQ B n s)) (67 + r) = k := by
                rw [upd1_ne (by omega), upd1_ne (by omega)]; exact hI.2.2.2.2.1
              have m9' : f_X12_readPunch (nI r) τ1 = some (1, gup τ3 31 0 (67 + r) (nI (k + 1))) := by
                rw [m9]
                refine (if_neg o1n0).trans ?_
                dsimp only
                rw [show (67 : Int32) + nI r = nI (67 + r) from nI_add 67 r, gld_n (by omega) (by decide), hM3.2.2.2.1 _ (by omega), hI67, bind_some', gst_n (by omega) (by decide), bind_some', nI_1]
              have hir3 : irr (upd1 e (77 + (16 * r + k)) (tv B n s)) (237 + (16 * r + k)) := irr.r (by rw [upd1_ne (by omega)]; exact hI.2.1.1) ((upd1_ne (by omega)).trans hI.1) hr (by omega)
              have hw3 := hir3.wf hw2 y4
              have hM4 := hM3.set (j := 67 + r) (v := k + 1) rfl
              have hU4 : MT B n (tQ B n (tQ B n s)) (gup τ3 31 0 (67 + r) (nI (k + 1))) := hU3.set
              have hir4 : irr (upd1 (upd1 e (77 + (16 * r + k)) (tv B n s)) (237 + (16 * r + k)) (tv B n (tQ B n s))) (67 + r) := irr.r (by rw [upd1_ne (by omega), upd1_ne (by omega)]; exact hI.2.1.1) ((upd1_ne (by omega)).trans ((upd1_ne (by omega)).trans hI.1)) hr (by omega)
              have hw4 := hir4.wf (v := k + 1) hw3 (by omega)
              obtain ⟨E, hE⟩ : ∃ E, E = upd1 (upd1 (upd1 e (77 + (16 * r + k)) (tv B n s)) (237 + (16 * r + k)) (tv B n (tQ B n s))) (67 + r) (k + 1) := ⟨_, rfl⟩
              rw [← hE] at hM4 hw4
              have Eo : ∀ q, q ≠ 77 + 16 * r + k → q ≠ 237 + 16 * r + k → q ≠ 67 + r → E q = e q := fun q q1 q2 q3 => by rw [hE, upd1_ne q3, upd1_ne (by omega), upd1_ne (by omega)]
              have Ep : E (77 + 16 * r + k) = tv B n s := by rw [hE, upd1_ne (by omega), upd1_ne (by omega), show 77 + 16 * r + k = 77 + (16 * r + k) by omega, upd1_eq]
              have Et : E (237 + 16 * r + k) = tv B n (tQ B n s) := by rw [hE, upd1_ne (by omega), show 237 + 16 * r + k = 237 + (16 * r + k) by omega, upd1_eq]
              have E67 : E (67 + r) = k + 1 := by rw [hE, upd1_eq]
              obtain ⟨i1', i2', i3', i4', i5', i6', i7'⟩ := hI
              have E37 : E (37 + r) = e (37 + r) := Eo _ (by omega) (by omega) (by omega)
              have E47 : E (47 + r) = e (47 + r) := Eo _ (by omega) (by omega) (by omega)
              have E57 : E (57 + r) = e (57 + r) := Eo _ (by omega) (by omega) (by omega)
              have Ez : ∀ i, i < k → E (237 + 16 * r + i) = e (237 + 16 * r + i) := fun i hi => Eo _ (by omega) (by omega) (by omega)
              have Ey : ∀ i, i < k → E (77 + 16 * r + i) = e (77 + 16 * r + i) := fun i hi => Eo _ (by omega) (by omega) (by omega)
              have E0 : E 0 = e 0 := Eo _ (by omega) (by omega) (by omega)
              have E1 : E 1 = e 1 := Eo _ (by omega) (by omega) (by omega)
              have hI4 : RI E r (k + 1) := by
                refine ⟨E1.trans i1', hw4, by omega, by omega, E67, fun i hi => ?_, fun i hi => ?_⟩
                · rw [E47, E57]
                  by_cases ei : i = k
                  · subst ei; rw [Et]; omega
                  · rw [Ez i (by omega)]; exact i6' i (by omega)
                · rw [Ez i (by omega)]
                  by_cases ei : i + 1 = k
                  · subst ei
                    rw [Et]
                    unfold prv at y2
                    rw [if_neg (by omega)] at y2
                    exact y2
                  · rw [Ez (i + 1) (by omega)]; exact i7' i (by omega)
              refine W2.x (show Wp (f_X9_insert r (nI k) (σ1 15 0 5) (σ2 15 0 5) σ2) _ by rw [x15, y5]; exact X_insP (p := k) (k := k) (c := tv B n s) (t := tv B n (tQ B n s)) (by omega) (Nat.le_refl _) hR2.2.2.2.1) (fun σ3 i3 => ?_)
              obtain ⟨fr, fcell, _, hXP⟩ := i3
              have hX3 : CX σ0 B n L u (E 0) (r + 1) E N σ3 := by
                rw [E0]
                refine hX2.mv (fun k' i' s' a1 a2 a3 a4 a5 a6 => fr k' i' s' a1 a2 (by omega)) (fun s' => fr 15 0 s' (by omega) (by omega) (by omega)) ⟨(fr 3 0 3 (by omega) (by omega) (by omega)).trans hX2.2.2.2.2.1.1, (fr 3 0 4 (by omega) (by omega) (by omega)).trans hX2.2.2.2.2.1.2.1, fr 3 0 5 (by omega) (by omega) (by omega), fr 3 0 6 (by omega) (by omega) (by omega)⟩ E0 E1 (Eo _ (by omega) (by omega) (by omega)) (Eo _ (by omega) (by omega) (by omega)) (fun c' hc' => ?_) (fun a' ha' => ?_) (fun _ _ => rfl) (fun c' hc' s' => ⟨fr 8 c' s' (by omega) (by omega) (by omega), fr 9 c' s' (by omega) (by omega) (by omega)⟩) (fun a' ha' k' s' b1 b2 => fr k' a' s' (by omega) (by omega) (by omega))
                · have := i2'.2.2.2.2.2.2.1 c' hc'
                  have := i2'.1
                  exact ⟨Eo _ (by omega) (by omega) (by omega), fun i hi => Eo _ (by omega) (by omega) (by omega)⟩
                · have := (i2'.2.2.2.2.2.2.2 a' ha').2.2.1
                  exact ⟨Eo _ (by omega) (by omega) (by omega), Eo _ (by omega) (by omega) (by omega), Eo _ (by omega) (by omega) (by omega), Eo _ (by omega) (by omega) (by omega), fun i hi => ⟨Eo _ (by omega) (by omega) (by omega), Eo _ (by omega) (by omega) (by omega)⟩⟩
              have hR3 : RX E N r (k + 1) σ3 := by
                refine ⟨by rw [fcell 5 (by omega), E37]; exact hR2.1, by rw [fcell 6 (by omega), E47]; exact hR2.2.1, by rw [fcell 7 (by omega), E57]; exact hR2.2.2.1, XP_cg hXP (fun z hz => ?_), by rw [fcell 4 (by omega)]; exact hR2.2.2.2.2⟩
                unfold isr
                by_cases ez : z = k
                · subst ez
                  rw [if_neg (by omega), if_pos rfl, if_neg (by omega), if_pos rfl]
                  exact ⟨Ep, Et⟩
                · rw [if_pos (by omega), if_pos (by omega)]
                  exact ⟨Ey z (by omega), Ez z (by omega)⟩
              have tb2 := tQ_b (B := B) tb.2.1
              have tp2 := tP_b (B := B) tb.2.1
              have tb3 := tQ_b (B := B) tb2.2.1
              have tp3 := tP_b (B := B) tb2.2.1
              refine hX3.adv (s := tQ B n (tQ B n s)) tb2.2.1 ((fr 15 0 3 (by omega) (by omega) (by omega)).trans hT2.1) (fun σ4 f4 hX4 hT4 => ?_)
              have hR4 := hR3.ft f4
              refine W2.ye m9' ?_
              refine W2.yf o1n0 ?_
              rcases sg2 hT4 hU4 (hk _ tb2.2.1) (g := 44) (x := 44) rfl (by omega) with ⟨q1, q2, q3⟩ | ⟨q1, q2, q3⟩
              · refine W2.xt q2 ?_
                refine W2.yt q3 ?_
                rw [nI_1]
                refine ih (k + 1) fx fm (tQ B n (tQ B n (tQ B n s))) σ4 _ E _ (by omega) (by omega) (by omega) (by omega) tb3.2.1 (by omega) hI4 hX4 hR4 hT4.1 ?_ hM4 hU4.1
                show σ2 15 0 5 = _
                rw [y5]
                unfold prv
                rw [if_neg (by omega), Nat.add_sub_cancel, Et]
              · refine W2.xf q2 ?_
                refine W2.yf q3 ?_
                obtain ⟨fm, rfl⟩ : ∃ g, fm = g + 1 := ⟨fm - 1, by omega⟩
                rw [f_X12_readRunner_154]
                refine W2.yt rfl ?_
                refine W2.ld 1 rfl (by decide) (by decide) (hM4.2.2.2.1 1 (by decide)) ?_
                refine W2.st 1 rfl (by decide) (by decide) ?_
                have hM5 := hM4.set (j := 1) (v := r + 1) (x := nI (E 1) + 1) (by rw [E1, i1', nI_1])
                have hend := r_end (E := upd1 E 1 (r + 1)) hr (by omega) hI4 hX4 hR4 hW upd1_eq (fun q hq => upd1_ne hq)
                exact W2.ret (Or.inr ⟨rfl, rfl, tQ B n (tQ B n s), u, _, N, by omega, tb2.2.1, hu, hend.1, hend.2, hM5, hT4, hU4.set⟩)
      · rw [if_neg c1]
        rw [if_neg c1] at mp
        refine W2.ye mp ?_
        exact W2.ret (Or.inl (F2.mk hX1.1 hM1.1 (pl2 hT1 hU1)))
    · rw [if_neg c3]
      rw [if_neg c3] at mp
      refine W2.ye mp ?_
      exact W2.ret (Or.inl (F2.mk hX1.1 hM1.1 (pl2 hT1 hU1)))
end TN
