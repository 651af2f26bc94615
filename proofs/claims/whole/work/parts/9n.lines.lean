/-! the widths; the lines of a text -/
section TL
variable {B N N' d e : Nat → Nat} {n s L u nc nr v S0 r k : Nat} {σ τ σ' τ' σ0 τ0 : gSt}
theorem bit2 : ∀ u : Fin 4, ∀ w : Fin 2, (nI u.val &&& (1 <<< (nI w.val &&& 31)) = 0 ∧ ¬ ((nI (4 * u.val) >>> (nI (2 + w.val) &&& 31)) &&& 1) = 1 ∧ ∃ u' : Fin 4, nI u.val ||| (1 <<< (nI w.val &&& 31)) = nI u'.val ∧ nI (4 * u.val) ||| (1 <<< (nI (2 + w.val) &&& 31)) = nI (4 * u'.val)) ∨ (¬ nI u.val &&& (1 <<< (nI w.val &&& 31)) = 0 ∧ ((nI (4 * u.val) >>> (nI (2 + w.val) &&& 31)) &&& 1) = 1) := by decide
theorem width2 {w : Nat} {x y : Int32} (hx : x = nI w) (hy : y = nI (2 + w)) (hwd : w < 2) (hk : ∀ s, s ≤ n → tK B n s < 256) (hu : u < 4) (hw : WF d) (hX : CX σ0 B n L u (d 0) (d 1) d N σ) (hT : XT B n s σ) (hM : CM τ0 B n u d N τ) (hU : MT B n s τ) (hs : s ≤ n) : W2 (f_X8_readWidth x σ) (f_X12_readOnce y τ) (R2 σ0 τ0 (LnP σ0 τ0 B n L (tQ B n s))) := by
  subst hx hy
  unfold f_X8_readWidth f_X12_readOnce
  have tb := tQ_b (B := B) hs
  rw [hX.2.2.1, hM.2.2.1]
  rcases bit2 ⟨u, hu⟩ ⟨w, hwd⟩ with ⟨b1, b2, ⟨u', hu'⟩, b3, b4⟩ | ⟨b1, b2⟩
  · dsimp only at b1 b2 b3 b4
    refine W2.xt b1 ?_
    refine W2.yf b2 ?_
    rw [b3, b4]
    have hX1 : CX σ0 B n L u' (d 0) (d 1) d N (gup σ 15 0 6 (nI u')) := by
      refine ⟨hX.1.up (by omega), ⟨hX.2.1.1, hX.2.1.2.1, by rw [gup_kind (by decide)]; exact hX.2.1.2.2.1, by rw [gup_slot (by decide)]; exact hX.2.1.2.2.2.1, fun j hj => by rw [gup_kind (by decide)]; exact hX.2.1.2.2.2.2 j hj⟩, gup_same, by rw [gup_slot (by decide)]; exact hX.2.2.2.1, ?_⟩
      refine hX.2.2.2.2.cg ?_ rfl rfl (fun _ _ => AgC.rf) (fun _ _ => AgP.rf) (fun _ _ => rfl) (fun c hc s' => ⟨by rw [gup_kind (by decide)], by rw [gup_kind (by decide)]⟩) (fun a ha k s' k1 k2 => by rw [gup_kind (by omega)])
      rw [gup_kind (by decide)]; exact hX.2.2.2.2.1
    have hM1 : CM τ0 B n u' d N (gup τ 28 0 16 (nI (4 * u'))) := by
      refine ⟨hM.1.up (by omega), ⟨hM.2.1.1, by rw [gup_slot (by decide)]; exact hM.2.1.2.1, fun z hz => by rw [gup_kind (by decide)]; exact hM.2.1.2.2 z hz⟩, gup_same, fun z hz => by rw [gup_kind (by decide)]; exact hM.2.2.2.1 z hz, fun z hz => by rw [gup_kind (by decide)]; exact hM.2.2.2.2 z hz⟩
    refine hX1.adv (s := tQ B n s) tb.2.1 (by rw [gup_slot (by decide)]; exact hT.1) (fun σ2 f2 hX2 hT2 => ?_)
    refine hM1.adv (s := tQ B n s) tb.2.1 (by rw [gup_slot (by decide)]; exact hU.1) (fun τ2 g2 hM2 hU2 => ?_)
    rcases take2 (j := 2 + w) (lo := 0) (hi := 600) hX2 hT2 hM2 hU2 tb.2.1 (hk _ tb.2.1) (by decide) (by decide) (by omega) with ⟨a, b, z1, z2, z3⟩ | ⟨z1, z2, z3, z4, z5, z6, τ3, z7, hM3, hU3⟩
    · refine W2.xe z1 ?_
      refine W2.ye z2 ?_
      refine W2.xt z3.1 ?_
      rw [z3.2.1]
      exact W2.ret (Or.inl ⟨rfl, rfl, z3.2.2⟩)
    · refine W2.xe z6 ?_
      refine W2.ye z7 ?_
      refine W2.xf o1n0 ?_
      dsimp only
      rw [z5]
      have hwid : f_X4_widen 0 (nI w) (nI (tv B n (tQ B n s))) σ2 = some (gup σ2 3 0 (5 + w) (nI (tv B n (tQ B n s)))) := by
        unfold f_X4_widen
        by_cases w0 : w = 0
        · subst w0; exact if_pos rfl
        · obtain rfl : w = 1 := by omega
          exact if_neg o1n0
      refine W2.xe hwid ?_
      obtain ⟨w0, w1, w2, w3, w4, w5, w6, w7⟩ := hw
      have hag : (∀ c, c < d 0 → AgC d (upd1 d (2 + w) (tv B n (tQ B n s))) c) ∧ ∀ a, a < d 1 → AgP d (upd1 d (2 + w) (tv B n (tQ B n s))) a := ⟨fun c hc => ⟨upd1_ne (by omega), fun i hi => upd1_ne (by omega)⟩, fun a ha => ⟨upd1_ne (by omega), upd1_ne (by omega), upd1_ne (by omega), upd1_ne (by omega), fun k hk => ⟨upd1_ne (by omega), upd1_ne (by omega)⟩⟩⟩
      have e0 : upd1 d (2 + w) (tv B n (tQ B n s)) 0 = d 0 := upd1_ne (by omega)
      have e1 : upd1 d (2 + w) (tv B n (tQ B n s)) 1 = d 1 := upd1_ne (by omega)
      have hX3 : CX σ0 B n L u' (d 0) (d 1) (upd1 d (2 + w) (tv B n (tQ B n s))) N (gup σ2 3 0 (5 + w) (nI (tv B n (tQ B n s)))) := by
        refine ⟨hX2.1.up (by omega), ⟨hX2.2.1.1, hX2.2.1.2.1, by rw [gup_kind (by decide)]; exact hX2.2.1.2.2.1, by rw [gup_kind (by decide)]; exact hX2.2.1.2.2.2.1, fun j hj => by rw [gup_kind (by decide)]; exact hX2.2.1.2.2.2.2 j hj⟩, by rw [gup_kind (by decide)]; exact hX2.2.2.1, by rw [gup_kind (by decide)]; exact hX2.2.2.2.1, ?_⟩
        obtain ⟨p1, p2, p3, p4⟩ := hX2.2.2.2.2.1
        refine hX2.2.2.2.2.cg ⟨?_, ?_, ?_, ?_⟩ e0 e1 hag.1 hag.2 (fun _ _ => rfl) (fun c hc s' => ⟨by rw [gup_kind (by decide)], by rw [gup_kind (by decide)]⟩) (fun a ha k s' k1 k2 => by rw [gup_kind (by omega)])
        · rw [gup_slot (by omega)]; exact p1
        · rw [gup_slot (by omega)]; exact p2
        · rw [gup_get]
          unfold upd1
          by_cases w0 : w = 0
          · rw [if_pos (by omega), if_pos (by omega)]
          · rw [if_neg (by omega), if_neg (by omega)]; exact p3
        · rw [gup_get]
          unfold upd1
          by_cases w0 : w = 1
          · rw [if_pos (by omega), if_pos (by omega)]
          · rw [if_neg (by omega), if_neg (by omega)]; exact p4
      have tb1 := tQ_b (B := B) tb.2.1
      have tp1 := tP_b (B := B) tb.2.1
      refine hX3.adv (s := tQ B n (tQ B n s)) tb1.2.1 (by rw [gup_kind (by decide)]; exact hT2.1) (fun σ4 f4 hX4 hT4 => ?_)
      refine W2.ret (Or.inr ⟨rfl, rfl, tQ B n (tQ B n s), u', _, N, by omega, tb1.2.1, hu', ?_, by rw [e0, e1]; exact hX4, hM3, hT4, hU3⟩)
      refine ⟨by omega, by omega, ?_, ?_, fun j => ?_, by rw [e0, e1]; exact w5, fun c hc => ?_, fun a ha => ?_⟩
      · unfold upd1; split <;> omega
      · unfold upd1; split <;> omega
      · unfold upd1
        split
        · exact z4
        · exact w4 j
      · rw [e0] at hc
        rw [(hag.1 c hc).1]; exact w6 c hc
      · rw [e1] at ha
        obtain ⟨p1, p2, p3, p4, p5⟩ := hag.2 a ha
        obtain ⟨r1, r2, r3, r4, r5⟩ := w7 a ha
        rw [p1, p2, p3, p4, e0]
        refine ⟨r1, r2, r3, fun k hk => ?_, fun k hk => ?_⟩
        · rw [(p5 k hk).2]; exact r4 k hk
        · rw [(p5 k (by omega)).2, (p5 (k + 1) hk).2]; exact r5 k hk
  · refine W2.xf b1 ?_
    refine W2.yt b2 ?_
    exact er2 hX.1 hM.1 (pl2 hT hU)
theorem R2.gz {P : gSt → gSt → Prop} {a b : Int32 × gSt} (h : R2 σ0 τ0 P a b) : gzr b.1 b.2 = some b := by
  unfold gzr
  rcases h with q | q
  · rw [if_pos (Or.inl q.2.1)]
  · rw [if_pos (Or.inr q.2.1)]
/-- a whole text is read -/
def FnP (σ0 τ0 : gSt) (B : Nat → Nat) (n L : Nat) (σ τ : gSt) : Prop := ∃ (u : Nat) (e N : Nat → Nat), WF e ∧ 0 < e 0 ∧ CX σ0 B n L u (e 0) (e 1) e N σ ∧ CM τ0 B n u e N τ
theorem lines2 (hk : ∀ s, s ≤ n → tK B n s < 256) (hn : n ≤ 900) : ∀ (m fx fm ln s u : Nat) (d N : Nat → Nat) (σ τ : gSt), n - s ≤ m → m < fx → m < fm → ln ≤ s → s ≤ n → u < 4 → WF d → CX σ0 B n L u (d 0) (d 1) d N σ → σ 15 0 3 = nI s → CM τ0 B n u d N τ → τ 28 0 13 = nI s → W2 (f_X8_read_7 (nI n) fx (nI ln) σ) ((f_X12_goesOn τ).bind fun z => (f_X12_readLine z).bind fun p => if p.1 = 0 then some (0, p.2) else f_X12_readAll_70 fm p.2) (R2 σ0 τ0 (FnP σ0 τ0 B n L)) := by
  intro m
  induction m using Nat.strongRecOn with
  | _ m ih =>
    intro fx fm ln s u d N σ τ hm h1 h2 hln hs hu hw hX hp hM hq
    obtain ⟨fx, rfl⟩ : ∃ g, fx = g + 1 := ⟨fx - 1, by omega⟩
    obtain ⟨fm, rfl⟩ : ∃ g, fm = g + 1 := ⟨fm - 1, by omega⟩
    have tb := tQ_b (B := B) hs
    have tp := tP_b (B := B) hs
    rw [f_X8_read_7]
    refine W2.xf (nI_nlt (by omega) (by omega)) ?_
    refine hX.adv hs hp (fun σ1 f1 hX1 hT1 => ?_)
    refine hM.adv hs hq (fun τ1 g1 hM1 hU1 => ?_)
    have after : ∀ a b, R2 σ0 τ0 (LnP σ0 τ0 B n L (tQ B n s)) a b → W2 (f_X8_read_95 (nI n) (nI ln) a.1 (fun v2 σ => f_X8_read_7 (nI n) fx v2 σ) a.2) (if b.1 = 0 then some (0, b.2) else f_X12_readAll_70 (fm + 1) b.2) (R2 σ0 τ0 (FnP σ0 τ0 B n L)) := by
      intro a b hab
      unfold f_X8_read_95
      rcases hab with q | ⟨q1, q2, s', u', e, N', l1, l2, l3, hw', hX', hM', hT', hU'⟩
      · exact W2.xt q.1 (W2.yt q.2.1 (W2.ret (Or.inl ⟨rfl, rfl, q.2.2⟩)))
      · refine W2.xf (by rw [q1]; exact o1n0) ?_
        refine W2.yf (by rw [q2]; exact o1n0) ?_
        rw [f_X12_readAll_70]
        rcases sg2 hT' hU' (hk s' l2) (g := 0) (x := 0) rfl (by omega) with ⟨c1, c2, c3⟩ | ⟨c1, c2, c3⟩
        · refine W2.xt c2 ?_
          refine W2.yf (by rw [c3]; decide) ?_
          refine W2.yt c3 ?_
          refine W2.ld 0 rfl (by decide) (by decide) (hM'.2.2.2.1 0 (by decide)) ?_
          have h30 := hX'.2.2.2.2.1.1
          have h33 := hw'.1
          by_cases e0 : e 0 = 0
          · refine W2.xf (by rw [h30, e0]; decide) ?_
            refine W2.yf (by rw [e0]; decide) ?_
            exact W2.ret (Or.inl (F2.mk hX'.1 hM'.1 (pl2 hT' hU')))
          · refine W2.xt (by rw [h30]; exact nI_lt (a := 0) (by omega) (by omega)) ?_
            refine W2.yt (nI_lt (a := 0) (by omega) (by omega)) ?_
            exact W2.ret (Or.inr ⟨rfl, rfl, u', e, N', hw', by omega, hX', hM'⟩)
        · refine W2.xf c2 ?_
          rcases sg2 hT' hU' (hk s' l2) (g := 59) (x := 59) rfl (by omega) with ⟨e1, e2, e3⟩ | ⟨e1, e2, e3⟩
          · refine W2.xt e2 ?_
            refine W2.yt e3 ?_
            have tb' := tQ_b (B := B) l2
            have tp' := tP_b (B := B) l2
            have tl := tb'.2.2 (by omega)
            rw [nI_1]
            exact ih (n - tQ B n s') (by omega) fx fm (ln + 1) (tQ B n s') u' e N' a.2 b.2 (Nat.le_refl _) (by omega) (by omega) (by omega) tb'.2.1 l3 hw' hX' hT'.1 hM' hU'.1
          · refine W2.xf e2 ?_
            refine W2.yf e3 ?_
            refine W2.yf c3 ?_
            exact er2 hX'.1 hM'.1 (pl2 hT' hU')
    refine W2.xe (X_isWord (i := 0) (w := 117099109) rfl (by decide) hT1 hs (hk s hs)) ?_
    have k0 := M_isK (i := 0) (by decide) hM1.2.1 hU1 hs (hk s hs)
    have k1 := M_isK (i := 1) (by decide) hM1.2.1 hU1 hs (hk s hs)
    have k2 := M_isK (i := 2) (by decide) hM1.2.1 hU1 hs (hk s hs)
    have k3 := M_isK (i := 3) (by decide) hM1.2.1 hU1 hs (hk s hs)
    by_cases c0 : kq B n s 0
    · rw [if_pos c0] at k0 ⊢
      refine W2.xf o1n0 ?_
      obtain ⟨a, b, ha, hb, hab⟩ := course2 hk hu hw hX1 hT1 hM1 hU1 hs
      refine W2.xe ha ?_
      refine W2.ye (show f_X12_readLine τ1 = some b from ?_) (after a b hab)
      unfold f_X12_readLine
      rw [k0, bind_some']
      refine (if_neg o1n0).trans ?_
      dsimp only
      rw [hb, bind_some', hab.gz]
    · rw [if_neg c0] at k0 ⊢
      refine W2.xt rfl ?_
      refine W2.xe (X_isWord (i := 1) (w := 626473138) rfl (by decide) hT1 hs (hk s hs)) ?_
      by_cases c1 : kq B n s 1
      · rw [if_pos c1] at k1 ⊢
        refine W2.xf o1n0 ?_
        obtain ⟨a, b, ha, hb, hab⟩ := runner2 hk hu hw hX1 hT1 hM1 hU1 hs
        refine W2.xe ha ?_
        refine W2.ye (show f_X12_readLine τ1 = some b from ?_) (after a b hab)
        unfold f_X12_readLine
        rw [k0, bind_some']
        refine (if_pos rfl).trans ?_
        dsimp only
        rw [k1, bind_some']
        refine (if_neg o1n0).trans ?_
        dsimp only
        rw [hb, bind_some', hab.gz]
      · rw [if_neg c1] at k1 ⊢
        refine W2.xt rfl ?_
        refine W2.xe (X_isWord (i := 2) (w := 7216) rfl (by decide) hT1 hs (hk s hs)) ?_
        by_cases c2 : kq B n s 2
        · rw [if_pos c2] at k2 ⊢
          refine W2.xf o1n0 ?_
          obtain ⟨a, b, ha, hb, hab⟩ := width2 (w := 0) (x := 0) (y := 2) rfl rfl (by decide) hk hu hw hX1 hT1 hM1 hU1 hs
          refine W2.xe ha ?_
          refine W2.ye (show f_X12_readLine τ1 = some b from ?_) (after a b hab)
          unfold f_X12_readLine
          rw [k0, bind_some']
          refine (if_pos rfl).trans ?_
          dsimp only
          rw [k1, bind_some']
          refine (if_pos rfl).trans ?_
          dsimp only
          rw [k2, bind_some']
          refine (if_neg o1n0).trans ?_
          dsimp only
          rw [hb, bind_some', hab.gz]
        · rw [if_neg c2] at k2 ⊢
          refine W2.xt rfl ?_
          refine W2.xe (X_isWord (i := 3) (w := 20317291) rfl (by decide) hT1 hs (hk s hs)) ?_
          by_cases c3 : kq B n s 3
          · rw [if_pos c3] at k3 ⊢
            refine W2.xf o1n0 ?_
            obtain ⟨a, b, ha, hb, hab⟩ := width2 (w := 1) (x := 1) (y := 3) rfl rfl (by decide) hk hu hw hX1 hT1 hM1 hU1 hs
            refine W2.xe ha ?_
            refine W2.ye (show f_X12_readLine τ1 = some b from ?_) (after a b hab)
            unfold f_X12_readLine
            rw [k0, bind_some']
            refine (if_pos rfl).trans ?_
            dsimp only
            rw [k1, bind_some']
            refine (if_pos rfl).trans ?_
            dsimp only
            rw [k2, bind_some']
            refine (if_pos rfl).trans ?_
            dsimp only
            rw [k3, bind_some']
            refine (if_neg o1n0).trans ?_
            dsimp only
            rw [hb, bind_some', hab.gz]
          · rw [if_neg c3] at k3 ⊢
            refine W2.xt rfl ?_
            have hF : R2 σ0 τ0 (LnP σ0 τ0 B n L (tQ B n s)) (0, gup σ1 15 0 7 1) (0, er 1 τ1) := Or.inl (F2.mk hX1.1 hM1.1 (pl2 hT1 hU1))
            refine W2.xe X_failed ?_
            refine W2.ye (show f_X12_readLine τ1 = some (0, er 1 τ1) from ?_) (after _ _ hF)
            unfold f_X12_readLine
            rw [k0, bind_some']
            refine (if_pos rfl).trans ?_
            dsimp only
            rw [k1, bind_some']
            refine (if_pos rfl).trans ?_
            dsimp only
            rw [k2, bind_some']
            refine (if_pos rfl).trans ?_
            dsimp only
            rw [k3, bind_some']
            exact if_pos rfl
end TL
