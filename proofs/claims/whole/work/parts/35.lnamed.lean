/-! the law's own named: it calls the class's, puts the answer into its row, catches what is thrown -/
def gOut (w : gWd) (cJ : ClassId) (qo : Nat) (f : Nat → Int64) (H : Heap) : Prop := va_P w.1.1 vwCl [(qo, .inl (cJ, 1, .inr (.inl f)))] H
def gAo (w : gWd) (qo : Nat) : Nat → Prop := fun q => gA w 0 41 q ∨ q = qo
theorem gOut.kept {w : gWd} {cJ : ClassId} {qo : Nat} {f : Nat → Int64} {H H1 : Heap} (hn : ¬ gA w 0 41 qo) (h : gOut w cJ qo f H) (hq : ∀ q : Nat, q < H.size → ¬ gA w 0 41 q → H1[q]? = H[q]?) : gOut w cJ qo f H1 := va_P.kept h (fun k q hk => by
  have hl := (h k q hk).lt
  have h1 : q.1 = qo := by
    cases k with
    | zero => cases hk; rfl
    | succ k => simp at hk
  exact hq q.1 hl (by rw [h1]; exact hn))
theorem va_P_left {D : va_G} {cl : List vw_C} {a b : va_W} {H : Heap} (h : va_P D cl (a ++ b) H) : va_P D cl a H := fun k q hk => h k q (by rw [List.getElem?_append_left (List.getElem?_eq_some_iff.mp hk).1]; exact hk)
theorem va_P_right {D : va_G} {cl : List vw_C} {a b : va_W} {H : Heap} (h : va_P D cl (a ++ b) H) : va_P D cl b H := fun k q hk => h (a.length + k) q (by rw [List.getElem?_append_right (by omega), Nat.add_sub_cancel_left]; exact hk)
def lnP (w : gWd) (cJ : ClassId) (qo : Nat) (f : Nat → Int64) (σ : gSt) (v1 v2 : Int32) : Array Value → State → Prop := fun v U => v = [Value.ref (w.2.1 0 0), .int v1, .int v2, .ref qo].toArray ∧ Hold w 0 41 σ U.heap ∧ gK w U ∧ gOut w cJ qo f U.heap ∧ va_K w.1.1 vwCl [(cJ, .long)] U
def lnQ (w : gWd) (cJ : ClassId) (qo : Nat) (r : Int32 × gSt) : Array Value → State → Outcome → State → Prop := va_Qi (fun (a : Int32) (g : Nat → Int64) => (r.1 = -1 ∧ a = 1) ∨ (¬ r.1 = -1 ∧ a = 0 ∧ g 0 = r.1.toInt64)) (fun g t => Hold w 0 41 r.2 t.heap ∧ gOut w cJ qo g t.heap) (gAo w qo)
section LN
variable {l : Launch} {w : gWd} {cJ : ClassId} {qo : Nat}
theorem ln_ret {p : Program} {e : Env} {s : State} {m : MethodId} {args : Array Value} {below : List Frame} {meth : Method} {c : Code} {r : Int32 × gSt} {g : Nat → Int64} {a : Int32} {pc : Nat} {H : Heap} {locs : List Loc} {ls : Array Slot} {ce sl : Nat} (F : LF p s m args meth c RL cL_named 5 (some .int) w (gAo w qo)) (hdg : decode cL_named pc = .ok (.ireturn, 1)) (hq : (r.1 = -1 ∧ a = 1) ∨ (¬ r.1 = -1 ∧ a = 0 ∧ g 0 = r.1.toInt64)) (hH : Hold w 0 41 r.2 H) (hO : gOut w cJ qo g H) (hS : va_S (gAo w qo) s.heap H locs) (h1 : ce ≤ 1) (h2 : sl ≤ 6) :
    W p l e (gR4 7 1 6 105) s m args below meth c H locs ce sl (vx_MQ below (lnQ w cJ qo r) (fun _ _ _ => False) args s 1 6 (gAo w qo)) (F0 m pc ls [.int a]) :=
  vx_ret (W.widen (k := 1) (n := 6) h1 h2 (W.iret F.1 F.2.1 F.2.2.2.2.2.1 (fun t ht hW => ⟨⟨a, g, rfl, hq, by show Hold w 0 41 r.2 t.heap ∧ gOut w cJ qo g t.heap; rw [ht]; exact ⟨hH, hO⟩⟩, hS.F ht⟩) hS.2.2 hdg F.2.2.2.2.2.2.1))
theorem ln_5 {p : Program} {e : Env} {s : State} {m : MethodId} {args : Array Value} {below : List Frame} {meth : Method} {c : Code} {v1 v2 : Int32} {σ : gSt} {r : Int32 × gSt} {f : Nat → Int64} (F : LF p s m args meth c RL cL_named 5 (some .int) w (gAo w qo)) (hX : gEnvX w) (hE : w.1.2 s) (htr : l.stackTraces = false) (hqo : ¬ gA w 0 41 qo) (hKJ : va_K w.1.1 vwCl [(cJ, .long)] s) (htab : c.exceptionTable.toList = tableOf [(0, 10, 13, 13)]) (h : f_nm v1 v2 σ = some r) :
    GL p l e (gR4 7 1 6 105) s m args below meth c 5 w (gAo w qo) (vx_MQ below (lnQ w cJ qo r) (fun _ _ _ => False) args s 1 6 (gAo w qo)) (gOut w cJ qo f) 5 [some (.ref (w.2.1 0 0)), some (.int v1), some (.int v2), some (.ref qo), none] [.int v2, .int v1, .ref (w.2.1 0 0), .int 0, .ref qo] σ 0 0 := by
  intro H locs ls hl hH hO hS
  have hT := F.2.2.2.2.1
  obtain ⟨⟨g1, g2, g3, g4⟩, h2, h3, h4, h5⟩ := mv_L_7
  obtain ⟨q, hq, hc⟩ := Option.map_eq_some_iff.mp h5
  obtain ⟨q0, h0, hq0⟩ := gws_get (w := w) ok_0
  have hr := va_recv F.2.2.2.2.2.2.2.1 hH hq ((hq0 σ).trans (by rw [gcell_obj h4]))
  rw [hc] at hr
  have hcb : CallB (gR4 7 1 6 105) s args RL 7 yX11_named cX11_named 5 (some .int) (Cond.code yX11_named cX11_named 5 (some .int) :: gGood) (gR4 6 1 6 81) 1 6 2 := callB_of 2 hT (gGood_in g3) rfl rfl rfl (hT _ g2) (hT _ g1) g4 ⟨by decide, by decide⟩
  have hrun := vx_runV (Ts := gGood) (cells := 0) (slots := 0) (As := [.int v1, .int v2]) ⟨F.1, F.2.1, F.2.2.1, F.2.2.2.1, hT⟩ (nm_ok hX htr h) ⟨hcb, hT _ h2, hT _ h3⟩ ⟨gP_blind, hr, fun U hU hWm => ⟨rfl, by rw [hU]; exact hH, F.2.2.2.2.2.2.2.1.moved hWm.alike, F.2.2.2.2.2.2.2.2.1, F.2.2.2.2.2.2.2.2.2.2.1 U locs (by rw [hU]; exact hS) hWm, F.2.2.2.2.2.2.2.2.2.1⟩⟩ (g := F0 m 5 ls [.int v2, .int v1, .ref (w.2.1 0 0), .int 0, .ref qo]) (e := e) (below := below) (meth := meth) (locs := locs) (rest := [.int 0, .ref qo]) rfl rfl (by show ls.size = 5; exact hl.1) rfl (lv_room (Nat.le_of_ble_eq_true rfl)) dL_named_5 ⟨by decide, by decide⟩
  have hsub : ∀ q, gA w 0 41 q → gAo w qo q := fun q h => Or.inl h
  refine vx_calli hrun hS (fun q _ h => hsub q h) hsub (fun q _ h => hsub q h) (fun E cx q9 u t H1 locs1 ht hvm hp hB hz hk hS1 hcell hv hcl => ?_) (fun a u t H1 locs1 ht hvm hp hB hz hk hS1 => ?_)
  · obtain ⟨rfl, hH1⟩ := hB
    rw [ht] at hH1
    have hO1 := hO.kept hqo hk
    refine vx_catch (name := NSE) F.2.2.2.1 [] ⟨0, 10, 13, 13⟩ [] (by rw [htab]; rfl) (by simp) (by decide) (by decide) (hT _ x_clL) (va_Nw.use rfl ((hX s hE).2.2 _ (by simp [xB]))) hcell hv hcl ?_
    refine lv_astore F.1 F.2.1 dL_named_13 hl.lv (by decide) rfl (fun ls' hl' => ?_)
    refine lv_iconst F.1 F.2.1 dL_named_15 kc_1 ?_
    exact ln_ret F dL_named_16 (Or.inl ⟨hp, rfl⟩) hH1 hO1 hS1 (by decide) (by decide)
  · obtain ⟨ha, hne⟩ := hp
    subst ha
    have hH1 : Hold w 0 41 r.2 H1 := by
      have hB' : Hold w 0 41 r.2 t.heap := hB
      rw [ht] at hB'
      exact hB'
    have hO1 := hO.kept hqo hk
    refine lv_i2l F.1 F.2.1 dL_named_8 rfl ?_
    have hP : va_P w.1.1 vwCl (gws w 0 41 r.2 ++ [(qo, .inl (cJ, 1, .inr (.inl f)))]) H1 := by
      intro k z hz1
      by_cases hkk : k < (gws w 0 41 r.2).length
      · rw [List.getElem?_append_left hkk] at hz1; exact hH1 k z hz1
      · rw [List.getElem?_append_right (by omega)] at hz1; exact hO1 _ z hz1
    have hD0 := gD (lo := 0) (hi := 41) (by decide) F.2.2.2.2.2.2.2.2.1 r.2
    have hD : va_D (gAo w qo) (gws w 0 41 r.2 ++ [(qo, .inl (cJ, 1, .inr (.inl f)))]) := by
      have key : ∀ (k : Nat) (z : Nat × va_E), (gws w 0 41 r.2 ++ [(qo, .inl (cJ, 1, .inr (.inl f)))])[k]? = some z → ((gws w 0 41 r.2)[k]? = some z ∧ gA w 0 41 z.1) ∨ (k = (gws w 0 41 r.2).length ∧ z.1 = qo) := by
        intro k z hz1
        by_cases hkk : k < (gws w 0 41 r.2).length
        · rw [List.getElem?_append_left hkk] at hz1; exact Or.inl ⟨hz1, hD0.2 k z hz1⟩
        · rw [List.getElem?_append_right (by omega)] at hz1
          have h9 : k - (gws w 0 41 r.2).length < 1 := (List.getElem?_eq_some_iff.mp hz1).1
          rw [show k - (gws w 0 41 r.2).length = 0 by omega] at hz1
          cases hz1
          exact Or.inr ⟨by omega, rfl⟩
      refine ⟨fun i j x y hx hy hxy => ?_, fun k z hz1 => ?_⟩
      · rcases key i x hx with ⟨a1, a2⟩ | ⟨a1, a2⟩ <;> rcases key j y hy with ⟨b1, b2⟩ | ⟨b1, b2⟩
        · exact hD0.1 i j x y a1 b1 hxy
        · exact absurd (by rw [← b2, ← hxy]; exact a2) hqo
        · exact absurd (by rw [← a2, hxy]; exact b2) hqo
        · omega
      · rcases key k z hz1 with ⟨a1, a2⟩ | ⟨a1, a2⟩
        · exact Or.inl a2
        · exact Or.inr a2
    refine va_last F.1 F.2.1 hKJ hP hD hS1 (gws w 0 41 r.2).length 0 (by rw [List.getElem?_append_right (Nat.le_refl _), Nat.sub_self]; rfl) rfl (by unfold vp_in; decide) dL_named_9 (fun H2 locs2 hP2 hD2 hS2 => ?_)
    rw [List.set_append_right _ _ (Nat.le_refl _), Nat.sub_self] at hP2
    have hH2 : Hold w 0 41 r.2 H2 := va_P_left hP2
    have hO2 := va_P_right hP2
    refine lv_goto F.1 F.2.1 dL_named_10 (tgt := 17) rfl ?_
    refine lv_iconst F.1 F.2.1 dL_named_17 kc_0 ?_
    exact ln_ret (g := vp_updL f ((0 : Int32).toNatClampNeg) r.1.toInt64) F dL_named_18 (Or.inr ⟨hne, rfl, rfl⟩) hH2 hO2 hS2 (by decide) (by decide)
theorem ln_ok {v1 v2 : Int32} {σ : gSt} {r : Int32 × gSt} {f : Nat → Int64} (hX : gEnvX w) (htr : l.stackTraces = false) (hqo : ¬ gA w 0 41 qo) (hEo : ∀ (s U : State) (locs : List Loc), va_S (gAo w qo) s.heap U.heap locs → s.WarmedH U.vm → w.1.2 s → w.1.2 U) (h : f_nm v1 v2 σ = some r) : vx_Met l yL_named (Cond.codeWith yL_named cL_named 5 (some .int) [(0, 10, 13, 13)] :: gGood) (gR4 7 1 6 105) (lnP w cJ qo f σ v1 v2) (lnQ w cJ qo r) (fun _ _ _ => False) 1 6 (gAo w qo) := by
  refine vx_ofWH pn_L rfl ?_
  intro p e s m args below meth c s₁ B hml hv
  obtain ⟨rfl, hH, hK, hO, hKJ⟩ := hv
  have hts0 := atoms_spec (ws := Cond.codeWith yL_named cL_named 5 (some .int) [(0, 10, 13, 13)] :: gGood) B.pre
  have htab := vx_table (x := yL_named) B (hts0 _ List.mem_cons_self)
  have F : LF p s m [Value.ref (w.2.1 0 0), .int v1, .int v2, .ref qo].toArray meth c RL cL_named 5 (some .int) w (gAo w qo) := ⟨B.exec, B.bytes, hml, findClass_of_methodNamed B.named, fun x hx => hts0 x (List.mem_cons_of_mem _ hx), B.returns, B.notSynchronized, hK.1, hK.2.1, hK.2.2.2, fun U locs hS hW => hEo s U locs hS hW hK.2.2.1, fun q h => Or.inl h⟩
  have G0 : GL p l e (gR4 7 1 6 105) s m [Value.ref (w.2.1 0 0), .int v1, .int v2, .ref qo].toArray below meth c 5 w (gAo w qo) (vx_MQ below (lnQ w cJ qo r) (fun _ _ _ => False) [Value.ref (w.2.1 0 0), .int v1, .int v2, .ref qo].toArray s 1 6 (gAo w qo)) (gOut w cJ qo f) 0 [some (.ref (w.2.1 0 0)), some (.int v1), some (.int v2), some (.ref qo), none] [] σ 0 0 := by
    refine l_aload_n F dL_named_0 rfl ?_
    refine l_iconst F dL_named_1 kc_0 ?_
    refine l_aload_n F dL_named_2 rfl ?_
    refine l_iload_n F dL_named_3 rfl ?_
    refine l_iload_n F dL_named_4 rfl ?_
    exact ln_5 F hX hK.2.2.1 htr hqo hKJ htab h
  rw [lg_entry_eq]
  exact G0 s.heap [] _ (g_entry rfl (Nat.le_of_ble_eq_true rfl)) hH hO va_S.rf
end LN
