theorem dX11_named_0 : decode cX11_named 0 = .ok (.iload_n 1, 1) := by decide +kernel
theorem dX11_named_1 : decode cX11_named 1 = .ok (.ifCond .lt 14, 3) := by decide +kernel
theorem dX11_named_4 : decode cX11_named 4 = .ok (.iload_n 1, 1) := by decide +kernel
theorem dX11_named_5 : decode cX11_named 5 = .ok (.aload_n 0, 1) := by decide +kernel
theorem dX11_named_6 : decode cX11_named 6 = .ok (.getfield 12, 3) := by decide +kernel
theorem dX11_named_9 : decode cX11_named 9 = .ok (.getfield 84, 3) := by decide +kernel
theorem dX11_named_12 : decode cX11_named 12 = .ok (.if_icmp .le 7, 3) := by decide +kernel
theorem dX11_named_15 : decode cX11_named 15 = .ok (.iconst 0, 1) := by decide +kernel
theorem dX11_named_16 : decode cX11_named 16 = .ok (.goto 11, 3) := by decide +kernel
theorem dX11_named_19 : decode cX11_named 19 = .ok (.aload_n 0, 1) := by decide +kernel
theorem dX11_named_20 : decode cX11_named 20 = .ok (.getfield 12, 3) := by decide +kernel
theorem dX11_named_23 : decode cX11_named 23 = .ok (.iload_n 1, 1) := by decide +kernel
theorem dX11_named_24 : decode cX11_named 24 = .ok (.invokevirtual 416, 3) := by decide +kernel
theorem dX11_named_27 : decode cX11_named 27 = .ok (.istore_n 3, 1) := by decide +kernel
theorem dX11_named_28 : decode cX11_named 28 = .ok (.iload_n 2, 1) := by decide +kernel
theorem dX11_named_29 : decode cX11_named 29 = .ok (.ifCond .eq 14, 3) := by decide +kernel
theorem dX11_named_32 : decode cX11_named 32 = .ok (.aload_n 0, 1) := by decide +kernel
theorem dX11_named_33 : decode cX11_named 33 = .ok (.getfield 32, 3) := by decide +kernel
theorem dX11_named_36 : decode cX11_named 36 = .ok (.iload_n 3, 1) := by decide +kernel
theorem dX11_named_37 : decode cX11_named 37 = .ok (.invokevirtual 419, 3) := by decide +kernel
theorem dX11_named_40 : decode cX11_named 40 = .ok (.goto 11, 3) := by decide +kernel
theorem dX11_named_43 : decode cX11_named 43 = .ok (.aload_n 0, 1) := by decide +kernel
theorem dX11_named_44 : decode cX11_named 44 = .ok (.getfield 32, 3) := by decide +kernel
theorem dX11_named_47 : decode cX11_named 47 = .ok (.iload_n 3, 1) := by decide +kernel
theorem dX11_named_48 : decode cX11_named 48 = .ok (.invokevirtual 422, 3) := by decide +kernel
theorem dX11_named_51 : decode cX11_named 51 = .ok (.istore 4, 2) := by decide +kernel
theorem dX11_named_53 : decode cX11_named 53 = .ok (.iload 4, 2) := by decide +kernel
theorem dX11_named_55 : decode cX11_named 55 = .ok (.iconst (-1), 1) := by decide +kernel
theorem dX11_named_56 : decode cX11_named 56 = .ok (.if_icmp .ne 11, 3) := by decide +kernel
theorem dX11_named_59 : decode cX11_named 59 = .ok (.new 425, 3) := by decide +kernel
theorem dX11_named_62 : decode cX11_named 62 = .ok (.dup, 1) := by decide +kernel
theorem dX11_named_63 : decode cX11_named 63 = .ok (.invokespecial 427, 3) := by decide +kernel
theorem dX11_named_66 : decode cX11_named 66 = .ok (.athrow, 1) := by decide +kernel
theorem dX11_named_67 : decode cX11_named 67 = .ok (.iload 4, 2) := by decide +kernel
theorem dX11_named_69 : decode cX11_named 69 = .ok (.ireturn, 1) := by decide +kernel
abbrev cL_named : ByteArray := method_3_code
def yL_named : MethodName := ⟨RL, "named", "(LForestLegs;IZ[J)I"⟩
theorem pn_L : plainName RL = true := by decide +kernel
theorem dL_named_0 : decode cL_named 0 = .ok (.aload_n 3, 1) := by decide +kernel
theorem dL_named_1 : decode cL_named 1 = .ok (.iconst 0, 1) := by decide +kernel
theorem dL_named_2 : decode cL_named 2 = .ok (.aload_n 0, 1) := by decide +kernel
theorem dL_named_3 : decode cL_named 3 = .ok (.iload_n 1, 1) := by decide +kernel
theorem dL_named_4 : decode cL_named 4 = .ok (.iload_n 2, 1) := by decide +kernel
theorem dL_named_5 : decode cL_named 5 = .ok (.invokevirtual 7, 3) := by decide +kernel
theorem dL_named_8 : decode cL_named 8 = .ok (.i2l, 1) := by decide +kernel
theorem dL_named_9 : decode cL_named 9 = .ok (.lastore, 1) := by decide +kernel
theorem dL_named_10 : decode cL_named 10 = .ok (.goto 7, 3) := by decide +kernel
theorem dL_named_13 : decode cL_named 13 = .ok (.astore 4, 2) := by decide +kernel
theorem dL_named_15 : decode cL_named 15 = .ok (.iconst 1, 1) := by decide +kernel
theorem dL_named_16 : decode cL_named 16 = .ok (.ireturn, 1) := by decide +kernel
theorem dL_named_17 : decode cL_named 17 = .ok (.iconst 0, 1) := by decide +kernel
theorem dL_named_18 : decode cL_named 18 = .ok (.ireturn, 1) := by decide +kernel
def NSE : String := "java/util/NoSuchElementException"
def xB : List Cond := [.castable NSE NSE, .declares (Bundle.init0 "java/lang/RuntimeException"), .declares (Bundle.init0 "java/lang/Exception"), .declares (Bundle.init0 Bundle.tN)]
theorem xB_on : ∀ x ∈ xB, x.onTables = true := by decide +kernel
def xNm : List String := ["java/lang/RuntimeException", "java/lang/Exception"]
theorem x_cl : Cond.classLink RX11 425 NSE ∈ gGood := gGood_at 1299 (by decide +kernel) rfl
theorem x_clL : Cond.classLink RL 13 NSE ∈ gGood := gGood_at 1285 (by decide +kernel) rfl
theorem x_ini : Cond.initialized NSE ∈ gGood := gGood_at 114 (by decide +kernel) rfl
theorem x_tab : ∀ w ∈ vx_at0 RX11 427 NSE xNm, goodWord w = true → w ∈ lw_tbl := by decide +kernel
theorem x_not : ∀ w ∈ (vx_at0 RX11 427 NSE xNm).filter (fun w => !goodWord w), w ∈ xB := by decide +kernel
theorem x_ot : ∀ w ∈ Cond.classLink RX11 425 NSE :: Cond.initialized NSE :: vx_at0 RX11 427 NSE xNm, vx_ot w = true := by decide +kernel
theorem x_fit : Bundle.fit NSE = true := by decide +kernel
theorem x_fits : ∀ n ∈ xNm, Bundle.fit n = true := by decide +kernel
theorem x_cw : Cond.codeWith yL_named cL_named 5 (some .int) [(0, 10, 13, 13)] ∈ gGood := gGood_at 1284 (by decide +kernel) rfl
theorem mv_L_7 : gMv RL 7 0 yX11_named cX11_named 5 (some .int) 2 := ⟨⟨gGood_at 1286 (by decide +kernel) rfl, gGood_at 91 (by decide +kernel) rfl, gGood_at 1289 (by decide +kernel) rfl, by decide, by decide, by decide +kernel⟩, gGood_at 1287 (by decide +kernel) rfl, gGood_at 1288 (by decide +kernel) rfl, rfl, rfl⟩
/-- what a throw needs around: two statics of Throwable, one word of the tables -/
def EnvX (A : Nat → Prop) (s : State) : Prop := vx_Zq Bundle.tN "UNASSIGNED_STACK" Bundle.steD A s s.heap ∧ vx_Zq Bundle.tN "SUPPRESSED_SENTINEL" Bundle.listD A s s.heap ∧ ∀ x ∈ xB, va_Nw x s
def gEnvX (w : gWd) : Prop := ∀ s : State, w.1.2 s → EnvX (gA w 0 41) s
def f_nm_28 (v2 v3 : Int32) (σ : gSt) : Option (Int32 × gSt) := if v2 = 0 then f_X4_runnerNamed 1 v3 σ else f_X4_courseNamed 1 v3 σ
/-- named: the number, -1 where it throws -/
def f_nm (v1 v2 : Int32) (σ : gSt) : Option (Int32 × gSt) :=
  if v1 < 0 then f_nm_28 v2 0 σ
  else
    if v1 ≤ (σ 1 0 1) then
      (f_X10_wordAlone v1 σ).bind fun p24 =>
      f_nm_28 v2 p24.1 p24.2
    else f_nm_28 v2 0 σ
def nmQ (w : gWd) (r : Int32 × gSt) : Array Value → State → Outcome → State → Prop := va_Qi (fun (a : Int32) (_ : Unit) => a = r.1 ∧ ¬ r.1 = -1) (fun _ t => Hold w 0 41 r.2 t.heap) (gA w 0 41)
def nmX (w : gWd) (r : Int32 × gSt) : String → State → State → Prop := vx_X (fun _ : Unit => r.1 = -1) (fun E _ t => E = NSE ∧ Hold w 0 41 r.2 t.heap) (gA w 0 41)
section NM
variable {l : Launch} {w : gWd}
theorem Hold.kept {σ : gSt} {H H1 : Heap} (h : Hold w 0 41 σ H) (hq : ∀ q : Nat, q < H.size → H1[q]? = H[q]?) : Hold w 0 41 σ H1 := va_P.kept h (fun k q hk => hq q.1 (h k q hk).lt)
theorem nm_51 {p : Program} {e : Env} {s : State} {m : MethodId} {args : Array Value} {below : List Frame} {meth : Method} {c : Code} {x3 : Option Value} {v1 v2 : Int32} {r : Int32 × gSt} {x4 : Option Value} (F : LF p s m args meth c RX11 cX11_named 5 (some .int) w (gA w 0 41)) (hX : gEnvX w) (hE : w.1.2 s) (htr : l.stackTraces = false) (ht : ∀ x ∈ c.exceptionTable.toList, False) :
    GL p l e (gR4 6 1 6 81) s m args below meth c 5 w (gA w 0 41) (vx_MQ below (nmQ w r) (nmX w r) args s 1 6 (gA w 0 41)) (fun _ => True) 51 [some (.ref (w.2.1 0 0)), some (.int v1), some (.int v2), x3, x4] [.int r.1] r.2 0 0 := by
  refine l_istore F dX11_named_51 (Nat.le_of_ble_eq_true rfl) ?_
  refine l_iload F dX11_named_53 rfl ?_
  refine l_iconst F dX11_named_55 kc_m1 ?_
  refine l_icmp_ne F 67 dX11_named_56 rfl (fun q => ?_) (fun q => ?_)
  · refine l_iload F dX11_named_67 rfl ?_
    intro H locs ls hl hH _ hS
    exact vx_ret (W.widen (k := 1) (n := 6) (by decide) (by decide) (W.iret F.1 F.2.1 F.2.2.2.2.2.1 (fun t ht hW => ⟨⟨r.1, (), rfl, ⟨rfl, q⟩, by show Hold w 0 41 r.2 t.heap; rw [ht]; exact hH⟩, hS.F ht⟩) hS.2.2 dX11_named_69 F.2.2.2.2.2.2.1))
  · intro H locs ls hl hH _ hS
    have hT := F.2.2.2.2.1
    obtain ⟨hU, hN, hc⟩ := hX s hE
    refine vx_throw0 (names := xNm) (rest := []) F.1 F.2.1 htr F.2.2.2.1 x_fit x_fits (hT _ x_cl) (hT _ x_ini) (vx_hat (B := xB) (fun x hx => hT x (gGood_mem (x_tab x (List.mem_filter.mp hx).1 (List.mem_filter.mp hx).2) (List.mem_filter.mp hx).2)) x_not (fun x hx => va_Nw.use (xB_on x hx) (hc x hx))) x_ot hU hN hS (hl.1.trans F.2.2.1.symm) dX11_named_59 dX11_named_62 dX11_named_63 dX11_named_66 (fun x hx => (ht x hx).elim) (by decide) (by decide) (by decide) (by decide) F.2.2.2.2.2.2.1 (fun t hvm h1 h2 => ⟨(), q, ⟨rfl, Hold.kept hH h2⟩, Nat.le_trans hS.1 h1, fun z hz hn => (h2 z (Nat.lt_of_lt_of_le hz hS.1)).trans (hS.2.1 z hz hn)⟩) hS.2.2 (by decide) (by decide)
theorem nm_28 {p : Program} {e : Env} {s : State} {m : MethodId} {args : Array Value} {below : List Frame} {meth : Method} {c : Code} {v1 v2 v3 : Int32} {r : Int32 × gSt} {σ : gSt} {x3 x4 : Option Value} (F : LF p s m args meth c RX11 cX11_named 5 (some .int) w (gA w 0 41)) (hX : gEnvX w) (hE : w.1.2 s) (htr : l.stackTraces = false) (ht : ∀ x ∈ c.exceptionTable.toList, False) (h : f_nm_28 v2 v3 σ = some r) :
    GL p l e (gR4 6 1 6 81) s m args below meth c 5 w (gA w 0 41) (vx_MQ below (nmQ w r) (nmX w r) args s 1 6 (gA w 0 41)) (fun _ => True) 27 [some (.ref (w.2.1 0 0)), some (.int v1), some (.int v2), x3, x4] [.int v3] σ 0 0 := by
  unfold f_nm_28 at h
  refine l_istore_n F dX11_named_27 (Nat.le_of_ble_eq_true rfl) ?_
  refine l_iload_n F dX11_named_28 rfl ?_
  refine l_if_eq F 43 dX11_named_29 rfl (fun q => ?_) (fun q => ?_)
  · replace h := gif_t q h
    refine l_aload_n F dX11_named_43 rfl ?_
    refine l_getV (v := .ref (w.2.1 3 1)) F fl_X11_32 ok_0 rfl dX11_named_44 ?_
    refine l_iload_n F dX11_named_47 rfl ?_
    refine l_callI (As := [.int v3]) F (fun _ _ _ _ h => h) mv_X11_422 (f_X4_runnerNamed_ok (by decide) h) rfl rfl (ok_3 (by decide)) ⟨by decide, by decide⟩ (Nat.le_of_ble_eq_true rfl) ⟨by decide, by decide⟩ dX11_named_48 ?_
    exact nm_51 F hX hE htr ht
  · replace h := gif_f q h
    refine l_aload_n F dX11_named_32 rfl ?_
    refine l_getV (v := .ref (w.2.1 3 1)) F fl_X11_32 ok_0 rfl dX11_named_33 ?_
    refine l_iload_n F dX11_named_36 rfl ?_
    refine l_callI (As := [.int v3]) F (fun _ _ _ _ h => h) mv_X11_419 (f_X4_courseNamed_ok (by decide) h) rfl rfl (ok_3 (by decide)) ⟨by decide, by decide⟩ (Nat.le_of_ble_eq_true rfl) ⟨by decide, by decide⟩ dX11_named_37 ?_
    refine l_goto F 51 dX11_named_40 rfl ?_
    exact nm_51 F hX hE htr ht
theorem nm_ok {v1 v2 : Int32} {σ : gSt} {r : Int32 × gSt} (hX : gEnvX w) (htr : l.stackTraces = false) (h : f_nm v1 v2 σ = some r) : vx_Met l yX11_named (Cond.code yX11_named cX11_named 5 (some .int) :: gGood) (gR4 6 1 6 81) (gP w 0 41 σ [.ref (w.2.1 0 0), .int v1, .int v2]) (nmQ w r) (nmX w r) 1 6 (gA w 0 41) := by
  refine vx_ofW pn_X11 rfl ?_
  intro p e s m args below meth c s₁ B hml ht hv
  obtain ⟨rfl, hH, hK⟩ := hv
  have hts : ∀ x ∈ gGood, x.before [Value.ref (w.2.1 0 0), .int v1, .int v2].toArray s = true := fun x hx => atoms_spec (ws := Cond.code yX11_named cX11_named 5 (some .int) :: gGood) B.pre x (List.mem_cons_of_mem _ hx)
  have F : LF p s m [Value.ref (w.2.1 0 0), .int v1, .int v2].toArray meth c RX11 cX11_named 5 (some .int) w (gA w 0 41) := ⟨B.exec, B.bytes, hml, findClass_of_methodNamed B.named, hts, B.returns, B.notSynchronized, hK.1, hK.2.1, hK.2.2.2, fun U locs hS hW => hK.2.2.2.2 s U locs hS hW hK.2.2.1, fun q h => h⟩
  have hE := hK.2.2.1
  have G0 : GL p l e (gR4 6 1 6 81) s m [Value.ref (w.2.1 0 0), .int v1, .int v2].toArray below meth c 5 w (gA w 0 41) (vx_MQ below (nmQ w r) (nmX w r) [Value.ref (w.2.1 0 0), .int v1, .int v2].toArray s 1 6 (gA w 0 41)) (fun _ => True) 0 [some (.ref (w.2.1 0 0)), some (.int v1), some (.int v2), none, none] [] σ 0 0 := by
    unfold f_nm at h
    refine l_iload_n F dX11_named_0 rfl ?_
    refine l_if_lt F 15 dX11_named_1 rfl (fun q => ?_) (fun q => ?_)
    · replace h := gif_t q h
      refine l_iconst F dX11_named_15 kc_0 ?_
      refine l_goto F 27 dX11_named_16 rfl ?_
      exact nm_28 F hX hE htr ht h
    · replace h := gif_f q h
      refine l_iload_n F dX11_named_4 rfl ?_
      refine l_aload_n F dX11_named_5 rfl ?_
      refine l_getV (v := .ref (w.2.1 1 0)) F fl_X11_12 ok_0 rfl dX11_named_6 ?_
      refine l_getV (v := .int (σ 1 0 1)) F fl_X11_84 ok_1 rfl dX11_named_9 ?_
      refine l_icmp_le F 19 dX11_named_12 rfl (fun q => ?_) (fun q => ?_)
      · replace h := gif_t q h
        refine l_aload_n F dX11_named_19 rfl ?_
        refine l_getV (v := .ref (w.2.1 1 0)) F fl_X11_12 ok_0 rfl dX11_named_20 ?_
        refine l_iload_n F dX11_named_23 rfl ?_
        obtain ⟨p24, e24, h⟩ := obind h
        refine l_callI (As := [.int v1]) F (fun _ _ _ _ h => h) mv_X11_416 (f_X10_wordAlone_ok e24) rfl rfl ok_1 ⟨by decide, by decide⟩ (Nat.le_of_ble_eq_true rfl) ⟨by decide, by decide⟩ dX11_named_24 ?_
        exact nm_28 F hX hE htr ht h
      · replace h := gif_f q h
        refine l_iconst F dX11_named_15 kc_0 ?_
        refine l_goto F 27 dX11_named_16 rfl ?_
        exact nm_28 F hX hE htr ht h
  rw [lg_entry_eq]
  exact G0 s.heap [] _ (g_entry rfl (Nat.le_of_ble_eq_true rfl)) hH trivial va_S.rf
end NM
