/-! THE CLAIM OUT OF ONE WALK OF THE LAW'S BODY. Your part is whole_start (and what it stands on); all else here is the same for every law, but numbers. -/
def R_law : String := "ForestLegsLaw"
def lw_P (b : Addr) (xs : List Int32) (args : Array Value) (s : State) : Prop := args = #[.ref b] ∧ s.IntsAt b xs ∧ xs.length ≤ 3072 ∧ (Jvm.Cond.and given_1 narrow_1).before args s = true
def lw_Q (_ : Array Value) (s : State) (o : Outcome) (t : State) : Prop := o = .returned (some (.int 1)) ∧ Framed s o t [] 601024 7293034
def lw_Z (below : List Frame) (a : Array Value) (s : State) : State → Prop := fun t => ∃ o, t.status = .running ∧ Ended t below o ∧ lw_Q a s o t
/-- the law's own end, with 1 on the stack, nothing written that was there before, its room as the claim has it -/
theorem lw_ret {p : Program} {l : Launch} {e : Env} {s : State} {m : MethodId} {below : List Frame} {meth : Method} {c : Code} {b : Nat} (hx : p.tables.exec = Jvm.exec) (hb : c.code = code) (hr : meth.sig.returnType = ret) (hlocks : meth.locks = false) {pc : Nat} {H : Heap} {ls : Array Slot} (hdg : decode code pc = .ok (.ireturn, 1)) : W p l e room_1 s m #[Value.ref b] below meth c H [] 601024 7293034 (lw_Z below #[Value.ref b] s) (F0 m pc ls [.int 1]) := by
  intro T hT X
  obtain ⟨fs, hret, hrun, hended, hW, hframe⟩ := X.leave (v := some (.int 1)) (hlocks := hlocks) (fun h => by rw [hr] at h; cases h)
  have hmeth' : T.vm.method? m = some meth := X.method'
  refine ⟨T.setFrames fs, ?_, .returned (some (.int 1)), hrun, hended, rfl, ⟨_, rfl⟩, hW, hframe⟩
  jvm_step X.here [X.here.top, hx, hb, hdg, hmeth', hr, ret, narrow_b1]
  (try refine ⟨rfl, ?_⟩); (try refine ⟨rfl, ?_⟩)
  first | (intro acts; rw [hret _ acts rfl rfl rfl]) | rw [hret _ _ rfl rfl rfl]
  exact Steps.refl _
/-- what holds at the law's entry: the machine, the code, the tables' words (any of lw_tbl by 'hts w (by decide +kernel)'), the script of L ints xs at the cell b, what the Statement gives of the start (any of its parts by flat_of_before) -/
def lw_At (p : Program) (s : State) (m : MethodId) (meth : Method) (c : Code) (b L : Nat) (xs : Nat → Int32) : Prop :=
  p.tables.exec = Jvm.exec ∧ c.code = code ∧ meth.sig.returnType = ret ∧ c.maxLocals = 7 ∧ s.vm.findClass R_law = some m.cls ∧ (∀ w ∈ lw_tbl, w.before #[Value.ref b] s = true) ∧ va_X b L xs s s.heap ∧ b < s.heap.size ∧ meth.locks = false ∧ (Jvm.Cond.and given_1 narrow_1).before #[Value.ref b] s = true
theorem law_arith {Ls i : Nat} (hLs : Ls ≤ 3072) (hi : i ≤ 4000) (q : ¬ nI Ls - 6 < nI i) : i + 6 ≤ Ls := by
  by_cases h6 : 6 ≤ Ls
  · have e1 : nI Ls - 6 = nI (Ls - 6) := by
      have : nI Ls = nI (Ls - 6) + 6 := by rw [← nc_6, nI_add]; congr 1; omega
      rw [this, Int32.add_sub_cancel]
    rw [e1, nI_lt_iff (by omega) (by omega)] at q
    omega
  · exfalso
    apply q
    rw [Int32.lt_iff_toInt_lt, nI_toInt (show i < 2 ^ 31 by omega)]
    have h : ∀ k, k < 6 → (nI k - 6).toInt < 0 := by decide +kernel
    have := h Ls (by omega)
    omega
section LP
variable {p : Program} {l : Launch} {e : Env} {s : State} {m : MethodId} {below : List Frame} {meth : Method} {c : Code} {w : gWd} {A : Nat → Prop} {Q : State → Prop} {Ex : Heap → Prop} {b Ls : Nat} {xs : Nat → Int32} {aK aV : Nat → Nat} {Inv : gSt → Prop} {σ : gSt} {ce sl i qo : Nat} {x5 x6 : Option Value}
variable {cJ : ClassId} {f : Nat → Int64}
theorem law_head (X : LX p s m meth c w (fun q => s.heap.size ≤ q) b Ls xs) (hLs : Ls ≤ 3072) (hi : i ≤ Ls) (hce : ce ≤ 601024) (hsl : sl ≤ 7293034) (kk : i + 6 ≤ Ls → GL p l e room_1 s m #[Value.ref b] below meth c 7 w (fun q => s.heap.size ≤ q) (lw_Z below #[Value.ref b] s) Ex 40 [some (.ref b), some (.ref (w.2.1 0 0)), some (.ref (w.2.1 28 0)), some (.ref qo), some (.int (nI i)), x5, x6] [.int (xs i &&& 63)] σ ce sl) : GL p l e room_1 s m #[Value.ref b] below meth c 7 w (fun q => s.heap.size ≤ q) (lw_Z below #[Value.ref b] s) Ex 23 [some (.ref b), some (.ref (w.2.1 0 0)), some (.ref (w.2.1 28 0)), some (.ref qo), some (.int (nI i)), x5, x6] [] σ ce sl := by
  obtain ⟨F, hX, hbl, hbA, hL⟩ := X
  refine l_iload F dL_law_23 rfl ?_
  refine l_aload_n F dL_law_25 rfl ?_
  refine l_slen F hX hbl hbA dL_law_26 ?_
  refine l_bipush F dL_law_27 kb_6 ?_
  refine l_isub F dL_law_29 ?_
  refine l_icmp_gt F 1998 dL_law_30 rfl (fun q => ?_) (fun q => ?_)
  · refine l_iconst F dL_law_1998 kc_1 ?_
    intro H locs ls hl hH hX9 hS
    refine va_forget (fun q hq => hS.2.2 q hq) ?_
    refine W.widen (k := 601024) (n := 7293034) hce hsl ?_
    exact lw_ret F.1 F.2.1 F.2.2.2.2.2.1 F.2.2.2.2.2.2.1 dL_law_1999
  · have h6 : i + 6 ≤ Ls := law_arith hLs (by omega) q
    refine l_aload_n F dL_law_33 rfl ?_
    refine l_iload F dL_law_34 rfl ?_
    refine l_sld F hX hbl hbA (by omega) hL rfl dL_law_36 ?_
    refine l_bipush F dL_law_37 kb_63 ?_
    refine l_iand F dL_law_39 ?_
    exact kk h6
set_option maxRecDepth 20000 in
theorem law_sw (hOK : LawOK Inv) (hW : gEnv w aK aV) (hEX : gEnvX w) (htr : l.stackTraces = false) (hqo : ¬ gA w 0 41 qo) (hqA : s.heap.size ≤ qo) (hEo : ∀ (s U : State) (locs : List Loc), va_S (gAo w qo) s.heap U.heap locs → s.WarmedH U.vm → w.1.2 s → w.1.2 U) (hKJ : va_K w.1.1 vwCl [(cJ, .long)] s) (X : LX p s m meth c w (fun q => s.heap.size ≤ q) b Ls xs) (hi : i + 6 ≤ Ls) (hcs : ce + 1 ≤ room_1.cells ∧ sl + 6 ≤ room_1.slots) (hI : Inv σ) (kk : ∀ (σ' : gSt) (g : Nat → Int64) (x5 x6 : Option Value) (ce' sl' : Nat), Inv σ' → ce' ≤ ce + 1 → sl' ≤ sl + 6 → GL p l e room_1 s m #[Value.ref b] below meth c 7 w (fun q => s.heap.size ≤ q) (lw_Z below #[Value.ref b] s) (gOut w cJ qo g) 1992 [some (.ref b), some (.ref (w.2.1 0 0)), some (.ref (w.2.1 28 0)), some (.ref qo), some (.int (nI i)), x5, x6] [] σ' ce' sl') : GL p l e room_1 s m #[Value.ref b] below meth c 7 w (fun q => s.heap.size ≤ q) (lw_Z below #[Value.ref b] s) (gOut w cJ qo f) 40 [some (.ref b), some (.ref (w.2.1 0 0)), some (.ref (w.2.1 28 0)), some (.ref qo), some (.int (nI i)), x5, x6] [.int (xs i &&& 63)] σ ce sl := by
  have F := X.1
  have hEx : gKeep w (gOut w cJ qo f) := fun H H' _ hq hO => hO.kept hqo hq
  have hcs0 := hcs
  replace hcs : ce ≤ room_1.cells ∧ sl ≤ room_1.slots := ⟨by omega, by omega⟩
  by_cases q0 : xs i &&& 63 = 0
  · refine l_tableIn (off := 212) F 252 dL_law_40 (by rw [q0]; decide) (by rw [q0]; decide) (by rw [q0]; rfl) rfl ?_
    exact case_0 X hEx hi hcs hOK.1 hI (fun σ' h => kk σ' f x5 x6 _ _ h (by omega) (by omega))
  by_cases q1 : xs i &&& 63 = 1
  · refine l_tableIn (off := 285) F 325 dL_law_40 (by rw [q1]; decide) (by rw [q1]; decide) (by rw [q1]; rfl) rfl ?_
    exact case_1 hW X hEx hi hcs hOK.2.1 hI (fun σ' h => kk σ' f x5 x6 _ _ h (by omega) (by omega))
  by_cases q2 : xs i &&& 63 = 2
  · refine l_tableIn (off := 310) F 350 dL_law_40 (by rw [q2]; decide) (by rw [q2]; decide) (by rw [q2]; rfl) rfl ?_
    exact case_2 X hEx hi hcs hOK.2.2.1 hI (fun σ' h => kk σ' f x5 x6 _ _ h (by omega) (by omega))
  by_cases q3 : xs i &&& 63 = 3
  · refine l_tableIn (off := 323) F 363 dL_law_40 (by rw [q3]; decide) (by rw [q3]; decide) (by rw [q3]; rfl) rfl ?_
    exact case_3 X hEx hi hcs hOK.2.2.2.1 hI (fun σ' h => kk σ' f x5 x6 _ _ h (by omega) (by omega))
  by_cases q4 : xs i &&& 63 = 4
  · refine l_tableIn (off := 336) F 376 dL_law_40 (by rw [q4]; decide) (by rw [q4]; decide) (by rw [q4]; rfl) rfl ?_
    exact case_4 X hEx hi hcs hOK.2.2.2.2.1 hI (fun σ' h => kk σ' f x5 x6 _ _ h (by omega) (by omega))
  by_cases q5 : xs i &&& 63 = 5
  · refine l_tableIn (off := 361) F 401 dL_law_40 (by rw [q5]; decide) (by rw [q5]; decide) (by rw [q5]; rfl) rfl ?_
    exact case_5 X hEx hi hcs hOK.2.2.2.2.2.1 hI (fun σ' h => kk σ' f x5 x6 _ _ h (by omega) (by omega))
  by_cases q6 : xs i &&& 63 = 6
  · refine l_tableIn (off := 398) F 438 dL_law_40 (by rw [q6]; decide) (by rw [q6]; decide) (by rw [q6]; rfl) rfl ?_
    exact case_6 X hEx hi hcs hOK.2.2.2.2.2.2.1 hI (fun σ' h => kk σ' f x5 x6 _ _ h (by omega) (by omega))
  by_cases q7 : xs i &&& 63 = 7
  · refine l_tableIn (off := 435) F 475 dL_law_40 (by rw [q7]; decide) (by rw [q7]; decide) (by rw [q7]; rfl) rfl ?_
    exact case_7 X hEx hi hcs hOK.2.2.2.2.2.2.2.1 hI (fun σ' h => kk σ' f x5 x6 _ _ h (by omega) (by omega))
  by_cases q8 : xs i &&& 63 = 8
  · refine l_tableIn (off := 472) F 512 dL_law_40 (by rw [q8]; decide) (by rw [q8]; decide) (by rw [q8]; rfl) rfl ?_
    exact case_8 X hEx hi hcs hOK.2.2.2.2.2.2.2.2.1 hI (fun σ' h => kk σ' f x5 x6 _ _ h (by omega) (by omega))
  by_cases q9 : xs i &&& 63 = 9
  · refine l_tableIn (off := 521) F 561 dL_law_40 (by rw [q9]; decide) (by rw [q9]; decide) (by rw [q9]; rfl) rfl ?_
    exact case_9 X hEx hi hcs hOK.2.2.2.2.2.2.2.2.2.1 hI (fun σ' h => kk σ' f x5 x6 _ _ h (by omega) (by omega))
  by_cases q10 : xs i &&& 63 = 10
  · refine l_tableIn (off := 558) F 598 dL_law_40 (by rw [q10]; decide) (by rw [q10]; decide) (by rw [q10]; rfl) rfl ?_
    exact case_10 X hEx hi hcs hOK.2.2.2.2.2.2.2.2.2.2.1 hI (fun σ' h => kk σ' f x5 x6 _ _ h (by omega) (by omega))
  by_cases q11 : xs i &&& 63 = 11
  · refine l_tableIn (off := 583) F 623 dL_law_40 (by rw [q11]; decide) (by rw [q11]; decide) (by rw [q11]; rfl) rfl ?_
    exact case_11 X hEx hi hcs hOK.2.2.2.2.2.2.2.2.2.2.2.1 hI (fun σ' h => kk σ' f x5 x6 _ _ h (by omega) (by omega))
  by_cases q12 : xs i &&& 63 = 12
  · refine l_tableIn (off := 608) F 648 dL_law_40 (by rw [q12]; decide) (by rw [q12]; decide) (by rw [q12]; rfl) rfl ?_
    exact case_12 X hEx hi hcs hOK.2.2.2.2.2.2.2.2.2.2.2.2.1 hI (fun σ' h => kk σ' f x5 x6 _ _ h (by omega) (by omega))
  by_cases q13 : xs i &&& 63 = 13
  · refine l_tableIn (off := 657) F 697 dL_law_40 (by rw [q13]; decide) (by rw [q13]; decide) (by rw [q13]; rfl) rfl ?_
    exact case_13 X hEx hi hcs hOK.2.2.2.2.2.2.2.2.2.2.2.2.2.1 hI (fun σ' h => kk σ' f x5 x6 _ _ h (by omega) (by omega))
  by_cases q14 : xs i &&& 63 = 14
  · refine l_tableIn (off := 706) F 746 dL_law_40 (by rw [q14]; decide) (by rw [q14]; decide) (by rw [q14]; rfl) rfl ?_
    exact case_14 X hEx hi hcs hOK.2.2.2.2.2.2.2.2.2.2.2.2.2.2.1 hI (fun σ' h => kk σ' f x5 x6 _ _ h (by omega) (by omega))
  by_cases q15 : xs i &&& 63 = 15
  · refine l_tableIn (off := 755) F 795 dL_law_40 (by rw [q15]; decide) (by rw [q15]; decide) (by rw [q15]; rfl) rfl ?_
    exact case_15 X hEx hi hcs hOK.2.2.2.2.2.2.2.2.2.2.2.2.2.2.2.1 hI (fun σ' h => kk σ' f x5 x6 _ _ h (by omega) (by omega))
  by_cases q16 : xs i &&& 63 = 16
  · refine l_tableIn (off := 792) F 832 dL_law_40 (by rw [q16]; decide) (by rw [q16]; decide) (by rw [q16]; rfl) rfl ?_
    exact case_16 X hEx hi hcs hOK.2.2.2.2.2.2.2.2.2.2.2.2.2.2.2.2.1 hI (fun σ' h => kk σ' f x5 x6 _ _ h (by omega) (by omega))
  by_cases q17 : xs i &&& 63 = 17
  · refine l_tableIn (off := 817) F 857 dL_law_40 (by rw [q17]; decide) (by rw [q17]; decide) (by rw [q17]; rfl) rfl ?_
    exact case_17 X hEx hi hcs hOK.2.2.2.2.2.2.2.2.2.2.2.2.2.2.2.2.2.1 hI (fun σ' h => kk σ' f x5 x6 _ _ h (by omega) (by omega))
  by_cases q18 : xs i &&& 63 = 18
  · refine l_tableIn (off := 854) F 894 dL_law_40 (by rw [q18]; decide) (by rw [q18]; decide) (by rw [q18]; rfl) rfl ?_
    exact case_18 X hEx hi hcs hOK.2.2.2.2.2.2.2.2.2.2.2.2.2.2.2.2.2.2.1 hI (fun σ' h => kk σ' f x5 x6 _ _ h (by omega) (by omega))
  by_cases q19 : xs i &&& 63 = 19
  · refine l_tableIn (off := 879) F 919 dL_law_40 (by rw [q19]; decide) (by rw [q19]; decide) (by rw [q19]; rfl) rfl ?_
    exact case_19 X hEx hi hcs hOK.2.2.2.2.2.2.2.2.2.2.2.2.2.2.2.2.2.2.2.1 hI (fun σ' h => kk σ' f x5 x6 _ _ h (by omega) (by omega))
  by_cases q20 : xs i &&& 63 = 20
  · refine l_tableIn (off := 904) F 944 dL_law_40 (by rw [q20]; decide) (by rw [q20]; decide) (by rw [q20]; rfl) rfl ?_
    exact case_20 X hEx hi hcs hOK.2.2.2.2.2.2.2.2.2.2.2.2.2.2.2.2.2.2.2.2.1 hI (fun σ' h => kk σ' f x5 x6 _ _ h (by omega) (by omega))
  by_cases q21 : xs i &&& 63 = 21
  · refine l_tableIn (off := 941) F 981 dL_law_40 (by rw [q21]; decide) (by rw [q21]; decide) (by rw [q21]; rfl) rfl ?_
    exact case_21 X hEx hi hcs hOK.2.2.2.2.2.2.2.2.2.2.2.2.2.2.2.2.2.2.2.2.2.1 hI (fun σ' h => kk σ' f x5 x6 _ _ h (by omega) (by omega))
  by_cases q22 : xs i &&& 63 = 22
  · refine l_tableIn (off := 966) F 1006 dL_law_40 (by rw [q22]; decide) (by rw [q22]; decide) (by rw [q22]; rfl) rfl ?_
    exact case_22 X hEx hi hcs hOK.2.2.2.2.2.2.2.2.2.2.2.2.2.2.2.2.2.2.2.2.2.2.1 hI (fun σ' h => kk σ' f x5 x6 _ _ h (by omega) (by omega))
  by_cases q23 : xs i &&& 63 = 23
  · refine l_tableIn (off := 991) F 1031 dL_law_40 (by rw [q23]; decide) (by rw [q23]; decide) (by rw [q23]; rfl) rfl ?_
    exact case_23 X hEx hi hcs hOK.2.2.2.2.2.2.2.2.2.2.2.2.2.2.2.2.2.2.2.2.2.2.2.1 hI (fun σ' h => kk σ' f x5 x6 _ _ h (by omega) (by omega))
  by_cases q24 : xs i &&& 63 = 24
  · refine l_tableIn (off := 1028) F 1068 dL_law_40 (by rw [q24]; decide) (by rw [q24]; decide) (by rw [q24]; rfl) rfl ?_
    exact case_24 X hEx hi hcs hOK.2.2.2.2.2.2.2.2.2.2.2.2.2.2.2.2.2.2.2.2.2.2.2.2.1 hI (fun σ' h => kk σ' f x5 x6 _ _ h (by omega) (by omega))
  by_cases q25 : xs i &&& 63 = 25
  · refine l_tableIn (off := 1077) F 1117 dL_law_40 (by rw [q25]; decide) (by rw [q25]; decide) (by rw [q25]; rfl) rfl ?_
    exact case_25 X hEx hi hcs hOK.2.2.2.2.2.2.2.2.2.2.2.2.2.2.2.2.2.2.2.2.2.2.2.2.2.1 hI (fun σ' h => kk σ' f x5 x6 _ _ h (by omega) (by omega))
  by_cases q26 : xs i &&& 63 = 26
  · refine l_tableIn (off := 1114) F 1154 dL_law_40 (by rw [q26]; decide) (by rw [q26]; decide) (by rw [q26]; rfl) rfl ?_
    exact case_26 X hEx hi hcs hOK.2.2.2.2.2.2.2.2.2.2.2.2.2.2.2.2.2.2.2.2.2.2.2.2.2.2.1 hI (fun σ' h => kk σ' f x5 x6 _ _ h (by omega) (by omega))
  by_cases q27 : xs i &&& 63 = 27
  · refine l_tableIn (off := 1139) F 1179 dL_law_40 (by rw [q27]; decide) (by rw [q27]; decide) (by rw [q27]; rfl) rfl ?_
    exact case_27 X hEx hi hcs hOK.2.2.2.2.2.2.2.2.2.2.2.2.2.2.2.2.2.2.2.2.2.2.2.2.2.2.2.1 hI (fun σ' h => kk σ' f x5 x6 _ _ h (by omega) (by omega))
  by_cases q28 : xs i &&& 63 = 28
  · refine l_tableIn (off := 1188) F 1228 dL_law_40 (by rw [q28]; decide) (by rw [q28]; decide) (by rw [q28]; rfl) rfl ?_
    exact case_28 X hEx hi hcs hOK.2.2.2.2.2.2.2.2.2.2.2.2.2.2.2.2.2.2.2.2.2.2.2.2.2.2.2.2.1 hI (fun σ' h => kk σ' f x5 x6 _ _ h (by omega) (by omega))
  by_cases q29 : xs i &&& 63 = 29
  · refine l_tableIn (off := 1225) F 1265 dL_law_40 (by rw [q29]; decide) (by rw [q29]; decide) (by rw [q29]; rfl) rfl ?_
    exact case_29 X hEx hi hcs hOK.2.2.2.2.2.2.2.2.2.2.2.2.2.2.2.2.2.2.2.2.2.2.2.2.2.2.2.2.2.1 hI (fun σ' h => kk σ' f x5 x6 _ _ h (by omega) (by omega))
  by_cases q30 : xs i &&& 63 = 30
  · refine l_tableIn (off := 1250) F 1290 dL_law_40 (by rw [q30]; decide) (by rw [q30]; decide) (by rw [q30]; rfl) rfl ?_
    exact case_30 X hEx hi hcs hOK.2.2.2.2.2.2.2.2.2.2.2.2.2.2.2.2.2.2.2.2.2.2.2.2.2.2.2.2.2.2.1 hI (fun σ' h => kk σ' f x5 x6 _ _ h (by omega) (by omega))
  by_cases q31 : xs i &&& 63 = 31
  · refine l_tableIn (off := 1299) F 1339 dL_law_40 (by rw [q31]; decide) (by rw [q31]; decide) (by rw [q31]; rfl) rfl ?_
    exact case_31 X hEx hi hcs hOK.2.2.2.2.2.2.2.2.2.2.2.2.2.2.2.2.2.2.2.2.2.2.2.2.2.2.2.2.2.2.2.1 hI (fun σ' h => kk σ' f x5 x6 _ _ h (by omega) (by omega))
  by_cases q32 : xs i &&& 63 = 32
  · refine l_tableIn (off := 1336) F 1376 dL_law_40 (by rw [q32]; decide) (by rw [q32]; decide) (by rw [q32]; rfl) rfl ?_
    exact case_32 X hEx hi hcs hOK.2.2.2.2.2.2.2.2.2.2.2.2.2.2.2.2.2.2.2.2.2.2.2.2.2.2.2.2.2.2.2.2.1 hI (fun σ' h => kk σ' f x5 x6 _ _ h (by omega) (by omega))
  by_cases q33 : xs i &&& 63 = 33
  · refine l_tableIn (off := 1361) F 1401 dL_law_40 (by rw [q33]; decide) (by rw [q33]; decide) (by rw [q33]; rfl) rfl ?_
    exact case_33 X hEx hi hcs hOK.2.2.2.2.2.2.2.2.2.2.2.2.2.2.2.2.2.2.2.2.2.2.2.2.2.2.2.2.2.2.2.2.2.1 hI (fun σ' h => kk σ' f x5 x6 _ _ h (by omega) (by omega))
  by_cases q34 : xs i &&& 63 = 34
  · refine l_tableIn (off := 1398) F 1438 dL_law_40 (by rw [q34]; decide) (by rw [q34]; decide) (by rw [q34]; rfl) rfl ?_
    exact case_34 X hEx hi hcs hOK.2.2.2.2.2.2.2.2.2.2.2.2.2.2.2.2.2.2.2.2.2.2.2.2.2.2.2.2.2.2.2.2.2.2.1 hI (fun σ' h => kk σ' f x5 x6 _ _ h (by omega) (by omega))
  by_cases q35 : xs i &&& 63 = 35
  · refine l_tableIn (off := 1423) F 1463 dL_law_40 (by rw [q35]; decide) (by rw [q35]; decide) (by rw [q35]; rfl) rfl ?_
    exact case_35 X hEx hi hcs hOK.2.2.2.2.2.2.2.2.2.2.2.2.2.2.2.2.2.2.2.2.2.2.2.2.2.2.2.2.2.2.2.2.2.2.2.1 hI (fun σ' h => kk σ' f x5 x6 _ _ h (by omega) (by omega))
  by_cases q36 : xs i &&& 63 = 36
  · refine l_tableIn (off := 1472) F 1512 dL_law_40 (by rw [q36]; decide) (by rw [q36]; decide) (by rw [q36]; rfl) rfl ?_
    exact case_36 X hEx hi hcs hOK.2.2.2.2.2.2.2.2.2.2.2.2.2.2.2.2.2.2.2.2.2.2.2.2.2.2.2.2.2.2.2.2.2.2.2.2.1 hI (fun σ' h => kk σ' f x5 x6 _ _ h (by omega) (by omega))
  by_cases q37 : xs i &&& 63 = 37
  · refine l_tableIn (off := 1509) F 1549 dL_law_40 (by rw [q37]; decide) (by rw [q37]; decide) (by rw [q37]; rfl) rfl ?_
    exact case_37 X hEx hi hcs hOK.2.2.2.2.2.2.2.2.2.2.2.2.2.2.2.2.2.2.2.2.2.2.2.2.2.2.2.2.2.2.2.2.2.2.2.2.2.1 hI (fun σ' h => kk σ' f x5 x6 _ _ h (by omega) (by omega))
  by_cases q38 : xs i &&& 63 = 38
  · refine l_tableIn (off := 1558) F 1598 dL_law_40 (by rw [q38]; decide) (by rw [q38]; decide) (by rw [q38]; rfl) rfl ?_
    exact case_38 X hEx hi hcs hOK.2.2.2.2.2.2.2.2.2.2.2.2.2.2.2.2.2.2.2.2.2.2.2.2.2.2.2.2.2.2.2.2.2.2.2.2.2.2.1 hI (fun σ' h => kk σ' f x5 x6 _ _ h (by omega) (by omega))
  by_cases q39 : xs i &&& 63 = 39
  · refine l_tableIn (off := 1595) F 1635 dL_law_40 (by rw [q39]; decide) (by rw [q39]; decide) (by rw [q39]; rfl) rfl ?_
    exact case_39 X hEx hi hcs hOK.2.2.2.2.2.2.2.2.2.2.2.2.2.2.2.2.2.2.2.2.2.2.2.2.2.2.2.2.2.2.2.2.2.2.2.2.2.2.2.1 hI (fun σ' h => kk σ' f x5 x6 _ _ h (by omega) (by omega))
  by_cases q40 : xs i &&& 63 = 40
  · refine l_tableIn (off := 1632) F 1672 dL_law_40 (by rw [q40]; decide) (by rw [q40]; decide) (by rw [q40]; rfl) rfl ?_
    exact case_40 X hEx hi hcs hOK.2.2.2.2.2.2.2.2.2.2.2.2.2.2.2.2.2.2.2.2.2.2.2.2.2.2.2.2.2.2.2.2.2.2.2.2.2.2.2.2.1 hI (fun σ' h => kk σ' f x5 x6 _ _ h (by omega) (by omega))
  by_cases q41 : xs i &&& 63 = 41
  · refine l_tableIn (off := 1669) F 1709 dL_law_40 (by rw [q41]; decide) (by rw [q41]; decide) (by rw [q41]; rfl) rfl ?_
    exact case_41 X hEx hi hcs hOK.2.2.2.2.2.2.2.2.2.2.2.2.2.2.2.2.2.2.2.2.2.2.2.2.2.2.2.2.2.2.2.2.2.2.2.2.2.2.2.2.2.1 hI (fun σ' h => kk σ' f x5 x6 _ _ h (by omega) (by omega))
  by_cases q42 : xs i &&& 63 = 42
  · refine l_tableIn (off := 1706) F 1746 dL_law_40 (by rw [q42]; decide) (by rw [q42]; decide) (by rw [q42]; rfl) rfl ?_
    exact case_42 X hEx hi hcs hOK.2.2.2.2.2.2.2.2.2.2.2.2.2.2.2.2.2.2.2.2.2.2.2.2.2.2.2.2.2.2.2.2.2.2.2.2.2.2.2.2.2.2.1 hI (fun σ' h => kk σ' f x5 x6 _ _ h (by omega) (by omega))
  by_cases q43 : xs i &&& 63 = 43
  · refine l_tableIn (off := 1743) F 1783 dL_law_40 (by rw [q43]; decide) (by rw [q43]; decide) (by rw [q43]; rfl) rfl ?_
    exact case_43 X hEx hi hcs hOK.2.2.2.2.2.2.2.2.2.2.2.2.2.2.2.2.2.2.2.2.2.2.2.2.2.2.2.2.2.2.2.2.2.2.2.2.2.2.2.2.2.2.2.1 hI (fun σ' h => kk σ' f x5 x6 _ _ h (by omega) (by omega))
  by_cases q44 : xs i &&& 63 = 44
  · refine l_tableIn (off := 1792) F 1832 dL_law_40 (by rw [q44]; decide) (by rw [q44]; decide) (by rw [q44]; rfl) rfl ?_
    exact case_44 X hEx hi hcs hOK.2.2.2.2.2.2.2.2.2.2.2.2.2.2.2.2.2.2.2.2.2.2.2.2.2.2.2.2.2.2.2.2.2.2.2.2.2.2.2.2.2.2.2.2.1 hI (fun σ' h => kk σ' f x5 x6 _ _ h (by omega) (by omega))
  by_cases q45 : xs i &&& 63 = 45
  · refine l_tableIn (off := 1829) F 1869 dL_law_40 (by rw [q45]; decide) (by rw [q45]; decide) (by rw [q45]; rfl) rfl ?_
    exact case_45 X hEx hi hcs hOK.2.2.2.2.2.2.2.2.2.2.2.2.2.2.2.2.2.2.2.2.2.2.2.2.2.2.2.2.2.2.2.2.2.2.2.2.2.2.2.2.2.2.2.2.2.1 hI (fun σ' h => kk σ' f x5 x6 _ _ h (by omega) (by omega))
  by_cases q46 : xs i &&& 63 = 46
  · refine l_tableIn (off := 1842) F 1882 dL_law_40 (by rw [q46]; decide) (by rw [q46]; decide) (by rw [q46]; rfl) rfl ?_
    exact case_46 X hEX htr hqo hqA hEo hKJ hi hcs0 hOK.2.2.2.2.2.2.2.2.2.2.2.2.2.2.2.2.2.2.2.2.2.2.2.2.2.2.2.2.2.2.2.2.2.2.2.2.2.2.2.2.2.2.2.2.2.2.1 hI (fun σ' g x5 x6 h => kk σ' g x5 x6 _ _ h (Nat.le_refl _) (Nat.le_refl _))
  by_cases q47 : xs i &&& 63 = 47
  · refine l_tableIn (off := 1926) F 1966 dL_law_40 (by rw [q47]; decide) (by rw [q47]; decide) (by rw [q47]; rfl) rfl ?_
    exact case_47 X hEx hi hcs hOK.2.2.2.2.2.2.2.2.2.2.2.2.2.2.2.2.2.2.2.2.2.2.2.2.2.2.2.2.2.2.2.2.2.2.2.2.2.2.2.2.2.2.2.2.2.2.2.1 hI (fun σ' h => kk σ' f x5 x6 _ _ h (by omega) (by omega))
  by_cases q48 : xs i &&& 63 = 48
  · refine l_tableIn (off := 1939) F 1979 dL_law_40 (by rw [q48]; decide) (by rw [q48]; decide) (by rw [q48]; rfl) rfl ?_
    exact case_48 X hEx hi hcs hOK.2.2.2.2.2.2.2.2.2.2.2.2.2.2.2.2.2.2.2.2.2.2.2.2.2.2.2.2.2.2.2.2.2.2.2.2.2.2.2.2.2.2.2.2.2.2.2.2 hI (fun σ' h => kk σ' f x5 x6 _ _ h (by omega) (by omega))
  refine l_tableOut F 1992 dL_law_40 (tabOut (b := 48) (by decide) (fun j hj => by rcases (show j = 0 ∨ j = 1 ∨ j = 2 ∨ j = 3 ∨ j = 4 ∨ j = 5 ∨ j = 6 ∨ j = 7 ∨ j = 8 ∨ j = 9 ∨ j = 10 ∨ j = 11 ∨ j = 12 ∨ j = 13 ∨ j = 14 ∨ j = 15 ∨ j = 16 ∨ j = 17 ∨ j = 18 ∨ j = 19 ∨ j = 20 ∨ j = 21 ∨ j = 22 ∨ j = 23 ∨ j = 24 ∨ j = 25 ∨ j = 26 ∨ j = 27 ∨ j = 28 ∨ j = 29 ∨ j = 30 ∨ j = 31 ∨ j = 32 ∨ j = 33 ∨ j = 34 ∨ j = 35 ∨ j = 36 ∨ j = 37 ∨ j = 38 ∨ j = 39 ∨ j = 40 ∨ j = 41 ∨ j = 42 ∨ j = 43 ∨ j = 44 ∨ j = 45 ∨ j = 46 ∨ j = 47 ∨ j = 48 by omega) with rfl | rfl | rfl | rfl | rfl | rfl | rfl | rfl | rfl | rfl | rfl | rfl | rfl | rfl | rfl | rfl | rfl | rfl | rfl | rfl | rfl | rfl | rfl | rfl | rfl | rfl | rfl | rfl | rfl | rfl | rfl | rfl | rfl | rfl | rfl | rfl | rfl | rfl | rfl | rfl | rfl | rfl | rfl | rfl | rfl | rfl | rfl | rfl | rfl <;> assumption)) rfl ?_
  exact kk σ f x5 x6 ce sl hI (by omega) (by omega)
theorem law_loop (hOK : LawOK Inv) (hW : gEnv w aK aV) (hEX : gEnvX w) (htr : l.stackTraces = false) (hqo : ¬ gA w 0 41 qo) (hqA : s.heap.size ≤ qo) (hEo : ∀ (s U : State) (locs : List Loc), va_S (gAo w qo) s.heap U.heap locs → s.WarmedH U.vm → w.1.2 s → w.1.2 U) (hKJ : va_K w.1.1 vwCl [(cJ, .long)] s) (X : LX p s m meth c w (fun q => s.heap.size ≤ q) b Ls xs) (hLs : Ls ≤ 3072) (c0 s0 : Nat) (hc0 : c0 ≤ 1000) (hs0 : s0 ≤ 20000) : ∀ (n i : Nat) (σ : gSt) (f : Nat → Int64) (ce sl : Nat) (x5 x6 : Option Value), Ls ≤ i + 6 * n → i ≤ Ls → Inv σ → ce ≤ c0 + i → sl ≤ s0 + i → GL p l e room_1 s m #[Value.ref b] below meth c 7 w (fun q => s.heap.size ≤ q) (lw_Z below #[Value.ref b] s) (gOut w cJ qo f) 23 [some (.ref b), some (.ref (w.2.1 0 0)), some (.ref (w.2.1 28 0)), some (.ref qo), some (.int (nI i)), x5, x6] [] σ ce sl := by
  have F := X.1
  intro n
  induction n with
  | zero =>
    intro i σ f ce sl x5 x6 h1 h2 hI h3 h4
    exact law_head X hLs h2 (by omega) (by omega) (fun h => by omega)
  | succ n ih =>
    intro i σ f ce sl x5 x6 h1 h2 hI h3 h4
    refine law_head X hLs h2 (by omega) (by omega) (fun hi => ?_)
    have hr1 : room_1.cells = 601024 := rfl
    have hr2 : room_1.slots = 7293034 := rfl
    refine law_sw hOK hW hEX htr hqo hqA hEo hKJ X hi ⟨by omega, by omega⟩ hI (fun σ' g x5 x6 ce' sl' hI' h5 h6 => ?_)
    refine l_iinc (v := nI (i + 6)) F dL_law_1992 rfl (by rw [kc_6, ← nc_6, nI_add]) ?_
    refine l_goto F 23 dL_law_1995 rfl ?_
    exact ih (i + 6) σ' g ce' sl' x5 x6 (by omega) (by omega) hI' (by omega) (by omega)
end LP
