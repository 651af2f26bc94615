theorem gGood_inS {own : String} {idx : Nat} {y : MethodName} {k : Cond} (h1 : Cond.methodLink own idx y ∈ gGood) (h2 : Cond.static y ∈ gGood) (h3 : Cond.initialized y.cls ∈ gGood) (h4 : k ∈ gGood) : GoodIn gGood (va_wsS own idx y (k :: gGood)) := by
  intro x hx
  have h : x ∈ gGood := by
    simp only [va_wsS, List.mem_append, List.mem_cons, List.not_mem_nil, or_false] at hx
    rcases hx with (rfl | rfl | rfl) | rfl | hx
    · exact h1
    · exact h2
    · exact h3
    · exact h4
    · exact hx
  exact ⟨h, good_of_word (List.mem_filter.mp h).2⟩
theorem ms_L_208 : Cond.methodLink RL 208 yL_named ∈ gGood ∧ Cond.static yL_named ∈ gGood ∧ Cond.initialized RL ∈ gGood := ⟨gGood_at 1282 (by decide +kernel) rfl, gGood_at 1283 (by decide +kernel) rfl, gGood_at 90 (by decide +kernel) rfl⟩
section LB
variable {p : Program} {l : Launch} {e : Env} {s : State} {m : MethodId} {below : List Frame} {meth : Method} {c : Code} {w : gWd} {A : Nat → Prop} {Q : State → Prop} {Ex : Heap → Prop} {b Ls : Nat} {xs : Nat → Int32} {aK aV : Nat → Nat} {Inv : gSt → Prop} {σ : gSt} {ce sl i qo : Nat} {x5 x6 : Option Value}
theorem l_lald {own : String} {cc : ByteArray} {nL : Nat} {args : Array Value} {R : Room} {rt : Option FieldType} {L : List (Option Value)} {st : List Value} {pc : Nat} {cJ : ClassId} {f : Nat → Int64} (F : LF p s m args meth c own cc nL rt w A) (hKJ : va_K w.1.1 vwCl [(cJ, .long)] s) (hdg : decode cc pc = .ok (.laload, 1)) (kk : GL p l e R s m args below meth c nL w A Q (gOut w cJ qo f) (pc + 1) L (.long (f 0) :: st) σ ce sl) : GL p l e R s m args below meth c nL w A Q (gOut w cJ qo f) pc L (.int 0 :: .ref qo :: st) σ ce sl := by
  intro H locs ls hl hH hO hS
  exact va_lald F.1 F.2.1 hKJ hO 0 0 rfl rfl (by unfold vp_in; decide) hdg (kk H locs ls hl hH hO hS)
theorem l_i2l {own : String} {cc : ByteArray} {nL : Nat} {args : Array Value} {R : Room} {rt : Option FieldType} {L : List (Option Value)} {st : List Value} {pc : Nat} {x : Int32} (F : LF p s m args meth c own cc nL rt w A) (hdg : decode cc pc = .ok (.i2l, 1)) (kk : GL p l e R s m args below meth c nL w A Q Ex (pc + 1) L (.long x.toInt64 :: st) σ ce sl) : GL p l e R s m args below meth c nL w A Q Ex pc L (.int x :: st) σ ce sl := l_of (fun H locs ls hl k => lv_i2l F.1 F.2.1 hdg rfl k) kk
theorem l_lcmp {own : String} {cc : ByteArray} {nL : Nat} {args : Array Value} {R : Room} {rt : Option FieldType} {L : List (Option Value)} {st : List Value} {pc : Nat} {x y : Int64} (F : LF p s m args meth c own cc nL rt w A) (hdg : decode cc pc = .ok (.lcmp, 1)) (kk : GL p l e R s m args below meth c nL w A Q Ex (pc + 1) L (.int (lg_cmp x y) :: st) σ ce sl) : GL p l e R s m args below meth c nL w A Q Ex pc L (.long y :: .long x :: st) σ ce sl := l_of (fun H locs ls hl k => W.lcmp F.1 F.2.1 hdg k) kk
theorem l_lnamed {cJ : ClassId} {f : Nat → Int64} {a1 a2 : Int32} {r : Int32 × gSt} {L : List (Option Value)} (F : LF p s m #[Value.ref b] meth c RL code 7 ret w A) (hX : gEnvX w) (htr : l.stackTraces = false) (hqo : ¬ gA w 0 41 qo) (hqA : A qo) (hEo : ∀ (s U : State) (locs : List Loc), va_S (gAo w qo) s.heap U.heap locs → s.WarmedH U.vm → w.1.2 s → w.1.2 U) (hKJ : va_K w.1.1 vwCl [(cJ, .long)] s) (hcs : ce + 1 ≤ room_1.cells ∧ sl + 6 ≤ room_1.slots) (h : f_nm a1 a2 σ = some r)
    (kk : ∀ (a : Int32) (g : Nat → Int64), (r.1 = -1 ∧ a = 1) ∨ (¬ r.1 = -1 ∧ a = 0 ∧ g 0 = r.1.toInt64) → GL p l e room_1 s m #[Value.ref b] below meth c 7 w A Q (gOut w cJ qo g) 1907 L [.int a] r.2 (ce + 1) (sl + 6)) :
    GL p l e room_1 s m #[Value.ref b] below meth c 7 w A Q (gOut w cJ qo f) 1904 L [.ref qo, .int a2, .int a1, .ref (w.2.1 0 0)] σ ce sl := by
  intro H locs ls hl hH hO hS
  have hT := F.2.2.2.2.1
  have hsub : ∀ q, gAo w qo q → A q := fun q h => h.elim (F.2.2.2.2.2.2.2.2.2.2.2 q) (fun h => by rw [h]; exact hqA)
  have hcw : vx_CSW room_1 s #[Value.ref b] RL 208 yL_named cL_named 5 (some .int) [(0, 10, 13, 13)] (Cond.codeWith yL_named cL_named 5 (some .int) [(0, 10, 13, 13)] :: gGood) (gR4 7 1 6 105) 1 6 4 := vx_cwSW 4 hT (gGood_inS ms_L_208.1 ms_L_208.2.1 ms_L_208.2.2 x_cw) rfl rfl rfl ⟨by decide, by decide, by decide +kernel⟩ ⟨Nat.le_of_ble_eq_true rfl, Nat.le_of_ble_eq_true rfl⟩
  have hrun := vx_runSX (Ts := gGood) (cells := ce) (slots := sl) (As := [.ref (w.2.1 0 0), .int a1, .int a2, .ref qo]) ⟨F.1, F.2.1, F.2.2.1, F.2.2.2.1, hT⟩ (ln_ok (cJ := cJ) (f := f) hX htr hqo hEo h) hcw ⟨fun a U g mk q => ⟨q.1, q.2.1, gK.same (u := U) (U := U.calling g mk a) rfl rfl q.2.2.1, q.2.2.2.1, va_K.moved (u := U) (U := U.calling g mk a) (Vm.Alike.refl U.vm) q.2.2.2.2⟩, fun U hU hWm => ⟨rfl, by rw [hU]; exact hH, ⟨F.2.2.2.2.2.2.2.1.moved hWm.alike, F.2.2.2.2.2.2.2.2.1, F.2.2.2.2.2.2.2.2.2.2.1 U locs (by rw [hU]; exact hS) hWm, F.2.2.2.2.2.2.2.2.2.1⟩, by rw [hU]; exact hO, hKJ.moved hWm.alike⟩⟩ (g := F0 m 1904 ls [.ref qo, .int a2, .int a1, .ref (w.2.1 0 0)]) (e := e) (below := below) (meth := meth) (locs := locs) (rest := []) rfl rfl (by show ls.size = 7; exact hl.1) rfl (lv_room (Nat.le_of_ble_eq_true rfl)) dL_law_1904 hcs
  intro T hT1 X9
  rcases hrun T hT1 X9 with ⟨v, st₀, t, T', L', h0', X', hL, e1, e2, ⟨⟨a, g, hv, hp, hB1, hB2⟩, hF⟩, stp⟩ | ⟨q, st₀, t, T', L', E, cx, -, -, -, -, -, hfalse, -⟩
  · cases hv
    have hF1 : H.size ≤ t.heap.size := by rw [← h0']; exact hF.1
    have hF2 : ∀ q : Nat, q < H.size → ¬ gAo w qo q → t.heap[q]? = H[q]? := fun q h1 h2 => by rw [hF.2 q (by rw [h0']; exact h1) h2, h0']
    obtain ⟨t2, a1', b1⟩ := kk a g hp t.heap (locs ++ L') ls hl hB1 hB2 ⟨Nat.le_trans hS.1 hF1, fun q h1 h2 => (hF2 q (Nat.lt_of_lt_of_le h1 hS.1) (fun h => h2 (hsub q h))).trans (hS.2.1 q h1 h2), fun q hq => by
      rcases List.mem_append.mp hq with h | h
      · exact hS.2.2 q h
      · exact hsub _ (hL q h)⟩ T' e1 X'
    exact ⟨t2, stp t2 a1', b1⟩
  · exact hfalse.elim
theorem lg_cmp_self (x : Int64) : lg_cmp x x = 0 := by unfold lg_cmp; simp
theorem case_46 {cJ : ClassId} {f : Nat → Int64} (X : LX p s m meth c w A b Ls xs) (hEX : gEnvX w) (htr : l.stackTraces = false) (hqo : ¬ gA w 0 41 qo) (hqA : A qo) (hEo : ∀ (s U : State) (locs : List Loc), va_S (gAo w qo) s.heap U.heap locs → s.WarmedH U.vm → w.1.2 s → w.1.2 U) (hKJ : va_K w.1.1 vwCl [(cJ, .long)] s) (hi : i + 6 ≤ Ls) (hcs : ce + 1 ≤ room_1.cells ∧ sl + 6 ≤ room_1.slots) (hs : SSN Inv) (hI : Inv σ)
    (kk : ∀ (σ' : gSt) (g : Nat → Int64) (x5 x6 : Option Value), Inv σ' → GL p l e room_1 s m #[Value.ref b] below meth c 7 w A Q (gOut w cJ qo g) 1992 [some (.ref b), some (.ref (w.2.1 0 0)), some (.ref (w.2.1 28 0)), some (.ref qo), some (.int (nI i)), x5, x6] [] σ' (ce + 1) (sl + 6)) :
    GL p l e room_1 s m #[Value.ref b] below meth c 7 w A Q (gOut w cJ qo f) 1882 [some (.ref b), some (.ref (w.2.1 0 0)), some (.ref (w.2.1 28 0)), some (.ref qo), some (.int (nI i)), x5, x6] [] σ ce sl := by
  obtain ⟨F, hX, hbl, hbA, hL⟩ := X
  obtain ⟨a2, ha2, hz⟩ : ∃ a2 : Int32, (a2 = 0 ∨ a2 = 1) ∧ ((xs (i + 2) = 0 ∧ a2 = 0) ∨ (¬ xs (i + 2) = 0 ∧ a2 = 1)) := by
    by_cases hz : xs (i + 2) = 0
    · exact ⟨0, Or.inl rfl, Or.inl ⟨hz, rfl⟩⟩
    · exact ⟨1, Or.inr rfl, Or.inr ⟨hz, rfl⟩⟩
  obtain ⟨r1, r2, r3, h1, h2, h3, e1, e2, hI3⟩ := hs (xs (i + 1)) a2 ha2 σ hI
  have tail : ∀ (a : Int32) (g : Nat → Int64), (r1.1 = -1 ∧ a = 1) ∨ (¬ r1.1 = -1 ∧ a = 0 ∧ g 0 = r1.1.toInt64) → GL p l e room_1 s m #[Value.ref b] below meth c 7 w A Q (gOut w cJ qo g) 1930 [some (.ref b), some (.ref (w.2.1 0 0)), some (.ref (w.2.1 28 0)), some (.ref qo), some (.int (nI i)), some (.int a), x6] [.int a2, .int (xs (i + 1)), .ref (w.2.1 28 0)] r1.2 (ce + 1) (sl + 6) := by
    intro a g ha
    have hEx : gKeep w (gOut w cJ qo g) := fun H H' _ hq hO => hO.kept hqo hq
    refine l_callI (As := [.int (xs (i + 1)), .int a2]) F hEx mv_L_213 (f_X12_named_ok h2) rfl rfl ok_28 ⟨Nat.le_of_ble_eq_true rfl, Nat.le_of_ble_eq_true rfl⟩ (Nat.le_of_ble_eq_true rfl) hcs dL_law_1930 ?_
    refine l_istore F dL_law_1933 (Nat.le_of_ble_eq_true rfl) ?_
    refine l_aload_n F dL_law_1935 rfl ?_
    refine l_callI (As := []) F hEx mv_L_214 (f_X12_thrown_ok h3) rfl rfl ok_28 ⟨Nat.le_of_ble_eq_true rfl, Nat.le_of_ble_eq_true rfl⟩ (Nat.le_of_ble_eq_true rfl) hcs dL_law_1936 ?_
    refine l_iload F dL_law_1939 rfl ?_
    have h31 : r3.1 = a := by
      rcases ha with ⟨q1, q2⟩ | ⟨q1, q2, -⟩
      · rw [e1 q1, q2]
      · rw [(e2 q1).1, q2]
    refine l_icmp_eq F 1946 dL_law_1941 rfl (fun _ => ?_) (fun q => absurd h31 q)
    refine l_iload F dL_law_1946 rfl ?_
    refine l_if_ne F 1963 dL_law_1948 rfl (fun q => ?_) (fun q => ?_)
    · refine l_goto F 1992 dL_law_1963 rfl ?_
      exact kk _ g _ _ hI3
    · rcases ha with ⟨q1, q2⟩ | ⟨q1, q2, q3⟩
      · rw [q2] at q; exact absurd q (by decide)
      · refine l_aload_n F dL_law_1951 rfl ?_
        refine l_iconst F dL_law_1952 kc_0 ?_
        refine l_lald F hKJ dL_law_1953 ?_
        refine l_iload F dL_law_1954 rfl ?_
        refine l_i2l F dL_law_1956 ?_
        refine l_lcmp F dL_law_1957 ?_
        rw [q3, (e2 q1).2, lg_cmp_self]
        refine l_if_eq F 1963 dL_law_1958 rfl (fun _ => ?_) (fun q => absurd rfl q)
        refine l_goto F 1992 dL_law_1963 rfl ?_
        exact kk _ g _ _ hI3
  have mid : GL p l e room_1 s m #[Value.ref b] below meth c 7 w A Q (gOut w cJ qo f) 1903 [some (.ref b), some (.ref (w.2.1 0 0)), some (.ref (w.2.1 28 0)), some (.ref qo), some (.int (nI i)), x5, x6] [.int a2, .int (xs (i + 1)), .ref (w.2.1 0 0)] σ ce sl := by
    refine l_aload_n F dL_law_1903 rfl ?_
    refine l_lnamed F hEX htr hqo hqA hEo hKJ hcs h1 (fun a g ha => ?_)
    refine l_istore F dL_law_1907 (Nat.le_of_ble_eq_true rfl) ?_
    refine l_aload_n F dL_law_1909 rfl ?_
    refine l_arg (j := 1) F hX hbl hbA (by omega) hL rfl rfl rfl kc_1 nc_1.symm dL_law_1910 dL_law_1911 dL_law_1913 dL_law_1914 dL_law_1915 ?_
    refine l_arg (j := 2) F hX hbl hbA (by omega) hL rfl rfl rfl kc_2 nc_2.symm dL_law_1916 dL_law_1917 dL_law_1919 dL_law_1920 dL_law_1921 ?_
    refine l_if_eq F 1929 dL_law_1922 rfl (fun q => ?_) (fun q => ?_)
    · refine l_iconst F dL_law_1929 kc_0 ?_
      rcases hz with ⟨_, rfl⟩ | ⟨q2, _⟩
      · exact tail a g ha
      · exact absurd q q2
    · refine l_iconst F dL_law_1925 kc_1 ?_
      refine l_goto F 1930 dL_law_1926 rfl ?_
      rcases hz with ⟨q2, _⟩ | ⟨_, rfl⟩
      · exact absurd q2 q
      · exact tail a g ha
  refine l_aload_n F dL_law_1882 rfl ?_
  refine l_arg (j := 1) F hX hbl hbA (by omega) hL rfl rfl rfl kc_1 nc_1.symm dL_law_1883 dL_law_1884 dL_law_1886 dL_law_1887 dL_law_1888 ?_
  refine l_arg (j := 2) F hX hbl hbA (by omega) hL rfl rfl rfl kc_2 nc_2.symm dL_law_1889 dL_law_1890 dL_law_1892 dL_law_1893 dL_law_1894 ?_
  refine l_if_eq F 1902 dL_law_1895 rfl (fun q => ?_) (fun q => ?_)
  · refine l_iconst F dL_law_1902 kc_0 ?_
    rcases hz with ⟨_, rfl⟩ | ⟨q2, _⟩
    · exact mid
    · exact absurd q q2
  · refine l_iconst F dL_law_1898 kc_1 ?_
    refine l_goto F 1903 dL_law_1899 rfl ?_
    rcases hz with ⟨q2, _⟩ | ⟨_, rfl⟩
    · exact absurd q2 q
    · exact mid
end LB
