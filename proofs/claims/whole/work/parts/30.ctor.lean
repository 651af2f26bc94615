/-! THE CONSTRUCTORS: a walk over a world that grows, cell by cell -/
abbrev gR4 (fr ce sl lc : Nat) : Room := { frames := fr, cells := ce, slots := sl, locals := lc }
/-- words of the tables that aren't of the good ones: arrays of our classes, calls of a nest mate's constructor -/
def cE (U : State) : Prop := (va_AO RX1 U ∧ va_AO RX9 U) ∧ va_Nw (.methodLinkNest RX11 11 yX10_init RX11) U ∧ va_Nw (.methodLinkNest RX4 25 yX3_init RX11) U ∧ va_Nw (.methodLinkNest RX4 43 yX1_init RX11) U ∧ va_Nw (.methodLinkNest RX4 44 yX9_init RX11) U
theorem cE.warm {u U : State} (hW : u.WarmedH U.vm) (h : cE u) : cE U := ⟨⟨va_AO.moved hW.alike h.1.1, va_AO.moved hW.alike h.1.2⟩, va_Nw.warmM hW h.2.1, va_Nw.warmM hW h.2.2.1, va_Nw.warmM hW h.2.2.2.1, va_Nw.warmM hW h.2.2.2.2⟩
theorem cE.same {u U : State} (hv : u.vm = U.vm) (h : cE u) : cE U := ⟨⟨va_AO.moved (by rw [hv]; exact Vm.Alike.refl _) h.1.1, va_AO.moved (by rw [hv]; exact Vm.Alike.refl _) h.1.2⟩, va_Nw.same rfl hv h.2.1, va_Nw.same rfl hv h.2.2.1, va_Nw.same rfl hv h.2.2.2.1, va_Nw.same rfl hv h.2.2.2.2⟩
def cF (p : Program) (s : State) (m : MethodId) (args : Array Value) (meth : Method) (c : Code) (own : String) (cc : ByteArray) (nL : Nat) (mn : String) (ret : Option FieldType) (A : Nat → Prop) (Z : Array Value → State → Prop) : Prop :=
  p.tables.exec = Jvm.exec ∧ c.code = cc ∧ c.maxLocals = nL ∧ s.vm.findClass own = some m.cls ∧ (∀ x ∈ gGood, x.before args s = true) ∧ meth.name = mn ∧ meth.sig.returnType = ret ∧ meth.locks = false ∧ (∀ q, s.heap.size ≤ q → A q) ∧ cE s ∧ Z args s
def GC (l : Launch) (D : va_G) (own : String) (cc : ByteArray) (nL : Nat) (mn : String) (ret : Option FieldType) (R : Room) (A : Nat → Prop) (Z : Array Value → State → Prop) (Q : List Frame → Array Value → State → State → Prop) (tys : List (ClassId × FieldType)) (pc : Nat) (L : List (Option Value)) (st : List Value) (ws : va_W) (ce sl : Nat) : Prop :=
  ∀ (p : Program) (e : Env) (s : State) (m : MethodId) (args : Array Value) (below : List Frame) (meth : Method) (c : Code) (H : Heap) (locs : List Loc) (ls : Array Slot),
    cF p s m args meth c own cc nL mn ret A Z → gHas ls nL L → va_K D vwCl tys s → va_P D vwCl ws H → va_D A ws → va_S A s.heap H locs →
    W p l e R s m args below meth c H locs ce sl (Q below args s) (F0 m pc ls st)
section CT
variable {l : Launch} {D : va_G} {own : String} {cc : ByteArray} {nL : Nat} {mn : String} {ret : Option FieldType} {R : Room} {A : Nat → Prop} {Z : Array Value → State → Prop} {Q : List Frame → Array Value → State → State → Prop} {tys : List (ClassId × FieldType)} {pc : Nat} {L : List (Option Value)} {st : List Value} {ws : va_W} {ce sl : Nat}
theorem c_of {pc' : Nat} {st' : List Value} (h : ∀ (p : Program) (e : Env) (s : State) (m : MethodId) (args : Array Value) (below : List Frame) (meth : Method) (c : Code) (H : Heap) (locs : List Loc) (ls : Array Slot) (Y : State → Prop), cF p s m args meth c own cc nL mn ret A Z → gHas ls nL L →
    W p l e R s m args below meth c H locs ce sl Y (F0 m pc' ls st') → W p l e R s m args below meth c H locs ce sl Y (F0 m pc ls st)) (kk : GC l D own cc nL mn ret R A Z Q tys pc' L st' ws ce sl) : GC l D own cc nL mn ret R A Z Q tys pc L st ws ce sl :=
  fun p e s m args below meth c H locs ls F hl hK hP hD hS => h p e s m args below meth c H locs ls _ F hl (kk p e s m args below meth c H locs ls F hl hK hP hD hS)
theorem c_iconst {n : Int} {x : Int32} (hdg : decode cc pc = .ok (.iconst n, 1)) (hv : Int32.ofInt n = x) (kk : GC l D own cc nL mn ret R A Z Q tys (pc + 1) L (.int x :: st) ws ce sl) : GC l D own cc nL mn ret R A Z Q tys pc L st ws ce sl := c_of (fun p e s m args below meth c H locs ls Y F hl k => lv_iconst F.1 F.2.1 hdg hv k) kk
theorem c_bipush {n : Int} {x : Int32} (hdg : decode cc pc = .ok (.bipush n, 2)) (hv : (Int8.ofInt n).toInt32 = x) (kk : GC l D own cc nL mn ret R A Z Q tys (pc + 2) L (.int x :: st) ws ce sl) : GC l D own cc nL mn ret R A Z Q tys pc L st ws ce sl := c_of (fun p e s m args below meth c H locs ls Y F hl k => lv_bipush F.1 F.2.1 hdg hv k) kk
theorem c_sipush {n : Int} {x : Int32} (hdg : decode cc pc = .ok (.sipush n, 3)) (hv : (Int16.ofInt n).toInt32 = x) (kk : GC l D own cc nL mn ret R A Z Q tys (pc + 3) L (.int x :: st) ws ce sl) : GC l D own cc nL mn ret R A Z Q tys pc L st ws ce sl := c_of (fun p e s m args below meth c H locs ls Y F hl k => lv_sipush F.1 F.2.1 hdg hv k) kk
theorem c_iload_n {k : Fin 4} {x : Int32} (hdg : decode cc pc = .ok (.iload_n k, 1)) (hL : L[(k : Nat)]? = some (some (.int x))) (kk : GC l D own cc nL mn ret R A Z Q tys (pc + 1) L (.int x :: st) ws ce sl) : GC l D own cc nL mn ret R A Z Q tys pc L st ws ce sl := c_of (fun p e s m args below meth c H locs ls Y F hl k => lv_iload_n F.1 F.2.1 hdg rfl (hl.2.2.2 _ _ hL).1 k) kk
theorem c_aload_n {k : Fin 4} {x : Nat} (hdg : decode cc pc = .ok (.aload_n k, 1)) (hL : L[(k : Nat)]? = some (some (.ref x))) (kk : GC l D own cc nL mn ret R A Z Q tys (pc + 1) L (.ref x :: st) ws ce sl) : GC l D own cc nL mn ret R A Z Q tys pc L st ws ce sl := c_of (fun p e s m args below meth c H locs ls Y F hl k => lv_aload_n F.1 F.2.1 hdg rfl (hl.2.2.2 _ _ hL).1 k) kk
theorem c_istore_n {k : Fin 4} {x : Int32} (hdg : decode cc pc = .ok (.istore_n k, 1)) (hlt : (k : Nat) < L.length) (kk : GC l D own cc nL mn ret R A Z Q tys (pc + 1) (L.set (k : Nat) (some (.int x))) st ws ce sl) : GC l D own cc nL mn ret R A Z Q tys pc L (.int x :: st) ws ce sl :=
  fun p e s m args below meth c H locs ls F hl hK hP hD hS => lv_istore_n F.1 F.2.1 hdg rfl hl.lv (by rw [← hl.2.2.1]; exact hlt) rfl (fun ls' h => kk p e s m args below meth c H locs ls' F (gHas.set rfl hl.2.2.1 (fun j v hj => (hl.2.2.2 j v hj).2) h) hK hP hD hS)
theorem c_istore {i : Nat} {x : Int32} (hdg : decode cc pc = .ok (.istore i, 2)) (hlt : i < L.length) (kk : GC l D own cc nL mn ret R A Z Q tys (pc + 2) (L.set i (some (.int x))) st ws ce sl) : GC l D own cc nL mn ret R A Z Q tys pc L (.int x :: st) ws ce sl :=
  fun p e s m args below meth c H locs ls F hl hK hP hD hS => lv_istore F.1 F.2.1 hdg hl.lv (by rw [← hl.2.2.1]; exact hlt) rfl (fun ls' h => kk p e s m args below meth c H locs ls' F (gHas.set rfl hl.2.2.1 (fun j v hj => (hl.2.2.2 j v hj).2) h) hK hP hD hS)
theorem c_astore_n {k : Fin 4} {x : Nat} (hdg : decode cc pc = .ok (.astore_n k, 1)) (hlt : (k : Nat) < L.length) (kk : GC l D own cc nL mn ret R A Z Q tys (pc + 1) (L.set (k : Nat) (some (.ref x))) st ws ce sl) : GC l D own cc nL mn ret R A Z Q tys pc L (.ref x :: st) ws ce sl :=
  fun p e s m args below meth c H locs ls F hl hK hP hD hS => lv_astore_n F.1 F.2.1 hdg rfl hl.lv (by rw [← hl.2.2.1]; exact hlt) rfl (fun ls' h => kk p e s m args below meth c H locs ls' F (gHas.set rfl hl.2.2.1 (fun j v hj => (hl.2.2.2 j v hj).2) h) hK hP hD hS)
theorem c_iinc {i : Nat} {n : Int} {x v : Int32} (hdg : decode cc pc = .ok (.iinc i n, 3)) (hL : L[i]? = some (some (.int x))) (hv : x + Int32.ofInt n = v) (kk : GC l D own cc nL mn ret R A Z Q tys (pc + 3) (L.set i (some (.int v))) st ws ce sl) : GC l D own cc nL mn ret R A Z Q tys pc L st ws ce sl := by
  intro p e s m args below meth c H locs ls F hl hK hP hD hS
  obtain ⟨k, hk⟩ := List.getElem?_of_mem (glv_mem.mpr hL)
  exact lv_iinc F.1 F.2.1 hdg hl.lv hk hv (by rw [← hl.2.2.1]; exact (List.getElem?_eq_some_iff.mp hL).1) rfl (fun ls' h => kk p e s m args below meth c H locs ls' F (gHas.set rfl hl.2.2.1 (fun j v hj => (hl.2.2.2 j v hj).2) h) hK hP hD hS)
theorem c_dup {v : Value} (hdg : decode cc pc = .ok (.dup, 1)) (hc : v.category = 1) (kk : GC l D own cc nL mn ret R A Z Q tys (pc + 1) L (v :: v :: st) ws ce sl) : GC l D own cc nL mn ret R A Z Q tys pc L (v :: st) ws ce sl := c_of (fun p e s m args below meth c H locs ls Y F hl k => lv_dup F.1 F.2.1 hdg hc k) kk
theorem c_goto {off : Int} (tgt : Nat) (hdg : decode cc pc = .ok (.goto off, 3)) (ht : (pc : Int) + off = (tgt : Int)) (kk : GC l D own cc nL mn ret R A Z Q tys tgt L st ws ce sl) : GC l D own cc nL mn ret R A Z Q tys pc L st ws ce sl := c_of (fun p e s m args below meth c H locs ls Y F hl k => lv_goto F.1 F.2.1 hdg ht k) kk
theorem c_geN {x y : Int32} {off : Int} (hdg : decode cc pc = .ok (.if_icmp .ge off, 3)) (tgt : Nat) (ht : (pc : Int) + off = (tgt : Int)) (hc : ¬ y ≤ x) (kk : GC l D own cc nL mn ret R A Z Q tys (pc + 3) L st ws ce sl) : GC l D own cc nL mn ret R A Z Q tys pc L (.int y :: .int x :: st) ws ce sl := c_of (fun p e s m args below meth c H locs ls Y F hl k => lv_icmp_ge F.1 F.2.1 hdg ht (fun q => absurd q hc) (fun _ => k)) kk
theorem c_geY {x y : Int32} {off : Int} (hdg : decode cc pc = .ok (.if_icmp .ge off, 3)) (tgt : Nat) (ht : (pc : Int) + off = (tgt : Int)) (hc : y ≤ x) (kk : GC l D own cc nL mn ret R A Z Q tys tgt L st ws ce sl) : GC l D own cc nL mn ret R A Z Q tys pc L (.int y :: .int x :: st) ws ce sl := c_of (fun p e s m args below meth c H locs ls Y F hl k => lv_icmp_ge F.1 F.2.1 hdg ht (fun _ => k) (fun q => absurd hc q)) kk
theorem c_obj {idx a : Nat} (h1 : Cond.methodLink own idx Lib.objectInit ∈ gGood) (h2 : Cond.instanceMethod Lib.objectInit ∈ gGood) (h3 : Cond.code Lib.objectInit ⟨#[0xb1]⟩ 1 none ∈ gGood) (hdg : decode cc pc = .ok (.invokespecial idx, 3)) (hfr : 1 ≤ R.frames) (hlc : 12 ≤ R.locals) (hst : st = []) (kk : GC l D own cc nL mn ret R A Z Q tys (pc + 3) L st ws ce sl) : GC l D own cc nL mn ret R A Z Q tys pc L (.ref a :: st) ws ce sl := by
  subst hst
  intro p e s m args below meth c H locs ls F hl hK hP hD hS
  have hT := F.2.2.2.2.1
  refine W.objInit F.1 F.2.1 F.2.2.2.1 (hT _ h1) (hT _ h2) (hT _ h3) rfl (by rw [F.2.2.1]; exact hl.1) rfl hdg hfr (by simpa using hlc) ?_
  exact W.eq (g2 := F0 m (pc + 3) ls []) rfl (kk p e s m args below meth c H locs ls F hl hK hP hD hS)
theorem c_new {ci idx N : Nat} {C : String} {T : u_T} {fs : List Value} (hin : ∀ w ∈ u_ws C T N, w ∈ gGood) (ty : Nat → FieldType) (hty : ∀ k, k < N → parseFieldDescriptor (T k).2.2.1 = some (ty k)) (h1 : Cond.classLink own idx C ∈ gGood) (h2 : Cond.instantiable C N ∈ gGood) (h3 : Cond.initialized C ∈ gGood) (hc : vwCl[ci]? = some (C, T, N)) (hfs : ∀ j, j < N → defaultValue (ty j) = vp_V fs j) (hcells : ce + 1 ≤ R.cells) (hslots : sl + N ≤ R.slots) (hdg : decode cc pc = .ok (.new idx, 3))
    (kk : ∀ q : Nat, GC l D own cc nL mn ret R A Z Q tys (pc + 3) L (.ref q :: st) (ws ++ [(q, .inr (ci, fs))]) (ce + 1) (sl + N)) : GC l D own cc nL mn ret R A Z Q tys pc L st ws ce sl := by
  intro p e s m args below meth c H locs ls F hl hK hP hD hS
  have hT := F.2.2.2.2.1
  exact va_new F.1 F.2.1 hT hin ty hty F.2.2.2.1 (hT _ h1) (hT _ h2) (hT _ h3) hK hP hD hS F.2.2.2.2.2.2.2.2.1 hc hfs hcells hslots hdg (fun q H1 hP1 hD1 hS1 => kk q p e s m args below meth c H1 locs ls F hl hK hP1 hD1 hS1)
theorem c_newi {x : Int32} {cI : ClassId} {N : Nat} (t0 : Nat) (ht : tys[t0]? = some (cI, .int)) (h1 : Cond.arrayClass .int ∈ gGood) (hn : ¬ x < 0) (hN : x.toNatClampNeg = N) (hb : N * 4 ≤ 536870912) (hcells : ce + 1 ≤ R.cells) (hslots : sl + N ≤ R.slots) (hdg : decode cc pc = .ok (.newarray .int, 2))
    (kk : ∀ q : Nat, GC l D own cc nL mn ret R A Z Q tys (pc + 2) L (.ref q :: st) (ws ++ [(q, .inl (cI, N, .inl (fun _ => 0)))]) (ce + 1) (sl + N)) : GC l D own cc nL mn ret R A Z Q tys pc L (.int x :: st) ws ce sl := by
  intro p e s m args below meth c H locs ls F hl hK hP hD hS
  have hT := F.2.2.2.2.1
  refine va_newa (atype := .int) (ty := .int) (a0 := (N, .inl (fun _ => 0))) F.1 F.2.1 (hT _ h1) rfl hK hP hD hS F.2.2.2.2.2.2.2.2.1 (fun _ => rfl) hn hN hb hcells hslots hdg (fun q cA H1 hK1 hP1 hD1 hS1 => ?_)
  have e1 : s.vm.findClass ("[" ++ (FieldType.int).toString) = some cI := (hK.2 t0 _ ht).2
  have e2 : s.vm.findClass ("[" ++ (FieldType.int).toString) = some cA := (hK1.2 tys.length (cA, .int) (by rw [List.getElem?_append_right (Nat.le_refl _), Nat.sub_self]; rfl)).2
  rw [e1] at e2
  cases e2
  exact kk q p e s m args below meth c H1 locs ls F hl hK hP1 hD1 hS1
theorem c_newq {x : Int32} {idx N : Nat} {C : String} (h1 : Cond.classLink own idx C ∈ gGood) (h2 : ∀ U : State, cE U → va_AO C U) (hn : ¬ x < 0) (hN : x.toNatClampNeg = N) (hb : N * 4 ≤ 536870912) (hcells : ce + 1 ≤ R.cells) (hslots : sl + N ≤ R.slots) (hdg : decode cc pc = .ok (.anewarray idx, 3))
    (kk : ∀ (q : Nat) (cA : ClassId), GC l D own cc nL mn ret R A Z Q (tys ++ [(cA, .object C)]) (pc + 3) L (.ref q :: st) (ws ++ [(q, .inl (cA, N, .inr (.inr (.inr (.inr (fun _ => none))))))]) (ce + 1) (sl + N)) : GC l D own cc nL mn ret R A Z Q tys pc L (.int x :: st) ws ce sl := by
  intro p e s m args below meth c H locs ls F hl hK hP hD hS
  have hT := F.2.2.2.2.1
  exact va_newq F.1 F.2.1 F.2.2.2.1 (hT _ h1) (h2 s F.2.2.2.2.2.2.2.2.2.1) hK hP hD hS F.2.2.2.2.2.2.2.2.1 hn hN hb hcells hslots hdg (fun q cA H1 hK1 hP1 hD1 hS1 => kk q cA p e s m args below meth c H1 locs ls F hl hK1 hP1 hD1 hS1)
theorem c_putF {a ci idx N : Nat} {C : String} {T : u_T} {fs : List Value} {v : Value} {ty : FieldType} (q0 k : Nat) (hmn : mn = "<init>") (hin : ∀ w ∈ u_ws C T N, w ∈ gGood) (ty0 : Nat → FieldType) (hty : ∀ k, k < N → parseFieldDescriptor (T k).2.2.1 = some (ty0 k)) (hnm : ∀ a, a < N → ∀ b, b < N → a ≠ b → (T a).2.1 ≠ (T b).2.1) (he : ws[q0]? = some (a, .inr (ci, fs))) (hc : vwCl[ci]? = some (C, T, N)) (hk : k < N) (hlk : Cond.fieldLink own idx (T k).1 (T k).2.1 (T k).2.2.1 ∈ gGood) (hfin : (T k).2.2.2 = true) (hdecl : (T k).1 = own) (hd : ty0 k = ty) (hn : narrow ty v = v) (hfit : fits ty v = true) (hlen : fs.length = N) (hdg : decode cc pc = .ok (.putfield idx, 3))
    (kk : GC l D own cc nL mn ret R A Z Q tys (pc + 3) L st (ws.set q0 (a, .inr (ci, fs.set k v))) ce sl) : GC l D own cc nL mn ret R A Z Q tys pc L (v :: .ref a :: st) ws ce sl := by
  intro p e s m args below meth c H locs ls F hl hK hP hD hS
  have hT := F.2.2.2.2.1
  exact va_putF F.1 F.2.1 hT hin ty0 hty hnm F.2.2.2.1 hK hP hD hS q0 he hc k hk (hT _ hlk) (fun _ h => h) hfin (by rw [F.2.2.2.2.2.1, hmn]) hdecl (by rw [hty k hk, hd]) hn hfit (by rw [hlen]; exact hk) hdg (fun H1 locs1 hP1 hD1 hS1 => kk p e s m args below meth c H1 locs1 ls F hl hK hP1 hD1 hS1)
theorem c_putI {a ci idx N : Nat} {C : String} {T : u_T} {fs : List Value} {x : Int32} (q0 k : Nat) (hin : ∀ w ∈ u_ws C T N, w ∈ gGood) (ty0 : Nat → FieldType) (hty : ∀ k, k < N → parseFieldDescriptor (T k).2.2.1 = some (ty0 k)) (hnm : ∀ a, a < N → ∀ b, b < N → a ≠ b → (T a).2.1 ≠ (T b).2.1) (he : ws[q0]? = some (a, .inr (ci, fs))) (hc : vwCl[ci]? = some (C, T, N)) (hk : k < N) (hlk : Cond.fieldLink own idx (T k).1 (T k).2.1 (T k).2.2.1 ∈ gGood) (hfin : (T k).2.2.2 = false) (hd : ty0 k = .int) (hlen : fs.length = N) (hdg : decode cc pc = .ok (.putfield idx, 3))
    (kk : GC l D own cc nL mn ret R A Z Q tys (pc + 3) L st (ws.set q0 (a, .inr (ci, fs.set k (.int x)))) ce sl) : GC l D own cc nL mn ret R A Z Q tys pc L (.int x :: .ref a :: st) ws ce sl := by
  intro p e s m args below meth c H locs ls F hl hK hP hD hS
  have hT := F.2.2.2.2.1
  exact va_put F.1 F.2.1 hT hin ty0 hty hnm F.2.2.2.1 hK hP hD hS q0 he hc k hk (hT _ hlk) (fun _ h => h) hfin (by rw [hty k hk, hd]) rfl rfl (by rw [hlen]; exact hk) hdg (fun H1 locs1 hP1 hD1 hS1 => kk p e s m args below meth c H1 locs1 ls F hl hK hP1 hD1 hS1)
theorem c_get {a ci idx N : Nat} {C : String} {T : u_T} {fs : List Value} {v : Value} (q0 k : Nat) (hin : ∀ w ∈ u_ws C T N, w ∈ gGood) (he : ws[q0]? = some (a, .inr (ci, fs))) (hc : vwCl[ci]? = some (C, T, N)) (hk : k < N) (hlk : Cond.fieldLink own idx (T k).1 (T k).2.1 (T k).2.2.1 ∈ gGood) (hv : fs[k]? = some v) (hdg : decode cc pc = .ok (.getfield idx, 3)) (kk : GC l D own cc nL mn ret R A Z Q tys (pc + 3) L (v :: st) ws ce sl) : GC l D own cc nL mn ret R A Z Q tys pc L (.ref a :: st) ws ce sl := by
  intro p e s m args below meth c H locs ls F hl hK hP hD hS
  have hT := F.2.2.2.2.1
  exact va_get F.1 F.2.1 hT hin F.2.2.2.1 hK hP q0 he hc k hk (hT _ hlk) (fun _ h => h) hv hdg (kk p e s m args below meth c H locs ls F hl hK hP hD hS)
theorem c_alenQ {a n : Nat} {cA : ClassId} {ty : FieldType} {f : Nat → Option Nat} {x : Int32} (q0 t0 : Nat) (he : ws[q0]? = some (a, .inl (cA, n, .inr (.inr (.inr (.inr f)))))) (ht : tys[t0]? = some (cA, ty)) (hx : nI n = x) (hdg : decode cc pc = .ok (.arraylength, 1)) (kk : GC l D own cc nL mn ret R A Z Q tys (pc + 1) L (.int x :: st) ws ce sl) : GC l D own cc nL mn ret R A Z Q tys pc L (.ref a :: st) ws ce sl := by
  intro p e s m args below meth c H locs ls F hl hK hP hD hS
  subst hx
  exact va_alen (cA := cA) (x := (n, .inr (.inr (.inr (.inr f))))) F.1 F.2.1 hK hP q0 t0 he ht rfl hdg (kk p e s m args below meth c H locs ls F hl hK hP hD hS)
theorem c_aast {a v n ci : Nat} {cA : ClassId} {r : vw_C} {vs : List Value} {f : Nat → Option Nat} {i : Int32} (q0 t0 qk : Nat) (ha : ws[q0]? = some (a, .inl (cA, n, .inr (.inr (.inr (.inr f)))))) (ht : tys[t0]? = some (cA, .object r.1)) (hv : ws[qk]? = some (v, .inr (ci, vs))) (hc : vwCl[ci]? = some r) (hin : vp_in i n) (hdg : decode cc pc = .ok (.aastore, 1))
    (kk : GC l D own cc nL mn ret R A Z Q tys (pc + 1) L st (ws.set q0 (a, .inl (cA, n, .inr (.inr (.inr (.inr (va_up f i.toNatClampNeg (some v)))))))) ce sl) : GC l D own cc nL mn ret R A Z Q tys pc L (.ref v :: .int i :: .ref a :: st) ws ce sl := by
  intro p e s m args below meth c H locs ls F hl hK hP hD hS
  exact va_astq F.1 F.2.1 hK hP hD hS q0 t0 qk ci ha ht hv hc hin hdg (fun H1 locs1 hP1 hD1 hS1 => kk p e s m args below meth c H1 locs1 ls F hl hK hP1 hD1 hS1)
end CT
/-- THE CONTRACT of a constructor -/
def cPc (D : va_G) (cI : ClassId) (av : List Value) (pre : va_W) (sz : Nat) : Array Value → State → Prop := va_Pc av (fun U => U.heap.size = sz ∧ va_P D vwCl pre U.heap ∧ va_K D vwCl [(cI, .int)] U ∧ va_D (fun _ => True) pre ∧ cE U)
def cQc {S : Type} (D : va_G) (pre : va_W) (ok : S → Prop) (post : S → va_W) (ptys : S → List (ClassId × FieldType)) (sz : Nat) : Array Value → State → Outcome → State → Prop := va_Qv ok (fun u t => va_P D vwCl (post u) t.heap ∧ va_K D vwCl (ptys u) t ∧ va_D (va_A pre sz) (post u)) (va_A pre sz)
def Ct {S : Type} (l : Launch) (D : va_G) (cI : ClassId) (y : MethodName) (b : ByteArray) (n fr lc mc ms : Nat) (av : List Value) (pre : va_W) (ok : S → Prop) (post : S → va_W) (ptys : S → List (ClassId × FieldType)) : Prop :=
  ∀ sz : Nat, Met l y (Cond.code y b n none :: gGood) (gR4 fr mc ms lc) (cPc D cI av pre sz) (cQc D pre ok post ptys sz) mc ms (va_A pre sz)
def gMi (own : String) (idx : Nat) (y : MethodName) (b : ByteArray) (n na : Nat) : Prop := (Cond.methodLink own idx y ∈ gGood ∨ ∃ host : String, ∀ U : State, cE U → va_Nw (.methodLinkNest own idx y host) U) ∧ Cond.initialized y.cls ∈ gGood ∧ Cond.code y b n none ∈ gGood ∧ (y.cls ≠ "java/lang/invoke/MethodHandle" ∧ y.cls ≠ "java/lang/invoke/VarHandle" ∧ (parseMethodDescriptor y.desc).map (fun d => d.parameters.length) = some na) ∧ Cond.instanceMethod y ∈ gGood ∧ y.name = "<init>"
theorem g_entry {av : List Value} {nL : Nat} (hcat : av.all (fun v => decide (v.category = 1)) = true) (hlen : av.length ≤ nL) : gHas (lg_sl av ++ List.replicate (nL - (lg_sl av).length) Slot.unset).toArray nL (av.map some ++ List.replicate (nL - av.length) none) := by
  have hcat' : ∀ v ∈ av, v.category = 1 := fun v hv => by simpa using List.all_eq_true.mp hcat v hv
  have hsl : ∀ vs : List Value, (∀ v ∈ vs, v.category = 1) → lg_sl vs = vs.map Slot.val := by
    intro vs
    induction vs with
    | nil => intro _; rfl
    | cons v t ih =>
      intro hv
      have h1 := ih (fun u hu => hv u (List.mem_cons_of_mem _ hu))
      simp only [lg_sl] at h1 ⊢
      rw [List.flatMap_cons, h1, if_neg (by rw [hv v List.mem_cons_self]; decide)]
      rfl
  have hll : (lg_sl av).length = av.length := by rw [hsl av hcat', List.length_map]
  have hl := lv_entry av (n := nL) (by rw [hll]; exact hlen)
  refine ⟨hl.1, hl.2.1, ?_, ?_⟩
  · simp; omega
  · intro i v hi
    have hi2 : (av.map some)[i]? = some (some v) := by
      by_cases hh : i < (av.map some).length
      · rw [List.getElem?_append_left hh] at hi; exact hi
      · rw [List.getElem?_append_right (by omega)] at hi
        have := List.mem_of_getElem? hi
        simp [List.mem_replicate] at this
    have hi3 : av[i]? = some v := by
      rw [List.getElem?_map] at hi2
      cases hx : av[i]? with
      | none => rw [hx] at hi2; cases hi2
      | some u => rw [hx] at hi2; simpa using hi2
    refine ⟨?_, hcat' v (List.mem_of_getElem? hi3)⟩
    rw [hsl av hcat', List.getElem?_toArray, List.getElem?_append_left (by rw [List.length_map]; exact (List.getElem?_eq_some_iff.mp hi3).1), List.getElem?_map, hi3]
    rfl
section CT2
variable {l : Launch} {D : va_G} {own : String} {cc : ByteArray} {nL : Nat} {mn : String} {ret : Option FieldType} {R : Room} {A : Nat → Prop} {Z : Array Value → State → Prop} {Q : List Frame → Array Value → State → State → Prop} {tys : List (ClassId × FieldType)} {pc : Nat} {L : List (Option Value)} {st : List Value} {ws : va_W} {ce sl : Nat}
theorem c_start {S : Type} {cI : ClassId} {y : MethodName} {fr lc mc ms : Nat} {av : List Value} {pre : va_W} {ok : S → Prop} {post : S → va_W} {ptys : S → List (ClassId × FieldType)} (hy : plainName y.cls = true) (hc : y.cls = own) (hnm : y.name = "<init>") (hcat : av.all (fun v => decide (v.category = 1)) = true) (hlen : av.length ≤ nL)
    (h : ∀ sz : Nat, GC l D own cc nL "<init>" none (gR4 fr mc ms lc) (va_A pre sz) (fun _ _ => True) (fun below args s => MQ below (cQc D pre ok post ptys sz) args s mc ms (va_A pre sz)) [(cI, .int)] 0 (av.map some ++ List.replicate (nL - av.length) none) [] pre 0 0) : Ct l D cI y cc nL fr lc mc ms av pre ok post ptys := by
  intro sz
  refine Met.ofW (cc := cc) (maxL := nL) (ret := none) hy rfl ?_
  intro p e s m args below meth c s₁ B hml hv
  obtain ⟨rfl, hsz, hP, hK, hD, hE⟩ := hv
  have hts : ∀ x ∈ gGood, x.before av.toArray s = true := fun x hx => atoms_spec (ws := Cond.code y cc nL none :: gGood) B.pre x (List.mem_cons_of_mem _ hx)
  rw [lg_entry_eq]
  exact h sz p e s m av.toArray below meth c s.heap [] _ ⟨B.exec, B.bytes, hml, by rw [← hc]; exact findClass_of_methodNamed B.named, hts, by rw [(name_of_methodNamed B.named B.method).1, hnm], B.returns, B.notSynchronized, fun q hq => Or.inr (by omega), hE, trivial⟩ (g_entry hcat hlen) hK hP hD.self va_S.rf
theorem c_ret {S : Type} {mc ms sz : Nat} {pre : va_W} {ok : S → Prop} {post : S → va_W} {ptys : S → List (ClassId × FieldType)} (u : S) (hok : ok u) (isP isT : List Nat) (hP' : isP.filterMap (fun i => ws[i]?) = post u) (hD' : isP.map (fun i => ws[i]?) = (post u).map some) (hnd : va_nd isP = true) (hT' : isT.filterMap (fun i => tys[i]?) = ptys u) (hce : ce ≤ mc) (hsl : sl ≤ ms) (hdg : decode cc pc = .ok (.return_, 1)) (hr : ret = none) :
    GC l D own cc nL mn ret R (va_A pre sz) Z (fun below args s => MQ below (cQc D pre ok post ptys sz) args s mc ms (va_A pre sz)) tys pc L [] ws ce sl := by
  intro p e s m args below meth c H locs ls F hl hK hP hD hS
  refine W.widen (k := mc) (n := ms) hce hsl ?_
  exact W.vret F.1 F.2.1 (F.2.2.2.2.2.2.1.trans hr) (fun t ht hW => ⟨⟨u, rfl, hok, by rw [ht]; exact hP.sub isP hP', va_K.moved hW.alike (hK.sub isT hT'), hD.sub isP hnd hD'⟩, hS.F ht⟩) hS.2.2 hdg F.2.2.2.2.2.2.2.1
theorem c_call0 {S : Type} {idx n na fr' lc' mc ms a : Nat} {y : MethodName} {b : ByteArray} {cI : ClassId} {As rest st0 : List Value} {pre wr : va_W} {ok : S → Prop} {post : S → va_W} {ptys : S → List (ClassId × FieldType)} (hlk : gMi own idx y b n na) (hM : Ct l D cI y b n fr' lc' mc ms (.ref a :: As) pre ok post ptys) (t0 : Nat) (ht : tys[t0]? = some (cI, .int)) (isC isR : List Nat) (hC : isC.map (fun i => ws[i]?) = pre.map some) (hC' : isC.filterMap (fun i => ws[i]?) = pre) (hnC : va_nd isC = true) (hR' : isR.map (fun i => ws[i]?) = wr.map some) (hn : va_nd isR = true) (hdis : ∀ i ∈ isR, i ∉ isC) (hst : st0 = As.reverse ++ .ref a :: rest) (hna : As.length = na) (hRm : fr' + 1 ≤ R.frames ∧ 8 + (n + 11) + lc' ≤ R.locals) (hWd : (rest.map fun v => v.category).sum ≤ 8) (hcs : ce + mc ≤ R.cells ∧ sl + ms ≤ R.slots) (hdg : decode cc pc = .ok (.invokespecial idx, 3))
    (kk : ∀ u : S, ok u → ∀ (p : Program) (e : Env) (s : State) (m : MethodId) (args : Array Value) (below : List Frame) (meth : Method) (c : Code) (H : Heap) (locs : List Loc) (ls : Array Slot), cF p s m args meth c own cc nL mn ret A Z → gHas ls nL L → va_K D vwCl (tys ++ ptys u) s → va_P D vwCl (wr ++ post u) H → va_D A (wr ++ post u) → va_S A s.heap H locs → W p l e R s m args below meth c H locs (ce + mc) (sl + ms) (Q below args s) (F0 m (pc + 3) ls rest)) : GC l D own cc nL mn ret R A Z Q tys pc L st0 ws ce sl := by
  intro p e s m args below meth c H locs ls F hl hK hP hD hS
  have hT := F.2.2.2.2.1
  obtain ⟨h1, h2, h3, h4, h5, h6⟩ := hlk
  have hPc := hP.sub (ws' := pre) isC hC'
  have hDc := hD.sub (ws' := pre) isC hnC hC
  have hKc : va_K D vwCl [(cI, .int)] s := hK.sub [t0] (by simp [ht])
  have hFc := va_free (wc := pre) hD hS F.2.2.2.2.2.2.2.2.1 isC hC
  have hPre : PreS s H (cPc D cI (.ref a :: As) pre H.size) (.ref a :: As) := ⟨fun a U g mk q => by obtain ⟨q0, q1, qP, qK, qD, qE⟩ := q; exact ⟨q0, q1, qP, va_K.moved (u := U) (U := U.calling g mk a) (Vm.Alike.refl U.vm) qK, qD, cE.same (u := U) (U := U.calling g mk a) rfl qE⟩, fun U hU hW => ⟨rfl, by rw [hU], by rw [hU]; exact hPc, va_K.moved hW.alike hKc, hDc.weaken (fun _ _ _ _ => trivial), cE.warm hW F.2.2.2.2.2.2.2.2.2.1⟩⟩
  have hrun : va_Run p l e R s m args below meth c H locs ce sl mc ms (F0 m pc ls st0) rest (cQc D pre ok post ptys H.size (Value.ref a :: As).toArray) (va_A pre H.size) := by
    rcases h1 with h1 | ⟨host, h1⟩
    · exact va_runI (As := As) (rest := rest) ⟨F.1, F.2.1, F.2.2.1, F.2.2.2.1, hT⟩ (hM H.size) (cwI na hT (gGood_in h3) rfl rfl rfl (hT _ h2) (hT _ h1) (hT _ h5) h6 h4 hRm) hPre rfl hna hl.1 hst (lv_room hWd) hdg hcs
    · exact va_runIN (As := As) (rest := rest) ⟨F.1, F.2.1, F.2.2.1, F.2.2.2.1, hT⟩ (hM H.size) ⟨va_cnB na hT (gGood_in h3) rfl rfl rfl (h1 s F.2.2.2.2.2.2.2.2.2.1) (hT _ h2) h4 hRm, h6, hT _ h5⟩ hPre rfl hna hl.1 hst (lv_room hWd) hdg hcs
  refine va_callv hrun hS (fun q _ h => hFc q h) hFc (fun u t H1 locs1 ht1 hvm hw hB hz1 hk1 hS1 => ?_)
  obtain ⟨hP1, hK1, hD1⟩ := hB
  rw [ht1] at hP1
  have hK2 := va_K.moved hvm.symm hK1
  obtain ⟨hP2, hD2⟩ := va_join (wr := wr) (w1 := post u) hP hD isC isR hC hR' hn hdis hk1 hFc hP1 hD1
  exact kk u hw p e s m args below meth c H1 locs1 ls F hl (hK.app hK2) hP2 hD2 hS1
theorem c_callT {S : Type} {idx n na fr' lc' mc ms a : Nat} {y : MethodName} {b : ByteArray} {cI : ClassId} {As rest st0 : List Value} {pre wr : va_W} {ok : S → Prop} {post : S → va_W} {ptys : S → List (ClassId × FieldType)} (hlk : gMi own idx y b n na) (hM : Ct l D cI y b n fr' lc' mc ms (.ref a :: As) pre ok post ptys) (t0 : Nat) (ht : tys[t0]? = some (cI, .int)) (isC isR : List Nat) (hC : isC.map (fun i => ws[i]?) = pre.map some) (hC' : isC.filterMap (fun i => ws[i]?) = pre) (hnC : va_nd isC = true) (hR' : isR.map (fun i => ws[i]?) = wr.map some) (hn : va_nd isR = true) (hdis : ∀ i ∈ isR, i ∉ isC) (hst : st0 = As.reverse ++ .ref a :: rest) (hna : As.length = na) (hRm : fr' + 1 ≤ R.frames ∧ 8 + (n + 11) + lc' ≤ R.locals) (hWd : (rest.map fun v => v.category).sum ≤ 8) (hcs : ce + mc ≤ R.cells ∧ sl + ms ≤ R.slots) (hdg : decode cc pc = .ok (.invokespecial idx, 3))
    (kk : ∀ u : S, ok u → GC l D own cc nL mn ret R A Z Q (tys ++ ptys u) (pc + 3) L rest (wr ++ post u) (ce + mc) (sl + ms)) : GC l D own cc nL mn ret R A Z Q tys pc L st0 ws ce sl :=
  c_call0 hlk hM t0 ht isC isR hC hC' hnC hR' hn hdis hst hna hRm hWd hcs hdg (fun u hu p e s m args below meth c H locs ls F hl hK hP hD hS => kk u hu p e s m args below meth c H locs ls F hl hK hP hD hS)
theorem c_call {S : Type} {idx n na fr' lc' mc ms a : Nat} {y : MethodName} {b : ByteArray} {cI : ClassId} {As rest st0 : List Value} {pre wr : va_W} {ok : S → Prop} {post : S → va_W} {ptys : S → List (ClassId × FieldType)} (hlk : gMi own idx y b n na) (hM : Ct l D cI y b n fr' lc' mc ms (.ref a :: As) pre ok post ptys) (t0 : Nat) (ht : tys[t0]? = some (cI, .int)) (isC isR : List Nat) (hC : isC.map (fun i => ws[i]?) = pre.map some) (hC' : isC.filterMap (fun i => ws[i]?) = pre) (hnC : va_nd isC = true) (hR' : isR.map (fun i => ws[i]?) = wr.map some) (hn : va_nd isR = true) (hdis : ∀ i ∈ isR, i ∉ isC) (hst : st0 = As.reverse ++ .ref a :: rest) (hna : As.length = na) (hRm : fr' + 1 ≤ R.frames ∧ 8 + (n + 11) + lc' ≤ R.locals) (hWd : (rest.map fun v => v.category).sum ≤ 8) (hcs : ce + mc ≤ R.cells ∧ sl + ms ≤ R.slots) (hdg : decode cc pc = .ok (.invokespecial idx, 3))
    (kk : ∀ u : S, ok u → GC l D own cc nL mn ret R A Z Q tys (pc + 3) L rest (wr ++ post u) (ce + mc) (sl + ms)) : GC l D own cc nL mn ret R A Z Q tys pc L st0 ws ce sl :=
  c_call0 hlk hM t0 ht isC isR hC hC' hnC hR' hn hdis hst hna hRm hWd hcs hdg (fun u hu p e s m args below meth c H locs ls F hl hK hP hD hS => kk u hu p e s m args below meth c H locs ls F hl ⟨hK.1, fun k q hq => hK.2 k q (by rw [List.getElem?_append_left (List.getElem?_eq_some_iff.mp hq).1]; exact hq)⟩ hP hD hS)
end CT2
