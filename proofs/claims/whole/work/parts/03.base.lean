/-! THE WORLD OF THIS CLAIM: every cell has a kind and a number; what changes is one store of ints, by kind, number and slot. No call makes a cell. -/
def gGood : List Cond := lw_tbl.filter goodWord
theorem gGood_mem {w : Cond} (h : w ∈ lw_tbl) (hg : goodWord w = true) : w ∈ gGood := List.mem_filter.mpr ⟨h, hg⟩
theorem gGood_at (i : Nat) {w : Cond} (h : lw_tbl[i]? = some w) (hg : goodWord w = true) : w ∈ gGood := gGood_mem (List.mem_of_getElem? h) hg
theorem gGood_in {c : Cond} (hc : c ∈ gGood) : GoodIn gGood (c :: gGood) := by
  intro w hw
  have h : w ∈ gGood := (List.mem_cons.mp hw).elim (fun e => e ▸ hc) id
  exact ⟨h, good_of_word (List.mem_filter.mp h).2⟩
abbrev gSt : Type := Nat → Nat → Nat → Int32
def gup (σ : gSt) (k i s : Nat) (v : Int32) : gSt := fun k' i' s' => if k' = k ∧ i' = i ∧ s' = s then v else σ k' i' s'
/-- a whole row of one cell -/
def gupr (σ : gSt) (k i : Nat) (f : Nat → Int32) : gSt := fun k' i' => if k' = k ∧ i' = i then f else σ k' i'
/-- the tables' numbers and what holds around (strings, statics), the cells' places, the classes of rows -/
abbrev gWd : Type := (va_G × (State → Prop)) × (Nat → Nat → Nat) × (ClassId × ClassId × ClassId)
/-- 0 an object, 1 a row of ints, 2 of courses, 3 of runners -/
def gkd (k : Nat) : Nat := [0, 0, 1, 0, 2, 3, 0, 1, 0, 1, 0, 1, 1, 1, 1, 0, 0, 0, 1, 1, 1, 1, 0, 1, 1, 0, 0, 1, 0, 1, 1, 1, 1, 1, 1, 1, 1, 1, 1, 1, 1].getD k 0
/-- how many cells of a kind -/
def gcn (k : Nat) : Nat := [1, 1, 1, 2, 2, 2, 2, 2, 6, 6, 20, 20, 20, 20, 20, 1, 1, 1, 1, 1, 1, 1, 1, 1, 1, 1, 1, 1, 1, 1, 1, 1, 1, 1, 1, 1, 1, 1, 1, 1, 1].getD k 0
/-- a row's length -/
def gln (k : Nat) : Nat := [0, 0, 900, 0, 3, 10, 0, 187, 0, 10, 0, 16, 16, 16, 10, 0, 0, 0, 11, 11, 11, 11, 0, 100, 100, 0, 0, 50, 0, 900, 397, 397, 78, 78, 187, 10, 11, 11, 100, 100, 3970].getD k 0
/-- an object's class in vwCl -/
def gci (k : Nat) : Nat := [11, 10, 0, 4, 0, 0, 3, 0, 1, 0, 9, 0, 0, 0, 0, 8, 2, 5, 0, 0, 0, 0, 6, 0, 0, 7, 0, 0, 12].getD k 0
abbrev gSp : Type := List (Option (Nat × (Nat → Nat)))
def gsp (k : Nat) : gSp := match k with
  | 0 => [some (1, fun _ => 0), some (3, fun _ => 0), some (15, fun _ => 0), some (3, fun _ => 1), some (16, fun _ => 0), some (17, fun _ => 0), some (22, fun _ => 0), some (25, fun _ => 0), some (26, fun _ => 0), none, none, none]
  | 1 => [some (2, fun _ => 0), none]
  | 3 => [some (4, fun i => i), some (5, fun i => i), some (6, fun i => i), none, none, none, none]
  | 6 => [some (7, fun i => i)]
  | 8 => [some (9, fun i => i), none, none]
  | 10 => [some (11, fun i => i), some (12, fun i => i), some (13, fun i => i), some (14, fun i => i), none, none, none, none, none, none, none]
  | 15 => [some (1, fun _ => 0), some (3, fun _ => 0), none, none, none, none, none, none, none]
  | 16 => [some (3, fun _ => 1)]
  | 17 => [some (3, fun _ => 1), some (16, fun _ => 0), some (18, fun _ => 0), some (19, fun _ => 0), some (20, fun _ => 0), some (21, fun _ => 0), none, none, none]
  | 22 => [some (3, fun _ => 1), some (23, fun _ => 0), some (24, fun _ => 0), none, none, none]
  | 25 => [some (3, fun _ => 1), none, none]
  | 26 => [some (3, fun _ => 1), some (27, fun _ => 0), none]
  | 28 => [none, none, none, none, some (29, fun _ => 0), none, none, some (30, fun _ => 0), some (31, fun _ => 0), some (32, fun _ => 0), some (33, fun _ => 0), none, none, none, none, none, none, none, none, some (34, fun _ => 0), some (35, fun _ => 0), some (36, fun _ => 0), some (37, fun _ => 0), none, none, some (38, fun _ => 0), some (39, fun _ => 0), none, none, none, none, some (40, fun _ => 0)]
  | _ => []
def gflA (ad : Nat → Nat → Nat) (f : Nat → Int32) (i : Nat) : Nat → gSp → List Value
  | _, [] => []
  | s, none :: t => .int (f s) :: gflA ad f i (s + 1) t
  | s, some q :: t => .ref (ad q.1 (q.2 i)) :: gflA ad f i (s + 1) t
theorem gflA_len (ad : Nat → Nat → Nat) (f : Nat → Int32) (i : Nat) : ∀ (s : Nat) (sp : gSp), (gflA ad f i s sp).length = sp.length
  | _, [] => rfl
  | s, none :: t => by simp [gflA, gflA_len ad f i (s + 1) t]
  | s, some q :: t => by simp [gflA, gflA_len ad f i (s + 1) t]
theorem gflA_none {ad : Nat → Nat → Nat} {f : Nat → Int32} {i : Nat} : ∀ {s : Nat} {sp : gSp} {j : Nat}, sp[j]? = some none → (gflA ad f i s sp)[j]? = some (.int (f (s + j)))
  | _, [], j, h => by simp at h
  | s, none :: t, 0, h => rfl
  | s, some q :: t, 0, h => by simp at h
  | s, none :: t, j + 1, h => by
    rw [List.getElem?_cons_succ] at h
    show (gflA ad f i (s + 1) t)[j]? = _
    rw [gflA_none h, show s + 1 + j = s + (j + 1) by omega]
  | s, some q :: t, j + 1, h => by
    rw [List.getElem?_cons_succ] at h
    show (gflA ad f i (s + 1) t)[j]? = _
    rw [gflA_none h, show s + 1 + j = s + (j + 1) by omega]
theorem gflA_some {ad : Nat → Nat → Nat} {f : Nat → Int32} {i : Nat} {q : Nat × (Nat → Nat)} : ∀ {s : Nat} {sp : gSp} {j : Nat}, sp[j]? = some (some q) → (gflA ad f i s sp)[j]? = some (.ref (ad q.1 (q.2 i)))
  | _, [], j, h => by simp at h
  | s, none :: t, 0, h => by simp at h
  | s, some q :: t, 0, h => by
    rw [List.getElem?_cons_zero] at h
    cases h
    rfl
  | s, none :: t, j + 1, h => gflA_some (s := s + 1) (sp := t) (by rw [List.getElem?_cons_succ] at h; exact h)
  | s, some q :: t, j + 1, h => gflA_some (s := s + 1) (sp := t) (by rw [List.getElem?_cons_succ] at h; exact h)
theorem gflA_set {ad : Nat → Nat → Nat} {f g : Nat → Int32} {i : Nat} {v : Int32} : ∀ {s : Nat} {sp : gSp} {j : Nat}, sp[j]? = some none → (∀ q, g q = if q = s + j then v else f q) → (gflA ad f i s sp).set j (.int v) = gflA ad g i s sp
  | _, [], j, h, _ => by simp at h
  | s, none :: t, 0, h, hg => by
    have h1 : gflA ad f i (s + 1) t = gflA ad g i (s + 1) t := gflA_congr (fun q hq => by rw [hg q, if_neg (by omega)])
    simp [gflA, h1, hg s]
  | s, some q :: t, 0, h, hg => by simp at h
  | s, none :: t, j + 1, h, hg => by
    rw [List.getElem?_cons_succ] at h
    have h1 := gflA_set (ad := ad) (f := f) (g := g) (i := i) (v := v) (s := s + 1) h (fun q => by rw [hg q, show s + 1 + j = s + (j + 1) by omega])
    simp [gflA, h1, hg s]
  | s, some q :: t, j + 1, h, hg => by
    rw [List.getElem?_cons_succ] at h
    have h1 := gflA_set (ad := ad) (f := f) (g := g) (i := i) (v := v) (s := s + 1) h (fun q => by rw [hg q, show s + 1 + j = s + (j + 1) by omega])
    simp [gflA, h1]
where
  gflA_congr {ad : Nat → Nat → Nat} {f g : Nat → Int32} {i : Nat} : ∀ {s : Nat} {sp : gSp}, (∀ q, s ≤ q → f q = g q) → gflA ad f i s sp = gflA ad g i s sp
  | _, [], _ => rfl
  | s, none :: t, h => by simp [gflA, h s (Nat.le_refl _), gflA_congr (s := s + 1) (sp := t) (fun q hq => h q (by omega))]
  | s, some q :: t, h => by simp [gflA, gflA_congr (s := s + 1) (sp := t) (fun q hq => h q (by omega))]
def gcell (w : gWd) (σ : gSt) (k i : Nat) : va_E :=
  if gkd k = 0 then .inr (gci k, gflA w.2.1 (σ k i) i 0 (gsp k))
  else if gkd k = 1 then .inl (w.2.2.1, gln k, .inl (σ k i))
  else if gkd k = 2 then .inl (w.2.2.2.1, 3, .inr (.inr (.inr (.inr (fun n => some (w.2.1 8 (3 * i + n)))))))
  else .inl (w.2.2.2.2, 10, .inr (.inr (.inr (.inr (fun n => some (w.2.1 10 (10 * i + n)))))))
def gok (lo hi k i : Nat) : Prop := lo ≤ k ∧ k < hi ∧ i < gcn k
def gids (lo hi : Nat) : List (Nat × Nat) := ((List.range hi).filter (fun k => decide (lo ≤ k))).flatMap (fun k => (List.range (gcn k)).map (fun i => (k, i)))
theorem gids_mem {lo hi k i : Nat} : (k, i) ∈ gids lo hi ↔ gok lo hi k i := by
  simp only [gids, List.mem_flatMap, List.mem_filter, List.mem_range, List.mem_map, decide_eq_true_eq, Prod.mk.injEq, gok]
  constructor
  · rintro ⟨k', ⟨h1, h2⟩, i', h3, rfl, rfl⟩
    exact ⟨h2, h1, h3⟩
  · rintro ⟨h1, h2, h3⟩
    exact ⟨k, ⟨h2, h1⟩, i, h3, rfl, rfl⟩
def gws (w : gWd) (lo hi : Nat) (σ : gSt) : va_W := (gids lo hi).map (fun q => (w.2.1 q.1 q.2, gcell w σ q.1 q.2))
def gA (w : gWd) (lo hi : Nat) : Nat → Prop := fun q => ∃ k i, gok lo hi k i ∧ q = w.2.1 k i
def gInj (w : gWd) : Prop := ∀ k i k' i', gok 0 41 k i → gok 0 41 k' i' → w.2.1 k i = w.2.1 k' i' → k = k' ∧ i = i'
def Hold (w : gWd) (lo hi : Nat) (σ : gSt) (H : Heap) : Prop := va_P w.1.1 vwCl (gws w lo hi σ) H
abbrev gtys (w : gWd) : List (ClassId × FieldType) := [(w.2.2.1, .int), (w.2.2.2.1, .object "ForestLegs$Course"), (w.2.2.2.2, .object "ForestLegs$Runne\x72")]
/-- what holds around stays, whatever our own cells become -/
def gStab (w : gWd) : Prop := (∀ s U : State, U.vm = s.vm → U.heap = s.heap → w.1.2 s → w.1.2 U) ∧ ∀ (s U : State) (locs : List Loc), va_S (gA w 0 41) s.heap U.heap locs → s.WarmedH U.vm → w.1.2 s → w.1.2 U
def gK (w : gWd) (s : State) : Prop := va_K w.1.1 vwCl (gtys w) s ∧ gInj w ∧ w.1.2 s ∧ gStab w
theorem gK.same {w : gWd} {u U : State} (hv : U.vm = u.vm) (hh : U.heap = u.heap) (h : gK w u) : gK w U := ⟨h.1.moved (by rw [hv]; exact Vm.Alike.refl _), h.2.1, h.2.2.2.1 u U hv hh h.2.2.1, h.2.2.2⟩
theorem gK.on {w : gWd} {u U : State} {locs : List Loc} (hW : u.WarmedH U.vm) (hS : va_S (gA w 0 41) u.heap U.heap locs) (h : gK w u) : gK w U := ⟨h.1.moved hW.alike, h.2.1, h.2.2.2.2 u U locs hS hW h.2.2.1, h.2.2.2⟩
theorem gids_nodup (lo hi : Nat) : (gids lo hi).Nodup := by
  show List.Pairwise (· ≠ ·) (gids lo hi)
  unfold gids
  rw [List.pairwise_flatMap]
  refine ⟨fun k _ => ?_, ?_⟩
  · rw [List.pairwise_map]
    refine List.Pairwise.imp (R := (· ≠ ·)) ?_ List.nodup_range
    intro a b hab h
    exact hab (by simpa using h)
  · refine List.Pairwise.imp (R := (· ≠ ·)) ?_ (List.Pairwise.filter _ List.nodup_range)
    intro a b hab x hx y hy h
    obtain ⟨i, -, rfl⟩ := List.mem_map.mp hx
    obtain ⟨j, -, rfl⟩ := List.mem_map.mp hy
    simp only [Prod.mk.injEq] at h
    exact hab h.1
theorem gws_get {w : gWd} {lo hi : Nat} {k i : Nat} (h : gok lo hi k i) : ∃ q0 : Nat, (gids lo hi)[q0]? = some (k, i) ∧ ∀ σ : gSt, (gws w lo hi σ)[q0]? = some (w.2.1 k i, gcell w σ k i) := by
  obtain ⟨q0, h0⟩ := List.getElem?_of_mem (gids_mem.mpr h)
  exact ⟨q0, h0, fun σ => by rw [gws, List.getElem?_map, h0]; rfl⟩
theorem gws_set {w : gWd} {lo hi : Nat} {k i q0 : Nat} {σ σ' : gSt} (h0 : (gids lo hi)[q0]? = some (k, i)) (h : ∀ k' i', (k', i') ≠ (k, i) → gcell w σ' k' i' = gcell w σ k' i') : (gws w lo hi σ).set q0 (w.2.1 k i, gcell w σ' k i) = gws w lo hi σ' := by
  apply List.ext_getElem?
  intro j
  have hl : q0 < (gws w lo hi σ).length := by rw [gws, List.length_map]; exact (List.getElem?_eq_some_iff.mp h0).1
  by_cases hj : j = q0
  · subst hj
    rw [List.getElem?_set_self hl, gws, List.getElem?_map, h0]
    rfl
  · rw [List.getElem?_set_ne (Ne.symm hj), gws, gws, List.getElem?_map, List.getElem?_map]
    cases hq : (gids lo hi)[j]? with
    | none => rfl
    | some q =>
      obtain ⟨k', i'⟩ := q
      have hne : (k', i') ≠ (k, i) := by
        intro e
        rw [e] at hq
        exact hj ((List.getElem?_inj (List.getElem?_eq_some_iff.mp hq).1 (gids_nodup lo hi)).mp (hq.trans h0.symm))
      simp only [Option.map_some]
      rw [h k' i' hne]
theorem gD {w : gWd} {lo hi : Nat} (hhi : hi ≤ 41) (hI : gInj w) (σ : gSt) : va_D (gA w lo hi) (gws w lo hi σ) := by
  have key : ∀ (j : Nat) (q : Nat × va_E), (gws w lo hi σ)[j]? = some q → ∃ k i, (gids lo hi)[j]? = some (k, i) ∧ gok lo hi k i ∧ q.1 = w.2.1 k i := by
    intro j q hq
    rw [gws, List.getElem?_map] at hq
    cases h : (gids lo hi)[j]? with
    | none => rw [h] at hq; cases hq
    | some x =>
      obtain ⟨k, i⟩ := x
      rw [h] at hq
      cases hq
      exact ⟨k, i, rfl, gids_mem.mp (List.mem_of_getElem? h), rfl⟩
  refine ⟨fun a b p q hp hq hpq => ?_, fun j q hq => ?_⟩
  · obtain ⟨k, i, h1, h2, h3⟩ := key a p hp
    obtain ⟨k', i', h4, h5, h6⟩ := key b q hq
    obtain ⟨e1, e2⟩ := hI k i k' i' ⟨Nat.zero_le _, Nat.lt_of_lt_of_le h2.2.1 hhi, h2.2.2⟩ ⟨Nat.zero_le _, Nat.lt_of_lt_of_le h5.2.1 hhi, h5.2.2⟩ (by rw [← h3, ← h6, hpq])
    subst e1; subst e2
    exact (List.getElem?_inj (List.getElem?_eq_some_iff.mp h1).1 (gids_nodup lo hi)).mp (h1.trans h4.symm)
  · obtain ⟨k, i, -, h2, h3⟩ := key j q hq
    exact ⟨k, i, h2, h3⟩
theorem gcell_obj {w : gWd} {σ : gSt} {k i : Nat} (h : gkd k = 0) : gcell w σ k i = .inr (gci k, gflA w.2.1 (σ k i) i 0 (gsp k)) := by rw [gcell, if_pos h]
theorem gcell_int {w : gWd} {σ : gSt} {k i : Nat} (h : gkd k = 1) : gcell w σ k i = .inl (w.2.2.1, gln k, .inl (σ k i)) := by rw [gcell, if_neg (by omega), if_pos h]
theorem gcell_crs {w : gWd} {σ : gSt} {k i : Nat} (h : gkd k = 2) : gcell w σ k i = .inl (w.2.2.2.1, 3, .inr (.inr (.inr (.inr (fun n => some (w.2.1 8 (3 * i + n))))))) := by rw [gcell, if_neg (by omega), if_neg (by omega), if_pos h]
theorem gcell_run {w : gWd} {σ : gSt} {k i : Nat} (h : gkd k = 3) : gcell w σ k i = .inl (w.2.2.2.2, 10, .inr (.inr (.inr (.inr (fun n => some (w.2.1 10 (10 * i + n))))))) := by rw [gcell, if_neg (by omega), if_neg (by omega), if_neg (by omega)]
theorem gcell_same {w : gWd} {σ σ' : gSt} {k i : Nat} (h : σ' k i = σ k i) : gcell w σ' k i = gcell w σ k i := by simp only [gcell, h]
theorem gup_same {σ : gSt} {k i s : Nat} {v : Int32} : gup σ k i s v k i s = v := by simp [gup]
theorem gup_row {σ : gSt} {k i s : Nat} {v : Int32} : gup σ k i s v k i = fun q => if q = s then v else σ k i q := by funext q; simp [gup]
theorem gup_kind {σ : gSt} {k i s k' : Nat} {v : Int32} (h : k' ≠ k) : gup σ k i s v k' = σ k' := by funext a b; simp [gup, h]
theorem gup_num {σ : gSt} {k i s k' i' : Nat} {v : Int32} (h : i' ≠ i) : gup σ k i s v k' i' = σ k' i' := by funext b; simp [gup, h]
theorem gup_slot {σ : gSt} {k i s k' i' s' : Nat} {v : Int32} (h : s' ≠ s) : gup σ k i s v k' i' s' = σ k' i' s' := by simp [gup, h]
theorem gup_ne {σ : gSt} {k i s k' i' : Nat} {v : Int32} (h : (k', i') ≠ (k, i)) : gup σ k i s v k' i' = σ k' i' := by
  funext q
  simp only [gup]
  rw [if_neg]
  rintro ⟨rfl, rfl, -⟩
  exact h rfl
theorem gupr_same {σ : gSt} {k i : Nat} {f : Nat → Int32} : gupr σ k i f k i = f := by simp [gupr]
theorem gupr_ne {σ : gSt} {k i k' i' : Nat} {f : Nat → Int32} (h : (k', i') ≠ (k, i)) : gupr σ k i f k' i' = σ k' i' := by
  simp only [gupr]
  rw [if_neg]
  rintro ⟨rfl, rfl⟩
  exact h rfl
/-! the method's frame -/
def gF (p : Program) (s : State) (m : MethodId) (args : Array Value) (meth : Method) (c : Code) (w : gWd) (own : String) (cc : ByteArray) (nL : Nat) (ret : Option FieldType) : Prop :=
  p.tables.exec = Jvm.exec ∧ c.code = cc ∧ c.maxLocals = nL ∧ s.vm.findClass own = some m.cls ∧ (∀ x ∈ gGood, x.before args s = true) ∧ gK w s ∧ meth.sig.returnType = ret ∧ meth.locks = false
def gHas (ls : Array Slot) (nL : Nat) (L : List (Option Value)) : Prop := ls.size = nL ∧ lv_wf ls ∧ L.length = nL ∧ ∀ (i : Nat) (v : Value), L[i]? = some (some v) → ls[i]? = some (.val v) ∧ v.category = 1
def glv (L : List (Option Value)) : List (Nat × Value) := (List.range L.length).filterMap (fun i => match L[i]? with
  | some (some v) => some (i, v)
  | _ => none)
theorem glv_mem {L : List (Option Value)} {i : Nat} {v : Value} : (i, v) ∈ glv L ↔ L[i]? = some (some v) := by
  simp only [glv, List.mem_filterMap, List.mem_range]
  constructor
  · rintro ⟨j, hj, h⟩
    split at h
    · next v' hv => cases h; exact hv
    · cases h
  · intro h
    refine ⟨i, (List.getElem?_eq_some_iff.mp h).1, ?_⟩
    rw [h]
theorem gHas.lv {ls : Array Slot} {nL : Nat} {L : List (Option Value)} (h : gHas ls nL L) : lv_has ls nL (glv L) := ⟨h.1, h.2.1, fun q hq => (h.2.2.2 q.1 q.2 (glv_mem.mp hq)).1⟩
theorem gHas.set {ls' : Array Slot} {nL : Nat} {L : List (Option Value)} {i : Nat} {x : Value} (hc : x.category = 1) (hL : L.length = nL) (hcat : ∀ (j : Nat) (v : Value), L[j]? = some (some v) → v.category = 1)
    (h : lv_has ls' nL ((i, x) :: (glv L).filter (fun q => !(q.1 == i) && !(q.1 + 1 == i && q.2.category == 2)))) : gHas ls' nL (L.set i (some x)) := by
  refine ⟨h.1, h.2.1, by rw [List.length_set]; exact hL, fun j v hj => ?_⟩
  by_cases e : j = i
  · subst e
    by_cases hl : j < L.length
    · rw [List.getElem?_set_self hl] at hj
      cases hj
      exact ⟨h.2.2 (j, x) List.mem_cons_self, hc⟩
    · rw [List.getElem?_eq_none (by rw [List.length_set]; omega)] at hj
      cases hj
  · rw [List.getElem?_set_ne (Ne.symm e)] at hj
    refine ⟨h.2.2 (j, v) (List.mem_cons_of_mem _ (List.mem_filter.mpr ⟨glv_mem.mpr hj, ?_⟩)), hcat j v hj⟩
    simp [e, hcat j v hj]
/-- what a method leaves behind -/
def gQ (w : gWd) (lo hi : Nat) (post : Option Value → gSt → Prop) : Array Value → State → Outcome → State → Prop := fun _ st o t => ∃ (v : Option Value) (σ' : gSt), o = .returned v ∧ post v σ' ∧ Hold w lo hi σ' t.heap ∧ va_F (gA w lo hi) st t
def gP (w : gWd) (lo hi : Nat) (σ : gSt) (av : List Value) : Array Value → State → Prop := fun v U => v = av.toArray ∧ Hold w lo hi σ U.heap ∧ gK w U
abbrev gRm (fr lc : Nat) : Room := { frames := fr, cells := 0, slots := 0, locals := lc }
/-- THE CONTRACT of a method: from the store σ, called with av, it returns, and post says with what and with which store -/
def Mt (l : Launch) (w : gWd) (lo hi : Nat) (y : MethodName) (b : ByteArray) (n : Nat) (ret : Option FieldType) (fr lc : Nat) (av : List Value) (σ : gSt) (post : Option Value → gSt → Prop) : Prop :=
  Met l y (Cond.code y b n ret :: gGood) (gRm fr lc) (gP w lo hi σ av) (gQ w lo hi post) 0 0 (gA w lo hi)
/-- THE WALK: from pc, locals L, stack st, store σ the method comes to its end with post -/
def G (l : Launch) (w : gWd) (lo hi : Nat) (own : String) (cc : ByteArray) (nL : Nat) (ret : Option FieldType) (fr lc : Nat) (post : Option Value → gSt → Prop) (pc : Nat) (L : List (Option Value)) (st : List Value) (σ : gSt) : Prop :=
  ∀ (p : Program) (e : Env) (s : State) (m : MethodId) (args : Array Value) (below : List Frame) (meth : Method) (c : Code) (H : Heap) (locs : List Loc) (ls : Array Slot),
    gF p s m args meth c w own cc nL ret → gHas ls nL L → Hold w lo hi σ H → va_S (gA w lo hi) s.heap H locs →
    W p l e (gRm fr lc) s m args below meth c H locs 0 0 (MQ below (gQ w lo hi post) args s 0 0 (gA w lo hi)) (F0 m pc ls st)
abbrev gE (v : Option Value) (σ : gSt) : Option Value → gSt → Prop := fun v' σ' => v' = v ∧ σ' = σ
abbrev gI (P : Int32 → gSt → Prop) : Option Value → gSt → Prop := fun v' σ' => ∃ r : Int32, v' = some (.int r) ∧ P r σ'
abbrev gV (P : gSt → Prop) : Option Value → gSt → Prop := fun v' σ' => v' = none ∧ P σ'
abbrev bI (b : Bool) : Int32 := if b then 1 else 0
