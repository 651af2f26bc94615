def obind {α β : Type} {x : Option α} {f : α → Option β} {r : β} (h : x.bind f = some r) : ∃ a, x = some a ∧ f a = some r := Option.bind_eq_some_iff.mp h
theorem gif_t {α : Type} {c : Prop} [Decidable c] {a b x : α} (q : c) (h : (if c then a else b) = x) : a = x := by rw [if_pos q] at h; exact h
theorem gif_f {α : Type} {c : Prop} [Decidable c] {a b x : α} (q : ¬ c) (h : (if c then a else b) = x) : b = x := by rw [if_neg q] at h; exact h
def gFuel : Nat := 5000
def gin (x : Int32) (n : Nat) : Bool := decide (0 ≤ x.toInt) && decide (x.toInt < (n : Int))
def gld (σ : gSt) (k i n : Nat) (x : Int32) : Option Int32 := if gin x n = true then some (σ k i x.toNatClampNeg) else none
def gst (σ : gSt) (k i n : Nat) (x v : Int32) : Option gSt := if gin x n = true then some (gup σ k i x.toNatClampNeg v) else none
def gox (n : Nat) (x : Int32) : Option Nat := if gin x n = true then some x.toNatClampNeg else none
def gdv (x y : Int32) : Option Int32 := if y = 0 then none else some (x / y)
def grm (x y : Int32) : Option Int32 := if y = 0 then none else some (x - x / y * y)
def gus (x y : Int32) : Int32 := (x.toUInt32 >>> (y.toUInt32 &&& Int32.toUInt32 31)).toInt32
def gzr (x : Int32) (σ : gSt) : Option (Int32 × gSt) := if x = 0 ∨ x = 1 then some (x, σ) else none
def grf (N j : Nat) (σ : gSt) : Option (Nat × gSt) := if j < N then some (j, σ) else none
def gcpy (σ : gSt) (k0 i0 n0 k1 i1 n1 : Nat) (sp dp n : Int32) : Option gSt := if (¬ sp < 0 ∧ ¬ dp < 0 ∧ ¬ n < 0) ∧ sp.toNatClampNeg + n.toNatClampNeg ≤ n0 ∧ dp.toNatClampNeg + n.toNatClampNeg ≤ n1 then some (gupr σ k1 i1 (va_cpy (σ k0 i0) (σ k1 i1) sp.toNatClampNeg dp.toNatClampNeg n.toNatClampNeg)) else none
theorem gin_iff {x : Int32} {n : Nat} : gin x n = true ↔ 0 ≤ x.toInt ∧ x.toInt < (n : Int) := by simp [gin]
theorem gin_nI {x : Int32} {n : Nat} (h : gin x n = true) : x = nI x.toNatClampNeg ∧ x.toNatClampNeg < n := by
  have h1 := gin_iff.mp h
  have h2 : (x.toNatClampNeg : Int) = x.toInt := by show ((x.toInt.toNat : Nat) : Int) = _; omega
  have h3 := x.toInt_lt
  refine ⟨?_, by omega⟩
  apply Int32.toInt_inj.mp
  rw [nI_toInt (by omega)]
  omega
section MB
variable {l : Launch} {w : gWd} {own : String} {cc : ByteArray} {nL : Nat} {ret : Option FieldType} {fr lc : Nat} {post : Option Value → gSt → Prop} {pc : Nat} {L : List (Option Value)} {st : List Value} {σ : gSt}
theorem g_ldB {k i n : Nat} {x a : Int32} (e : gld σ k i n x = some a) (hok : gok 0 41 k i) (hn : gln k = n) (hk : gkd k = 1) (hz : n < 2147483648) (hdg : decode cc pc = .ok (.iaload, 1)) (kk : G l w 0 41 own cc nL ret fr lc post (pc + 1) L (.int a :: st) σ) : G l w 0 41 own cc nL ret fr lc post pc L (.int x :: .ref (w.2.1 k i) :: st) σ := by
  unfold gld at e
  by_cases hg : gin x n = true
  · rw [if_pos hg] at e
    cases e
    obtain ⟨h1, h2⟩ := gin_nI hg
    exact g_iald _ h1 (by rw [hn]; exact h2) hk (by rw [hn]; exact hz) hok hdg kk
  · rw [if_neg hg] at e; cases e
theorem g_stB {k i n : Nat} {x v : Int32} {τ : gSt} (e : gst σ k i n x v = some τ) (hok : gok 0 41 k i) (hn : gln k = n) (hk : gkd k = 1) (hz : n < 2147483648) (hdg : decode cc pc = .ok (.iastore, 1)) (kk : G l w 0 41 own cc nL ret fr lc post (pc + 1) L st τ) : G l w 0 41 own cc nL ret fr lc post pc L (.int v :: .int x :: .ref (w.2.1 k i) :: st) σ := by
  unfold gst at e
  by_cases hg : gin x n = true
  · rw [if_pos hg] at e
    cases e
    obtain ⟨h1, h2⟩ := gin_nI hg
    exact g_iast _ (by decide) h1 (by rw [hn]; exact h2) hk (by rw [hn]; exact hz) hok hdg kk
  · rw [if_neg hg] at e; cases e
theorem g_dvB {x y a : Int32} (e : gdv x y = some a) (hdg : decode cc pc = .ok (.idiv, 1)) (kk : G l w 0 41 own cc nL ret fr lc post (pc + 1) L (.int a :: st) σ) : G l w 0 41 own cc nL ret fr lc post pc L (.int y :: .int x :: st) σ := by
  unfold gdv at e
  by_cases hg : y = 0
  · rw [if_pos hg] at e; cases e
  · rw [if_neg hg] at e; cases e; exact g_idiv hdg hg kk
theorem g_rmB {x y a : Int32} (e : grm x y = some a) (hdg : decode cc pc = .ok (.irem, 1)) (kk : G l w 0 41 own cc nL ret fr lc post (pc + 1) L (.int a :: st) σ) : G l w 0 41 own cc nL ret fr lc post pc L (.int y :: .int x :: st) σ := by
  unfold grm at e
  by_cases hg : y = 0
  · rw [if_pos hg] at e; cases e
  · rw [if_neg hg] at e; cases e; exact g_irem hdg hg kk
theorem gox_lt {n j : Nat} {x : Int32} (e : gox n x = some j) : x = nI j ∧ j < n := by
  unfold gox at e
  by_cases hg : gin x n = true
  · rw [if_pos hg] at e; cases e; exact gin_nI hg
  · rw [if_neg hg] at e; cases e
theorem g_aaC {i j : Nat} {x : Int32} (e : gox 3 x = some j) (hok : gok 0 41 4 i) (hdg : decode cc pc = .ok (.aaload, 1)) (kk : 3 * i + j < 6 → G l w 0 41 own cc nL ret fr lc post (pc + 1) L (.ref (w.2.1 8 (3 * i + j)) :: st) σ) : G l w 0 41 own cc nL ret fr lc post pc L (.int x :: .ref (w.2.1 4 i) :: st) σ := by
  obtain ⟨h1, h2⟩ := gox_lt e
  have h3 : i < 2 := hok.2.2
  exact g_aaldC j h1 h2 rfl hok hdg (kk (by omega))
theorem g_aaR {i j : Nat} {x : Int32} (e : gox 10 x = some j) (hok : gok 0 41 5 i) (hdg : decode cc pc = .ok (.aaload, 1)) (kk : 10 * i + j < 20 → G l w 0 41 own cc nL ret fr lc post (pc + 1) L (.ref (w.2.1 10 (10 * i + j)) :: st) σ) : G l w 0 41 own cc nL ret fr lc post pc L (.int x :: .ref (w.2.1 5 i) :: st) σ := by
  obtain ⟨h1, h2⟩ := gox_lt e
  have h3 : i < 2 := hok.2.2
  exact g_aaldR j h1 h2 rfl hok hdg (kk (by omega))
theorem g_zretG {x : Int32} {r : Int32 × gSt} (h : gzr x σ = some r) (hdg : decode cc pc = .ok (.ireturn, 1)) (hr : ret = some .boolean) : G l w 0 41 own cc nL ret fr lc (gE (some (.int r.1)) r.2) pc L [.int x] σ := by
  unfold gzr at h
  by_cases hg : x = 0 ∨ x = 1
  · rw [if_pos hg] at h
    cases h
    exact g_ret hdg hr (by rcases hg with rfl | rfl <;> decide) ⟨rfl, rfl⟩
  · rw [if_neg hg] at h; cases h
theorem g_zret0 (hdg : decode cc pc = .ok (.ireturn, 1)) (hr : ret = some .boolean) : G l w 0 41 own cc nL ret fr lc (gE (some (.int ((0 : Int32), σ).1)) ((0 : Int32), σ).2) pc L [.int 0] σ := g_ret hdg hr (by decide) ⟨rfl, rfl⟩
theorem g_zret1 (hdg : decode cc pc = .ok (.ireturn, 1)) (hr : ret = some .boolean) : G l w 0 41 own cc nL ret fr lc (gE (some (.int ((1 : Int32), σ).1)) ((1 : Int32), σ).2) pc L [.int 1] σ := g_ret hdg hr (by decide) ⟨rfl, rfl⟩
/-- a reference of a kind comes back -/
def gRf (w : gWd) (k N : Nat) (r : Nat × gSt) : Option Value → gSt → Prop := fun v σ' => v = some (.ref (w.2.1 k r.1)) ∧ σ' = r.2 ∧ r.1 < N
theorem g_aretB {k N j : Nat} {r : Nat × gSt} {C : String} (h : grf N j σ = some r) (hdg : decode cc pc = .ok (.areturn, 1)) (hr : ret = some (.object C)) : G l w 0 41 own cc nL ret fr lc (gRf w k N r) pc L [.ref (w.2.1 k j)] σ := by
  unfold grf at h
  by_cases hg : j < N
  · rw [if_pos hg] at h
    cases h
    exact g_aret hdg hr ⟨rfl, rfl, hg⟩
  · rw [if_neg hg] at h; cases h
theorem g_vR1 {k i kr N : Nat} {idx : Nat} {y : MethodName} {b : ByteArray} {n fr' lc' : Nat} {rt : Option FieldType} {rest : List Value} {x1 : Value} {r : Nat × gSt} (hlk : gMv own idx k y b n rt 1) (hdg : decode cc pc = .ok (.invokevirtual idx, 3)) (hok : gok 0 41 k i) (hR : fr' + 1 ≤ fr ∧ 8 + (n + 11) + lc' ≤ lc) (hW : (rest.map fun v => v.category).sum ≤ 8) (hM : Mt l w 0 41 y b n rt fr' lc' (.ref (w.2.1 k i) :: [x1]) σ (gRf w kr N r)) (kk : r.1 < N → G l w 0 41 own cc nL ret fr lc post (pc + 3) L (.ref (w.2.1 kr r.1) :: rest) r.2) : G l w 0 41 own cc nL ret fr lc post pc L (x1 :: .ref (w.2.1 k i) :: rest) σ := g_callV (As := [x1]) hlk hM rfl rfl hok hR hW hdg (fun _ _ h => by obtain ⟨rfl, rfl, hb⟩ := h; exact kk hb)
theorem g_inc {i : Nat} {n : Int} {x c : Int32} (hc : Int32.ofInt n = c) (hdg : decode cc pc = .ok (.iinc i n, 3)) (hL : L[i]? = some (some (.int x))) (kk : G l w 0 41 own cc nL ret fr lc post (pc + 3) (L.set i (some (.int (x + c)))) st σ) : G l w 0 41 own cc nL ret fr lc post pc L st σ := g_iinc hdg hL (by rw [hc]) kk
theorem tabOut {x : Int32} {b : Nat} (hb : b < 2147483648) (h : ∀ j : Nat, j ≤ b → x ≠ nI j) : x.toInt < 0 ∨ (b : Int) < x.toInt := by
  by_cases h0 : x.toInt < 0
  · exact Or.inl h0
  · by_cases h1 : (b : Int) < x.toInt
    · exact Or.inr h1
    · exact absurd (gin_nI (n := b + 1) (gin_iff.mpr ⟨by omega, by omega⟩)).1 (h _ (by have := (gin_nI (n := b + 1) (x := x) (gin_iff.mpr ⟨by omega, by omega⟩)).2; omega))
theorem g_lookup {dflt : Int} {ps : Array (Int × Int)} {len : Nat} {x : Int32} {off : Int} (tgt : Nat) (hdg : decode cc pc = .ok (.lookupswitch dflt ps, len)) (hp : (ps.toList.zip (ps.toList.drop 1)).all (fun (a, next) => a.1 < next.1) = true) (ho : Op.lookupswitch.offset ps.toList dflt x.toInt = off) (ht : (pc : Int) + off = (tgt : Int)) (kk : G l w 0 41 own cc nL ret fr lc post tgt L st σ) : G l w 0 41 own cc nL ret fr lc post pc L (.int x :: st) σ := g_of (fun p e s m args below meth c H locs ls Q F hl k => lv_lookup F.1 F.2.1 hdg hp ho ht k) kk

theorem ok_0 : gok 0 41 0 0 := ⟨Nat.zero_le _, by decide, by decide⟩
theorem ok_1 : gok 0 41 1 0 := ⟨Nat.zero_le _, by decide, by decide⟩
theorem ok_2 : gok 0 41 2 0 := ⟨Nat.zero_le _, by decide, by decide⟩
theorem ok_3 {i : Nat} (h : i < 2) : gok 0 41 3 i := ⟨Nat.zero_le _, by decide, h⟩
theorem ok_4 {i : Nat} (h : i < 2) : gok 0 41 4 i := ⟨Nat.zero_le _, by decide, h⟩
theorem ok_5 {i : Nat} (h : i < 2) : gok 0 41 5 i := ⟨Nat.zero_le _, by decide, h⟩
theorem ok_6 {i : Nat} (h : i < 2) : gok 0 41 6 i := ⟨Nat.zero_le _, by decide, h⟩
theorem ok_7 {i : Nat} (h : i < 2) : gok 0 41 7 i := ⟨Nat.zero_le _, by decide, h⟩
theorem ok_8 {i : Nat} (h : i < 6) : gok 0 41 8 i := ⟨Nat.zero_le _, by decide, h⟩
theorem ok_9 {i : Nat} (h : i < 6) : gok 0 41 9 i := ⟨Nat.zero_le _, by decide, h⟩
theorem ok_10 {i : Nat} (h : i < 20) : gok 0 41 10 i := ⟨Nat.zero_le _, by decide, h⟩
theorem ok_11 {i : Nat} (h : i < 20) : gok 0 41 11 i := ⟨Nat.zero_le _, by decide, h⟩
theorem ok_12 {i : Nat} (h : i < 20) : gok 0 41 12 i := ⟨Nat.zero_le _, by decide, h⟩
theorem ok_13 {i : Nat} (h : i < 20) : gok 0 41 13 i := ⟨Nat.zero_le _, by decide, h⟩
theorem ok_14 {i : Nat} (h : i < 20) : gok 0 41 14 i := ⟨Nat.zero_le _, by decide, h⟩
theorem ok_15 : gok 0 41 15 0 := ⟨Nat.zero_le _, by decide, by decide⟩
theorem ok_16 : gok 0 41 16 0 := ⟨Nat.zero_le _, by decide, by decide⟩
theorem ok_17 : gok 0 41 17 0 := ⟨Nat.zero_le _, by decide, by decide⟩
theorem ok_18 : gok 0 41 18 0 := ⟨Nat.zero_le _, by decide, by decide⟩
theorem ok_19 : gok 0 41 19 0 := ⟨Nat.zero_le _, by decide, by decide⟩
theorem ok_20 : gok 0 41 20 0 := ⟨Nat.zero_le _, by decide, by decide⟩
theorem ok_21 : gok 0 41 21 0 := ⟨Nat.zero_le _, by decide, by decide⟩
theorem ok_22 : gok 0 41 22 0 := ⟨Nat.zero_le _, by decide, by decide⟩
theorem ok_23 : gok 0 41 23 0 := ⟨Nat.zero_le _, by decide, by decide⟩
theorem ok_24 : gok 0 41 24 0 := ⟨Nat.zero_le _, by decide, by decide⟩
theorem ok_25 : gok 0 41 25 0 := ⟨Nat.zero_le _, by decide, by decide⟩
theorem ok_26 : gok 0 41 26 0 := ⟨Nat.zero_le _, by decide, by decide⟩
theorem ok_27 : gok 0 41 27 0 := ⟨Nat.zero_le _, by decide, by decide⟩
theorem ok_28 : gok 0 41 28 0 := ⟨Nat.zero_le _, by decide, by decide⟩
theorem ok_29 : gok 0 41 29 0 := ⟨Nat.zero_le _, by decide, by decide⟩
theorem ok_30 : gok 0 41 30 0 := ⟨Nat.zero_le _, by decide, by decide⟩
theorem ok_31 : gok 0 41 31 0 := ⟨Nat.zero_le _, by decide, by decide⟩
theorem ok_32 : gok 0 41 32 0 := ⟨Nat.zero_le _, by decide, by decide⟩
theorem ok_33 : gok 0 41 33 0 := ⟨Nat.zero_le _, by decide, by decide⟩
theorem ok_34 : gok 0 41 34 0 := ⟨Nat.zero_le _, by decide, by decide⟩
theorem ok_35 : gok 0 41 35 0 := ⟨Nat.zero_le _, by decide, by decide⟩
theorem ok_36 : gok 0 41 36 0 := ⟨Nat.zero_le _, by decide, by decide⟩
theorem ok_37 : gok 0 41 37 0 := ⟨Nat.zero_le _, by decide, by decide⟩
theorem ok_38 : gok 0 41 38 0 := ⟨Nat.zero_le _, by decide, by decide⟩
theorem ok_39 : gok 0 41 39 0 := ⟨Nat.zero_le _, by decide, by decide⟩
theorem ok_40 : gok 0 41 40 0 := ⟨Nat.zero_le _, by decide, by decide⟩
theorem g_inc0 {z : List (Option Value)} {n : Int} {x c : Int32} (hc : Int32.ofInt n = c) (hdg : decode cc pc = .ok (.iinc 0 n, 3)) (kk : G l w 0 41 own cc nL ret fr lc post (pc + 3) (some (.int (x + c)) :: z) st σ) : G l w 0 41 own cc nL ret fr lc post pc (some (.int x) :: z) st σ := g_inc hc hdg rfl kk
theorem g_inc1 {a0 : Option Value} {z : List (Option Value)} {n : Int} {x c : Int32} (hc : Int32.ofInt n = c) (hdg : decode cc pc = .ok (.iinc 1 n, 3)) (kk : G l w 0 41 own cc nL ret fr lc post (pc + 3) (a0 :: some (.int (x + c)) :: z) st σ) : G l w 0 41 own cc nL ret fr lc post pc (a0 :: some (.int x) :: z) st σ := g_inc hc hdg rfl kk
theorem g_inc2 {a0 a1 : Option Value} {z : List (Option Value)} {n : Int} {x c : Int32} (hc : Int32.ofInt n = c) (hdg : decode cc pc = .ok (.iinc 2 n, 3)) (kk : G l w 0 41 own cc nL ret fr lc post (pc + 3) (a0 :: a1 :: some (.int (x + c)) :: z) st σ) : G l w 0 41 own cc nL ret fr lc post pc (a0 :: a1 :: some (.int x) :: z) st σ := g_inc hc hdg rfl kk
theorem g_inc3 {a0 a1 a2 : Option Value} {z : List (Option Value)} {n : Int} {x c : Int32} (hc : Int32.ofInt n = c) (hdg : decode cc pc = .ok (.iinc 3 n, 3)) (kk : G l w 0 41 own cc nL ret fr lc post (pc + 3) (a0 :: a1 :: a2 :: some (.int (x + c)) :: z) st σ) : G l w 0 41 own cc nL ret fr lc post pc (a0 :: a1 :: a2 :: some (.int x) :: z) st σ := g_inc hc hdg rfl kk
theorem g_inc4 {a0 a1 a2 a3 : Option Value} {z : List (Option Value)} {n : Int} {x c : Int32} (hc : Int32.ofInt n = c) (hdg : decode cc pc = .ok (.iinc 4 n, 3)) (kk : G l w 0 41 own cc nL ret fr lc post (pc + 3) (a0 :: a1 :: a2 :: a3 :: some (.int (x + c)) :: z) st σ) : G l w 0 41 own cc nL ret fr lc post pc (a0 :: a1 :: a2 :: a3 :: some (.int x) :: z) st σ := g_inc hc hdg rfl kk
theorem g_inc5 {a0 a1 a2 a3 a4 : Option Value} {z : List (Option Value)} {n : Int} {x c : Int32} (hc : Int32.ofInt n = c) (hdg : decode cc pc = .ok (.iinc 5 n, 3)) (kk : G l w 0 41 own cc nL ret fr lc post (pc + 3) (a0 :: a1 :: a2 :: a3 :: a4 :: some (.int (x + c)) :: z) st σ) : G l w 0 41 own cc nL ret fr lc post pc (a0 :: a1 :: a2 :: a3 :: a4 :: some (.int x) :: z) st σ := g_inc hc hdg rfl kk
theorem g_inc6 {a0 a1 a2 a3 a4 a5 : Option Value} {z : List (Option Value)} {n : Int} {x c : Int32} (hc : Int32.ofInt n = c) (hdg : decode cc pc = .ok (.iinc 6 n, 3)) (kk : G l w 0 41 own cc nL ret fr lc post (pc + 3) (a0 :: a1 :: a2 :: a3 :: a4 :: a5 :: some (.int (x + c)) :: z) st σ) : G l w 0 41 own cc nL ret fr lc post pc (a0 :: a1 :: a2 :: a3 :: a4 :: a5 :: some (.int x) :: z) st σ := g_inc hc hdg rfl kk
theorem g_inc7 {a0 a1 a2 a3 a4 a5 a6 : Option Value} {z : List (Option Value)} {n : Int} {x c : Int32} (hc : Int32.ofInt n = c) (hdg : decode cc pc = .ok (.iinc 7 n, 3)) (kk : G l w 0 41 own cc nL ret fr lc post (pc + 3) (a0 :: a1 :: a2 :: a3 :: a4 :: a5 :: a6 :: some (.int (x + c)) :: z) st σ) : G l w 0 41 own cc nL ret fr lc post pc (a0 :: a1 :: a2 :: a3 :: a4 :: a5 :: a6 :: some (.int x) :: z) st σ := g_inc hc hdg rfl kk
theorem g_inc8 {a0 a1 a2 a3 a4 a5 a6 a7 : Option Value} {z : List (Option Value)} {n : Int} {x c : Int32} (hc : Int32.ofInt n = c) (hdg : decode cc pc = .ok (.iinc 8 n, 3)) (kk : G l w 0 41 own cc nL ret fr lc post (pc + 3) (a0 :: a1 :: a2 :: a3 :: a4 :: a5 :: a6 :: a7 :: some (.int (x + c)) :: z) st σ) : G l w 0 41 own cc nL ret fr lc post pc (a0 :: a1 :: a2 :: a3 :: a4 :: a5 :: a6 :: a7 :: some (.int x) :: z) st σ := g_inc hc hdg rfl kk
theorem g_inc9 {a0 a1 a2 a3 a4 a5 a6 a7 a8 : Option Value} {z : List (Option Value)} {n : Int} {x c : Int32} (hc : Int32.ofInt n = c) (hdg : decode cc pc = .ok (.iinc 9 n, 3)) (kk : G l w 0 41 own cc nL ret fr lc post (pc + 3) (a0 :: a1 :: a2 :: a3 :: a4 :: a5 :: a6 :: a7 :: a8 :: some (.int (x + c)) :: z) st σ) : G l w 0 41 own cc nL ret fr lc post pc (a0 :: a1 :: a2 :: a3 :: a4 :: a5 :: a6 :: a7 :: a8 :: some (.int x) :: z) st σ := g_inc hc hdg rfl kk
theorem g_inc10 {a0 a1 a2 a3 a4 a5 a6 a7 a8 a9 : Option Value} {z : List (Option Value)} {n : Int} {x c : Int32} (hc : Int32.ofInt n = c) (hdg : decode cc pc = .ok (.iinc 10 n, 3)) (kk : G l w 0 41 own cc nL ret fr lc post (pc + 3) (a0 :: a1 :: a2 :: a3 :: a4 :: a5 :: a6 :: a7 :: a8 :: a9 :: some (.int (x + c)) :: z) st σ) : G l w 0 41 own cc nL ret fr lc post pc (a0 :: a1 :: a2 :: a3 :: a4 :: a5 :: a6 :: a7 :: a8 :: a9 :: some (.int x) :: z) st σ := g_inc hc hdg rfl kk
theorem g_inc11 {a0 a1 a2 a3 a4 a5 a6 a7 a8 a9 a10 : Option Value} {z : List (Option Value)} {n : Int} {x c : Int32} (hc : Int32.ofInt n = c) (hdg : decode cc pc = .ok (.iinc 11 n, 3)) (kk : G l w 0 41 own cc nL ret fr lc post (pc + 3) (a0 :: a1 :: a2 :: a3 :: a4 :: a5 :: a6 :: a7 :: a8 :: a9 :: a10 :: some (.int (x + c)) :: z) st σ) : G l w 0 41 own cc nL ret fr lc post pc (a0 :: a1 :: a2 :: a3 :: a4 :: a5 :: a6 :: a7 :: a8 :: a9 :: a10 :: some (.int x) :: z) st σ := g_inc hc hdg rfl kk
theorem g_inc12 {a0 a1 a2 a3 a4 a5 a6 a7 a8 a9 a10 a11 : Option Value} {z : List (Option Value)} {n : Int} {x c : Int32} (hc : Int32.ofInt n = c) (hdg : decode cc pc = .ok (.iinc 12 n, 3)) (kk : G l w 0 41 own cc nL ret fr lc post (pc + 3) (a0 :: a1 :: a2 :: a3 :: a4 :: a5 :: a6 :: a7 :: a8 :: a9 :: a10 :: a11 :: some (.int (x + c)) :: z) st σ) : G l w 0 41 own cc nL ret fr lc post pc (a0 :: a1 :: a2 :: a3 :: a4 :: a5 :: a6 :: a7 :: a8 :: a9 :: a10 :: a11 :: some (.int x) :: z) st σ := g_inc hc hdg rfl kk
theorem g_inc13 {a0 a1 a2 a3 a4 a5 a6 a7 a8 a9 a10 a11 a12 : Option Value} {z : List (Option Value)} {n : Int} {x c : Int32} (hc : Int32.ofInt n = c) (hdg : decode cc pc = .ok (.iinc 13 n, 3)) (kk : G l w 0 41 own cc nL ret fr lc post (pc + 3) (a0 :: a1 :: a2 :: a3 :: a4 :: a5 :: a6 :: a7 :: a8 :: a9 :: a10 :: a11 :: a12 :: some (.int (x + c)) :: z) st σ) : G l w 0 41 own cc nL ret fr lc post pc (a0 :: a1 :: a2 :: a3 :: a4 :: a5 :: a6 :: a7 :: a8 :: a9 :: a10 :: a11 :: a12 :: some (.int x) :: z) st σ := g_inc hc hdg rfl kk
theorem kc_m8 : Int32.ofInt (-8) = (-8) := by decide
theorem kc_m1 : Int32.ofInt (-1) = (-1) := by decide
theorem kc_0 : Int32.ofInt 0 = 0 := by decide
theorem kc_1 : Int32.ofInt 1 = 1 := by decide
theorem kc_2 : Int32.ofInt 2 = 2 := by decide
theorem kc_3 : Int32.ofInt 3 = 3 := by decide
theorem kc_4 : Int32.ofInt 4 = 4 := by decide
theorem kc_5 : Int32.ofInt 5 = 5 := by decide
theorem kc_6 : Int32.ofInt 6 = 6 := by decide
theorem kb_m2 : (Int8.ofInt (-2)).toInt32 = (-2) := by decide
theorem kb_6 : (Int8.ofInt 6).toInt32 = 6 := by decide
theorem kb_7 : (Int8.ofInt 7).toInt32 = 7 := by decide
theorem kb_8 : (Int8.ofInt 8).toInt32 = 8 := by decide
theorem kb_9 : (Int8.ofInt 9).toInt32 = 9 := by decide
theorem kb_10 : (Int8.ofInt 10).toInt32 = 10 := by decide
theorem kb_11 : (Int8.ofInt 11).toInt32 = 11 := by decide
theorem kb_16 : (Int8.ofInt 16).toInt32 = 16 := by decide
theorem kb_17 : (Int8.ofInt 17).toInt32 = 17 := by decide
theorem kb_20 : (Int8.ofInt 20).toInt32 = 20 := by decide
theorem kb_24 : (Int8.ofInt 24).toInt32 = 24 := by decide
theorem kb_31 : (Int8.ofInt 31).toInt32 = 31 := by decide
theorem kb_32 : (Int8.ofInt 32).toInt32 = 32 := by decide
theorem kb_37 : (Int8.ofInt 37).toInt32 = 37 := by decide
theorem kb_44 : (Int8.ofInt 44).toInt32 = 44 := by decide
theorem kb_45 : (Int8.ofInt 45).toInt32 = 45 := by decide
theorem kb_47 : (Int8.ofInt 47).toInt32 = 47 := by decide
theorem kb_48 : (Int8.ofInt 48).toInt32 = 48 := by decide
theorem kb_50 : (Int8.ofInt 50).toInt32 = 50 := by decide
theorem kb_57 : (Int8.ofInt 57).toInt32 = 57 := by decide
theorem kb_58 : (Int8.ofInt 58).toInt32 = 58 := by decide
theorem kb_59 : (Int8.ofInt 59).toInt32 = 59 := by decide
theorem kb_63 : (Int8.ofInt 63).toInt32 = 63 := by decide
theorem kb_64 : (Int8.ofInt 64).toInt32 = 64 := by decide
theorem kb_67 : (Int8.ofInt 67).toInt32 = 67 := by decide
theorem kb_77 : (Int8.ofInt 77).toInt32 = 77 := by decide
theorem kb_78 : (Int8.ofInt 78).toInt32 = 78 := by decide
theorem kb_97 : (Int8.ofInt 97).toInt32 = 97 := by decide
theorem kb_99 : (Int8.ofInt 99).toInt32 = 99 := by decide
theorem kb_100 : (Int8.ofInt 100).toInt32 = 100 := by decide
theorem kb_122 : (Int8.ofInt 122).toInt32 = 122 := by decide
theorem ks_187 : (Int16.ofInt 187).toInt32 = 187 := by decide
theorem ks_237 : (Int16.ofInt 237).toInt32 = 237 := by decide
theorem ks_255 : (Int16.ofInt 255).toInt32 = 255 := by decide
theorem ks_397 : (Int16.ofInt 397).toInt32 = 397 := by decide
theorem ks_600 : (Int16.ofInt 600).toInt32 = 600 := by decide
theorem ks_880 : (Int16.ofInt 880).toInt32 = 880 := by decide
theorem ks_900 : (Int16.ofInt 900).toInt32 = 900 := by decide
theorem ks_3970 : (Int16.ofInt 3970).toInt32 = 3970 := by decide
theorem ks_7216 : (Int16.ofInt 7216).toInt32 = 7216 := by decide
theorem ks_9998 : (Int16.ofInt 9998).toInt32 = 9998 := by decide
theorem ks_9999 : (Int16.ofInt 9999).toInt32 = 9999 := by decide
theorem nc_0 : nI 0 = 0 := by decide
theorem nc_1 : nI 1 = 1 := by decide
theorem nc_2 : nI 2 = 2 := by decide
theorem nc_3 : nI 3 = 3 := by decide
theorem nc_4 : nI 4 = 4 := by decide
theorem nc_5 : nI 5 = 5 := by decide
theorem nc_6 : nI 6 = 6 := by decide
theorem nc_7 : nI 7 = 7 := by decide
theorem nc_8 : nI 8 = 8 := by decide
theorem nc_9 : nI 9 = 9 := by decide
theorem nc_10 : nI 10 = 10 := by decide
theorem nc_11 : nI 11 = 11 := by decide
theorem nc_16 : nI 16 = 16 := by decide
theorem nc_50 : nI 50 = 50 := by decide
theorem nc_78 : nI 78 = 78 := by decide
theorem nc_100 : nI 100 = 100 := by decide
theorem nc_187 : nI 187 = 187 := by decide
theorem nc_397 : nI 397 = 397 := by decide
theorem nc_900 : nI 900 = 900 := by decide
theorem nc_3970 : nI 3970 = 3970 := by decide
theorem g_alenL {k i n : Nat} {x : Int32} (hx : nI n = x) (hn : gln k = n) (hk : gkd k = 1) (hok : gok 0 41 k i) (hdg : decode cc pc = .ok (.arraylength, 1)) (kk : G l w 0 41 own cc nL ret fr lc post (pc + 1) L (.int x :: st) σ) : G l w 0 41 own cc nL ret fr lc post pc L (.ref (w.2.1 k i) :: st) σ := g_alen hk hok hdg (by rw [hn, hx]; exact kk)
theorem g_alenCL {i : Nat} (hok : gok 0 41 4 i) (hdg : decode cc pc = .ok (.arraylength, 1)) (kk : G l w 0 41 own cc nL ret fr lc post (pc + 1) L (.int 3 :: st) σ) : G l w 0 41 own cc nL ret fr lc post pc L (.ref (w.2.1 4 i) :: st) σ := g_alenC rfl hok hdg (by rw [nc_3]; exact kk)
theorem g_alenRL {i : Nat} (hok : gok 0 41 5 i) (hdg : decode cc pc = .ok (.arraylength, 1)) (kk : G l w 0 41 own cc nL ret fr lc post (pc + 1) L (.int 10 :: st) σ) : G l w 0 41 own cc nL ret fr lc post pc L (.ref (w.2.1 5 i) :: st) σ := g_alenR rfl hok hdg (by rw [nc_10]; exact kk)
theorem gR_X0_11 (h : gok 0 41 26 0) (hdg : decode cc pc = .ok (.getfield 11, 3)) (kk : G l w 0 41 RX0 cc nL ret fr lc post (pc + 3) L (.ref (w.2.1 27 0) :: st) σ) : G l w 0 41 RX0 cc nL ret fr lc post pc L (.ref (w.2.1 26 0) :: st) σ := g_getR fl_X0_11 h rfl hdg kk
theorem gI_X0_15 (h : gok 0 41 26 0) (hdg : decode cc pc = .ok (.getfield 15, 3)) (kk : G l w 0 41 RX0 cc nL ret fr lc post (pc + 3) L (.int (σ 26 0 2) :: st) σ) : G l w 0 41 RX0 cc nL ret fr lc post pc L (.ref (w.2.1 26 0) :: st) σ := g_getI fl_X0_15 h rfl hdg kk
theorem gP_X0_15 {x : Int32} (h : gok 0 41 26 0) (hdg : decode cc pc = .ok (.putfield 15, 3)) (kk : G l w 0 41 RX0 cc nL ret fr lc post (pc + 3) L st (gup σ 26 0 2 x)) : G l w 0 41 RX0 cc nL ret fr lc post pc L (.int x :: .ref (w.2.1 26 0) :: st) σ := g_putI (by decide) fp_X0_15 rfl rfl h rfl hdg kk
theorem gR_X0_19 (h : gok 0 41 26 0) (hdg : decode cc pc = .ok (.getfield 19, 3)) (kk : G l w 0 41 RX0 cc nL ret fr lc post (pc + 3) L (.ref (w.2.1 3 1) :: st) σ) : G l w 0 41 RX0 cc nL ret fr lc post pc L (.ref (w.2.1 26 0) :: st) σ := g_getR fl_X0_19 h rfl hdg kk
theorem gI_X0_50 {i : Nat} (h : gok 0 41 10 i) (hdg : decode cc pc = .ok (.getfield 50, 3)) (kk : G l w 0 41 RX0 cc nL ret fr lc post (pc + 3) L (.int (σ 10 i 6) :: st) σ) : G l w 0 41 RX0 cc nL ret fr lc post pc L (.ref (w.2.1 10 i) :: st) σ := g_getI fl_X0_50 h rfl hdg kk
theorem gP_X0_50 {i : Nat} {x : Int32} (h : gok 0 41 10 i) (hdg : decode cc pc = .ok (.putfield 50, 3)) (kk : G l w 0 41 RX0 cc nL ret fr lc post (pc + 3) L st (gup σ 10 i 6 x)) : G l w 0 41 RX0 cc nL ret fr lc post pc L (.int x :: .ref (w.2.1 10 i) :: st) σ := g_putI (by decide) fp_X0_50 rfl rfl h rfl hdg kk
theorem gI_X0_55 {i : Nat} (h : gok 0 41 10 i) (hdg : decode cc pc = .ok (.getfield 55, 3)) (kk : G l w 0 41 RX0 cc nL ret fr lc post (pc + 3) L (.int (σ 10 i 7) :: st) σ) : G l w 0 41 RX0 cc nL ret fr lc post pc L (.ref (w.2.1 10 i) :: st) σ := g_getI fl_X0_55 h rfl hdg kk
theorem gP_X0_55 {i : Nat} {x : Int32} (h : gok 0 41 10 i) (hdg : decode cc pc = .ok (.putfield 55, 3)) (kk : G l w 0 41 RX0 cc nL ret fr lc post (pc + 3) L st (gup σ 10 i 7 x)) : G l w 0 41 RX0 cc nL ret fr lc post pc L (.int x :: .ref (w.2.1 10 i) :: st) σ := g_putI (by decide) fp_X0_55 rfl rfl h rfl hdg kk
theorem gR_X1_9 {i : Nat} (h : gok 0 41 8 i) (hdg : decode cc pc = .ok (.getfield 9, 3)) (kk : G l w 0 41 RX1 cc nL ret fr lc post (pc + 3) L (.ref (w.2.1 9 i) :: st) σ) : G l w 0 41 RX1 cc nL ret fr lc post pc L (.ref (w.2.1 8 i) :: st) σ := g_getR fl_X1_9 h rfl hdg kk
theorem gI_X1_17 {i : Nat} (h : gok 0 41 8 i) (hdg : decode cc pc = .ok (.getfield 17, 3)) (kk : G l w 0 41 RX1 cc nL ret fr lc post (pc + 3) L (.int (σ 8 i 1) :: st) σ) : G l w 0 41 RX1 cc nL ret fr lc post pc L (.ref (w.2.1 8 i) :: st) σ := g_getI fl_X1_17 h rfl hdg kk
theorem gP_X1_17 {i : Nat} {x : Int32} (h : gok 0 41 8 i) (hdg : decode cc pc = .ok (.putfield 17, 3)) (kk : G l w 0 41 RX1 cc nL ret fr lc post (pc + 3) L st (gup σ 8 i 1 x)) : G l w 0 41 RX1 cc nL ret fr lc post pc L (.int x :: .ref (w.2.1 8 i) :: st) σ := g_putI (by decide) fp_X1_17 rfl rfl h rfl hdg kk
theorem gI_X1_21 {i : Nat} (h : gok 0 41 8 i) (hdg : decode cc pc = .ok (.getfield 21, 3)) (kk : G l w 0 41 RX1 cc nL ret fr lc post (pc + 3) L (.int (σ 8 i 2) :: st) σ) : G l w 0 41 RX1 cc nL ret fr lc post pc L (.ref (w.2.1 8 i) :: st) σ := g_getI fl_X1_21 h rfl hdg kk
theorem gP_X1_21 {i : Nat} {x : Int32} (h : gok 0 41 8 i) (hdg : decode cc pc = .ok (.putfield 21, 3)) (kk : G l w 0 41 RX1 cc nL ret fr lc post (pc + 3) L st (gup σ 8 i 2 x)) : G l w 0 41 RX1 cc nL ret fr lc post pc L (.int x :: .ref (w.2.1 8 i) :: st) σ := g_putI (by decide) fp_X1_21 rfl rfl h rfl hdg kk
theorem gR_X10_9 (h : gok 0 41 1 0) (hdg : decode cc pc = .ok (.getfield 9, 3)) (kk : G l w 0 41 RX10 cc nL ret fr lc post (pc + 3) L (.ref (w.2.1 2 0) :: st) σ) : G l w 0 41 RX10 cc nL ret fr lc post pc L (.ref (w.2.1 1 0) :: st) σ := g_getR fl_X10_9 h rfl hdg kk
theorem gI_X10_15 (h : gok 0 41 1 0) (hdg : decode cc pc = .ok (.getfield 15, 3)) (kk : G l w 0 41 RX10 cc nL ret fr lc post (pc + 3) L (.int (σ 1 0 1) :: st) σ) : G l w 0 41 RX10 cc nL ret fr lc post pc L (.ref (w.2.1 1 0) :: st) σ := g_getI fl_X10_15 h rfl hdg kk
theorem gP_X10_15 {x : Int32} (h : gok 0 41 1 0) (hdg : decode cc pc = .ok (.putfield 15, 3)) (kk : G l w 0 41 RX10 cc nL ret fr lc post (pc + 3) L st (gup σ 1 0 1 x)) : G l w 0 41 RX10 cc nL ret fr lc post pc L (.int x :: .ref (w.2.1 1 0) :: st) σ := g_putI (by decide) fp_X10_15 rfl rfl h rfl hdg kk
theorem gR_X11_12 (h : gok 0 41 0 0) (hdg : decode cc pc = .ok (.getfield 12, 3)) (kk : G l w 0 41 RX11 cc nL ret fr lc post (pc + 3) L (.ref (w.2.1 1 0) :: st) σ) : G l w 0 41 RX11 cc nL ret fr lc post pc L (.ref (w.2.1 0 0) :: st) σ := g_getR fl_X11_12 h rfl hdg kk
theorem gR_X11_19 (h : gok 0 41 0 0) (hdg : decode cc pc = .ok (.getfield 19, 3)) (kk : G l w 0 41 RX11 cc nL ret fr lc post (pc + 3) L (.ref (w.2.1 3 0) :: st) σ) : G l w 0 41 RX11 cc nL ret fr lc post pc L (.ref (w.2.1 0 0) :: st) σ := g_getR fl_X11_19 h rfl hdg kk
theorem gR_X11_28 (h : gok 0 41 0 0) (hdg : decode cc pc = .ok (.getfield 28, 3)) (kk : G l w 0 41 RX11 cc nL ret fr lc post (pc + 3) L (.ref (w.2.1 15 0) :: st) σ) : G l w 0 41 RX11 cc nL ret fr lc post pc L (.ref (w.2.1 0 0) :: st) σ := g_getR fl_X11_28 h rfl hdg kk
theorem gR_X11_32 (h : gok 0 41 0 0) (hdg : decode cc pc = .ok (.getfield 32, 3)) (kk : G l w 0 41 RX11 cc nL ret fr lc post (pc + 3) L (.ref (w.2.1 3 1) :: st) σ) : G l w 0 41 RX11 cc nL ret fr lc post pc L (.ref (w.2.1 0 0) :: st) σ := g_getR fl_X11_32 h rfl hdg kk
theorem gR_X11_40 (h : gok 0 41 0 0) (hdg : decode cc pc = .ok (.getfield 40, 3)) (kk : G l w 0 41 RX11 cc nL ret fr lc post (pc + 3) L (.ref (w.2.1 16 0) :: st) σ) : G l w 0 41 RX11 cc nL ret fr lc post pc L (.ref (w.2.1 0 0) :: st) σ := g_getR fl_X11_40 h rfl hdg kk
theorem gR_X11_49 (h : gok 0 41 0 0) (hdg : decode cc pc = .ok (.getfield 49, 3)) (kk : G l w 0 41 RX11 cc nL ret fr lc post (pc + 3) L (.ref (w.2.1 17 0) :: st) σ) : G l w 0 41 RX11 cc nL ret fr lc post pc L (.ref (w.2.1 0 0) :: st) σ := g_getR fl_X11_49 h rfl hdg kk
theorem gR_X11_56 (h : gok 0 41 0 0) (hdg : decode cc pc = .ok (.getfield 56, 3)) (kk : G l w 0 41 RX11 cc nL ret fr lc post (pc + 3) L (.ref (w.2.1 22 0) :: st) σ) : G l w 0 41 RX11 cc nL ret fr lc post pc L (.ref (w.2.1 0 0) :: st) σ := g_getR fl_X11_56 h rfl hdg kk
theorem gR_X11_63 (h : gok 0 41 0 0) (hdg : decode cc pc = .ok (.getfield 63, 3)) (kk : G l w 0 41 RX11 cc nL ret fr lc post (pc + 3) L (.ref (w.2.1 25 0) :: st) σ) : G l w 0 41 RX11 cc nL ret fr lc post pc L (.ref (w.2.1 0 0) :: st) σ := g_getR fl_X11_63 h rfl hdg kk
theorem gR_X11_70 (h : gok 0 41 0 0) (hdg : decode cc pc = .ok (.getfield 70, 3)) (kk : G l w 0 41 RX11 cc nL ret fr lc post (pc + 3) L (.ref (w.2.1 26 0) :: st) σ) : G l w 0 41 RX11 cc nL ret fr lc post pc L (.ref (w.2.1 0 0) :: st) σ := g_getR fl_X11_70 h rfl hdg kk
theorem gI_X11_74 (h : gok 0 41 0 0) (hdg : decode cc pc = .ok (.getfield 74, 3)) (kk : G l w 0 41 RX11 cc nL ret fr lc post (pc + 3) L (.int (σ 0 0 9) :: st) σ) : G l w 0 41 RX11 cc nL ret fr lc post pc L (.ref (w.2.1 0 0) :: st) σ := g_getI fl_X11_74 h rfl hdg kk
theorem gP_X11_74 {x : Int32} (h : gok 0 41 0 0) (hdg : decode cc pc = .ok (.putfield 74, 3)) (kk : G l w 0 41 RX11 cc nL ret fr lc post (pc + 3) L st (gup σ 0 0 9 x)) : G l w 0 41 RX11 cc nL ret fr lc post pc L (.int x :: .ref (w.2.1 0 0) :: st) σ := g_putI (by decide) fp_X11_74 rfl rfl h rfl hdg kk
theorem gI_X11_78 (h : gok 0 41 0 0) (hdg : decode cc pc = .ok (.getfield 78, 3)) (kk : G l w 0 41 RX11 cc nL ret fr lc post (pc + 3) L (.int (σ 0 0 10) :: st) σ) : G l w 0 41 RX11 cc nL ret fr lc post pc L (.ref (w.2.1 0 0) :: st) σ := g_getI fl_X11_78 h rfl hdg kk
theorem gP_X11_78 {x : Int32} (h : gok 0 41 0 0) (hdg : decode cc pc = .ok (.putfield 78, 3)) (kk : G l w 0 41 RX11 cc nL ret fr lc post (pc + 3) L st (gup σ 0 0 10 x)) : G l w 0 41 RX11 cc nL ret fr lc post pc L (.int x :: .ref (w.2.1 0 0) :: st) σ := g_putI (by decide) fp_X11_78 rfl rfl h rfl hdg kk
theorem gI_X11_81 (h : gok 0 41 0 0) (hdg : decode cc pc = .ok (.getfield 81, 3)) (kk : G l w 0 41 RX11 cc nL ret fr lc post (pc + 3) L (.int (σ 0 0 11) :: st) σ) : G l w 0 41 RX11 cc nL ret fr lc post pc L (.ref (w.2.1 0 0) :: st) σ := g_getI fl_X11_81 h rfl hdg kk
theorem gP_X11_81 {x : Int32} (h : gok 0 41 0 0) (hdg : decode cc pc = .ok (.putfield 81, 3)) (kk : G l w 0 41 RX11 cc nL ret fr lc post (pc + 3) L st (gup σ 0 0 11 x)) : G l w 0 41 RX11 cc nL ret fr lc post pc L (.int x :: .ref (w.2.1 0 0) :: st) σ := g_putI (by decide) fp_X11_81 rfl rfl h rfl hdg kk
theorem gI_X11_84 (h : gok 0 41 1 0) (hdg : decode cc pc = .ok (.getfield 84, 3)) (kk : G l w 0 41 RX11 cc nL ret fr lc post (pc + 3) L (.int (σ 1 0 1) :: st) σ) : G l w 0 41 RX11 cc nL ret fr lc post pc L (.ref (w.2.1 1 0) :: st) σ := g_getI fl_X11_84 h rfl hdg kk
theorem gP_X11_84 {x : Int32} (h : gok 0 41 1 0) (hdg : decode cc pc = .ok (.putfield 84, 3)) (kk : G l w 0 41 RX11 cc nL ret fr lc post (pc + 3) L st (gup σ 1 0 1 x)) : G l w 0 41 RX11 cc nL ret fr lc post pc L (.int x :: .ref (w.2.1 1 0) :: st) σ := g_putI (by decide) fp_X11_84 rfl rfl h rfl hdg kk
theorem gI_X11_99 (h : gok 0 41 15 0) (hdg : decode cc pc = .ok (.getfield 99, 3)) (kk : G l w 0 41 RX11 cc nL ret fr lc post (pc + 3) L (.int (σ 15 0 7) :: st) σ) : G l w 0 41 RX11 cc nL ret fr lc post pc L (.ref (w.2.1 15 0) :: st) σ := g_getI fl_X11_99 h rfl hdg kk
theorem gP_X11_99 {x : Int32} (h : gok 0 41 15 0) (hdg : decode cc pc = .ok (.putfield 99, 3)) (kk : G l w 0 41 RX11 cc nL ret fr lc post (pc + 3) L st (gup σ 15 0 7 x)) : G l w 0 41 RX11 cc nL ret fr lc post pc L (.int x :: .ref (w.2.1 15 0) :: st) σ := g_putI (by decide) fp_X11_99 rfl rfl h rfl hdg kk
theorem gI_X11_102 (h : gok 0 41 15 0) (hdg : decode cc pc = .ok (.getfield 102, 3)) (kk : G l w 0 41 RX11 cc nL ret fr lc post (pc + 3) L (.int (σ 15 0 8) :: st) σ) : G l w 0 41 RX11 cc nL ret fr lc post pc L (.ref (w.2.1 15 0) :: st) σ := g_getI fl_X11_102 h rfl hdg kk
theorem gP_X11_102 {x : Int32} (h : gok 0 41 15 0) (hdg : decode cc pc = .ok (.putfield 102, 3)) (kk : G l w 0 41 RX11 cc nL ret fr lc post (pc + 3) L st (gup σ 15 0 8 x)) : G l w 0 41 RX11 cc nL ret fr lc post pc L (.int x :: .ref (w.2.1 15 0) :: st) σ := g_putI (by decide) fp_X11_102 rfl rfl h rfl hdg kk
theorem gI_X11_111 {i : Nat} (h : gok 0 41 3 i) (hdg : decode cc pc = .ok (.getfield 111, 3)) (kk : G l w 0 41 RX11 cc nL ret fr lc post (pc + 3) L (.int (σ 3 i 4) :: st) σ) : G l w 0 41 RX11 cc nL ret fr lc post pc L (.ref (w.2.1 3 i) :: st) σ := g_getI fl_X11_111 h rfl hdg kk
theorem gP_X11_111 {i : Nat} {x : Int32} (h : gok 0 41 3 i) (hdg : decode cc pc = .ok (.putfield 111, 3)) (kk : G l w 0 41 RX11 cc nL ret fr lc post (pc + 3) L st (gup σ 3 i 4 x)) : G l w 0 41 RX11 cc nL ret fr lc post pc L (.int x :: .ref (w.2.1 3 i) :: st) σ := g_putI (by decide) fp_X11_111 rfl rfl h rfl hdg kk
theorem gI_X11_121 {i : Nat} (h : gok 0 41 3 i) (hdg : decode cc pc = .ok (.getfield 121, 3)) (kk : G l w 0 41 RX11 cc nL ret fr lc post (pc + 3) L (.int (σ 3 i 3) :: st) σ) : G l w 0 41 RX11 cc nL ret fr lc post pc L (.ref (w.2.1 3 i) :: st) σ := g_getI fl_X11_121 h rfl hdg kk
theorem gP_X11_121 {i : Nat} {x : Int32} (h : gok 0 41 3 i) (hdg : decode cc pc = .ok (.putfield 121, 3)) (kk : G l w 0 41 RX11 cc nL ret fr lc post (pc + 3) L st (gup σ 3 i 3 x)) : G l w 0 41 RX11 cc nL ret fr lc post pc L (.int x :: .ref (w.2.1 3 i) :: st) σ := g_putI (by decide) fp_X11_121 rfl rfl h rfl hdg kk
theorem gI_X11_124 {i : Nat} (h : gok 0 41 3 i) (hdg : decode cc pc = .ok (.getfield 124, 3)) (kk : G l w 0 41 RX11 cc nL ret fr lc post (pc + 3) L (.int (σ 3 i 5) :: st) σ) : G l w 0 41 RX11 cc nL ret fr lc post pc L (.ref (w.2.1 3 i) :: st) σ := g_getI fl_X11_124 h rfl hdg kk
theorem gP_X11_124 {i : Nat} {x : Int32} (h : gok 0 41 3 i) (hdg : decode cc pc = .ok (.putfield 124, 3)) (kk : G l w 0 41 RX11 cc nL ret fr lc post (pc + 3) L st (gup σ 3 i 5 x)) : G l w 0 41 RX11 cc nL ret fr lc post pc L (.int x :: .ref (w.2.1 3 i) :: st) σ := g_putI (by decide) fp_X11_124 rfl rfl h rfl hdg kk
theorem gI_X11_127 {i : Nat} (h : gok 0 41 3 i) (hdg : decode cc pc = .ok (.getfield 127, 3)) (kk : G l w 0 41 RX11 cc nL ret fr lc post (pc + 3) L (.int (σ 3 i 6) :: st) σ) : G l w 0 41 RX11 cc nL ret fr lc post pc L (.ref (w.2.1 3 i) :: st) σ := g_getI fl_X11_127 h rfl hdg kk
theorem gP_X11_127 {i : Nat} {x : Int32} (h : gok 0 41 3 i) (hdg : decode cc pc = .ok (.putfield 127, 3)) (kk : G l w 0 41 RX11 cc nL ret fr lc post (pc + 3) L st (gup σ 3 i 6 x)) : G l w 0 41 RX11 cc nL ret fr lc post pc L (.int x :: .ref (w.2.1 3 i) :: st) σ := g_putI (by decide) fp_X11_127 rfl rfl h rfl hdg kk
theorem gI_X11_137 (h : gok 0 41 26 0) (hdg : decode cc pc = .ok (.getfield 137, 3)) (kk : G l w 0 41 RX11 cc nL ret fr lc post (pc + 3) L (.int (σ 26 0 2) :: st) σ) : G l w 0 41 RX11 cc nL ret fr lc post pc L (.ref (w.2.1 26 0) :: st) σ := g_getI fl_X11_137 h rfl hdg kk
theorem gP_X11_137 {x : Int32} (h : gok 0 41 26 0) (hdg : decode cc pc = .ok (.putfield 137, 3)) (kk : G l w 0 41 RX11 cc nL ret fr lc post (pc + 3) L st (gup σ 26 0 2 x)) : G l w 0 41 RX11 cc nL ret fr lc post pc L (.int x :: .ref (w.2.1 26 0) :: st) σ := g_putI (by decide) fp_X11_137 rfl rfl h rfl hdg kk
theorem gI_X11_147 {i : Nat} (h : gok 0 41 8 i) (hdg : decode cc pc = .ok (.getfield 147, 3)) (kk : G l w 0 41 RX11 cc nL ret fr lc post (pc + 3) L (.int (σ 8 i 2) :: st) σ) : G l w 0 41 RX11 cc nL ret fr lc post pc L (.ref (w.2.1 8 i) :: st) σ := g_getI fl_X11_147 h rfl hdg kk
theorem gP_X11_147 {i : Nat} {x : Int32} (h : gok 0 41 8 i) (hdg : decode cc pc = .ok (.putfield 147, 3)) (kk : G l w 0 41 RX11 cc nL ret fr lc post (pc + 3) L st (gup σ 8 i 2 x)) : G l w 0 41 RX11 cc nL ret fr lc post pc L (.int x :: .ref (w.2.1 8 i) :: st) σ := g_putI (by decide) fp_X11_147 rfl rfl h rfl hdg kk
theorem gI_X11_178 {i : Nat} (h : gok 0 41 10 i) (hdg : decode cc pc = .ok (.getfield 178, 3)) (kk : G l w 0 41 RX11 cc nL ret fr lc post (pc + 3) L (.int (σ 10 i 5) :: st) σ) : G l w 0 41 RX11 cc nL ret fr lc post pc L (.ref (w.2.1 10 i) :: st) σ := g_getI fl_X11_178 h rfl hdg kk
theorem gP_X11_178 {i : Nat} {x : Int32} (h : gok 0 41 10 i) (hdg : decode cc pc = .ok (.putfield 178, 3)) (kk : G l w 0 41 RX11 cc nL ret fr lc post (pc + 3) L st (gup σ 10 i 5 x)) : G l w 0 41 RX11 cc nL ret fr lc post pc L (.int x :: .ref (w.2.1 10 i) :: st) σ := g_putI (by decide) fp_X11_178 rfl rfl h rfl hdg kk
theorem gI_X11_183 {i : Nat} (h : gok 0 41 10 i) (hdg : decode cc pc = .ok (.getfield 183, 3)) (kk : G l w 0 41 RX11 cc nL ret fr lc post (pc + 3) L (.int (σ 10 i 6) :: st) σ) : G l w 0 41 RX11 cc nL ret fr lc post pc L (.ref (w.2.1 10 i) :: st) σ := g_getI fl_X11_183 h rfl hdg kk
theorem gP_X11_183 {i : Nat} {x : Int32} (h : gok 0 41 10 i) (hdg : decode cc pc = .ok (.putfield 183, 3)) (kk : G l w 0 41 RX11 cc nL ret fr lc post (pc + 3) L st (gup σ 10 i 6 x)) : G l w 0 41 RX11 cc nL ret fr lc post pc L (.int x :: .ref (w.2.1 10 i) :: st) σ := g_putI (by decide) fp_X11_183 rfl rfl h rfl hdg kk
theorem gI_X11_186 {i : Nat} (h : gok 0 41 10 i) (hdg : decode cc pc = .ok (.getfield 186, 3)) (kk : G l w 0 41 RX11 cc nL ret fr lc post (pc + 3) L (.int (σ 10 i 7) :: st) σ) : G l w 0 41 RX11 cc nL ret fr lc post pc L (.ref (w.2.1 10 i) :: st) σ := g_getI fl_X11_186 h rfl hdg kk
theorem gP_X11_186 {i : Nat} {x : Int32} (h : gok 0 41 10 i) (hdg : decode cc pc = .ok (.putfield 186, 3)) (kk : G l w 0 41 RX11 cc nL ret fr lc post (pc + 3) L st (gup σ 10 i 7 x)) : G l w 0 41 RX11 cc nL ret fr lc post pc L (.int x :: .ref (w.2.1 10 i) :: st) σ := g_putI (by decide) fp_X11_186 rfl rfl h rfl hdg kk
theorem gI_X11_192 {i : Nat} (h : gok 0 41 10 i) (hdg : decode cc pc = .ok (.getfield 192, 3)) (kk : G l w 0 41 RX11 cc nL ret fr lc post (pc + 3) L (.int (σ 10 i 8) :: st) σ) : G l w 0 41 RX11 cc nL ret fr lc post pc L (.ref (w.2.1 10 i) :: st) σ := g_getI fl_X11_192 h rfl hdg kk
theorem gP_X11_192 {i : Nat} {x : Int32} (h : gok 0 41 10 i) (hdg : decode cc pc = .ok (.putfield 192, 3)) (kk : G l w 0 41 RX11 cc nL ret fr lc post (pc + 3) L st (gup σ 10 i 8 x)) : G l w 0 41 RX11 cc nL ret fr lc post pc L (.int x :: .ref (w.2.1 10 i) :: st) σ := g_putI (by decide) fp_X11_192 rfl rfl h rfl hdg kk
theorem gI_X11_195 {i : Nat} (h : gok 0 41 10 i) (hdg : decode cc pc = .ok (.getfield 195, 3)) (kk : G l w 0 41 RX11 cc nL ret fr lc post (pc + 3) L (.int (σ 10 i 9) :: st) σ) : G l w 0 41 RX11 cc nL ret fr lc post pc L (.ref (w.2.1 10 i) :: st) σ := g_getI fl_X11_195 h rfl hdg kk
theorem gP_X11_195 {i : Nat} {x : Int32} (h : gok 0 41 10 i) (hdg : decode cc pc = .ok (.putfield 195, 3)) (kk : G l w 0 41 RX11 cc nL ret fr lc post (pc + 3) L st (gup σ 10 i 9 x)) : G l w 0 41 RX11 cc nL ret fr lc post pc L (.int x :: .ref (w.2.1 10 i) :: st) σ := g_putI (by decide) fp_X11_195 rfl rfl h rfl hdg kk
theorem gI_X11_196 {i : Nat} (h : gok 0 41 10 i) (hdg : decode cc pc = .ok (.getfield 196, 3)) (kk : G l w 0 41 RX11 cc nL ret fr lc post (pc + 3) L (.int (σ 10 i 10) :: st) σ) : G l w 0 41 RX11 cc nL ret fr lc post pc L (.ref (w.2.1 10 i) :: st) σ := g_getI fl_X11_196 h rfl hdg kk
theorem gP_X11_196 {i : Nat} {x : Int32} (h : gok 0 41 10 i) (hdg : decode cc pc = .ok (.putfield 196, 3)) (kk : G l w 0 41 RX11 cc nL ret fr lc post (pc + 3) L st (gup σ 10 i 10 x)) : G l w 0 41 RX11 cc nL ret fr lc post pc L (.int x :: .ref (w.2.1 10 i) :: st) σ := g_putI (by decide) fp_X11_196 rfl rfl h rfl hdg kk
theorem gI_X11_287 (h : gok 0 41 17 0) (hdg : decode cc pc = .ok (.getfield 287, 3)) (kk : G l w 0 41 RX11 cc nL ret fr lc post (pc + 3) L (.int (σ 17 0 7) :: st) σ) : G l w 0 41 RX11 cc nL ret fr lc post pc L (.ref (w.2.1 17 0) :: st) σ := g_getI fl_X11_287 h rfl hdg kk
theorem gP_X11_287 {x : Int32} (h : gok 0 41 17 0) (hdg : decode cc pc = .ok (.putfield 287, 3)) (kk : G l w 0 41 RX11 cc nL ret fr lc post (pc + 3) L st (gup σ 17 0 7 x)) : G l w 0 41 RX11 cc nL ret fr lc post pc L (.int x :: .ref (w.2.1 17 0) :: st) σ := g_putI (by decide) fp_X11_287 rfl rfl h rfl hdg kk
theorem gI_X11_290 (h : gok 0 41 17 0) (hdg : decode cc pc = .ok (.getfield 290, 3)) (kk : G l w 0 41 RX11 cc nL ret fr lc post (pc + 3) L (.int (σ 17 0 8) :: st) σ) : G l w 0 41 RX11 cc nL ret fr lc post pc L (.ref (w.2.1 17 0) :: st) σ := g_getI fl_X11_290 h rfl hdg kk
theorem gP_X11_290 {x : Int32} (h : gok 0 41 17 0) (hdg : decode cc pc = .ok (.putfield 290, 3)) (kk : G l w 0 41 RX11 cc nL ret fr lc post (pc + 3) L st (gup σ 17 0 8 x)) : G l w 0 41 RX11 cc nL ret fr lc post pc L (.int x :: .ref (w.2.1 17 0) :: st) σ := g_putI (by decide) fp_X11_290 rfl rfl h rfl hdg kk
theorem gI_X11_323 (h : gok 0 41 22 0) (hdg : decode cc pc = .ok (.getfield 323, 3)) (kk : G l w 0 41 RX11 cc nL ret fr lc post (pc + 3) L (.int (σ 22 0 5) :: st) σ) : G l w 0 41 RX11 cc nL ret fr lc post pc L (.ref (w.2.1 22 0) :: st) σ := g_getI fl_X11_323 h rfl hdg kk
theorem gP_X11_323 {x : Int32} (h : gok 0 41 22 0) (hdg : decode cc pc = .ok (.putfield 323, 3)) (kk : G l w 0 41 RX11 cc nL ret fr lc post (pc + 3) L st (gup σ 22 0 5 x)) : G l w 0 41 RX11 cc nL ret fr lc post pc L (.int x :: .ref (w.2.1 22 0) :: st) σ := g_putI (by decide) fp_X11_323 rfl rfl h rfl hdg kk
theorem gI_X11_326 (h : gok 0 41 22 0) (hdg : decode cc pc = .ok (.getfield 326, 3)) (kk : G l w 0 41 RX11 cc nL ret fr lc post (pc + 3) L (.int (σ 22 0 4) :: st) σ) : G l w 0 41 RX11 cc nL ret fr lc post pc L (.ref (w.2.1 22 0) :: st) σ := g_getI fl_X11_326 h rfl hdg kk
theorem gP_X11_326 {x : Int32} (h : gok 0 41 22 0) (hdg : decode cc pc = .ok (.putfield 326, 3)) (kk : G l w 0 41 RX11 cc nL ret fr lc post (pc + 3) L st (gup σ 22 0 4 x)) : G l w 0 41 RX11 cc nL ret fr lc post pc L (.int x :: .ref (w.2.1 22 0) :: st) σ := g_putI (by decide) fp_X11_326 rfl rfl h rfl hdg kk
theorem gI_X11_347 (h : gok 0 41 25 0) (hdg : decode cc pc = .ok (.getfield 347, 3)) (kk : G l w 0 41 RX11 cc nL ret fr lc post (pc + 3) L (.int (σ 25 0 2) :: st) σ) : G l w 0 41 RX11 cc nL ret fr lc post pc L (.ref (w.2.1 25 0) :: st) σ := g_getI fl_X11_347 h rfl hdg kk
theorem gP_X11_347 {x : Int32} (h : gok 0 41 25 0) (hdg : decode cc pc = .ok (.putfield 347, 3)) (kk : G l w 0 41 RX11 cc nL ret fr lc post (pc + 3) L st (gup σ 25 0 2 x)) : G l w 0 41 RX11 cc nL ret fr lc post pc L (.int x :: .ref (w.2.1 25 0) :: st) σ := g_putI (by decide) fp_X11_347 rfl rfl h rfl hdg kk
theorem gI_X11_350 (h : gok 0 41 25 0) (hdg : decode cc pc = .ok (.getfield 350, 3)) (kk : G l w 0 41 RX11 cc nL ret fr lc post (pc + 3) L (.int (σ 25 0 1) :: st) σ) : G l w 0 41 RX11 cc nL ret fr lc post pc L (.ref (w.2.1 25 0) :: st) σ := g_getI fl_X11_350 h rfl hdg kk
theorem gP_X11_350 {x : Int32} (h : gok 0 41 25 0) (hdg : decode cc pc = .ok (.putfield 350, 3)) (kk : G l w 0 41 RX11 cc nL ret fr lc post (pc + 3) L st (gup σ 25 0 1 x)) : G l w 0 41 RX11 cc nL ret fr lc post pc L (.int x :: .ref (w.2.1 25 0) :: st) σ := g_putI (by decide) fp_X11_350 rfl rfl h rfl hdg kk
theorem gI_X12_9 (h : gok 0 41 28 0) (hdg : decode cc pc = .ok (.getfield 9, 3)) (kk : G l w 0 41 RX12 cc nL ret fr lc post (pc + 3) L (.int (σ 28 0 3) :: st) σ) : G l w 0 41 RX12 cc nL ret fr lc post pc L (.ref (w.2.1 28 0) :: st) σ := g_getI fl_X12_9 h rfl hdg kk
theorem gP_X12_9 {x : Int32} (h : gok 0 41 28 0) (hdg : decode cc pc = .ok (.putfield 9, 3)) (kk : G l w 0 41 RX12 cc nL ret fr lc post (pc + 3) L st (gup σ 28 0 3 x)) : G l w 0 41 RX12 cc nL ret fr lc post pc L (.int x :: .ref (w.2.1 28 0) :: st) σ := g_putI (by decide) fp_X12_9 rfl rfl h rfl hdg kk
theorem gR_X12_13 (h : gok 0 41 28 0) (hdg : decode cc pc = .ok (.getfield 13, 3)) (kk : G l w 0 41 RX12 cc nL ret fr lc post (pc + 3) L (.ref (w.2.1 29 0) :: st) σ) : G l w 0 41 RX12 cc nL ret fr lc post pc L (.ref (w.2.1 28 0) :: st) σ := g_getR fl_X12_13 h rfl hdg kk
theorem gR_X12_17 (h : gok 0 41 28 0) (hdg : decode cc pc = .ok (.getfield 17, 3)) (kk : G l w 0 41 RX12 cc nL ret fr lc post (pc + 3) L (.ref (w.2.1 30 0) :: st) σ) : G l w 0 41 RX12 cc nL ret fr lc post pc L (.ref (w.2.1 28 0) :: st) σ := g_getR fl_X12_17 h rfl hdg kk
theorem gR_X12_20 (h : gok 0 41 28 0) (hdg : decode cc pc = .ok (.getfield 20, 3)) (kk : G l w 0 41 RX12 cc nL ret fr lc post (pc + 3) L (.ref (w.2.1 31 0) :: st) σ) : G l w 0 41 RX12 cc nL ret fr lc post pc L (.ref (w.2.1 28 0) :: st) σ := g_getR fl_X12_20 h rfl hdg kk
theorem gR_X12_23 (h : gok 0 41 28 0) (hdg : decode cc pc = .ok (.getfield 23, 3)) (kk : G l w 0 41 RX12 cc nL ret fr lc post (pc + 3) L (.ref (w.2.1 32 0) :: st) σ) : G l w 0 41 RX12 cc nL ret fr lc post pc L (.ref (w.2.1 28 0) :: st) σ := g_getR fl_X12_23 h rfl hdg kk
theorem gR_X12_26 (h : gok 0 41 28 0) (hdg : decode cc pc = .ok (.getfield 26, 3)) (kk : G l w 0 41 RX12 cc nL ret fr lc post (pc + 3) L (.ref (w.2.1 33 0) :: st) σ) : G l w 0 41 RX12 cc nL ret fr lc post pc L (.ref (w.2.1 28 0) :: st) σ := g_getR fl_X12_26 h rfl hdg kk
theorem gR_X12_29 (h : gok 0 41 28 0) (hdg : decode cc pc = .ok (.getfield 29, 3)) (kk : G l w 0 41 RX12 cc nL ret fr lc post (pc + 3) L (.ref (w.2.1 34 0) :: st) σ) : G l w 0 41 RX12 cc nL ret fr lc post pc L (.ref (w.2.1 28 0) :: st) σ := g_getR fl_X12_29 h rfl hdg kk
theorem gR_X12_32 (h : gok 0 41 28 0) (hdg : decode cc pc = .ok (.getfield 32, 3)) (kk : G l w 0 41 RX12 cc nL ret fr lc post (pc + 3) L (.ref (w.2.1 35 0) :: st) σ) : G l w 0 41 RX12 cc nL ret fr lc post pc L (.ref (w.2.1 28 0) :: st) σ := g_getR fl_X12_32 h rfl hdg kk
theorem gR_X12_35 (h : gok 0 41 28 0) (hdg : decode cc pc = .ok (.getfield 35, 3)) (kk : G l w 0 41 RX12 cc nL ret fr lc post (pc + 3) L (.ref (w.2.1 36 0) :: st) σ) : G l w 0 41 RX12 cc nL ret fr lc post pc L (.ref (w.2.1 28 0) :: st) σ := g_getR fl_X12_35 h rfl hdg kk
theorem gR_X12_38 (h : gok 0 41 28 0) (hdg : decode cc pc = .ok (.getfield 38, 3)) (kk : G l w 0 41 RX12 cc nL ret fr lc post (pc + 3) L (.ref (w.2.1 37 0) :: st) σ) : G l w 0 41 RX12 cc nL ret fr lc post pc L (.ref (w.2.1 28 0) :: st) σ := g_getR fl_X12_38 h rfl hdg kk
theorem gR_X12_41 (h : gok 0 41 28 0) (hdg : decode cc pc = .ok (.getfield 41, 3)) (kk : G l w 0 41 RX12 cc nL ret fr lc post (pc + 3) L (.ref (w.2.1 38 0) :: st) σ) : G l w 0 41 RX12 cc nL ret fr lc post pc L (.ref (w.2.1 28 0) :: st) σ := g_getR fl_X12_41 h rfl hdg kk
theorem gR_X12_44 (h : gok 0 41 28 0) (hdg : decode cc pc = .ok (.getfield 44, 3)) (kk : G l w 0 41 RX12 cc nL ret fr lc post (pc + 3) L (.ref (w.2.1 39 0) :: st) σ) : G l w 0 41 RX12 cc nL ret fr lc post pc L (.ref (w.2.1 28 0) :: st) σ := g_getR fl_X12_44 h rfl hdg kk
theorem gR_X12_47 (h : gok 0 41 28 0) (hdg : decode cc pc = .ok (.getfield 47, 3)) (kk : G l w 0 41 RX12 cc nL ret fr lc post (pc + 3) L (.ref (w.2.1 40 0) :: st) σ) : G l w 0 41 RX12 cc nL ret fr lc post pc L (.ref (w.2.1 28 0) :: st) σ := g_getR fl_X12_47 h rfl hdg kk
theorem gI_X12_50 (h : gok 0 41 28 0) (hdg : decode cc pc = .ok (.getfield 50, 3)) (kk : G l w 0 41 RX12 cc nL ret fr lc post (pc + 3) L (.int (σ 28 0 0) :: st) σ) : G l w 0 41 RX12 cc nL ret fr lc post pc L (.ref (w.2.1 28 0) :: st) σ := g_getI fl_X12_50 h rfl hdg kk
theorem gP_X12_50 {x : Int32} (h : gok 0 41 28 0) (hdg : decode cc pc = .ok (.putfield 50, 3)) (kk : G l w 0 41 RX12 cc nL ret fr lc post (pc + 3) L st (gup σ 28 0 0 x)) : G l w 0 41 RX12 cc nL ret fr lc post pc L (.int x :: .ref (w.2.1 28 0) :: st) σ := g_putI (by decide) fp_X12_50 rfl rfl h rfl hdg kk
theorem gI_X12_53 (h : gok 0 41 28 0) (hdg : decode cc pc = .ok (.getfield 53, 3)) (kk : G l w 0 41 RX12 cc nL ret fr lc post (pc + 3) L (.int (σ 28 0 1) :: st) σ) : G l w 0 41 RX12 cc nL ret fr lc post pc L (.ref (w.2.1 28 0) :: st) σ := g_getI fl_X12_53 h rfl hdg kk
theorem gP_X12_53 {x : Int32} (h : gok 0 41 28 0) (hdg : decode cc pc = .ok (.putfield 53, 3)) (kk : G l w 0 41 RX12 cc nL ret fr lc post (pc + 3) L st (gup σ 28 0 1 x)) : G l w 0 41 RX12 cc nL ret fr lc post pc L (.int x :: .ref (w.2.1 28 0) :: st) σ := g_putI (by decide) fp_X12_53 rfl rfl h rfl hdg kk
theorem gI_X12_56 (h : gok 0 41 28 0) (hdg : decode cc pc = .ok (.getfield 56, 3)) (kk : G l w 0 41 RX12 cc nL ret fr lc post (pc + 3) L (.int (σ 28 0 5) :: st) σ) : G l w 0 41 RX12 cc nL ret fr lc post pc L (.ref (w.2.1 28 0) :: st) σ := g_getI fl_X12_56 h rfl hdg kk
theorem gP_X12_56 {x : Int32} (h : gok 0 41 28 0) (hdg : decode cc pc = .ok (.putfield 56, 3)) (kk : G l w 0 41 RX12 cc nL ret fr lc post (pc + 3) L st (gup σ 28 0 5 x)) : G l w 0 41 RX12 cc nL ret fr lc post pc L (.int x :: .ref (w.2.1 28 0) :: st) σ := g_putI (by decide) fp_X12_56 rfl rfl h rfl hdg kk
theorem gI_X12_63 (h : gok 0 41 28 0) (hdg : decode cc pc = .ok (.getfield 63, 3)) (kk : G l w 0 41 RX12 cc nL ret fr lc post (pc + 3) L (.int (σ 28 0 11) :: st) σ) : G l w 0 41 RX12 cc nL ret fr lc post pc L (.ref (w.2.1 28 0) :: st) σ := g_getI fl_X12_63 h rfl hdg kk
theorem gP_X12_63 {x : Int32} (h : gok 0 41 28 0) (hdg : decode cc pc = .ok (.putfield 63, 3)) (kk : G l w 0 41 RX12 cc nL ret fr lc post (pc + 3) L st (gup σ 28 0 11 x)) : G l w 0 41 RX12 cc nL ret fr lc post pc L (.int x :: .ref (w.2.1 28 0) :: st) σ := g_putI (by decide) fp_X12_63 rfl rfl h rfl hdg kk
theorem gI_X12_66 (h : gok 0 41 28 0) (hdg : decode cc pc = .ok (.getfield 66, 3)) (kk : G l w 0 41 RX12 cc nL ret fr lc post (pc + 3) L (.int (σ 28 0 13) :: st) σ) : G l w 0 41 RX12 cc nL ret fr lc post pc L (.ref (w.2.1 28 0) :: st) σ := g_getI fl_X12_66 h rfl hdg kk
theorem gP_X12_66 {x : Int32} (h : gok 0 41 28 0) (hdg : decode cc pc = .ok (.putfield 66, 3)) (kk : G l w 0 41 RX12 cc nL ret fr lc post (pc + 3) L st (gup σ 28 0 13 x)) : G l w 0 41 RX12 cc nL ret fr lc post pc L (.int x :: .ref (w.2.1 28 0) :: st) σ := g_putI (by decide) fp_X12_66 rfl rfl h rfl hdg kk
theorem gI_X12_73 (h : gok 0 41 28 0) (hdg : decode cc pc = .ok (.getfield 73, 3)) (kk : G l w 0 41 RX12 cc nL ret fr lc post (pc + 3) L (.int (σ 28 0 12) :: st) σ) : G l w 0 41 RX12 cc nL ret fr lc post pc L (.ref (w.2.1 28 0) :: st) σ := g_getI fl_X12_73 h rfl hdg kk
theorem gP_X12_73 {x : Int32} (h : gok 0 41 28 0) (hdg : decode cc pc = .ok (.putfield 73, 3)) (kk : G l w 0 41 RX12 cc nL ret fr lc post (pc + 3) L st (gup σ 28 0 12 x)) : G l w 0 41 RX12 cc nL ret fr lc post pc L (.int x :: .ref (w.2.1 28 0) :: st) σ := g_putI (by decide) fp_X12_73 rfl rfl h rfl hdg kk
theorem gI_X12_76 (h : gok 0 41 28 0) (hdg : decode cc pc = .ok (.getfield 76, 3)) (kk : G l w 0 41 RX12 cc nL ret fr lc post (pc + 3) L (.int (σ 28 0 14) :: st) σ) : G l w 0 41 RX12 cc nL ret fr lc post pc L (.ref (w.2.1 28 0) :: st) σ := g_getI fl_X12_76 h rfl hdg kk
theorem gP_X12_76 {x : Int32} (h : gok 0 41 28 0) (hdg : decode cc pc = .ok (.putfield 76, 3)) (kk : G l w 0 41 RX12 cc nL ret fr lc post (pc + 3) L st (gup σ 28 0 14 x)) : G l w 0 41 RX12 cc nL ret fr lc post pc L (.int x :: .ref (w.2.1 28 0) :: st) σ := g_putI (by decide) fp_X12_76 rfl rfl h rfl hdg kk
theorem gI_X12_83 (h : gok 0 41 28 0) (hdg : decode cc pc = .ok (.getfield 83, 3)) (kk : G l w 0 41 RX12 cc nL ret fr lc post (pc + 3) L (.int (σ 28 0 15) :: st) σ) : G l w 0 41 RX12 cc nL ret fr lc post pc L (.ref (w.2.1 28 0) :: st) σ := g_getI fl_X12_83 h rfl hdg kk
theorem gP_X12_83 {x : Int32} (h : gok 0 41 28 0) (hdg : decode cc pc = .ok (.putfield 83, 3)) (kk : G l w 0 41 RX12 cc nL ret fr lc post (pc + 3) L st (gup σ 28 0 15 x)) : G l w 0 41 RX12 cc nL ret fr lc post pc L (.int x :: .ref (w.2.1 28 0) :: st) σ := g_putI (by decide) fp_X12_83 rfl rfl h rfl hdg kk
theorem gI_X12_96 (h : gok 0 41 28 0) (hdg : decode cc pc = .ok (.getfield 96, 3)) (kk : G l w 0 41 RX12 cc nL ret fr lc post (pc + 3) L (.int (σ 28 0 17) :: st) σ) : G l w 0 41 RX12 cc nL ret fr lc post pc L (.ref (w.2.1 28 0) :: st) σ := g_getI fl_X12_96 h rfl hdg kk
theorem gP_X12_96 {x : Int32} (h : gok 0 41 28 0) (hdg : decode cc pc = .ok (.putfield 96, 3)) (kk : G l w 0 41 RX12 cc nL ret fr lc post (pc + 3) L st (gup σ 28 0 17 x)) : G l w 0 41 RX12 cc nL ret fr lc post pc L (.int x :: .ref (w.2.1 28 0) :: st) σ := g_putI (by decide) fp_X12_96 rfl rfl h rfl hdg kk
theorem gI_X12_99 (h : gok 0 41 28 0) (hdg : decode cc pc = .ok (.getfield 99, 3)) (kk : G l w 0 41 RX12 cc nL ret fr lc post (pc + 3) L (.int (σ 28 0 18) :: st) σ) : G l w 0 41 RX12 cc nL ret fr lc post pc L (.ref (w.2.1 28 0) :: st) σ := g_getI fl_X12_99 h rfl hdg kk
theorem gP_X12_99 {x : Int32} (h : gok 0 41 28 0) (hdg : decode cc pc = .ok (.putfield 99, 3)) (kk : G l w 0 41 RX12 cc nL ret fr lc post (pc + 3) L st (gup σ 28 0 18 x)) : G l w 0 41 RX12 cc nL ret fr lc post pc L (.int x :: .ref (w.2.1 28 0) :: st) σ := g_putI (by decide) fp_X12_99 rfl rfl h rfl hdg kk
theorem gI_X12_142 (h : gok 0 41 28 0) (hdg : decode cc pc = .ok (.getfield 142, 3)) (kk : G l w 0 41 RX12 cc nL ret fr lc post (pc + 3) L (.int (σ 28 0 16) :: st) σ) : G l w 0 41 RX12 cc nL ret fr lc post pc L (.ref (w.2.1 28 0) :: st) σ := g_getI fl_X12_142 h rfl hdg kk
theorem gP_X12_142 {x : Int32} (h : gok 0 41 28 0) (hdg : decode cc pc = .ok (.putfield 142, 3)) (kk : G l w 0 41 RX12 cc nL ret fr lc post (pc + 3) L st (gup σ 28 0 16 x)) : G l w 0 41 RX12 cc nL ret fr lc post pc L (.int x :: .ref (w.2.1 28 0) :: st) σ := g_putI (by decide) fp_X12_142 rfl rfl h rfl hdg kk
theorem gI_X12_164 (h : gok 0 41 28 0) (hdg : decode cc pc = .ok (.getfield 164, 3)) (kk : G l w 0 41 RX12 cc nL ret fr lc post (pc + 3) L (.int (σ 28 0 2) :: st) σ) : G l w 0 41 RX12 cc nL ret fr lc post pc L (.ref (w.2.1 28 0) :: st) σ := g_getI fl_X12_164 h rfl hdg kk
theorem gP_X12_164 {x : Int32} (h : gok 0 41 28 0) (hdg : decode cc pc = .ok (.putfield 164, 3)) (kk : G l w 0 41 RX12 cc nL ret fr lc post (pc + 3) L st (gup σ 28 0 2 x)) : G l w 0 41 RX12 cc nL ret fr lc post pc L (.int x :: .ref (w.2.1 28 0) :: st) σ := g_putI (by decide) fp_X12_164 rfl rfl h rfl hdg kk
theorem gI_X12_173 (h : gok 0 41 28 0) (hdg : decode cc pc = .ok (.getfield 173, 3)) (kk : G l w 0 41 RX12 cc nL ret fr lc post (pc + 3) L (.int (σ 28 0 6) :: st) σ) : G l w 0 41 RX12 cc nL ret fr lc post pc L (.ref (w.2.1 28 0) :: st) σ := g_getI fl_X12_173 h rfl hdg kk
theorem gP_X12_173 (h : gok 0 41 28 0) (hdg : decode cc pc = .ok (.putfield 173, 3)) (kk : G l w 0 41 RX12 cc nL ret fr lc post (pc + 3) L st (gup σ 28 0 6 1)) : G l w 0 41 RX12 cc nL ret fr lc post pc L (.int 1 :: .ref (w.2.1 28 0) :: st) σ := g_putI (by decide) fp_X12_173 (by decide) (by decide) h rfl hdg kk
theorem gI_X12_177 (h : gok 0 41 28 0) (hdg : decode cc pc = .ok (.getfield 177, 3)) (kk : G l w 0 41 RX12 cc nL ret fr lc post (pc + 3) L (.int (σ 28 0 30) :: st) σ) : G l w 0 41 RX12 cc nL ret fr lc post pc L (.ref (w.2.1 28 0) :: st) σ := g_getI fl_X12_177 h rfl hdg kk
theorem gP_X12_177 {x : Int32} (h : gok 0 41 28 0) (hdg : decode cc pc = .ok (.putfield 177, 3)) (kk : G l w 0 41 RX12 cc nL ret fr lc post (pc + 3) L st (gup σ 28 0 30 x)) : G l w 0 41 RX12 cc nL ret fr lc post pc L (.int x :: .ref (w.2.1 28 0) :: st) σ := g_putI (by decide) fp_X12_177 rfl rfl h rfl hdg kk
theorem gI_X12_267 (h : gok 0 41 28 0) (hdg : decode cc pc = .ok (.getfield 267, 3)) (kk : G l w 0 41 RX12 cc nL ret fr lc post (pc + 3) L (.int (σ 28 0 23) :: st) σ) : G l w 0 41 RX12 cc nL ret fr lc post pc L (.ref (w.2.1 28 0) :: st) σ := g_getI fl_X12_267 h rfl hdg kk
theorem gP_X12_267 {x : Int32} (h : gok 0 41 28 0) (hdg : decode cc pc = .ok (.putfield 267, 3)) (kk : G l w 0 41 RX12 cc nL ret fr lc post (pc + 3) L st (gup σ 28 0 23 x)) : G l w 0 41 RX12 cc nL ret fr lc post pc L (.int x :: .ref (w.2.1 28 0) :: st) σ := g_putI (by decide) fp_X12_267 rfl rfl h rfl hdg kk
theorem gI_X12_270 (h : gok 0 41 28 0) (hdg : decode cc pc = .ok (.getfield 270, 3)) (kk : G l w 0 41 RX12 cc nL ret fr lc post (pc + 3) L (.int (σ 28 0 24) :: st) σ) : G l w 0 41 RX12 cc nL ret fr lc post pc L (.ref (w.2.1 28 0) :: st) σ := g_getI fl_X12_270 h rfl hdg kk
theorem gP_X12_270 {x : Int32} (h : gok 0 41 28 0) (hdg : decode cc pc = .ok (.putfield 270, 3)) (kk : G l w 0 41 RX12 cc nL ret fr lc post (pc + 3) L st (gup σ 28 0 24 x)) : G l w 0 41 RX12 cc nL ret fr lc post pc L (.int x :: .ref (w.2.1 28 0) :: st) σ := g_putI (by decide) fp_X12_270 rfl rfl h rfl hdg kk
theorem gI_X12_294 (h : gok 0 41 28 0) (hdg : decode cc pc = .ok (.getfield 294, 3)) (kk : G l w 0 41 RX12 cc nL ret fr lc post (pc + 3) L (.int (σ 28 0 27) :: st) σ) : G l w 0 41 RX12 cc nL ret fr lc post pc L (.ref (w.2.1 28 0) :: st) σ := g_getI fl_X12_294 h rfl hdg kk
theorem gP_X12_294 {x : Int32} (h : gok 0 41 28 0) (hdg : decode cc pc = .ok (.putfield 294, 3)) (kk : G l w 0 41 RX12 cc nL ret fr lc post (pc + 3) L st (gup σ 28 0 27 x)) : G l w 0 41 RX12 cc nL ret fr lc post pc L (.int x :: .ref (w.2.1 28 0) :: st) σ := g_putI (by decide) fp_X12_294 rfl rfl h rfl hdg kk
theorem gI_X12_297 (h : gok 0 41 28 0) (hdg : decode cc pc = .ok (.getfield 297, 3)) (kk : G l w 0 41 RX12 cc nL ret fr lc post (pc + 3) L (.int (σ 28 0 28) :: st) σ) : G l w 0 41 RX12 cc nL ret fr lc post pc L (.ref (w.2.1 28 0) :: st) σ := g_getI fl_X12_297 h rfl hdg kk
theorem gP_X12_297 {x : Int32} (h : gok 0 41 28 0) (hdg : decode cc pc = .ok (.putfield 297, 3)) (kk : G l w 0 41 RX12 cc nL ret fr lc post (pc + 3) L st (gup σ 28 0 28 x)) : G l w 0 41 RX12 cc nL ret fr lc post pc L (.int x :: .ref (w.2.1 28 0) :: st) σ := g_putI (by decide) fp_X12_297 rfl rfl h rfl hdg kk
theorem gI_X12_300 (h : gok 0 41 28 0) (hdg : decode cc pc = .ok (.getfield 300, 3)) (kk : G l w 0 41 RX12 cc nL ret fr lc post (pc + 3) L (.int (σ 28 0 29) :: st) σ) : G l w 0 41 RX12 cc nL ret fr lc post pc L (.ref (w.2.1 28 0) :: st) σ := g_getI fl_X12_300 h rfl hdg kk
theorem gP_X12_300 {x : Int32} (h : gok 0 41 28 0) (hdg : decode cc pc = .ok (.putfield 300, 3)) (kk : G l w 0 41 RX12 cc nL ret fr lc post (pc + 3) L st (gup σ 28 0 29 x)) : G l w 0 41 RX12 cc nL ret fr lc post pc L (.int x :: .ref (w.2.1 28 0) :: st) σ := g_putI (by decide) fp_X12_300 rfl rfl h rfl hdg kk
theorem gR_X2_9 (h : gok 0 41 16 0) (hdg : decode cc pc = .ok (.getfield 9, 3)) (kk : G l w 0 41 RX2 cc nL ret fr lc post (pc + 3) L (.ref (w.2.1 3 1) :: st) σ) : G l w 0 41 RX2 cc nL ret fr lc post pc L (.ref (w.2.1 16 0) :: st) σ := g_getR fl_X2_9 h rfl hdg kk
theorem gI_X2_15 {i : Nat} (h : gok 0 41 3 i) (hdg : decode cc pc = .ok (.getfield 15, 3)) (kk : G l w 0 41 RX2 cc nL ret fr lc post (pc + 3) L (.int (σ 3 i 4) :: st) σ) : G l w 0 41 RX2 cc nL ret fr lc post pc L (.ref (w.2.1 3 i) :: st) σ := g_getI fl_X2_15 h rfl hdg kk
theorem gP_X2_15 {i : Nat} {x : Int32} (h : gok 0 41 3 i) (hdg : decode cc pc = .ok (.putfield 15, 3)) (kk : G l w 0 41 RX2 cc nL ret fr lc post (pc + 3) L st (gup σ 3 i 4 x)) : G l w 0 41 RX2 cc nL ret fr lc post pc L (.int x :: .ref (w.2.1 3 i) :: st) σ := g_putI (by decide) fp_X2_15 rfl rfl h rfl hdg kk
theorem gI_X2_21 {i : Nat} (h : gok 0 41 10 i) (hdg : decode cc pc = .ok (.getfield 21, 3)) (kk : G l w 0 41 RX2 cc nL ret fr lc post (pc + 3) L (.int (σ 10 i 5) :: st) σ) : G l w 0 41 RX2 cc nL ret fr lc post pc L (.ref (w.2.1 10 i) :: st) σ := g_getI fl_X2_21 h rfl hdg kk
theorem gP_X2_21 {i : Nat} {x : Int32} (h : gok 0 41 10 i) (hdg : decode cc pc = .ok (.putfield 21, 3)) (kk : G l w 0 41 RX2 cc nL ret fr lc post (pc + 3) L st (gup σ 10 i 5 x)) : G l w 0 41 RX2 cc nL ret fr lc post pc L (.int x :: .ref (w.2.1 10 i) :: st) σ := g_putI (by decide) fp_X2_21 rfl rfl h rfl hdg kk
theorem gI_X2_56 {i : Nat} (h : gok 0 41 8 i) (hdg : decode cc pc = .ok (.getfield 56, 3)) (kk : G l w 0 41 RX2 cc nL ret fr lc post (pc + 3) L (.int (σ 8 i 2) :: st) σ) : G l w 0 41 RX2 cc nL ret fr lc post pc L (.ref (w.2.1 8 i) :: st) σ := g_getI fl_X2_56 h rfl hdg kk
theorem gP_X2_56 {i : Nat} {x : Int32} (h : gok 0 41 8 i) (hdg : decode cc pc = .ok (.putfield 56, 3)) (kk : G l w 0 41 RX2 cc nL ret fr lc post (pc + 3) L st (gup σ 8 i 2 x)) : G l w 0 41 RX2 cc nL ret fr lc post pc L (.int x :: .ref (w.2.1 8 i) :: st) σ := g_putI (by decide) fp_X2_56 rfl rfl h rfl hdg kk
theorem gI_X2_70 {i : Nat} (h : gok 0 41 10 i) (hdg : decode cc pc = .ok (.getfield 70, 3)) (kk : G l w 0 41 RX2 cc nL ret fr lc post (pc + 3) L (.int (σ 10 i 9) :: st) σ) : G l w 0 41 RX2 cc nL ret fr lc post pc L (.ref (w.2.1 10 i) :: st) σ := g_getI fl_X2_70 h rfl hdg kk
theorem gP_X2_70 {i : Nat} {x : Int32} (h : gok 0 41 10 i) (hdg : decode cc pc = .ok (.putfield 70, 3)) (kk : G l w 0 41 RX2 cc nL ret fr lc post (pc + 3) L st (gup σ 10 i 9 x)) : G l w 0 41 RX2 cc nL ret fr lc post pc L (.int x :: .ref (w.2.1 10 i) :: st) σ := g_putI (by decide) fp_X2_70 rfl rfl h rfl hdg kk
theorem gR_X3_11 {i : Nat} (h : gok 0 41 6 i) (hdg : decode cc pc = .ok (.getfield 11, 3)) (kk : G l w 0 41 RX3 cc nL ret fr lc post (pc + 3) L (.ref (w.2.1 7 i) :: st) σ) : G l w 0 41 RX3 cc nL ret fr lc post pc L (.ref (w.2.1 6 i) :: st) σ := g_getR fl_X3_11 h rfl hdg kk
theorem gI_X3_15 {i : Nat} (h : gok 0 41 8 i) (hdg : decode cc pc = .ok (.getfield 15, 3)) (kk : G l w 0 41 RX3 cc nL ret fr lc post (pc + 3) L (.int (σ 8 i 2) :: st) σ) : G l w 0 41 RX3 cc nL ret fr lc post pc L (.ref (w.2.1 8 i) :: st) σ := g_getI fl_X3_15 h rfl hdg kk
theorem gP_X3_15 {i : Nat} {x : Int32} (h : gok 0 41 8 i) (hdg : decode cc pc = .ok (.putfield 15, 3)) (kk : G l w 0 41 RX3 cc nL ret fr lc post (pc + 3) L st (gup σ 8 i 2 x)) : G l w 0 41 RX3 cc nL ret fr lc post pc L (.int x :: .ref (w.2.1 8 i) :: st) σ := g_putI (by decide) fp_X3_15 rfl rfl h rfl hdg kk
theorem gI_X3_21 {i : Nat} (h : gok 0 41 10 i) (hdg : decode cc pc = .ok (.getfield 21, 3)) (kk : G l w 0 41 RX3 cc nL ret fr lc post (pc + 3) L (.int (σ 10 i 8) :: st) σ) : G l w 0 41 RX3 cc nL ret fr lc post pc L (.ref (w.2.1 10 i) :: st) σ := g_getI fl_X3_21 h rfl hdg kk
theorem gP_X3_21 {i : Nat} {x : Int32} (h : gok 0 41 10 i) (hdg : decode cc pc = .ok (.putfield 21, 3)) (kk : G l w 0 41 RX3 cc nL ret fr lc post (pc + 3) L st (gup σ 10 i 8 x)) : G l w 0 41 RX3 cc nL ret fr lc post pc L (.int x :: .ref (w.2.1 10 i) :: st) σ := g_putI (by decide) fp_X3_21 rfl rfl h rfl hdg kk
theorem gR_X4_11 {i : Nat} (h : gok 0 41 3 i) (hdg : decode cc pc = .ok (.getfield 11, 3)) (kk : G l w 0 41 RX4 cc nL ret fr lc post (pc + 3) L (.ref (w.2.1 4 i) :: st) σ) : G l w 0 41 RX4 cc nL ret fr lc post pc L (.ref (w.2.1 3 i) :: st) σ := g_getR fl_X4_11 h rfl hdg kk
theorem gR_X4_19 {i : Nat} (h : gok 0 41 3 i) (hdg : decode cc pc = .ok (.getfield 19, 3)) (kk : G l w 0 41 RX4 cc nL ret fr lc post (pc + 3) L (.ref (w.2.1 5 i) :: st) σ) : G l w 0 41 RX4 cc nL ret fr lc post pc L (.ref (w.2.1 3 i) :: st) σ := g_getR fl_X4_19 h rfl hdg kk
theorem gR_X4_26 {i : Nat} (h : gok 0 41 3 i) (hdg : decode cc pc = .ok (.getfield 26, 3)) (kk : G l w 0 41 RX4 cc nL ret fr lc post (pc + 3) L (.ref (w.2.1 6 i) :: st) σ) : G l w 0 41 RX4 cc nL ret fr lc post pc L (.ref (w.2.1 3 i) :: st) σ := g_getR fl_X4_26 h rfl hdg kk
theorem gI_X4_30 {i : Nat} (h : gok 0 41 3 i) (hdg : decode cc pc = .ok (.getfield 30, 3)) (kk : G l w 0 41 RX4 cc nL ret fr lc post (pc + 3) L (.int (σ 3 i 3) :: st) σ) : G l w 0 41 RX4 cc nL ret fr lc post pc L (.ref (w.2.1 3 i) :: st) σ := g_getI fl_X4_30 h rfl hdg kk
theorem gP_X4_30 {i : Nat} {x : Int32} (h : gok 0 41 3 i) (hdg : decode cc pc = .ok (.putfield 30, 3)) (kk : G l w 0 41 RX4 cc nL ret fr lc post (pc + 3) L st (gup σ 3 i 3 x)) : G l w 0 41 RX4 cc nL ret fr lc post pc L (.int x :: .ref (w.2.1 3 i) :: st) σ := g_putI (by decide) fp_X4_30 rfl rfl h rfl hdg kk
theorem gI_X4_34 {i : Nat} (h : gok 0 41 3 i) (hdg : decode cc pc = .ok (.getfield 34, 3)) (kk : G l w 0 41 RX4 cc nL ret fr lc post (pc + 3) L (.int (σ 3 i 4) :: st) σ) : G l w 0 41 RX4 cc nL ret fr lc post pc L (.ref (w.2.1 3 i) :: st) σ := g_getI fl_X4_34 h rfl hdg kk
theorem gP_X4_34 {i : Nat} {x : Int32} (h : gok 0 41 3 i) (hdg : decode cc pc = .ok (.putfield 34, 3)) (kk : G l w 0 41 RX4 cc nL ret fr lc post (pc + 3) L st (gup σ 3 i 4 x)) : G l w 0 41 RX4 cc nL ret fr lc post pc L (.int x :: .ref (w.2.1 3 i) :: st) σ := g_putI (by decide) fp_X4_34 rfl rfl h rfl hdg kk
theorem gI_X4_37 {i : Nat} (h : gok 0 41 3 i) (hdg : decode cc pc = .ok (.getfield 37, 3)) (kk : G l w 0 41 RX4 cc nL ret fr lc post (pc + 3) L (.int (σ 3 i 5) :: st) σ) : G l w 0 41 RX4 cc nL ret fr lc post pc L (.ref (w.2.1 3 i) :: st) σ := g_getI fl_X4_37 h rfl hdg kk
theorem gP_X4_37 {i : Nat} {x : Int32} (h : gok 0 41 3 i) (hdg : decode cc pc = .ok (.putfield 37, 3)) (kk : G l w 0 41 RX4 cc nL ret fr lc post (pc + 3) L st (gup σ 3 i 5 x)) : G l w 0 41 RX4 cc nL ret fr lc post pc L (.int x :: .ref (w.2.1 3 i) :: st) σ := g_putI (by decide) fp_X4_37 rfl rfl h rfl hdg kk
theorem gI_X4_40 {i : Nat} (h : gok 0 41 3 i) (hdg : decode cc pc = .ok (.getfield 40, 3)) (kk : G l w 0 41 RX4 cc nL ret fr lc post (pc + 3) L (.int (σ 3 i 6) :: st) σ) : G l w 0 41 RX4 cc nL ret fr lc post pc L (.ref (w.2.1 3 i) :: st) σ := g_getI fl_X4_40 h rfl hdg kk
theorem gP_X4_40 {i : Nat} {x : Int32} (h : gok 0 41 3 i) (hdg : decode cc pc = .ok (.putfield 40, 3)) (kk : G l w 0 41 RX4 cc nL ret fr lc post (pc + 3) L st (gup σ 3 i 6 x)) : G l w 0 41 RX4 cc nL ret fr lc post pc L (.int x :: .ref (w.2.1 3 i) :: st) σ := g_putI (by decide) fp_X4_40 rfl rfl h rfl hdg kk
theorem gI_X4_64 {i : Nat} (h : gok 0 41 8 i) (hdg : decode cc pc = .ok (.getfield 64, 3)) (kk : G l w 0 41 RX4 cc nL ret fr lc post (pc + 3) L (.int (σ 8 i 1) :: st) σ) : G l w 0 41 RX4 cc nL ret fr lc post pc L (.ref (w.2.1 8 i) :: st) σ := g_getI fl_X4_64 h rfl hdg kk
theorem gP_X4_64 {i : Nat} {x : Int32} (h : gok 0 41 8 i) (hdg : decode cc pc = .ok (.putfield 64, 3)) (kk : G l w 0 41 RX4 cc nL ret fr lc post (pc + 3) L st (gup σ 8 i 1 x)) : G l w 0 41 RX4 cc nL ret fr lc post pc L (.int x :: .ref (w.2.1 8 i) :: st) σ := g_putI (by decide) fp_X4_64 rfl rfl h rfl hdg kk
theorem gI_X4_67 {i : Nat} (h : gok 0 41 8 i) (hdg : decode cc pc = .ok (.getfield 67, 3)) (kk : G l w 0 41 RX4 cc nL ret fr lc post (pc + 3) L (.int (σ 8 i 2) :: st) σ) : G l w 0 41 RX4 cc nL ret fr lc post pc L (.ref (w.2.1 8 i) :: st) σ := g_getI fl_X4_67 h rfl hdg kk
theorem gP_X4_67 {i : Nat} {x : Int32} (h : gok 0 41 8 i) (hdg : decode cc pc = .ok (.putfield 67, 3)) (kk : G l w 0 41 RX4 cc nL ret fr lc post (pc + 3) L st (gup σ 8 i 2 x)) : G l w 0 41 RX4 cc nL ret fr lc post pc L (.int x :: .ref (w.2.1 8 i) :: st) σ := g_putI (by decide) fp_X4_67 rfl rfl h rfl hdg kk
theorem gI_X4_70 {i : Nat} (h : gok 0 41 10 i) (hdg : decode cc pc = .ok (.getfield 70, 3)) (kk : G l w 0 41 RX4 cc nL ret fr lc post (pc + 3) L (.int (σ 10 i 4) :: st) σ) : G l w 0 41 RX4 cc nL ret fr lc post pc L (.ref (w.2.1 10 i) :: st) σ := g_getI fl_X4_70 h rfl hdg kk
theorem gP_X4_70 {i : Nat} {x : Int32} (h : gok 0 41 10 i) (hdg : decode cc pc = .ok (.putfield 70, 3)) (kk : G l w 0 41 RX4 cc nL ret fr lc post (pc + 3) L st (gup σ 10 i 4 x)) : G l w 0 41 RX4 cc nL ret fr lc post pc L (.int x :: .ref (w.2.1 10 i) :: st) σ := g_putI (by decide) fp_X4_70 rfl rfl h rfl hdg kk
theorem gI_X4_71 {i : Nat} (h : gok 0 41 10 i) (hdg : decode cc pc = .ok (.getfield 71, 3)) (kk : G l w 0 41 RX4 cc nL ret fr lc post (pc + 3) L (.int (σ 10 i 8) :: st) σ) : G l w 0 41 RX4 cc nL ret fr lc post pc L (.ref (w.2.1 10 i) :: st) σ := g_getI fl_X4_71 h rfl hdg kk
theorem gP_X4_71 {i : Nat} {x : Int32} (h : gok 0 41 10 i) (hdg : decode cc pc = .ok (.putfield 71, 3)) (kk : G l w 0 41 RX4 cc nL ret fr lc post (pc + 3) L st (gup σ 10 i 8 x)) : G l w 0 41 RX4 cc nL ret fr lc post pc L (.int x :: .ref (w.2.1 10 i) :: st) σ := g_putI (by decide) fp_X4_71 rfl rfl h rfl hdg kk
theorem gI_X4_84 {i : Nat} (h : gok 0 41 10 i) (hdg : decode cc pc = .ok (.getfield 84, 3)) (kk : G l w 0 41 RX4 cc nL ret fr lc post (pc + 3) L (.int (σ 10 i 9) :: st) σ) : G l w 0 41 RX4 cc nL ret fr lc post pc L (.ref (w.2.1 10 i) :: st) σ := g_getI fl_X4_84 h rfl hdg kk
theorem gP_X4_84 {i : Nat} {x : Int32} (h : gok 0 41 10 i) (hdg : decode cc pc = .ok (.putfield 84, 3)) (kk : G l w 0 41 RX4 cc nL ret fr lc post (pc + 3) L st (gup σ 10 i 9 x)) : G l w 0 41 RX4 cc nL ret fr lc post pc L (.int x :: .ref (w.2.1 10 i) :: st) σ := g_putI (by decide) fp_X4_84 rfl rfl h rfl hdg kk
theorem gI_X4_86 {i : Nat} (h : gok 0 41 10 i) (hdg : decode cc pc = .ok (.getfield 86, 3)) (kk : G l w 0 41 RX4 cc nL ret fr lc post (pc + 3) L (.int (σ 10 i 5) :: st) σ) : G l w 0 41 RX4 cc nL ret fr lc post pc L (.ref (w.2.1 10 i) :: st) σ := g_getI fl_X4_86 h rfl hdg kk
theorem gP_X4_86 {i : Nat} {x : Int32} (h : gok 0 41 10 i) (hdg : decode cc pc = .ok (.putfield 86, 3)) (kk : G l w 0 41 RX4 cc nL ret fr lc post (pc + 3) L st (gup σ 10 i 5 x)) : G l w 0 41 RX4 cc nL ret fr lc post pc L (.int x :: .ref (w.2.1 10 i) :: st) σ := g_putI (by decide) fp_X4_86 rfl rfl h rfl hdg kk
theorem gI_X4_116 {i : Nat} (h : gok 0 41 10 i) (hdg : decode cc pc = .ok (.getfield 116, 3)) (kk : G l w 0 41 RX4 cc nL ret fr lc post (pc + 3) L (.int (σ 10 i 6) :: st) σ) : G l w 0 41 RX4 cc nL ret fr lc post pc L (.ref (w.2.1 10 i) :: st) σ := g_getI fl_X4_116 h rfl hdg kk
theorem gP_X4_116 {i : Nat} {x : Int32} (h : gok 0 41 10 i) (hdg : decode cc pc = .ok (.putfield 116, 3)) (kk : G l w 0 41 RX4 cc nL ret fr lc post (pc + 3) L st (gup σ 10 i 6 x)) : G l w 0 41 RX4 cc nL ret fr lc post pc L (.int x :: .ref (w.2.1 10 i) :: st) σ := g_putI (by decide) fp_X4_116 rfl rfl h rfl hdg kk
theorem gI_X4_119 {i : Nat} (h : gok 0 41 10 i) (hdg : decode cc pc = .ok (.getfield 119, 3)) (kk : G l w 0 41 RX4 cc nL ret fr lc post (pc + 3) L (.int (σ 10 i 7) :: st) σ) : G l w 0 41 RX4 cc nL ret fr lc post pc L (.ref (w.2.1 10 i) :: st) σ := g_getI fl_X4_119 h rfl hdg kk
theorem gP_X4_119 {i : Nat} {x : Int32} (h : gok 0 41 10 i) (hdg : decode cc pc = .ok (.putfield 119, 3)) (kk : G l w 0 41 RX4 cc nL ret fr lc post (pc + 3) L st (gup σ 10 i 7 x)) : G l w 0 41 RX4 cc nL ret fr lc post pc L (.int x :: .ref (w.2.1 10 i) :: st) σ := g_putI (by decide) fp_X4_119 rfl rfl h rfl hdg kk
theorem gR_X5_9 (h : gok 0 41 17 0) (hdg : decode cc pc = .ok (.getfield 9, 3)) (kk : G l w 0 41 RX5 cc nL ret fr lc post (pc + 3) L (.ref (w.2.1 18 0) :: st) σ) : G l w 0 41 RX5 cc nL ret fr lc post pc L (.ref (w.2.1 17 0) :: st) σ := g_getR fl_X5_9 h rfl hdg kk
theorem gR_X5_15 (h : gok 0 41 17 0) (hdg : decode cc pc = .ok (.getfield 15, 3)) (kk : G l w 0 41 RX5 cc nL ret fr lc post (pc + 3) L (.ref (w.2.1 19 0) :: st) σ) : G l w 0 41 RX5 cc nL ret fr lc post pc L (.ref (w.2.1 17 0) :: st) σ := g_getR fl_X5_15 h rfl hdg kk
theorem gR_X5_18 (h : gok 0 41 17 0) (hdg : decode cc pc = .ok (.getfield 18, 3)) (kk : G l w 0 41 RX5 cc nL ret fr lc post (pc + 3) L (.ref (w.2.1 20 0) :: st) σ) : G l w 0 41 RX5 cc nL ret fr lc post pc L (.ref (w.2.1 17 0) :: st) σ := g_getR fl_X5_18 h rfl hdg kk
theorem gR_X5_21 (h : gok 0 41 17 0) (hdg : decode cc pc = .ok (.getfield 21, 3)) (kk : G l w 0 41 RX5 cc nL ret fr lc post (pc + 3) L (.ref (w.2.1 21 0) :: st) σ) : G l w 0 41 RX5 cc nL ret fr lc post pc L (.ref (w.2.1 17 0) :: st) σ := g_getR fl_X5_21 h rfl hdg kk
theorem gI_X5_24 (h : gok 0 41 17 0) (hdg : decode cc pc = .ok (.getfield 24, 3)) (kk : G l w 0 41 RX5 cc nL ret fr lc post (pc + 3) L (.int (σ 17 0 6) :: st) σ) : G l w 0 41 RX5 cc nL ret fr lc post pc L (.ref (w.2.1 17 0) :: st) σ := g_getI fl_X5_24 h rfl hdg kk
theorem gP_X5_24 {x : Int32} (h : gok 0 41 17 0) (hdg : decode cc pc = .ok (.putfield 24, 3)) (kk : G l w 0 41 RX5 cc nL ret fr lc post (pc + 3) L st (gup σ 17 0 6 x)) : G l w 0 41 RX5 cc nL ret fr lc post pc L (.int x :: .ref (w.2.1 17 0) :: st) σ := g_putI (by decide) fp_X5_24 rfl rfl h rfl hdg kk
theorem gI_X5_28 (h : gok 0 41 17 0) (hdg : decode cc pc = .ok (.getfield 28, 3)) (kk : G l w 0 41 RX5 cc nL ret fr lc post (pc + 3) L (.int (σ 17 0 7) :: st) σ) : G l w 0 41 RX5 cc nL ret fr lc post pc L (.ref (w.2.1 17 0) :: st) σ := g_getI fl_X5_28 h rfl hdg kk
theorem gP_X5_28 {x : Int32} (h : gok 0 41 17 0) (hdg : decode cc pc = .ok (.putfield 28, 3)) (kk : G l w 0 41 RX5 cc nL ret fr lc post (pc + 3) L st (gup σ 17 0 7 x)) : G l w 0 41 RX5 cc nL ret fr lc post pc L (.int x :: .ref (w.2.1 17 0) :: st) σ := g_putI (by decide) fp_X5_28 rfl rfl h rfl hdg kk
theorem gI_X5_31 (h : gok 0 41 17 0) (hdg : decode cc pc = .ok (.getfield 31, 3)) (kk : G l w 0 41 RX5 cc nL ret fr lc post (pc + 3) L (.int (σ 17 0 8) :: st) σ) : G l w 0 41 RX5 cc nL ret fr lc post pc L (.ref (w.2.1 17 0) :: st) σ := g_getI fl_X5_31 h rfl hdg kk
theorem gP_X5_31 {x : Int32} (h : gok 0 41 17 0) (hdg : decode cc pc = .ok (.putfield 31, 3)) (kk : G l w 0 41 RX5 cc nL ret fr lc post (pc + 3) L st (gup σ 17 0 8 x)) : G l w 0 41 RX5 cc nL ret fr lc post pc L (.int x :: .ref (w.2.1 17 0) :: st) σ := g_putI (by decide) fp_X5_31 rfl rfl h rfl hdg kk
theorem gR_X5_34 (h : gok 0 41 17 0) (hdg : decode cc pc = .ok (.getfield 34, 3)) (kk : G l w 0 41 RX5 cc nL ret fr lc post (pc + 3) L (.ref (w.2.1 3 1) :: st) σ) : G l w 0 41 RX5 cc nL ret fr lc post pc L (.ref (w.2.1 17 0) :: st) σ := g_getR fl_X5_34 h rfl hdg kk
theorem gR_X5_38 (h : gok 0 41 17 0) (hdg : decode cc pc = .ok (.getfield 38, 3)) (kk : G l w 0 41 RX5 cc nL ret fr lc post (pc + 3) L (.ref (w.2.1 16 0) :: st) σ) : G l w 0 41 RX5 cc nL ret fr lc post pc L (.ref (w.2.1 17 0) :: st) σ := g_getR fl_X5_38 h rfl hdg kk
theorem gI_X5_42 {i : Nat} (h : gok 0 41 10 i) (hdg : decode cc pc = .ok (.getfield 42, 3)) (kk : G l w 0 41 RX5 cc nL ret fr lc post (pc + 3) L (.int (σ 10 i 9) :: st) σ) : G l w 0 41 RX5 cc nL ret fr lc post pc L (.ref (w.2.1 10 i) :: st) σ := g_getI fl_X5_42 h rfl hdg kk
theorem gP_X5_42 {i : Nat} {x : Int32} (h : gok 0 41 10 i) (hdg : decode cc pc = .ok (.putfield 42, 3)) (kk : G l w 0 41 RX5 cc nL ret fr lc post (pc + 3) L st (gup σ 10 i 9 x)) : G l w 0 41 RX5 cc nL ret fr lc post pc L (.int x :: .ref (w.2.1 10 i) :: st) σ := g_putI (by decide) fp_X5_42 rfl rfl h rfl hdg kk
theorem gI_X5_51 {i : Nat} (h : gok 0 41 10 i) (hdg : decode cc pc = .ok (.getfield 51, 3)) (kk : G l w 0 41 RX5 cc nL ret fr lc post (pc + 3) L (.int (σ 10 i 5) :: st) σ) : G l w 0 41 RX5 cc nL ret fr lc post pc L (.ref (w.2.1 10 i) :: st) σ := g_getI fl_X5_51 h rfl hdg kk
theorem gP_X5_51 {i : Nat} {x : Int32} (h : gok 0 41 10 i) (hdg : decode cc pc = .ok (.putfield 51, 3)) (kk : G l w 0 41 RX5 cc nL ret fr lc post (pc + 3) L st (gup σ 10 i 5 x)) : G l w 0 41 RX5 cc nL ret fr lc post pc L (.int x :: .ref (w.2.1 10 i) :: st) σ := g_putI (by decide) fp_X5_51 rfl rfl h rfl hdg kk
theorem gI_X5_71 {i : Nat} (h : gok 0 41 3 i) (hdg : decode cc pc = .ok (.getfield 71, 3)) (kk : G l w 0 41 RX5 cc nL ret fr lc post (pc + 3) L (.int (σ 3 i 6) :: st) σ) : G l w 0 41 RX5 cc nL ret fr lc post pc L (.ref (w.2.1 3 i) :: st) σ := g_getI fl_X5_71 h rfl hdg kk
theorem gP_X5_71 {i : Nat} {x : Int32} (h : gok 0 41 3 i) (hdg : decode cc pc = .ok (.putfield 71, 3)) (kk : G l w 0 41 RX5 cc nL ret fr lc post (pc + 3) L st (gup σ 3 i 6 x)) : G l w 0 41 RX5 cc nL ret fr lc post pc L (.int x :: .ref (w.2.1 3 i) :: st) σ := g_putI (by decide) fp_X5_71 rfl rfl h rfl hdg kk
theorem gI_X5_87 {i : Nat} (h : gok 0 41 3 i) (hdg : decode cc pc = .ok (.getfield 87, 3)) (kk : G l w 0 41 RX5 cc nL ret fr lc post (pc + 3) L (.int (σ 3 i 4) :: st) σ) : G l w 0 41 RX5 cc nL ret fr lc post pc L (.ref (w.2.1 3 i) :: st) σ := g_getI fl_X5_87 h rfl hdg kk
theorem gP_X5_87 {i : Nat} {x : Int32} (h : gok 0 41 3 i) (hdg : decode cc pc = .ok (.putfield 87, 3)) (kk : G l w 0 41 RX5 cc nL ret fr lc post (pc + 3) L st (gup σ 3 i 4 x)) : G l w 0 41 RX5 cc nL ret fr lc post pc L (.int x :: .ref (w.2.1 3 i) :: st) σ := g_putI (by decide) fp_X5_87 rfl rfl h rfl hdg kk
theorem gR_X6_11 (h : gok 0 41 22 0) (hdg : decode cc pc = .ok (.getfield 11, 3)) (kk : G l w 0 41 RX6 cc nL ret fr lc post (pc + 3) L (.ref (w.2.1 23 0) :: st) σ) : G l w 0 41 RX6 cc nL ret fr lc post pc L (.ref (w.2.1 22 0) :: st) σ := g_getR fl_X6_11 h rfl hdg kk
theorem gR_X6_15 (h : gok 0 41 22 0) (hdg : decode cc pc = .ok (.getfield 15, 3)) (kk : G l w 0 41 RX6 cc nL ret fr lc post (pc + 3) L (.ref (w.2.1 24 0) :: st) σ) : G l w 0 41 RX6 cc nL ret fr lc post pc L (.ref (w.2.1 22 0) :: st) σ := g_getR fl_X6_15 h rfl hdg kk
theorem gI_X6_18 (h : gok 0 41 22 0) (hdg : decode cc pc = .ok (.getfield 18, 3)) (kk : G l w 0 41 RX6 cc nL ret fr lc post (pc + 3) L (.int (σ 22 0 3) :: st) σ) : G l w 0 41 RX6 cc nL ret fr lc post pc L (.ref (w.2.1 22 0) :: st) σ := g_getI fl_X6_18 h rfl hdg kk
theorem gP_X6_18 {x : Int32} (h : gok 0 41 22 0) (hdg : decode cc pc = .ok (.putfield 18, 3)) (kk : G l w 0 41 RX6 cc nL ret fr lc post (pc + 3) L st (gup σ 22 0 3 x)) : G l w 0 41 RX6 cc nL ret fr lc post pc L (.int x :: .ref (w.2.1 22 0) :: st) σ := g_putI (by decide) fp_X6_18 rfl rfl h rfl hdg kk
theorem gI_X6_22 (h : gok 0 41 22 0) (hdg : decode cc pc = .ok (.getfield 22, 3)) (kk : G l w 0 41 RX6 cc nL ret fr lc post (pc + 3) L (.int (σ 22 0 4) :: st) σ) : G l w 0 41 RX6 cc nL ret fr lc post pc L (.ref (w.2.1 22 0) :: st) σ := g_getI fl_X6_22 h rfl hdg kk
theorem gP_X6_22 {x : Int32} (h : gok 0 41 22 0) (hdg : decode cc pc = .ok (.putfield 22, 3)) (kk : G l w 0 41 RX6 cc nL ret fr lc post (pc + 3) L st (gup σ 22 0 4 x)) : G l w 0 41 RX6 cc nL ret fr lc post pc L (.int x :: .ref (w.2.1 22 0) :: st) σ := g_putI (by decide) fp_X6_22 rfl rfl h rfl hdg kk
theorem gI_X6_25 (h : gok 0 41 22 0) (hdg : decode cc pc = .ok (.getfield 25, 3)) (kk : G l w 0 41 RX6 cc nL ret fr lc post (pc + 3) L (.int (σ 22 0 5) :: st) σ) : G l w 0 41 RX6 cc nL ret fr lc post pc L (.ref (w.2.1 22 0) :: st) σ := g_getI fl_X6_25 h rfl hdg kk
theorem gP_X6_25 {x : Int32} (h : gok 0 41 22 0) (hdg : decode cc pc = .ok (.putfield 25, 3)) (kk : G l w 0 41 RX6 cc nL ret fr lc post (pc + 3) L st (gup σ 22 0 5 x)) : G l w 0 41 RX6 cc nL ret fr lc post pc L (.int x :: .ref (w.2.1 22 0) :: st) σ := g_putI (by decide) fp_X6_25 rfl rfl h rfl hdg kk
theorem gR_X6_28 (h : gok 0 41 22 0) (hdg : decode cc pc = .ok (.getfield 28, 3)) (kk : G l w 0 41 RX6 cc nL ret fr lc post (pc + 3) L (.ref (w.2.1 3 1) :: st) σ) : G l w 0 41 RX6 cc nL ret fr lc post pc L (.ref (w.2.1 22 0) :: st) σ := g_getR fl_X6_28 h rfl hdg kk
theorem gI_X6_32 {i : Nat} (h : gok 0 41 3 i) (hdg : decode cc pc = .ok (.getfield 32, 3)) (kk : G l w 0 41 RX6 cc nL ret fr lc post (pc + 3) L (.int (σ 3 i 4) :: st) σ) : G l w 0 41 RX6 cc nL ret fr lc post pc L (.ref (w.2.1 3 i) :: st) σ := g_getI fl_X6_32 h rfl hdg kk
theorem gP_X6_32 {i : Nat} {x : Int32} (h : gok 0 41 3 i) (hdg : decode cc pc = .ok (.putfield 32, 3)) (kk : G l w 0 41 RX6 cc nL ret fr lc post (pc + 3) L st (gup σ 3 i 4 x)) : G l w 0 41 RX6 cc nL ret fr lc post pc L (.int x :: .ref (w.2.1 3 i) :: st) σ := g_putI (by decide) fp_X6_32 rfl rfl h rfl hdg kk
theorem gI_X6_41 {i : Nat} (h : gok 0 41 10 i) (hdg : decode cc pc = .ok (.getfield 41, 3)) (kk : G l w 0 41 RX6 cc nL ret fr lc post (pc + 3) L (.int (σ 10 i 8) :: st) σ) : G l w 0 41 RX6 cc nL ret fr lc post pc L (.ref (w.2.1 10 i) :: st) σ := g_getI fl_X6_41 h rfl hdg kk
theorem gP_X6_41 {i : Nat} {x : Int32} (h : gok 0 41 10 i) (hdg : decode cc pc = .ok (.putfield 41, 3)) (kk : G l w 0 41 RX6 cc nL ret fr lc post (pc + 3) L st (gup σ 10 i 8 x)) : G l w 0 41 RX6 cc nL ret fr lc post pc L (.int x :: .ref (w.2.1 10 i) :: st) σ := g_putI (by decide) fp_X6_41 rfl rfl h rfl hdg kk
theorem gI_X6_61 {i : Nat} (h : gok 0 41 3 i) (hdg : decode cc pc = .ok (.getfield 61, 3)) (kk : G l w 0 41 RX6 cc nL ret fr lc post (pc + 3) L (.int (σ 3 i 5) :: st) σ) : G l w 0 41 RX6 cc nL ret fr lc post pc L (.ref (w.2.1 3 i) :: st) σ := g_getI fl_X6_61 h rfl hdg kk
theorem gP_X6_61 {i : Nat} {x : Int32} (h : gok 0 41 3 i) (hdg : decode cc pc = .ok (.putfield 61, 3)) (kk : G l w 0 41 RX6 cc nL ret fr lc post (pc + 3) L st (gup σ 3 i 5 x)) : G l w 0 41 RX6 cc nL ret fr lc post pc L (.int x :: .ref (w.2.1 3 i) :: st) σ := g_putI (by decide) fp_X6_61 rfl rfl h rfl hdg kk
theorem gI_X7_9 (h : gok 0 41 25 0) (hdg : decode cc pc = .ok (.getfield 9, 3)) (kk : G l w 0 41 RX7 cc nL ret fr lc post (pc + 3) L (.int (σ 25 0 1) :: st) σ) : G l w 0 41 RX7 cc nL ret fr lc post pc L (.ref (w.2.1 25 0) :: st) σ := g_getI fl_X7_9 h rfl hdg kk
theorem gP_X7_9 {x : Int32} (h : gok 0 41 25 0) (hdg : decode cc pc = .ok (.putfield 9, 3)) (kk : G l w 0 41 RX7 cc nL ret fr lc post (pc + 3) L st (gup σ 25 0 1 x)) : G l w 0 41 RX7 cc nL ret fr lc post pc L (.int x :: .ref (w.2.1 25 0) :: st) σ := g_putI (by decide) fp_X7_9 rfl rfl h rfl hdg kk
theorem gI_X7_15 (h : gok 0 41 25 0) (hdg : decode cc pc = .ok (.getfield 15, 3)) (kk : G l w 0 41 RX7 cc nL ret fr lc post (pc + 3) L (.int (σ 25 0 2) :: st) σ) : G l w 0 41 RX7 cc nL ret fr lc post pc L (.ref (w.2.1 25 0) :: st) σ := g_getI fl_X7_15 h rfl hdg kk
theorem gP_X7_15 {x : Int32} (h : gok 0 41 25 0) (hdg : decode cc pc = .ok (.putfield 15, 3)) (kk : G l w 0 41 RX7 cc nL ret fr lc post (pc + 3) L st (gup σ 25 0 2 x)) : G l w 0 41 RX7 cc nL ret fr lc post pc L (.int x :: .ref (w.2.1 25 0) :: st) σ := g_putI (by decide) fp_X7_15 rfl rfl h rfl hdg kk
theorem gR_X7_18 (h : gok 0 41 25 0) (hdg : decode cc pc = .ok (.getfield 18, 3)) (kk : G l w 0 41 RX7 cc nL ret fr lc post (pc + 3) L (.ref (w.2.1 3 1) :: st) σ) : G l w 0 41 RX7 cc nL ret fr lc post pc L (.ref (w.2.1 25 0) :: st) σ := g_getR fl_X7_18 h rfl hdg kk
theorem gI_X7_37 {i : Nat} (h : gok 0 41 3 i) (hdg : decode cc pc = .ok (.getfield 37, 3)) (kk : G l w 0 41 RX7 cc nL ret fr lc post (pc + 3) L (.int (σ 3 i 5) :: st) σ) : G l w 0 41 RX7 cc nL ret fr lc post pc L (.ref (w.2.1 3 i) :: st) σ := g_getI fl_X7_37 h rfl hdg kk
theorem gP_X7_37 {i : Nat} {x : Int32} (h : gok 0 41 3 i) (hdg : decode cc pc = .ok (.putfield 37, 3)) (kk : G l w 0 41 RX7 cc nL ret fr lc post (pc + 3) L st (gup σ 3 i 5 x)) : G l w 0 41 RX7 cc nL ret fr lc post pc L (.int x :: .ref (w.2.1 3 i) :: st) σ := g_putI (by decide) fp_X7_37 rfl rfl h rfl hdg kk
theorem gI_X7_42 {i : Nat} (h : gok 0 41 10 i) (hdg : decode cc pc = .ok (.getfield 42, 3)) (kk : G l w 0 41 RX7 cc nL ret fr lc post (pc + 3) L (.int (σ 10 i 9) :: st) σ) : G l w 0 41 RX7 cc nL ret fr lc post pc L (.ref (w.2.1 10 i) :: st) σ := g_getI fl_X7_42 h rfl hdg kk
theorem gP_X7_42 {i : Nat} {x : Int32} (h : gok 0 41 10 i) (hdg : decode cc pc = .ok (.putfield 42, 3)) (kk : G l w 0 41 RX7 cc nL ret fr lc post (pc + 3) L st (gup σ 10 i 9 x)) : G l w 0 41 RX7 cc nL ret fr lc post pc L (.int x :: .ref (w.2.1 10 i) :: st) σ := g_putI (by decide) fp_X7_42 rfl rfl h rfl hdg kk
theorem gI_X7_56 {i : Nat} (h : gok 0 41 3 i) (hdg : decode cc pc = .ok (.getfield 56, 3)) (kk : G l w 0 41 RX7 cc nL ret fr lc post (pc + 3) L (.int (σ 3 i 4) :: st) σ) : G l w 0 41 RX7 cc nL ret fr lc post pc L (.ref (w.2.1 3 i) :: st) σ := g_getI fl_X7_56 h rfl hdg kk
theorem gP_X7_56 {i : Nat} {x : Int32} (h : gok 0 41 3 i) (hdg : decode cc pc = .ok (.putfield 56, 3)) (kk : G l w 0 41 RX7 cc nL ret fr lc post (pc + 3) L st (gup σ 3 i 4 x)) : G l w 0 41 RX7 cc nL ret fr lc post pc L (.int x :: .ref (w.2.1 3 i) :: st) σ := g_putI (by decide) fp_X7_56 rfl rfl h rfl hdg kk
theorem gI_X7_59 {i : Nat} (h : gok 0 41 10 i) (hdg : decode cc pc = .ok (.getfield 59, 3)) (kk : G l w 0 41 RX7 cc nL ret fr lc post (pc + 3) L (.int (σ 10 i 5) :: st) σ) : G l w 0 41 RX7 cc nL ret fr lc post pc L (.ref (w.2.1 10 i) :: st) σ := g_getI fl_X7_59 h rfl hdg kk
theorem gP_X7_59 {i : Nat} {x : Int32} (h : gok 0 41 10 i) (hdg : decode cc pc = .ok (.putfield 59, 3)) (kk : G l w 0 41 RX7 cc nL ret fr lc post (pc + 3) L st (gup σ 10 i 5 x)) : G l w 0 41 RX7 cc nL ret fr lc post pc L (.int x :: .ref (w.2.1 10 i) :: st) σ := g_putI (by decide) fp_X7_59 rfl rfl h rfl hdg kk
theorem gI_X8_9 (h : gok 0 41 15 0) (hdg : decode cc pc = .ok (.getfield 9, 3)) (kk : G l w 0 41 RX8 cc nL ret fr lc post (pc + 3) L (.int (σ 15 0 2) :: st) σ) : G l w 0 41 RX8 cc nL ret fr lc post pc L (.ref (w.2.1 15 0) :: st) σ := g_getI fl_X8_9 h rfl hdg kk
theorem gP_X8_9 {x : Int32} (h : gok 0 41 15 0) (hdg : decode cc pc = .ok (.putfield 9, 3)) (kk : G l w 0 41 RX8 cc nL ret fr lc post (pc + 3) L st (gup σ 15 0 2 x)) : G l w 0 41 RX8 cc nL ret fr lc post pc L (.int x :: .ref (w.2.1 15 0) :: st) σ := g_putI (by decide) fp_X8_9 rfl rfl h rfl hdg kk
theorem gI_X8_15 (h : gok 0 41 15 0) (hdg : decode cc pc = .ok (.getfield 15, 3)) (kk : G l w 0 41 RX8 cc nL ret fr lc post (pc + 3) L (.int (σ 15 0 3) :: st) σ) : G l w 0 41 RX8 cc nL ret fr lc post pc L (.ref (w.2.1 15 0) :: st) σ := g_getI fl_X8_15 h rfl hdg kk
theorem gP_X8_15 {x : Int32} (h : gok 0 41 15 0) (hdg : decode cc pc = .ok (.putfield 15, 3)) (kk : G l w 0 41 RX8 cc nL ret fr lc post (pc + 3) L st (gup σ 15 0 3 x)) : G l w 0 41 RX8 cc nL ret fr lc post pc L (.int x :: .ref (w.2.1 15 0) :: st) σ := g_putI (by decide) fp_X8_15 rfl rfl h rfl hdg kk
theorem gI_X8_18 (h : gok 0 41 15 0) (hdg : decode cc pc = .ok (.getfield 18, 3)) (kk : G l w 0 41 RX8 cc nL ret fr lc post (pc + 3) L (.int (σ 15 0 4) :: st) σ) : G l w 0 41 RX8 cc nL ret fr lc post pc L (.ref (w.2.1 15 0) :: st) σ := g_getI fl_X8_18 h rfl hdg kk
theorem gP_X8_18 {x : Int32} (h : gok 0 41 15 0) (hdg : decode cc pc = .ok (.putfield 18, 3)) (kk : G l w 0 41 RX8 cc nL ret fr lc post (pc + 3) L st (gup σ 15 0 4 x)) : G l w 0 41 RX8 cc nL ret fr lc post pc L (.int x :: .ref (w.2.1 15 0) :: st) σ := g_putI (by decide) fp_X8_18 rfl rfl h rfl hdg kk
theorem gI_X8_21 (h : gok 0 41 15 0) (hdg : decode cc pc = .ok (.getfield 21, 3)) (kk : G l w 0 41 RX8 cc nL ret fr lc post (pc + 3) L (.int (σ 15 0 5) :: st) σ) : G l w 0 41 RX8 cc nL ret fr lc post pc L (.ref (w.2.1 15 0) :: st) σ := g_getI fl_X8_21 h rfl hdg kk
theorem gP_X8_21 {x : Int32} (h : gok 0 41 15 0) (hdg : decode cc pc = .ok (.putfield 21, 3)) (kk : G l w 0 41 RX8 cc nL ret fr lc post (pc + 3) L st (gup σ 15 0 5 x)) : G l w 0 41 RX8 cc nL ret fr lc post pc L (.int x :: .ref (w.2.1 15 0) :: st) σ := g_putI (by decide) fp_X8_21 rfl rfl h rfl hdg kk
theorem gI_X8_24 (h : gok 0 41 15 0) (hdg : decode cc pc = .ok (.getfield 24, 3)) (kk : G l w 0 41 RX8 cc nL ret fr lc post (pc + 3) L (.int (σ 15 0 6) :: st) σ) : G l w 0 41 RX8 cc nL ret fr lc post pc L (.ref (w.2.1 15 0) :: st) σ := g_getI fl_X8_24 h rfl hdg kk
theorem gP_X8_24 {x : Int32} (h : gok 0 41 15 0) (hdg : decode cc pc = .ok (.putfield 24, 3)) (kk : G l w 0 41 RX8 cc nL ret fr lc post (pc + 3) L st (gup σ 15 0 6 x)) : G l w 0 41 RX8 cc nL ret fr lc post pc L (.int x :: .ref (w.2.1 15 0) :: st) σ := g_putI (by decide) fp_X8_24 rfl rfl h rfl hdg kk
theorem gI_X8_27 (h : gok 0 41 15 0) (hdg : decode cc pc = .ok (.getfield 27, 3)) (kk : G l w 0 41 RX8 cc nL ret fr lc post (pc + 3) L (.int (σ 15 0 7) :: st) σ) : G l w 0 41 RX8 cc nL ret fr lc post pc L (.ref (w.2.1 15 0) :: st) σ := g_getI fl_X8_27 h rfl hdg kk
theorem gP_X8_27 {x : Int32} (h : gok 0 41 15 0) (hdg : decode cc pc = .ok (.putfield 27, 3)) (kk : G l w 0 41 RX8 cc nL ret fr lc post (pc + 3) L st (gup σ 15 0 7 x)) : G l w 0 41 RX8 cc nL ret fr lc post pc L (.int x :: .ref (w.2.1 15 0) :: st) σ := g_putI (by decide) fp_X8_27 rfl rfl h rfl hdg kk
theorem gI_X8_30 (h : gok 0 41 15 0) (hdg : decode cc pc = .ok (.getfield 30, 3)) (kk : G l w 0 41 RX8 cc nL ret fr lc post (pc + 3) L (.int (σ 15 0 8) :: st) σ) : G l w 0 41 RX8 cc nL ret fr lc post pc L (.ref (w.2.1 15 0) :: st) σ := g_getI fl_X8_30 h rfl hdg kk
theorem gP_X8_30 {x : Int32} (h : gok 0 41 15 0) (hdg : decode cc pc = .ok (.putfield 30, 3)) (kk : G l w 0 41 RX8 cc nL ret fr lc post (pc + 3) L st (gup σ 15 0 8 x)) : G l w 0 41 RX8 cc nL ret fr lc post pc L (.int x :: .ref (w.2.1 15 0) :: st) σ := g_putI (by decide) fp_X8_30 rfl rfl h rfl hdg kk
theorem gR_X8_33 (h : gok 0 41 15 0) (hdg : decode cc pc = .ok (.getfield 33, 3)) (kk : G l w 0 41 RX8 cc nL ret fr lc post (pc + 3) L (.ref (w.2.1 1 0) :: st) σ) : G l w 0 41 RX8 cc nL ret fr lc post pc L (.ref (w.2.1 15 0) :: st) σ := g_getR fl_X8_33 h rfl hdg kk
theorem gR_X8_37 (h : gok 0 41 15 0) (hdg : decode cc pc = .ok (.getfield 37, 3)) (kk : G l w 0 41 RX8 cc nL ret fr lc post (pc + 3) L (.ref (w.2.1 3 0) :: st) σ) : G l w 0 41 RX8 cc nL ret fr lc post pc L (.ref (w.2.1 15 0) :: st) σ := g_getR fl_X8_37 h rfl hdg kk
theorem gI_X8_68 {i : Nat} (h : gok 0 41 3 i) (hdg : decode cc pc = .ok (.getfield 68, 3)) (kk : G l w 0 41 RX8 cc nL ret fr lc post (pc + 3) L (.int (σ 3 i 3) :: st) σ) : G l w 0 41 RX8 cc nL ret fr lc post pc L (.ref (w.2.1 3 i) :: st) σ := g_getI fl_X8_68 h rfl hdg kk
theorem gP_X8_68 {i : Nat} {x : Int32} (h : gok 0 41 3 i) (hdg : decode cc pc = .ok (.putfield 68, 3)) (kk : G l w 0 41 RX8 cc nL ret fr lc post (pc + 3) L st (gup σ 3 i 3 x)) : G l w 0 41 RX8 cc nL ret fr lc post pc L (.int x :: .ref (w.2.1 3 i) :: st) σ := g_putI (by decide) fp_X8_68 rfl rfl h rfl hdg kk
theorem gI_X8_118 {i : Nat} (h : gok 0 41 3 i) (hdg : decode cc pc = .ok (.getfield 118, 3)) (kk : G l w 0 41 RX8 cc nL ret fr lc post (pc + 3) L (.int (σ 3 i 4) :: st) σ) : G l w 0 41 RX8 cc nL ret fr lc post pc L (.ref (w.2.1 3 i) :: st) σ := g_getI fl_X8_118 h rfl hdg kk
theorem gP_X8_118 {i : Nat} {x : Int32} (h : gok 0 41 3 i) (hdg : decode cc pc = .ok (.putfield 118, 3)) (kk : G l w 0 41 RX8 cc nL ret fr lc post (pc + 3) L st (gup σ 3 i 4 x)) : G l w 0 41 RX8 cc nL ret fr lc post pc L (.int x :: .ref (w.2.1 3 i) :: st) σ := g_putI (by decide) fp_X8_118 rfl rfl h rfl hdg kk
theorem gI_X8_131 {i : Nat} (h : gok 0 41 10 i) (hdg : decode cc pc = .ok (.getfield 131, 3)) (kk : G l w 0 41 RX8 cc nL ret fr lc post (pc + 3) L (.int (σ 10 i 5) :: st) σ) : G l w 0 41 RX8 cc nL ret fr lc post pc L (.ref (w.2.1 10 i) :: st) σ := g_getI fl_X8_131 h rfl hdg kk
theorem gP_X8_131 {i : Nat} {x : Int32} (h : gok 0 41 10 i) (hdg : decode cc pc = .ok (.putfield 131, 3)) (kk : G l w 0 41 RX8 cc nL ret fr lc post (pc + 3) L st (gup σ 10 i 5 x)) : G l w 0 41 RX8 cc nL ret fr lc post pc L (.int x :: .ref (w.2.1 10 i) :: st) σ := g_putI (by decide) fp_X8_131 rfl rfl h rfl hdg kk
theorem gI_X8_136 {i : Nat} (h : gok 0 41 10 i) (hdg : decode cc pc = .ok (.getfield 136, 3)) (kk : G l w 0 41 RX8 cc nL ret fr lc post (pc + 3) L (.int (σ 10 i 6) :: st) σ) : G l w 0 41 RX8 cc nL ret fr lc post pc L (.ref (w.2.1 10 i) :: st) σ := g_getI fl_X8_136 h rfl hdg kk
theorem gP_X8_136 {i : Nat} {x : Int32} (h : gok 0 41 10 i) (hdg : decode cc pc = .ok (.putfield 136, 3)) (kk : G l w 0 41 RX8 cc nL ret fr lc post (pc + 3) L st (gup σ 10 i 6 x)) : G l w 0 41 RX8 cc nL ret fr lc post pc L (.int x :: .ref (w.2.1 10 i) :: st) σ := g_putI (by decide) fp_X8_136 rfl rfl h rfl hdg kk
theorem gI_X8_139 {i : Nat} (h : gok 0 41 10 i) (hdg : decode cc pc = .ok (.getfield 139, 3)) (kk : G l w 0 41 RX8 cc nL ret fr lc post (pc + 3) L (.int (σ 10 i 7) :: st) σ) : G l w 0 41 RX8 cc nL ret fr lc post pc L (.ref (w.2.1 10 i) :: st) σ := g_getI fl_X8_139 h rfl hdg kk
theorem gP_X8_139 {i : Nat} {x : Int32} (h : gok 0 41 10 i) (hdg : decode cc pc = .ok (.putfield 139, 3)) (kk : G l w 0 41 RX8 cc nL ret fr lc post (pc + 3) L st (gup σ 10 i 7 x)) : G l w 0 41 RX8 cc nL ret fr lc post pc L (.int x :: .ref (w.2.1 10 i) :: st) σ := g_putI (by decide) fp_X8_139 rfl rfl h rfl hdg kk
theorem gR_X9_9 {i : Nat} (h : gok 0 41 10 i) (hdg : decode cc pc = .ok (.getfield 9, 3)) (kk : G l w 0 41 RX9 cc nL ret fr lc post (pc + 3) L (.ref (w.2.1 11 i) :: st) σ) : G l w 0 41 RX9 cc nL ret fr lc post pc L (.ref (w.2.1 10 i) :: st) σ := g_getR fl_X9_9 h rfl hdg kk
theorem gR_X9_15 {i : Nat} (h : gok 0 41 10 i) (hdg : decode cc pc = .ok (.getfield 15, 3)) (kk : G l w 0 41 RX9 cc nL ret fr lc post (pc + 3) L (.ref (w.2.1 12 i) :: st) σ) : G l w 0 41 RX9 cc nL ret fr lc post pc L (.ref (w.2.1 10 i) :: st) σ := g_getR fl_X9_15 h rfl hdg kk
theorem gR_X9_18 {i : Nat} (h : gok 0 41 10 i) (hdg : decode cc pc = .ok (.getfield 18, 3)) (kk : G l w 0 41 RX9 cc nL ret fr lc post (pc + 3) L (.ref (w.2.1 13 i) :: st) σ) : G l w 0 41 RX9 cc nL ret fr lc post pc L (.ref (w.2.1 10 i) :: st) σ := g_getR fl_X9_18 h rfl hdg kk
theorem gR_X9_21 {i : Nat} (h : gok 0 41 10 i) (hdg : decode cc pc = .ok (.getfield 21, 3)) (kk : G l w 0 41 RX9 cc nL ret fr lc post (pc + 3) L (.ref (w.2.1 14 i) :: st) σ) : G l w 0 41 RX9 cc nL ret fr lc post pc L (.ref (w.2.1 10 i) :: st) σ := g_getR fl_X9_21 h rfl hdg kk
theorem gI_X9_26 {i : Nat} (h : gok 0 41 10 i) (hdg : decode cc pc = .ok (.getfield 26, 3)) (kk : G l w 0 41 RX9 cc nL ret fr lc post (pc + 3) L (.int (σ 10 i 4) :: st) σ) : G l w 0 41 RX9 cc nL ret fr lc post pc L (.ref (w.2.1 10 i) :: st) σ := g_getI fl_X9_26 h rfl hdg kk
theorem gP_X9_26 {i : Nat} {x : Int32} (h : gok 0 41 10 i) (hdg : decode cc pc = .ok (.putfield 26, 3)) (kk : G l w 0 41 RX9 cc nL ret fr lc post (pc + 3) L st (gup σ 10 i 4 x)) : G l w 0 41 RX9 cc nL ret fr lc post pc L (.int x :: .ref (w.2.1 10 i) :: st) σ := g_putI (by decide) fp_X9_26 rfl rfl h rfl hdg kk
theorem gI_X9_30 {i : Nat} (h : gok 0 41 10 i) (hdg : decode cc pc = .ok (.getfield 30, 3)) (kk : G l w 0 41 RX9 cc nL ret fr lc post (pc + 3) L (.int (σ 10 i 5) :: st) σ) : G l w 0 41 RX9 cc nL ret fr lc post pc L (.ref (w.2.1 10 i) :: st) σ := g_getI fl_X9_30 h rfl hdg kk
theorem gP_X9_30 {i : Nat} {x : Int32} (h : gok 0 41 10 i) (hdg : decode cc pc = .ok (.putfield 30, 3)) (kk : G l w 0 41 RX9 cc nL ret fr lc post (pc + 3) L st (gup σ 10 i 5 x)) : G l w 0 41 RX9 cc nL ret fr lc post pc L (.int x :: .ref (w.2.1 10 i) :: st) σ := g_putI (by decide) fp_X9_30 rfl rfl h rfl hdg kk
theorem gI_X9_33 {i : Nat} (h : gok 0 41 10 i) (hdg : decode cc pc = .ok (.getfield 33, 3)) (kk : G l w 0 41 RX9 cc nL ret fr lc post (pc + 3) L (.int (σ 10 i 6) :: st) σ) : G l w 0 41 RX9 cc nL ret fr lc post pc L (.ref (w.2.1 10 i) :: st) σ := g_getI fl_X9_33 h rfl hdg kk
theorem gP_X9_33 {i : Nat} {x : Int32} (h : gok 0 41 10 i) (hdg : decode cc pc = .ok (.putfield 33, 3)) (kk : G l w 0 41 RX9 cc nL ret fr lc post (pc + 3) L st (gup σ 10 i 6 x)) : G l w 0 41 RX9 cc nL ret fr lc post pc L (.int x :: .ref (w.2.1 10 i) :: st) σ := g_putI (by decide) fp_X9_33 rfl rfl h rfl hdg kk
theorem gI_X9_36 {i : Nat} (h : gok 0 41 10 i) (hdg : decode cc pc = .ok (.getfield 36, 3)) (kk : G l w 0 41 RX9 cc nL ret fr lc post (pc + 3) L (.int (σ 10 i 7) :: st) σ) : G l w 0 41 RX9 cc nL ret fr lc post pc L (.ref (w.2.1 10 i) :: st) σ := g_getI fl_X9_36 h rfl hdg kk
theorem gP_X9_36 {i : Nat} {x : Int32} (h : gok 0 41 10 i) (hdg : decode cc pc = .ok (.putfield 36, 3)) (kk : G l w 0 41 RX9 cc nL ret fr lc post (pc + 3) L st (gup σ 10 i 7 x)) : G l w 0 41 RX9 cc nL ret fr lc post pc L (.int x :: .ref (w.2.1 10 i) :: st) σ := g_putI (by decide) fp_X9_36 rfl rfl h rfl hdg kk
theorem gI_X9_39 {i : Nat} (h : gok 0 41 10 i) (hdg : decode cc pc = .ok (.getfield 39, 3)) (kk : G l w 0 41 RX9 cc nL ret fr lc post (pc + 3) L (.int (σ 10 i 8) :: st) σ) : G l w 0 41 RX9 cc nL ret fr lc post pc L (.ref (w.2.1 10 i) :: st) σ := g_getI fl_X9_39 h rfl hdg kk
theorem gP_X9_39 {i : Nat} {x : Int32} (h : gok 0 41 10 i) (hdg : decode cc pc = .ok (.putfield 39, 3)) (kk : G l w 0 41 RX9 cc nL ret fr lc post (pc + 3) L st (gup σ 10 i 8 x)) : G l w 0 41 RX9 cc nL ret fr lc post pc L (.int x :: .ref (w.2.1 10 i) :: st) σ := g_putI (by decide) fp_X9_39 rfl rfl h rfl hdg kk
theorem gI_X9_42 {i : Nat} (h : gok 0 41 10 i) (hdg : decode cc pc = .ok (.getfield 42, 3)) (kk : G l w 0 41 RX9 cc nL ret fr lc post (pc + 3) L (.int (σ 10 i 9) :: st) σ) : G l w 0 41 RX9 cc nL ret fr lc post pc L (.ref (w.2.1 10 i) :: st) σ := g_getI fl_X9_42 h rfl hdg kk
theorem gP_X9_42 {i : Nat} {x : Int32} (h : gok 0 41 10 i) (hdg : decode cc pc = .ok (.putfield 42, 3)) (kk : G l w 0 41 RX9 cc nL ret fr lc post (pc + 3) L st (gup σ 10 i 9 x)) : G l w 0 41 RX9 cc nL ret fr lc post pc L (.int x :: .ref (w.2.1 10 i) :: st) σ := g_putI (by decide) fp_X9_42 rfl rfl h rfl hdg kk
theorem gI_X9_45 {i : Nat} (h : gok 0 41 10 i) (hdg : decode cc pc = .ok (.getfield 45, 3)) (kk : G l w 0 41 RX9 cc nL ret fr lc post (pc + 3) L (.int (σ 10 i 10) :: st) σ) : G l w 0 41 RX9 cc nL ret fr lc post pc L (.ref (w.2.1 10 i) :: st) σ := g_getI fl_X9_45 h rfl hdg kk
theorem gP_X9_45 {i : Nat} {x : Int32} (h : gok 0 41 10 i) (hdg : decode cc pc = .ok (.putfield 45, 3)) (kk : G l w 0 41 RX9 cc nL ret fr lc post (pc + 3) L st (gup σ 10 i 10 x)) : G l w 0 41 RX9 cc nL ret fr lc post pc L (.int x :: .ref (w.2.1 10 i) :: st) σ := g_putI (by decide) fp_X9_45 rfl rfl h rfl hdg kk
end MB
theorem pn_J7 : plainName RJ7 = true := by decide +kernel
theorem pn_X0 : plainName RX0 = true := by decide +kernel
theorem pn_X1 : plainName RX1 = true := by decide +kernel
theorem pn_X10 : plainName RX10 = true := by decide +kernel
theorem pn_X11 : plainName RX11 = true := by decide +kernel
theorem pn_X12 : plainName RX12 = true := by decide +kernel
theorem pn_X2 : plainName RX2 = true := by decide +kernel
theorem pn_X3 : plainName RX3 = true := by decide +kernel
theorem pn_X4 : plainName RX4 = true := by decide +kernel
theorem pn_X5 : plainName RX5 = true := by decide +kernel
theorem pn_X6 : plainName RX6 = true := by decide +kernel
theorem pn_X7 : plainName RX7 = true := by decide +kernel
theorem pn_X8 : plainName RX8 = true := by decide +kernel
theorem pn_X9 : plainName RX9 = true := by decide +kernel
