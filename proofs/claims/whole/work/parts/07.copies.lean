def gCp (own : String) (idx : Nat) : Prop := Cond.methodLink own idx arraycopyName ∈ gGood ∧ Cond.native arraycopyName ∈ gGood ∧ Cond.static arraycopyName ∈ gGood ∧ Cond.initialized "java/lang/System" ∈ gGood
section MB7
variable {l : Launch} {w : gWd} {own : String} {cc : ByteArray} {nL : Nat} {ret : Option FieldType} {fr lc : Nat} {post : Option Value → gSt → Prop} {pc : Nat} {L : List (Option Value)} {st : List Value} {σ : gSt}
theorem g_cpyB {k0 i0 n0 k1 i1 n1 idx : Nat} {sp dp n : Int32} {τ : gSt} (e : gcpy σ k0 i0 n0 k1 i1 n1 sp dp n = some τ) (hlk : gCp own idx) (ok0 : gok 0 41 k0 i0) (ok1 : gok 0 41 k1 i1) (hn0 : gln k0 = n0) (hk0 : gkd k0 = 1) (hn1 : gln k1 = n1) (hk1 : gkd k1 = 1) (hfr : 1 ≤ fr) (hlc : 60 ≤ lc) (hdg : decode cc pc = .ok (.invokestatic idx, 3)) (kk : G l w 0 41 own cc nL ret fr lc post (pc + 3) L [] τ) : G l w 0 41 own cc nL ret fr lc post pc L [.int n, .int dp, .ref (w.2.1 k1 i1), .int sp, .ref (w.2.1 k0 i0)] σ := by
  unfold gcpy at e
  by_cases hg : (¬ sp < 0 ∧ ¬ dp < 0 ∧ ¬ n < 0) ∧ sp.toNatClampNeg + n.toNatClampNeg ≤ n0 ∧ dp.toNatClampNeg + n.toNatClampNeg ≤ n1
  · rw [if_pos hg] at e
    cases e
    obtain ⟨⟨h1, h2, h3⟩, h4, h5⟩ := hg
    intro p e s' m args below meth c H locs ls F hl hH hS
    obtain ⟨q0, g0, hq0⟩ := gws_get (w := w) ok0
    obtain ⟨q1, g1, hq1⟩ := gws_get (w := w) ok1
    obtain ⟨l1, l2, l3, l4⟩ := hlk
    have hT := F.2.2.2.2.1
    refine va_copyi F.1 F.2.1 (F.2.2.1.trans hl.1.symm) F.2.2.2.1 (hT _ l1) (hT _ l2) (hT _ l3) (hT _ l4) F.2.2.2.2.2.1.1 hH (gD (by decide) F.2.2.2.2.2.1.2.1 σ) hS q0 q1 0 0 ((hq0 σ).trans (by rw [gcell_int hk0])) ((hq1 σ).trans (by rw [gcell_int hk1])) rfl rfl rfl h1 h2 h3 (by rw [hn0]; exact h4) (by rw [hn1]; exact h5) (fun _ _ => rfl) hfr (Nat.le_trans (by decide) hlc) hdg (fun H1 locs1 hP1 hD1 hS1 => ?_)
    refine kk p e s' m args below meth c H1 locs1 ls F hl ?_ hS1
    have e1 : (Sum.inl (w.2.2.1, gln k1, .inl (va_cpy (σ k0 i0) (σ k1 i1) sp.toNatClampNeg dp.toNatClampNeg n.toNatClampNeg)) : va_E) = gcell w (gupr σ k1 i1 (va_cpy (σ k0 i0) (σ k1 i1) sp.toNatClampNeg dp.toNatClampNeg n.toNatClampNeg)) k1 i1 := by
      rw [gcell_int hk1, gupr_same]
    rw [e1, gws_set g1 (fun k' i' hne => gcell_same (gupr_ne hne))] at hP1
    exact hP1
  · rw [if_neg hg] at e; cases e
def gmx (x y : Int32) : Int32 := if x < y then y else x
def gmn (x y : Int32) : Int32 := if y < x then y else x
def gab (x : Int32) : Int32 := if 0 ≤ x then x else 0 - x
def gMx (own : String) (idx : Nat) (y : MethodName) (b : ByteArray) (n : Nat) : Prop := Cond.methodLink own idx y ∈ gGood ∧ Cond.static y ∈ gGood ∧ Cond.initialized "java/lang/Math" ∈ gGood ∧ Cond.code y b n (some .int) ∈ gGood
theorem g_mmax {idx : Nat} {x y : Int32} (hlk : gMx own idx Lib.Math.max.name Lib.Math.max.code 2) (hfr : 1 ≤ fr) (hlc : 24 ≤ lc) (hW : (st.map fun v => v.category).sum ≤ 8) (hdg : decode cc pc = .ok (.invokestatic idx, 3)) (kk : G l w 0 41 own cc nL ret fr lc post (pc + 3) L (.int (gmx x y) :: st) σ) : G l w 0 41 own cc nL ret fr lc post pc L (.int y :: .int x :: st) σ := by
  intro p e s' m args below meth c H locs ls F hl hH hS
  have hT := F.2.2.2.2.1
  exact va_mmax F.1 F.2.1 (F.2.2.1.trans hl.1.symm) F.2.2.2.1 (hT _ hlk.1) (hT _ hlk.2.1) (hT _ hlk.2.2.1) (hT _ hlk.2.2.2) hfr (by show _ + 13 ≤ lc; omega) (Nat.le_refl _) (Nat.le_refl _) hdg (kk p e s' m args below meth c H locs ls F hl hH hS)
theorem g_mmin {idx : Nat} {x y : Int32} (hlk : gMx own idx Lib.Math.min.name Lib.Math.min.code 2) (hfr : 1 ≤ fr) (hlc : 24 ≤ lc) (hW : (st.map fun v => v.category).sum ≤ 8) (hdg : decode cc pc = .ok (.invokestatic idx, 3)) (kk : G l w 0 41 own cc nL ret fr lc post (pc + 3) L (.int (gmn x y) :: st) σ) : G l w 0 41 own cc nL ret fr lc post pc L (.int y :: .int x :: st) σ := by
  intro p e s' m args below meth c H locs ls F hl hH hS
  have hT := F.2.2.2.2.1
  exact va_mmin F.1 F.2.1 (F.2.2.1.trans hl.1.symm) F.2.2.2.1 (hT _ hlk.1) (hT _ hlk.2.1) (hT _ hlk.2.2.1) (hT _ hlk.2.2.2) hfr (by show _ + 13 ≤ lc; omega) (Nat.le_refl _) (Nat.le_refl _) hdg (kk p e s' m args below meth c H locs ls F hl hH hS)
theorem g_mabs {idx : Nat} {x : Int32} (hlk : gMx own idx Lib.Math.abs.name Lib.Math.abs.code 1) (hfr : 1 ≤ fr) (hlc : 24 ≤ lc) (hW : (st.map fun v => v.category).sum ≤ 8) (hdg : decode cc pc = .ok (.invokestatic idx, 3)) (kk : G l w 0 41 own cc nL ret fr lc post (pc + 3) L (.int (gab x) :: st) σ) : G l w 0 41 own cc nL ret fr lc post pc L (.int x :: st) σ := by
  intro p e s' m args below meth c H locs ls F hl hH hS
  have hT := F.2.2.2.2.1
  exact va_mabs F.1 F.2.1 (F.2.2.1.trans hl.1.symm) F.2.2.2.1 (hT _ hlk.1) (hT _ hlk.2.1) (hT _ hlk.2.2.1) (hT _ hlk.2.2.2) hfr (by show _ + 13 ≤ lc; omega) (Nat.le_refl _) (Nat.le_refl _) hdg (kk p e s' m args below meth c H locs ls F hl hH hS)
theorem lookOut2 {x : Int32} {a b d : Int} (q0 : ¬ x = 0) (q1 : ¬ x = 1) : Op.lookupswitch.offset (#[(0, a), (1, b)] : Array (Int × Int)).toList d x.toInt = d := by
  have h0 : x.toInt ≠ 0 := fun h => q0 (Int32.toInt_inj.mp h)
  have h1 : x.toInt ≠ 1 := fun h => q1 (Int32.toInt_inj.mp h)
  simp [Op.lookupswitch.offset, h0, h1, Ne.symm h0, Ne.symm h1]
end MB7
theorem kn_X8_48 : Cond.constant RX8 48 117099109 ∈ gGood := gGood_at 511 (by decide +kernel) rfl
theorem kn_X8_57 : Cond.constant RX8 57 626473138 ∈ gGood := gGood_at 532 (by decide +kernel) rfl
theorem kn_X8_64 : Cond.constant RX8 64 20317291 ∈ gGood := gGood_at 533 (by decide +kernel) rfl
theorem cp_X0_23 : gCp RX0 23 := ⟨gGood_at 1186 (by decide +kernel) rfl, gGood_at 624 (by decide +kernel) rfl, gGood_at 623 (by decide +kernel) rfl, gGood_at 104 (by decide +kernel) rfl⟩
theorem cp_X1_24 : gCp RX1 24 := ⟨gGood_at 622 (by decide +kernel) rfl, gGood_at 624 (by decide +kernel) rfl, gGood_at 623 (by decide +kernel) rfl, gGood_at 104 (by decide +kernel) rfl⟩
theorem cp_X9_48 : gCp RX9 48 := ⟨gGood_at 629 (by decide +kernel) rfl, gGood_at 624 (by decide +kernel) rfl, gGood_at 623 (by decide +kernel) rfl, gGood_at 104 (by decide +kernel) rfl⟩
theorem mm_X2_75 : gMx RX2 75 Lib.Math.max.name Lib.Math.max.code 2 := ⟨gGood_at 942 (by decide +kernel) rfl, gGood_at 653 (by decide +kernel) rfl, gGood_at 105 (by decide +kernel) rfl, gGood_at 654 (by decide +kernel) rfl⟩
theorem mm_X3_41 : gMx RX3 41 Lib.Math.max.name Lib.Math.max.code 2 := ⟨gGood_at 652 (by decide +kernel) rfl, gGood_at 653 (by decide +kernel) rfl, gGood_at 105 (by decide +kernel) rfl, gGood_at 654 (by decide +kernel) rfl⟩
theorem mm_X7_32 : gMx RX7 32 Lib.Math.abs.name Lib.Math.abs.code 1 := ⟨gGood_at 1070 (by decide +kernel) rfl, gGood_at 1071 (by decide +kernel) rfl, gGood_at 105 (by decide +kernel) rfl, gGood_at 1072 (by decide +kernel) rfl⟩
theorem mm_X7_66 : gMx RX7 66 Lib.Math.min.name Lib.Math.min.code 2 := ⟨gGood_at 1096 (by decide +kernel) rfl, gGood_at 1097 (by decide +kernel) rfl, gGood_at 105 (by decide +kernel) rfl, gGood_at 1098 (by decide +kernel) rfl⟩
theorem mm_X7_76 : gMx RX7 76 Lib.Math.max.name Lib.Math.max.code 2 := ⟨gGood_at 1111 (by decide +kernel) rfl, gGood_at 653 (by decide +kernel) rfl, gGood_at 105 (by decide +kernel) rfl, gGood_at 654 (by decide +kernel) rfl⟩
