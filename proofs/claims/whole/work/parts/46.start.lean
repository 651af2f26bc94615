theorem mi_L_15 : gMi RL 15 yX11_init cX11_init 1 0 := ⟨Or.inl (gGood_at 117 (by decide +kernel) rfl), ii_X11, gGood_at 119 (by decide +kernel) rfl, ⟨by decide, by decide, by decide +kernel⟩, gGood_at 118 (by decide +kernel) rfl, rfl⟩
theorem mi_L_18 : gMi RL 18 yX12_init cX12_init 1 0 := ⟨Or.inl (gGood_at 1362 (by decide +kernel) rfl), ii_X12, gGood_at 1364 (by decide +kernel) rfl, ⟨by decide, by decide, by decide +kernel⟩, gGood_at 1363 (by decide +kernel) rfl, rfl⟩
theorem cl_L_8 : Cond.classLink RL 8 RX11 ∈ gGood := gGood_at 115 (by decide +kernel) rfl
theorem cl_L_16 : Cond.classLink RL 16 RX12 ∈ gGood := gGood_at 1360 (by decide +kernel) rfl
theorem ai_2 : Cond.arrayClass .long ∈ gGood := gGood_at 1974 (by decide +kernel) rfl
theorem c_newl {l : Launch} {D : va_G} {own : String} {cc : ByteArray} {nL : Nat} {mn : String} {rt : Option FieldType} {R : Room} {A : Nat → Prop} {Z : Array Value → State → Prop} {Q : List Frame → Array Value → State → State → Prop} {tys : List (ClassId × FieldType)} {pc : Nat} {L : List (Option Value)} {st : List Value} {ws : va_W} {ce sl : Nat} {x : Int32} {N : Nat} (h1 : Cond.arrayClass .long ∈ gGood) (hn : ¬ x < 0) (hN : x.toNatClampNeg = N) (hb : N * 8 ≤ 536870912) (hcells : ce + 1 ≤ R.cells) (hslots : sl + N ≤ R.slots) (hdg : decode cc pc = .ok (.newarray .long, 2))
    (kk : ∀ (q : Nat) (cA : ClassId), GC l D own cc nL mn rt R A Z Q (tys ++ [(cA, .long)]) (pc + 2) L (.ref q :: st) (ws ++ [(q, .inl (cA, N, .inr (.inl (fun _ => 0))))]) (ce + 1) (sl + N)) : GC l D own cc nL mn rt R A Z Q tys pc L (.int x :: st) ws ce sl := by
  intro p e s m args below meth c H locs ls F hl hK hP hD hS
  have hT := F.2.2.2.2.1
  exact va_newa (atype := .long) (ty := .long) (a0 := (N, .inr (.inl (fun _ => 0)))) F.1 F.2.1 (hT _ h1) rfl hK hP hD hS F.2.2.2.2.2.2.2.2.1 (fun _ => rfl) hn hN hb hcells hslots hdg (fun q cA H1 hK1 hP1 hD1 hS1 => kk q cA p e s m args below meth c H1 locs ls F hl hK1 hP1 hD1 hS1)
/-- the store at the start -/
def gS0 : gSt := fun k _ s => if k = 0 ∧ s = 10 then -1 else if k = 3 ∧ s = 5 then 10 else if k = 3 ∧ s = 6 then 20 else if k = 28 ∧ s = 3 then -1 else 0
/-- where a cell of a kind lies in the world as it was made -/
def gPos (k i : Nat) : Nat := (([[0], [1], [2], [3, 65], [4, 66], [5, 67], [6, 68], [7, 69], [8, 10, 12, 70, 72, 74], [9, 11, 13, 71, 73, 75], [14, 19, 24, 29, 34, 39, 44, 49, 54, 59, 76, 81, 86, 91, 96, 101, 106, 111, 116, 121], [15, 20, 25, 30, 35, 40, 45, 50, 55, 60, 77, 82, 87, 92, 97, 102, 107, 112, 117, 122], [16, 21, 26, 31, 36, 41, 46, 51, 56, 61, 78, 83, 88, 93, 98, 103, 108, 113, 118, 123], [17, 22, 27, 32, 37, 42, 47, 52, 57, 62, 79, 84, 89, 94, 99, 104, 109, 114, 119, 124], [18, 23, 28, 33, 38, 43, 48, 53, 58, 63, 80, 85, 90, 95, 100, 105, 110, 115, 120, 125], [64], [126], [127], [128], [129], [130], [131], [132], [133], [134], [135], [136], [137], [138], [139], [140], [141], [142], [143], [144], [145], [146], [147], [148], [149], [150]] : List (List Nat)).getD k []).getD i 0
def gAd (qx qm : Nat) (qs ms : List Nat) (k i : Nat) : Nat := if gPos k i = 0 then qx else if gPos k i < 138 then qs.getD (gPos k i - 1) 0 else if gPos k i = 138 then qm else ms.getD (gPos k i - 139) 0
def gBig (cI cC cR : ClassId) (qx qm : Nat) (qs ms : List Nat) : va_W := po_X11 cI cC cR cC cR qx qs ++ po_X12 cI qm ms
theorem gPos_inj : ∀ x ∈ gids 0 41, ∀ y ∈ gids 0 41, gPos x.1 x.2 = gPos y.1 y.2 → x = y := by decide +kernel
theorem gPos_lt : ∀ x ∈ gids 0 41, gPos x.1 x.2 < 151 := by decide +kernel
theorem gref_cell {cA : ClassId} {n : Nat} {f g : Nat → Option Nat} (h : ∀ j, j < n → f j = g j) : vp_cell cA (n, .inr (.inr (.inr (.inr f)))) = vp_cell cA (n, .inr (.inr (.inr (.inr g)))) := by
  show arrV cA n (fun j => va_rf (f j)) = arrV cA n (fun j => va_rf (g j))
  unfold arrV
  congr 1
  congr 1
  funext j
  show va_rf (f j.1) = va_rf (g j.1)
  rw [h j.1 j.2]
section ST
variable {D : va_G} {aK aV : Nat → Nat} {sz : Nat} {cI cC cR : ClassId} {qx qm : Nat} {qs ms : List Nat} {H : Heap}
theorem hk_0 (hP : va_P D vwCl (gBig cI cC cR qx qm qs ms) H) : ∀ i, i < 1 → va_at D vwCl ((gW D aK aV sz (gAd qx qm qs ms) cI cC cR).2.1 0 i, gcell (gW D aK aV sz (gAd qx qm qs ms) cI cC cR) gS0 0 i) H := fun i hi => match i, hi with | 0, _ => hP 0 ((gW D aK aV sz (gAd qx qm qs ms) cI cC cR).2.1 0 0, gcell (gW D aK aV sz (gAd qx qm qs ms) cI cC cR) gS0 0 0) rfl | i + 1, h => absurd h (by omega)
theorem hk_1 (hP : va_P D vwCl (gBig cI cC cR qx qm qs ms) H) : ∀ i, i < 1 → va_at D vwCl ((gW D aK aV sz (gAd qx qm qs ms) cI cC cR).2.1 1 i, gcell (gW D aK aV sz (gAd qx qm qs ms) cI cC cR) gS0 1 i) H := fun i hi => match i, hi with | 0, _ => hP 1 ((gW D aK aV sz (gAd qx qm qs ms) cI cC cR).2.1 1 0, gcell (gW D aK aV sz (gAd qx qm qs ms) cI cC cR) gS0 1 0) rfl | i + 1, h => absurd h (by omega)
theorem hk_2 (hP : va_P D vwCl (gBig cI cC cR qx qm qs ms) H) : ∀ i, i < 1 → va_at D vwCl ((gW D aK aV sz (gAd qx qm qs ms) cI cC cR).2.1 2 i, gcell (gW D aK aV sz (gAd qx qm qs ms) cI cC cR) gS0 2 i) H := fun i hi => match i, hi with | 0, _ => hP 2 ((gW D aK aV sz (gAd qx qm qs ms) cI cC cR).2.1 2 0, gcell (gW D aK aV sz (gAd qx qm qs ms) cI cC cR) gS0 2 0) rfl | i + 1, h => absurd h (by omega)
theorem hk_3 (hP : va_P D vwCl (gBig cI cC cR qx qm qs ms) H) : ∀ i, i < 2 → va_at D vwCl ((gW D aK aV sz (gAd qx qm qs ms) cI cC cR).2.1 3 i, gcell (gW D aK aV sz (gAd qx qm qs ms) cI cC cR) gS0 3 i) H := fun i hi => match i, hi with | 0, _ => hP 3 ((gW D aK aV sz (gAd qx qm qs ms) cI cC cR).2.1 3 0, gcell (gW D aK aV sz (gAd qx qm qs ms) cI cC cR) gS0 3 0) rfl | 1, _ => hP 65 ((gW D aK aV sz (gAd qx qm qs ms) cI cC cR).2.1 3 1, gcell (gW D aK aV sz (gAd qx qm qs ms) cI cC cR) gS0 3 1) rfl | i + 2, h => absurd h (by omega)
theorem hk_4 (hP : va_P D vwCl (gBig cI cC cR qx qm qs ms) H) : ∀ i, i < 2 → va_at D vwCl ((gW D aK aV sz (gAd qx qm qs ms) cI cC cR).2.1 4 i, gcell (gW D aK aV sz (gAd qx qm qs ms) cI cC cR) gS0 4 i) H := fun i hi => match i, hi with | 0, _ => (show H[gAd qx qm qs ms 4 0]? = some (vp_cell _ (3, _)) from (show H[gAd qx qm qs ms 4 0]? = _ from hP 4 _ rfl).trans (congrArg some (gref_cell (fun j hj => match j, hj with | 0, _ => rfl | 1, _ => rfl | 2, _ => rfl | j + 3, h => absurd h (by omega))))) | 1, _ => (show H[gAd qx qm qs ms 4 1]? = some (vp_cell _ (3, _)) from (show H[gAd qx qm qs ms 4 1]? = _ from hP 66 _ rfl).trans (congrArg some (gref_cell (fun j hj => match j, hj with | 0, _ => rfl | 1, _ => rfl | 2, _ => rfl | j + 3, h => absurd h (by omega))))) | i + 2, h => absurd h (by omega)
theorem hk_5 (hP : va_P D vwCl (gBig cI cC cR qx qm qs ms) H) : ∀ i, i < 2 → va_at D vwCl ((gW D aK aV sz (gAd qx qm qs ms) cI cC cR).2.1 5 i, gcell (gW D aK aV sz (gAd qx qm qs ms) cI cC cR) gS0 5 i) H := fun i hi => match i, hi with | 0, _ => (show H[gAd qx qm qs ms 5 0]? = some (vp_cell _ (10, _)) from (show H[gAd qx qm qs ms 5 0]? = _ from hP 5 _ rfl).trans (congrArg some (gref_cell (fun j hj => match j, hj with | 0, _ => rfl | 1, _ => rfl | 2, _ => rfl | 3, _ => rfl | 4, _ => rfl | 5, _ => rfl | 6, _ => rfl | 7, _ => rfl | 8, _ => rfl | 9, _ => rfl | j + 10, h => absurd h (by omega))))) | 1, _ => (show H[gAd qx qm qs ms 5 1]? = some (vp_cell _ (10, _)) from (show H[gAd qx qm qs ms 5 1]? = _ from hP 67 _ rfl).trans (congrArg some (gref_cell (fun j hj => match j, hj with | 0, _ => rfl | 1, _ => rfl | 2, _ => rfl | 3, _ => rfl | 4, _ => rfl | 5, _ => rfl | 6, _ => rfl | 7, _ => rfl | 8, _ => rfl | 9, _ => rfl | j + 10, h => absurd h (by omega))))) | i + 2, h => absurd h (by omega)
theorem hk_6 (hP : va_P D vwCl (gBig cI cC cR qx qm qs ms) H) : ∀ i, i < 2 → va_at D vwCl ((gW D aK aV sz (gAd qx qm qs ms) cI cC cR).2.1 6 i, gcell (gW D aK aV sz (gAd qx qm qs ms) cI cC cR) gS0 6 i) H := fun i hi => match i, hi with | 0, _ => hP 6 ((gW D aK aV sz (gAd qx qm qs ms) cI cC cR).2.1 6 0, gcell (gW D aK aV sz (gAd qx qm qs ms) cI cC cR) gS0 6 0) rfl | 1, _ => hP 68 ((gW D aK aV sz (gAd qx qm qs ms) cI cC cR).2.1 6 1, gcell (gW D aK aV sz (gAd qx qm qs ms) cI cC cR) gS0 6 1) rfl | i + 2, h => absurd h (by omega)
theorem hk_7 (hP : va_P D vwCl (gBig cI cC cR qx qm qs ms) H) : ∀ i, i < 2 → va_at D vwCl ((gW D aK aV sz (gAd qx qm qs ms) cI cC cR).2.1 7 i, gcell (gW D aK aV sz (gAd qx qm qs ms) cI cC cR) gS0 7 i) H := fun i hi => match i, hi with | 0, _ => hP 7 ((gW D aK aV sz (gAd qx qm qs ms) cI cC cR).2.1 7 0, gcell (gW D aK aV sz (gAd qx qm qs ms) cI cC cR) gS0 7 0) rfl | 1, _ => hP 69 ((gW D aK aV sz (gAd qx qm qs ms) cI cC cR).2.1 7 1, gcell (gW D aK aV sz (gAd qx qm qs ms) cI cC cR) gS0 7 1) rfl | i + 2, h => absurd h (by omega)
theorem hk_8 (hP : va_P D vwCl (gBig cI cC cR qx qm qs ms) H) : ∀ i, i < 6 → va_at D vwCl ((gW D aK aV sz (gAd qx qm qs ms) cI cC cR).2.1 8 i, gcell (gW D aK aV sz (gAd qx qm qs ms) cI cC cR) gS0 8 i) H := fun i hi => match i, hi with | 0, _ => hP 8 ((gW D aK aV sz (gAd qx qm qs ms) cI cC cR).2.1 8 0, gcell (gW D aK aV sz (gAd qx qm qs ms) cI cC cR) gS0 8 0) rfl | 1, _ => hP 10 ((gW D aK aV sz (gAd qx qm qs ms) cI cC cR).2.1 8 1, gcell (gW D aK aV sz (gAd qx qm qs ms) cI cC cR) gS0 8 1) rfl | 2, _ => hP 12 ((gW D aK aV sz (gAd qx qm qs ms) cI cC cR).2.1 8 2, gcell (gW D aK aV sz (gAd qx qm qs ms) cI cC cR) gS0 8 2) rfl | 3, _ => hP 70 ((gW D aK aV sz (gAd qx qm qs ms) cI cC cR).2.1 8 3, gcell (gW D aK aV sz (gAd qx qm qs ms) cI cC cR) gS0 8 3) rfl | 4, _ => hP 72 ((gW D aK aV sz (gAd qx qm qs ms) cI cC cR).2.1 8 4, gcell (gW D aK aV sz (gAd qx qm qs ms) cI cC cR) gS0 8 4) rfl | 5, _ => hP 74 ((gW D aK aV sz (gAd qx qm qs ms) cI cC cR).2.1 8 5, gcell (gW D aK aV sz (gAd qx qm qs ms) cI cC cR) gS0 8 5) rfl | i + 6, h => absurd h (by omega)
theorem hk_9 (hP : va_P D vwCl (gBig cI cC cR qx qm qs ms) H) : ∀ i, i < 6 → va_at D vwCl ((gW D aK aV sz (gAd qx qm qs ms) cI cC cR).2.1 9 i, gcell (gW D aK aV sz (gAd qx qm qs ms) cI cC cR) gS0 9 i) H := fun i hi => match i, hi with | 0, _ => hP 9 ((gW D aK aV sz (gAd qx qm qs ms) cI cC cR).2.1 9 0, gcell (gW D aK aV sz (gAd qx qm qs ms) cI cC cR) gS0 9 0) rfl | 1, _ => hP 11 ((gW D aK aV sz (gAd qx qm qs ms) cI cC cR).2.1 9 1, gcell (gW D aK aV sz (gAd qx qm qs ms) cI cC cR) gS0 9 1) rfl | 2, _ => hP 13 ((gW D aK aV sz (gAd qx qm qs ms) cI cC cR).2.1 9 2, gcell (gW D aK aV sz (gAd qx qm qs ms) cI cC cR) gS0 9 2) rfl | 3, _ => hP 71 ((gW D aK aV sz (gAd qx qm qs ms) cI cC cR).2.1 9 3, gcell (gW D aK aV sz (gAd qx qm qs ms) cI cC cR) gS0 9 3) rfl | 4, _ => hP 73 ((gW D aK aV sz (gAd qx qm qs ms) cI cC cR).2.1 9 4, gcell (gW D aK aV sz (gAd qx qm qs ms) cI cC cR) gS0 9 4) rfl | 5, _ => hP 75 ((gW D aK aV sz (gAd qx qm qs ms) cI cC cR).2.1 9 5, gcell (gW D aK aV sz (gAd qx qm qs ms) cI cC cR) gS0 9 5) rfl | i + 6, h => absurd h (by omega)
theorem hk_10 (hP : va_P D vwCl (gBig cI cC cR qx qm qs ms) H) : ∀ i, i < 20 → va_at D vwCl ((gW D aK aV sz (gAd qx qm qs ms) cI cC cR).2.1 10 i, gcell (gW D aK aV sz (gAd qx qm qs ms) cI cC cR) gS0 10 i) H := fun i hi => match i, hi with | 0, _ => hP 14 ((gW D aK aV sz (gAd qx qm qs ms) cI cC cR).2.1 10 0, gcell (gW D aK aV sz (gAd qx qm qs ms) cI cC cR) gS0 10 0) rfl | 1, _ => hP 19 ((gW D aK aV sz (gAd qx qm qs ms) cI cC cR).2.1 10 1, gcell (gW D aK aV sz (gAd qx qm qs ms) cI cC cR) gS0 10 1) rfl | 2, _ => hP 24 ((gW D aK aV sz (gAd qx qm qs ms) cI cC cR).2.1 10 2, gcell (gW D aK aV sz (gAd qx qm qs ms) cI cC cR) gS0 10 2) rfl | 3, _ => hP 29 ((gW D aK aV sz (gAd qx qm qs ms) cI cC cR).2.1 10 3, gcell (gW D aK aV sz (gAd qx qm qs ms) cI cC cR) gS0 10 3) rfl | 4, _ => hP 34 ((gW D aK aV sz (gAd qx qm qs ms) cI cC cR).2.1 10 4, gcell (gW D aK aV sz (gAd qx qm qs ms) cI cC cR) gS0 10 4) rfl | 5, _ => hP 39 ((gW D aK aV sz (gAd qx qm qs ms) cI cC cR).2.1 10 5, gcell (gW D aK aV sz (gAd qx qm qs ms) cI cC cR) gS0 10 5) rfl | 6, _ => hP 44 ((gW D aK aV sz (gAd qx qm qs ms) cI cC cR).2.1 10 6, gcell (gW D aK aV sz (gAd qx qm qs ms) cI cC cR) gS0 10 6) rfl | 7, _ => hP 49 ((gW D aK aV sz (gAd qx qm qs ms) cI cC cR).2.1 10 7, gcell (gW D aK aV sz (gAd qx qm qs ms) cI cC cR) gS0 10 7) rfl | 8, _ => hP 54 ((gW D aK aV sz (gAd qx qm qs ms) cI cC cR).2.1 10 8, gcell (gW D aK aV sz (gAd qx qm qs ms) cI cC cR) gS0 10 8) rfl | 9, _ => hP 59 ((gW D aK aV sz (gAd qx qm qs ms) cI cC cR).2.1 10 9, gcell (gW D aK aV sz (gAd qx qm qs ms) cI cC cR) gS0 10 9) rfl | 10, _ => hP 76 ((gW D aK aV sz (gAd qx qm qs ms) cI cC cR).2.1 10 10, gcell (gW D aK aV sz (gAd qx qm qs ms) cI cC cR) gS0 10 10) rfl | 11, _ => hP 81 ((gW D aK aV sz (gAd qx qm qs ms) cI cC cR).2.1 10 11, gcell (gW D aK aV sz (gAd qx qm qs ms) cI cC cR) gS0 10 11) rfl | 12, _ => hP 86 ((gW D aK aV sz (gAd qx qm qs ms) cI cC cR).2.1 10 12, gcell (gW D aK aV sz (gAd qx qm qs ms) cI cC cR) gS0 10 12) rfl | 13, _ => hP 91 ((gW D aK aV sz (gAd qx qm qs ms) cI cC cR).2.1 10 13, gcell (gW D aK aV sz (gAd qx qm qs ms) cI cC cR) gS0 10 13) rfl | 14, _ => hP 96 ((gW D aK aV sz (gAd qx qm qs ms) cI cC cR).2.1 10 14, gcell (gW D aK aV sz (gAd qx qm qs ms) cI cC cR) gS0 10 14) rfl | 15, _ => hP 101 ((gW D aK aV sz (gAd qx qm qs ms) cI cC cR).2.1 10 15, gcell (gW D aK aV sz (gAd qx qm qs ms) cI cC cR) gS0 10 15) rfl | 16, _ => hP 106 ((gW D aK aV sz (gAd qx qm qs ms) cI cC cR).2.1 10 16, gcell (gW D aK aV sz (gAd qx qm qs ms) cI cC cR) gS0 10 16) rfl | 17, _ => hP 111 ((gW D aK aV sz (gAd qx qm qs ms) cI cC cR).2.1 10 17, gcell (gW D aK aV sz (gAd qx qm qs ms) cI cC cR) gS0 10 17) rfl | 18, _ => hP 116 ((gW D aK aV sz (gAd qx qm qs ms) cI cC cR).2.1 10 18, gcell (gW D aK aV sz (gAd qx qm qs ms) cI cC cR) gS0 10 18) rfl | 19, _ => hP 121 ((gW D aK aV sz (gAd qx qm qs ms) cI cC cR).2.1 10 19, gcell (gW D aK aV sz (gAd qx qm qs ms) cI cC cR) gS0 10 19) rfl | i + 20, h => absurd h (by omega)
theorem hk_11 (hP : va_P D vwCl (gBig cI cC cR qx qm qs ms) H) : ∀ i, i < 20 → va_at D vwCl ((gW D aK aV sz (gAd qx qm qs ms) cI cC cR).2.1 11 i, gcell (gW D aK aV sz (gAd qx qm qs ms) cI cC cR) gS0 11 i) H := fun i hi => match i, hi with | 0, _ => hP 15 ((gW D aK aV sz (gAd qx qm qs ms) cI cC cR).2.1 11 0, gcell (gW D aK aV sz (gAd qx qm qs ms) cI cC cR) gS0 11 0) rfl | 1, _ => hP 20 ((gW D aK aV sz (gAd qx qm qs ms) cI cC cR).2.1 11 1, gcell (gW D aK aV sz (gAd qx qm qs ms) cI cC cR) gS0 11 1) rfl | 2, _ => hP 25 ((gW D aK aV sz (gAd qx qm qs ms) cI cC cR).2.1 11 2, gcell (gW D aK aV sz (gAd qx qm qs ms) cI cC cR) gS0 11 2) rfl | 3, _ => hP 30 ((gW D aK aV sz (gAd qx qm qs ms) cI cC cR).2.1 11 3, gcell (gW D aK aV sz (gAd qx qm qs ms) cI cC cR) gS0 11 3) rfl | 4, _ => hP 35 ((gW D aK aV sz (gAd qx qm qs ms) cI cC cR).2.1 11 4, gcell (gW D aK aV sz (gAd qx qm qs ms) cI cC cR) gS0 11 4) rfl | 5, _ => hP 40 ((gW D aK aV sz (gAd qx qm qs ms) cI cC cR).2.1 11 5, gcell (gW D aK aV sz (gAd qx qm qs ms) cI cC cR) gS0 11 5) rfl | 6, _ => hP 45 ((gW D aK aV sz (gAd qx qm qs ms) cI cC cR).2.1 11 6, gcell (gW D aK aV sz (gAd qx qm qs ms) cI cC cR) gS0 11 6) rfl | 7, _ => hP 50 ((gW D aK aV sz (gAd qx qm qs ms) cI cC cR).2.1 11 7, gcell (gW D aK aV sz (gAd qx qm qs ms) cI cC cR) gS0 11 7) rfl | 8, _ => hP 55 ((gW D aK aV sz (gAd qx qm qs ms) cI cC cR).2.1 11 8, gcell (gW D aK aV sz (gAd qx qm qs ms) cI cC cR) gS0 11 8) rfl | 9, _ => hP 60 ((gW D aK aV sz (gAd qx qm qs ms) cI cC cR).2.1 11 9, gcell (gW D aK aV sz (gAd qx qm qs ms) cI cC cR) gS0 11 9) rfl | 10, _ => hP 77 ((gW D aK aV sz (gAd qx qm qs ms) cI cC cR).2.1 11 10, gcell (gW D aK aV sz (gAd qx qm qs ms) cI cC cR) gS0 11 10) rfl | 11, _ => hP 82 ((gW D aK aV sz (gAd qx qm qs ms) cI cC cR).2.1 11 11, gcell (gW D aK aV sz (gAd qx qm qs ms) cI cC cR) gS0 11 11) rfl | 12, _ => hP 87 ((gW D aK aV sz (gAd qx qm qs ms) cI cC cR).2.1 11 12, gcell (gW D aK aV sz (gAd qx qm qs ms) cI cC cR) gS0 11 12) rfl | 13, _ => hP 92 ((gW D aK aV sz (gAd qx qm qs ms) cI cC cR).2.1 11 13, gcell (gW D aK aV sz (gAd qx qm qs ms) cI cC cR) gS0 11 13) rfl | 14, _ => hP 97 ((gW D aK aV sz (gAd qx qm qs ms) cI cC cR).2.1 11 14, gcell (gW D aK aV sz (gAd qx qm qs ms) cI cC cR) gS0 11 14) rfl | 15, _ => hP 102 ((gW D aK aV sz (gAd qx qm qs ms) cI cC cR).2.1 11 15, gcell (gW D aK aV sz (gAd qx qm qs ms) cI cC cR) gS0 11 15) rfl | 16, _ => hP 107 ((gW D aK aV sz (gAd qx qm qs ms) cI cC cR).2.1 11 16, gcell (gW D aK aV sz (gAd qx qm qs ms) cI cC cR) gS0 11 16) rfl | 17, _ => hP 112 ((gW D aK aV sz (gAd qx qm qs ms) cI cC cR).2.1 11 17, gcell (gW D aK aV sz (gAd qx qm qs ms) cI cC cR) gS0 11 17) rfl | 18, _ => hP 117 ((gW D aK aV sz (gAd qx qm qs ms) cI cC cR).2.1 11 18, gcell (gW D aK aV sz (gAd qx qm qs ms) cI cC cR) gS0 11 18) rfl | 19, _ => hP 122 ((gW D aK aV sz (gAd qx qm qs ms) cI cC cR).2.1 11 19, gcell (gW D aK aV sz (gAd qx qm qs ms) cI cC cR) gS0 11 19) rfl | i + 20, h => absurd h (by omega)
theorem hk_12 (hP : va_P D vwCl (gBig cI cC cR qx qm qs ms) H) : ∀ i, i < 20 → va_at D vwCl ((gW D aK aV sz (gAd qx qm qs ms) cI cC cR).2.1 12 i, gcell (gW D aK aV sz (gAd qx qm qs ms) cI cC cR) gS0 12 i) H := fun i hi => match i, hi with | 0, _ => hP 16 ((gW D aK aV sz (gAd qx qm qs ms) cI cC cR).2.1 12 0, gcell (gW D aK aV sz (gAd qx qm qs ms) cI cC cR) gS0 12 0) rfl | 1, _ => hP 21 ((gW D aK aV sz (gAd qx qm qs ms) cI cC cR).2.1 12 1, gcell (gW D aK aV sz (gAd qx qm qs ms) cI cC cR) gS0 12 1) rfl | 2, _ => hP 26 ((gW D aK aV sz (gAd qx qm qs ms) cI cC cR).2.1 12 2, gcell (gW D aK aV sz (gAd qx qm qs ms) cI cC cR) gS0 12 2) rfl | 3, _ => hP 31 ((gW D aK aV sz (gAd qx qm qs ms) cI cC cR).2.1 12 3, gcell (gW D aK aV sz (gAd qx qm qs ms) cI cC cR) gS0 12 3) rfl | 4, _ => hP 36 ((gW D aK aV sz (gAd qx qm qs ms) cI cC cR).2.1 12 4, gcell (gW D aK aV sz (gAd qx qm qs ms) cI cC cR) gS0 12 4) rfl | 5, _ => hP 41 ((gW D aK aV sz (gAd qx qm qs ms) cI cC cR).2.1 12 5, gcell (gW D aK aV sz (gAd qx qm qs ms) cI cC cR) gS0 12 5) rfl | 6, _ => hP 46 ((gW D aK aV sz (gAd qx qm qs ms) cI cC cR).2.1 12 6, gcell (gW D aK aV sz (gAd qx qm qs ms) cI cC cR) gS0 12 6) rfl | 7, _ => hP 51 ((gW D aK aV sz (gAd qx qm qs ms) cI cC cR).2.1 12 7, gcell (gW D aK aV sz (gAd qx qm qs ms) cI cC cR) gS0 12 7) rfl | 8, _ => hP 56 ((gW D aK aV sz (gAd qx qm qs ms) cI cC cR).2.1 12 8, gcell (gW D aK aV sz (gAd qx qm qs ms) cI cC cR) gS0 12 8) rfl | 9, _ => hP 61 ((gW D aK aV sz (gAd qx qm qs ms) cI cC cR).2.1 12 9, gcell (gW D aK aV sz (gAd qx qm qs ms) cI cC cR) gS0 12 9) rfl | 10, _ => hP 78 ((gW D aK aV sz (gAd qx qm qs ms) cI cC cR).2.1 12 10, gcell (gW D aK aV sz (gAd qx qm qs ms) cI cC cR) gS0 12 10) rfl | 11, _ => hP 83 ((gW D aK aV sz (gAd qx qm qs ms) cI cC cR).2.1 12 11, gcell (gW D aK aV sz (gAd qx qm qs ms) cI cC cR) gS0 12 11) rfl | 12, _ => hP 88 ((gW D aK aV sz (gAd qx qm qs ms) cI cC cR).2.1 12 12, gcell (gW D aK aV sz (gAd qx qm qs ms) cI cC cR) gS0 12 12) rfl | 13, _ => hP 93 ((gW D aK aV sz (gAd qx qm qs ms) cI cC cR).2.1 12 13, gcell (gW D aK aV sz (gAd qx qm qs ms) cI cC cR) gS0 12 13) rfl | 14, _ => hP 98 ((gW D aK aV sz (gAd qx qm qs ms) cI cC cR).2.1 12 14, gcell (gW D aK aV sz (gAd qx qm qs ms) cI cC cR) gS0 12 14) rfl | 15, _ => hP 103 ((gW D aK aV sz (gAd qx qm qs ms) cI cC cR).2.1 12 15, gcell (gW D aK aV sz (gAd qx qm qs ms) cI cC cR) gS0 12 15) rfl | 16, _ => hP 108 ((gW D aK aV sz (gAd qx qm qs ms) cI cC cR).2.1 12 16, gcell (gW D aK aV sz (gAd qx qm qs ms) cI cC cR) gS0 12 16) rfl | 17, _ => hP 113 ((gW D aK aV sz (gAd qx qm qs ms) cI cC cR).2.1 12 17, gcell (gW D aK aV sz (gAd qx qm qs ms) cI cC cR) gS0 12 17) rfl | 18, _ => hP 118 ((gW D aK aV sz (gAd qx qm qs ms) cI cC cR).2.1 12 18, gcell (gW D aK aV sz (gAd qx qm qs ms) cI cC cR) gS0 12 18) rfl | 19, _ => hP 123 ((gW D aK aV sz (gAd qx qm qs ms) cI cC cR).2.1 12 19, gcell (gW D aK aV sz (gAd qx qm qs ms) cI cC cR) gS0 12 19) rfl | i + 20, h => absurd h (by omega)
theorem hk_13 (hP : va_P D vwCl (gBig cI cC cR qx qm qs ms) H) : ∀ i, i < 20 → va_at D vwCl ((gW D aK aV sz (gAd qx qm qs ms) cI cC cR).2.1 13 i, gcell (gW D aK aV sz (gAd qx qm qs ms) cI cC cR) gS0 13 i) H := fun i hi => match i, hi with | 0, _ => hP 17 ((gW D aK aV sz (gAd qx qm qs ms) cI cC cR).2.1 13 0, gcell (gW D aK aV sz (gAd qx qm qs ms) cI cC cR) gS0 13 0) rfl | 1, _ => hP 22 ((gW D aK aV sz (gAd qx qm qs ms) cI cC cR).2.1 13 1, gcell (gW D aK aV sz (gAd qx qm qs ms) cI cC cR) gS0 13 1) rfl | 2, _ => hP 27 ((gW D aK aV sz (gAd qx qm qs ms) cI cC cR).2.1 13 2, gcell (gW D aK aV sz (gAd qx qm qs ms) cI cC cR) gS0 13 2) rfl | 3, _ => hP 32 ((gW D aK aV sz (gAd qx qm qs ms) cI cC cR).2.1 13 3, gcell (gW D aK aV sz (gAd qx qm qs ms) cI cC cR) gS0 13 3) rfl | 4, _ => hP 37 ((gW D aK aV sz (gAd qx qm qs ms) cI cC cR).2.1 13 4, gcell (gW D aK aV sz (gAd qx qm qs ms) cI cC cR) gS0 13 4) rfl | 5, _ => hP 42 ((gW D aK aV sz (gAd qx qm qs ms) cI cC cR).2.1 13 5, gcell (gW D aK aV sz (gAd qx qm qs ms) cI cC cR) gS0 13 5) rfl | 6, _ => hP 47 ((gW D aK aV sz (gAd qx qm qs ms) cI cC cR).2.1 13 6, gcell (gW D aK aV sz (gAd qx qm qs ms) cI cC cR) gS0 13 6) rfl | 7, _ => hP 52 ((gW D aK aV sz (gAd qx qm qs ms) cI cC cR).2.1 13 7, gcell (gW D aK aV sz (gAd qx qm qs ms) cI cC cR) gS0 13 7) rfl | 8, _ => hP 57 ((gW D aK aV sz (gAd qx qm qs ms) cI cC cR).2.1 13 8, gcell (gW D aK aV sz (gAd qx qm qs ms) cI cC cR) gS0 13 8) rfl | 9, _ => hP 62 ((gW D aK aV sz (gAd qx qm qs ms) cI cC cR).2.1 13 9, gcell (gW D aK aV sz (gAd qx qm qs ms) cI cC cR) gS0 13 9) rfl | 10, _ => hP 79 ((gW D aK aV sz (gAd qx qm qs ms) cI cC cR).2.1 13 10, gcell (gW D aK aV sz (gAd qx qm qs ms) cI cC cR) gS0 13 10) rfl | 11, _ => hP 84 ((gW D aK aV sz (gAd qx qm qs ms) cI cC cR).2.1 13 11, gcell (gW D aK aV sz (gAd qx qm qs ms) cI cC cR) gS0 13 11) rfl | 12, _ => hP 89 ((gW D aK aV sz (gAd qx qm qs ms) cI cC cR).2.1 13 12, gcell (gW D aK aV sz (gAd qx qm qs ms) cI cC cR) gS0 13 12) rfl | 13, _ => hP 94 ((gW D aK aV sz (gAd qx qm qs ms) cI cC cR).2.1 13 13, gcell (gW D aK aV sz (gAd qx qm qs ms) cI cC cR) gS0 13 13) rfl | 14, _ => hP 99 ((gW D aK aV sz (gAd qx qm qs ms) cI cC cR).2.1 13 14, gcell (gW D aK aV sz (gAd qx qm qs ms) cI cC cR) gS0 13 14) rfl | 15, _ => hP 104 ((gW D aK aV sz (gAd qx qm qs ms) cI cC cR).2.1 13 15, gcell (gW D aK aV sz (gAd qx qm qs ms) cI cC cR) gS0 13 15) rfl | 16, _ => hP 109 ((gW D aK aV sz (gAd qx qm qs ms) cI cC cR).2.1 13 16, gcell (gW D aK aV sz (gAd qx qm qs ms) cI cC cR) gS0 13 16) rfl | 17, _ => hP 114 ((gW D aK aV sz (gAd qx qm qs ms) cI cC cR).2.1 13 17, gcell (gW D aK aV sz (gAd qx qm qs ms) cI cC cR) gS0 13 17) rfl | 18, _ => hP 119 ((gW D aK aV sz (gAd qx qm qs ms) cI cC cR).2.1 13 18, gcell (gW D aK aV sz (gAd qx qm qs ms) cI cC cR) gS0 13 18) rfl | 19, _ => hP 124 ((gW D aK aV sz (gAd qx qm qs ms) cI cC cR).2.1 13 19, gcell (gW D aK aV sz (gAd qx qm qs ms) cI cC cR) gS0 13 19) rfl | i + 20, h => absurd h (by omega)
theorem hk_14 (hP : va_P D vwCl (gBig cI cC cR qx qm qs ms) H) : ∀ i, i < 20 → va_at D vwCl ((gW D aK aV sz (gAd qx qm qs ms) cI cC cR).2.1 14 i, gcell (gW D aK aV sz (gAd qx qm qs ms) cI cC cR) gS0 14 i) H := fun i hi => match i, hi with | 0, _ => hP 18 ((gW D aK aV sz (gAd qx qm qs ms) cI cC cR).2.1 14 0, gcell (gW D aK aV sz (gAd qx qm qs ms) cI cC cR) gS0 14 0) rfl | 1, _ => hP 23 ((gW D aK aV sz (gAd qx qm qs ms) cI cC cR).2.1 14 1, gcell (gW D aK aV sz (gAd qx qm qs ms) cI cC cR) gS0 14 1) rfl | 2, _ => hP 28 ((gW D aK aV sz (gAd qx qm qs ms) cI cC cR).2.1 14 2, gcell (gW D aK aV sz (gAd qx qm qs ms) cI cC cR) gS0 14 2) rfl | 3, _ => hP 33 ((gW D aK aV sz (gAd qx qm qs ms) cI cC cR).2.1 14 3, gcell (gW D aK aV sz (gAd qx qm qs ms) cI cC cR) gS0 14 3) rfl | 4, _ => hP 38 ((gW D aK aV sz (gAd qx qm qs ms) cI cC cR).2.1 14 4, gcell (gW D aK aV sz (gAd qx qm qs ms) cI cC cR) gS0 14 4) rfl | 5, _ => hP 43 ((gW D aK aV sz (gAd qx qm qs ms) cI cC cR).2.1 14 5, gcell (gW D aK aV sz (gAd qx qm qs ms) cI cC cR) gS0 14 5) rfl | 6, _ => hP 48 ((gW D aK aV sz (gAd qx qm qs ms) cI cC cR).2.1 14 6, gcell (gW D aK aV sz (gAd qx qm qs ms) cI cC cR) gS0 14 6) rfl | 7, _ => hP 53 ((gW D aK aV sz (gAd qx qm qs ms) cI cC cR).2.1 14 7, gcell (gW D aK aV sz (gAd qx qm qs ms) cI cC cR) gS0 14 7) rfl | 8, _ => hP 58 ((gW D aK aV sz (gAd qx qm qs ms) cI cC cR).2.1 14 8, gcell (gW D aK aV sz (gAd qx qm qs ms) cI cC cR) gS0 14 8) rfl | 9, _ => hP 63 ((gW D aK aV sz (gAd qx qm qs ms) cI cC cR).2.1 14 9, gcell (gW D aK aV sz (gAd qx qm qs ms) cI cC cR) gS0 14 9) rfl | 10, _ => hP 80 ((gW D aK aV sz (gAd qx qm qs ms) cI cC cR).2.1 14 10, gcell (gW D aK aV sz (gAd qx qm qs ms) cI cC cR) gS0 14 10) rfl | 11, _ => hP 85 ((gW D aK aV sz (gAd qx qm qs ms) cI cC cR).2.1 14 11, gcell (gW D aK aV sz (gAd qx qm qs ms) cI cC cR) gS0 14 11) rfl | 12, _ => hP 90 ((gW D aK aV sz (gAd qx qm qs ms) cI cC cR).2.1 14 12, gcell (gW D aK aV sz (gAd qx qm qs ms) cI cC cR) gS0 14 12) rfl | 13, _ => hP 95 ((gW D aK aV sz (gAd qx qm qs ms) cI cC cR).2.1 14 13, gcell (gW D aK aV sz (gAd qx qm qs ms) cI cC cR) gS0 14 13) rfl | 14, _ => hP 100 ((gW D aK aV sz (gAd qx qm qs ms) cI cC cR).2.1 14 14, gcell (gW D aK aV sz (gAd qx qm qs ms) cI cC cR) gS0 14 14) rfl | 15, _ => hP 105 ((gW D aK aV sz (gAd qx qm qs ms) cI cC cR).2.1 14 15, gcell (gW D aK aV sz (gAd qx qm qs ms) cI cC cR) gS0 14 15) rfl | 16, _ => hP 110 ((gW D aK aV sz (gAd qx qm qs ms) cI cC cR).2.1 14 16, gcell (gW D aK aV sz (gAd qx qm qs ms) cI cC cR) gS0 14 16) rfl | 17, _ => hP 115 ((gW D aK aV sz (gAd qx qm qs ms) cI cC cR).2.1 14 17, gcell (gW D aK aV sz (gAd qx qm qs ms) cI cC cR) gS0 14 17) rfl | 18, _ => hP 120 ((gW D aK aV sz (gAd qx qm qs ms) cI cC cR).2.1 14 18, gcell (gW D aK aV sz (gAd qx qm qs ms) cI cC cR) gS0 14 18) rfl | 19, _ => hP 125 ((gW D aK aV sz (gAd qx qm qs ms) cI cC cR).2.1 14 19, gcell (gW D aK aV sz (gAd qx qm qs ms) cI cC cR) gS0 14 19) rfl | i + 20, h => absurd h (by omega)
theorem hk_15 (hP : va_P D vwCl (gBig cI cC cR qx qm qs ms) H) : ∀ i, i < 1 → va_at D vwCl ((gW D aK aV sz (gAd qx qm qs ms) cI cC cR).2.1 15 i, gcell (gW D aK aV sz (gAd qx qm qs ms) cI cC cR) gS0 15 i) H := fun i hi => match i, hi with | 0, _ => hP 64 ((gW D aK aV sz (gAd qx qm qs ms) cI cC cR).2.1 15 0, gcell (gW D aK aV sz (gAd qx qm qs ms) cI cC cR) gS0 15 0) rfl | i + 1, h => absurd h (by omega)
theorem hk_16 (hP : va_P D vwCl (gBig cI cC cR qx qm qs ms) H) : ∀ i, i < 1 → va_at D vwCl ((gW D aK aV sz (gAd qx qm qs ms) cI cC cR).2.1 16 i, gcell (gW D aK aV sz (gAd qx qm qs ms) cI cC cR) gS0 16 i) H := fun i hi => match i, hi with | 0, _ => hP 126 ((gW D aK aV sz (gAd qx qm qs ms) cI cC cR).2.1 16 0, gcell (gW D aK aV sz (gAd qx qm qs ms) cI cC cR) gS0 16 0) rfl | i + 1, h => absurd h (by omega)
theorem hk_17 (hP : va_P D vwCl (gBig cI cC cR qx qm qs ms) H) : ∀ i, i < 1 → va_at D vwCl ((gW D aK aV sz (gAd qx qm qs ms) cI cC cR).2.1 17 i, gcell (gW D aK aV sz (gAd qx qm qs ms) cI cC cR) gS0 17 i) H := fun i hi => match i, hi with | 0, _ => hP 127 ((gW D aK aV sz (gAd qx qm qs ms) cI cC cR).2.1 17 0, gcell (gW D aK aV sz (gAd qx qm qs ms) cI cC cR) gS0 17 0) rfl | i + 1, h => absurd h (by omega)
theorem hk_18 (hP : va_P D vwCl (gBig cI cC cR qx qm qs ms) H) : ∀ i, i < 1 → va_at D vwCl ((gW D aK aV sz (gAd qx qm qs ms) cI cC cR).2.1 18 i, gcell (gW D aK aV sz (gAd qx qm qs ms) cI cC cR) gS0 18 i) H := fun i hi => match i, hi with | 0, _ => hP 128 ((gW D aK aV sz (gAd qx qm qs ms) cI cC cR).2.1 18 0, gcell (gW D aK aV sz (gAd qx qm qs ms) cI cC cR) gS0 18 0) rfl | i + 1, h => absurd h (by omega)
theorem hk_19 (hP : va_P D vwCl (gBig cI cC cR qx qm qs ms) H) : ∀ i, i < 1 → va_at D vwCl ((gW D aK aV sz (gAd qx qm qs ms) cI cC cR).2.1 19 i, gcell (gW D aK aV sz (gAd qx qm qs ms) cI cC cR) gS0 19 i) H := fun i hi => match i, hi with | 0, _ => hP 129 ((gW D aK aV sz (gAd qx qm qs ms) cI cC cR).2.1 19 0, gcell (gW D aK aV sz (gAd qx qm qs ms) cI cC cR) gS0 19 0) rfl | i + 1, h => absurd h (by omega)
theorem hk_20 (hP : va_P D vwCl (gBig cI cC cR qx qm qs ms) H) : ∀ i, i < 1 → va_at D vwCl ((gW D aK aV sz (gAd qx qm qs ms) cI cC cR).2.1 20 i, gcell (gW D aK aV sz (gAd qx qm qs ms) cI cC cR) gS0 20 i) H := fun i hi => match i, hi with | 0, _ => hP 130 ((gW D aK aV sz (gAd qx qm qs ms) cI cC cR).2.1 20 0, gcell (gW D aK aV sz (gAd qx qm qs ms) cI cC cR) gS0 20 0) rfl | i + 1, h => absurd h (by omega)
theorem hk_21 (hP : va_P D vwCl (gBig cI cC cR qx qm qs ms) H) : ∀ i, i < 1 → va_at D vwCl ((gW D aK aV sz (gAd qx qm qs ms) cI cC cR).2.1 21 i, gcell (gW D aK aV sz (gAd qx qm qs ms) cI cC cR) gS0 21 i) H := fun i hi => match i, hi with | 0, _ => hP 131 ((gW D aK aV sz (gAd qx qm qs ms) cI cC cR).2.1 21 0, gcell (gW D aK aV sz (gAd qx qm qs ms) cI cC cR) gS0 21 0) rfl | i + 1, h => absurd h (by omega)
theorem hk_22 (hP : va_P D vwCl (gBig cI cC cR qx qm qs ms) H) : ∀ i, i < 1 → va_at D vwCl ((gW D aK aV sz (gAd qx qm qs ms) cI cC cR).2.1 22 i, gcell (gW D aK aV sz (gAd qx qm qs ms) cI cC cR) gS0 22 i) H := fun i hi => match i, hi with | 0, _ => hP 132 ((gW D aK aV sz (gAd qx qm qs ms) cI cC cR).2.1 22 0, gcell (gW D aK aV sz (gAd qx qm qs ms) cI cC cR) gS0 22 0) rfl | i + 1, h => absurd h (by omega)
theorem hk_23 (hP : va_P D vwCl (gBig cI cC cR qx qm qs ms) H) : ∀ i, i < 1 → va_at D vwCl ((gW D aK aV sz (gAd qx qm qs ms) cI cC cR).2.1 23 i, gcell (gW D aK aV sz (gAd qx qm qs ms) cI cC cR) gS0 23 i) H := fun i hi => match i, hi with | 0, _ => hP 133 ((gW D aK aV sz (gAd qx qm qs ms) cI cC cR).2.1 23 0, gcell (gW D aK aV sz (gAd qx qm qs ms) cI cC cR) gS0 23 0) rfl | i + 1, h => absurd h (by omega)
theorem hk_24 (hP : va_P D vwCl (gBig cI cC cR qx qm qs ms) H) : ∀ i, i < 1 → va_at D vwCl ((gW D aK aV sz (gAd qx qm qs ms) cI cC cR).2.1 24 i, gcell (gW D aK aV sz (gAd qx qm qs ms) cI cC cR) gS0 24 i) H := fun i hi => match i, hi with | 0, _ => hP 134 ((gW D aK aV sz (gAd qx qm qs ms) cI cC cR).2.1 24 0, gcell (gW D aK aV sz (gAd qx qm qs ms) cI cC cR) gS0 24 0) rfl | i + 1, h => absurd h (by omega)
theorem hk_25 (hP : va_P D vwCl (gBig cI cC cR qx qm qs ms) H) : ∀ i, i < 1 → va_at D vwCl ((gW D aK aV sz (gAd qx qm qs ms) cI cC cR).2.1 25 i, gcell (gW D aK aV sz (gAd qx qm qs ms) cI cC cR) gS0 25 i) H := fun i hi => match i, hi with | 0, _ => hP 135 ((gW D aK aV sz (gAd qx qm qs ms) cI cC cR).2.1 25 0, gcell (gW D aK aV sz (gAd qx qm qs ms) cI cC cR) gS0 25 0) rfl | i + 1, h => absurd h (by omega)
theorem hk_26 (hP : va_P D vwCl (gBig cI cC cR qx qm qs ms) H) : ∀ i, i < 1 → va_at D vwCl ((gW D aK aV sz (gAd qx qm qs ms) cI cC cR).2.1 26 i, gcell (gW D aK aV sz (gAd qx qm qs ms) cI cC cR) gS0 26 i) H := fun i hi => match i, hi with | 0, _ => hP 136 ((gW D aK aV sz (gAd qx qm qs ms) cI cC cR).2.1 26 0, gcell (gW D aK aV sz (gAd qx qm qs ms) cI cC cR) gS0 26 0) rfl | i + 1, h => absurd h (by omega)
theorem hk_27 (hP : va_P D vwCl (gBig cI cC cR qx qm qs ms) H) : ∀ i, i < 1 → va_at D vwCl ((gW D aK aV sz (gAd qx qm qs ms) cI cC cR).2.1 27 i, gcell (gW D aK aV sz (gAd qx qm qs ms) cI cC cR) gS0 27 i) H := fun i hi => match i, hi with | 0, _ => hP 137 ((gW D aK aV sz (gAd qx qm qs ms) cI cC cR).2.1 27 0, gcell (gW D aK aV sz (gAd qx qm qs ms) cI cC cR) gS0 27 0) rfl | i + 1, h => absurd h (by omega)
theorem hk_28 (hP : va_P D vwCl (gBig cI cC cR qx qm qs ms) H) : ∀ i, i < 1 → va_at D vwCl ((gW D aK aV sz (gAd qx qm qs ms) cI cC cR).2.1 28 i, gcell (gW D aK aV sz (gAd qx qm qs ms) cI cC cR) gS0 28 i) H := fun i hi => match i, hi with | 0, _ => hP 138 ((gW D aK aV sz (gAd qx qm qs ms) cI cC cR).2.1 28 0, gcell (gW D aK aV sz (gAd qx qm qs ms) cI cC cR) gS0 28 0) rfl | i + 1, h => absurd h (by omega)
theorem hk_29 (hP : va_P D vwCl (gBig cI cC cR qx qm qs ms) H) : ∀ i, i < 1 → va_at D vwCl ((gW D aK aV sz (gAd qx qm qs ms) cI cC cR).2.1 29 i, gcell (gW D aK aV sz (gAd qx qm qs ms) cI cC cR) gS0 29 i) H := fun i hi => match i, hi with | 0, _ => hP 139 ((gW D aK aV sz (gAd qx qm qs ms) cI cC cR).2.1 29 0, gcell (gW D aK aV sz (gAd qx qm qs ms) cI cC cR) gS0 29 0) rfl | i + 1, h => absurd h (by omega)
theorem hk_30 (hP : va_P D vwCl (gBig cI cC cR qx qm qs ms) H) : ∀ i, i < 1 → va_at D vwCl ((gW D aK aV sz (gAd qx qm qs ms) cI cC cR).2.1 30 i, gcell (gW D aK aV sz (gAd qx qm qs ms) cI cC cR) gS0 30 i) H := fun i hi => match i, hi with | 0, _ => hP 140 ((gW D aK aV sz (gAd qx qm qs ms) cI cC cR).2.1 30 0, gcell (gW D aK aV sz (gAd qx qm qs ms) cI cC cR) gS0 30 0) rfl | i + 1, h => absurd h (by omega)
theorem hk_31 (hP : va_P D vwCl (gBig cI cC cR qx qm qs ms) H) : ∀ i, i < 1 → va_at D vwCl ((gW D aK aV sz (gAd qx qm qs ms) cI cC cR).2.1 31 i, gcell (gW D aK aV sz (gAd qx qm qs ms) cI cC cR) gS0 31 i) H := fun i hi => match i, hi with | 0, _ => hP 141 ((gW D aK aV sz (gAd qx qm qs ms) cI cC cR).2.1 31 0, gcell (gW D aK aV sz (gAd qx qm qs ms) cI cC cR) gS0 31 0) rfl | i + 1, h => absurd h (by omega)
theorem hk_32 (hP : va_P D vwCl (gBig cI cC cR qx qm qs ms) H) : ∀ i, i < 1 → va_at D vwCl ((gW D aK aV sz (gAd qx qm qs ms) cI cC cR).2.1 32 i, gcell (gW D aK aV sz (gAd qx qm qs ms) cI cC cR) gS0 32 i) H := fun i hi => match i, hi with | 0, _ => hP 142 ((gW D aK aV sz (gAd qx qm qs ms) cI cC cR).2.1 32 0, gcell (gW D aK aV sz (gAd qx qm qs ms) cI cC cR) gS0 32 0) rfl | i + 1, h => absurd h (by omega)
theorem hk_33 (hP : va_P D vwCl (gBig cI cC cR qx qm qs ms) H) : ∀ i, i < 1 → va_at D vwCl ((gW D aK aV sz (gAd qx qm qs ms) cI cC cR).2.1 33 i, gcell (gW D aK aV sz (gAd qx qm qs ms) cI cC cR) gS0 33 i) H := fun i hi => match i, hi with | 0, _ => hP 143 ((gW D aK aV sz (gAd qx qm qs ms) cI cC cR).2.1 33 0, gcell (gW D aK aV sz (gAd qx qm qs ms) cI cC cR) gS0 33 0) rfl | i + 1, h => absurd h (by omega)
theorem hk_34 (hP : va_P D vwCl (gBig cI cC cR qx qm qs ms) H) : ∀ i, i < 1 → va_at D vwCl ((gW D aK aV sz (gAd qx qm qs ms) cI cC cR).2.1 34 i, gcell (gW D aK aV sz (gAd qx qm qs ms) cI cC cR) gS0 34 i) H := fun i hi => match i, hi with | 0, _ => hP 144 ((gW D aK aV sz (gAd qx qm qs ms) cI cC cR).2.1 34 0, gcell (gW D aK aV sz (gAd qx qm qs ms) cI cC cR) gS0 34 0) rfl | i + 1, h => absurd h (by omega)
theorem hk_35 (hP : va_P D vwCl (gBig cI cC cR qx qm qs ms) H) : ∀ i, i < 1 → va_at D vwCl ((gW D aK aV sz (gAd qx qm qs ms) cI cC cR).2.1 35 i, gcell (gW D aK aV sz (gAd qx qm qs ms) cI cC cR) gS0 35 i) H := fun i hi => match i, hi with | 0, _ => hP 145 ((gW D aK aV sz (gAd qx qm qs ms) cI cC cR).2.1 35 0, gcell (gW D aK aV sz (gAd qx qm qs ms) cI cC cR) gS0 35 0) rfl | i + 1, h => absurd h (by omega)
theorem hk_36 (hP : va_P D vwCl (gBig cI cC cR qx qm qs ms) H) : ∀ i, i < 1 → va_at D vwCl ((gW D aK aV sz (gAd qx qm qs ms) cI cC cR).2.1 36 i, gcell (gW D aK aV sz (gAd qx qm qs ms) cI cC cR) gS0 36 i) H := fun i hi => match i, hi with | 0, _ => hP 146 ((gW D aK aV sz (gAd qx qm qs ms) cI cC cR).2.1 36 0, gcell (gW D aK aV sz (gAd qx qm qs ms) cI cC cR) gS0 36 0) rfl | i + 1, h => absurd h (by omega)
theorem hk_37 (hP : va_P D vwCl (gBig cI cC cR qx qm qs ms) H) : ∀ i, i < 1 → va_at D vwCl ((gW D aK aV sz (gAd qx qm qs ms) cI cC cR).2.1 37 i, gcell (gW D aK aV sz (gAd qx qm qs ms) cI cC cR) gS0 37 i) H := fun i hi => match i, hi with | 0, _ => hP 147 ((gW D aK aV sz (gAd qx qm qs ms) cI cC cR).2.1 37 0, gcell (gW D aK aV sz (gAd qx qm qs ms) cI cC cR) gS0 37 0) rfl | i + 1, h => absurd h (by omega)
theorem hk_38 (hP : va_P D vwCl (gBig cI cC cR qx qm qs ms) H) : ∀ i, i < 1 → va_at D vwCl ((gW D aK aV sz (gAd qx qm qs ms) cI cC cR).2.1 38 i, gcell (gW D aK aV sz (gAd qx qm qs ms) cI cC cR) gS0 38 i) H := fun i hi => match i, hi with | 0, _ => hP 148 ((gW D aK aV sz (gAd qx qm qs ms) cI cC cR).2.1 38 0, gcell (gW D aK aV sz (gAd qx qm qs ms) cI cC cR) gS0 38 0) rfl | i + 1, h => absurd h (by omega)
theorem hk_39 (hP : va_P D vwCl (gBig cI cC cR qx qm qs ms) H) : ∀ i, i < 1 → va_at D vwCl ((gW D aK aV sz (gAd qx qm qs ms) cI cC cR).2.1 39 i, gcell (gW D aK aV sz (gAd qx qm qs ms) cI cC cR) gS0 39 i) H := fun i hi => match i, hi with | 0, _ => hP 149 ((gW D aK aV sz (gAd qx qm qs ms) cI cC cR).2.1 39 0, gcell (gW D aK aV sz (gAd qx qm qs ms) cI cC cR) gS0 39 0) rfl | i + 1, h => absurd h (by omega)
theorem hk_40 (hP : va_P D vwCl (gBig cI cC cR qx qm qs ms) H) : ∀ i, i < 1 → va_at D vwCl ((gW D aK aV sz (gAd qx qm qs ms) cI cC cR).2.1 40 i, gcell (gW D aK aV sz (gAd qx qm qs ms) cI cC cR) gS0 40 i) H := fun i hi => match i, hi with | 0, _ => hP 150 ((gW D aK aV sz (gAd qx qm qs ms) cI cC cR).2.1 40 0, gcell (gW D aK aV sz (gAd qx qm qs ms) cI cC cR) gS0 40 0) rfl | i + 1, h => absurd h (by omega)
theorem hold0 (hP : va_P D vwCl (gBig cI cC cR qx qm qs ms) H) : Hold (gW D aK aV sz (gAd qx qm qs ms) cI cC cR) 0 41 gS0 H := by
  intro j q hj
  rw [gws, List.getElem?_map] at hj
  cases hx : (gids 0 41)[j]? with
  | none => rw [hx] at hj; cases hj
  | some x =>
    obtain ⟨k, i⟩ := x
    rw [hx] at hj
    cases hj
    have hok : gok 0 41 k i := gids_mem.mp (List.mem_of_getElem? hx)
    obtain ⟨-, h1, h2⟩ := hok
    match k, h1, h2 with
    | 0, _, h2 => exact hk_0 hP i h2
    | 1, _, h2 => exact hk_1 hP i h2
    | 2, _, h2 => exact hk_2 hP i h2
    | 3, _, h2 => exact hk_3 hP i h2
    | 4, _, h2 => exact hk_4 hP i h2
    | 5, _, h2 => exact hk_5 hP i h2
    | 6, _, h2 => exact hk_6 hP i h2
    | 7, _, h2 => exact hk_7 hP i h2
    | 8, _, h2 => exact hk_8 hP i h2
    | 9, _, h2 => exact hk_9 hP i h2
    | 10, _, h2 => exact hk_10 hP i h2
    | 11, _, h2 => exact hk_11 hP i h2
    | 12, _, h2 => exact hk_12 hP i h2
    | 13, _, h2 => exact hk_13 hP i h2
    | 14, _, h2 => exact hk_14 hP i h2
    | 15, _, h2 => exact hk_15 hP i h2
    | 16, _, h2 => exact hk_16 hP i h2
    | 17, _, h2 => exact hk_17 hP i h2
    | 18, _, h2 => exact hk_18 hP i h2
    | 19, _, h2 => exact hk_19 hP i h2
    | 20, _, h2 => exact hk_20 hP i h2
    | 21, _, h2 => exact hk_21 hP i h2
    | 22, _, h2 => exact hk_22 hP i h2
    | 23, _, h2 => exact hk_23 hP i h2
    | 24, _, h2 => exact hk_24 hP i h2
    | 25, _, h2 => exact hk_25 hP i h2
    | 26, _, h2 => exact hk_26 hP i h2
    | 27, _, h2 => exact hk_27 hP i h2
    | 28, _, h2 => exact hk_28 hP i h2
    | 29, _, h2 => exact hk_29 hP i h2
    | 30, _, h2 => exact hk_30 hP i h2
    | 31, _, h2 => exact hk_31 hP i h2
    | 32, _, h2 => exact hk_32 hP i h2
    | 33, _, h2 => exact hk_33 hP i h2
    | 34, _, h2 => exact hk_34 hP i h2
    | 35, _, h2 => exact hk_35 hP i h2
    | 36, _, h2 => exact hk_36 hP i h2
    | 37, _, h2 => exact hk_37 hP i h2
    | 38, _, h2 => exact hk_38 hP i h2
    | 39, _, h2 => exact hk_39 hP i h2
    | 40, _, h2 => exact hk_40 hP i h2
    | k + 41, h1, _ => exact absurd h1 (by omega)
theorem ad0 : ∀ x ∈ gids 0 41, ∃ e : va_E, (gBig cI cC cR qx qm qs ms)[gPos x.1 x.2]? = some (gAd qx qm qs ms x.1 x.2, e) := by
  have key : ∀ k, k < 151 → ∃ e : va_E, (gBig cI cC cR qx qm qs ms)[k]? = some ((if k = 0 then qx else if k < 138 then qs.getD (k - 1) 0 else if k = 138 then qm else ms.getD (k - 139) 0), e) := by
    intro k hk
    match k, hk with
    | 0, _ => exact ⟨_, rfl⟩
    | 1, _ => exact ⟨_, rfl⟩
    | 2, _ => exact ⟨_, rfl⟩
    | 3, _ => exact ⟨_, rfl⟩
    | 4, _ => exact ⟨_, rfl⟩
    | 5, _ => exact ⟨_, rfl⟩
    | 6, _ => exact ⟨_, rfl⟩
    | 7, _ => exact ⟨_, rfl⟩
    | 8, _ => exact ⟨_, rfl⟩
    | 9, _ => exact ⟨_, rfl⟩
    | 10, _ => exact ⟨_, rfl⟩
    | 11, _ => exact ⟨_, rfl⟩
    | 12, _ => exact ⟨_, rfl⟩
    | 13, _ => exact ⟨_, rfl⟩
    | 14, _ => exact ⟨_, rfl⟩
    | 15, _ => exact ⟨_, rfl⟩
    | 16, _ => exact ⟨_, rfl⟩
    | 17, _ => exact ⟨_, rfl⟩
    | 18, _ => exact ⟨_, rfl⟩
    | 19, _ => exact ⟨_, rfl⟩
    | 20, _ => exact ⟨_, rfl⟩
    | 21, _ => exact ⟨_, rfl⟩
    | 22, _ => exact ⟨_, rfl⟩
    | 23, _ => exact ⟨_, rfl⟩
    | 24, _ => exact ⟨_, rfl⟩
    | 25, _ => exact ⟨_, rfl⟩
    | 26, _ => exact ⟨_, rfl⟩
    | 27, _ => exact ⟨_, rfl⟩
    | 28, _ => exact ⟨_, rfl⟩
    | 29, _ => exact ⟨_, rfl⟩
    | 30, _ => exact ⟨_, rfl⟩
    | 31, _ => exact ⟨_, rfl⟩
    | 32, _ => exact ⟨_, rfl⟩
    | 33, _ => exact ⟨_, rfl⟩
    | 34, _ => exact ⟨_, rfl⟩
    | 35, _ => exact ⟨_, rfl⟩
    | 36, _ => exact ⟨_, rfl⟩
    | 37, _ => exact ⟨_, rfl⟩
    | 38, _ => exact ⟨_, rfl⟩
    | 39, _ => exact ⟨_, rfl⟩
    | 40, _ => exact ⟨_, rfl⟩
    | 41, _ => exact ⟨_, rfl⟩
    | 42, _ => exact ⟨_, rfl⟩
    | 43, _ => exact ⟨_, rfl⟩
    | 44, _ => exact ⟨_, rfl⟩
    | 45, _ => exact ⟨_, rfl⟩
    | 46, _ => exact ⟨_, rfl⟩
    | 47, _ => exact ⟨_, rfl⟩
    | 48, _ => exact ⟨_, rfl⟩
    | 49, _ => exact ⟨_, rfl⟩
    | 50, _ => exact ⟨_, rfl⟩
    | 51, _ => exact ⟨_, rfl⟩
    | 52, _ => exact ⟨_, rfl⟩
    | 53, _ => exact ⟨_, rfl⟩
    | 54, _ => exact ⟨_, rfl⟩
    | 55, _ => exact ⟨_, rfl⟩
    | 56, _ => exact ⟨_, rfl⟩
    | 57, _ => exact ⟨_, rfl⟩
    | 58, _ => exact ⟨_, rfl⟩
    | 59, _ => exact ⟨_, rfl⟩
    | 60, _ => exact ⟨_, rfl⟩
    | 61, _ => exact ⟨_, rfl⟩
    | 62, _ => exact ⟨_, rfl⟩
    | 63, _ => exact ⟨_, rfl⟩
    | 64, _ => exact ⟨_, rfl⟩
    | 65, _ => exact ⟨_, rfl⟩
    | 66, _ => exact ⟨_, rfl⟩
    | 67, _ => exact ⟨_, rfl⟩
    | 68, _ => exact ⟨_, rfl⟩
    | 69, _ => exact ⟨_, rfl⟩
    | 70, _ => exact ⟨_, rfl⟩
    | 71, _ => exact ⟨_, rfl⟩
    | 72, _ => exact ⟨_, rfl⟩
    | 73, _ => exact ⟨_, rfl⟩
    | 74, _ => exact ⟨_, rfl⟩
    | 75, _ => exact ⟨_, rfl⟩
    | 76, _ => exact ⟨_, rfl⟩
    | 77, _ => exact ⟨_, rfl⟩
    | 78, _ => exact ⟨_, rfl⟩
    | 79, _ => exact ⟨_, rfl⟩
    | 80, _ => exact ⟨_, rfl⟩
    | 81, _ => exact ⟨_, rfl⟩
    | 82, _ => exact ⟨_, rfl⟩
    | 83, _ => exact ⟨_, rfl⟩
    | 84, _ => exact ⟨_, rfl⟩
    | 85, _ => exact ⟨_, rfl⟩
    | 86, _ => exact ⟨_, rfl⟩
    | 87, _ => exact ⟨_, rfl⟩
    | 88, _ => exact ⟨_, rfl⟩
    | 89, _ => exact ⟨_, rfl⟩
    | 90, _ => exact ⟨_, rfl⟩
    | 91, _ => exact ⟨_, rfl⟩
    | 92, _ => exact ⟨_, rfl⟩
    | 93, _ => exact ⟨_, rfl⟩
    | 94, _ => exact ⟨_, rfl⟩
    | 95, _ => exact ⟨_, rfl⟩
    | 96, _ => exact ⟨_, rfl⟩
    | 97, _ => exact ⟨_, rfl⟩
    | 98, _ => exact ⟨_, rfl⟩
    | 99, _ => exact ⟨_, rfl⟩
    | 100, _ => exact ⟨_, rfl⟩
    | 101, _ => exact ⟨_, rfl⟩
    | 102, _ => exact ⟨_, rfl⟩
    | 103, _ => exact ⟨_, rfl⟩
    | 104, _ => exact ⟨_, rfl⟩
    | 105, _ => exact ⟨_, rfl⟩
    | 106, _ => exact ⟨_, rfl⟩
    | 107, _ => exact ⟨_, rfl⟩
    | 108, _ => exact ⟨_, rfl⟩
    | 109, _ => exact ⟨_, rfl⟩
    | 110, _ => exact ⟨_, rfl⟩
    | 111, _ => exact ⟨_, rfl⟩
    | 112, _ => exact ⟨_, rfl⟩
    | 113, _ => exact ⟨_, rfl⟩
    | 114, _ => exact ⟨_, rfl⟩
    | 115, _ => exact ⟨_, rfl⟩
    | 116, _ => exact ⟨_, rfl⟩
    | 117, _ => exact ⟨_, rfl⟩
    | 118, _ => exact ⟨_, rfl⟩
    | 119, _ => exact ⟨_, rfl⟩
    | 120, _ => exact ⟨_, rfl⟩
    | 121, _ => exact ⟨_, rfl⟩
    | 122, _ => exact ⟨_, rfl⟩
    | 123, _ => exact ⟨_, rfl⟩
    | 124, _ => exact ⟨_, rfl⟩
    | 125, _ => exact ⟨_, rfl⟩
    | 126, _ => exact ⟨_, rfl⟩
    | 127, _ => exact ⟨_, rfl⟩
    | 128, _ => exact ⟨_, rfl⟩
    | 129, _ => exact ⟨_, rfl⟩
    | 130, _ => exact ⟨_, rfl⟩
    | 131, _ => exact ⟨_, rfl⟩
    | 132, _ => exact ⟨_, rfl⟩
    | 133, _ => exact ⟨_, rfl⟩
    | 134, _ => exact ⟨_, rfl⟩
    | 135, _ => exact ⟨_, rfl⟩
    | 136, _ => exact ⟨_, rfl⟩
    | 137, _ => exact ⟨_, rfl⟩
    | 138, _ => exact ⟨_, rfl⟩
    | 139, _ => exact ⟨_, rfl⟩
    | 140, _ => exact ⟨_, rfl⟩
    | 141, _ => exact ⟨_, rfl⟩
    | 142, _ => exact ⟨_, rfl⟩
    | 143, _ => exact ⟨_, rfl⟩
    | 144, _ => exact ⟨_, rfl⟩
    | 145, _ => exact ⟨_, rfl⟩
    | 146, _ => exact ⟨_, rfl⟩
    | 147, _ => exact ⟨_, rfl⟩
    | 148, _ => exact ⟨_, rfl⟩
    | 149, _ => exact ⟨_, rfl⟩
    | 150, _ => exact ⟨_, rfl⟩
    | k + 151, h => exact absurd h (by omega)
  intro x hx
  exact key _ (gPos_lt x hx)
theorem inj0 {A : Nat → Prop} (hD : va_D A (gBig cI cC cR qx qm qs ms)) : gInj (gW D aK aV sz (gAd qx qm qs ms) cI cC cR) := by
  intro k i k' i' h h' he
  obtain ⟨e1, h1⟩ := ad0 (cI := cI) (cC := cC) (cR := cR) (qx := qx) (qm := qm) (qs := qs) (ms := ms) (k, i) (gids_mem.mpr h)
  obtain ⟨e2, h2⟩ := ad0 (cI := cI) (cC := cC) (cR := cR) (qx := qx) (qm := qm) (qs := qs) (ms := ms) (k', i') (gids_mem.mpr h')
  have := gPos_inj _ (gids_mem.mpr h) _ (gids_mem.mpr h') (hD.1 _ _ _ _ h1 h2 he)
  cases this
  exact ⟨rfl, rfl⟩
theorem in0 {A : Nat → Prop} (hD : va_D A (gBig cI cC cR qx qm qs ms)) : ∀ q, gA (gW D aK aV sz (gAd qx qm qs ms) cI cC cR) 0 41 q → A q := by
  rintro q ⟨k, i, h, rfl⟩
  obtain ⟨e1, h1⟩ := ad0 (cI := cI) (cC := cC) (cR := cR) (qx := qx) (qm := qm) (qs := qs) (ms := ms) (k, i) (gids_mem.mpr h)
  exact hD.2 _ _ h1
theorem out0 {A : Nat → Prop} {qo : Nat} {eo : va_E} (hD : va_D A (gBig cI cC cR qx qm qs ms ++ [(qo, eo)])) : ¬ gA (gW D aK aV sz (gAd qx qm qs ms) cI cC cR) 0 41 qo := by
  rintro ⟨k, i, h, he⟩
  obtain ⟨e1, h1⟩ := ad0 (cI := cI) (cC := cC) (cR := cR) (qx := qx) (qm := qm) (qs := qs) (ms := ms) (k, i) (gids_mem.mpr h)
  have hlt := (List.getElem?_eq_some_iff.mp h1).1
  have := hD.1 (gBig cI cC cR qx qm qs ms).length (gPos k i) (qo, eo) _ (by rw [List.getElem?_append_right (Nat.le_refl _), Nat.sub_self]; rfl) (by rw [List.getElem?_append_left hlt]; exact h1) he
  exact absurd this (Nat.ne_of_gt hlt)
theorem va_D_left {A : Nat → Prop} {a b : va_W} (h : va_D A (a ++ b)) : va_D A a := ⟨fun i j x y hx hy => h.1 i j x y (by rw [List.getElem?_append_left (List.getElem?_eq_some_iff.mp hx).1]; exact hx) (by rw [List.getElem?_append_left (List.getElem?_eq_some_iff.mp hy).1]; exact hy), fun k q hq => h.2 k q (by rw [List.getElem?_append_left (List.getElem?_eq_some_iff.mp hq).1]; exact hq)⟩
end ST
def ZL (b Ls : Nat) (xs : Nat → Int32) (sz : Nat) (args : Array Value) (s : State) : Prop := args = #[Value.ref b] ∧ va_X b Ls xs s s.heap ∧ b < s.heap.size ∧ s.heap.size = sz ∧ ∃ aK aV : Nat → Nat, EnvS aK aV (fun q => sz ≤ q) s ∧ EnvX (fun q => sz ≤ q) s
abbrev sTys (cI : ClassId) (u : List Nat × ClassId × ClassId × ClassId × ClassId) (cJ : ClassId) : List (ClassId × FieldType) := [(cI, .int), (cI, .int), (u.2.1, .object RX1), (u.2.2.1, .object RX9), (u.2.2.2.1, .object RX1), (u.2.2.2.2, .object RX9), (cJ, .long)]
theorem start_23 {l : Launch} {D : va_G} {mn : String} {Inv : gSt → Prop} {b Ls sz : Nat} {xs : Nat → Int32} {cI cJ : ClassId} {u : List Nat × ClassId × ClassId × ClassId × ClassId} {ms : List Nat} {qx qm qo : Nat} (hOK : LawOK Inv) (h0 : Inv gS0) (htr : l.stackTraces = false) (hLs : Ls ≤ 3072) :
    GC l D RL code 7 mn ret room_1 (fun q => sz ≤ q) (ZL b Ls xs sz) (fun below args s => lw_Z below args s) (sTys cI u cJ) 23 [some (.ref b), some (.ref qx), some (.ref qm), some (.ref qo), some (.int 0), none, none] [] ((po_X11 cI u.2.1 u.2.2.1 u.2.2.2.1 u.2.2.2.2 qx u.1 ++ po_X12 cI qm ms) ++ [(qo, .inl (cJ, 1, .inr (.inl (fun _ => 0))))]) 152 9385 := by
  obtain ⟨qs, cC, cR, cC2, cR2⟩ := u
  intro p e s m args below meth c H locs ls F hl hK hP hD hS
  obtain ⟨ha, hX, hbl, hsz, aK, aV, hE⟩ := F.2.2.2.2.2.2.2.2.2.2
  obtain ⟨kA1, co1, -, -, -, f1⟩ := (hK.2 2 _ rfl).2
  obtain ⟨kA2, co2, -, -, -, f2⟩ := (hK.2 3 _ rfl).2
  obtain ⟨kA3, co3, -, -, -, f3⟩ := (hK.2 4 _ rfl).2
  obtain ⟨kA4, co4, -, -, -, f4⟩ := (hK.2 5 _ rfl).2
  have e1 : cC2 = cC := Option.some.inj (f3.symm.trans f1)
  have e2 : cR2 = cR := Option.some.inj (f4.symm.trans f2)
  subst e1
  subst e2
  subst ha
  subst hsz
  have hPb : va_P D vwCl (gBig cI cC2 cR2 qx qm qs ms) H := va_P_left hP
  have hDb : va_D (fun q => s.heap.size ≤ q) (gBig cI cC2 cR2 qx qm qs ms) := va_D_left hD
  have hH := hold0 (aK := aK) (aV := aV) (sz := s.heap.size) hPb
  have hA := in0 (D := D) (aK := aK) (aV := aV) (sz := s.heap.size) hDb
  have hqo := out0 (D := D) (aK := aK) (aV := aV) (sz := s.heap.size) (cI := cI) (cC := cC2) (cR := cR2) (qx := qx) (qm := qm) (qs := qs) (ms := ms) hD
  have hqA : s.heap.size ≤ qo := hD.2 (gBig cI cC2 cR2 qx qm qs ms).length (qo, _) (by show (gBig cI cC2 cR2 qx qm qs ms ++ _)[_]? = _; rw [List.getElem?_append_right (Nat.le_refl _), Nat.sub_self]; rfl)
  have hO : gOut (gW D aK aV s.heap.size (gAd qx qm qs ms) cI cC2 cR2) cJ qo (fun _ => 0) H := va_P_right hP
  have hLF : LF p s m #[Value.ref b] meth c RL code 7 ret (gW D aK aV s.heap.size (gAd qx qm qs ms) cI cC2 cR2) (fun q => s.heap.size ≤ q) := ⟨F.1, F.2.1, F.2.2.1, F.2.2.2.1, F.2.2.2.2.1, F.2.2.2.2.2.2.1, F.2.2.2.2.2.2.2.1, hK.sub [0, 2, 3] rfl, inj0 hDb, gW_stab hA, fun U locs hS hW => gW_on (A := fun q => s.heap.size ≤ q) (fun _ h => h) s U locs hS hW hE, hA⟩
  have K := law_loop (p := p) (l := l) (e := e) (s := s) (m := m) (below := below) (meth := meth) (c := c) hOK (gW_env hA) (gW_envX hA) htr hqo hqA (fun s' U locs hS hW h => gW_on (A := gAo (gW D aK aV s.heap.size (gAd qx qm qs ms) cI cC2 cR2) qo) (fun q h => h.elim (hA q) (fun h => by rw [h]; exact hqA)) s' U locs hS hW h) (hK.sub (tys' := [(cJ, .long)]) [6] rfl) ⟨hLF, hX, hbl, Nat.not_le.mpr hbl, by omega⟩ hLs 152 9385 (by decide) (by decide) Ls 0 gS0 (fun _ => 0) 152 9385 none none (by omega) (by omega) h0 (by omega) (by omega)
  rw [nc_0] at K
  exact K H locs ls hl hH hO hS
set_option maxRecDepth 20000 in
theorem start_0 {l : Launch} {D : va_G} {mn : String} {Inv : gSt → Prop} {b Ls sz : Nat} {xs : Nat → Int32} {cI : ClassId} (hOK : LawOK Inv) (h0 : Inv gS0) (htr : l.stackTraces = false) (hLs : Ls ≤ 3072) :
    GC l D RL code 7 mn ret room_1 (fun q => sz ≤ q) (ZL b Ls xs sz) (fun below args s => lw_Z below args s) [(cI, .int)] 0 [some (.ref b), none, none, none, none, none, none] [] [] 0 0 := by
  refine c_new (ci := 11) inG_X11 tyX11 tyX11_ok cl_L_8 in_X11 ii_X11 rfl df_X11 (Nat.le_of_ble_eq_true rfl) (Nat.le_of_ble_eq_true rfl) dL_law_0 (fun qx => ?_)
  refine c_dup dL_law_3 rfl ?_
  refine c_callT (As := []) (wr := []) mi_L_15 (ct_X11 qx) 0 rfl [0] [] rfl rfl rfl rfl rfl (by decide) rfl rfl ⟨Nat.le_of_ble_eq_true rfl, Nat.le_of_ble_eq_true rfl⟩ (Nat.le_of_ble_eq_true rfl) ⟨Nat.le_of_ble_eq_true rfl, Nat.le_of_ble_eq_true rfl⟩ dL_law_4 (fun u hu => ?_)
  refine c_astore_n dL_law_7 (Nat.le_of_ble_eq_true rfl) ?_
  refine c_new (ci := 12) inG_X12 tyX12 tyX12_ok cl_L_16 in_X12 ii_X12 rfl df_X12 (Nat.le_of_ble_eq_true rfl) (Nat.le_of_ble_eq_true rfl) dL_law_8 (fun qm => ?_)
  refine c_dup dL_law_11 rfl ?_
  refine c_call (As := []) (wr := po_X11 cI u.2.1 u.2.2.1 u.2.2.2.1 u.2.2.2.2 qx u.1) mi_L_18 (ct_X12 qm) 0 rfl [138] (List.range 138) rfl rfl rfl rfl rfl (by decide) rfl rfl ⟨Nat.le_of_ble_eq_true rfl, Nat.le_of_ble_eq_true rfl⟩ (Nat.le_of_ble_eq_true rfl) ⟨Nat.le_of_ble_eq_true rfl, Nat.le_of_ble_eq_true rfl⟩ dL_law_12 (fun ms hms => ?_)
  refine c_astore_n dL_law_15 (Nat.le_of_ble_eq_true rfl) ?_
  refine c_iconst dL_law_16 kc_1 ?_
  refine c_newl (N := 1) ai_2 (by decide) (by decide) (Nat.le_of_ble_eq_true rfl) (Nat.le_of_ble_eq_true rfl) (Nat.le_of_ble_eq_true rfl) dL_law_17 (fun qo cJ => ?_)
  refine c_astore_n dL_law_19 (Nat.le_of_ble_eq_true rfl) ?_
  refine c_iconst dL_law_20 kc_0 ?_
  refine c_istore dL_law_21 (Nat.le_of_ble_eq_true rfl) ?_
  exact start_23 hOK h0 htr hLs
set_option maxHeartbeats 4000000 in
/-- THE LAW, over any invariant under which the two sides answer alike -/
theorem whole_of {Inv : gSt → Prop} (hOK : LawOK Inv) (h0 : Inv gS0) {p : Program} {e : Env} {s : State} {m : MethodId} {below : List Frame} {meth : Method} {c : Code} (l : Launch) (hflags : l.flags = flags0) {b L : Nat} {xs : Nat → Int32} (hL : L ≤ 3072) (C0 : lw_At p s m meth c b L xs) : W p l e room_1 s m #[Value.ref b] below meth c s.heap [] 0 0 (lw_Z below #[Value.ref b] s) (entryFrame m ([Value.ref b] : List Value).toArray 7) := by
  obtain ⟨hx, hb, hr, hml, hown, hts, hX, hbl, hlocks, hgv⟩ := C0
  have hG : ∀ w ∈ gGood, w.before #[Value.ref b] s = true := fun w hw => hts w (List.mem_filter.mp hw).1
  obtain ⟨c0, iS0, hKn0⟩ := u_known (C := RX0) (T := TX0) (N := 3) (n := 3) hG inG_X0 (hG _ in_X0)
  obtain ⟨c1, iS1, hKn1⟩ := u_known (C := RX1) (T := TX1) (N := 3) (n := 3) hG inG_X1 (hG _ in_X1)
  obtain ⟨c2, iS2, hKn2⟩ := u_known (C := RX2) (T := TX2) (N := 1) (n := 1) hG inG_X2 (hG _ in_X2)
  obtain ⟨c3, iS3, hKn3⟩ := u_known (C := RX3) (T := TX3) (N := 1) (n := 1) hG inG_X3 (hG _ in_X3)
  obtain ⟨c4, iS4, hKn4⟩ := u_known (C := RX4) (T := TX4) (N := 7) (n := 7) hG inG_X4 (hG _ in_X4)
  obtain ⟨c5, iS5, hKn5⟩ := u_known (C := RX5) (T := TX5) (N := 9) (n := 9) hG inG_X5 (hG _ in_X5)
  obtain ⟨c6, iS6, hKn6⟩ := u_known (C := RX6) (T := TX6) (N := 6) (n := 6) hG inG_X6 (hG _ in_X6)
  obtain ⟨c7, iS7, hKn7⟩ := u_known (C := RX7) (T := TX7) (N := 3) (n := 3) hG inG_X7 (hG _ in_X7)
  obtain ⟨c8, iS8, hKn8⟩ := u_known (C := RX8) (T := TX8) (N := 9) (n := 9) hG inG_X8 (hG _ in_X8)
  obtain ⟨c9, iS9, hKn9⟩ := u_known (C := RX9) (T := TX9) (N := 11) (n := 11) hG inG_X9 (hG _ in_X9)
  obtain ⟨c10, iS10, hKn10⟩ := u_known (C := RX10) (T := TX10) (N := 2) (n := 2) hG inG_X10 (hG _ in_X10)
  obtain ⟨c11, iS11, hKn11⟩ := u_known (C := RX11) (T := TX11) (N := 12) (n := 12) hG inG_X11 (hG _ in_X11)
  obtain ⟨c12, iS12, hKn12⟩ := u_known (C := RX12) (T := TX12) (N := 32) (n := 32) hG inG_X12 (hG _ in_X12)
  obtain ⟨dC, dI, hKc⟩ : ∃ (dC : Nat → ClassId) (dI : Nat → Nat → Nat), ∀ (k : Nat) (q : vw_C), vwCl[k]? = some q → u_Kn s q.1 q.2.1 q.2.2 (dC k) (dI k) := by
    refine ⟨fun k => [c0, c1, c2, c3, c4, c5, c6, c7, c8, c9, c10, c11, c12].getD k c0, fun k => [iS0, iS1, iS2, iS3, iS4, iS5, iS6, iS7, iS8, iS9, iS10, iS11, iS12].getD k iS0, ?_⟩
    intro k q hq
    match k, hq with
    | 0, hq => cases hq; exact hKn0
    | 1, hq => cases hq; exact hKn1
    | 2, hq => cases hq; exact hKn2
    | 3, hq => cases hq; exact hKn3
    | 4, hq => cases hq; exact hKn4
    | 5, hq => cases hq; exact hKn5
    | 6, hq => cases hq; exact hKn6
    | 7, hq => cases hq; exact hKn7
    | 8, hq => cases hq; exact hKn8
    | 9, hq => cases hq; exact hKn9
    | 10, hq => cases hq; exact hKn10
    | 11, hq => cases hq; exact hKn11
    | 12, hq => cases hq; exact hKn12
    | k + 13, hq => simp [vwCl] at hq
  obtain ⟨cI, kI, comp, g1, g2, g3⟩ := Cond.arrayClass_spec (type := .int) (hG _ ai_1)
  have hK : va_K (dC, dI) vwCl [(cI, .int)] s := ⟨hKc, fun k q hq => by
    match k, hq with
    | 0, hq => cases hq; exact ⟨fun n z => ⟨fun k h => (by cases h), kI, g2, comp, g3⟩, g1⟩
    | k + 1, hq => simp at hq⟩
  have hE : cE s := ⟨⟨va_AO.of (hts _ (List.mem_of_getElem? (i := 145) (by decide +kernel))), va_AO.of (hts _ (List.mem_of_getElem? (i := 147) (by decide +kernel)))⟩, va_Nw.of rfl (hts _ (List.mem_of_getElem? (i := 125) (by decide +kernel))), va_Nw.of rfl (hts _ (List.mem_of_getElem? (i := 150) (by decide +kernel))), va_Nw.of rfl (hts _ (List.mem_of_getElem? (i := 159) (by decide +kernel))), va_Nw.of rfl (hts _ (List.mem_of_getElem? (i := 179) (by decide +kernel)))⟩
  obtain ⟨aK, aV, hEn⟩ := env0 hgv hts
  have htr : l.stackTraces = false := by
    show l.stackTraces = false
    simp only [Launch.stackTraces, hflags]
    decide +kernel
  rw [lg_entry_eq]
  exact start_0 (D := (dC, dI)) (mn := meth.name) (sz := s.heap.size) (xs := xs) (cI := cI) hOK h0 htr hL p e s m #[Value.ref b] below meth c s.heap [] _ ⟨hx, hb, hml, hown, hG, rfl, hr, hlocks, fun q h => h, hE, rfl, hX, hbl, rfl, aK, aV, hEn⟩ (g_entry rfl (Nat.le_of_ble_eq_true rfl)) hK (fun k q h => by simp at h) ⟨fun i j p q h => by simp at h, fun k q h => by simp at h⟩ va_S.rf
