/-! chase -/
section PQ
variable {d : Nat → Nat} {σ σ' : gSt} {a b c i : Nat}
/-- how long they are together now, the longest, where it began -/
def chs (d : Nat → Nat) (a b : Nat) : Nat → Nat × Nat × Nat
  | 0 => (0, 0, 0)
  | i + 1 => if (if nr d a b i = true then (chs d a b i).1 + 1 else 0) ≤ (chs d a b i).2.1 then (if nr d a b i = true then (chs d a b i).1 + 1 else 0, (chs d a b i).2.1, (chs d a b i).2.2) else (if nr d a b i = true then (chs d a b i).1 + 1 else 0, if nr d a b i = true then (chs d a b i).1 + 1 else 0, i + 1 - (if nr d a b i = true then (chs d a b i).1 + 1 else 0))
theorem chs_b : ∀ i, (chs d a b i).1 ≤ i ∧ (chs d a b i).2.1 ≤ i ∧ (chs d a b i).2.2 + (chs d a b i).2.1 ≤ i := by
  intro i
  induction i with
  | zero => exact ⟨Nat.le_refl _, Nat.le_refl _, Nat.le_refl _⟩
  | succ i ih =>
    obtain ⟨h1, h2, h3⟩ := ih
    rw [chs]
    have hx : (if nr d a b i = true then (chs d a b i).1 + 1 else 0) ≤ i + 1 := by split <;> omega
    generalize (if nr d a b i = true then (chs d a b i).1 + 1 else 0) = x at hx
    by_cases e : x ≤ (chs d a b i).2.1
    · rw [if_pos e]
      refine ⟨hx, ?_, ?_⟩
      · show (chs d a b i).2.1 ≤ i + 1
        omega
      · show (chs d a b i).2.2 + (chs d a b i).2.1 ≤ i + 1
        omega
    · rw [if_neg e]
      refine ⟨hx, hx, ?_⟩
      show i + 1 - x + x ≤ i + 1
      omega
theorem fst0 : ∀ i : Fin 11, nI i.val - nI (i.val + 1) + 1 = nI 0 := by decide
theorem fst_n {x : Nat} (hi : i < 11) (hx : x ≤ i + 1) : nI i - nI x + 1 = nI (i + 1 - x) := by
  by_cases e : x ≤ i
  · rw [nI_sub e, nI_1, show i - x + 1 = i + 1 - x by omega]
  · obtain rfl : x = i + 1 := by omega
    rw [Nat.sub_self]
    exact fst0 ⟨i, hi⟩
theorem X_findChase (h : XR d σ) (hw : WF d) (ha : a < d 1) (hb : b < d 1) (hab : nown d b = nown d a) : Wp (f_X7_findChase (10 + a) (10 + b) σ) (fun τ => Xs σ τ ∧ τ 25 0 2 = nI (chs d a b (nown d a + 1)).2.1 ∧ τ 25 0 1 = nI (chs d a b (nown d a + 1)).2.2) := by
  have ho := hw.own ha
  unfold f_X7_findChase
  refine loop0 (F := fun f (x : Int32) i τ => f_X7_findChase_15 (10 + a) (10 + b) f x (nI i) τ) (N := nown d a + 1) (I := fun i x τ => x = nI (chs d a b i).1 ∧ Xs σ τ ∧ τ 25 0 2 = nI (chs d a b i).2.1 ∧ τ 25 0 1 = nI (chs d a b i).2.2) (by omega)
    (fun f i x τ hi hI kk => ?_) (fun f x τ hI => ?_) (x := 0) (σ := gup (gup σ 25 0 1 0) 25 0 2 0) ⟨rfl, Xs.up (by omega) (Xs.up (by omega) Xs.rf), by simp [gup, chs, nI_0], by simp [gup, chs, nI_0]⟩
  · obtain ⟨rfl, hs, h2, h1⟩ := hI
    have hX := h.of hs
    have hbd := chs_b (d := d) (a := a) (b := b) i
    show Wp (f_X7_findChase_15 (10 + a) (10 + b) (f + 1) (nI (chs d a b i).1) (nI i) τ) _
    rw [f_X7_findChase_15, (hX.2.2.2.2.2 a ha).2.2.2.2.1]
    refine Wp.f (nI_nlt (by omega) (by omega)) ?_
    refine Wp.eq (X_nearAt hX hw ha hb (by omega) (by omega)) ?_
    have tail : Wp (f_X7_findChase_42 (10 + a) (10 + b) (nI i) (fun v3 v4 σ => f_X7_findChase_15 (10 + a) (10 + b) f v3 v4 σ) (nI (if nr d a b i = true then (chs d a b i).1 + 1 else 0)) τ) (fun τ => Xs σ τ ∧ τ 25 0 2 = nI (chs d a b (nown d a + 1)).2.1 ∧ τ 25 0 1 = nI (chs d a b (nown d a + 1)).2.2) := by
      have hx : (if nr d a b i = true then (chs d a b i).1 + 1 else 0) ≤ i + 1 := by split <;> omega
      unfold f_X7_findChase_42
      rw [h2, nI_1 i, fst_n (by omega) hx]
      by_cases e : (if nr d a b i = true then (chs d a b i).1 + 1 else 0) ≤ (chs d a b i).2.1
      · refine Wp.t (nI_le e (by omega)) ?_
        exact kk _ _ ⟨by rw [chs, if_pos e], hs, by rw [chs, if_pos e]; exact h2, by rw [chs, if_pos e]; exact h1⟩
      · refine Wp.f (nI_ge (by omega) (by omega)) ?_
        exact kk _ _ ⟨by rw [chs, if_neg e], Xs.up (by omega) (Xs.up (by omega) hs), by rw [chs, if_neg e]; simp [gup], by rw [chs, if_neg e]; simp [gup]⟩
    by_cases e : nr d a b i = true
    · rw [if_pos e] at tail ⊢
      refine Wp.f o1n0 ?_
      rw [nI_1]
      exact tail
    · rw [if_neg e] at tail ⊢
      refine Wp.t rfl ?_
      exact tail
  · obtain ⟨rfl, hs, h2, h1⟩ := hI
    have hX := h.of hs
    show Wp (f_X7_findChase_15 (10 + a) (10 + b) (f + 1) _ (nI (nown d a + 1)) τ) _
    rw [f_X7_findChase_15, (hX.2.2.2.2.2 a ha).2.2.2.2.1]
    exact Wp.t (nI_lt (by omega) (by omega)) (Wp.ret ⟨hs, h2, h1⟩)
/-- a bit of a set -/
def bt (x : Int32) (i : Nat) : Int32 := (x >>> (nI i &&& 31)) &&& 1
theorem bt_or {x y : Int32} : bt (x ||| y) i = bt x i ||| bt y i := by
  unfold bt
  rw [Int32.shiftRight_or]
  exact Int32.toBitVec_inj.1 BitVec.and_or_distrib_right
theorem bt_1 : ∀ i : Fin 11, ∀ j : Fin 11, bt (1 <<< (nI j.val &&& 31)) i.val = if i.val = j.val then 1 else 0 := by decide
theorem bt_0 : ∀ i : Fin 11, bt 0 i.val = 0 := by decide
theorem nb_bt (hi : i < 11) : ∀ n, n ≤ 11 → bt (nb d a b n) i = if i < n ∧ nr d a b i = true then 1 else 0 := by
  intro n
  induction n with
  | zero => intro _; rw [nb, bt_0 ⟨i, hi⟩, if_neg (by omega)]
  | succ n ih =>
    intro hn
    have h := ih (by omega)
    rw [nb]
    by_cases e : nr d a b n = true
    · rw [if_pos e, bt_or, h, bt_1 ⟨i, hi⟩ ⟨n, by omega⟩]
      by_cases e2 : i = n
      · subst e2
        rw [if_neg (by omega), if_pos rfl, if_pos ⟨by omega, e⟩]
        decide
      · rw [if_neg (show ¬ i = n from e2), or0]
        by_cases e3 : i < n ∧ nr d a b i = true
        · rw [if_pos e3, if_pos ⟨by omega, e3.2⟩]
        · rw [if_neg e3, if_neg (fun q => e3 ⟨by omega, q.2⟩)]
    · rw [if_neg e, h]
      by_cases e3 : i < n ∧ nr d a b i = true
      · rw [if_pos e3, if_pos ⟨by omega, e3.2⟩]
      · rw [if_neg e3, if_neg (fun q => e3 ⟨by
          rcases Nat.lt_or_ge i n with z | z
          · exact z
          · exfalso
            have : i = n := by omega
            rw [this] at q
            exact e q.2, q.2⟩)]
/-- who is earlier at a point, of like ones the first -/
def ahv (d : Nat → Nat) (a b i : Nat) : Int32 := if xo (tA d a i) < xo (tA d b i) then nI a else if xo (tA d a i) = xo (tA d b i) then (if nI b ≤ nI a then nI b else nI a) else nI b
theorem xo_t (hw : WF d) (ha : a < d 1) : -1 ≤ (xo (tA d a i)).toInt ∧ (xo (tA d a i)).toInt < 10000 := by
  have b1 := hw.b (57 + a)
  cases e : tA d a i with
  | none => exact ⟨by decide, by decide⟩
  | some t =>
    have := tA_b hw ha e
    show -1 ≤ (nI t).toInt ∧ (nI t).toInt < 10000
    rw [nI_toInt (by omega)]
    omega
theorem X_aheadAt (h : XR d σ) (hw : WF d) (ha : a < d 1) (hb : b < d 1) (hne : a ≠ b) (hi : i ≤ nown d a) (hi2 : i ≤ nown d b) : f_X7_aheadAt (nI a) (nI b) (nI i) σ = some (ahv d a b i, σ) := by
  have hr := hw.2.1
  have hu := xo_t (i := i) hw ha
  have hv := xo_t (i := i) hw hb
  unfold f_X7_aheadAt ahv
  rw [X_runnerAt (by omega), bind_some']
  dsimp only
  rw [X_timeAt h hw ha hi, bind_some']
  dsimp only
  rw [X_runnerAt (by omega), bind_some']
  dsimp only
  rw [X_timeAt h hw hb hi2, bind_some']
  dsimp only
  generalize xo (tA d a i) = u at hu
  generalize xo (tA d b i) = v at hv
  have hs : (u - v).toInt = u.toInt - v.toInt := by
    rw [Int32.toInt_sub]
    exact Int.bmod_eq_of_le (by omega) (by omega)
  by_cases e : u = v
  · subst e
    rw [if_pos (Int32.sub_self _), if_neg Int32.lt_irrefl, if_pos rfl]
    unfold gmn
    by_cases c : b ≤ a
    · rw [if_pos (nI_lt (by omega) (by omega)), if_pos (nI_le c (by omega))]
    · rw [if_neg (nI_nlt (by omega) (by omega)), if_neg (nI_ge (by omega) (by omega))]
  · have ne : ¬ u - v = 0 := fun q => by
      have h1 : (u - v).toInt = 0 := by rw [q]; rfl
      exact e (Int32.toInt_inj.mp (by omega))
    rw [if_neg ne]
    by_cases c : u < v
    · have c' := Int32.lt_iff_toInt_lt.mp c
      rw [if_pos c, if_neg (by rw [Int32.le_iff_toInt_le, hs]; show ¬ (0 : Int) ≤ _; omega)]
    · have c' : ¬ u.toInt < v.toInt := fun q => c (Int32.lt_iff_toInt_lt.mpr q)
      rw [if_neg c, if_neg e, if_pos (by rw [Int32.le_iff_toInt_le, hs]; show (0 : Int) ≤ _; omega)]
def chQ (d : Nat → Nat) (a b : Nat) (z : Nat) : Int32 := if (chs d a b (nown d a + 1)).2.1 = 0 then -2 else if z = 0 then nI (chs d a b (nown d a + 1)).2.1 else if z = 1 then nI (chs d a b (nown d a + 1)).2.2 else ahv d a b ((chs d a b (nown d a + 1)).2.2 + (chs d a b (nown d a + 1)).2.1 - 1)
theorem M_chase42 (hM : MR d σ) (hw : WF d) (hs : Ms σ σ') (ha : a < d 1) (hb : b < d 1) (hab : nown d b = nown d a) {z : Nat} (hz : z < 3) : Wp (f_X12_chase_42 (nI a) (nI b) (nI z) (nb d a b (nown d a + 1)) gFuel 0 (-2) 0 0 σ') (fun r => r.1 = chQ d a b z ∧ Ms σ r.2) := by
  have ho := hw.own ha
  have hr := hw.2.1
  have h3 := hw.1
  have hru := hw.run ha
  have hon : nown d a = d (4 + d (37 + a)) := rfl
  refine loop0 (F := fun f (x : Int32 × Int32 × Int32) i σ => f_X12_chase_42 (nI a) (nI b) (nI z) (nb d a b (nown d a + 1)) f x.1 x.2.1 x.2.2 (nI i) σ) (N := nown d a + 1) (I := fun i x τ => x.1 = nI (chs d a b i).2.1 ∧ ((chs d a b i).2.1 ≠ 0 → x.2.1 = nI (chs d a b i).2.2) ∧ x.2.2 = nI (chs d a b i).1 ∧ Ms σ τ) (by omega)
    (fun f i x τ hi hI kk => ?_) (fun f x τ hI => ?_) (x := (0, -2, 0)) (σ := σ') ⟨rfl, fun q => absurd rfl q, rfl, hs⟩
  · obtain ⟨x1, x2, x3⟩ := x
    obtain ⟨e1, e2, e3, hs⟩ := hI
    dsimp only at e1 e2 e3
    subst e1 e3
    have hbd := chs_b (d := d) (a := a) (b := b) i
    have hx : (if nr d a b i = true then (chs d a b i).1 + 1 else 0) ≤ i + 1 := by split <;> omega
    have tail : Wp (f_X12_chase_82 (nI a) (nI b) (nI z) (nb d a b (nown d a + 1)) (nI (chs d a b i).2.1) x2 (nI i) (fun v5 v6 v7 v8 σ => f_X12_chase_42 (nI a) (nI b) (nI z) (nb d a b (nown d a + 1)) f v5 v6 v7 v8 σ) (nI (if nr d a b i = true then (chs d a b i).1 + 1 else 0)) τ) (fun r => r.1 = chQ d a b z ∧ Ms σ r.2) := by
      unfold f_X12_chase_82
      rw [nI_1 i, fst_n (by omega) hx]
      by_cases e : (if nr d a b i = true then (chs d a b i).1 + 1 else 0) ≤ (chs d a b i).2.1
      · refine Wp.t (nI_le e (by omega)) ?_
        exact kk (_, _, _) _ ⟨by rw [chs, if_pos e]; rfl, by rw [chs, if_pos e]; exact e2, by rw [chs, if_pos e]; rfl, hs⟩
      · refine Wp.f (nI_ge (by omega) (by omega)) ?_
        exact kk (_, _, _) _ ⟨by rw [chs, if_neg e]; rfl, by rw [chs, if_neg e]; exact fun _ => rfl, by rw [chs, if_neg e]; rfl, hs⟩
    have hbt : ((nb d a b (nown d a + 1)) >>> (nI i &&& 31)) &&& 1 = if nr d a b i = true then 1 else 0 := by
      have := nb_bt (d := d) (a := a) (b := b) (show i < 11 by omega) (nown d a + 1) (by omega)
      refine Eq.trans this ?_
      by_cases e : nr d a b i = true
      · rw [if_pos e, if_pos ⟨hi, e⟩]
      · rw [if_neg e, if_neg (fun q => e q.2)]
    show Wp (f_X12_chase_42 (nI a) (nI b) (nI z) (nb d a b (nown d a + 1)) (f + 1) (nI (chs d a b i).2.1) x2 (nI (chs d a b i).1) (nI i) τ) _
    rw [f_X12_chase_42]
    refine Wp.eq (M_rd (j := 37 + a) (hM.of hs) (by rw [i37, nI_add]) (by omega)) ?_
    refine Wp.eq (M_rd (j := 4 + d (37 + a)) (hM.of hs) (by rw [i4, nI_add]) (by omega)) ?_
    refine Wp.f (nI_nlt (by omega) (by omega)) ?_
    rw [hbt]
    by_cases e : nr d a b i = true
    · rw [if_pos e] at tail ⊢
      refine Wp.t rfl ?_
      rw [nI_1]
      exact tail
    · rw [if_neg e] at tail ⊢
      refine Wp.f (by decide) ?_
      exact tail
  · obtain ⟨x1, x2, x3⟩ := x
    obtain ⟨e1, e2, e3, hs⟩ := hI
    dsimp only at e1 e2 e3
    subst e1 e3
    have hbd := chs_b (d := d) (a := a) (b := b) (nown d a + 1)
    show Wp (f_X12_chase_42 (nI a) (nI b) (nI z) (nb d a b (nown d a + 1)) (f + 1) (nI (chs d a b (nown d a + 1)).2.1) x2 (nI (chs d a b (nown d a + 1)).1) (nI (nown d a + 1)) τ) _
    rw [f_X12_chase_42]
    refine Wp.eq (M_rd (j := 37 + a) (hM.of hs) (by rw [i37, nI_add]) (by omega)) ?_
    refine Wp.eq (M_rd (j := 4 + d (37 + a)) (hM.of hs) (by rw [i4, nI_add]) (by omega)) ?_
    refine Wp.t (nI_lt (by omega) (by omega)) ?_
    unfold f_X12_chase_120 chQ
    by_cases e0 : (chs d a b (nown d a + 1)).2.1 = 0
    · refine Wp.t (by rw [e0]; rfl) ?_
      refine Wp.t (by rw [e0]; rfl) ?_
      exact Wp.ret ⟨by rw [if_pos e0], hs⟩
    · have hn0 := nI_ne0 (n := (chs d a b (nown d a + 1)).2.1) (by omega) (by omega)
      refine Wp.f hn0 ?_
      rw [e2 e0]
      by_cases z2 : z = 2
      · subst z2
        refine Wp.t (by decide) ?_
        rw [nI_add, i1, nI_sub (by omega)]
        refine Wp.bind (M_timeAt hM hw hs ha (by omega)) (fun q hq => ?_)
        refine Wp.bind (M_timeAt hM hw hq.2 hb (by omega)) (fun p hp => ?_)
        rw [hq.1, hp.1, if_neg e0, if_neg (show ¬ (2 : Nat) = 0 by decide), if_neg (show ¬ (2 : Nat) = 1 by decide)]
        unfold ahv
        generalize xo (tA d a ((chs d a b (nown d a + 1)).2.2 + (chs d a b (nown d a + 1)).2.1 - 1)) = u
        generalize xo (tA d b ((chs d a b (nown d a + 1)).2.2 + (chs d a b (nown d a + 1)).2.1 - 1)) = v
        by_cases c1 : u < v
        · exact Wp.t c1 (Wp.ret ⟨by rw [if_pos c1], hp.2⟩)
        · refine Wp.f c1 ?_
          by_cases c2 : u = v
          · refine Wp.t c2 ?_
            by_cases c3 : nI b ≤ nI a
            · exact Wp.t c3 (Wp.ret ⟨by rw [if_neg c1, if_pos c2, if_pos c3], hp.2⟩)
            · exact Wp.f c3 (Wp.ret ⟨by rw [if_neg c1, if_pos c2, if_neg c3], hp.2⟩)
          · exact Wp.f c2 (Wp.ret ⟨by rw [if_neg c1, if_neg c2], hp.2⟩)
      · refine Wp.f (by rw [i2]; exact nI_ge (by omega) (by decide)) ?_
        refine Wp.f hn0 ?_
        rw [if_neg e0]
        by_cases z0 : z = 0
        · refine Wp.t (by rw [z0]; rfl) (Wp.ret ⟨by rw [if_pos z0], hs⟩)
        · refine Wp.f (nI_ne0 (by omega) (by omega)) (Wp.ret ⟨by rw [if_neg z0, if_pos (by omega)], hs⟩)
theorem S_chase : SS3 Inv f_X11_chase f_X12_chase := by
  intro x y z
  refine QA.ss (fun σ d hI hw hM hX => ?_)
  have hr := hw.2.1
  have hin : ∀ σ2, f_X12_in z 0 2 σ2 = some (bG z (2 + 1), σ2) := fun σ2 => by rw [i2]; exact M_in0 (by decide) _
  by_cases hz : gin z (2 + 1) = true
  · have hz' := sel_t (by decide) hz
    rcases pair_cases hw hX x y with ⟨e, he, g1, g2⟩ | ⟨a, b, rfl, rfl, ha, hb, hne, hc, g1, g2⟩
    · have h1 := e15 he
      refine QA.no e h1.2 ?_ (fun σ2 hM2 => ?_)
      · unfold f_X11_chase f_X11_chase_19
        rw [if_neg hz'.1, if_pos (show z ≤ 2 from hz'.2), g1, bind_some', if_neg h1.1, X_refused]
        rfl
      · unfold f_X12_chase
        rw [hin, bG_t hz, bind_some', g2 σ2 1 hM2 o1n0, bind_some', ref_e h1.1, bind_some', if_neg o1n0]
    · have hab : nown d b = nown d a := by unfold nown; rw [hc]
      have ho := hw.own ha
      obtain ⟨hze, hz3⟩ := gin_nI hz
      generalize z.toNatClampNeg = j at hze hz3
      subst hze
      have hbd := chs_b (d := d) (a := a) (b := b) (nown d a + 1)
      refine QA.yes (chQ d a b j) ?_ (fun σ2 hM2 hM3 => ?_)
      · unfold f_X11_chase f_X11_chase_19
        refine Wp.f hz'.1 ?_
        refine Wp.t (show nI j ≤ 2 from hz'.2) ?_
        refine Wp.eq g1 ?_
        refine Wp.t rfl ?_
        refine Wp.eq (X_runnerAt (by omega)) ?_
        refine Wp.eq (X_runnerAt (by omega)) ?_
        refine Wp.bind (X_findChase hX hw ha hb hab) (fun τ hq => ?_)
        obtain ⟨hs, h2, h1⟩ := hq
        unfold chQ
        rw [h2, h1]
        by_cases e0 : (chs d a b (nown d a + 1)).2.1 = 0
        · refine Wp.t (by rw [e0]; rfl) ?_
          exact Wp.ret ⟨by rw [if_pos e0], _, hs, rfl⟩
        · refine Wp.f (nI_ne0 (by omega) (by omega)) ?_
          rw [if_neg e0]
          by_cases z0 : j = 0
          · refine Wp.t (by rw [z0]; rfl) ?_
            exact Wp.ret ⟨by rw [if_pos z0], _, hs, rfl⟩
          · refine Wp.f (nI_ne0 (by omega) (by omega)) ?_
            rw [if_neg z0]
            by_cases z1 : j = 1
            · refine Wp.t (by rw [z1]; rfl) ?_
              exact Wp.ret ⟨by rw [if_pos z1], _, hs, rfl⟩
            · refine Wp.f (by rw [i1]; exact nI_ne (by omega) (by omega) z1) ?_
              rw [if_neg z1, nI_add, i1, nI_sub (by omega)]
              refine Wp.eq (X_aheadAt (hX.of hs) hw ha hb hne (by omega) (by omega)) ?_
              exact Wp.ret ⟨rfl, _, hs, rfl⟩
      · unfold f_X12_chase
        refine Wp.eq (hin σ2) ?_
        rw [bG_t hz]
        refine Wp.eq (g2 σ2 1 hM3 o1n0) ?_
        refine Wp.eq ref_0 ?_
        refine Wp.t rfl ?_
        refine Wp.bind (M_togetherOf hM2 hw Ms.rf ha hb hab) (fun q hq => ?_)
        rw [hq.1]
        exact M_chase42 hM2 hw hq.2 ha hb hab hz3
  · refine QA.no 1 (by decide) ?_ (fun σ2 hM2 => ?_)
    · unfold f_X11_chase f_X11_chase_9 f_X11_chase_19
      rcases sel_f (by decide) hz with q | ⟨q1, q2⟩
      · rw [if_pos q, if_neg o1n0, X_refused]; rfl
      · rw [if_neg q1, if_neg (show ¬ z ≤ 2 from q2), if_neg o1n0, X_refused]; rfl
    · unfold f_X12_chase f_X12_whyNotTwo
      rw [hin, bG_f hz, bind_some', if_pos rfl, bind_some', ref_1, bind_some', if_neg o1n0]
end PQ
