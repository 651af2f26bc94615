/-! WHAT HOLDS BETWEEN CALLS: one row d of numbers (the reference's own row), and both sides hold it -/
abbrev dC (d : Nat → Nat) (c : Nat) : Nat → Nat := fun i => d (7 + 10 * c + i)
abbrev dP (d : Nat → Nat) (a : Nat) : Nat → Nat := fun k => d (77 + 16 * a + k)
abbrev dT (d : Nat → Nat) (a : Nat) : Nat → Nat := fun k => d (237 + 16 * a + k)
/-- the match of a on course c; on his own -/
def Mt2 (d : Nat → Nat) (a c i : Nat) : Option Nat := mt (dC d c) (dP d a) (d (4 + c)) (d (67 + a)) i
def Mo (d : Nat → Nat) (a i : Nat) : Option Nat := Mt2 d a (d (37 + a)) i
/-- how many he misses of course c; of his own -/
def ms2 (d : Nat → Nat) (a c : Nat) : Nat := mc (dC d c) (dP d a) (d (4 + c)) (d (67 + a)) (d (4 + c))
def mso (d : Nat → Nat) (a : Nat) : Nat := ms2 d a (d (37 + a))
def nown (d : Nat → Nat) (a : Nat) : Nat := d (4 + d (37 + a))
def WF (d : Nat → Nat) : Prop :=
  d 0 ≤ 3 ∧ d 1 ≤ 10 ∧ d 2 ≤ 600 ∧ d 3 ≤ 600 ∧ (∀ j, d j < 10000) ∧ (d 0 = 0 → d 1 = 0) ∧
  (∀ c, c < d 0 → 1 ≤ d (4 + c) ∧ d (4 + c) ≤ 10) ∧
  (∀ a, a < d 1 → d (37 + a) < d 0 ∧ d (47 + a) < d (57 + a) ∧ d (67 + a) ≤ 16 ∧ (∀ k, k < d (67 + a) → d (47 + a) ≤ d (237 + 16 * a + k) ∧ d (237 + 16 * a + k) ≤ d (57 + a)) ∧ ∀ k, k + 1 < d (67 + a) → d (237 + 16 * a + k) ≤ d (237 + 16 * a + (k + 1)))
/-- alike in all that counts -/
def Eqv (d e : Nat → Nat) : Prop :=
  d 0 = e 0 ∧ d 1 = e 1 ∧ d 2 = e 2 ∧ d 3 = e 3 ∧ (∀ c, c < d 0 → d (4 + c) = e (4 + c) ∧ ∀ i, i < d (4 + c) → d (7 + 10 * c + i) = e (7 + 10 * c + i)) ∧
  ∀ a, a < d 1 → d (37 + a) = e (37 + a) ∧ d (47 + a) = e (47 + a) ∧ d (57 + a) = e (57 + a) ∧ d (67 + a) = e (67 + a) ∧ ∀ k, k < d (67 + a) → d (77 + 16 * a + k) = e (77 + 16 * a + k) ∧ d (237 + 16 * a + k) = e (237 + 16 * a + k)
/-- the class's meet (number 1) holds d -/
def XR (d : Nat → Nat) (σ : gSt) : Prop :=
  σ 3 1 3 = nI (d 0) ∧ σ 3 1 4 = nI (d 1) ∧ (0 < d 0 → σ 3 1 5 = nI (d 2)) ∧ (0 < d 0 → σ 3 1 6 = nI (d 3)) ∧ (∀ c, c < d 0 → XC σ (3 + c) (d (4 + c)) (dC d c)) ∧
  ∀ a, a < d 1 → σ 10 (10 + a) 5 = nI (d (37 + a)) ∧ σ 10 (10 + a) 6 = nI (d (47 + a)) ∧ σ 10 (10 + a) 7 = nI (d (57 + a)) ∧ XP σ (10 + a) (d (67 + a)) (dP d a) (dT d a) ∧ Xk (dC d (d (37 + a))) (dP d a) (dT d a) (nown d a) (d (67 + a)) (nown d a) (10 + a) σ
def upd1 (d : Nat → Nat) (j v : Nat) : Nat → Nat := fun q => if q = j then v else d q
/-- a punch of a goes; comes in at k -/
def rmP (d : Nat → Nat) (a k : Nat) : Nat → Nat := fun q =>
  if q = 67 + a then d (67 + a) - 1
  else if 77 + 16 * a + k ≤ q ∧ q < 77 + 16 * a + 15 then d (q + 1)
  else if 237 + 16 * a + k ≤ q ∧ q < 237 + 16 * a + 15 then d (q + 1)
  else d q
def inP (d : Nat → Nat) (a k c t : Nat) : Nat → Nat := fun q =>
  if q = 67 + a then d (67 + a) + 1
  else if q = 77 + 16 * a + k then c
  else if q = 237 + 16 * a + k then t
  else if 77 + 16 * a + k < q ∧ q < 77 + 16 * a + 16 then d (q - 1)
  else if 237 + 16 * a + k < q ∧ q < 237 + 16 * a + 16 then d (q - 1)
  else d q
/-- a control of c comes in at i -/
def inC (d : Nat → Nat) (c i v : Nat) : Nat → Nat := fun q =>
  if q = 4 + c then d (4 + c) + 1
  else if q = 7 + 10 * c + i then v
  else if 7 + 10 * c + i < q ∧ q < 7 + 10 * c + 10 then d (q - 1)
  else d q
/-- what an act's row brings back -/
def unact (kd u a b c : Nat) (d : Nat → Nat) : Nat → Nat := match kd with
  | 0 => rmP d u a
  | 1 => inP d u a b c
  | 2 => upd1 d (47 + u) a
  | 3 => upd1 d (57 + u) a
  | 4 => upd1 d (37 + u) a
  | 5 => upd1 d (2 + u) a
  | 6 => upd1 d (7 + 10 * u + a) b
  | _ => inC d u a b
def unpre (kd u a : Nat) (d : Nat → Nat) : Prop := match kd with
  | 0 => u < d 1 ∧ a < d (67 + u)
  | 1 => u < d 1 ∧ a ≤ d (67 + u) ∧ d (67 + u) < 16
  | 2 => u < d 1
  | 3 => u < d 1
  | 4 => u < d 1 ∧ a < d 0
  | 5 => u < 2
  | 6 => u < d 0 ∧ a < d (4 + u)
  | 7 => u < d 0 ∧ a ≤ d (4 + u) ∧ d (4 + u) < 10
  | _ => False
/-- the acts that can be undone: the reference keeps rows, the class what brings them back -/
def AR (d : Nat → Nat) (σ : gSt) : Prop := ∃ (m : Nat) (D : Nat → Nat → Nat), m ≤ 10 ∧ σ 26 0 2 = nI m ∧ σ 28 0 30 = nI m ∧ D m = d ∧
  ∀ j, j < m → WF (D j) ∧ (0 < D j 0) ∧ (∀ q, q < 397 → σ 40 0 (397 * j + q) = nI (D j q)) ∧
    ∃ kd u a b c : Nat, (u < 10000 ∧ a < 10000 ∧ b < 10000 ∧ c < 10000) ∧ σ 27 0 (5 * j) = nI kd ∧ σ 27 0 (5 * j + 1) = nI u ∧ σ 27 0 (5 * j + 2) = nI a ∧ σ 27 0 (5 * j + 3) = nI b ∧ σ 27 0 (5 * j + 4) = nI c ∧ unpre kd u a (D (j + 1)) ∧ Eqv (unact kd u a b c (D (j + 1))) (D j)
/-- a word's number, five bits a letter -/
def wval (w : Nat → Nat) : Nat → Nat
  | 0 => 0
  | m + 1 => if w m = 0 then wval w m else wval w m * 32 + (w m - 96)
/-- six places hold a word: letters, then nothing -/
def isW (w : Nat → Nat) : Prop := (97 ≤ w 0 ∧ w 0 ≤ 122) ∧ (∀ q, q < 6 → w q = 0 ∨ (97 ≤ w q ∧ w q ≤ 122)) ∧ ∀ q, q + 1 < 6 → w q = 0 → w (q + 1) = 0
def NR (d : Nat → Nat) (σ : gSt) : Prop := ∃ N : Nat → Nat, (∀ j, j < 78 → σ 32 0 j = nI (N j)) ∧ (∀ j, N j < 4294967296) ∧
  (∀ c, c < d 0 → isW (fun q => N (6 * c + q)) ∧ σ 8 (3 + c) 1 = nI (wval (fun q => N (6 * c + q)) 6)) ∧
  ∀ a, a < d 1 → isW (fun q => N (6 * (3 + a) + q)) ∧ σ 10 (10 + a) 4 = nI (wval (fun q => N (6 * (3 + a) + q)) 6)
/-- the tape -/
def TR (σ : gSt) : Prop := ∃ (t : Nat) (B : Nat → Nat), t ≤ 900 ∧ t % 20 = 0 ∧ σ 1 0 1 = nI t ∧ σ 28 0 5 = nI t ∧ ∀ j, j < t → B j < 256 ∧ σ 2 0 j = nI (B j) ∧ σ 29 0 j = nI (B j)
/-- what was refused -/
def ER (σ : gSt) : Prop := σ 0 0 9 = σ 28 0 1 ∧ σ 0 0 11 = σ 28 0 2 ∧ σ 0 0 10 = (if σ 28 0 1 = 4 then σ 28 0 3 else -1)
def Inv (σ : gSt) : Prop := ∃ d : Nat → Nat, WF d ∧ MR d σ ∧ XR d σ ∧ AR d σ ∧ NR d σ ∧ TR σ ∧ ER σ ∧ σ 28 0 6 = (if d 0 = 0 then 0 else 1)
/-- a question to the class: its working rows, and what was refused -/
def Xq (σ σ' : gSt) (e : Int32) : Prop := (∀ k i s, k ≠ 7 → (k < 17 ∨ 25 < k) → ¬ (k = 0 ∧ i = 0 ∧ (s = 9 ∨ s = 10)) → σ' k i s = σ k i s) ∧ σ' 0 0 9 = e ∧ σ' 0 0 10 = -1
/-- a question to the reference -/
def Mq (σ σ' : gSt) (e : Int32) : Prop := (∀ k i s, (k < 34 ∨ 39 < k) → (k = 28 → s ≠ 0 ∧ s ≠ 1 ∧ s ≠ 3 ∧ s ≠ 23 ∧ s ≠ 24 ∧ s ≠ 27 ∧ s ≠ 28 ∧ s ≠ 29) → σ' k i s = σ k i s) ∧ σ' 28 0 1 = e ∧ σ' 28 0 3 = -1
section IV
variable {d : Nat → Nat} {σ σ' σ'' : gSt}
theorem XC.same {j n : Nat} {C : Nat → Nat} (h : XC σ j n C) (h1 : σ' 8 j 2 = σ 8 j 2) (h2 : ∀ i, σ' 9 j i = σ 9 j i) : XC σ' j n C := ⟨h1.trans h.1, fun i hi => (h2 i).trans (h.2 i hi)⟩
theorem XP.same {r p : Nat} {P T : Nat → Nat} (h : XP σ r p P T) (h1 : σ' 10 r 8 = σ 10 r 8) (h2 : ∀ k, σ' 11 r k = σ 11 r k) (h3 : ∀ k, σ' 12 r k = σ 12 r k) : XP σ' r p P T := ⟨h1.trans h.1, fun k hk => ⟨(h2 k).trans (h.2 k hk).1, (h3 k).trans (h.2 k hk).2⟩⟩
theorem Xk.same {C P T : Nat → Nat} {n p i r : Nat} (h : Xk C P T n p i r σ) (h9 : σ' 10 r 9 = σ 10 r 9) (h10 : σ' 10 r 10 = σ 10 r 10) (h13 : ∀ k, σ' 13 r k = σ 13 r k) (h14 : ∀ k, σ' 14 r k = σ 14 r k) : Xk C P T n p i r σ' :=
  ⟨h9.trans h.1, h10.trans h.2.1, fun z hz => ⟨fun q => (h14 z).trans ((h.2.2.1 z hz).1 q), fun q => (h14 z).trans ((h.2.2.1 z hz).2 q)⟩, fun k hk => ⟨fun i' q1 q2 => (h13 k).trans ((h.2.2.2 k hk).1 i' q1 q2), fun q => (h13 k).trans ((h.2.2.2 k hk).2 q)⟩⟩
/-- the class's meet stays where its cells stay -/
theorem XR.same (h : XR d σ) (hs : ∀ k i s, (k = 3 ∨ (8 ≤ k ∧ k ≤ 14)) → σ' k i s = σ k i s) : XR d σ' := by
  obtain ⟨h1, h2, h3, h4, h5, h6⟩ := h
  refine ⟨(hs 3 1 3 (by omega)).trans h1, (hs 3 1 4 (by omega)).trans h2, fun q => (hs 3 1 5 (by omega)).trans (h3 q), fun q => (hs 3 1 6 (by omega)).trans (h4 q), fun c hc => (h5 c hc).same (hs 8 _ _ (by omega)) (fun i => hs 9 _ _ (by omega)), fun a ha => ?_⟩
  obtain ⟨g1, g2, g3, g4, g5⟩ := h6 a ha
  exact ⟨(hs 10 _ _ (by omega)).trans g1, (hs 10 _ _ (by omega)).trans g2, (hs 10 _ _ (by omega)).trans g3, g4.same (hs 10 _ _ (by omega)) (fun k => hs 11 _ _ (by omega)) (fun k => hs 12 _ _ (by omega)), g5.same (hs 10 _ _ (by omega)) (hs 10 _ _ (by omega)) (fun k => hs 13 _ _ (by omega)) (fun k => hs 14 _ _ (by omega))⟩
theorem NR.same (h : NR d σ) (hs : ∀ k i s, (k = 8 ∨ k = 10 ∨ k = 32) → σ' k i s = σ k i s) : NR d σ' := by
  obtain ⟨N, h1, h2, h3, h4⟩ := h
  exact ⟨N, fun j hj => (hs 32 0 j (by omega)).trans (h1 j hj), h2, fun c hc => ⟨(h3 c hc).1, (hs 8 _ _ (by omega)).trans (h3 c hc).2⟩, fun a ha => ⟨(h4 a ha).1, (hs 10 _ _ (by omega)).trans (h4 a ha).2⟩⟩
theorem TR.same (h : TR σ) (hs : ∀ k i s, (k = 1 ∨ k = 2 ∨ k = 29) → σ' k i s = σ k i s) (h5 : σ' 28 0 5 = σ 28 0 5) : TR σ' := by
  obtain ⟨t, B, h1, h2, h3, h4, h6⟩ := h
  exact ⟨t, B, h1, h2, (hs 1 0 1 (by omega)).trans h3, h5.trans h4, fun j hj => ⟨(h6 j hj).1, (hs 2 0 j (by omega)).trans (h6 j hj).2.1, (hs 29 0 j (by omega)).trans (h6 j hj).2.2⟩⟩
theorem AR.same (h : AR d σ) (hs : ∀ k i s, (k = 26 ∨ k = 27 ∨ k = 40) → σ' k i s = σ k i s) (h30 : σ' 28 0 30 = σ 28 0 30) : AR d σ' := by
  obtain ⟨m, D, h1, h2, h3, h4, h5⟩ := h
  refine ⟨m, D, h1, (hs 26 0 2 (by omega)).trans h2, h30.trans h3, h4, fun j hj => ?_⟩
  obtain ⟨g1, g2, g3, kd, u, a, b, c, g4, g5, g6, g7, g8, g9, g10⟩ := h5 j hj
  exact ⟨g1, g2, fun q hq => (hs 40 0 _ (by omega)).trans (g3 q hq), kd, u, a, b, c, g4, (hs 27 0 _ (by omega)).trans g5, (hs 27 0 _ (by omega)).trans g6, (hs 27 0 _ (by omega)).trans g7, (hs 27 0 _ (by omega)).trans g8, (hs 27 0 _ (by omega)).trans g9, g10⟩
/-- after a question to both that both refuse alike, or both answer -/
theorem inv_query {e : Int32} (he : ¬ e = 4) (hI : Inv σ) (hx : Xq σ σ' e) (hm : Mq σ' σ'' e) : Inv σ'' := by
  obtain ⟨d, h1, h2, h3, h4, h5, h6, h7, h8⟩ := hI
  have k1 : ∀ k i s, k ≠ 7 → (k < 17 ∨ 25 < k) → (k < 34 ∨ 39 < k) → ¬ (k = 0 ∧ i = 0 ∧ (s = 9 ∨ s = 10)) → (k = 28 → s ≠ 0 ∧ s ≠ 1 ∧ s ≠ 3 ∧ s ≠ 23 ∧ s ≠ 24 ∧ s ≠ 27 ∧ s ≠ 28 ∧ s ≠ 29) → σ'' k i s = σ k i s := fun k i s a1 a2 a3 a4 a5 => (hm.1 k i s a3 a5).trans (hx.1 k i s a1 a2 a4)
  refine ⟨d, h1, fun j hj => (k1 30 0 j (by omega) (by omega) (by omega) (by omega) (by omega)).trans (h2 j hj), h3.same (fun k i s hk => k1 k i s (by omega) (by omega) (by omega) (by omega) (by omega)), h4.same (fun k i s hk => k1 k i s (by omega) (by omega) (by omega) (by omega) (by omega)) (k1 28 0 30 (by omega) (by omega) (by omega) (by omega) (by omega)), h5.same (fun k i s hk => k1 k i s (by omega) (by omega) (by omega) (by omega) (by omega)), h6.same (fun k i s hk => k1 k i s (by omega) (by omega) (by omega) (by omega) (by omega)) (k1 28 0 5 (by omega) (by omega) (by omega) (by omega) (by omega)), ⟨?_, ?_, ?_⟩, (k1 28 0 6 (by omega) (by omega) (by omega) (by omega) (by omega)).trans h8⟩
  · rw [hm.1 0 0 9 (by omega) (by omega), hx.2.1, hm.2.1]
  · rw [k1 0 0 11 (by omega) (by omega) (by omega) (by omega) (by omega), h7.2.1, k1 28 0 2 (by omega) (by omega) (by omega) (by omega) (by omega)]
  · rw [hm.1 0 0 10 (by omega) (by omega), hx.2.2, hm.2.1, if_neg he]
end IV
