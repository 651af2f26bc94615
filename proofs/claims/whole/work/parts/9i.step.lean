/-! reading a text: both sides in step -/
section TX
variable {B N N' d e : Nat → Nat} {n s L u nc nr : Nat} {σ τ σ' τ' σ0 τ0 : gSt}
def W2 {α β : Type} (x : Option α) (y : Option β) (Q : α → β → Prop) : Prop := ∃ a b, x = some a ∧ y = some b ∧ Q a b
theorem W2.x {α β γ : Type} {x : Option α} {f : α → Option β} {y : Option γ} {P : α → Prop} {Q : β → γ → Prop} (h : Wp x P) (k : ∀ a, P a → W2 (f a) y Q) : W2 (x.bind f) y Q := by
  obtain ⟨a, rfl, ha⟩ := h
  exact k a ha
theorem W2.y {α β γ : Type} {x : Option α} {f : α → Option β} {y : Option γ} {P : α → Prop} {Q : γ → β → Prop} (h : Wp x P) (k : ∀ a, P a → W2 y (f a) Q) : W2 y (x.bind f) Q := by
  obtain ⟨a, rfl, ha⟩ := h
  exact k a ha
theorem W2.xe {α β γ : Type} {x : Option α} {a : α} {f : α → Option β} {y : Option γ} {Q : β → γ → Prop} (h : x = some a) (k : W2 (f a) y Q) : W2 (x.bind f) y Q := by rw [h]; exact k
theorem W2.ye {α β γ : Type} {x : Option α} {a : α} {f : α → Option β} {y : Option γ} {Q : γ → β → Prop} (h : x = some a) (k : W2 y (f a) Q) : W2 y (x.bind f) Q := by rw [h]; exact k
theorem W2.xt {α β : Type} {c : Prop} [Decidable c] {a b : Option α} {y : Option β} {Q : α → β → Prop} (h : c) (k : W2 a y Q) : W2 (if c then a else b) y Q := by rw [if_pos h]; exact k
theorem W2.xf {α β : Type} {c : Prop} [Decidable c] {a b : Option α} {y : Option β} {Q : α → β → Prop} (h : ¬ c) (k : W2 b y Q) : W2 (if c then a else b) y Q := by rw [if_neg h]; exact k
theorem W2.yt {α β : Type} {c : Prop} [Decidable c] {a b : Option α} {y : Option β} {Q : β → α → Prop} (h : c) (k : W2 y a Q) : W2 y (if c then a else b) Q := by rw [if_pos h]; exact k
theorem W2.yf {α β : Type} {c : Prop} [Decidable c] {a b : Option α} {y : Option β} {Q : β → α → Prop} (h : ¬ c) (k : W2 y b Q) : W2 y (if c then a else b) Q := by rw [if_neg h]; exact k
theorem W2.ret {α β : Type} {a : α} {b : β} {Q : α → β → Prop} (h : Q a b) : W2 (some a) (some b) Q := ⟨a, b, rfl, rfl, h⟩
theorem W2.mono {α β : Type} {x : Option α} {y : Option β} {Q Q' : α → β → Prop} (h : W2 x y Q) (k : ∀ a b, Q a b → Q' a b) : W2 x y Q' := by
  obtain ⟨a, b, h1, h2, h3⟩ := h
  exact ⟨a, b, h1, h2, k a b h3⟩
theorem W2.bind {α β γ δ : Type} {x : Option α} {y : Option β} {f : α → Option γ} {g : β → Option δ} {P : α → β → Prop} {Q : γ → δ → Prop} (h : W2 x y P) (k : ∀ a b, P a b → W2 (f a) (g b) Q) : W2 (x.bind f) (y.bind g) Q := by
  obtain ⟨a, b, rfl, rfl, h3⟩ := h
  exact k a b h3
theorem W2.ld {α β : Type} {z : Option α} {σ : gSt} {k i n : Nat} {x v : Int32} {f : Int32 → Option β} {Q : α → β → Prop} (j : Nat) (hx : x = nI j) (hj : j < n) (hn : n ≤ 2147483648) (hv : σ k i j = v) (kk : W2 z (f v) Q) : W2 z ((gld σ k i n x).bind f) Q := by
  subst hx hv
  rw [gld_n hj hn]; exact kk
theorem W2.st {α β : Type} {z : Option α} {σ : gSt} {k i n : Nat} {x v : Int32} {f : gSt → Option β} {Q : α → β → Prop} (j : Nat) (hx : x = nI j) (hj : j < n) (hn : n ≤ 2147483648) (kk : W2 z (f (gup σ k i j v)) Q) : W2 z ((gst σ k i n x v).bind f) Q := by
  subst hx
  rw [gst_n hj hn]; exact kk
/-- what reading a text leaves alone: in the class, in the reference -/
def Fx (σ σ' : gSt) : Prop := ∀ k i s, k ≠ 7 → (k < 17 ∨ 25 < k) → k ≠ 15 → ¬ (k = 3 ∧ i = 0) → ¬ ((k = 8 ∨ k = 9) ∧ i < 3) → ¬ (10 ≤ k ∧ k ≤ 14 ∧ i < 10) → σ' k i s = σ k i s
def Fy (σ σ' : gSt) : Prop := ∀ k i s, k ≠ 31 → k ≠ 33 → ¬ (k = 28 ∧ 11 ≤ s ∧ s ≤ 18) → σ' k i s = σ k i s
theorem Fx.rf : Fx σ σ := fun _ _ _ _ _ _ _ _ _ => rfl
theorem Fy.rf : Fy σ σ := fun _ _ _ _ _ _ => rfl
theorem Fx.tr (h : Fx σ0 σ) (h' : Fx σ σ') : Fx σ0 σ' := fun k i s a1 a2 a3 a4 a5 a6 => (h' k i s a1 a2 a3 a4 a5 a6).trans (h k i s a1 a2 a3 a4 a5 a6)
theorem Fy.tr (h : Fy σ0 σ) (h' : Fy σ σ') : Fy σ0 σ' := fun k i s a1 a2 a3 => (h' k i s a1 a2 a3).trans (h k i s a1 a2 a3)
theorem Ft.fx (h : Ft σ σ') : Fx σ σ' := fun k i s a1 a2 a3 a4 a5 a6 => h k i s (by omega)
theorem Gt.fy (h : Gt σ σ') : Fy σ σ' := fun k i s a1 a2 a3 => h k i s (by omega)
theorem Fx.up {k i s : Nat} {v : Int32} (hk : k = 15 ∨ (k = 3 ∧ i = 0) ∨ ((k = 8 ∨ k = 9) ∧ i < 3) ∨ (10 ≤ k ∧ k ≤ 14 ∧ i < 10)) (h : Fx σ0 σ) : Fx σ0 (gup σ k i s v) := fun k' i' s' a1 a2 a3 a4 a5 a6 => by
  unfold gup
  rw [if_neg (by rintro ⟨rfl, rfl, rfl⟩; omega)]
  exact h k' i' s' a1 a2 a3 a4 a5 a6
theorem Fy.up {k i s : Nat} {v : Int32} (hk : k = 31 ∨ k = 33 ∨ (k = 28 ∧ 11 ≤ s ∧ s ≤ 18)) (h : Fy σ0 σ) : Fy σ0 (gup σ k i s v) := fun k' i' s' a1 a2 a3 => by
  unfold gup
  rw [if_neg (by rintro ⟨rfl, rfl, rfl⟩; omega)]
  exact h k' i' s' a1 a2 a3
/-- both found the same fault at the same place -/
def F2 (σ0 τ0 : gSt) (a b : Int32 × gSt) : Prop := a.1 = 0 ∧ b.1 = 0 ∧ Fx σ0 a.2 ∧ Fy τ0 b.2 ∧ a.2 15 0 7 = b.2 28 0 17 ∧ a.2 15 0 8 = b.2 28 0 18
def R2 (σ0 τ0 : gSt) (P : gSt → gSt → Prop) (a b : Int32 × gSt) : Prop := F2 σ0 τ0 a b ∨ (a.1 = 1 ∧ b.1 = 1 ∧ P a.2 b.2)
def er (v : Int32) (τ : gSt) : gSt := gup (gup τ 28 0 17 v) 28 0 18 ((gup τ 28 0 17 v) 28 0 12)
theorem M_errs {v : Int32} : f_X12_errs v τ = some (0, er v τ) := rfl
theorem X_failed {v : Int32} : f_X8_failed v σ = some (0, gup σ 15 0 7 v) := rfl
theorem F2.mk {v : Int32} (h : Fx σ0 σ) (h' : Fy τ0 τ) (hp : σ 15 0 8 = τ 28 0 12) : F2 σ0 τ0 (0, gup σ 15 0 7 v) (0, er v τ) := by
  refine ⟨rfl, rfl, h.up (by omega), (h'.up (by omega)).up (by omega), ?_, ?_⟩
  · show gup σ 15 0 7 v 15 0 7 = er v τ 28 0 17
    unfold er
    rw [gup_same, gup_slot (by decide), gup_same]
  · show gup σ 15 0 7 v 15 0 8 = er v τ 28 0 18
    unfold er
    rw [gup_same, gup_slot (by decide), gup_slot (by decide), hp]
/-- a fault goes on as a fault -/
theorem F2.bad {a b : Int32 × gSt} {X Y : Option (Int32 × gSt)} {P : gSt → gSt → Prop} (h : F2 σ0 τ0 a b) : W2 (if a.1 = 0 then some (0, a.2) else X) (if b.1 = 0 then some (0, b.2) else Y) (R2 σ0 τ0 P) :=
  W2.xt h.1 (W2.yt h.2.1 (W2.ret (Or.inl ⟨rfl, rfl, h.2.2⟩)))
theorem F2.fin {a b : Int32 × gSt} {P : gSt → gSt → Prop} (h : F2 σ0 τ0 a b) : W2 (some a) (some b) (R2 σ0 τ0 P) := W2.ret (Or.inl h)
theorem er2 {v : Int32} {P : gSt → gSt → Prop} (h : Fx σ0 σ) (h' : Fy τ0 τ) (hp : σ 15 0 8 = τ 28 0 12) : W2 (f_X8_failed v σ |>.bind fun p => gzr p.1 p.2) (f_X12_errs v τ |>.bind fun p => gzr p.1 p.2) (R2 σ0 τ0 P) := W2.ret (Or.inl (F2.mk h h' hp))
/-- the class's draft holds d and the names, with its own counts -/
def DR (nc nr : Nat) (d N : Nat → Nat) (σ : gSt) : Prop := (σ 3 0 3 = nI nc ∧ σ 3 0 4 = nI nr ∧ σ 3 0 5 = nI (d 2) ∧ σ 3 0 6 = nI (d 3)) ∧ (∀ c, c < d 0 → XC σ c (d (4 + c)) (dC d c) ∧ isW (fun q => N (6 * c + q)) ∧ σ 8 c 1 = nI (wval (fun q => N (6 * c + q)) 6)) ∧ ∀ a, a < d 1 → (σ 10 a 5 = nI (d (37 + a)) ∧ σ 10 a 6 = nI (d (47 + a)) ∧ σ 10 a 7 = nI (d (57 + a)) ∧ XP σ a (d (67 + a)) (dP d a) (dT d a)) ∧ isW (fun q => N (6 * (3 + a) + q)) ∧ σ 10 a 4 = nI (wval (fun q => N (6 * (3 + a) + q)) 6)
theorem wval_cg {w w' : Nat → Nat} : ∀ m, (∀ q, q < m → w' q = w q) → wval w' m = wval w m := by
  intro m
  induction m with
  | zero => intro h; rfl
  | succ m ih => intro h; rw [wval, wval, h m (by omega), ih (fun q hq => h q (by omega))]
theorem isW_cg {w w' : Nat → Nat} (h : ∀ q, q < 6 → w' q = w q) (hw : isW w) : isW w' := by
  obtain ⟨h1, h2, h3⟩ := hw
  refine ⟨by rw [h 0 (by omega)]; exact h1, fun q hq => by rw [h q hq]; exact h2 q hq, fun q hq => ?_⟩
  rw [h q (by omega), h (q + 1) hq]
  exact h3 q hq
theorem DR.cg (h : DR nc nr d N σ) {nc' nr' : Nat} (h3 : σ' 3 0 3 = nI nc' ∧ σ' 3 0 4 = nI nr' ∧ σ' 3 0 5 = nI (e 2) ∧ σ' 3 0 6 = nI (e 3)) (h0 : e 0 = d 0) (h1 : e 1 = d 1) (hc : ∀ c, c < d 0 → AgC d e c) (ha : ∀ a, a < d 1 → AgP d e a) (hN : ∀ j, (j < 6 * d 0 ∨ (18 ≤ j ∧ j < 18 + 6 * d 1)) → N' j = N j) (hs : ∀ c, c < d 0 → ∀ s, (σ' 8 c s = σ 8 c s) ∧ σ' 9 c s = σ 9 c s) (ht : ∀ a, a < d 1 → ∀ k s, 10 ≤ k → k ≤ 12 → (σ' k a s = σ k a s)) : DR nc' nr' e N' σ' := by
  obtain ⟨g1, g2, g3⟩ := h
  refine ⟨h3, fun c hcc => ?_, fun a haa => ?_⟩
  · rw [h0] at hcc
    obtain ⟨p1, p2, p3⟩ := g2 c hcc
    have hq : ∀ q, q < 6 → N' (6 * c + q) = N (6 * c + q) := fun q hq => hN _ (by omega)
    refine ⟨?_, isW_cg (w := fun q => N (6 * c + q)) hq p2, ?_⟩
    · rw [(hc c hcc).1]
      exact XC_cg (p1.same (hs c hcc 2).1 (fun i => (hs c hcc i).2)) (fun i hi => (hc c hcc).2 i hi)
    · rw [(hs c hcc 1).1, p3, wval_cg (w := fun q => N (6 * c + q)) 6 hq]
  · rw [h1] at haa
    obtain ⟨⟨p1, p2, p3, p4⟩, p5, p6⟩ := g3 a haa
    obtain ⟨q1, q2, q3, q4, q5⟩ := ha a haa
    have hq : ∀ q, q < 6 → N' (6 * (3 + a) + q) = N (6 * (3 + a) + q) := fun q hq => hN _ (by omega)
    have tt := ht a haa
    refine ⟨⟨?_, ?_, ?_, ?_⟩, isW_cg (w := fun q => N (6 * (3 + a) + q)) hq p5, ?_⟩
    · rw [tt 10 5 (by omega) (by omega), p1, q1]
    · rw [tt 10 6 (by omega) (by omega), p2, q2]
    · rw [tt 10 7 (by omega) (by omega), p3, q3]
    · rw [q4]
      exact XP_cg (p4.same (tt 10 8 (by omega) (by omega)) (fun k => tt 11 k (by omega) (by omega)) (fun k => tt 12 k (by omega) (by omega))) (fun k hk => q5 k hk)
    · rw [tt 10 4 (by omega) (by omega), p6, wval_cg (w := fun q => N (6 * (3 + a) + q)) 6 hq]
theorem DR.ft (h : DR nc nr d N σ) (hf : Ft σ σ') : DR nc nr d N σ' :=
  h.cg ⟨(hf 3 0 3 (by omega)).trans h.1.1, (hf 3 0 4 (by omega)).trans h.1.2.1, (hf 3 0 5 (by omega)).trans h.1.2.2.1, (hf 3 0 6 (by omega)).trans h.1.2.2.2⟩ rfl rfl (fun _ _ => AgC.rf) (fun _ _ => AgP.rf) (fun _ _ => rfl) (fun c _ s => ⟨hf 8 c s (by omega), hf 9 c s (by omega)⟩) (fun a _ k s k1 k2 => hf k a s (by omega))
/-- where both are while they read -/
def CX (σ0 : gSt) (B : Nat → Nat) (n L u : Nat) (nc nr : Nat) (d N : Nat → Nat) (σ : gSt) : Prop := Fx σ0 σ ∧ XB B n L σ ∧ σ 15 0 6 = nI u ∧ σ 15 0 7 = 0 ∧ DR nc nr d N σ
def CM (τ0 : gSt) (B : Nat → Nat) (n u : Nat) (d N : Nat → Nat) (τ : gSt) : Prop := Fy τ0 τ ∧ MB B n τ ∧ τ 28 0 16 = nI (4 * u) ∧ (∀ j, j < 397 → τ 31 0 j = nI (d j)) ∧ ∀ j, j < 78 → N j < 4294967296 ∧ τ 33 0 j = nI (N j)
theorem CX.ft (h : CX σ0 B n L u nc nr d N σ) (hf : Ft σ σ') : CX σ0 B n L u nc nr d N σ' := ⟨h.1.tr hf.fx, h.2.1.ft hf, (hf 15 0 6 (by omega)).trans h.2.2.1, (hf 15 0 7 (by omega)).trans h.2.2.2.1, h.2.2.2.2.ft hf⟩
theorem CM.gt (h : CM τ0 B n u d N τ) (hf : Gt τ τ') : CM τ0 B n u d N τ' := ⟨h.1.tr hf.fy, h.2.1.gt hf, (hf 28 0 16 (by omega)).trans h.2.2.1, fun j hj => (hf 31 0 j (by omega)).trans (h.2.2.2.1 j hj), fun j hj => ⟨(h.2.2.2.2 j hj).1, (hf 33 0 j (by omega)).trans (h.2.2.2.2 j hj).2⟩⟩
/-- one token on -/
theorem CX.adv {β γ : Type} {f : gSt → Option β} {y : Option γ} {Q : β → γ → Prop} (h : CX σ0 B n L u nc nr d N σ) (hs : s ≤ n) (h3 : σ 15 0 3 = nI s) (k : ∀ σ', Ft σ σ' → CX σ0 B n L u nc nr d N σ' → XT B n s σ' → W2 (f σ') y Q) : W2 ((f_X8_advance σ).bind f) y Q :=
  W2.x (X_advance h.2.1 hs h3) (fun σ' a => k σ' a.1 (h.ft a.1) a.2)
theorem CM.adv {β γ : Type} {f : gSt → Option β} {y : Option γ} {Q : γ → β → Prop} (h : CM τ0 B n u d N τ) (hs : s ≤ n) (h3 : τ 28 0 13 = nI s) (k : ∀ τ', Gt τ τ' → CM τ0 B n u d N τ' → MT B n s τ' → W2 y (f τ') Q) : W2 y ((f_X12_goesOn τ).bind f) Q :=
  W2.y (M_goesOn h.2.1 hs h3) (fun τ' a => k τ' a.1 (h.gt a.1) a.2)
/-- the value of a number -/
def tv (B : Nat → Nat) (n s : Nat) : Nat := dv B (tP B n s) (tQ B n s - tP B n s)
theorem X_isWhole (hX : XT B n s σ) (hs : s ≤ n) (hk : tK B n s < 256) {lo hi : Nat} (hlo : lo < 2147483648) (hhi : hi < 2147483648) : f_X8_isWhole (nI lo) (nI hi) σ = some (if tK B n s = 3 then if lo ≤ tv B n s ∧ tv B n s ≤ hi then (1, σ) else (0, gup σ 15 0 7 2) else (0, gup σ 15 0 7 1)) := by
  unfold f_X8_isWhole
  obtain ⟨x1, x2, x3, x4, x5⟩ := hX
  by_cases c : tK B n s = 3
  · have hv := (tok_D hs c).2
    rw [x3, c, if_pos (show nI (ck 3) = 2 from rfl), x5 c, if_pos rfl]
    change tv B n s < 10000 at hv
    change (if nI (tv B n s) < nI lo then _ else if nI (tv B n s) ≤ nI hi then _ else _) = _
    by_cases c1 : lo ≤ tv B n s
    · rw [if_neg (nI_nlt c1 (by omega))]
      by_cases c2 : tv B n s ≤ hi
      · rw [if_pos (nI_le c2 hhi), if_pos ⟨c1, c2⟩]
      · rw [if_neg (nI_ge (by omega) (by omega)), if_neg (fun q => c2 q.2)]; rfl
    · rw [if_pos (nI_lt (by omega) hlo), if_neg (fun q => c1 q.1)]; rfl
  · rw [x3, if_neg c, if_neg ?_]
    · rfl
    · unfold ck
      split
      · decide
      · next q1 =>
        split
        · decide
        · rw [i2]; exact nI_ne (by omega) (by decide) q1
theorem M_in {v lo hi : Nat} (hv : v < 2147483648) (hlo : lo < 2147483648) (hhi : hi < 2147483648) : f_X12_in (nI v) (nI lo) (nI hi) τ = some (if lo ≤ v ∧ v ≤ hi then 1 else 0, τ) := by
  unfold f_X12_in
  by_cases c1 : lo ≤ v
  · rw [if_neg (nI_nlt c1 (by omega))]
    by_cases c2 : v ≤ hi
    · rw [if_neg (nI_nlt c2 (by omega)), if_pos ⟨c1, c2⟩]
    · rw [if_pos (nI_lt (by omega) (by omega)), if_neg (fun q => c2 q.2)]
  · rw [if_pos (nI_lt (by omega) hlo), if_neg (fun q => c1 q.1)]
theorem pl2 (h : XT B n s σ) (h' : MT B n s τ) : σ 15 0 8 = τ 28 0 12 := h.2.1.trans h'.2.1.symm
/-- a number in bounds: both take it, or both find the same fault -/
theorem take2 (hX : CX σ0 B n L u nc nr d N σ) (hXT : XT B n s σ) (hM : CM τ0 B n u d N τ) (hMT : MT B n s τ) (hs : s ≤ n) (hk : tK B n s < 256) {lo hi j : Nat} (hlo : lo < 2147483648) (hhi : hi < 2147483648) (hj : j < 397) : (∃ a b, f_X8_isWhole (nI lo) (nI hi) σ = some a ∧ f_X12_takes (nI j) (nI lo) (nI hi) τ = some b ∧ F2 σ0 τ0 a b) ∨ (tK B n s = 3 ∧ lo ≤ tv B n s ∧ tv B n s ≤ hi ∧ tv B n s < 10000 ∧ σ 15 0 5 = nI (tv B n s) ∧ f_X8_isWhole (nI lo) (nI hi) σ = some (1, σ) ∧ ∃ τ', f_X12_takes (nI j) (nI lo) (nI hi) τ = some (1, τ') ∧ CM τ0 B n u (upd1 d j (tv B n s)) N τ' ∧ MT B n (tQ B n s) τ') := by
  rw [X_isWhole hXT hs hk hlo hhi]
  unfold f_X12_takes
  obtain ⟨y1, y2, y3, y4⟩ := hMT
  by_cases c : tK B n s = 3
  · have hv : tv B n s < 10000 := (tok_D hs c).2
    have hi15 : τ 28 0 15 = nI (tv B n s) := y4 c
    rw [if_pos c, y3, c, if_pos (show nI 3 = (3 : Int32) from rfl), hi15, M_in (by omega) hlo hhi, bind_some']
    by_cases c1 : lo ≤ tv B n s ∧ tv B n s ≤ hi
    · right
      rw [if_pos c1, if_pos c1]
      refine ⟨rfl, c1.1, c1.2, hv, hXT.2.2.2.2 c, rfl, ?_⟩
      have hq : tQ B n s ≤ n := (tQ_b hs).2.1
      have hM' : CM τ0 B n u (upd1 d j (tv B n s)) N (gup τ 31 0 j (nI (tv B n s))) := by
        refine ⟨hM.1.up (by omega), ⟨hM.2.1.1, by rw [gup_kind (by decide)]; exact hM.2.1.2.1, fun z hz => by rw [gup_kind (by decide)]; exact hM.2.1.2.2 z hz⟩, by rw [gup_kind (by decide)]; exact hM.2.2.1, fun z hz => ?_, fun z hz => by rw [gup_kind (by decide)]; exact hM.2.2.2.2 z hz⟩
        rw [gup_get]
        unfold upd1
        by_cases e : z = j
        · rw [if_pos e, if_pos e]
        · rw [if_neg e, if_neg e]; exact hM.2.2.2.1 z hz
      obtain ⟨τ', t1, t2, t3⟩ := M_goesOn hM'.2.1 hq (by rw [gup_kind (by decide)]; exact y1)
      refine ⟨τ', ?_, hM'.gt t2, t3⟩
      refine (if_neg o1n0).trans ?_
      dsimp only
      rw [hi15, gst_n hj (by decide), bind_some', t1]
      rfl
    · left
      rw [if_neg c1, if_neg c1]
      exact ⟨_, _, rfl, rfl, F2.mk hX.1 hM.1 (hXT.2.1.trans y2.symm)⟩
  · left
    rw [if_neg c, y3, if_neg (show ¬ nI (tK B n s) = 3 by rw [i3]; exact nI_ne (by omega) (by decide) c)]
    exact ⟨_, _, rfl, rfl, F2.mk hX.1 hM.1 (hXT.2.1.trans y2.symm)⟩
end TX
