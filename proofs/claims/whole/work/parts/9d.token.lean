/-! tokens, on both sides -/
def rn (q : Nat → Bool) : Nat → Nat → Nat
  | 0, s => s
  | m + 1, s => if q s = true then rn q m (s + 1) else s
theorem rn_b {q : Nat → Bool} : ∀ m s, s ≤ rn q m s ∧ rn q m s ≤ s + m ∧ (∀ z, s ≤ z → z < rn q m s → q z = true) ∧ (rn q m s = s + m ∨ q (rn q m s) = false) := by
  intro m
  induction m with
  | zero => intro s; exact ⟨Nat.le_refl _, Nat.le_refl _, fun z h1 h2 => absurd (show z < s from h2) (by omega), Or.inl rfl⟩
  | succ m ih =>
    intro s
    rw [rn]
    by_cases h : q s = true
    · rw [if_pos h]
      obtain ⟨a1, a2, a3, a4⟩ := ih (s + 1)
      refine ⟨by omega, by omega, fun z h1 h2 => ?_, ?_⟩
      · by_cases e : z = s
        · rw [e]; exact h
        · exact a3 z (by omega) h2
      · rcases a4 with w | w
        · exact Or.inl (by omega)
        · exact Or.inr w
    · rw [if_neg h]
      exact ⟨Nat.le_refl _, by omega, fun z h1 h2 => by omega, Or.inr (by simpa using h)⟩
theorem rn_pos {q : Nat → Bool} {m s : Nat} (hm : 0 < m) (h : q s = true) : s < rn q m s := by
  obtain ⟨m, rfl⟩ : ∃ k, m = k + 1 := ⟨m - 1, by omega⟩
  rw [rn, if_pos h]
  have := (rn_b (q := q) m (s + 1)).1
  omega
def isB (B : Nat → Nat) (j : Nat) : Bool := decide (B j = 32)
def isL (B : Nat → Nat) (j : Nat) : Bool := decide (97 ≤ B j ∧ B j ≤ 122)
def isD (B : Nat → Nat) (j : Nat) : Bool := decide (48 ≤ B j ∧ B j ≤ 57)
/-- where the token behind s stands, where it ends, what it is (0 none more, 1 bad, 2 a word, 3 a whole, else its sign) -/
def tP (B : Nat → Nat) (n s : Nat) : Nat := rn (isB B) (n - s) s
def tQ (B : Nat → Nat) (n s : Nat) : Nat := if n ≤ tP B n s then tP B n s else if isL B (tP B n s) = true then rn (isL B) (n - tP B n s) (tP B n s) else if isD B (tP B n s) = true then rn (isD B) (n - tP B n s) (tP B n s) else tP B n s + 1
def tK (B : Nat → Nat) (n s : Nat) : Nat := if n ≤ tP B n s then 0 else if isL B (tP B n s) = true then (if tQ B n s - tP B n s ≤ 6 then 2 else 1) else if isD B (tP B n s) = true then (if tQ B n s - tP B n s ≤ 4 then 3 else 1) else if B (tP B n s) = 59 ∨ B (tP B n s) = 44 ∨ B (tP B n s) = 58 then B (tP B n s) else 1
def ck (k : Nat) : Nat := if k = 2 then 1 else if k = 3 then 2 else if k = 1 then 3 else k
def wv (B : Nat → Nat) (p : Nat) : Nat → Nat
  | 0 => 0
  | m + 1 => wv B p m * 32 + (B (p + m) - 96)
def dv (B : Nat → Nat) (p : Nat) : Nat → Nat
  | 0 => 0
  | m + 1 => dv B p m * 10 + (B (p + m) - 48)
section TK
variable {B : Nat → Nat} {n s p m L : Nat} {σ τ τ' : gSt}
theorem tP_b (hs : s ≤ n) : s ≤ tP B n s ∧ tP B n s ≤ n := by
  have := rn_b (q := isB B) (n - s) s
  unfold tP
  omega
theorem tQ_b (hs : s ≤ n) : tP B n s ≤ tQ B n s ∧ tQ B n s ≤ n ∧ (tK B n s ≠ 0 → tP B n s < tQ B n s) := by
  have hp := tP_b (B := B) hs
  unfold tQ tK
  by_cases h : n ≤ tP B n s
  · rw [if_pos h, if_pos h]; exact ⟨Nat.le_refl _, hp.2, fun q => absurd rfl q⟩
  · rw [if_neg h]
    by_cases h2 : isL B (tP B n s) = true
    · rw [if_pos h2]
      have a := rn_b (q := isL B) (n - tP B n s) (tP B n s)
      have b := rn_pos (m := n - tP B n s) (by omega) h2
      exact ⟨a.1, by omega, fun _ => b⟩
    · rw [if_neg h2]
      by_cases h3 : isD B (tP B n s) = true
      · rw [if_pos h3]
        have a := rn_b (q := isD B) (n - tP B n s) (tP B n s)
        have b := rn_pos (m := n - tP B n s) (by omega) h3
        exact ⟨a.1, by omega, fun _ => b⟩
      · rw [if_neg h3]; exact ⟨by omega, by omega, fun _ => by omega⟩
theorem wv_b (h : ∀ z, p ≤ z → z < p + m → 97 ≤ B z ∧ B z ≤ 122) : wv B p m < 32 ^ m := by
  induction m with
  | zero => exact Nat.lt_succ_self 0
  | succ m ih =>
    have h1 := ih (fun z a b => h z a (by omega))
    have h2 := h (p + m) (by omega) (by omega)
    rw [wv, Nat.pow_succ]
    omega
theorem dv_b (h : ∀ z, p ≤ z → z < p + m → 48 ≤ B z ∧ B z ≤ 57) : dv B p m < 10 ^ m := by
  induction m with
  | zero => exact Nat.lt_succ_self 0
  | succ m ih =>
    have h1 := ih (fun z a b => h z a (by omega))
    have h2 := h (p + m) (by omega) (by omega)
    rw [dv, Nat.pow_succ]
    omega
theorem longer_n {w b : Nat} (hw : w < 33554432) (hb : 97 ≤ b ∧ b ≤ 122) : f_X10_longer (nI w) (nI b) σ = some (nI (w * 32 + (b - 96)), σ) := by
  unfold f_X10_longer
  have e1 : nI w <<< (5 &&& 31 : Int32) = nI (w * 2 ^ 5) := pk_shlN (5 &&& 31) 5 (by decide) (by omega)
  have e2 : nI b &&& 31 = nI (b % 2 ^ 5) := pk_andN (by omega) 5 (by decide)
  have e3 : b % 2 ^ 5 = b - 96 := by omega
  rw [e1, e2, e3]
  have e4 : nI (w * 2 ^ 5) ||| nI (b - 96) = nI (w * 32 + (b - 96)) := by
    apply Int32.toBitVec_inj.mp
    apply BitVec.eq_of_toNat_eq
    rw [Int32.toBitVec_or, BitVec.toNat_or, pk_tn (by omega), pk_tn (by omega), pk_tn (by omega)]
    have := Nat.two_pow_add_eq_or_of_lt (i := 5) (b := b - 96) (by omega) w
    rw [Nat.mul_comm w, ← this]
  rw [e4]
/-- what both need: the tape, the length of the text -/
def XB (B : Nat → Nat) (n L : Nat) (τ : gSt) : Prop := n ≤ L ∧ L ≤ 900 ∧ τ 1 0 1 = nI L ∧ τ 15 0 2 = nI n ∧ ∀ j, j < n → B j < 256 ∧ τ 2 0 j = nI (B j)
def MB (B : Nat → Nat) (n : Nat) (τ : gSt) : Prop := n ≤ 900 ∧ τ 28 0 11 = nI n ∧ ∀ j, j < n → B j < 256 ∧ τ 29 0 j = nI (B j)
/-- only the token's cells change -/
def Ft (σ τ : gSt) : Prop := ∀ k i s, ¬ (k = 15 ∧ i = 0 ∧ (s = 3 ∨ s = 4 ∨ s = 5 ∨ s = 8)) → τ k i s = σ k i s
def Gt (σ τ : gSt) : Prop := ∀ k i s, ¬ (k = 28 ∧ i = 0 ∧ (s = 12 ∨ s = 13 ∨ s = 14 ∨ s = 15)) → τ k i s = σ k i s
theorem Ft.rf : Ft σ σ := fun _ _ _ _ => rfl
theorem Gt.rf : Gt σ σ := fun _ _ _ _ => rfl
theorem Ft.tr (h : Ft σ τ) (h' : Ft τ τ') : Ft σ τ' := fun k i s a => (h' k i s a).trans (h k i s a)
theorem Gt.tr (h : Gt σ τ) (h' : Gt τ τ') : Gt σ τ' := fun k i s a => (h' k i s a).trans (h k i s a)
theorem Ft.up {s' : Nat} {v : Int32} (hs : s' = 3 ∨ s' = 4 ∨ s' = 5 ∨ s' = 8) (h : Ft σ τ) : Ft σ (gup τ 15 0 s' v) := fun k i s a => by
  show (if k = 15 ∧ i = 0 ∧ s = s' then v else τ k i s) = _
  rw [if_neg (fun q => a ⟨q.1, q.2.1, by omega⟩)]
  exact h k i s a
theorem Gt.up {s' : Nat} {v : Int32} (hs : s' = 12 ∨ s' = 13 ∨ s' = 14 ∨ s' = 15) (h : Gt σ τ) : Gt σ (gup τ 28 0 s' v) := fun k i s a => by
  show (if k = 28 ∧ i = 0 ∧ s = s' then v else τ k i s) = _
  rw [if_neg (fun q => a ⟨q.1, q.2.1, by omega⟩)]
  exact h k i s a
theorem XB.ft (h : XB B n L σ) (hf : Ft σ τ) : XB B n L τ := ⟨h.1, h.2.1, (hf 1 0 1 (by omega)).trans h.2.2.1, (hf 15 0 2 (by omega)).trans h.2.2.2.1, fun j hj => ⟨(h.2.2.2.2 j hj).1, (hf 2 0 j (by omega)).trans (h.2.2.2.2 j hj).2⟩⟩
theorem MB.gt (h : MB B n σ) (hf : Gt σ τ) : MB B n τ := ⟨h.1, (hf 28 0 11 (by omega)).trans h.2.1, fun j hj => ⟨(h.2.2 j hj).1, (hf 29 0 j (by omega)).trans (h.2.2 j hj).2⟩⟩
theorem X_byteAt (h : XB B n L τ) {j : Nat} (hj : j < n) : f_X10_byteAt (nI j) τ = some (nI (B j), τ) := by
  unfold f_X10_byteAt
  have h1 := h.1
  have h2 := h.2.1
  rw [if_neg (nI_pos (by omega)), h.2.2.1, if_neg (nI_ge (by omega) (by omega)), if_neg (by rw [i900]; exact nI_ge (by omega) (by decide)), gld_n (by omega) (by decide), bind_some', (h.2.2.2.2 j hj).2]
theorem X_byteAny (h : XB B n L τ) {j : Nat} (hj : j ≤ 900) : ∃ v, f_X10_byteAt (nI j) τ = some (v, τ) := by
  unfold f_X10_byteAt
  have h2 := h.2.1
  rw [if_neg (nI_pos (by omega)), h.2.2.1]
  by_cases c : L ≤ j
  · rw [if_pos (nI_le c (by omega))]; exact ⟨_, rfl⟩
  · rw [if_neg (nI_ge (by omega) (by omega)), if_neg (by rw [i900]; exact nI_ge (by omega) (by decide)), gld_n (by omega) (by decide), bind_some']
    exact ⟨_, rfl⟩
theorem M_see (h : MB B n τ) {j : Nat} (hj : j < n) : f_X12_see (nI j) τ = some (nI (B j), τ) := by
  unfold f_X12_see
  have h1 := h.1
  rw [h.2.1, if_neg (nI_ge hj (by omega)), gld_n (by omega) (by decide), bind_some', (h.2.2 j hj).2]
theorem M_seeE (h : MB B n τ) : f_X12_see (nI n) τ = some (-1, τ) := by
  unfold f_X12_see
  have h1 := h.1
  rw [h.2.1, if_pos (nI_le (Nat.le_refl _) (by omega))]
theorem X_isLetter {b : Nat} (hb : b < 256) : f_X10_isLetter (nI b) σ = some (if 97 ≤ b ∧ b ≤ 122 then 1 else 0, σ) := by
  unfold f_X10_isLetter
  by_cases h1 : b < 97
  · rw [if_pos (by rw [i97]; exact nI_lt h1 (by decide)), if_neg (by omega)]
  · rw [if_neg (by rw [i97]; exact nI_nlt (by omega) (by omega))]
    by_cases h2 : 122 < b
    · rw [if_pos (by rw [i122]; exact nI_lt h2 (by omega)), if_neg (by omega)]
    · rw [if_neg (by rw [i122]; exact nI_nlt (by omega) (by omega)), if_pos (by omega)]
theorem X_isDigit {b : Nat} (hb : b < 256) : f_X8_isDigit (nI b) σ = some (if 48 ≤ b ∧ b ≤ 57 then 1 else 0, σ) := by
  unfold f_X8_isDigit
  by_cases h1 : b < 48
  · rw [if_pos (by rw [i48]; exact nI_lt h1 (by decide)), if_neg (by omega)]
  · rw [if_neg (by rw [i48]; exact nI_nlt (by omega) (by omega))]
    by_cases h2 : 57 < b
    · rw [if_pos (by rw [i57]; exact nI_lt h2 (by omega)), if_neg (by omega)]
    · rw [if_neg (by rw [i57]; exact nI_nlt (by omega) (by omega)), if_pos (by omega)]
theorem M_inL {b : Nat} (hb : b < 256) : f_X12_in (nI b) 97 122 σ = some (if 97 ≤ b ∧ b ≤ 122 then 1 else 0, σ) := by
  unfold f_X12_in
  by_cases h1 : b < 97
  · rw [if_pos (by rw [i97]; exact nI_lt h1 (by decide)), if_neg (by omega)]
  · rw [if_neg (by rw [i97]; exact nI_nlt (by omega) (by omega))]
    by_cases h2 : 122 < b
    · rw [if_pos (by rw [i122]; exact nI_lt h2 (by omega)), if_neg (by omega)]
    · rw [if_neg (by rw [i122]; exact nI_nlt (by omega) (by omega)), if_pos (by omega)]
theorem M_inD {b : Nat} (hb : b < 256) : f_X12_in (nI b) 48 57 σ = some (if 48 ≤ b ∧ b ≤ 57 then 1 else 0, σ) := by
  unfold f_X12_in
  by_cases h1 : b < 48
  · rw [if_pos (by rw [i48]; exact nI_lt h1 (by decide)), if_neg (by omega)]
  · rw [if_neg (by rw [i48]; exact nI_nlt (by omega) (by omega))]
    by_cases h2 : 57 < b
    · rw [if_pos (by rw [i57]; exact nI_lt h2 (by omega)), if_neg (by omega)]
    · rw [if_neg (by rw [i57]; exact nI_nlt (by omega) (by omega)), if_pos (by omega)]
/-- a word, a whole is read -/
theorem X_word5 (hp : p ≤ n) : ∀ (m z fuel : Nat) (τ : gSt), z + m = n → p ≤ z → m < fuel → XB B n L τ → τ 15 0 3 = nI z → τ 15 0 8 = nI p → (∀ y, p ≤ y → y < z → 97 ≤ B y ∧ B y ≤ 122) → (z - p ≤ 6 → τ 15 0 5 = nI (wv B p (z - p))) → Wp (f_X8_readWord_5 fuel τ) (fun τ' => Ft τ τ' ∧ τ' 15 0 8 = nI p ∧ τ' 15 0 3 = nI (rn (isL B) m z) ∧ τ' 15 0 4 = nI (if rn (isL B) m z - p ≤ 6 then 1 else 3) ∧ (rn (isL B) m z - p ≤ 6 → τ' 15 0 5 = nI (wv B p (rn (isL B) m z - p)))) := by
  have fin : ∀ (z : Nat) (τ : gSt), p ≤ z → z ≤ n → n ≤ 900 → τ 15 0 3 = nI z → τ 15 0 8 = nI p → (z - p ≤ 6 → τ 15 0 5 = nI (wv B p (z - p))) → Wp (f_X8_readWord_68 τ) (fun τ' => Ft τ τ' ∧ τ' 15 0 8 = nI p ∧ τ' 15 0 3 = nI z ∧ τ' 15 0 4 = nI (if z - p ≤ 6 then 1 else 3) ∧ (z - p ≤ 6 → τ' 15 0 5 = nI (wv B p (z - p)))) := by
    intro z τ h1 h2 h3 a3 a8 a5
    unfold f_X8_readWord_68
    rw [a3, a8, nI_sub h1]
    by_cases c : z - p ≤ 6
    · refine Wp.f (by rw [i6]; exact nI_nlt c (by decide)) (Wp.ret ⟨Ft.up (by omega) Ft.rf, by rw [gup_slot (by decide)]; exact a8, by rw [gup_slot (by decide)]; exact a3, by rw [gup_same, if_pos c]; rfl, fun q => by rw [gup_slot (by decide)]; exact a5 q⟩)
    · refine Wp.t (by rw [i6]; exact nI_lt (by omega) (by omega)) (Wp.ret ⟨Ft.up (by omega) Ft.rf, by rw [gup_slot (by decide)]; exact a8, by rw [gup_slot (by decide)]; exact a3, by rw [gup_same, if_neg c]; rfl, fun q => absurd q c⟩)
  intro m
  induction m with
  | zero =>
    intro z fuel τ h1 h2 h3 hB a3 a8 aL a5
    obtain ⟨fuel, rfl⟩ : ∃ g, fuel = g + 1 := ⟨fuel - 1, by omega⟩
    have hn := hB.1
    have hn2 := hB.2.1
    rw [f_X8_readWord_5]
    refine Wp.t (by rw [a3, hB.2.2.2.1]; exact nI_le (by omega) (by omega)) ?_
    exact fin z τ h2 (by omega) (by omega) a3 a8 a5
  | succ m ih =>
    intro z fuel τ h1 h2 h3 hB a3 a8 aL a5
    obtain ⟨fuel, rfl⟩ : ∃ g, fuel = g + 1 := ⟨fuel - 1, by omega⟩
    have hn := hB.1
    have hn2 := hB.2.1
    have bb := (hB.2.2.2.2 z (by omega)).1
    rw [f_X8_readWord_5]
    refine Wp.f (by rw [a3, hB.2.2.2.1]; exact nI_ge (by omega) (by omega)) ?_
    rw [a3]
    refine Wp.eq (X_byteAt hB (show z < n by omega)) ?_
    refine Wp.eq (X_isLetter bb) ?_
    rw [rn]
    by_cases c : 97 ≤ B z ∧ B z ≤ 122
    · rw [if_pos c, if_pos (show isL B z = true from decide_eq_true c)]
      refine Wp.f o1n0 ?_
      refine Wp.eq (a := (nI (B z), τ)) (by show f_X10_byteAt (τ 15 0 3) τ = _; rw [a3]; exact X_byteAt hB (by omega)) ?_
      obtain ⟨x, hx1, hx2⟩ : ∃ x, f_X10_longer (τ 15 0 5) (nI (B z)) τ = some (x, τ) ∧ (z + 1 - p ≤ 6 → x = nI (wv B p (z + 1 - p))) := by
        by_cases c6 : z + 1 - p ≤ 6
        · have hwb := wv_b (B := B) (p := p) (m := z - p) (fun y q1 q2 => aL y q1 (by omega))
          have hpw : 32 ^ (z - p) ≤ 32 ^ 5 := Nat.pow_le_pow_right (by decide) (by omega)
          refine ⟨nI (wv B p (z - p) * 32 + (B z - 96)), ?_, fun _ => ?_⟩
          · rw [a5 (by omega)]
            exact longer_n (by omega) c
          · rw [show z + 1 - p = z - p + 1 by omega, wv, show p + (z - p) = z by omega]
        · exact ⟨_, rfl, fun q => absurd q c6⟩
      refine Wp.eq hx1 ?_
      dsimp only
      refine Wp.mono (ih (z + 1) fuel _ (by omega) (by omega) (by omega) (hB.ft (Ft.up (by omega) (Ft.up (by omega) Ft.rf))) (by rw [gup_same, gup_slot (by decide), a3, nI_1]) (by rw [gup_slot (by decide), gup_slot (by decide)]; exact a8) (fun y q1 q2 => by
        by_cases ey : y = z
        · rw [ey]; exact c
        · exact aL y q1 (by omega)) (fun q => by rw [gup_slot (by decide), gup_same]; exact hx2 q)) (fun τ' hq => ⟨(Ft.up (by omega) (Ft.up (by omega) Ft.rf)).tr hq.1, hq.2⟩)
    · rw [if_neg c, if_neg (show ¬ isL B z = true from fun q => c (of_decide_eq_true q))]
      refine Wp.t rfl ?_
      exact fin z τ h2 (by omega) (by omega) a3 a8 a5
theorem X_whole5 (hp : p ≤ n) : ∀ (m z fuel : Nat) (τ : gSt), z + m = n → p ≤ z → m < fuel → XB B n L τ → τ 15 0 3 = nI z → τ 15 0 8 = nI p → (∀ y, p ≤ y → y < z → 48 ≤ B y ∧ B y ≤ 57) → (z - p ≤ 4 → τ 15 0 5 = nI (dv B p (z - p))) → Wp (f_X8_readWhole_5 fuel τ) (fun τ' => Ft τ τ' ∧ τ' 15 0 8 = nI p ∧ τ' 15 0 3 = nI (rn (isD B) m z) ∧ τ' 15 0 4 = nI (if rn (isD B) m z - p ≤ 4 then 2 else 3) ∧ (rn (isD B) m z - p ≤ 4 → τ' 15 0 5 = nI (dv B p (rn (isD B) m z - p)))) := by
  have fin : ∀ (z : Nat) (τ : gSt), p ≤ z → z ≤ n → n ≤ 900 → τ 15 0 3 = nI z → τ 15 0 8 = nI p → (z - p ≤ 4 → τ 15 0 5 = nI (dv B p (z - p))) → Wp (f_X8_readWhole_72 τ) (fun τ' => Ft τ τ' ∧ τ' 15 0 8 = nI p ∧ τ' 15 0 3 = nI z ∧ τ' 15 0 4 = nI (if z - p ≤ 4 then 2 else 3) ∧ (z - p ≤ 4 → τ' 15 0 5 = nI (dv B p (z - p)))) := by
    intro z τ h1 h2 h3 a3 a8 a5
    unfold f_X8_readWhole_72
    rw [a3, a8, nI_sub h1]
    by_cases c : z - p ≤ 4
    · refine Wp.f (by rw [i4]; exact nI_nlt c (by decide)) (Wp.ret ⟨Ft.up (by omega) Ft.rf, by rw [gup_slot (by decide)]; exact a8, by rw [gup_slot (by decide)]; exact a3, by rw [gup_same, if_pos c]; rfl, fun q => by rw [gup_slot (by decide)]; exact a5 q⟩)
    · refine Wp.t (by rw [i4]; exact nI_lt (by omega) (by omega)) (Wp.ret ⟨Ft.up (by omega) Ft.rf, by rw [gup_slot (by decide)]; exact a8, by rw [gup_slot (by decide)]; exact a3, by rw [gup_same, if_neg c]; rfl, fun q => absurd q c⟩)
  intro m
  induction m with
  | zero =>
    intro z fuel τ h1 h2 h3 hB a3 a8 aL a5
    obtain ⟨fuel, rfl⟩ : ∃ g, fuel = g + 1 := ⟨fuel - 1, by omega⟩
    have hn := hB.1
    have hn2 := hB.2.1
    rw [f_X8_readWhole_5]
    refine Wp.t (by rw [a3, hB.2.2.2.1]; exact nI_le (by omega) (by omega)) ?_
    exact fin z τ h2 (by omega) (by omega) a3 a8 a5
  | succ m ih =>
    intro z fuel τ h1 h2 h3 hB a3 a8 aL a5
    obtain ⟨fuel, rfl⟩ : ∃ g, fuel = g + 1 := ⟨fuel - 1, by omega⟩
    have hn := hB.1
    have hn2 := hB.2.1
    have bb := (hB.2.2.2.2 z (by omega)).1
    rw [f_X8_readWhole_5]
    refine Wp.f (by rw [a3, hB.2.2.2.1]; exact nI_ge (by omega) (by omega)) ?_
    rw [a3]
    refine Wp.eq (X_byteAt hB (show z < n by omega)) ?_
    refine Wp.eq (X_isDigit bb) ?_
    rw [rn]
    by_cases c : 48 ≤ B z ∧ B z ≤ 57
    · rw [if_pos c, if_pos (show isD B z = true from decide_eq_true c)]
      refine Wp.f o1n0 ?_
      refine Wp.eq (a := (nI (B z), τ)) (by show f_X10_byteAt (τ 15 0 3) τ = _; rw [a3]; exact X_byteAt hB (by omega)) ?_
      have hx2 : z + 1 - p ≤ 4 → τ 15 0 5 * 10 + (nI (B z) - 48) = nI (dv B p (z + 1 - p)) := fun q => by
        rw [a5 (by omega), i10, nI_mul, i48, nI_sub c.1, nI_add, show z + 1 - p = z - p + 1 by omega, dv, show p + (z - p) = z by omega]
      dsimp only
      refine Wp.mono (ih (z + 1) fuel _ (by omega) (by omega) (by omega) (hB.ft (Ft.up (by omega) (Ft.up (by omega) Ft.rf))) (by rw [gup_same, gup_slot (by decide), a3, nI_1]) (by rw [gup_slot (by decide), gup_slot (by decide)]; exact a8) (fun y q1 q2 => by
        by_cases ey : y = z
        · rw [ey]; exact c
        · exact aL y q1 (by omega)) (fun q => by rw [gup_slot (by decide), gup_same]; exact hx2 q)) (fun τ' hq => ⟨(Ft.up (by omega) (Ft.up (by omega) Ft.rf)).tr hq.1, hq.2⟩)
    · rw [if_neg c, if_neg (show ¬ isD B z = true from fun q => c (of_decide_eq_true q))]
      refine Wp.t rfl ?_
      exact fin z τ h2 (by omega) (by omega) a3 a8 a5
end TK
