/-! PURE PART: numbers, and programs that may fail -/
theorem gld_n {σ : gSt} {k i n j : Nat} (h : j < n) (hn : n ≤ 2147483648) : gld σ k i n (nI j) = some (σ k i j) := by
  unfold gld
  rw [if_pos (gin_iff.mpr (by rw [nI_toInt (by omega)]; omega)), nI_cl (by omega)]
theorem gst_n {σ : gSt} {k i n j : Nat} {v : Int32} (h : j < n) (hn : n ≤ 2147483648) : gst σ k i n (nI j) v = some (gup σ k i j v) := by
  unfold gst
  rw [if_pos (gin_iff.mpr (by rw [nI_toInt (by omega)]; omega)), nI_cl (by omega)]
theorem gox_n {n j : Nat} (h : j < n) (hn : n ≤ 2147483648) : gox n (nI j) = some j := by
  unfold gox
  rw [if_pos (gin_iff.mpr (by rw [nI_toInt (by omega)]; omega)), nI_cl (by omega)]
theorem nI_mul (a b : Nat) : nI a * nI b = nI (a * b) := (Int32.ofNat_mul a b).symm
theorem nI_sub {a b : Nat} (h : b ≤ a) : nI a - nI b = nI (a - b) := by
  have h1 : nI a = nI (a - b) + nI b := by rw [nI_add, Nat.sub_add_cancel h]
  rw [h1, Int32.add_sub_cancel]
theorem nI_dec {a : Nat} (h : 0 < a) : nI a + (-1) = nI (a - 1) := by
  obtain ⟨b, rfl⟩ : ∃ b, a = b + 1 := ⟨a - 1, by omega⟩
  rw [← Int32.sub_eq_add_neg, nI_pred]
  rfl
theorem nI_0m : nI 0 + (-1) = -1 := by decide
theorem m1_lt0 : (-1 : Int32) < 0 := by decide
theorem m1_ne0 : ¬ (-1 : Int32) = 0 := by decide
theorem nI_nm1 {a : Nat} (h : a < 2147483648) : ¬ nI a = -1 := fun q => by
  have := congrArg Int32.toInt q
  rw [nI_toInt h, show ((-1 : Int32)).toInt = -1 by decide] at this
  omega
theorem nI_nm2 {a : Nat} (h : a < 2147483648) : ¬ nI a = -2 := fun q => by
  have := congrArg Int32.toInt q
  rw [nI_toInt h, show ((-2 : Int32)).toInt = -2 by decide] at this
  omega
theorem nI_ne {a b : Nat} (ha : a < 2147483648) (hb : b < 2147483648) (h : a ≠ b) : ¬ nI a = nI b := fun q => h ((nI_inj ha hb).mp q)
theorem add0 (x : Int32) : x + 0 = x := Int32.add_zero x
theorem bind_some' {α β : Type} {a : α} {f : α → Option β} : (some a).bind f = f a := rfl
theorem i0 : (0 : Int32) = nI 0 := by decide
theorem i1 : (1 : Int32) = nI 1 := by decide
theorem i2 : (2 : Int32) = nI 2 := by decide
theorem i3 : (3 : Int32) = nI 3 := by decide
theorem i4 : (4 : Int32) = nI 4 := by decide
theorem i5 : (5 : Int32) = nI 5 := by decide
theorem i6 : (6 : Int32) = nI 6 := by decide
theorem i7 : (7 : Int32) = nI 7 := by decide
theorem i8 : (8 : Int32) = nI 8 := by decide
theorem i9 : (9 : Int32) = nI 9 := by decide
theorem i10 : (10 : Int32) = nI 10 := by decide
theorem i11 : (11 : Int32) = nI 11 := by decide
theorem i16 : (16 : Int32) = nI 16 := by decide
theorem i17 : (17 : Int32) = nI 17 := by decide
theorem i20 : (20 : Int32) = nI 20 := by decide
theorem i31 : (31 : Int32) = nI 31 := by decide
theorem i32 : (32 : Int32) = nI 32 := by decide
theorem i37 : (37 : Int32) = nI 37 := by decide
theorem i47 : (47 : Int32) = nI 47 := by decide
theorem i48 : (48 : Int32) = nI 48 := by decide
theorem i50 : (50 : Int32) = nI 50 := by decide
theorem i57 : (57 : Int32) = nI 57 := by decide
theorem i64 : (64 : Int32) = nI 64 := by decide
theorem i67 : (67 : Int32) = nI 67 := by decide
theorem i77 : (77 : Int32) = nI 77 := by decide
theorem i78 : (78 : Int32) = nI 78 := by decide
theorem i97 : (97 : Int32) = nI 97 := by decide
theorem i99 : (99 : Int32) = nI 99 := by decide
theorem i100 : (100 : Int32) = nI 100 := by decide
theorem i122 : (122 : Int32) = nI 122 := by decide
theorem i187 : (187 : Int32) = nI 187 := by decide
theorem i237 : (237 : Int32) = nI 237 := by decide
theorem i255 : (255 : Int32) = nI 255 := by decide
theorem i397 : (397 : Int32) = nI 397 := by decide
theorem i600 : (600 : Int32) = nI 600 := by decide
theorem i880 : (880 : Int32) = nI 880 := by decide
theorem i900 : (900 : Int32) = nI 900 := by decide
theorem i3970 : (3970 : Int32) = nI 3970 := by decide
theorem i9998 : (9998 : Int32) = nI 9998 := by decide
theorem i9999 : (9999 : Int32) = nI 9999 := by decide
/-- it comes to an end, with Q -/
def Wp {α : Type} (x : Option α) (Q : α → Prop) : Prop := ∃ a, x = some a ∧ Q a
theorem Wp.ret {α : Type} {a : α} {Q : α → Prop} (h : Q a) : Wp (some a) Q := ⟨a, rfl, h⟩
theorem Wp.bind {α β : Type} {x : Option α} {f : α → Option β} {P : α → Prop} {Q : β → Prop} (h : Wp x P) (k : ∀ a, P a → Wp (f a) Q) : Wp (x.bind f) Q := by
  obtain ⟨a, rfl, ha⟩ := h
  exact k a ha
theorem Wp.mono {α : Type} {x : Option α} {P Q : α → Prop} (h : Wp x P) (k : ∀ a, P a → Q a) : Wp x Q := by
  obtain ⟨a, rfl, ha⟩ := h
  exact ⟨a, rfl, k a ha⟩
theorem Wp.eq {α β : Type} {x : Option α} {a : α} {f : α → Option β} {Q : β → Prop} (h : x = some a) (k : Wp (f a) Q) : Wp (x.bind f) Q := by rw [h]; exact k
theorem Wp.ite {α : Type} {c : Prop} [Decidable c] {a b : Option α} {Q : α → Prop} (ht : c → Wp a Q) (hf : ¬ c → Wp b Q) : Wp (if c then a else b) Q := by
  by_cases h : c
  · rw [if_pos h]; exact ht h
  · rw [if_neg h]; exact hf h
theorem Wp.t {α : Type} {c : Prop} [Decidable c] {a b : Option α} {Q : α → Prop} (h : c) (k : Wp a Q) : Wp (if c then a else b) Q := by rw [if_pos h]; exact k
theorem Wp.f {α : Type} {c : Prop} [Decidable c] {a b : Option α} {Q : α → Prop} (h : ¬ c) (k : Wp b Q) : Wp (if c then a else b) Q := by rw [if_neg h]; exact k
theorem Wp.ld {β : Type} {σ : gSt} {k i n : Nat} {x v : Int32} {f : Int32 → Option β} {Q : β → Prop} (j : Nat) (hx : x = nI j) (hj : j < n) (hn : n ≤ 2147483648) (hv : σ k i j = v) (kk : Wp (f v) Q) : Wp ((gld σ k i n x).bind f) Q := by
  subst hx; subst hv; rw [gld_n hj hn]; exact kk
theorem Wp.st {β : Type} {σ : gSt} {k i n : Nat} {x v : Int32} {f : gSt → Option β} {Q : β → Prop} (j : Nat) (hx : x = nI j) (hj : j < n) (hn : n ≤ 2147483648) (kk : Wp (f (gup σ k i j v)) Q) : Wp ((gst σ k i n x v).bind f) Q := by
  subst hx; rw [gst_n hj hn]; exact kk
theorem gFuel_ge : 4000 < gFuel := by decide
theorem gup_at {σ : gSt} {k i s : Nat} {v : Int32} : gup σ k i s v k i s = v := gup_same
