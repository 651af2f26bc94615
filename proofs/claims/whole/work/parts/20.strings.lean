def RJ0 : String := "java/lang/String"
theorem pn_J0 : plainName RJ0 = true := by decide +kernel
def RJ1 : String := "java/lang/StringLatin1"
theorem pn_J1 : plainName RJ1 = true := by decide +kernel
def RJ3 : String := "jdk/internal/util/Preconditions"
theorem pn_J3 : plainName RJ3 = true := by decide +kernel
abbrev cJ0_length_8abf5 : ByteArray := prog_21_method_54_code
def yJ0_length_8abf5 : MethodName := ⟨RJ0, "length", "()I"⟩
abbrev cJ0_charAt_5068e : ByteArray := prog_21_method_56_code
def yJ0_charAt_5068e : MethodName := ⟨RJ0, "charAt", "(I)C"⟩
abbrev cJ0_coder_7d493 : ByteArray := prog_21_method_152_code
def yJ0_coder_7d493 : MethodName := ⟨RJ0, "code\x72", "()B"⟩
abbrev cJ0_isLatin1_aae02 : ByteArray := prog_21_method_154_code
def yJ0_isLatin1_aae02 : MethodName := ⟨RJ0, "isLatin1", "()Z"⟩
abbrev cJ0_checkIndex_df160 : ByteArray := prog_21_method_155_code
def yJ0_checkIndex_df160 : MethodName := ⟨RJ0, "checkIndex", "(II)V"⟩
abbrev cJ1_charAt_3b067 : ByteArray := prog_22_method_2_code
def yJ1_charAt_3b067 : MethodName := ⟨RJ1, "charAt", "([BI)C"⟩
abbrev cJ3_checkIndex_8e157 : ByteArray := prog_30_method_11_code
def yJ3_checkIndex_8e157 : MethodName := ⟨RJ3, "checkIndex", "(IILjava/util/function/BiFunction;)I"⟩
theorem dJ0_length_8abf5_0 : decode cJ0_length_8abf5 0 = .ok (.aload_n 0, 1) := by decide +kernel
theorem dJ0_length_8abf5_1 : decode cJ0_length_8abf5 1 = .ok (.getfield 9, 3) := by decide +kernel
theorem dJ0_length_8abf5_4 : decode cJ0_length_8abf5 4 = .ok (.arraylength, 1) := by decide +kernel
theorem dJ0_length_8abf5_5 : decode cJ0_length_8abf5 5 = .ok (.aload_n 0, 1) := by decide +kernel
theorem dJ0_length_8abf5_6 : decode cJ0_length_8abf5 6 = .ok (.invokevirtual 335, 3) := by decide +kernel
theorem dJ0_length_8abf5_9 : decode cJ0_length_8abf5 9 = .ok (.ishr, 1) := by decide +kernel
theorem dJ0_length_8abf5_10 : decode cJ0_length_8abf5 10 = .ok (.ireturn, 1) := by decide +kernel
theorem dJ0_charAt_5068e_0 : decode cJ0_charAt_5068e 0 = .ok (.aload_n 0, 1) := by decide +kernel
theorem dJ0_charAt_5068e_1 : decode cJ0_charAt_5068e 1 = .ok (.invokevirtual 492, 3) := by decide +kernel
theorem dJ0_charAt_5068e_4 : decode cJ0_charAt_5068e 4 = .ok (.ifCond .eq 12, 3) := by decide +kernel
theorem dJ0_charAt_5068e_7 : decode cJ0_charAt_5068e 7 = .ok (.aload_n 0, 1) := by decide +kernel
theorem dJ0_charAt_5068e_8 : decode cJ0_charAt_5068e 8 = .ok (.getfield 9, 3) := by decide +kernel
theorem dJ0_charAt_5068e_11 : decode cJ0_charAt_5068e 11 = .ok (.iload_n 1, 1) := by decide +kernel
theorem dJ0_charAt_5068e_12 : decode cJ0_charAt_5068e 12 = .ok (.invokestatic 495, 3) := by decide +kernel
theorem dJ0_charAt_5068e_15 : decode cJ0_charAt_5068e 15 = .ok (.ireturn, 1) := by decide +kernel
theorem dJ0_charAt_5068e_16 : decode cJ0_charAt_5068e 16 = .ok (.aload_n 0, 1) := by decide +kernel
theorem dJ0_charAt_5068e_17 : decode cJ0_charAt_5068e 17 = .ok (.getfield 9, 3) := by decide +kernel
theorem dJ0_charAt_5068e_20 : decode cJ0_charAt_5068e 20 = .ok (.iload_n 1, 1) := by decide +kernel
theorem dJ0_charAt_5068e_21 : decode cJ0_charAt_5068e 21 = .ok (.invokestatic 498, 3) := by decide +kernel
theorem dJ0_charAt_5068e_24 : decode cJ0_charAt_5068e 24 = .ok (.ireturn, 1) := by decide +kernel
theorem dJ0_coder_7d493_0 : decode cJ0_coder_7d493 0 = .ok (.getstatic 38, 3) := by decide +kernel
theorem dJ0_coder_7d493_3 : decode cJ0_coder_7d493 3 = .ok (.ifCond .eq 10, 3) := by decide +kernel
theorem dJ0_coder_7d493_6 : decode cJ0_coder_7d493 6 = .ok (.aload_n 0, 1) := by decide +kernel
theorem dJ0_coder_7d493_7 : decode cJ0_coder_7d493 7 = .ok (.getfield 15, 3) := by decide +kernel
theorem dJ0_coder_7d493_10 : decode cJ0_coder_7d493 10 = .ok (.goto 4, 3) := by decide +kernel
theorem dJ0_coder_7d493_13 : decode cJ0_coder_7d493 13 = .ok (.iconst 1, 1) := by decide +kernel
theorem dJ0_coder_7d493_14 : decode cJ0_coder_7d493 14 = .ok (.ireturn, 1) := by decide +kernel
theorem dJ0_isLatin1_aae02_0 : decode cJ0_isLatin1_aae02 0 = .ok (.getstatic 38, 3) := by decide +kernel
theorem dJ0_isLatin1_aae02_3 : decode cJ0_isLatin1_aae02 3 = .ok (.ifCond .eq 14, 3) := by decide +kernel
theorem dJ0_isLatin1_aae02_6 : decode cJ0_isLatin1_aae02 6 = .ok (.aload_n 0, 1) := by decide +kernel
theorem dJ0_isLatin1_aae02_7 : decode cJ0_isLatin1_aae02 7 = .ok (.getfield 15, 3) := by decide +kernel
theorem dJ0_isLatin1_aae02_10 : decode cJ0_isLatin1_aae02 10 = .ok (.ifCond .ne 7, 3) := by decide +kernel
theorem dJ0_isLatin1_aae02_13 : decode cJ0_isLatin1_aae02 13 = .ok (.iconst 1, 1) := by decide +kernel
theorem dJ0_isLatin1_aae02_14 : decode cJ0_isLatin1_aae02 14 = .ok (.goto 4, 3) := by decide +kernel
theorem dJ0_isLatin1_aae02_17 : decode cJ0_isLatin1_aae02 17 = .ok (.iconst 0, 1) := by decide +kernel
theorem dJ0_isLatin1_aae02_18 : decode cJ0_isLatin1_aae02 18 = .ok (.ireturn, 1) := by decide +kernel
theorem dJ0_checkIndex_df160_0 : decode cJ0_checkIndex_df160 0 = .ok (.iload_n 0, 1) := by decide +kernel
theorem dJ0_checkIndex_df160_1 : decode cJ0_checkIndex_df160 1 = .ok (.iload_n 1, 1) := by decide +kernel
theorem dJ0_checkIndex_df160_2 : decode cJ0_checkIndex_df160 2 = .ok (.getstatic 1053, 3) := by decide +kernel
theorem dJ0_checkIndex_df160_5 : decode cJ0_checkIndex_df160 5 = .ok (.invokestatic 1059, 3) := by decide +kernel
theorem dJ0_checkIndex_df160_8 : decode cJ0_checkIndex_df160 8 = .ok (.pop, 1) := by decide +kernel
theorem dJ0_checkIndex_df160_9 : decode cJ0_checkIndex_df160 9 = .ok (.return_, 1) := by decide +kernel
theorem dJ1_charAt_3b067_0 : decode cJ1_charAt_3b067 0 = .ok (.iload_n 1, 1) := by decide +kernel
theorem dJ1_charAt_3b067_1 : decode cJ1_charAt_3b067 1 = .ok (.aload_n 0, 1) := by decide +kernel
theorem dJ1_charAt_3b067_2 : decode cJ1_charAt_3b067 2 = .ok (.arraylength, 1) := by decide +kernel
theorem dJ1_charAt_3b067_3 : decode cJ1_charAt_3b067 3 = .ok (.invokestatic 9, 3) := by decide +kernel
theorem dJ1_charAt_3b067_6 : decode cJ1_charAt_3b067 6 = .ok (.aload_n 0, 1) := by decide +kernel
theorem dJ1_charAt_3b067_7 : decode cJ1_charAt_3b067 7 = .ok (.iload_n 1, 1) := by decide +kernel
theorem dJ1_charAt_3b067_8 : decode cJ1_charAt_3b067 8 = .ok (.baload, 1) := by decide +kernel
theorem dJ1_charAt_3b067_9 : decode cJ1_charAt_3b067 9 = .ok (.sipush 255, 3) := by decide +kernel
theorem dJ1_charAt_3b067_12 : decode cJ1_charAt_3b067 12 = .ok (.iand, 1) := by decide +kernel
theorem dJ1_charAt_3b067_13 : decode cJ1_charAt_3b067 13 = .ok (.i2c, 1) := by decide +kernel
theorem dJ1_charAt_3b067_14 : decode cJ1_charAt_3b067 14 = .ok (.ireturn, 1) := by decide +kernel
theorem dJ3_checkIndex_8e157_0 : decode cJ3_checkIndex_8e157 0 = .ok (.iload_n 0, 1) := by decide +kernel
theorem dJ3_checkIndex_8e157_1 : decode cJ3_checkIndex_8e157 1 = .ok (.ifCond .lt 8, 3) := by decide +kernel
theorem dJ3_checkIndex_8e157_4 : decode cJ3_checkIndex_8e157 4 = .ok (.iload_n 0, 1) := by decide +kernel
theorem dJ3_checkIndex_8e157_5 : decode cJ3_checkIndex_8e157 5 = .ok (.iload_n 1, 1) := by decide +kernel
theorem dJ3_checkIndex_8e157_6 : decode cJ3_checkIndex_8e157 6 = .ok (.if_icmp .lt 10, 3) := by decide +kernel
theorem dJ3_checkIndex_8e157_9 : decode cJ3_checkIndex_8e157 9 = .ok (.aload_n 2, 1) := by decide +kernel
theorem dJ3_checkIndex_8e157_10 : decode cJ3_checkIndex_8e157 10 = .ok (.iload_n 0, 1) := by decide +kernel
theorem dJ3_checkIndex_8e157_11 : decode cJ3_checkIndex_8e157 11 = .ok (.iload_n 1, 1) := by decide +kernel
theorem dJ3_checkIndex_8e157_12 : decode cJ3_checkIndex_8e157 12 = .ok (.invokestatic 95, 3) := by decide +kernel
theorem dJ3_checkIndex_8e157_15 : decode cJ3_checkIndex_8e157 15 = .ok (.athrow, 1) := by decide +kernel
theorem dJ3_checkIndex_8e157_16 : decode cJ3_checkIndex_8e157 16 = .ok (.iload_n 0, 1) := by decide +kernel
theorem dJ3_checkIndex_8e157_17 : decode cJ3_checkIndex_8e157 17 = .ok (.ireturn, 1) := by decide +kernel
theorem dX12_isWord_0 : decode cX12_isWord 0 = .ok (.aload_n 0, 1) := by decide +kernel
theorem dX12_isWord_1 : decode cX12_isWord 1 = .ok (.getfield 76, 3) := by decide +kernel
theorem dX12_isWord_4 : decode cX12_isWord 4 = .ok (.iconst 2, 1) := by decide +kernel
theorem dX12_isWord_5 : decode cX12_isWord 5 = .ok (.if_icmp .ne 19, 3) := by decide +kernel
theorem dX12_isWord_8 : decode cX12_isWord 8 = .ok (.aload_n 0, 1) := by decide +kernel
theorem dX12_isWord_9 : decode cX12_isWord 9 = .ok (.getfield 66, 3) := by decide +kernel
theorem dX12_isWord_12 : decode cX12_isWord 12 = .ok (.aload_n 0, 1) := by decide +kernel
theorem dX12_isWord_13 : decode cX12_isWord 13 = .ok (.getfield 73, 3) := by decide +kernel
theorem dX12_isWord_16 : decode cX12_isWord 16 = .ok (.isub, 1) := by decide +kernel
theorem dX12_isWord_17 : decode cX12_isWord 17 = .ok (.aload_n 1, 1) := by decide +kernel
theorem dX12_isWord_18 : decode cX12_isWord 18 = .ok (.invokevirtual 86, 3) := by decide +kernel
theorem dX12_isWord_21 : decode cX12_isWord 21 = .ok (.if_icmp .eq 5, 3) := by decide +kernel
theorem dX12_isWord_24 : decode cX12_isWord 24 = .ok (.iconst 0, 1) := by decide +kernel
theorem dX12_isWord_25 : decode cX12_isWord 25 = .ok (.ireturn, 1) := by decide +kernel
theorem dX12_isWord_26 : decode cX12_isWord 26 = .ok (.iconst 0, 1) := by decide +kernel
theorem dX12_isWord_27 : decode cX12_isWord 27 = .ok (.istore_n 2, 1) := by decide +kernel
theorem dX12_isWord_28 : decode cX12_isWord 28 = .ok (.iload_n 2, 1) := by decide +kernel
theorem dX12_isWord_29 : decode cX12_isWord 29 = .ok (.aload_n 1, 1) := by decide +kernel
theorem dX12_isWord_30 : decode cX12_isWord 30 = .ok (.invokevirtual 86, 3) := by decide +kernel
theorem dX12_isWord_33 : decode cX12_isWord 33 = .ok (.if_icmp .ge 30, 3) := by decide +kernel
theorem dX12_isWord_36 : decode cX12_isWord 36 = .ok (.aload_n 0, 1) := by decide +kernel
theorem dX12_isWord_37 : decode cX12_isWord 37 = .ok (.getfield 13, 3) := by decide +kernel
theorem dX12_isWord_40 : decode cX12_isWord 40 = .ok (.aload_n 0, 1) := by decide +kernel
theorem dX12_isWord_41 : decode cX12_isWord 41 = .ok (.getfield 73, 3) := by decide +kernel
theorem dX12_isWord_44 : decode cX12_isWord 44 = .ok (.iload_n 2, 1) := by decide +kernel
theorem dX12_isWord_45 : decode cX12_isWord 45 = .ok (.iadd, 1) := by decide +kernel
theorem dX12_isWord_46 : decode cX12_isWord 46 = .ok (.iaload, 1) := by decide +kernel
theorem dX12_isWord_47 : decode cX12_isWord 47 = .ok (.aload_n 1, 1) := by decide +kernel
theorem dX12_isWord_48 : decode cX12_isWord 48 = .ok (.iload_n 2, 1) := by decide +kernel
theorem dX12_isWord_49 : decode cX12_isWord 49 = .ok (.invokevirtual 92, 3) := by decide +kernel
theorem dX12_isWord_52 : decode cX12_isWord 52 = .ok (.if_icmp .eq 5, 3) := by decide +kernel
theorem dX12_isWord_55 : decode cX12_isWord 55 = .ok (.iconst 0, 1) := by decide +kernel
theorem dX12_isWord_56 : decode cX12_isWord 56 = .ok (.ireturn, 1) := by decide +kernel
theorem dX12_isWord_57 : decode cX12_isWord 57 = .ok (.iinc 2 1, 3) := by decide +kernel
theorem dX12_isWord_60 : decode cX12_isWord 60 = .ok (.goto (-32), 3) := by decide +kernel
theorem dX12_isWord_63 : decode cX12_isWord 63 = .ok (.iconst 1, 1) := by decide +kernel
theorem dX12_isWord_64 : decode cX12_isWord 64 = .ok (.ireturn, 1) := by decide +kernel
def gMt (own : String) (idx : Nat) (y : MethodName) (b : ByteArray) (n : Nat) (rt : Option FieldType) (na : Nat) : Prop := gMw own idx y b n rt na ∧ Cond.instanceMethod y ∈ gGood ∧ Cond.selects y.cls y y ∈ gGood ∧ y.cls = "java/lang/String"
theorem ms_J0_1059 : gMs RJ0 1059 yJ3_checkIndex_8e157 cJ3_checkIndex_8e157 3 (some .int) 3 := ⟨⟨gGood_at 1536 (by decide +kernel) rfl, gGood_at 109 (by decide +kernel) rfl, gGood_at 1538 (by decide +kernel) rfl, by decide, by decide, by decide +kernel⟩, gGood_at 1537 (by decide +kernel) rfl⟩
theorem ms_J1_9 : gMs RJ1 9 yJ0_checkIndex_df160 cJ0_checkIndex_df160 2 none 2 := ⟨⟨gGood_at 1531 (by decide +kernel) rfl, gGood_at 107 (by decide +kernel) rfl, gGood_at 1533 (by decide +kernel) rfl, by decide, by decide, by decide +kernel⟩, gGood_at 1532 (by decide +kernel) rfl⟩
theorem ms_J0_495 : gMs RJ0 495 yJ1_charAt_3b067 cJ1_charAt_3b067 2 (some .char) 2 := ⟨⟨gGood_at 1528 (by decide +kernel) rfl, gGood_at 108 (by decide +kernel) rfl, gGood_at 1530 (by decide +kernel) rfl, by decide, by decide, by decide +kernel⟩, gGood_at 1529 (by decide +kernel) rfl⟩
theorem mt_X12_86 : gMt RX12 86 yJ0_length_8abf5 cJ0_length_8abf5 1 (some .int) 0 := ⟨⟨gGood_at 1510 (by decide +kernel) rfl, gGood_at 107 (by decide +kernel) rfl, gGood_at 1513 (by decide +kernel) rfl, by decide, by decide, by decide +kernel⟩, gGood_at 1511 (by decide +kernel) rfl, gGood_at 1512 (by decide +kernel) rfl, rfl⟩
theorem mt_X12_92 : gMt RX12 92 yJ0_charAt_5068e cJ0_charAt_5068e 2 (some .char) 1 := ⟨⟨gGood_at 1520 (by decide +kernel) rfl, gGood_at 107 (by decide +kernel) rfl, gGood_at 1523 (by decide +kernel) rfl, by decide, by decide, by decide +kernel⟩, gGood_at 1521 (by decide +kernel) rfl, gGood_at 1522 (by decide +kernel) rfl, rfl⟩
theorem mt_J0_335 : gMt RJ0 335 yJ0_coder_7d493 cJ0_coder_7d493 1 (some .byte) 0 := ⟨⟨gGood_at 1514 (by decide +kernel) rfl, gGood_at 107 (by decide +kernel) rfl, gGood_at 1517 (by decide +kernel) rfl, by decide, by decide, by decide +kernel⟩, gGood_at 1515 (by decide +kernel) rfl, gGood_at 1516 (by decide +kernel) rfl, rfl⟩
theorem mt_J0_492 : gMt RJ0 492 yJ0_isLatin1_aae02 cJ0_isLatin1_aae02 1 (some .boolean) 0 := ⟨⟨gGood_at 1524 (by decide +kernel) rfl, gGood_at 107 (by decide +kernel) rfl, gGood_at 1527 (by decide +kernel) rfl, by decide, by decide, by decide +kernel⟩, gGood_at 1525 (by decide +kernel) rfl, gGood_at 1526 (by decide +kernel) rfl, rfl⟩
theorem ls_38 : Cond.fieldLink RJ0 38 "java/lang/String" "COMPACT_STRINGS" "Z" ∈ gGood := gGood_at 1518 (by decide +kernel) rfl
theorem ls_9 : Cond.fieldLink RJ0 9 "java/lang/String" "value" "[B" ∈ gGood := gGood_at 1992 (by decide +kernel) rfl
theorem ls_15 : Cond.fieldLink RJ0 15 "java/lang/String" "code\x72" "B" ∈ gGood := gGood_at 1993 (by decide +kernel) rfl
theorem ls_1053 : Cond.fieldLink RJ0 1053 "jdk/internal/util/Preconditions" "SIOOBE_FORMATTER" "Ljava/util/function/BiFunction;" ∈ gGood := gGood_at 1534 (by decide +kernel) rfl
def gsLen : List Nat := [6, 6, 3, 5]
def gsByt : List (List Int32) := [[99, 111, 117, 114, 115, 101], [114, 117, 110, 110, 101, 114], [103, 97, 112], [115, 108, 97, 99, 107]]
def gsIx : List Nat := [102, 108, 110, 112]
def gsTx : List String := ["course", "runne\x72", "gap", "slack"]
def gsL (i : Nat) : Nat := gsLen.getD i 0
def gsC (i k : Nat) : Int32 := (gsByt.getD i []).getD k 0
/-- what the strings and statics around are -/
def EnvS (aK aV : Nat → Nat) (A : Nat → Prop) (s : State) : Prop := vk_S 4 gsLen gsByt aK aV A s s.heap ∧ (∀ i, i < 4 → vk_R RX12 (gsIx.getD i 0) (gsTx.getD i "") (aK i) s) ∧ va_Z "java/lang/String" "COMPACT_STRINGS" "Z" (.int 1) A s s.heap ∧ va_Zq "jdk/internal/util/Preconditions" "SIOOBE_FORMATTER" "Ljava/util/function/BiFunction;" A s s.heap
def gEnv (w : gWd) (aK aV : Nat → Nat) : Prop := ∀ s : State, w.1.2 s → EnvS aK aV (gA w 0 41) s
section STR
variable {l : Launch} {w : gWd} {own : String} {cc : ByteArray} {nL : Nat} {ret : Option FieldType} {fr lc : Nat} {post : Option Value → gSt → Prop} {pc : Nat} {L : List (Option Value)} {st : List Value} {σ : gSt} {aK aV : Nat → Nat}
theorem gs_val {i idx : Nat} (hW : gEnv w aK aV) (hi : i < 4) (hlk : Cond.fieldLink own idx "java/lang/String" "value" "[B" ∈ gGood) (hdg : decode cc pc = .ok (.getfield idx, 3)) (kk : G l w 0 41 own cc nL ret fr lc post (pc + 3) L (.ref (aV i) :: st) σ) : G l w 0 41 own cc nL ret fr lc post pc L (.ref (aK i) :: st) σ := fun p e s m args below meth c H locs ls F hl hH hS => vk_getf F.1 F.2.1 ((hW s F.2.2.2.2.2.1.2.2.1).1.1 i hi).2.2.1 hS F.2.2.2.1 (F.2.2.2.2.1 _ hlk) (fun _ h => h) hdg (kk p e s m args below meth c H locs ls F hl hH hS)
theorem gs_cod {i idx : Nat} (hW : gEnv w aK aV) (hi : i < 4) (hlk : Cond.fieldLink own idx "java/lang/String" "code\x72" "B" ∈ gGood) (hdg : decode cc pc = .ok (.getfield idx, 3)) (kk : G l w 0 41 own cc nL ret fr lc post (pc + 3) L (.int 0 :: st) σ) : G l w 0 41 own cc nL ret fr lc post pc L (.ref (aK i) :: st) σ := fun p e s m args below meth c H locs ls F hl hH hS => vk_getf F.1 F.2.1 ((hW s F.2.2.2.2.2.1.2.2.1).1.1 i hi).2.1 hS F.2.2.2.1 (F.2.2.2.2.1 _ hlk) (fun _ h => h) hdg (kk p e s m args below meth c H locs ls F hl hH hS)
theorem gs_len {i : Nat} (hW : gEnv w aK aV) (hi : i < 4) (hdg : decode cc pc = .ok (.arraylength, 1)) (kk : G l w 0 41 own cc nL ret fr lc post (pc + 1) L (.int (nI (gsL i)) :: st) σ) : G l w 0 41 own cc nL ret fr lc post pc L (.ref (aV i) :: st) σ := fun p e s m args below meth c H locs ls F hl hH hS => va_tlen F.1 F.2.1 ((hW s F.2.2.2.2.2.1.2.2.1).1.1 i hi).2.2.2 hS rfl hdg (kk p e s m args below meth c H locs ls F hl hH hS)
theorem gs_byt {i k : Nat} (hW : gEnv w aK aV) (hi : i < 4) (hk : k < gsL i) (hL : gsL i < 2 ^ 31) (hdg : decode cc pc = .ok (.baload, 1)) (kk : G l w 0 41 own cc nL ret fr lc post (pc + 1) L (.int (gsC i k) :: st) σ) : G l w 0 41 own cc nL ret fr lc post pc L (.int (nI k) :: .ref (aV i) :: st) σ := fun p e s m args below meth c H locs ls F hl hH hS => va_tb F.1 F.2.1 ((hW s F.2.2.2.2.2.1.2.2.1).1.1 i hi).2.2.2 hS (nI_in hk hL) (by rw [nI_cl (by omega)]; rfl) hdg (kk p e s m args below meth c H locs ls F hl hH hS)
theorem gs_cs {idx : Nat} (hW : gEnv w aK aV) (hlk : Cond.fieldLink own idx "java/lang/String" "COMPACT_STRINGS" "Z" ∈ gGood) (hdg : decode cc pc = .ok (.getstatic idx, 3)) (kk : G l w 0 41 own cc nL ret fr lc post (pc + 3) L (.int 1 :: st) σ) : G l w 0 41 own cc nL ret fr lc post pc L st σ := fun p e s m args below meth c H locs ls F hl hH hS => va_gets F.1 F.2.1 (hW s F.2.2.2.2.2.1.2.2.1).2.2.1 hS F.2.2.2.1 (F.2.2.2.2.1 _ hlk) (fun _ h => h) hdg (kk p e s m args below meth c H locs ls F hl hH hS)
theorem gs_bf {idx : Nat} (hW : gEnv w aK aV) (hlk : Cond.fieldLink own idx "jdk/internal/util/Preconditions" "SIOOBE_FORMATTER" "Ljava/util/function/BiFunction;" ∈ gGood) (hdg : decode cc pc = .ok (.getstatic idx, 3)) (kk : ∀ v : Value, (v = .null ∨ ∃ t, v = .ref t) → G l w 0 41 own cc nL ret fr lc post (pc + 3) L (v :: st) σ) : G l w 0 41 own cc nL ret fr lc post pc L st σ := fun p e s m args below meth c H locs ls F hl hH hS => by
  rcases (hW s F.2.2.2.2.2.1.2.2.1).2.2.2 with h | ⟨t, h⟩
  · exact va_gets F.1 F.2.1 h hS F.2.2.2.1 (F.2.2.2.2.1 _ hlk) (fun _ h => h) hdg (kk _ (Or.inl rfl) p e s m args below meth c H locs ls F hl hH hS)
  · exact va_gets F.1 F.2.1 h hS F.2.2.2.1 (F.2.2.2.2.1 _ hlk) (fun _ h => h) hdg (kk _ (Or.inr ⟨t, rfl⟩) p e s m args below meth c H locs ls F hl hH hS)
theorem g_i2c {x v : Int32} (hv : (x.toUInt32 % 65536).toInt32 = v) (hdg : decode cc pc = .ok (.i2c, 1)) (kk : G l w 0 41 own cc nL ret fr lc post (pc + 1) L (.int v :: st) σ) : G l w 0 41 own cc nL ret fr lc post pc L (.int x :: st) σ := g_of (fun p e s m args below meth c H locs ls Q F hl k => lv_i2c F.1 F.2.1 hdg hv k) kk
theorem g_callT {idx i : Nat} {y : MethodName} {b : ByteArray} {n na fr' lc' : Nat} {rt : Option FieldType} {post' : Option Value → gSt → Prop} {As rest st0 : List Value} (hW : gEnv w aK aV) (hi : i < 4) (hlk : gMt own idx y b n rt na) (hM : Mt l w 0 41 y b n rt fr' lc' (.ref (aK i) :: As) σ post') (hst : st0 = As.reverse ++ .ref (aK i) :: rest) (hna : As.length = na) (hR : fr' + 1 ≤ fr ∧ 8 + (n + 11) + lc' ≤ lc) (hWd : (rest.map fun v => v.category).sum ≤ 8) (hdg : decode cc pc = .ok (.invokevirtual idx, 3))
    (kk : ∀ (v : Option Value) (σ' : gSt), post' v σ' → G l w 0 41 own cc nL ret fr lc post (pc + 3) L (v.toList ++ rest) σ') : G l w 0 41 own cc nL ret fr lc post pc L st0 σ := by
  intro p e s m args below meth c H locs ls F hl hH hS
  obtain ⟨h1, h2, h3, h4⟩ := hlk
  refine g_run (va_runV (Ts := gGood) ⟨F.1, F.2.1, F.2.2.1, F.2.2.2.1, F.2.2.2.2.1⟩ hM ⟨h1.call F hR, F.2.2.2.2.1 _ h2, F.2.2.2.2.1 _ h3⟩ ⟨gP_blind, ?_, fun U hU hWm => ⟨rfl, by rw [hU]; exact hH, gK.on hWm (by rw [hU]; exact hS) F.2.2.2.2.2.1⟩⟩ rfl hna (by show ls.size = nL; exact hl.1) hst (lv_room hWd) hdg ⟨Nat.zero_le _, Nat.zero_le _⟩) F hl hS kk
  rw [h4]
  exact vk_recv (hW s F.2.2.2.2.2.1.2.2.1).1 hi hS
theorem sn_coder {i : Nat} (hW : gEnv w aK aV) (hi : i < 4) : Mt l w 0 41 yJ0_coder_7d493 cJ0_coder_7d493 1 (some .byte) 0 0 [.ref (aK i)] σ (gE (some (.int 0)) σ) := by
  refine g_start pn_J0 rfl rfl (Nat.le_of_ble_eq_true rfl) ?_
  show G l w 0 41 RJ0 cJ0_coder_7d493 1 (some .byte) 0 0 _ 0 [some (.ref (aK i))] [] σ
  refine gs_cs hW ls_38 dJ0_coder_7d493_0 ?_
  refine g_if_eq 13 dJ0_coder_7d493_3 rfl (fun q => absurd q (by decide)) (fun _ => ?_)
  refine g_aload_n dJ0_coder_7d493_6 rfl ?_
  refine gs_cod hW hi ls_15 dJ0_coder_7d493_7 ?_
  refine g_goto 14 dJ0_coder_7d493_10 rfl ?_
  exact g_ret dJ0_coder_7d493_14 rfl rfl ⟨rfl, rfl⟩
theorem sn_latin {i : Nat} (hW : gEnv w aK aV) (hi : i < 4) : Mt l w 0 41 yJ0_isLatin1_aae02 cJ0_isLatin1_aae02 1 (some .boolean) 0 0 [.ref (aK i)] σ (gE (some (.int 1)) σ) := by
  refine g_start pn_J0 rfl rfl (Nat.le_of_ble_eq_true rfl) ?_
  show G l w 0 41 RJ0 cJ0_isLatin1_aae02 1 (some .boolean) 0 0 _ 0 [some (.ref (aK i))] [] σ
  refine gs_cs hW ls_38 dJ0_isLatin1_aae02_0 ?_
  refine g_if_eq 17 dJ0_isLatin1_aae02_3 rfl (fun q => absurd q (by decide)) (fun _ => ?_)
  refine g_aload_n dJ0_isLatin1_aae02_6 rfl ?_
  refine gs_cod hW hi ls_15 dJ0_isLatin1_aae02_7 ?_
  refine g_if_ne 17 dJ0_isLatin1_aae02_10 rfl (fun q => absurd rfl q) (fun _ => ?_)
  refine g_iconst dJ0_isLatin1_aae02_13 kc_1 ?_
  refine g_goto 18 dJ0_isLatin1_aae02_14 rfl ?_
  exact g_ret dJ0_isLatin1_aae02_18 rfl (by decide) ⟨rfl, rfl⟩
theorem sn_shr : ∀ i, i < 4 → nI (gsL i) >>> ((0 : Int32) &&& 31) = nI (gsL i) := by decide +kernel
theorem sn_chr : ∀ i, i < 4 → ∀ k, k < gsL i → ((gsC i k &&& 255).toUInt32 % 65536).toInt32 = gsC i k := by decide +kernel
theorem sn_nar : ∀ i, i < 4 → ∀ k, k < gsL i → 0 ≤ (gsC i k).toInt ∧ (gsC i k).toInt < 128 := by decide +kernel
theorem sn_small : ∀ i, i < 4 → gsL i < 10 := by decide +kernel
theorem sn_narrow {x : Int32} (h0 : 0 ≤ x.toInt) (h1 : x.toInt < 128) : narrow .char (.int x) = .int x := by
  obtain ⟨h2, h3⟩ := gin_nI (n := 128) (gin_iff.mpr ⟨h0, h1⟩)
  have h : ∀ k, k < 128 → narrow .char (.int (nI k)) = .int (nI k) := by decide +kernel
  rw [h2]; exact h _ h3
theorem sn_length {i : Nat} (hW : gEnv w aK aV) (hi : i < 4) : Mt l w 0 41 yJ0_length_8abf5 cJ0_length_8abf5 1 (some .int) 1 20 [.ref (aK i)] σ (gE (some (.int (nI (gsL i)))) σ) := by
  refine g_start pn_J0 rfl rfl (Nat.le_of_ble_eq_true rfl) ?_
  show G l w 0 41 RJ0 cJ0_length_8abf5 1 (some .int) 1 20 _ 0 [some (.ref (aK i))] [] σ
  refine g_aload_n dJ0_length_8abf5_0 rfl ?_
  refine gs_val hW hi ls_9 dJ0_length_8abf5_1 ?_
  refine gs_len hW hi dJ0_length_8abf5_4 ?_
  refine g_aload_n dJ0_length_8abf5_5 rfl ?_
  refine g_callT (As := []) hW hi mt_J0_335 (sn_coder hW hi) rfl rfl ⟨by decide, by decide⟩ (Nat.le_of_ble_eq_true rfl) dJ0_length_8abf5_6 (fun _ _ h => ?_)
  obtain ⟨rfl, rfl⟩ := h
  refine g_ishr dJ0_length_8abf5_9 ?_
  rw [sn_shr i hi]
  exact g_iret dJ0_length_8abf5_10 rfl ⟨rfl, rfl⟩
theorem sn_pchk {x n : Int32} {v : Value} (hx : ¬ x < 0) (hn : x < n) (hv : v = .null ∨ ∃ t, v = .ref t) : Mt l w 0 41 yJ3_checkIndex_8e157 cJ3_checkIndex_8e157 3 (some .int) 0 0 [.int x, .int n, v] σ (gE (some (.int x)) σ) := by
  have hc : v.category = 1 := by rcases hv with rfl | ⟨t, rfl⟩ <;> rfl
  refine g_start pn_J3 rfl (by rcases hv with rfl | ⟨t, rfl⟩ <;> rfl) (Nat.le_of_ble_eq_true rfl) ?_
  show G l w 0 41 RJ3 cJ3_checkIndex_8e157 3 (some .int) 0 0 _ 0 [some (.int x), some (.int n), some v] [] σ
  refine g_iload_n dJ3_checkIndex_8e157_0 rfl ?_
  refine g_if_lt 9 dJ3_checkIndex_8e157_1 rfl (fun q => absurd q hx) (fun _ => ?_)
  refine g_iload_n dJ3_checkIndex_8e157_4 rfl ?_
  refine g_iload_n dJ3_checkIndex_8e157_5 rfl ?_
  refine g_icmp_lt 16 dJ3_checkIndex_8e157_6 rfl (fun _ => ?_) (fun q => absurd hn q)
  refine g_iload_n dJ3_checkIndex_8e157_16 rfl ?_
  exact g_iret dJ3_checkIndex_8e157_17 rfl ⟨rfl, rfl⟩
theorem sn_chk {x n : Int32} (hW : gEnv w aK aV) (hx : ¬ x < 0) (hn : x < n) : Mt l w 0 41 yJ0_checkIndex_df160 cJ0_checkIndex_df160 2 none 1 22 [.int x, .int n] σ (gE none σ) := by
  refine g_start pn_J0 rfl rfl (Nat.le_of_ble_eq_true rfl) ?_
  show G l w 0 41 RJ0 cJ0_checkIndex_df160 2 none 1 22 _ 0 [some (.int x), some (.int n)] [] σ
  refine g_iload_n dJ0_checkIndex_df160_0 rfl ?_
  refine g_iload_n dJ0_checkIndex_df160_1 rfl ?_
  refine gs_bf hW ls_1053 dJ0_checkIndex_df160_2 (fun v hv => ?_)
  refine g_sP3 ms_J0_1059 dJ0_checkIndex_df160_5 ⟨by decide, by decide⟩ (Nat.le_of_ble_eq_true rfl) (sn_pchk hx hn hv) ?_
  refine g_pop dJ0_checkIndex_df160_8 rfl ?_
  exact g_vret dJ0_checkIndex_df160_9 rfl ⟨rfl, rfl⟩
theorem sn_lchar {i k : Nat} (hW : gEnv w aK aV) (hi : i < 4) (hk : k < gsL i) : Mt l w 0 41 yJ1_charAt_3b067 cJ1_charAt_3b067 2 (some .char) 2 43 [.ref (aV i), .int (nI k)] σ (gE (some (.int (gsC i k))) σ) := by
  have hL := sn_small i hi
  refine g_start pn_J1 rfl rfl (Nat.le_of_ble_eq_true rfl) ?_
  show G l w 0 41 RJ1 cJ1_charAt_3b067 2 (some .char) 2 43 _ 0 [some (.ref (aV i)), some (.int (nI k))] [] σ
  refine g_iload_n dJ1_charAt_3b067_0 rfl ?_
  refine g_aload_n dJ1_charAt_3b067_1 rfl ?_
  refine gs_len hW hi dJ1_charAt_3b067_2 ?_
  refine g_sU2 ms_J1_9 dJ1_charAt_3b067_3 ⟨by decide, by decide⟩ (Nat.le_of_ble_eq_true rfl) (sn_chk hW (nI_pos (by omega)) (nI_lt hk (by omega))) ?_
  refine g_aload_n dJ1_charAt_3b067_6 rfl ?_
  refine g_iload_n dJ1_charAt_3b067_7 rfl ?_
  refine gs_byt hW hi hk (by omega) dJ1_charAt_3b067_8 ?_
  refine g_sipush dJ1_charAt_3b067_9 ks_255 ?_
  refine g_iand dJ1_charAt_3b067_12 ?_
  refine g_i2c (sn_chr i hi k hk) dJ1_charAt_3b067_13 ?_
  exact g_ret dJ1_charAt_3b067_14 rfl (sn_narrow (sn_nar i hi k hk).1 (sn_nar i hi k hk).2) ⟨rfl, rfl⟩
theorem sn_char {i k : Nat} (hW : gEnv w aK aV) (hi : i < 4) (hk : k < gsL i) : Mt l w 0 41 yJ0_charAt_5068e cJ0_charAt_5068e 2 (some .char) 3 64 [.ref (aK i), .int (nI k)] σ (gE (some (.int (gsC i k))) σ) := by
  refine g_start pn_J0 rfl rfl (Nat.le_of_ble_eq_true rfl) ?_
  show G l w 0 41 RJ0 cJ0_charAt_5068e 2 (some .char) 3 64 _ 0 [some (.ref (aK i)), some (.int (nI k))] [] σ
  refine g_aload_n dJ0_charAt_5068e_0 rfl ?_
  refine g_callT (As := []) hW hi mt_J0_492 (sn_latin hW hi) rfl rfl ⟨by decide, by decide⟩ (Nat.le_of_ble_eq_true rfl) dJ0_charAt_5068e_1 (fun _ _ h => ?_)
  obtain ⟨rfl, rfl⟩ := h
  refine g_if_eq 16 dJ0_charAt_5068e_4 rfl (fun q => absurd q (by decide)) (fun _ => ?_)
  refine g_aload_n dJ0_charAt_5068e_7 rfl ?_
  refine gs_val hW hi ls_9 dJ0_charAt_5068e_8 ?_
  refine g_iload_n dJ0_charAt_5068e_11 rfl ?_
  refine g_sP2 ms_J0_495 dJ0_charAt_5068e_12 ⟨by decide, by decide⟩ (Nat.le_of_ble_eq_true rfl) (sn_lchar hW hi hk) ?_
  exact g_ret dJ0_charAt_5068e_15 rfl (sn_narrow (sn_nar i hi k hk).1 (sn_nar i hi k hk).2) ⟨rfl, rfl⟩
def f_isW_28 (i : Nat) : Nat → Int32 → gSt → Option (Int32 × gSt)
  | 0, _, _ => none
  | n + 1, v2, σ =>
    if nI (gsL i) ≤ v2 then some (1, σ)
    else
      (gld σ 29 0 900 ((σ 28 0 12) + v2)).bind fun a46 =>
      (gox (gsL i) v2).bind fun n49 =>
      if a46 = gsC i n49 then f_isW_28 i n (v2 + 1) σ
      else some (0, σ)
def f_isW (i : Nat) (σ : gSt) : Option (Int32 × gSt) :=
  if (σ 28 0 14) = 2 then
    if ((σ 28 0 13) - (σ 28 0 12)) = nI (gsL i) then f_isW_28 i gFuel 0 σ
    else some (0, σ)
  else some (0, σ)
theorem f_isW_28_ok {i : Nat} {r : Int32 × gSt} (hW : gEnv w aK aV) (hi : i < 4) : ∀ (n : Nat) {v2 : Int32} {σ : gSt}, f_isW_28 i n v2 σ = some r → G l w 0 41 RX12 cX12_isWord 3 (some .boolean) 4 85 (gE (some (.int r.1)) r.2) 28 [some (.ref (w.2.1 28 0)), some (.ref (aK i)), some (.int v2)] [] σ := by
  intro n
  induction n with
  | zero => intro v2 σ h; rw [f_isW_28] at h; cases h
  | succ n ih =>
    intro v2 σ h
    rw [f_isW_28] at h
    refine g_iload_n dX12_isWord_28 rfl ?_
    refine g_aload_n dX12_isWord_29 rfl ?_
    refine g_callT (As := []) hW hi mt_X12_86 (sn_length hW hi) rfl rfl ⟨by decide, by decide⟩ (Nat.le_of_ble_eq_true rfl) dX12_isWord_30 (fun _ _ h2 => ?_)
    obtain ⟨rfl, rfl⟩ := h2
    refine g_icmp_ge 63 dX12_isWord_33 rfl (fun q => ?_) (fun q => ?_)
    · replace h := gif_t q h
      refine g_iconst dX12_isWord_63 kc_1 ?_
      cases h
      exact g_zret1 dX12_isWord_64 rfl
    · replace h := gif_f q h
      refine g_aload_n dX12_isWord_36 rfl ?_
      refine gR_X12_13 ok_28 dX12_isWord_37 ?_
      refine g_aload_n dX12_isWord_40 rfl ?_
      refine gI_X12_73 ok_28 dX12_isWord_41 ?_
      refine g_iload_n dX12_isWord_44 rfl ?_
      refine g_iadd dX12_isWord_45 ?_
      obtain ⟨a46, e46, h⟩ := obind h
      refine g_ldB e46 ok_29 rfl rfl (by decide) dX12_isWord_46 ?_
      refine g_aload_n dX12_isWord_47 rfl ?_
      refine g_iload_n dX12_isWord_48 rfl ?_
      obtain ⟨n49, e49, h⟩ := obind h
      obtain ⟨hv, hn⟩ := gox_lt e49
      refine g_callT (As := [.int v2]) hW hi mt_X12_92 (by rw [hv]; exact sn_char hW hi hn) rfl rfl ⟨by decide, by decide⟩ (Nat.le_of_ble_eq_true rfl) dX12_isWord_49 (fun _ _ h2 => ?_)
      obtain ⟨rfl, rfl⟩ := h2
      refine g_icmp_eq 57 dX12_isWord_52 rfl (fun q => ?_) (fun q => ?_)
      · replace h := gif_t q h
        refine g_inc2 kc_1 dX12_isWord_57 ?_
        refine g_goto 28 dX12_isWord_60 rfl ?_
        exact ih h
      · replace h := gif_f q h
        refine g_iconst dX12_isWord_55 kc_0 ?_
        cases h
        exact g_zret0 dX12_isWord_56 rfl
theorem f_isW_ok {i : Nat} {r : Int32 × gSt} {σ : gSt} (hW : gEnv w aK aV) (hi : i < 4) (h : f_isW i σ = some r) : Mt l w 0 41 yX12_isWord cX12_isWord 3 (some .boolean) 4 85 [.ref (w.2.1 28 0), .ref (aK i)] σ (gE (some (.int r.1)) r.2) := by
  unfold f_isW at h
  refine g_start pn_X12 rfl rfl (Nat.le_of_ble_eq_true rfl) ?_
  show G l w 0 41 RX12 cX12_isWord 3 (some .boolean) 4 85 (gE (some (.int r.1)) r.2) 0 [some (.ref (w.2.1 28 0)), some (.ref (aK i)), none] [] σ
  refine g_aload_n dX12_isWord_0 rfl ?_
  refine gI_X12_76 ok_28 dX12_isWord_1 ?_
  refine g_iconst dX12_isWord_4 kc_2 ?_
  refine g_icmp_ne 24 dX12_isWord_5 rfl (fun q => ?_) (fun q => ?_)
  · replace h := gif_f q h
    refine g_iconst dX12_isWord_24 kc_0 ?_
    cases h
    exact g_zret0 dX12_isWord_25 rfl
  · replace h := gif_t q h
    refine g_aload_n dX12_isWord_8 rfl ?_
    refine gI_X12_66 ok_28 dX12_isWord_9 ?_
    refine g_aload_n dX12_isWord_12 rfl ?_
    refine gI_X12_73 ok_28 dX12_isWord_13 ?_
    refine g_isub dX12_isWord_16 ?_
    refine g_aload_n dX12_isWord_17 rfl ?_
    refine g_callT (As := []) hW hi mt_X12_86 (sn_length hW hi) rfl rfl ⟨by decide, by decide⟩ (Nat.le_of_ble_eq_true rfl) dX12_isWord_18 (fun _ _ h2 => ?_)
    obtain ⟨rfl, rfl⟩ := h2
    refine g_icmp_eq 26 dX12_isWord_21 rfl (fun q => ?_) (fun q => ?_)
    · replace h := gif_t q h
      refine g_iconst dX12_isWord_26 kc_0 ?_
      refine g_istore2 dX12_isWord_27 ?_
      exact f_isW_28_ok hW hi gFuel h
    · replace h := gif_f q h
      refine g_iconst dX12_isWord_24 kc_0 ?_
      cases h
      exact g_zret0 dX12_isWord_25 rfl
/-- ldc; isWord -/
theorem g_isW {i ix : Nat} {r : Int32 × gSt} (hW : gEnv w aK aV) (hi : i < 4) (hix : gsIx.getD i 0 = ix) (hd1 : decode cc pc = .ok (.ldc ix, 2)) (hd2 : decode cc (pc + 2) = .ok (.invokevirtual 104, 3)) (hR : 4 + 1 ≤ fr ∧ 8 + (3 + 11) + 85 ≤ lc) (hWd : (st.map fun v => v.category).sum ≤ 8) (e : f_isW i σ = some r) (kk : G l w 0 41 RX12 cc nL ret fr lc post (pc + 5) L (.int r.1 :: st) r.2) : G l w 0 41 RX12 cc nL ret fr lc post pc L (.ref (w.2.1 28 0) :: st) σ := by
  have h2 : G l w 0 41 RX12 cc nL ret fr lc post (pc + 2) L (.ref (aK i) :: .ref (w.2.1 28 0) :: st) σ := g_vP1 mv_X12_104 hd2 ok_28 hR hWd (f_isW_ok hW hi e) kk
  intro p e s m args below meth c H locs ls F hl hH hS
  exact va_ldcS F.1 F.2.1 F.2.2.2.1 ((hW s F.2.2.2.2.2.1.2.2.1).2.1 i hi) (by rw [hix]; exact hd1) (h2 p e s m args below meth c H locs ls F hl hH hS)
end STR
