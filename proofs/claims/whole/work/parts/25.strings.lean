/-! ===== three members of String ===== -/
theorem dJ0_length_8abf5_0 : decode cJ0_length_8abf5 0 = .ok (.aload_n 0, 1) := by decide +kernel
theorem dJ0_length_8abf5_1 : decode cJ0_length_8abf5 1 = .ok (.getfield 9, 3) := by decide +kernel
theorem dJ0_length_8abf5_4 : decode cJ0_length_8abf5 4 = .ok (.arraylength, 1) := by decide +kernel
theorem dJ0_length_8abf5_5 : decode cJ0_length_8abf5 5 = .ok (.aload_n 0, 1) := by decide +kernel
theorem dJ0_length_8abf5_6 : decode cJ0_length_8abf5 6 = .ok (.invokevirtual 335, 3) := by decide +kernel
theorem dJ0_length_8abf5_9 : decode cJ0_length_8abf5 9 = .ok (.ishr, 1) := by decide +kernel
theorem dJ0_length_8abf5_10 : decode cJ0_length_8abf5 10 = .ok (.ireturn, 1) := by decide +kernel
theorem dJ0_charAt_5068e_0 : decode cJ0_charAt_5068e 0 = .ok (.aload_n 0, 1) := by decide +kernel
theorem dJ0_charAt_5068e_1 : decode cJ0_charAt_5068e 1 = .ok (.invokevirtual 492, 3) := by decide +kernel
theorem dJ0_charAt_5068e_4 : decode cJ0_charAt_5068e 4 = .ok (.ifCond .eq 12, 3) := by decide +kernel
theorem dJ0_charAt_5068e_7 : decode cJ0_charAt_5068e 7 = .ok (.aload_n 0, 1) := by decide +kernel
theorem dJ0_charAt_5068e_8 : decode cJ0_charAt_5068e 8 = .ok (.getfield 9, 3) := by decide +kernel
theorem dJ0_charAt_5068e_11 : decode cJ0_charAt_5068e 11 = .ok (.iload_n 1, 1) := by decide +kernel
theorem dJ0_charAt_5068e_12 : decode cJ0_charAt_5068e 12 = .ok (.invokestatic 495, 3) := by decide +kernel
theorem dJ0_charAt_5068e_15 : decode cJ0_charAt_5068e 15 = .ok (.ireturn, 1) := by decide +kernel
theorem dJ0_charAt_5068e_16 : decode cJ0_charAt_5068e 16 = .ok (.aload_n 0, 1) := by decide +kernel
theorem dJ0_charAt_5068e_17 : decode cJ0_charAt_5068e 17 = .ok (.getfield 9, 3) := by decide +kernel
theorem dJ0_charAt_5068e_20 : decode cJ0_charAt_5068e 20 = .ok (.iload_n 1, 1) := by decide +kernel
theorem dJ0_charAt_5068e_21 : decode cJ0_charAt_5068e 21 = .ok (.invokestatic 498, 3) := by decide +kernel
theorem dJ0_charAt_5068e_24 : decode cJ0_charAt_5068e 24 = .ok (.ireturn, 1) := by decide +kernel
theorem dJ0_indexOf_0f7a4_0 : decode cJ0_indexOf_0f7a4 0 = .ok (.aload_n 0, 1) := by decide +kernel
theorem dJ0_indexOf_0f7a4_1 : decode cJ0_indexOf_0f7a4 1 = .ok (.iload_n 1, 1) := by decide +kernel
theorem dJ0_indexOf_0f7a4_2 : decode cJ0_indexOf_0f7a4 2 = .ok (.iconst 0, 1) := by decide +kernel
theorem dJ0_indexOf_0f7a4_3 : decode cJ0_indexOf_0f7a4 3 = .ok (.invokevirtual 633, 3) := by decide +kernel
theorem dJ0_indexOf_0f7a4_6 : decode cJ0_indexOf_0f7a4 6 = .ok (.ireturn, 1) := by decide +kernel
theorem dJ0_indexOf_7cf53_0 : decode cJ0_indexOf_7cf53 0 = .ok (.aload_n 0, 1) := by decide +kernel
theorem dJ0_indexOf_7cf53_1 : decode cJ0_indexOf_7cf53 1 = .ok (.invokevirtual 492, 3) := by decide +kernel
theorem dJ0_indexOf_7cf53_4 : decode cJ0_indexOf_7cf53 4 = .ok (.ifCond .eq 19, 3) := by decide +kernel
theorem dJ0_indexOf_7cf53_7 : decode cJ0_indexOf_7cf53 7 = .ok (.aload_n 0, 1) := by decide +kernel
theorem dJ0_indexOf_7cf53_8 : decode cJ0_indexOf_7cf53 8 = .ok (.getfield 9, 3) := by decide +kernel
theorem dJ0_indexOf_7cf53_11 : decode cJ0_indexOf_7cf53 11 = .ok (.iload_n 1, 1) := by decide +kernel
theorem dJ0_indexOf_7cf53_12 : decode cJ0_indexOf_7cf53 12 = .ok (.iload_n 2, 1) := by decide +kernel
theorem dJ0_indexOf_7cf53_13 : decode cJ0_indexOf_7cf53 13 = .ok (.aload_n 0, 1) := by decide +kernel
theorem dJ0_indexOf_7cf53_14 : decode cJ0_indexOf_7cf53 14 = .ok (.invokevirtual 505, 3) := by decide +kernel
theorem dJ0_indexOf_7cf53_17 : decode cJ0_indexOf_7cf53 17 = .ok (.invokestatic 637, 3) := by decide +kernel
theorem dJ0_indexOf_7cf53_20 : decode cJ0_indexOf_7cf53 20 = .ok (.goto 16, 3) := by decide +kernel
theorem dJ0_indexOf_7cf53_23 : decode cJ0_indexOf_7cf53 23 = .ok (.aload_n 0, 1) := by decide +kernel
theorem dJ0_indexOf_7cf53_24 : decode cJ0_indexOf_7cf53 24 = .ok (.getfield 9, 3) := by decide +kernel
theorem dJ0_indexOf_7cf53_27 : decode cJ0_indexOf_7cf53 27 = .ok (.iload_n 1, 1) := by decide +kernel
theorem dJ0_indexOf_7cf53_28 : decode cJ0_indexOf_7cf53 28 = .ok (.iload_n 2, 1) := by decide +kernel
theorem dJ0_indexOf_7cf53_29 : decode cJ0_indexOf_7cf53 29 = .ok (.aload_n 0, 1) := by decide +kernel
theorem dJ0_indexOf_7cf53_30 : decode cJ0_indexOf_7cf53 30 = .ok (.invokevirtual 505, 3) := by decide +kernel
theorem dJ0_indexOf_7cf53_33 : decode cJ0_indexOf_7cf53 33 = .ok (.invokestatic 640, 3) := by decide +kernel
theorem dJ0_indexOf_7cf53_36 : decode cJ0_indexOf_7cf53 36 = .ok (.ireturn, 1) := by decide +kernel
theorem dJ0_coder_7d493_0 : decode cJ0_coder_7d493 0 = .ok (.getstatic 38, 3) := by decide +kernel
theorem dJ0_coder_7d493_3 : decode cJ0_coder_7d493 3 = .ok (.ifCond .eq 10, 3) := by decide +kernel
theorem dJ0_coder_7d493_6 : decode cJ0_coder_7d493 6 = .ok (.aload_n 0, 1) := by decide +kernel
theorem dJ0_coder_7d493_7 : decode cJ0_coder_7d493 7 = .ok (.getfield 15, 3) := by decide +kernel
theorem dJ0_coder_7d493_10 : decode cJ0_coder_7d493 10 = .ok (.goto 4, 3) := by decide +kernel
theorem dJ0_coder_7d493_13 : decode cJ0_coder_7d493 13 = .ok (.iconst 1, 1) := by decide +kernel
theorem dJ0_coder_7d493_14 : decode cJ0_coder_7d493 14 = .ok (.ireturn, 1) := by decide +kernel
theorem dJ0_isLatin1_aae02_0 : decode cJ0_isLatin1_aae02 0 = .ok (.getstatic 38, 3) := by decide +kernel
theorem dJ0_isLatin1_aae02_3 : decode cJ0_isLatin1_aae02 3 = .ok (.ifCond .eq 14, 3) := by decide +kernel
theorem dJ0_isLatin1_aae02_6 : decode cJ0_isLatin1_aae02 6 = .ok (.aload_n 0, 1) := by decide +kernel
theorem dJ0_isLatin1_aae02_7 : decode cJ0_isLatin1_aae02 7 = .ok (.getfield 15, 3) := by decide +kernel
theorem dJ0_isLatin1_aae02_10 : decode cJ0_isLatin1_aae02 10 = .ok (.ifCond .ne 7, 3) := by decide +kernel
theorem dJ0_isLatin1_aae02_13 : decode cJ0_isLatin1_aae02 13 = .ok (.iconst 1, 1) := by decide +kernel
theorem dJ0_isLatin1_aae02_14 : decode cJ0_isLatin1_aae02 14 = .ok (.goto 4, 3) := by decide +kernel
theorem dJ0_isLatin1_aae02_17 : decode cJ0_isLatin1_aae02 17 = .ok (.iconst 0, 1) := by decide +kernel
theorem dJ0_isLatin1_aae02_18 : decode cJ0_isLatin1_aae02 18 = .ok (.ireturn, 1) := by decide +kernel
theorem dJ0_checkIndex_df160_0 : decode cJ0_checkIndex_df160 0 = .ok (.iload_n 0, 1) := by decide +kernel
theorem dJ0_checkIndex_df160_1 : decode cJ0_checkIndex_df160 1 = .ok (.iload_n 1, 1) := by decide +kernel
theorem dJ0_checkIndex_df160_2 : decode cJ0_checkIndex_df160 2 = .ok (.getstatic 1053, 3) := by decide +kernel
theorem dJ0_checkIndex_df160_5 : decode cJ0_checkIndex_df160 5 = .ok (.invokestatic 1059, 3) := by decide +kernel
theorem dJ0_checkIndex_df160_8 : decode cJ0_checkIndex_df160 8 = .ok (.pop, 1) := by decide +kernel
theorem dJ0_checkIndex_df160_9 : decode cJ0_checkIndex_df160 9 = .ok (.return_, 1) := by decide +kernel
theorem dJ1_charAt_3b067_0 : decode cJ1_charAt_3b067 0 = .ok (.iload_n 1, 1) := by decide +kernel
theorem dJ1_charAt_3b067_1 : decode cJ1_charAt_3b067 1 = .ok (.aload_n 0, 1) := by decide +kernel
theorem dJ1_charAt_3b067_2 : decode cJ1_charAt_3b067 2 = .ok (.arraylength, 1) := by decide +kernel
theorem dJ1_charAt_3b067_3 : decode cJ1_charAt_3b067 3 = .ok (.invokestatic 9, 3) := by decide +kernel
theorem dJ1_charAt_3b067_6 : decode cJ1_charAt_3b067 6 = .ok (.aload_n 0, 1) := by decide +kernel
theorem dJ1_charAt_3b067_7 : decode cJ1_charAt_3b067 7 = .ok (.iload_n 1, 1) := by decide +kernel
theorem dJ1_charAt_3b067_8 : decode cJ1_charAt_3b067 8 = .ok (.baload, 1) := by decide +kernel
theorem dJ1_charAt_3b067_9 : decode cJ1_charAt_3b067 9 = .ok (.sipush 255, 3) := by decide +kernel
theorem dJ1_charAt_3b067_12 : decode cJ1_charAt_3b067 12 = .ok (.iand, 1) := by decide +kernel
theorem dJ1_charAt_3b067_13 : decode cJ1_charAt_3b067 13 = .ok (.i2c, 1) := by decide +kernel
theorem dJ1_charAt_3b067_14 : decode cJ1_charAt_3b067 14 = .ok (.ireturn, 1) := by decide +kernel
theorem dJ1_canEncode_9a6ad_0 : decode cJ1_canEncode_9a6ad 0 = .ok (.iload_n 0, 1) := by decide +kernel
theorem dJ1_canEncode_9a6ad_1 : decode cJ1_canEncode_9a6ad 1 = .ok (.ifCond .lt 14, 3) := by decide +kernel
theorem dJ1_canEncode_9a6ad_4 : decode cJ1_canEncode_9a6ad 4 = .ok (.iload_n 0, 1) := by decide +kernel
theorem dJ1_canEncode_9a6ad_5 : decode cJ1_canEncode_9a6ad 5 = .ok (.sipush 255, 3) := by decide +kernel
theorem dJ1_canEncode_9a6ad_8 : decode cJ1_canEncode_9a6ad 8 = .ok (.if_icmp .gt 7, 3) := by decide +kernel
theorem dJ1_canEncode_9a6ad_11 : decode cJ1_canEncode_9a6ad 11 = .ok (.iconst 1, 1) := by decide +kernel
theorem dJ1_canEncode_9a6ad_12 : decode cJ1_canEncode_9a6ad 12 = .ok (.goto 4, 3) := by decide +kernel
theorem dJ1_canEncode_9a6ad_15 : decode cJ1_canEncode_9a6ad 15 = .ok (.iconst 0, 1) := by decide +kernel
theorem dJ1_canEncode_9a6ad_16 : decode cJ1_canEncode_9a6ad 16 = .ok (.ireturn, 1) := by decide +kernel
theorem dJ1_indexOf_4cfef_0 : decode cJ1_indexOf_4cfef 0 = .ok (.iload_n 1, 1) := by decide +kernel
theorem dJ1_indexOf_4cfef_1 : decode cJ1_indexOf_4cfef 1 = .ok (.invokestatic 88, 3) := by decide +kernel
theorem dJ1_indexOf_4cfef_4 : decode cJ1_indexOf_4cfef 4 = .ok (.ifCond .ne 5, 3) := by decide +kernel
theorem dJ1_indexOf_4cfef_7 : decode cJ1_indexOf_4cfef 7 = .ok (.iconst (-1), 1) := by decide +kernel
theorem dJ1_indexOf_4cfef_8 : decode cJ1_indexOf_4cfef 8 = .ok (.ireturn, 1) := by decide +kernel
theorem dJ1_indexOf_4cfef_9 : decode cJ1_indexOf_4cfef 9 = .ok (.iload_n 2, 1) := by decide +kernel
theorem dJ1_indexOf_4cfef_10 : decode cJ1_indexOf_4cfef 10 = .ok (.iconst 0, 1) := by decide +kernel
theorem dJ1_indexOf_4cfef_11 : decode cJ1_indexOf_4cfef 11 = .ok (.invokestatic 92, 3) := by decide +kernel
theorem dJ1_indexOf_4cfef_14 : decode cJ1_indexOf_4cfef 14 = .ok (.istore_n 2, 1) := by decide +kernel
theorem dJ1_indexOf_4cfef_15 : decode cJ1_indexOf_4cfef 15 = .ok (.iload_n 3, 1) := by decide +kernel
theorem dJ1_indexOf_4cfef_16 : decode cJ1_indexOf_4cfef 16 = .ok (.aload_n 0, 1) := by decide +kernel
theorem dJ1_indexOf_4cfef_17 : decode cJ1_indexOf_4cfef 17 = .ok (.arraylength, 1) := by decide +kernel
theorem dJ1_indexOf_4cfef_18 : decode cJ1_indexOf_4cfef 18 = .ok (.invokestatic 38, 3) := by decide +kernel
theorem dJ1_indexOf_4cfef_21 : decode cJ1_indexOf_4cfef 21 = .ok (.istore_n 3, 1) := by decide +kernel
theorem dJ1_indexOf_4cfef_22 : decode cJ1_indexOf_4cfef 22 = .ok (.iload_n 2, 1) := by decide +kernel
theorem dJ1_indexOf_4cfef_23 : decode cJ1_indexOf_4cfef 23 = .ok (.iload_n 3, 1) := by decide +kernel
theorem dJ1_indexOf_4cfef_24 : decode cJ1_indexOf_4cfef 24 = .ok (.if_icmp .lt 5, 3) := by decide +kernel
theorem dJ1_indexOf_4cfef_27 : decode cJ1_indexOf_4cfef 27 = .ok (.iconst (-1), 1) := by decide +kernel
theorem dJ1_indexOf_4cfef_28 : decode cJ1_indexOf_4cfef 28 = .ok (.ireturn, 1) := by decide +kernel
theorem dJ1_indexOf_4cfef_29 : decode cJ1_indexOf_4cfef 29 = .ok (.aload_n 0, 1) := by decide +kernel
theorem dJ1_indexOf_4cfef_30 : decode cJ1_indexOf_4cfef 30 = .ok (.iload_n 1, 1) := by decide +kernel
theorem dJ1_indexOf_4cfef_31 : decode cJ1_indexOf_4cfef 31 = .ok (.iload_n 2, 1) := by decide +kernel
theorem dJ1_indexOf_4cfef_32 : decode cJ1_indexOf_4cfef 32 = .ok (.iload_n 3, 1) := by decide +kernel
theorem dJ1_indexOf_4cfef_33 : decode cJ1_indexOf_4cfef 33 = .ok (.invokestatic 95, 3) := by decide +kernel
theorem dJ1_indexOf_4cfef_36 : decode cJ1_indexOf_4cfef 36 = .ok (.ireturn, 1) := by decide +kernel
theorem dJ1_indexOfChar_4cfef_0 : decode cJ1_indexOfChar_4cfef 0 = .ok (.iload_n 1, 1) := by decide +kernel
theorem dJ1_indexOfChar_4cfef_1 : decode cJ1_indexOfChar_4cfef 1 = .ok (.i2b, 1) := by decide +kernel
theorem dJ1_indexOfChar_4cfef_2 : decode cJ1_indexOfChar_4cfef 2 = .ok (.istore 4, 2) := by decide +kernel
theorem dJ1_indexOfChar_4cfef_4 : decode cJ1_indexOfChar_4cfef 4 = .ok (.iload_n 2, 1) := by decide +kernel
theorem dJ1_indexOfChar_4cfef_5 : decode cJ1_indexOfChar_4cfef 5 = .ok (.istore 5, 2) := by decide +kernel
theorem dJ1_indexOfChar_4cfef_7 : decode cJ1_indexOfChar_4cfef 7 = .ok (.iload 5, 2) := by decide +kernel
theorem dJ1_indexOfChar_4cfef_9 : decode cJ1_indexOfChar_4cfef 9 = .ok (.iload_n 3, 1) := by decide +kernel
theorem dJ1_indexOfChar_4cfef_10 : decode cJ1_indexOfChar_4cfef 10 = .ok (.if_icmp .ge 21, 3) := by decide +kernel
theorem dJ1_indexOfChar_4cfef_13 : decode cJ1_indexOfChar_4cfef 13 = .ok (.aload_n 0, 1) := by decide +kernel
theorem dJ1_indexOfChar_4cfef_14 : decode cJ1_indexOfChar_4cfef 14 = .ok (.iload 5, 2) := by decide +kernel
theorem dJ1_indexOfChar_4cfef_16 : decode cJ1_indexOfChar_4cfef 16 = .ok (.baload, 1) := by decide +kernel
theorem dJ1_indexOfChar_4cfef_17 : decode cJ1_indexOfChar_4cfef 17 = .ok (.iload 4, 2) := by decide +kernel
theorem dJ1_indexOfChar_4cfef_19 : decode cJ1_indexOfChar_4cfef 19 = .ok (.if_icmp .ne 6, 3) := by decide +kernel
theorem dJ1_indexOfChar_4cfef_22 : decode cJ1_indexOfChar_4cfef 22 = .ok (.iload 5, 2) := by decide +kernel
theorem dJ1_indexOfChar_4cfef_24 : decode cJ1_indexOfChar_4cfef 24 = .ok (.ireturn, 1) := by decide +kernel
theorem dJ1_indexOfChar_4cfef_25 : decode cJ1_indexOfChar_4cfef 25 = .ok (.iinc 5 1, 3) := by decide +kernel
theorem dJ1_indexOfChar_4cfef_28 : decode cJ1_indexOfChar_4cfef 28 = .ok (.goto (-21), 3) := by decide +kernel
theorem dJ1_indexOfChar_4cfef_31 : decode cJ1_indexOfChar_4cfef 31 = .ok (.iconst (-1), 1) := by decide +kernel
theorem dJ1_indexOfChar_4cfef_32 : decode cJ1_indexOfChar_4cfef 32 = .ok (.ireturn, 1) := by decide +kernel
theorem dJ3_checkIndex_8e157_0 : decode cJ3_checkIndex_8e157 0 = .ok (.iload_n 0, 1) := by decide +kernel
theorem dJ3_checkIndex_8e157_1 : decode cJ3_checkIndex_8e157 1 = .ok (.ifCond .lt 8, 3) := by decide +kernel
theorem dJ3_checkIndex_8e157_4 : decode cJ3_checkIndex_8e157 4 = .ok (.iload_n 0, 1) := by decide +kernel
theorem dJ3_checkIndex_8e157_5 : decode cJ3_checkIndex_8e157 5 = .ok (.iload_n 1, 1) := by decide +kernel
theorem dJ3_checkIndex_8e157_6 : decode cJ3_checkIndex_8e157 6 = .ok (.if_icmp .lt 10, 3) := by decide +kernel
theorem dJ3_checkIndex_8e157_9 : decode cJ3_checkIndex_8e157 9 = .ok (.aload_n 2, 1) := by decide +kernel
theorem dJ3_checkIndex_8e157_10 : decode cJ3_checkIndex_8e157 10 = .ok (.iload_n 0, 1) := by decide +kernel
theorem dJ3_checkIndex_8e157_11 : decode cJ3_checkIndex_8e157 11 = .ok (.iload_n 1, 1) := by decide +kernel
theorem dJ3_checkIndex_8e157_12 : decode cJ3_checkIndex_8e157 12 = .ok (.invokestatic 95, 3) := by decide +kernel
theorem dJ3_checkIndex_8e157_15 : decode cJ3_checkIndex_8e157 15 = .ok (.athrow, 1) := by decide +kernel
theorem dJ3_checkIndex_8e157_16 : decode cJ3_checkIndex_8e157 16 = .ok (.iload_n 0, 1) := by decide +kernel
theorem dJ3_checkIndex_8e157_17 : decode cJ3_checkIndex_8e157 17 = .ok (.ireturn, 1) := by decide +kernel
theorem sx_b : ∀ i, i < 3 → (zm_sxs.getD i []).length = zm_sln.getD i 0 ∧ zm_sln.getD i 0 < 1000 ∧ 0 < zm_sln.getD i 0 ∧ ∀ b ∈ zm_sxs.getD i [], 0 ≤ b ∧ b < 128 := by decide +kernel
theorem sx_q : ∀ q, q < 128 → ((nI q &&& 255).toUInt32 % 65536).toInt32 = nI q ∧ (nI q).toInt8.toInt32 = nI q ∧ nI q &&& 255 = nI q := by decide +kernel
theorem sx_of {b : Int32} (h : 0 ≤ b ∧ b < 128) : ∃ q, q < 128 ∧ b = nI q := by
  obtain ⟨j, hj, rfl⟩ := nI_of (x := b) (fun z => by
    have := Int32.lt_iff_toInt_lt.mp z
    have := Int32.le_iff_toInt_le.mp h.1
    omega)
  refine ⟨j, ?_, rfl⟩
  have := (nI_ltI (a := j) (b := 128) hj (by decide)).mp h.2
  exact this
theorem sx_ix0 {c : Int32} (h : c < 0 ∨ 255 < c) : ∀ (l : List Int32) (k : Nat), (∀ b ∈ l, 0 ≤ b ∧ b < 128) → zm_ixf c l k = -1 := by
  intro l
  induction l with
  | nil => intro k _; rfl
  | cons b l ih =>
    intro k hb
    obtain ⟨b1, b2⟩ := hb b List.mem_cons_self
    rw [zm_ixf, if_neg (fun e => ?_)]
    · exact ih (k + 1) (fun x hx => hb x (List.mem_cons_of_mem _ hx))
    · have h1 := Int32.le_iff_toInt_le.mp b1
      have h2 := Int32.lt_iff_toInt_lt.mp b2
      rw [e] at h1 h2
      have z0 : (0 : Int32).toInt = 0 := rfl
      have z1 : (128 : Int32).toInt = 128 := rfl
      have z2 : (255 : Int32).toInt = 255 := rfl
      rcases h with h | h
      · have := Int32.lt_iff_toInt_lt.mp h; omega
      · have := Int32.lt_iff_toInt_lt.mp h; omega
theorem sx_mem {l : List Int32} {k : Nat} (h : k < l.length) : l.getD k 0 ∈ l := by
  rw [List.getD_eq_getElem?_getD, List.getElem?_eq_getElem h]
  exact List.getElem_mem h
theorem sx_y (y : Nat) (h1 : 2000000 ≤ y) (h2 : y < 2000003) : ∃ i, i < 3 ∧ y = 2000000 + i := ⟨y - 2000000, by omega, by omega⟩
def sx_C (adK adV : Nat → Nat) (A : Nat → Prop) (U : State) (H : Heap) : Prop := vk_S 3 zm_sln zm_sxs adK adV A U H ∧ va_Z "java/lang/String" "COMPACT_STRINGS" "Z" (.int 1) A U H ∧ zm_SI A U H
theorem sx_C.go {adK adV : Nat → Nat} {A : Nat → Prop} {s U : State} {H : Heap} {locs : List Loc} (h : sx_C adK adV A s s.heap) (hS : va_S A s.heap H locs) (hU : U.heap = H) (hW : s.WarmedH U.vm) : sx_C adK adV A U U.heap := by
  rw [hU]
  exact ⟨(vk_S.moved hW.alike h.1).kept hS.2.1, (va_Z.moved hW.alike h.2.1).kept hS.2.1, va_Zq.kept (va_Zq.moved hW.alike h.2.2) hS.2.1⟩
def sx_P (adK adV : Nat → Nat) (A : Nat → Prop) (av : List Value) : Array Value → State → Prop := fun v U => v = av.toArray ∧ sx_C adK adV A U U.heap
def sx_Q (w : Option Value) : Array Value → State → Outcome → State → Prop := fun _ st oc t => oc = .returned w ∧ t.heap = st.heap
def sx_W (y : MethodName) (cc : ByteArray) (ml : Nat) (rt : Option FieldType) : List Cond := Cond.code y cc ml rt :: zm_GW
def sx_R (f k : Nat) : Room := { frames := f, cells := 0, slots := 0, locals := k }
theorem sx_blind (adK adV : Nat → Nat) (A : Nat → Prop) (av : List Value) : FrameBlind (sx_P adK adV A av) := fun a U g mk q => ⟨q.1, vk_S.moved (u := U) (U := U.calling g mk a) (Vm.Alike.refl U.vm) q.2.1, va_Z.moved (u := U) (U := U.calling g mk a) (Vm.Alike.refl U.vm) q.2.2.1, va_Zq.moved (u := U) (U := U.calling g mk a) (Vm.Alike.refl U.vm) q.2.2.2⟩
theorem sx_good {y : MethodName} {cc : ByteArray} {ml : Nat} {rt : Option FieldType} (h : Cond.code y cc ml rt ∈ zm_GW) : GoodIn zm_GW (sx_W y cc ml rt) := by
  intro w hw
  rcases List.mem_cons.mp hw with z | z
  · subst z; exact zm_good h
  · exact zm_good z
section SXR
variable {p : Program} {l : Launch} {e : Env} {R : Room} {s : State} {m : MethodId} {args : Array Value} {below : List Frame} {meth : Method} {c : Code} {H : Heap} {locs : List Loc} {cells slots : Nat} {Q : State → Prop}
theorem sx_cont {pc : Nat} {ls : Array Slot} {st0 rest : List Value} {w : Option Value} {a : Array Value} (hr : va_Run p l e R s m args below meth c H locs cells slots 0 0 (F0 m pc ls st0) rest (sx_Q w a) (fun _ => False)) (kk : W p l e R s m args below meth c H locs cells slots Q (F0 m (pc + 3) ls (w.toList ++ rest))) : W p l e R s m args below meth c H locs cells slots Q (F0 m pc ls st0) := by
  intro T hT X
  obtain ⟨v, st₀, t, T', L, h0, X', hL, e1, e2, ⟨hv, hh⟩, st⟩ := hr T hT X
  cases hv
  have eL : L = [] := List.eq_nil_iff_forall_not_mem.mpr (fun q hq => hL q hq)
  subst eL
  rw [List.append_nil] at X'
  obtain ⟨t2, a1, b1⟩ := kk T' (by rw [e1, hh, h0]) X'
  exact ⟨t2, st t2 a1, b1⟩
theorem sx_callV {adK adV : Nat → Nat} {A : Nat → Prop} {y : MethodName} {bytes cc : ByteArray} {maxL n index nL f k b pc : Nat} {ret : Option FieldType} {ls : Array Slot} {As rest : List Value} {w : Option Value} {own : String}
    (S : CallFix p m c cc nL s args zm_GW own) (hC : sx_C adK adV A s s.heap) (hS : va_S A s.heap H locs) (hM : Met l y (sx_W y bytes maxL ret) (sx_R f k) (sx_P adK adV A (.ref b :: As)) (sx_Q w) 0 0 (fun _ => False))
    (w1 : (Cond.methodLink own index y).before args s = true) (w2 : Cond.instanceMethod y ∈ zm_GW) (w3 : Cond.selects RJ0 y y ∈ zm_GW) (w4 : Cond.initialized y.cls ∈ zm_GW) (w5 : Cond.code y bytes maxL ret ∈ zm_GW)
    (hd : y.cls ≠ "java/lang/invoke/MethodHandle" ∧ y.cls ≠ "java/lang/invoke/VarHandle" ∧ (parseMethodDescriptor y.desc).map (fun d => d.parameters.length) = some n) (hR : f + 1 ≤ R.frames ∧ 8 + (maxL + 11) + k ≤ R.locals) {i : Nat} (hi : i < 3) (hbi : b = adK i) (hn : As.length = n) (hsize : ls.size = nL) (hsum : (rest.map fun v => v.category).sum ≤ 8) (hdg : decode cc pc = .ok (.invokevirtual index, 3)) (hc : cells ≤ R.cells) (hs : slots ≤ R.slots)
    (kk : W p l e R s m args below meth c H locs cells slots Q (F0 m (pc + 3) ls (w.toList ++ rest))) : W p l e R s m args below meth c H locs cells slots Q (F0 m pc ls (As.reverse ++ .ref b :: rest)) := by
  subst hbi
  have cw : CallW R s args own RJ0 index y bytes maxL ret (sx_W y bytes maxL ret) (sx_R f k) 0 0 n := ⟨callB_of n S.2.2.2.2 (sx_good w5) rfl rfl rfl (S.2.2.2.2 _ w4) w1 hd hR, S.2.2.2.2 _ w2, S.2.2.2.2 _ w3⟩
  exact sx_cont (va_runV (C := RJ0) S hM cw ⟨sx_blind _ _ _ _, vk_recv hC.1 hi hS, fun U hU hW => ⟨rfl, hC.go hS hU hW⟩⟩ rfl hn hsize rfl (lv_room hsum) hdg ⟨hc, hs⟩) kk
theorem sx_callS {adK adV : Nat → Nat} {A : Nat → Prop} {y : MethodName} {bytes cc : ByteArray} {maxL n index nL f k pc : Nat} {ret : Option FieldType} {ls : Array Slot} (As : List Value) {rest : List Value} {w : Option Value} {own : String}
    (S : CallFix p m c cc nL s args zm_GW own) (hC : sx_C adK adV A s s.heap) (hS : va_S A s.heap H locs) (hM : Met l y (sx_W y bytes maxL ret) (sx_R f k) (sx_P adK adV A As) (sx_Q w) 0 0 (fun _ => False))
    (w1 : (Cond.methodLink own index y).before args s = true) (w2 : Cond.static y ∈ zm_GW) (w4 : Cond.initialized y.cls ∈ zm_GW) (w5 : Cond.code y bytes maxL ret ∈ zm_GW)
    (hd : y.cls ≠ "java/lang/invoke/MethodHandle" ∧ y.cls ≠ "java/lang/invoke/VarHandle" ∧ (parseMethodDescriptor y.desc).map (fun d => d.parameters.length) = some n) (hR : f + 1 ≤ R.frames ∧ 8 + (maxL + 11) + k ≤ R.locals) (hn : As.length = n) (hsize : ls.size = nL) (hsum : (rest.map fun v => v.category).sum ≤ 8) (hdg : decode cc pc = .ok (.invokestatic index, 3)) (hc : cells ≤ R.cells) (hs : slots ≤ R.slots)
    (kk : W p l e R s m args below meth c H locs cells slots Q (F0 m (pc + 3) ls (w.toList ++ rest))) : W p l e R s m args below meth c H locs cells slots Q (F0 m pc ls (As.reverse ++ rest)) := by
  have cw : CallB R s args own index y bytes maxL ret (sx_W y bytes maxL ret) (sx_R f k) 0 0 n ∧ (Cond.static y).before args s = true := ⟨callB_of n S.2.2.2.2 (sx_good w5) rfl rfl rfl (S.2.2.2.2 _ w4) w1 hd hR, S.2.2.2.2 _ w2⟩
  exact sx_cont (va_runS S hM cw ⟨sx_blind _ _ _ _, fun U hU hW => ⟨rfl, hC.go hS hU hW⟩⟩ rfl hn hsize rfl (lv_room hsum) hdg ⟨hc, hs⟩) kk
end SXR
set_option maxHeartbeats 4000000 in
set_option maxRecDepth 100000 in
theorem sx_isLatin1 (l : Launch) {adK adV : Nat → Nat} {A : Nat → Prop} {i : Nat} (hi : i < 3)  : Met l yJ0_isLatin1_aae02 (sx_W yJ0_isLatin1_aae02 cJ0_isLatin1_aae02 1 (some .boolean)) (sx_R 0 0) (sx_P adK adV A [.ref (adK i)]) (sx_Q (some (.int 1))) 0 0 (fun _ => False) := by
  refine Met.ofW (cc := cJ0_isLatin1_aae02) (maxL := 1) (ret := (some .boolean)) (by decide) rfl ?_
  intro p e s m args below meth c s₁ B hml hv
  obtain ⟨rfl, hC⟩ := hv
  have hx := B.exec
  have hb := B.bytes
  have hr := B.returns
  have hts0 := atoms_spec (ws := sx_W yJ0_isLatin1_aae02 cJ0_isLatin1_aae02 1 (some .boolean)) B.pre
  have hts : ∀ w ∈ zm_GW, w.before _ s = true := fun w hw => hts0 w (List.mem_cons_of_mem _ hw)
  have hown : s.vm.findClass RJ0 = some m.cls := findClass_of_methodNamed B.named
  have hlocks := B.notSynchronized
  obtain ⟨b1, b2, b3, b4⟩ := sx_b i hi
  obtain ⟨hO, hF1, hF2, hT⟩ := hC.1.1 i hi
  have hS : va_S A s.heap s.heap [] := va_S.rf
  have S0 : CallFix p m c cJ0_isLatin1_aae02 1 s _ zm_GW RJ0 := ⟨hx, hb, hml, hown, hts⟩
  have hl := lv_entry ([.ref (adK i)]) (n := 1) (Nat.le_of_ble_eq_true rfl)
  rw [lg_entry_eq]
  generalize (lg_sl ([.ref (adK i)]) ++ List.replicate (1 - (lg_sl ([.ref (adK i)])).length) Slot.unset).toArray = ls at hl ⊢
  have hl : lv_has ls 1 [(0, .ref (adK i))] := hl
  refine va_gets hx hb hC.2.1 hS hown (hts _ (zm_gin (k := 3) (i := 175) (by decide +kernel))) (fun _ h9 => h9) dJ0_isLatin1_aae02_0 ?_
  refine lv_if_eq (tgt := 17) hx hb dJ0_isLatin1_aae02_3 (by decide) (fun z => absurd z (by decide)) (fun _ => ?_)
  refine lv_aload_n hx hb dJ0_isLatin1_aae02_6 rfl (lv_at hl 0 rfl) ?_
  refine vk_getf hx hb hF1 hS hown (hts _ (zm_gin (k := 9) (i := 107) (by decide +kernel))) (fun _ h9 => h9) dJ0_isLatin1_aae02_7 ?_
  refine lv_if_ne (tgt := 17) hx hb dJ0_isLatin1_aae02_10 (by decide) (fun z => absurd rfl z) (fun _ => ?_)
  refine lv_iconst (v := 1) hx hb dJ0_isLatin1_aae02_13 (by decide) ?_
  refine lv_goto (tgt := 18) hx hb dJ0_isLatin1_aae02_14 (by decide) ?_
  exact W.zret hx hb hr (ty := .boolean) rfl (fun t ht hW => ⟨rfl, ht⟩) (fun q hq => by cases hq) dJ0_isLatin1_aae02_18
set_option maxHeartbeats 4000000 in
set_option maxRecDepth 100000 in
theorem sx_coder (l : Launch) {adK adV : Nat → Nat} {A : Nat → Prop} {i : Nat} (hi : i < 3)  : Met l yJ0_coder_7d493 (sx_W yJ0_coder_7d493 cJ0_coder_7d493 1 (some .byte)) (sx_R 0 0) (sx_P adK adV A [.ref (adK i)]) (sx_Q (some (.int 0))) 0 0 (fun _ => False) := by
  refine Met.ofW (cc := cJ0_coder_7d493) (maxL := 1) (ret := (some .byte)) (by decide) rfl ?_
  intro p e s m args below meth c s₁ B hml hv
  obtain ⟨rfl, hC⟩ := hv
  have hx := B.exec
  have hb := B.bytes
  have hr := B.returns
  have hts0 := atoms_spec (ws := sx_W yJ0_coder_7d493 cJ0_coder_7d493 1 (some .byte)) B.pre
  have hts : ∀ w ∈ zm_GW, w.before _ s = true := fun w hw => hts0 w (List.mem_cons_of_mem _ hw)
  have hown : s.vm.findClass RJ0 = some m.cls := findClass_of_methodNamed B.named
  have hlocks := B.notSynchronized
  obtain ⟨b1, b2, b3, b4⟩ := sx_b i hi
  obtain ⟨hO, hF1, hF2, hT⟩ := hC.1.1 i hi
  have hS : va_S A s.heap s.heap [] := va_S.rf
  have S0 : CallFix p m c cJ0_coder_7d493 1 s _ zm_GW RJ0 := ⟨hx, hb, hml, hown, hts⟩
  have hl := lv_entry ([.ref (adK i)]) (n := 1) (Nat.le_of_ble_eq_true rfl)
  rw [lg_entry_eq]
  generalize (lg_sl ([.ref (adK i)]) ++ List.replicate (1 - (lg_sl ([.ref (adK i)])).length) Slot.unset).toArray = ls at hl ⊢
  have hl : lv_has ls 1 [(0, .ref (adK i))] := hl
  refine va_gets hx hb hC.2.1 hS hown (hts _ (zm_gin (k := 3) (i := 175) (by decide +kernel))) (fun _ h9 => h9) dJ0_coder_7d493_0 ?_
  refine lv_if_eq (tgt := 13) hx hb dJ0_coder_7d493_3 (by decide) (fun z => absurd z (by decide)) (fun _ => ?_)
  refine lv_aload_n hx hb dJ0_coder_7d493_6 rfl (lv_at hl 0 rfl) ?_
  refine vk_getf hx hb hF1 hS hown (hts _ (zm_gin (k := 9) (i := 107) (by decide +kernel))) (fun _ h9 => h9) dJ0_coder_7d493_7 ?_
  refine lv_goto (tgt := 14) hx hb dJ0_coder_7d493_10 (by decide) ?_
  exact W.zret hx hb hr (ty := .byte) rfl (fun t ht hW => ⟨rfl, ht⟩) (fun q hq => by cases hq) dJ0_coder_7d493_14
set_option maxHeartbeats 4000000 in
set_option maxRecDepth 100000 in
theorem sx_length (l : Launch) {adK adV : Nat → Nat} {A : Nat → Prop} {i : Nat} (hi : i < 3)  : Met l yJ0_length_8abf5 (sx_W yJ0_length_8abf5 cJ0_length_8abf5 1 (some .int)) (sx_R 1 20) (sx_P adK adV A [.ref (adK i)]) (sx_Q (some (.int (nI (zm_sln.getD i 0))))) 0 0 (fun _ => False) := by
  refine Met.ofW (cc := cJ0_length_8abf5) (maxL := 1) (ret := (some .int)) (by decide) rfl ?_
  intro p e s m args below meth c s₁ B hml hv
  obtain ⟨rfl, hC⟩ := hv
  have hx := B.exec
  have hb := B.bytes
  have hr := B.returns
  have hts0 := atoms_spec (ws := sx_W yJ0_length_8abf5 cJ0_length_8abf5 1 (some .int)) B.pre
  have hts : ∀ w ∈ zm_GW, w.before _ s = true := fun w hw => hts0 w (List.mem_cons_of_mem _ hw)
  have hown : s.vm.findClass RJ0 = some m.cls := findClass_of_methodNamed B.named
  have hlocks := B.notSynchronized
  obtain ⟨b1, b2, b3, b4⟩ := sx_b i hi
  obtain ⟨hO, hF1, hF2, hT⟩ := hC.1.1 i hi
  have hS : va_S A s.heap s.heap [] := va_S.rf
  have S0 : CallFix p m c cJ0_length_8abf5 1 s _ zm_GW RJ0 := ⟨hx, hb, hml, hown, hts⟩
  have hl := lv_entry ([.ref (adK i)]) (n := 1) (Nat.le_of_ble_eq_true rfl)
  rw [lg_entry_eq]
  generalize (lg_sl ([.ref (adK i)]) ++ List.replicate (1 - (lg_sl ([.ref (adK i)])).length) Slot.unset).toArray = ls at hl ⊢
  have hl : lv_has ls 1 [(0, .ref (adK i))] := hl
  refine lv_aload_n hx hb dJ0_length_8abf5_0 rfl (lv_at hl 0 rfl) ?_
  refine vk_getf hx hb hF2 hS hown (hts _ (zm_gin (k := 9) (i := 108) (by decide +kernel))) (fun _ h9 => h9) dJ0_length_8abf5_1 ?_
  refine va_tlen hx hb hT hS (v := nI (zm_sln.getD i 0)) rfl dJ0_length_8abf5_4 ?_
  refine lv_aload_n hx hb dJ0_length_8abf5_5 rfl (lv_at hl 0 rfl) ?_
  refine sx_callV (n := 0) (As := []) S0 hC hS (sx_coder l hi) (hts _ (zm_gin (k := 3) (i := 229) (by decide +kernel))) (zm_gin (k := 3) (i := 230) (by decide +kernel)) (zm_gin (k := 3) (i := 231) (by decide +kernel)) (zm_gin (k := 1) (i := 15) (by decide +kernel)) (zm_gin (k := 3) (i := 232) (by decide +kernel)) ⟨by decide, by decide, by decide +kernel⟩ ⟨Nat.le_of_ble_eq_true rfl, Nat.le_of_ble_eq_true rfl⟩ hi rfl rfl hl.1 (Nat.le_of_ble_eq_true rfl) dJ0_length_8abf5_6 (Nat.zero_le _) (Nat.zero_le _) ?_
  refine lv_ishr hx hb dJ0_length_8abf5_9 ?_
  rw [sc_shr0 (by omega)]
  exact W.iret hx hb hr (fun t ht hW => ⟨rfl, ht⟩) (fun q hq => by cases hq) dJ0_length_8abf5_10
set_option maxHeartbeats 4000000 in
set_option maxRecDepth 100000 in
theorem sx_pre_n (l : Launch) {adK adV : Nat → Nat} {A : Nat → Prop} {i : Nat} (hi : i < 3) {k : Nat} (hk : k < (zm_sln.getD i 0)) : Met l yJ3_checkIndex_8e157 (sx_W yJ3_checkIndex_8e157 cJ3_checkIndex_8e157 3 (some .int)) (sx_R 0 0) (sx_P adK adV A [.int (nI k), .int (nI (zm_sln.getD i 0)), .null]) (sx_Q (some (.int (nI k)))) 0 0 (fun _ => False) := by
  refine Met.ofW (cc := cJ3_checkIndex_8e157) (maxL := 3) (ret := (some .int)) (by decide) rfl ?_
  intro p e s m args below meth c s₁ B hml hv
  obtain ⟨rfl, hC⟩ := hv
  have hx := B.exec
  have hb := B.bytes
  have hr := B.returns
  have hts0 := atoms_spec (ws := sx_W yJ3_checkIndex_8e157 cJ3_checkIndex_8e157 3 (some .int)) B.pre
  have hts : ∀ w ∈ zm_GW, w.before _ s = true := fun w hw => hts0 w (List.mem_cons_of_mem _ hw)
  have hown : s.vm.findClass RJ3 = some m.cls := findClass_of_methodNamed B.named
  have hlocks := B.notSynchronized
  obtain ⟨b1, b2, b3, b4⟩ := sx_b i hi
  obtain ⟨hO, hF1, hF2, hT⟩ := hC.1.1 i hi
  have hS : va_S A s.heap s.heap [] := va_S.rf
  have S0 : CallFix p m c cJ3_checkIndex_8e157 3 s _ zm_GW RJ3 := ⟨hx, hb, hml, hown, hts⟩
  have hl := lv_entry ([.int (nI k), .int (nI (zm_sln.getD i 0)), .null]) (n := 3) (Nat.le_of_ble_eq_true rfl)
  rw [lg_entry_eq]
  generalize (lg_sl ([.int (nI k), .int (nI (zm_sln.getD i 0)), .null]) ++ List.replicate (3 - (lg_sl ([.int (nI k), .int (nI (zm_sln.getD i 0)), .null])).length) Slot.unset).toArray = ls at hl ⊢
  have hl : lv_has ls 3 [(0, .int (nI k)), (1, .int (nI (zm_sln.getD i 0))), (2, .null)] := hl
  refine lv_iload_n hx hb dJ3_checkIndex_8e157_0 rfl (lv_at hl 0 rfl) ?_
  refine lv_if_lt (tgt := 9) hx hb dJ3_checkIndex_8e157_1 (by decide) (fun z => absurd z (nI_pos (by omega))) (fun _ => ?_)
  refine lv_iload_n hx hb dJ3_checkIndex_8e157_4 rfl (lv_at hl 0 rfl) ?_
  refine lv_iload_n hx hb dJ3_checkIndex_8e157_5 rfl (lv_at hl 1 rfl) ?_
  refine lv_icmp_lt (tgt := 16) hx hb dJ3_checkIndex_8e157_6 (by decide) (fun _ => ?_) (fun z => absurd (nI_lt hk (by omega)) z)
  refine lv_iload_n hx hb dJ3_checkIndex_8e157_16 rfl (lv_at hl 0 rfl) ?_
  exact W.iret hx hb hr (fun t ht hW => ⟨rfl, ht⟩) (fun q hq => by cases hq) dJ3_checkIndex_8e157_17
set_option maxHeartbeats 4000000 in
set_option maxRecDepth 100000 in
theorem sx_pre_r (l : Launch) {adK adV : Nat → Nat} {A : Nat → Prop} {i : Nat} (hi : i < 3) {k : Nat} (t : Nat) (hk : k < (zm_sln.getD i 0)) : Met l yJ3_checkIndex_8e157 (sx_W yJ3_checkIndex_8e157 cJ3_checkIndex_8e157 3 (some .int)) (sx_R 0 0) (sx_P adK adV A [.int (nI k), .int (nI (zm_sln.getD i 0)), .ref t]) (sx_Q (some (.int (nI k)))) 0 0 (fun _ => False) := by
  refine Met.ofW (cc := cJ3_checkIndex_8e157) (maxL := 3) (ret := (some .int)) (by decide) rfl ?_
  intro p e s m args below meth c s₁ B hml hv
  obtain ⟨rfl, hC⟩ := hv
  have hx := B.exec
  have hb := B.bytes
  have hr := B.returns
  have hts0 := atoms_spec (ws := sx_W yJ3_checkIndex_8e157 cJ3_checkIndex_8e157 3 (some .int)) B.pre
  have hts : ∀ w ∈ zm_GW, w.before _ s = true := fun w hw => hts0 w (List.mem_cons_of_mem _ hw)
  have hown : s.vm.findClass RJ3 = some m.cls := findClass_of_methodNamed B.named
  have hlocks := B.notSynchronized
  obtain ⟨b1, b2, b3, b4⟩ := sx_b i hi
  obtain ⟨hO, hF1, hF2, hT⟩ := hC.1.1 i hi
  have hS : va_S A s.heap s.heap [] := va_S.rf
  have S0 : CallFix p m c cJ3_checkIndex_8e157 3 s _ zm_GW RJ3 := ⟨hx, hb, hml, hown, hts⟩
  have hl := lv_entry ([.int (nI k), .int (nI (zm_sln.getD i 0)), .ref t]) (n := 3) (Nat.le_of_ble_eq_true rfl)
  rw [lg_entry_eq]
  generalize (lg_sl ([.int (nI k), .int (nI (zm_sln.getD i 0)), .ref t]) ++ List.replicate (3 - (lg_sl ([.int (nI k), .int (nI (zm_sln.getD i 0)), .ref t])).length) Slot.unset).toArray = ls at hl ⊢
  have hl : lv_has ls 3 [(0, .int (nI k)), (1, .int (nI (zm_sln.getD i 0))), (2, .ref t)] := hl
  refine lv_iload_n hx hb dJ3_checkIndex_8e157_0 rfl (lv_at hl 0 rfl) ?_
  refine lv_if_lt (tgt := 9) hx hb dJ3_checkIndex_8e157_1 (by decide) (fun z => absurd z (nI_pos (by omega))) (fun _ => ?_)
  refine lv_iload_n hx hb dJ3_checkIndex_8e157_4 rfl (lv_at hl 0 rfl) ?_
  refine lv_iload_n hx hb dJ3_checkIndex_8e157_5 rfl (lv_at hl 1 rfl) ?_
  refine lv_icmp_lt (tgt := 16) hx hb dJ3_checkIndex_8e157_6 (by decide) (fun _ => ?_) (fun z => absurd (nI_lt hk (by omega)) z)
  refine lv_iload_n hx hb dJ3_checkIndex_8e157_16 rfl (lv_at hl 0 rfl) ?_
  exact W.iret hx hb hr (fun t ht hW => ⟨rfl, ht⟩) (fun q hq => by cases hq) dJ3_checkIndex_8e157_17
set_option maxHeartbeats 4000000 in
set_option maxRecDepth 100000 in
theorem sx_check (l : Launch) {adK adV : Nat → Nat} {A : Nat → Prop} {i : Nat} (hi : i < 3) {k : Nat} (hk : k < (zm_sln.getD i 0)) : Met l yJ0_checkIndex_df160 (sx_W yJ0_checkIndex_df160 cJ0_checkIndex_df160 2 none) (sx_R 1 22) (sx_P adK adV A [.int (nI k), .int (nI (zm_sln.getD i 0))]) (sx_Q none) 0 0 (fun _ => False) := by
  refine Met.ofW (cc := cJ0_checkIndex_df160) (maxL := 2) (ret := none) (by decide) rfl ?_
  intro p e s m args below meth c s₁ B hml hv
  obtain ⟨rfl, hC⟩ := hv
  have hx := B.exec
  have hb := B.bytes
  have hr := B.returns
  have hts0 := atoms_spec (ws := sx_W yJ0_checkIndex_df160 cJ0_checkIndex_df160 2 none) B.pre
  have hts : ∀ w ∈ zm_GW, w.before _ s = true := fun w hw => hts0 w (List.mem_cons_of_mem _ hw)
  have hown : s.vm.findClass RJ0 = some m.cls := findClass_of_methodNamed B.named
  have hlocks := B.notSynchronized
  obtain ⟨b1, b2, b3, b4⟩ := sx_b i hi
  obtain ⟨hO, hF1, hF2, hT⟩ := hC.1.1 i hi
  have hS : va_S A s.heap s.heap [] := va_S.rf
  have S0 : CallFix p m c cJ0_checkIndex_df160 2 s _ zm_GW RJ0 := ⟨hx, hb, hml, hown, hts⟩
  have hl := lv_entry ([.int (nI k), .int (nI (zm_sln.getD i 0))]) (n := 2) (Nat.le_of_ble_eq_true rfl)
  rw [lg_entry_eq]
  generalize (lg_sl ([.int (nI k), .int (nI (zm_sln.getD i 0))]) ++ List.replicate (2 - (lg_sl ([.int (nI k), .int (nI (zm_sln.getD i 0))])).length) Slot.unset).toArray = ls at hl ⊢
  have hl : lv_has ls 2 [(0, .int (nI k)), (1, .int (nI (zm_sln.getD i 0)))] := hl
  refine lv_iload_n hx hb dJ0_checkIndex_df160_0 rfl (lv_at hl 0 rfl) ?_
  refine lv_iload_n hx hb dJ0_checkIndex_df160_1 rfl (lv_at hl 1 rfl) ?_
  rcases hC.2.2 with hZ | ⟨t, hZ⟩
  · refine va_gets hx hb hZ hS hown (hts _ (zm_gin (k := 3) (i := 183) (by decide +kernel))) (fun _ h9 => h9) dJ0_checkIndex_df160_2 ?_
    refine sx_callS (n := 3) [.int (nI k), .int (nI (zm_sln.getD i 0)), .null] S0 hC hS (sx_pre_n l hi hk) (hts _ (zm_gin (k := 3) (i := 185) (by decide +kernel))) (zm_gin (k := 3) (i := 186) (by decide +kernel)) (zm_gin (k := 1) (i := 17) (by decide +kernel)) (zm_gin (k := 3) (i := 187) (by decide +kernel)) ⟨by decide, by decide, by decide +kernel⟩ ⟨Nat.le_of_ble_eq_true rfl, Nat.le_of_ble_eq_true rfl⟩ rfl hl.1 (Nat.le_of_ble_eq_true rfl) dJ0_checkIndex_df160_5 (Nat.zero_le _) (Nat.zero_le _) ?_
    refine lv_pop hx hb dJ0_checkIndex_df160_8 rfl ?_
    exact W.vret hx hb hr (fun t ht hW => ⟨rfl, ht⟩) (fun q hq => by cases hq) dJ0_checkIndex_df160_9
  · refine va_gets hx hb hZ hS hown (hts _ (zm_gin (k := 3) (i := 183) (by decide +kernel))) (fun _ h9 => h9) dJ0_checkIndex_df160_2 ?_
    refine sx_callS (n := 3) [.int (nI k), .int (nI (zm_sln.getD i 0)), .ref t] S0 hC hS (sx_pre_r l hi t hk) (hts _ (zm_gin (k := 3) (i := 185) (by decide +kernel))) (zm_gin (k := 3) (i := 186) (by decide +kernel)) (zm_gin (k := 1) (i := 17) (by decide +kernel)) (zm_gin (k := 3) (i := 187) (by decide +kernel)) ⟨by decide, by decide, by decide +kernel⟩ ⟨Nat.le_of_ble_eq_true rfl, Nat.le_of_ble_eq_true rfl⟩ rfl hl.1 (Nat.le_of_ble_eq_true rfl) dJ0_checkIndex_df160_5 (Nat.zero_le _) (Nat.zero_le _) ?_
    refine lv_pop hx hb dJ0_checkIndex_df160_8 rfl ?_
    exact W.vret hx hb hr (fun t ht hW => ⟨rfl, ht⟩) (fun q hq => by cases hq) dJ0_checkIndex_df160_9
set_option maxHeartbeats 4000000 in
set_option maxRecDepth 100000 in
theorem sx_lcharAt (l : Launch) {adK adV : Nat → Nat} {A : Nat → Prop} {i : Nat} (hi : i < 3) {k : Nat} (hk : k < (zm_sln.getD i 0)) : Met l yJ1_charAt_3b067 (sx_W yJ1_charAt_3b067 cJ1_charAt_3b067 2 (some .char)) (sx_R 2 43) (sx_P adK adV A [.ref (adV i), .int (nI k)]) (sx_Q (some (.int ((zm_sxs.getD i []).getD k 0)))) 0 0 (fun _ => False) := by
  refine Met.ofW (cc := cJ1_charAt_3b067) (maxL := 2) (ret := (some .char)) (by decide) rfl ?_
  intro p e s m args below meth c s₁ B hml hv
  obtain ⟨rfl, hC⟩ := hv
  have hx := B.exec
  have hb := B.bytes
  have hr := B.returns
  have hts0 := atoms_spec (ws := sx_W yJ1_charAt_3b067 cJ1_charAt_3b067 2 (some .char)) B.pre
  have hts : ∀ w ∈ zm_GW, w.before _ s = true := fun w hw => hts0 w (List.mem_cons_of_mem _ hw)
  have hown : s.vm.findClass RJ1 = some m.cls := findClass_of_methodNamed B.named
  have hlocks := B.notSynchronized
  obtain ⟨b1, b2, b3, b4⟩ := sx_b i hi
  obtain ⟨hO, hF1, hF2, hT⟩ := hC.1.1 i hi
  have hS : va_S A s.heap s.heap [] := va_S.rf
  have S0 : CallFix p m c cJ1_charAt_3b067 2 s _ zm_GW RJ1 := ⟨hx, hb, hml, hown, hts⟩
  have hl := lv_entry ([.ref (adV i), .int (nI k)]) (n := 2) (Nat.le_of_ble_eq_true rfl)
  rw [lg_entry_eq]
  generalize (lg_sl ([.ref (adV i), .int (nI k)]) ++ List.replicate (2 - (lg_sl ([.ref (adV i), .int (nI k)])).length) Slot.unset).toArray = ls at hl ⊢
  have hl : lv_has ls 2 [(0, .ref (adV i)), (1, .int (nI k))] := hl
  have hbk : ((zm_sxs.getD i []).getD k 0) ∈ zm_sxs.getD i [] := by
    exact sx_mem (by omega)
  obtain ⟨q, hq, eq⟩ := sx_of (b4 _ hbk)
  obtain ⟨q1, -, -⟩ := sx_q q hq
  have hch : narrow .char (.int ((zm_sxs.getD i []).getD k 0)) = .int ((zm_sxs.getD i []).getD k 0) := by rw [eq]; exact (pk_charN (by omega)).1
  refine lv_iload_n hx hb dJ1_charAt_3b067_0 rfl (lv_at hl 1 rfl) ?_
  refine lv_aload_n hx hb dJ1_charAt_3b067_1 rfl (lv_at hl 0 rfl) ?_
  refine va_tlen hx hb hT hS (v := nI (zm_sln.getD i 0)) rfl dJ1_charAt_3b067_2 ?_
  refine sx_callS (n := 2) [.int (nI k), .int (nI (zm_sln.getD i 0))] S0 hC hS (sx_check l hi hk) (hts _ (zm_gin (k := 3) (i := 180) (by decide +kernel))) (zm_gin (k := 3) (i := 181) (by decide +kernel)) (zm_gin (k := 1) (i := 15) (by decide +kernel)) (zm_gin (k := 3) (i := 182) (by decide +kernel)) ⟨by decide, by decide, by decide +kernel⟩ ⟨Nat.le_of_ble_eq_true rfl, Nat.le_of_ble_eq_true rfl⟩ rfl hl.1 (Nat.le_of_ble_eq_true rfl) dJ1_charAt_3b067_3 (Nat.zero_le _) (Nat.zero_le _) ?_
  refine lv_aload_n hx hb dJ1_charAt_3b067_6 rfl (lv_at hl 0 rfl) ?_
  refine lv_iload_n hx hb dJ1_charAt_3b067_7 rfl (lv_at hl 1 rfl) ?_
  refine va_tb hx hb hT hS (vp_in_nI hk (by omega)) (v := .int ((zm_sxs.getD i []).getD k 0)) (by rw [nI_clamp (by omega)]) dJ1_charAt_3b067_8 ?_
  refine lv_sipush (v := 255) hx hb dJ1_charAt_3b067_9 (by decide) ?_
  refine lv_iand hx hb dJ1_charAt_3b067_12 ?_
  refine lv_i2c (v := ((zm_sxs.getD i []).getD k 0)) hx hb dJ1_charAt_3b067_13 (by rw [eq]; exact q1) ?_
  exact W.zret hx hb hr (ty := .char) hch (fun t ht hW => ⟨rfl, ht⟩) (fun q hq => by cases hq) dJ1_charAt_3b067_14
set_option maxHeartbeats 4000000 in
set_option maxRecDepth 100000 in
theorem sx_charAt (l : Launch) {adK adV : Nat → Nat} {A : Nat → Prop} {i : Nat} (hi : i < 3) {k : Nat} (hk : k < (zm_sln.getD i 0)) : Met l yJ0_charAt_5068e (sx_W yJ0_charAt_5068e cJ0_charAt_5068e 2 (some .char)) (sx_R 3 64) (sx_P adK adV A [.ref (adK i), .int (nI k)]) (sx_Q (some (.int ((zm_sxs.getD i []).getD k 0)))) 0 0 (fun _ => False) := by
  refine Met.ofW (cc := cJ0_charAt_5068e) (maxL := 2) (ret := (some .char)) (by decide) rfl ?_
  intro p e s m args below meth c s₁ B hml hv
  obtain ⟨rfl, hC⟩ := hv
  have hx := B.exec
  have hb := B.bytes
  have hr := B.returns
  have hts0 := atoms_spec (ws := sx_W yJ0_charAt_5068e cJ0_charAt_5068e 2 (some .char)) B.pre
  have hts : ∀ w ∈ zm_GW, w.before _ s = true := fun w hw => hts0 w (List.mem_cons_of_mem _ hw)
  have hown : s.vm.findClass RJ0 = some m.cls := findClass_of_methodNamed B.named
  have hlocks := B.notSynchronized
  obtain ⟨b1, b2, b3, b4⟩ := sx_b i hi
  obtain ⟨hO, hF1, hF2, hT⟩ := hC.1.1 i hi
  have hS : va_S A s.heap s.heap [] := va_S.rf
  have S0 : CallFix p m c cJ0_charAt_5068e 2 s _ zm_GW RJ0 := ⟨hx, hb, hml, hown, hts⟩
  have hl := lv_entry ([.ref (adK i), .int (nI k)]) (n := 2) (Nat.le_of_ble_eq_true rfl)
  rw [lg_entry_eq]
  generalize (lg_sl ([.ref (adK i), .int (nI k)]) ++ List.replicate (2 - (lg_sl ([.ref (adK i), .int (nI k)])).length) Slot.unset).toArray = ls at hl ⊢
  have hl : lv_has ls 2 [(0, .ref (adK i)), (1, .int (nI k))] := hl
  have hbk : ((zm_sxs.getD i []).getD k 0) ∈ zm_sxs.getD i [] := by
    exact sx_mem (by omega)
  obtain ⟨q, hq, eq⟩ := sx_of (b4 _ hbk)
  have hch : narrow .char (.int ((zm_sxs.getD i []).getD k 0)) = .int ((zm_sxs.getD i []).getD k 0) := by rw [eq]; exact (pk_charN (by omega)).1
  refine lv_aload_n hx hb dJ0_charAt_5068e_0 rfl (lv_at hl 0 rfl) ?_
  refine sx_callV (n := 0) (As := []) S0 hC hS (sx_isLatin1 l hi) (hts _ (zm_gin (k := 3) (i := 171) (by decide +kernel))) (zm_gin (k := 3) (i := 172) (by decide +kernel)) (zm_gin (k := 3) (i := 173) (by decide +kernel)) (zm_gin (k := 1) (i := 15) (by decide +kernel)) (zm_gin (k := 3) (i := 174) (by decide +kernel)) ⟨by decide, by decide, by decide +kernel⟩ ⟨Nat.le_of_ble_eq_true rfl, Nat.le_of_ble_eq_true rfl⟩ hi rfl rfl hl.1 (Nat.le_of_ble_eq_true rfl) dJ0_charAt_5068e_1 (Nat.zero_le _) (Nat.zero_le _) ?_
  refine lv_if_eq (tgt := 16) hx hb dJ0_charAt_5068e_4 (by decide) (fun z => absurd z (by decide)) (fun _ => ?_)
  refine lv_aload_n hx hb dJ0_charAt_5068e_7 rfl (lv_at hl 0 rfl) ?_
  refine vk_getf hx hb hF2 hS hown (hts _ (zm_gin (k := 9) (i := 108) (by decide +kernel))) (fun _ h9 => h9) dJ0_charAt_5068e_8 ?_
  refine lv_iload_n hx hb dJ0_charAt_5068e_11 rfl (lv_at hl 1 rfl) ?_
  refine sx_callS (n := 2) [.ref (adV i), .int (nI k)] S0 hC hS (sx_lcharAt l hi hk) (hts _ (zm_gin (k := 3) (i := 177) (by decide +kernel))) (zm_gin (k := 3) (i := 178) (by decide +kernel)) (zm_gin (k := 1) (i := 16) (by decide +kernel)) (zm_gin (k := 3) (i := 179) (by decide +kernel)) ⟨by decide, by decide, by decide +kernel⟩ ⟨Nat.le_of_ble_eq_true rfl, Nat.le_of_ble_eq_true rfl⟩ rfl hl.1 (Nat.le_of_ble_eq_true rfl) dJ0_charAt_5068e_12 (Nat.zero_le _) (Nat.zero_le _) ?_
  exact W.zret hx hb hr (ty := .char) hch (fun t ht hW => ⟨rfl, ht⟩) (fun q hq => by cases hq) dJ0_charAt_5068e_15
set_option maxHeartbeats 4000000 in
set_option maxRecDepth 100000 in
theorem sx_can_y (l : Launch) {adK adV : Nat → Nat} {A : Nat → Prop} {i : Nat} (hi : i < 3) (n : Nat) (hn : n < 256) : Met l yJ1_canEncode_9a6ad (sx_W yJ1_canEncode_9a6ad cJ1_canEncode_9a6ad 1 (some .boolean)) (sx_R 0 0) (sx_P adK adV A [.int (nI n)]) (sx_Q (some (.int 1))) 0 0 (fun _ => False) := by
  refine Met.ofW (cc := cJ1_canEncode_9a6ad) (maxL := 1) (ret := (some .boolean)) (by decide) rfl ?_
  intro p e s m args below meth c s₁ B hml hv
  obtain ⟨rfl, hC⟩ := hv
  have hx := B.exec
  have hb := B.bytes
  have hr := B.returns
  have hts0 := atoms_spec (ws := sx_W yJ1_canEncode_9a6ad cJ1_canEncode_9a6ad 1 (some .boolean)) B.pre
  have hts : ∀ w ∈ zm_GW, w.before _ s = true := fun w hw => hts0 w (List.mem_cons_of_mem _ hw)
  have hown : s.vm.findClass RJ1 = some m.cls := findClass_of_methodNamed B.named
  have hlocks := B.notSynchronized
  obtain ⟨b1, b2, b3, b4⟩ := sx_b i hi
  obtain ⟨hO, hF1, hF2, hT⟩ := hC.1.1 i hi
  have hS : va_S A s.heap s.heap [] := va_S.rf
  have S0 : CallFix p m c cJ1_canEncode_9a6ad 1 s _ zm_GW RJ1 := ⟨hx, hb, hml, hown, hts⟩
  have hl := lv_entry ([.int (nI n)]) (n := 1) (Nat.le_of_ble_eq_true rfl)
  rw [lg_entry_eq]
  generalize (lg_sl ([.int (nI n)]) ++ List.replicate (1 - (lg_sl ([.int (nI n)])).length) Slot.unset).toArray = ls at hl ⊢
  have hl : lv_has ls 1 [(0, .int (nI n))] := hl
  refine lv_iload_n hx hb dJ1_canEncode_9a6ad_0 rfl (lv_at hl 0 rfl) ?_
  refine lv_if_lt (tgt := 15) hx hb dJ1_canEncode_9a6ad_1 (by decide) (fun z => absurd z (nI_pos (by omega))) (fun _ => ?_)
  refine lv_iload_n hx hb dJ1_canEncode_9a6ad_4 rfl (lv_at hl 0 rfl) ?_
  refine lv_sipush (v := 255) hx hb dJ1_canEncode_9a6ad_5 (by decide) ?_
  refine lv_icmp_gt (tgt := 15) hx hb dJ1_canEncode_9a6ad_8 (by decide) (fun z => absurd z (nI_nlt (a := 255) (b := n) (by omega) (by omega))) (fun _ => ?_)
  refine lv_iconst (v := 1) hx hb dJ1_canEncode_9a6ad_11 (by decide) ?_
  refine lv_goto (tgt := 16) hx hb dJ1_canEncode_9a6ad_12 (by decide) ?_
  exact W.zret hx hb hr (ty := .boolean) rfl (fun t ht hW => ⟨rfl, ht⟩) (fun q hq => by cases hq) dJ1_canEncode_9a6ad_16
set_option maxHeartbeats 4000000 in
set_option maxRecDepth 100000 in
theorem sx_can_n (l : Launch) {adK adV : Nat → Nat} {A : Nat → Prop} {i : Nat} (hi : i < 3) (c0 : Int32) (hc0 : c0 < 0 ∨ 255 < c0) : Met l yJ1_canEncode_9a6ad (sx_W yJ1_canEncode_9a6ad cJ1_canEncode_9a6ad 1 (some .boolean)) (sx_R 0 0) (sx_P adK adV A [.int c0]) (sx_Q (some (.int 0))) 0 0 (fun _ => False) := by
  refine Met.ofW (cc := cJ1_canEncode_9a6ad) (maxL := 1) (ret := (some .boolean)) (by decide) rfl ?_
  intro p e s m args below meth c s₁ B hml hv
  obtain ⟨rfl, hC⟩ := hv
  have hx := B.exec
  have hb := B.bytes
  have hr := B.returns
  have hts0 := atoms_spec (ws := sx_W yJ1_canEncode_9a6ad cJ1_canEncode_9a6ad 1 (some .boolean)) B.pre
  have hts : ∀ w ∈ zm_GW, w.before _ s = true := fun w hw => hts0 w (List.mem_cons_of_mem _ hw)
  have hown : s.vm.findClass RJ1 = some m.cls := findClass_of_methodNamed B.named
  have hlocks := B.notSynchronized
  obtain ⟨b1, b2, b3, b4⟩ := sx_b i hi
  obtain ⟨hO, hF1, hF2, hT⟩ := hC.1.1 i hi
  have hS : va_S A s.heap s.heap [] := va_S.rf
  have S0 : CallFix p m c cJ1_canEncode_9a6ad 1 s _ zm_GW RJ1 := ⟨hx, hb, hml, hown, hts⟩
  have hl := lv_entry ([.int c0]) (n := 1) (Nat.le_of_ble_eq_true rfl)
  rw [lg_entry_eq]
  generalize (lg_sl ([.int c0]) ++ List.replicate (1 - (lg_sl ([.int c0])).length) Slot.unset).toArray = ls at hl ⊢
  have hl : lv_has ls 1 [(0, .int c0)] := hl
  have fin : W p l e (headSpec (sx_W yJ1_canEncode_9a6ad cJ1_canEncode_9a6ad 1 (some .boolean)) (sx_R 0 0)).room s m #[Value.int c0] below meth c s.heap [] 0 0 (MQ below (sx_Q (some (.int 0))) #[Value.int c0] s 0 0 (fun _ => False)) (F0 m 15 ls []) := by
    refine lv_iconst (v := 0) hx hb dJ1_canEncode_9a6ad_15 (by decide) ?_
    exact W.zret hx hb hr (ty := .boolean) rfl (fun t ht hW => ⟨rfl, ht⟩) (fun q hq => by cases hq) dJ1_canEncode_9a6ad_16
  refine lv_iload_n hx hb dJ1_canEncode_9a6ad_0 rfl (lv_at hl 0 rfl) ?_
  refine lv_if_lt (tgt := 15) hx hb dJ1_canEncode_9a6ad_1 (by decide) (fun _ => fin) (fun h0 => ?_)
  refine lv_iload_n hx hb dJ1_canEncode_9a6ad_4 rfl (lv_at hl 0 rfl) ?_
  refine lv_sipush (v := 255) hx hb dJ1_canEncode_9a6ad_5 (by decide) ?_
  refine lv_icmp_gt (tgt := 15) hx hb dJ1_canEncode_9a6ad_8 (by decide) (fun _ => fin) (fun h1 => ?_)
  exact absurd hc0 (fun z => z.elim h0 h1)
set_option maxHeartbeats 4000000 in
set_option maxRecDepth 100000 in
theorem sx_ixChar (l : Launch) {adK adV : Nat → Nat} {A : Nat → Prop} {i : Nat} (hi : i < 3) (n : Nat) (hn : n < 256) : Met l yJ1_indexOfChar_4cfef (sx_W yJ1_indexOfChar_4cfef cJ1_indexOfChar_4cfef 6 (some .int)) (sx_R 0 0) (sx_P adK adV A [.ref (adV i), .int (nI n), .int 0, .int (nI (zm_sln.getD i 0))]) (sx_Q (some (.int (zm_ixf (nI n) (zm_sxs.getD i []) 0)))) 0 0 (fun _ => False) := by
  refine Met.ofW (cc := cJ1_indexOfChar_4cfef) (maxL := 6) (ret := (some .int)) (by decide) rfl ?_
  intro p e s m args below meth c s₁ B hml hv
  obtain ⟨rfl, hC⟩ := hv
  have hx := B.exec
  have hb := B.bytes
  have hr := B.returns
  have hts0 := atoms_spec (ws := sx_W yJ1_indexOfChar_4cfef cJ1_indexOfChar_4cfef 6 (some .int)) B.pre
  have hts : ∀ w ∈ zm_GW, w.before _ s = true := fun w hw => hts0 w (List.mem_cons_of_mem _ hw)
  have hown : s.vm.findClass RJ1 = some m.cls := findClass_of_methodNamed B.named
  have hlocks := B.notSynchronized
  obtain ⟨b1, b2, b3, b4⟩ := sx_b i hi
  obtain ⟨hO, hF1, hF2, hT⟩ := hC.1.1 i hi
  have hS : va_S A s.heap s.heap [] := va_S.rf
  have S0 : CallFix p m c cJ1_indexOfChar_4cfef 6 s _ zm_GW RJ1 := ⟨hx, hb, hml, hown, hts⟩
  have hl := lv_entry ([.ref (adV i), .int (nI n), .int 0, .int (nI (zm_sln.getD i 0))]) (n := 6) (Nat.le_of_ble_eq_true rfl)
  rw [lg_entry_eq]
  generalize (lg_sl ([.ref (adV i), .int (nI n), .int 0, .int (nI (zm_sln.getD i 0))]) ++ List.replicate (6 - (lg_sl ([.ref (adV i), .int (nI n), .int 0, .int (nI (zm_sln.getD i 0))])).length) Slot.unset).toArray = ls at hl ⊢
  have hl : lv_has ls 6 [(0, .ref (adV i)), (1, .int (nI n)), (2, .int 0), (3, .int (nI (zm_sln.getD i 0)))] := hl
  have loop : ∀ (bl : List Int32) (k : Nat), k ≤ (zm_sln.getD i 0) → (zm_sxs.getD i []).drop k = bl → zm_ixf (nI n) bl k = zm_ixf (nI n) (zm_sxs.getD i []) 0 → ∀ ls : Array Slot, lv_has ls 6 [(5, .int (nI k)), (4, .int (nI n).toInt8.toInt32), (0, .ref (adV i)), (1, .int (nI n)), (2, .int 0), (3, .int (nI (zm_sln.getD i 0)))] → W p l e (headSpec (sx_W yJ1_indexOfChar_4cfef cJ1_indexOfChar_4cfef 6 (some .int)) (sx_R 0 0)).room s m #[Value.ref (adV i), Value.int (nI n), Value.int 0, Value.int (nI (zm_sln.getD i 0))] below meth c s.heap [] 0 0 (MQ below (sx_Q (some (.int (zm_ixf (nI n) (zm_sxs.getD i []) 0)))) #[Value.ref (adV i), Value.int (nI n), Value.int 0, Value.int (nI (zm_sln.getD i 0))] s 0 0 (fun _ => False)) (F0 m 7 ls []) := by
    intro bl
    induction bl with
    | nil =>
      intro k hk ed er ls hl
      have q : (zm_sxs.getD i []).length ≤ k := List.drop_eq_nil_iff.mp ed
      refine lv_iload hx hb dJ1_indexOfChar_4cfef_7 (lv_at hl 0 rfl) ?_
      refine lv_iload_n hx hb dJ1_indexOfChar_4cfef_9 rfl (lv_at hl 5 rfl) ?_
      refine lv_icmp_ge (tgt := 31) hx hb dJ1_indexOfChar_4cfef_10 (by decide) (fun _ => ?_) (fun z => absurd (nI_le (by omega) (by omega)) z)
      refine lv_iconst (v := -1) hx hb dJ1_indexOfChar_4cfef_31 (by decide) ?_
      rw [← er]
      exact W.iret hx hb hr (fun t ht hW => ⟨rfl, ht⟩) (fun q hq => by cases hq) dJ1_indexOfChar_4cfef_32
    | cons b bl ih =>
      intro k hk ed er ls hl
      obtain ⟨h1, h2, h3, h4⟩ := sc_dropC ed
      obtain ⟨q, hq, eq⟩ := sx_of (b4 b h4)
      obtain ⟨-, q2, q3⟩ := sx_q q hq
      have hcmp : b = (nI n).toInt8.toInt32 ↔ b = nI n := by
        rw [sc_eq (by rw [eq]; exact q2) hn, eq, q3]
      refine lv_iload hx hb dJ1_indexOfChar_4cfef_7 (lv_at hl 0 rfl) ?_
      refine lv_iload_n hx hb dJ1_indexOfChar_4cfef_9 rfl (lv_at hl 5 rfl) ?_
      refine lv_icmp_ge (tgt := 31) hx hb dJ1_indexOfChar_4cfef_10 (by decide) (fun z => absurd z (nI_ge (by omega) (by omega))) (fun _ => ?_)
      refine lv_aload_n hx hb dJ1_indexOfChar_4cfef_13 rfl (lv_at hl 2 rfl) ?_
      refine lv_iload hx hb dJ1_indexOfChar_4cfef_14 (lv_at hl 0 rfl) ?_
      refine va_tb hx hb hT hS (vp_in_nI (by omega) (by omega)) (v := .int b) (by rw [nI_clamp (by omega), h2]) dJ1_indexOfChar_4cfef_16 ?_
      refine lv_iload hx hb dJ1_indexOfChar_4cfef_17 (lv_at hl 1 rfl) ?_
      rw [zm_ixf] at er
      refine lv_icmp_ne (tgt := 25) hx hb dJ1_indexOfChar_4cfef_19 (by decide) (fun z => ?_) (fun z => ?_)
      · rw [if_neg (fun w => z (hcmp.mpr w))] at er
        refine lv_iinc (v := nI (k + 1)) (lv' := [(5, .int (nI (k + 1))), (4, .int (nI n).toInt8.toInt32), (0, .ref (adV i)), (1, .int (nI n)), (2, .int 0), (3, .int (nI (zm_sln.getD i 0)))]) hx hb dJ1_indexOfChar_4cfef_25 hl (k := 0) rfl (nI_1 k) (by decide) rfl (fun ls hl => ?_)
        refine lv_goto (tgt := 7) hx hb dJ1_indexOfChar_4cfef_28 (by decide) ?_
        exact ih (k + 1) (by omega) h3 er ls hl
      · have zz : b = (nI n).toInt8.toInt32 := z
        rw [if_pos (hcmp.mp zz)] at er
        refine lv_iload hx hb dJ1_indexOfChar_4cfef_22 (lv_at hl 0 rfl) ?_
        rw [← er]
        exact W.iret hx hb hr (fun t ht hW => ⟨rfl, ht⟩) (fun q hq => by cases hq) dJ1_indexOfChar_4cfef_24
  refine lv_iload_n hx hb dJ1_indexOfChar_4cfef_0 rfl (lv_at hl 1 rfl) ?_
  refine lv_i2b (v := (nI n).toInt8.toInt32) hx hb dJ1_indexOfChar_4cfef_1 rfl ?_
  refine lv_istore (lv' := [(4, .int (nI n).toInt8.toInt32), (0, .ref (adV i)), (1, .int (nI n)), (2, .int 0), (3, .int (nI (zm_sln.getD i 0)))]) hx hb dJ1_indexOfChar_4cfef_2 hl (by decide) rfl (fun ls hl => ?_)
  refine lv_iload_n hx hb dJ1_indexOfChar_4cfef_4 rfl (lv_at hl 3 rfl) ?_
  refine lv_istore (lv' := [(5, .int 0), (4, .int (nI n).toInt8.toInt32), (0, .ref (adV i)), (1, .int (nI n)), (2, .int 0), (3, .int (nI (zm_sln.getD i 0)))]) hx hb dJ1_indexOfChar_4cfef_5 hl (by decide) rfl (fun ls hl => ?_)
  exact loop _ 0 (Nat.zero_le _) rfl rfl ls hl
set_option maxHeartbeats 4000000 in
set_option maxRecDepth 100000 in
theorem sx_lix_y (l : Launch) {adK adV : Nat → Nat} {A : Nat → Prop} {i : Nat} (hi : i < 3) (n : Nat) (hn : n < 256) : Met l yJ1_indexOf_4cfef (sx_W yJ1_indexOf_4cfef cJ1_indexOf_4cfef 4 (some .int)) (sx_R 1 60) (sx_P adK adV A [.ref (adV i), .int (nI n), .int 0, .int (nI (zm_sln.getD i 0))]) (sx_Q (some (.int (zm_ixf (nI n) (zm_sxs.getD i []) 0)))) 0 0 (fun _ => False) := by
  refine Met.ofW (cc := cJ1_indexOf_4cfef) (maxL := 4) (ret := (some .int)) (by decide) rfl ?_
  intro p e s m args below meth c s₁ B hml hv
  obtain ⟨rfl, hC⟩ := hv
  have hx := B.exec
  have hb := B.bytes
  have hr := B.returns
  have hts0 := atoms_spec (ws := sx_W yJ1_indexOf_4cfef cJ1_indexOf_4cfef 4 (some .int)) B.pre
  have hts : ∀ w ∈ zm_GW, w.before _ s = true := fun w hw => hts0 w (List.mem_cons_of_mem _ hw)
  have hown : s.vm.findClass RJ1 = some m.cls := findClass_of_methodNamed B.named
  have hlocks := B.notSynchronized
  obtain ⟨b1, b2, b3, b4⟩ := sx_b i hi
  obtain ⟨hO, hF1, hF2, hT⟩ := hC.1.1 i hi
  have hS : va_S A s.heap s.heap [] := va_S.rf
  have S0 : CallFix p m c cJ1_indexOf_4cfef 4 s _ zm_GW RJ1 := ⟨hx, hb, hml, hown, hts⟩
  have hl := lv_entry ([.ref (adV i), .int (nI n), .int 0, .int (nI (zm_sln.getD i 0))]) (n := 4) (Nat.le_of_ble_eq_true rfl)
  rw [lg_entry_eq]
  generalize (lg_sl ([.ref (adV i), .int (nI n), .int 0, .int (nI (zm_sln.getD i 0))]) ++ List.replicate (4 - (lg_sl ([.ref (adV i), .int (nI n), .int 0, .int (nI (zm_sln.getD i 0))])).length) Slot.unset).toArray = ls at hl ⊢
  have hl : lv_has ls 4 [(0, .ref (adV i)), (1, .int (nI n)), (2, .int 0), (3, .int (nI (zm_sln.getD i 0)))] := hl
  refine lv_iload_n hx hb dJ1_indexOf_4cfef_0 rfl (lv_at hl 1 rfl) ?_
  refine sx_callS (n := 1) [.int (nI n)] S0 hC hS (sx_can_y l hi n hn) (hts _ (zm_gin (k := 3) (i := 236) (by decide +kernel))) (zm_gin (k := 3) (i := 237) (by decide +kernel)) (zm_gin (k := 1) (i := 16) (by decide +kernel)) (zm_gin (k := 3) (i := 238) (by decide +kernel)) ⟨by decide, by decide, by decide +kernel⟩ ⟨Nat.le_of_ble_eq_true rfl, Nat.le_of_ble_eq_true rfl⟩ rfl hl.1 (Nat.le_of_ble_eq_true rfl) dJ1_indexOf_4cfef_1 (Nat.zero_le _) (Nat.zero_le _) ?_
  refine lv_if_ne (tgt := 9) hx hb dJ1_indexOf_4cfef_4 (by decide) (fun _ => ?_) (fun z => absurd z (by decide))
  refine lv_iload_n hx hb dJ1_indexOf_4cfef_9 rfl (lv_at hl 2 rfl) ?_
  refine lv_iconst (v := 0) hx hb dJ1_indexOf_4cfef_10 (by decide) ?_
  refine va_mmax hx hb (hml.trans hl.1.symm) hown (hts _ (zm_gin (k := 3) (i := 239) (by decide +kernel))) (hts _ (zm_gin (k := 3) (i := 113) (by decide +kernel))) (hts _ (zm_gin (k := 1) (i := 14) (by decide +kernel))) (hts _ (zm_gin (k := 3) (i := 114) (by decide +kernel))) (Nat.le_of_ble_eq_true rfl) (Nat.le_of_ble_eq_true rfl) (Nat.zero_le _) (Nat.zero_le _) dJ1_indexOf_4cfef_11 ?_
  rw [ite_self]
  refine lv_istore_n (lv' := [(2, .int 0), (0, .ref (adV i)), (1, .int (nI n)), (3, .int (nI (zm_sln.getD i 0)))]) hx hb dJ1_indexOf_4cfef_14 rfl hl (by decide) rfl (fun ls hl => ?_)
  refine lv_iload_n hx hb dJ1_indexOf_4cfef_15 rfl (lv_at hl 3 rfl) ?_
  refine lv_aload_n hx hb dJ1_indexOf_4cfef_16 rfl (lv_at hl 1 rfl) ?_
  refine va_tlen hx hb hT hS (v := nI (zm_sln.getD i 0)) rfl dJ1_indexOf_4cfef_17 ?_
  refine va_mmin hx hb (hml.trans hl.1.symm) hown (hts _ (zm_gin (k := 4) (i := 0) (by decide +kernel))) (hts _ (zm_gin (k := 3) (i := 110) (by decide +kernel))) (hts _ (zm_gin (k := 1) (i := 14) (by decide +kernel))) (hts _ (zm_gin (k := 3) (i := 111) (by decide +kernel))) (Nat.le_of_ble_eq_true rfl) (Nat.le_of_ble_eq_true rfl) (Nat.zero_le _) (Nat.zero_le _) dJ1_indexOf_4cfef_18 ?_
  rw [ite_self]
  refine lv_istore_n (lv' := [(3, .int (nI (zm_sln.getD i 0))), (2, .int 0), (0, .ref (adV i)), (1, .int (nI n))]) hx hb dJ1_indexOf_4cfef_21 rfl hl (by decide) rfl (fun ls hl => ?_)
  refine lv_iload_n hx hb dJ1_indexOf_4cfef_22 rfl (lv_at hl 1 rfl) ?_
  refine lv_iload_n hx hb dJ1_indexOf_4cfef_23 rfl (lv_at hl 0 rfl) ?_
  refine lv_icmp_lt (tgt := 29) hx hb dJ1_indexOf_4cfef_24 (by decide) (fun _ => ?_) (fun z => absurd (nI_lt (a := 0) b3 (by omega)) z)
  refine lv_aload_n hx hb dJ1_indexOf_4cfef_29 rfl (lv_at hl 2 rfl) ?_
  refine lv_iload_n hx hb dJ1_indexOf_4cfef_30 rfl (lv_at hl 3 rfl) ?_
  refine lv_iload_n hx hb dJ1_indexOf_4cfef_31 rfl (lv_at hl 1 rfl) ?_
  refine lv_iload_n hx hb dJ1_indexOf_4cfef_32 rfl (lv_at hl 0 rfl) ?_
  refine sx_callS (n := 4) [.ref (adV i), .int (nI n), .int 0, .int (nI (zm_sln.getD i 0))] S0 hC hS (sx_ixChar l hi n hn) (hts _ (zm_gin (k := 4) (i := 1) (by decide +kernel))) (zm_gin (k := 4) (i := 2) (by decide +kernel)) (zm_gin (k := 1) (i := 16) (by decide +kernel)) (zm_gin (k := 4) (i := 3) (by decide +kernel)) ⟨by decide, by decide, by decide +kernel⟩ ⟨Nat.le_of_ble_eq_true rfl, Nat.le_of_ble_eq_true rfl⟩ rfl hl.1 (Nat.le_of_ble_eq_true rfl) dJ1_indexOf_4cfef_33 (Nat.zero_le _) (Nat.zero_le _) ?_
  exact W.iret hx hb hr (fun t ht hW => ⟨rfl, ht⟩) (fun q hq => by cases hq) dJ1_indexOf_4cfef_36
set_option maxHeartbeats 4000000 in
set_option maxRecDepth 100000 in
theorem sx_lix_n (l : Launch) {adK adV : Nat → Nat} {A : Nat → Prop} {i : Nat} (hi : i < 3) (c0 : Int32) (hc0 : c0 < 0 ∨ 255 < c0) : Met l yJ1_indexOf_4cfef (sx_W yJ1_indexOf_4cfef cJ1_indexOf_4cfef 4 (some .int)) (sx_R 1 60) (sx_P adK adV A [.ref (adV i), .int c0, .int 0, .int (nI (zm_sln.getD i 0))]) (sx_Q (some (.int (zm_ixf c0 (zm_sxs.getD i []) 0)))) 0 0 (fun _ => False) := by
  refine Met.ofW (cc := cJ1_indexOf_4cfef) (maxL := 4) (ret := (some .int)) (by decide) rfl ?_
  intro p e s m args below meth c s₁ B hml hv
  obtain ⟨rfl, hC⟩ := hv
  have hx := B.exec
  have hb := B.bytes
  have hr := B.returns
  have hts0 := atoms_spec (ws := sx_W yJ1_indexOf_4cfef cJ1_indexOf_4cfef 4 (some .int)) B.pre
  have hts : ∀ w ∈ zm_GW, w.before _ s = true := fun w hw => hts0 w (List.mem_cons_of_mem _ hw)
  have hown : s.vm.findClass RJ1 = some m.cls := findClass_of_methodNamed B.named
  have hlocks := B.notSynchronized
  obtain ⟨b1, b2, b3, b4⟩ := sx_b i hi
  obtain ⟨hO, hF1, hF2, hT⟩ := hC.1.1 i hi
  have hS : va_S A s.heap s.heap [] := va_S.rf
  have S0 : CallFix p m c cJ1_indexOf_4cfef 4 s _ zm_GW RJ1 := ⟨hx, hb, hml, hown, hts⟩
  have hl := lv_entry ([.ref (adV i), .int c0, .int 0, .int (nI (zm_sln.getD i 0))]) (n := 4) (Nat.le_of_ble_eq_true rfl)
  rw [lg_entry_eq]
  generalize (lg_sl ([.ref (adV i), .int c0, .int 0, .int (nI (zm_sln.getD i 0))]) ++ List.replicate (4 - (lg_sl ([.ref (adV i), .int c0, .int 0, .int (nI (zm_sln.getD i 0))])).length) Slot.unset).toArray = ls at hl ⊢
  have hl : lv_has ls 4 [(0, .ref (adV i)), (1, .int c0), (2, .int 0), (3, .int (nI (zm_sln.getD i 0)))] := hl
  refine lv_iload_n hx hb dJ1_indexOf_4cfef_0 rfl (lv_at hl 1 rfl) ?_
  refine sx_callS (n := 1) [.int c0] S0 hC hS (sx_can_n l hi c0 hc0) (hts _ (zm_gin (k := 3) (i := 236) (by decide +kernel))) (zm_gin (k := 3) (i := 237) (by decide +kernel)) (zm_gin (k := 1) (i := 16) (by decide +kernel)) (zm_gin (k := 3) (i := 238) (by decide +kernel)) ⟨by decide, by decide, by decide +kernel⟩ ⟨Nat.le_of_ble_eq_true rfl, Nat.le_of_ble_eq_true rfl⟩ rfl hl.1 (Nat.le_of_ble_eq_true rfl) dJ1_indexOf_4cfef_1 (Nat.zero_le _) (Nat.zero_le _) ?_
  refine lv_if_ne (tgt := 9) hx hb dJ1_indexOf_4cfef_4 (by decide) (fun z => absurd rfl z) (fun _ => ?_)
  refine lv_iconst (v := -1) hx hb dJ1_indexOf_4cfef_7 (by decide) ?_
  rw [sx_ix0 hc0 _ 0 b4]
  exact W.iret hx hb hr (fun t ht hW => ⟨rfl, ht⟩) (fun q hq => by cases hq) dJ1_indexOf_4cfef_8
theorem sx_can (c0 : Int32) : (∃ n, n < 256 ∧ c0 = nI n) ∨ (c0 < 0 ∨ 255 < c0) := by
  by_cases h : c0 < 0
  · exact Or.inr (Or.inl h)
  · obtain ⟨j, hj, rfl⟩ := nI_of h
    rcases Nat.lt_or_ge j 256 with z | z
    · exact Or.inl ⟨j, z, rfl⟩
    · exact Or.inr (Or.inr (nI_lt (a := 255) (by omega) hj))
theorem sx_lix (l : Launch) {adK adV : Nat → Nat} {A : Nat → Prop} {i : Nat} (hi : i < 3) (c0 : Int32) : Met l yJ1_indexOf_4cfef (sx_W yJ1_indexOf_4cfef cJ1_indexOf_4cfef 4 (some .int)) (sx_R 1 60) (sx_P adK adV A [.ref (adV i), .int c0, .int 0, .int (nI (zm_sln.getD i 0))]) (sx_Q (some (.int (zm_ixf c0 (zm_sxs.getD i []) 0)))) 0 0 (fun _ => False) := by
  rcases sx_can c0 with ⟨n, hn, rfl⟩ | h
  · exact sx_lix_y l hi n hn
  · exact sx_lix_n l hi c0 h
set_option maxHeartbeats 4000000 in
set_option maxRecDepth 100000 in
theorem sx_ix2 (l : Launch) {adK adV : Nat → Nat} {A : Nat → Prop} {i : Nat} (hi : i < 3) (c0 : Int32) : Met l yJ0_indexOf_7cf53 (sx_W yJ0_indexOf_7cf53 cJ0_indexOf_7cf53 3 (some .int)) (sx_R 2 83) (sx_P adK adV A [.ref (adK i), .int c0, .int 0]) (sx_Q (some (.int (zm_ixf c0 (zm_sxs.getD i []) 0)))) 0 0 (fun _ => False) := by
  refine Met.ofW (cc := cJ0_indexOf_7cf53) (maxL := 3) (ret := (some .int)) (by decide) rfl ?_
  intro p e s m args below meth c s₁ B hml hv
  obtain ⟨rfl, hC⟩ := hv
  have hx := B.exec
  have hb := B.bytes
  have hr := B.returns
  have hts0 := atoms_spec (ws := sx_W yJ0_indexOf_7cf53 cJ0_indexOf_7cf53 3 (some .int)) B.pre
  have hts : ∀ w ∈ zm_GW, w.before _ s = true := fun w hw => hts0 w (List.mem_cons_of_mem _ hw)
  have hown : s.vm.findClass RJ0 = some m.cls := findClass_of_methodNamed B.named
  have hlocks := B.notSynchronized
  obtain ⟨b1, b2, b3, b4⟩ := sx_b i hi
  obtain ⟨hO, hF1, hF2, hT⟩ := hC.1.1 i hi
  have hS : va_S A s.heap s.heap [] := va_S.rf
  have S0 : CallFix p m c cJ0_indexOf_7cf53 3 s _ zm_GW RJ0 := ⟨hx, hb, hml, hown, hts⟩
  have hl := lv_entry ([.ref (adK i), .int c0, .int 0]) (n := 3) (Nat.le_of_ble_eq_true rfl)
  rw [lg_entry_eq]
  generalize (lg_sl ([.ref (adK i), .int c0, .int 0]) ++ List.replicate (3 - (lg_sl ([.ref (adK i), .int c0, .int 0])).length) Slot.unset).toArray = ls at hl ⊢
  have hl : lv_has ls 3 [(0, .ref (adK i)), (1, .int c0), (2, .int 0)] := hl
  refine lv_aload_n hx hb dJ0_indexOf_7cf53_0 rfl (lv_at hl 0 rfl) ?_
  refine sx_callV (n := 0) (As := []) S0 hC hS (sx_isLatin1 l hi) (hts _ (zm_gin (k := 3) (i := 171) (by decide +kernel))) (zm_gin (k := 3) (i := 172) (by decide +kernel)) (zm_gin (k := 3) (i := 173) (by decide +kernel)) (zm_gin (k := 1) (i := 15) (by decide +kernel)) (zm_gin (k := 3) (i := 174) (by decide +kernel)) ⟨by decide, by decide, by decide +kernel⟩ ⟨Nat.le_of_ble_eq_true rfl, Nat.le_of_ble_eq_true rfl⟩ hi rfl rfl hl.1 (Nat.le_of_ble_eq_true rfl) dJ0_indexOf_7cf53_1 (Nat.zero_le _) (Nat.zero_le _) ?_
  refine lv_if_eq (tgt := 23) hx hb dJ0_indexOf_7cf53_4 (by decide) (fun z => absurd z (by decide)) (fun _ => ?_)
  refine lv_aload_n hx hb dJ0_indexOf_7cf53_7 rfl (lv_at hl 0 rfl) ?_
  refine vk_getf hx hb hF2 hS hown (hts _ (zm_gin (k := 9) (i := 108) (by decide +kernel))) (fun _ h9 => h9) dJ0_indexOf_7cf53_8 ?_
  refine lv_iload_n hx hb dJ0_indexOf_7cf53_11 rfl (lv_at hl 1 rfl) ?_
  refine lv_iload_n hx hb dJ0_indexOf_7cf53_12 rfl (lv_at hl 2 rfl) ?_
  refine lv_aload_n hx hb dJ0_indexOf_7cf53_13 rfl (lv_at hl 0 rfl) ?_
  refine sx_callV (n := 0) (As := []) S0 hC hS (sx_length l hi) (hts _ (zm_gin (k := 3) (i := 225) (by decide +kernel))) (zm_gin (k := 3) (i := 226) (by decide +kernel)) (zm_gin (k := 3) (i := 227) (by decide +kernel)) (zm_gin (k := 1) (i := 15) (by decide +kernel)) (zm_gin (k := 3) (i := 228) (by decide +kernel)) ⟨by decide, by decide, by decide +kernel⟩ ⟨Nat.le_of_ble_eq_true rfl, Nat.le_of_ble_eq_true rfl⟩ hi rfl rfl hl.1 (Nat.le_of_ble_eq_true rfl) dJ0_indexOf_7cf53_14 (Nat.zero_le _) (Nat.zero_le _) ?_
  refine sx_callS (n := 4) [.ref (adV i), .int c0, .int 0, .int (nI (zm_sln.getD i 0))] S0 hC hS (sx_lix l hi c0) (hts _ (zm_gin (k := 3) (i := 233) (by decide +kernel))) (zm_gin (k := 3) (i := 234) (by decide +kernel)) (zm_gin (k := 1) (i := 16) (by decide +kernel)) (zm_gin (k := 3) (i := 235) (by decide +kernel)) ⟨by decide, by decide, by decide +kernel⟩ ⟨Nat.le_of_ble_eq_true rfl, Nat.le_of_ble_eq_true rfl⟩ rfl hl.1 (Nat.le_of_ble_eq_true rfl) dJ0_indexOf_7cf53_17 (Nat.zero_le _) (Nat.zero_le _) ?_
  refine lv_goto (tgt := 36) hx hb dJ0_indexOf_7cf53_20 (by decide) ?_
  exact W.iret hx hb hr (fun t ht hW => ⟨rfl, ht⟩) (fun q hq => by cases hq) dJ0_indexOf_7cf53_36
set_option maxHeartbeats 4000000 in
set_option maxRecDepth 100000 in
theorem sx_ix1 (l : Launch) {adK adV : Nat → Nat} {A : Nat → Prop} {i : Nat} (hi : i < 3) (c0 : Int32) : Met l yJ0_indexOf_0f7a4 (sx_W yJ0_indexOf_0f7a4 cJ0_indexOf_0f7a4 2 (some .int)) (sx_R 3 105) (sx_P adK adV A [.ref (adK i), .int c0]) (sx_Q (some (.int (zm_ixf c0 (zm_sxs.getD i []) 0)))) 0 0 (fun _ => False) := by
  refine Met.ofW (cc := cJ0_indexOf_0f7a4) (maxL := 2) (ret := (some .int)) (by decide) rfl ?_
  intro p e s m args below meth c s₁ B hml hv
  obtain ⟨rfl, hC⟩ := hv
  have hx := B.exec
  have hb := B.bytes
  have hr := B.returns
  have hts0 := atoms_spec (ws := sx_W yJ0_indexOf_0f7a4 cJ0_indexOf_0f7a4 2 (some .int)) B.pre
  have hts : ∀ w ∈ zm_GW, w.before _ s = true := fun w hw => hts0 w (List.mem_cons_of_mem _ hw)
  have hown : s.vm.findClass RJ0 = some m.cls := findClass_of_methodNamed B.named
  have hlocks := B.notSynchronized
  obtain ⟨b1, b2, b3, b4⟩ := sx_b i hi
  obtain ⟨hO, hF1, hF2, hT⟩ := hC.1.1 i hi
  have hS : va_S A s.heap s.heap [] := va_S.rf
  have S0 : CallFix p m c cJ0_indexOf_0f7a4 2 s _ zm_GW RJ0 := ⟨hx, hb, hml, hown, hts⟩
  have hl := lv_entry ([.ref (adK i), .int c0]) (n := 2) (Nat.le_of_ble_eq_true rfl)
  rw [lg_entry_eq]
  generalize (lg_sl ([.ref (adK i), .int c0]) ++ List.replicate (2 - (lg_sl ([.ref (adK i), .int c0])).length) Slot.unset).toArray = ls at hl ⊢
  have hl : lv_has ls 2 [(0, .ref (adK i)), (1, .int c0)] := hl
  refine lv_aload_n hx hb dJ0_indexOf_0f7a4_0 rfl (lv_at hl 0 rfl) ?_
  refine lv_iload_n hx hb dJ0_indexOf_0f7a4_1 rfl (lv_at hl 1 rfl) ?_
  refine lv_iconst (v := 0) hx hb dJ0_indexOf_0f7a4_2 (by decide) ?_
  refine sx_callV (n := 2) (As := [.int c0, .int 0]) S0 hC hS (sx_ix2 l hi c0) (hts _ (zm_gin (k := 3) (i := 221) (by decide +kernel))) (zm_gin (k := 3) (i := 222) (by decide +kernel)) (zm_gin (k := 3) (i := 223) (by decide +kernel)) (zm_gin (k := 1) (i := 15) (by decide +kernel)) (zm_gin (k := 3) (i := 224) (by decide +kernel)) ⟨by decide, by decide, by decide +kernel⟩ ⟨Nat.le_of_ble_eq_true rfl, Nat.le_of_ble_eq_true rfl⟩ hi rfl rfl hl.1 (Nat.le_of_ble_eq_true rfl) dJ0_indexOf_0f7a4_3 (Nat.zero_le _) (Nat.zero_le _) ?_
  exact W.iret hx hb hr (fun t ht hW => ⟨rfl, ht⟩) (fun q hq => by cases hq) dJ0_indexOf_0f7a4_6
set_option maxHeartbeats 4000000 in
set_option maxRecDepth 100000 in
theorem zm_strings (l : Launch) : zm_SX l := by
  intro p e R s m args below meth c H locs cells slots Q x D dA adV N0 ad mi pc la i k as h h1 w rest F C hS hla hdg hlk hk hx hRf hRl hRc hRs hsum kk
  obtain ⟨hex, hb, hml, hown, hts, hini⟩ := F
  have hC : sx_C (fun i => ad (2000000 + i)) adV (zm_A N0) s s.heap := ⟨C.2.2.2.2.2.2.1, C.2.2.2.2.2.2.2.1, C.2.2.2.2.2.2.2.2.2⟩
  have S0 : CallFix p m c (zm_b mi) (zm_ml mi) s args zm_GW (zm_cn (zm_oc mi)) := ⟨hex, hb, hml, hown, hts⟩
  have hrs : ((rest.map (zm_c ad)).map fun v => v.category).sum ≤ 8 := by rw [zm_cats]; exact hsum
  rcases hk with rfl | rfl | rfl
  · match as, hx with
    | [.ref y, .int j], hx =>
      have hx : (if 2000000 ≤ y ∧ y < 2000003 ∧ 0 ≤ j ∧ j.toNatClampNeg < (zm_sx (y - 2000000)).length then some (some (.int ((zm_sx (y - 2000000)).getD j.toNatClampNeg 0)), h) else none) = some (w, h1) := hx
      obtain ⟨hc, hx2⟩ := zm_ifs hx
      cases hx2
      obtain ⟨i0, hi, rfl⟩ := sx_y y hc.1 hc.2.1
      rw [Nat.add_sub_cancel_left] at *
      obtain ⟨j0, hj0, rfl⟩ := nI_of (x := j) (Int32.not_lt.mpr hc.2.2.1)
      have hj2 : j0 < zm_sln.getD i0 0 := by
        have := hc.2.2.2
        rw [nI_clamp hj0] at this
        rw [← (sx_b i0 hi).1]
        exact this
      rw [nI_clamp hj0] at kk
      exact sx_callV (n := 1) (As := [.int (nI j0)]) (rest := rest.map (zm_c ad)) S0 hC hS (sx_charAt l hi hj2) hlk (zm_gin (k := 3) (i := 168) (by decide +kernel)) (zm_gin (k := 3) (i := 169) (by decide +kernel)) (zm_gin (k := 1) (i := 15) (by decide +kernel)) (zm_gin (k := 3) (i := 170) (by decide +kernel)) ⟨by decide, by decide, by decide +kernel⟩ ⟨by omega, by omega⟩ hi rfl rfl hla hrs hdg hRc hRs kk
  · match as, hx with
    | [.ref y], hx =>
      have hx : (if 2000000 ≤ y ∧ y < 2000003 then some (some (.int (Int32.ofNat (zm_sx (y - 2000000)).length)), h) else none) = some (w, h1) := hx
      obtain ⟨hc, hx2⟩ := zm_ifs hx
      cases hx2
      obtain ⟨i0, hi, rfl⟩ := sx_y y hc.1 hc.2
      rw [Nat.add_sub_cancel_left] at *
      have ekk : Int32.ofNat (zm_sx i0).length = nI (zm_sln.getD i0 0) := by rw [← (sx_b i0 hi).1]; rfl
      rw [ekk] at kk
      exact sx_callV (n := 0) (As := []) (rest := rest.map (zm_c ad)) S0 hC hS (sx_length l hi) hlk (zm_gin (k := 3) (i := 226) (by decide +kernel)) (zm_gin (k := 3) (i := 227) (by decide +kernel)) (zm_gin (k := 1) (i := 15) (by decide +kernel)) (zm_gin (k := 3) (i := 228) (by decide +kernel)) ⟨by decide, by decide, by decide +kernel⟩ ⟨by omega, by omega⟩ hi rfl rfl hla hrs hdg hRc hRs kk
  · match as, hx with
    | [.ref y, .int c0], hx =>
      have hx : (if 2000000 ≤ y ∧ y < 2000003 then some (some (.int (zm_ixf c0 (zm_sx (y - 2000000)) 0)), h) else none) = some (w, h1) := hx
      obtain ⟨hc, hx2⟩ := zm_ifs hx
      cases hx2
      obtain ⟨i0, hi, rfl⟩ := sx_y y hc.1 hc.2
      rw [Nat.add_sub_cancel_left] at *
      exact sx_callV (n := 1) (As := [.int c0]) (rest := rest.map (zm_c ad)) S0 hC hS (sx_ix1 l hi c0) hlk (zm_gin (k := 3) (i := 218) (by decide +kernel)) (zm_gin (k := 3) (i := 219) (by decide +kernel)) (zm_gin (k := 1) (i := 15) (by decide +kernel)) (zm_gin (k := 3) (i := 220) (by decide +kernel)) ⟨by decide, by decide, by decide +kernel⟩ ⟨by omega, by omega⟩ hi rfl rfl hla hrs hdg hRc hRs kk
