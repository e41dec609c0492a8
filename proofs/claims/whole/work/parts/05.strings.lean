theorem dJ0_coder_7d493_0 : decode cJ0_coder_7d493 0 = .ok (.getstatic 38, 3) := by decide +kernel
theorem dJ0_coder_7d493_3 : decode cJ0_coder_7d493 3 = .ok (.ifCond .eq 10, 3) := by decide +kernel
theorem dJ0_coder_7d493_6 : decode cJ0_coder_7d493 6 = .ok (.aload_n 0, 1) := by decide +kernel
theorem dJ0_coder_7d493_7 : decode cJ0_coder_7d493 7 = .ok (.getfield 15, 3) := by decide +kernel
theorem dJ0_coder_7d493_10 : decode cJ0_coder_7d493 10 = .ok (.goto 4, 3) := by decide +kernel
theorem dJ0_coder_7d493_13 : decode cJ0_coder_7d493 13 = .ok (.iconst 1, 1) := by decide +kernel
theorem dJ0_coder_7d493_14 : decode cJ0_coder_7d493 14 = .ok (.ireturn, 1) := by decide +kernel
theorem dJ0_isLatin1_aae02_0 : decode cJ0_isLatin1_aae02 0 = .ok (.getstatic 38, 3) := by decide +kernel
theorem dJ0_isLatin1_aae02_3 : decode cJ0_isLatin1_aae02 3 = .ok (.ifCond .eq 14, 3) := by decide +kernel
theorem dJ0_isLatin1_aae02_6 : decode cJ0_isLatin1_aae02 6 = .ok (.aload_n 0, 1) := by decide +kernel
theorem dJ0_isLatin1_aae02_7 : decode cJ0_isLatin1_aae02 7 = .ok (.getfield 15, 3) := by decide +kernel
theorem dJ0_isLatin1_aae02_10 : decode cJ0_isLatin1_aae02 10 = .ok (.ifCond .ne 7, 3) := by decide +kernel
theorem dJ0_isLatin1_aae02_13 : decode cJ0_isLatin1_aae02 13 = .ok (.iconst 1, 1) := by decide +kernel
theorem dJ0_isLatin1_aae02_14 : decode cJ0_isLatin1_aae02 14 = .ok (.goto 4, 3) := by decide +kernel
theorem dJ0_isLatin1_aae02_17 : decode cJ0_isLatin1_aae02 17 = .ok (.iconst 0, 1) := by decide +kernel
theorem dJ0_isLatin1_aae02_18 : decode cJ0_isLatin1_aae02 18 = .ok (.ireturn, 1) := by decide +kernel
theorem dJ0_length_8abf5_0 : decode cJ0_length_8abf5 0 = .ok (.aload_n 0, 1) := by decide +kernel
theorem dJ0_length_8abf5_1 : decode cJ0_length_8abf5 1 = .ok (.getfield 9, 3) := by decide +kernel
theorem dJ0_length_8abf5_4 : decode cJ0_length_8abf5 4 = .ok (.arraylength, 1) := by decide +kernel
theorem dJ0_length_8abf5_5 : decode cJ0_length_8abf5 5 = .ok (.aload_n 0, 1) := by decide +kernel
theorem dJ0_length_8abf5_6 : decode cJ0_length_8abf5 6 = .ok (.invokevirtual 335, 3) := by decide +kernel
theorem dJ0_length_8abf5_9 : decode cJ0_length_8abf5 9 = .ok (.ishr, 1) := by decide +kernel
theorem dJ0_length_8abf5_10 : decode cJ0_length_8abf5 10 = .ok (.ireturn, 1) := by decide +kernel
theorem dJ0_checkIndex_df160_0 : decode cJ0_checkIndex_df160 0 = .ok (.iload_n 0, 1) := by decide +kernel
theorem dJ0_checkIndex_df160_1 : decode cJ0_checkIndex_df160 1 = .ok (.iload_n 1, 1) := by decide +kernel
theorem dJ0_checkIndex_df160_2 : decode cJ0_checkIndex_df160 2 = .ok (.getstatic 1053, 3) := by decide +kernel
theorem dJ0_checkIndex_df160_5 : decode cJ0_checkIndex_df160 5 = .ok (.invokestatic 1059, 3) := by decide +kernel
theorem dJ0_checkIndex_df160_8 : decode cJ0_checkIndex_df160 8 = .ok (.pop, 1) := by decide +kernel
theorem dJ0_checkIndex_df160_9 : decode cJ0_checkIndex_df160 9 = .ok (.return_, 1) := by decide +kernel
theorem dJ3_checkIndex_8e157_0 : decode cJ3_checkIndex_8e157 0 = .ok (.iload_n 0, 1) := by decide +kernel
theorem dJ3_checkIndex_8e157_1 : decode cJ3_checkIndex_8e157 1 = .ok (.ifCond .lt 8, 3) := by decide +kernel
theorem dJ3_checkIndex_8e157_4 : decode cJ3_checkIndex_8e157 4 = .ok (.iload_n 0, 1) := by decide +kernel
theorem dJ3_checkIndex_8e157_5 : decode cJ3_checkIndex_8e157 5 = .ok (.iload_n 1, 1) := by decide +kernel
theorem dJ3_checkIndex_8e157_6 : decode cJ3_checkIndex_8e157 6 = .ok (.if_icmp .lt 10, 3) := by decide +kernel
theorem dJ3_checkIndex_8e157_9 : decode cJ3_checkIndex_8e157 9 = .ok (.aload_n 2, 1) := by decide +kernel
theorem dJ3_checkIndex_8e157_10 : decode cJ3_checkIndex_8e157 10 = .ok (.iload_n 0, 1) := by decide +kernel
theorem dJ3_checkIndex_8e157_11 : decode cJ3_checkIndex_8e157 11 = .ok (.iload_n 1, 1) := by decide +kernel
theorem dJ3_checkIndex_8e157_12 : decode cJ3_checkIndex_8e157 12 = .ok (.invokestatic 95, 3) := by decide +kernel
theorem dJ3_checkIndex_8e157_15 : decode cJ3_checkIndex_8e157 15 = .ok (.athrow, 1) := by decide +kernel
theorem dJ3_checkIndex_8e157_16 : decode cJ3_checkIndex_8e157 16 = .ok (.iload_n 0, 1) := by decide +kernel
theorem dJ3_checkIndex_8e157_17 : decode cJ3_checkIndex_8e157 17 = .ok (.ireturn, 1) := by decide +kernel
theorem dJ1_charAt_3b067_0 : decode cJ1_charAt_3b067 0 = .ok (.iload_n 1, 1) := by decide +kernel
theorem dJ1_charAt_3b067_1 : decode cJ1_charAt_3b067 1 = .ok (.aload_n 0, 1) := by decide +kernel
theorem dJ1_charAt_3b067_2 : decode cJ1_charAt_3b067 2 = .ok (.arraylength, 1) := by decide +kernel
theorem dJ1_charAt_3b067_3 : decode cJ1_charAt_3b067 3 = .ok (.invokestatic 9, 3) := by decide +kernel
theorem dJ1_charAt_3b067_6 : decode cJ1_charAt_3b067 6 = .ok (.aload_n 0, 1) := by decide +kernel
theorem dJ1_charAt_3b067_7 : decode cJ1_charAt_3b067 7 = .ok (.iload_n 1, 1) := by decide +kernel
theorem dJ1_charAt_3b067_8 : decode cJ1_charAt_3b067 8 = .ok (.baload, 1) := by decide +kernel
theorem dJ1_charAt_3b067_9 : decode cJ1_charAt_3b067 9 = .ok (.sipush 255, 3) := by decide +kernel
theorem dJ1_charAt_3b067_12 : decode cJ1_charAt_3b067 12 = .ok (.iand, 1) := by decide +kernel
theorem dJ1_charAt_3b067_13 : decode cJ1_charAt_3b067 13 = .ok (.i2c, 1) := by decide +kernel
theorem dJ1_charAt_3b067_14 : decode cJ1_charAt_3b067 14 = .ok (.ireturn, 1) := by decide +kernel
theorem dJ0_charAt_5068e_0 : decode cJ0_charAt_5068e 0 = .ok (.aload_n 0, 1) := by decide +kernel
theorem dJ0_charAt_5068e_1 : decode cJ0_charAt_5068e 1 = .ok (.invokevirtual 492, 3) := by decide +kernel
theorem dJ0_charAt_5068e_4 : decode cJ0_charAt_5068e 4 = .ok (.ifCond .eq 12, 3) := by decide +kernel
theorem dJ0_charAt_5068e_7 : decode cJ0_charAt_5068e 7 = .ok (.aload_n 0, 1) := by decide +kernel
theorem dJ0_charAt_5068e_8 : decode cJ0_charAt_5068e 8 = .ok (.getfield 9, 3) := by decide +kernel
theorem dJ0_charAt_5068e_11 : decode cJ0_charAt_5068e 11 = .ok (.iload_n 1, 1) := by decide +kernel
theorem dJ0_charAt_5068e_12 : decode cJ0_charAt_5068e 12 = .ok (.invokestatic 495, 3) := by decide +kernel
theorem dJ0_charAt_5068e_15 : decode cJ0_charAt_5068e 15 = .ok (.ireturn, 1) := by decide +kernel
theorem dJ0_charAt_5068e_16 : decode cJ0_charAt_5068e 16 = .ok (.aload_n 0, 1) := by decide +kernel
theorem dJ0_charAt_5068e_17 : decode cJ0_charAt_5068e 17 = .ok (.getfield 9, 3) := by decide +kernel
theorem dJ0_charAt_5068e_20 : decode cJ0_charAt_5068e 20 = .ok (.iload_n 1, 1) := by decide +kernel
theorem dJ0_charAt_5068e_21 : decode cJ0_charAt_5068e 21 = .ok (.invokestatic 498, 3) := by decide +kernel
theorem dJ0_charAt_5068e_24 : decode cJ0_charAt_5068e 24 = .ok (.ireturn, 1) := by decide +kernel
theorem dJ1_canEncode_9a6ad_0 : decode cJ1_canEncode_9a6ad 0 = .ok (.iload_n 0, 1) := by decide +kernel
theorem dJ1_canEncode_9a6ad_1 : decode cJ1_canEncode_9a6ad 1 = .ok (.ifCond .lt 14, 3) := by decide +kernel
theorem dJ1_canEncode_9a6ad_4 : decode cJ1_canEncode_9a6ad 4 = .ok (.iload_n 0, 1) := by decide +kernel
theorem dJ1_canEncode_9a6ad_5 : decode cJ1_canEncode_9a6ad 5 = .ok (.sipush 255, 3) := by decide +kernel
theorem dJ1_canEncode_9a6ad_8 : decode cJ1_canEncode_9a6ad 8 = .ok (.if_icmp .gt 7, 3) := by decide +kernel
theorem dJ1_canEncode_9a6ad_11 : decode cJ1_canEncode_9a6ad 11 = .ok (.iconst 1, 1) := by decide +kernel
theorem dJ1_canEncode_9a6ad_12 : decode cJ1_canEncode_9a6ad 12 = .ok (.goto 4, 3) := by decide +kernel
theorem dJ1_canEncode_9a6ad_15 : decode cJ1_canEncode_9a6ad 15 = .ok (.iconst 0, 1) := by decide +kernel
theorem dJ1_canEncode_9a6ad_16 : decode cJ1_canEncode_9a6ad 16 = .ok (.ireturn, 1) := by decide +kernel
theorem dJ1_indexOfChar_4cfef_0 : decode cJ1_indexOfChar_4cfef 0 = .ok (.iload_n 1, 1) := by decide +kernel
theorem dJ1_indexOfChar_4cfef_1 : decode cJ1_indexOfChar_4cfef 1 = .ok (.i2b, 1) := by decide +kernel
theorem dJ1_indexOfChar_4cfef_2 : decode cJ1_indexOfChar_4cfef 2 = .ok (.istore 4, 2) := by decide +kernel
theorem dJ1_indexOfChar_4cfef_4 : decode cJ1_indexOfChar_4cfef 4 = .ok (.iload_n 2, 1) := by decide +kernel
theorem dJ1_indexOfChar_4cfef_5 : decode cJ1_indexOfChar_4cfef 5 = .ok (.istore 5, 2) := by decide +kernel
theorem dJ1_indexOfChar_4cfef_7 : decode cJ1_indexOfChar_4cfef 7 = .ok (.iload 5, 2) := by decide +kernel
theorem dJ1_indexOfChar_4cfef_9 : decode cJ1_indexOfChar_4cfef 9 = .ok (.iload_n 3, 1) := by decide +kernel
theorem dJ1_indexOfChar_4cfef_10 : decode cJ1_indexOfChar_4cfef 10 = .ok (.if_icmp .ge 21, 3) := by decide +kernel
theorem dJ1_indexOfChar_4cfef_13 : decode cJ1_indexOfChar_4cfef 13 = .ok (.aload_n 0, 1) := by decide +kernel
theorem dJ1_indexOfChar_4cfef_14 : decode cJ1_indexOfChar_4cfef 14 = .ok (.iload 5, 2) := by decide +kernel
theorem dJ1_indexOfChar_4cfef_16 : decode cJ1_indexOfChar_4cfef 16 = .ok (.baload, 1) := by decide +kernel
theorem dJ1_indexOfChar_4cfef_17 : decode cJ1_indexOfChar_4cfef 17 = .ok (.iload 4, 2) := by decide +kernel
theorem dJ1_indexOfChar_4cfef_19 : decode cJ1_indexOfChar_4cfef 19 = .ok (.if_icmp .ne 6, 3) := by decide +kernel
theorem dJ1_indexOfChar_4cfef_22 : decode cJ1_indexOfChar_4cfef 22 = .ok (.iload 5, 2) := by decide +kernel
theorem dJ1_indexOfChar_4cfef_24 : decode cJ1_indexOfChar_4cfef 24 = .ok (.ireturn, 1) := by decide +kernel
theorem dJ1_indexOfChar_4cfef_25 : decode cJ1_indexOfChar_4cfef 25 = .ok (.iinc 5 1, 3) := by decide +kernel
theorem dJ1_indexOfChar_4cfef_28 : decode cJ1_indexOfChar_4cfef 28 = .ok (.goto (-21), 3) := by decide +kernel
theorem dJ1_indexOfChar_4cfef_31 : decode cJ1_indexOfChar_4cfef 31 = .ok (.iconst (-1), 1) := by decide +kernel
theorem dJ1_indexOfChar_4cfef_32 : decode cJ1_indexOfChar_4cfef 32 = .ok (.ireturn, 1) := by decide +kernel
theorem dJ1_indexOf_4cfef_0 : decode cJ1_indexOf_4cfef 0 = .ok (.iload_n 1, 1) := by decide +kernel
theorem dJ1_indexOf_4cfef_1 : decode cJ1_indexOf_4cfef 1 = .ok (.invokestatic 88, 3) := by decide +kernel
theorem dJ1_indexOf_4cfef_4 : decode cJ1_indexOf_4cfef 4 = .ok (.ifCond .ne 5, 3) := by decide +kernel
theorem dJ1_indexOf_4cfef_7 : decode cJ1_indexOf_4cfef 7 = .ok (.iconst (-1), 1) := by decide +kernel
theorem dJ1_indexOf_4cfef_8 : decode cJ1_indexOf_4cfef 8 = .ok (.ireturn, 1) := by decide +kernel
theorem dJ1_indexOf_4cfef_9 : decode cJ1_indexOf_4cfef 9 = .ok (.iload_n 2, 1) := by decide +kernel
theorem dJ1_indexOf_4cfef_10 : decode cJ1_indexOf_4cfef 10 = .ok (.iconst 0, 1) := by decide +kernel
theorem dJ1_indexOf_4cfef_11 : decode cJ1_indexOf_4cfef 11 = .ok (.invokestatic 92, 3) := by decide +kernel
theorem dJ1_indexOf_4cfef_14 : decode cJ1_indexOf_4cfef 14 = .ok (.istore_n 2, 1) := by decide +kernel
theorem dJ1_indexOf_4cfef_15 : decode cJ1_indexOf_4cfef 15 = .ok (.iload_n 3, 1) := by decide +kernel
theorem dJ1_indexOf_4cfef_16 : decode cJ1_indexOf_4cfef 16 = .ok (.aload_n 0, 1) := by decide +kernel
theorem dJ1_indexOf_4cfef_17 : decode cJ1_indexOf_4cfef 17 = .ok (.arraylength, 1) := by decide +kernel
theorem dJ1_indexOf_4cfef_18 : decode cJ1_indexOf_4cfef 18 = .ok (.invokestatic 38, 3) := by decide +kernel
theorem dJ1_indexOf_4cfef_21 : decode cJ1_indexOf_4cfef 21 = .ok (.istore_n 3, 1) := by decide +kernel
theorem dJ1_indexOf_4cfef_22 : decode cJ1_indexOf_4cfef 22 = .ok (.iload_n 2, 1) := by decide +kernel
theorem dJ1_indexOf_4cfef_23 : decode cJ1_indexOf_4cfef 23 = .ok (.iload_n 3, 1) := by decide +kernel
theorem dJ1_indexOf_4cfef_24 : decode cJ1_indexOf_4cfef 24 = .ok (.if_icmp .lt 5, 3) := by decide +kernel
theorem dJ1_indexOf_4cfef_27 : decode cJ1_indexOf_4cfef 27 = .ok (.iconst (-1), 1) := by decide +kernel
theorem dJ1_indexOf_4cfef_28 : decode cJ1_indexOf_4cfef 28 = .ok (.ireturn, 1) := by decide +kernel
theorem dJ1_indexOf_4cfef_29 : decode cJ1_indexOf_4cfef 29 = .ok (.aload_n 0, 1) := by decide +kernel
theorem dJ1_indexOf_4cfef_30 : decode cJ1_indexOf_4cfef 30 = .ok (.iload_n 1, 1) := by decide +kernel
theorem dJ1_indexOf_4cfef_31 : decode cJ1_indexOf_4cfef 31 = .ok (.iload_n 2, 1) := by decide +kernel
theorem dJ1_indexOf_4cfef_32 : decode cJ1_indexOf_4cfef 32 = .ok (.iload_n 3, 1) := by decide +kernel
theorem dJ1_indexOf_4cfef_33 : decode cJ1_indexOf_4cfef 33 = .ok (.invokestatic 95, 3) := by decide +kernel
theorem dJ1_indexOf_4cfef_36 : decode cJ1_indexOf_4cfef 36 = .ok (.ireturn, 1) := by decide +kernel
theorem dJ0_indexOf_7cf53_0 : decode cJ0_indexOf_7cf53 0 = .ok (.aload_n 0, 1) := by decide +kernel
theorem dJ0_indexOf_7cf53_1 : decode cJ0_indexOf_7cf53 1 = .ok (.invokevirtual 492, 3) := by decide +kernel
theorem dJ0_indexOf_7cf53_4 : decode cJ0_indexOf_7cf53 4 = .ok (.ifCond .eq 19, 3) := by decide +kernel
theorem dJ0_indexOf_7cf53_7 : decode cJ0_indexOf_7cf53 7 = .ok (.aload_n 0, 1) := by decide +kernel
theorem dJ0_indexOf_7cf53_8 : decode cJ0_indexOf_7cf53 8 = .ok (.getfield 9, 3) := by decide +kernel
theorem dJ0_indexOf_7cf53_11 : decode cJ0_indexOf_7cf53 11 = .ok (.iload_n 1, 1) := by decide +kernel
theorem dJ0_indexOf_7cf53_12 : decode cJ0_indexOf_7cf53 12 = .ok (.iload_n 2, 1) := by decide +kernel
theorem dJ0_indexOf_7cf53_13 : decode cJ0_indexOf_7cf53 13 = .ok (.aload_n 0, 1) := by decide +kernel
theorem dJ0_indexOf_7cf53_14 : decode cJ0_indexOf_7cf53 14 = .ok (.invokevirtual 505, 3) := by decide +kernel
theorem dJ0_indexOf_7cf53_17 : decode cJ0_indexOf_7cf53 17 = .ok (.invokestatic 637, 3) := by decide +kernel
theorem dJ0_indexOf_7cf53_20 : decode cJ0_indexOf_7cf53 20 = .ok (.goto 16, 3) := by decide +kernel
theorem dJ0_indexOf_7cf53_23 : decode cJ0_indexOf_7cf53 23 = .ok (.aload_n 0, 1) := by decide +kernel
theorem dJ0_indexOf_7cf53_24 : decode cJ0_indexOf_7cf53 24 = .ok (.getfield 9, 3) := by decide +kernel
theorem dJ0_indexOf_7cf53_27 : decode cJ0_indexOf_7cf53 27 = .ok (.iload_n 1, 1) := by decide +kernel
theorem dJ0_indexOf_7cf53_28 : decode cJ0_indexOf_7cf53 28 = .ok (.iload_n 2, 1) := by decide +kernel
theorem dJ0_indexOf_7cf53_29 : decode cJ0_indexOf_7cf53 29 = .ok (.aload_n 0, 1) := by decide +kernel
theorem dJ0_indexOf_7cf53_30 : decode cJ0_indexOf_7cf53 30 = .ok (.invokevirtual 505, 3) := by decide +kernel
theorem dJ0_indexOf_7cf53_33 : decode cJ0_indexOf_7cf53 33 = .ok (.invokestatic 640, 3) := by decide +kernel
theorem dJ0_indexOf_7cf53_36 : decode cJ0_indexOf_7cf53 36 = .ok (.ireturn, 1) := by decide +kernel
theorem dJ0_indexOf_0f7a4_0 : decode cJ0_indexOf_0f7a4 0 = .ok (.aload_n 0, 1) := by decide +kernel
theorem dJ0_indexOf_0f7a4_1 : decode cJ0_indexOf_0f7a4 1 = .ok (.iload_n 1, 1) := by decide +kernel
theorem dJ0_indexOf_0f7a4_2 : decode cJ0_indexOf_0f7a4 2 = .ok (.iconst 0, 1) := by decide +kernel
theorem dJ0_indexOf_0f7a4_3 : decode cJ0_indexOf_0f7a4 3 = .ok (.invokevirtual 633, 3) := by decide +kernel
theorem dJ0_indexOf_0f7a4_6 : decode cJ0_indexOf_0f7a4 6 = .ok (.ireturn, 1) := by decide +kernel
def tLen (t : Nat) : Int := (lenT.getD t 0 : Nat)
def tB (t j : Nat) : Int := ((bytT.getD t []).getD j 0).toInt
theorem tLen_ok : ∀ t, t < 4 → lenT.getD t 0 < 1000 := by decide +kernel
section
variable {Z : Type} {own : String} {cc : ByteArray} {nL : Nat} {ret : Option FieldType} {d : Nat} {Sh : JSh} {ρ : JRo} {pc : Nat} {L : List (Nat × JV)} {S st : List JV} {σ : JSg} {dec : Z → JD} {o : Option Z} {t idx : Nat}
theorem sim_getTV (ht : t < 4) (hw : Cond.fieldLink own idx "java/lang/String" "value" "[B" ∈ WS) (hd : decode cc pc = .ok (.getfield idx, 3)) (k : GSim own cc nL ret d Sh ρ (pc + 3) L (vR (2000000 + t) :: S) σ dec o) : GSim own cc nL ret d Sh ρ pc L (vR (1000000 + t) :: S) σ dec o := by
  refine sim_go (fun hL hS hH => ⟨hL, okS_cons (v := vR (2000000 + t)) trivial (okS_tl hS), hH⟩) ?_ k
  intro hL hS hH R h p l e s m args below meth c w A H locs ls hr hX F T hl
  exact vk_getf F.1 F.2.1 (T.2.2.2.2.2.1.1 t ht).2.2.1 T.2.2.2.1 F.2.2.2.1 (F.2.2.2.2.1 _ hw) (fun _ h9 => h9) hd (h p l e s m args below meth c w A H locs ls hr hX F T hl)
theorem sim_getTC (ht : t < 4) (hw : Cond.fieldLink own idx "java/lang/String" "coder" "B" ∈ WS) (hd : decode cc pc = .ok (.getfield idx, 3)) (k : GSim own cc nL ret d Sh ρ (pc + 3) L (vI 0 :: S) σ dec o) : GSim own cc nL ret d Sh ρ pc L (vR (1000000 + t) :: S) σ dec o := by
  refine sim_go (fun hL hS hH => ⟨hL, okS_cons (v := vI 0) ok0 (okS_tl hS), hH⟩) ?_ k
  intro hL hS hH R h p l e s m args below meth c w A H locs ls hr hX F T hl
  have h1 := h p l e s m args below meth c w A H locs ls hr hX F T hl
  simp only [List.map_cons, cv, i32_0] at h1
  exact vk_getf F.1 F.2.1 (T.2.2.2.2.2.1.1 t ht).2.1 T.2.2.2.1 F.2.2.2.1 (F.2.2.2.2.1 _ hw) (fun _ h9 => h9) hd h1
theorem sim_gsC (hw : Cond.fieldLink own idx "java/lang/String" "COMPACT_STRINGS" "Z" ∈ WS) (hd : decode cc pc = .ok (.getstatic idx, 3)) (k : GSim own cc nL ret d Sh ρ (pc + 3) L (vI 1 :: S) σ dec o) : GSim own cc nL ret d Sh ρ pc L S σ dec o := by
  refine sim_go (fun hL hS hH => ⟨hL, okS_cons (v := vI 1) ⟨by decide, by decide⟩ hS, hH⟩) ?_ k
  intro hL hS hH R h p l e s m args below meth c w A H locs ls hr hX F T hl
  exact va_gets F.1 F.2.1 T.2.2.2.2.2.2.2.1 T.2.2.2.1 F.2.2.2.1 (F.2.2.2.2.1 _ hw) (fun _ h9 => h9) hd (h p l e s m args below meth c w A H locs ls hr hX F T hl)
theorem sim_alenT (ht : t < 4) (hd : decode cc pc = .ok (.arraylength, 1)) (k : GSim own cc nL ret d Sh ρ (pc + 1) L (vI (tLen t) :: S) σ dec o) : GSim own cc nL ret d Sh ρ pc L (vR (2000000 + t) :: S) σ dec o := by
  have hlt := tLen_ok t ht
  refine sim_go (fun hL hS hH => ⟨hL, okS_cons (v := vI (tLen t)) ⟨by unfold tLen; omega, by unfold tLen; omega⟩ (okS_tl hS), hH⟩) ?_ k
  intro hL hS hH R h p l e s m args below meth c w A H locs ls hr hX F T hl
  exact va_tlen F.1 F.2.1 (T.2.2.2.2.2.1.1 t ht).2.2.2 T.2.2.2.1 (v := i32 (tLen t)) rfl hd (h p l e s m args below meth c w A H locs ls hr hX F T hl)
theorem sim_baloadT {i : Int} (ht : t < 4) (hd : decode cc pc = .ok (.baload, 1)) (k : GSim own cc nL ret d Sh ρ (pc + 1) L (vI (tB t i.toNat) :: S) σ dec o) : GSim own cc nL ret d Sh ρ pc L (vI i :: vR (2000000 + t) :: S) σ dec (chk (0 ≤ i ∧ i < tLen t) o) := by
  refine sim_chk fun hi => ?_
  refine sim_go (fun hL hS hH => ⟨hL, okS_cons (v := vI _) (ok32 _) (okS_tl (okS_tl hS)), hH⟩) ?_ k
  intro hL hS hH R h p l e s m args below meth c w A H locs ls hr hX F T hl
  have hoi : okI i := okS_hd hS
  refine va_tb F.1 F.2.1 (T.2.2.2.2.2.1.1 t ht).2.2.2 T.2.2.2.1 (vp_in_i hoi hi.1 (by have := hi.2; unfold tLen at this; omega)) (v := .int (i32 (tB t i.toNat))) ?_ hd (h p l e s m args below meth c w A H locs ls hr hX F T hl)
  rw [i32_clamp hoi, tB, i32_t]
/-- a call of a method of a String constant that answers an int and writes nothing -/
theorem sim_callT {y : MethodName} {cc' : ByteArray} {nL' : Nat} {ret' : Option FieldType} {d' n : Nat} {as : List JV} {o' : Option Int} {g : Int → Option Z} (ht : t < 4) (hlk : JLnk own idx y cc' nL' ret' n) (hin : Cond.instanceMethod y ∈ WS) (hse : Cond.selects "java/lang/String" y y ∈ WS) (hyC : y.cls = "java/lang/String") (hd : decode cc pc = .ok (.invokevirtual idx, 3))
    (hK : Call y cc' nL' ret' d' Sh ρ (vR (1000000 + t) :: as) σ (dIp σ) o') (hn : as.length = n) (hdd : d' + 1 ≤ d ∧ nL' ≤ 45) (hst : st = as.reverse ++ vR (1000000 + t) :: S) (hS8 : jwid S ≤ 8) (k : ∀ x, GSim own cc nL ret d Sh ρ (pc + 3) L (vI x :: S) σ dec (g x)) : GSim own cc nL ret d Sh ρ pc L st σ dec (bd1 o' g) :=
  sim_callG (q := 1000000 + t) (dec' := dIp σ) hlk hin hse hyC (fun s w A H locs TT => vk_recv (i := t) (adK := fun i => w.1 (1000000 + i)) TT.2.2.2.2.2.1 ht TT.2.2.2.1) hK hn hdd hst hS8 hd (fun z => k z)
end
theorem kT_coder (Sh : JSh) (ρ : JRo) (t : Nat) (ht : t < 4)  (σ : JSg) : Call yJ0_coder_7d493 cJ0_coder_7d493 1 (some .byte) 0 Sh ρ [vR (1000000 + t)] σ (dIp σ) (some 0) := by
  refine call_of_sim (by decide +kernel) (Nat.le_of_ble_eq_true rfl) ?_
  show Sim RJ0 cJ0_coder_7d493 1 (some .byte) 0 Sh ρ 0 [(0, vR (1000000 + t))] [] σ (dIp σ) (some 0)
  have h : GSim RJ0 cJ0_coder_7d493 1 (some .byte) 0 Sh ρ 0 [(0, vR (1000000 + t))] [] σ (fun z => rS 0 Sh ρ (dIp σ z)) (if (1 : Int) = 0 then (none : Option Int) else some 0) := by
    refine sim_gsC w_601 dJ0_coder_7d493_0 ?_
    refine sim_if_eq (tgt := 13) dJ0_coder_7d493_3 (by decide) sim_none ?_
    refine sim_aload_n 0 rfl dJ0_coder_7d493_6 ?_
    refine sim_getTC ht w_2200 dJ0_coder_7d493_7 ?_
    refine sim_goto (tgt := 14) dJ0_coder_7d493_10 (by decide) ?_
    exact sim_nret (ty := .byte) (by decide) rfl rfl dJ0_coder_7d493_14
  exact h
theorem kT_isL (Sh : JSh) (ρ : JRo) (t : Nat) (ht : t < 4)  (σ : JSg) : Call yJ0_isLatin1_aae02 cJ0_isLatin1_aae02 1 (some .boolean) 0 Sh ρ [vR (1000000 + t)] σ (dIp σ) (some 1) := by
  refine call_of_sim (by decide +kernel) (Nat.le_of_ble_eq_true rfl) ?_
  show Sim RJ0 cJ0_isLatin1_aae02 1 (some .boolean) 0 Sh ρ 0 [(0, vR (1000000 + t))] [] σ (dIp σ) (some 1)
  have h : GSim RJ0 cJ0_isLatin1_aae02 1 (some .boolean) 0 Sh ρ 0 [(0, vR (1000000 + t))] [] σ (fun z => rS 0 Sh ρ (dIp σ z)) (if (1 : Int) = 0 then (none : Option Int) else (if (0 : Int) = 0 then some 1 else none)) := by
    refine sim_gsC w_601 dJ0_isLatin1_aae02_0 ?_
    refine sim_if_eq (tgt := 17) dJ0_isLatin1_aae02_3 (by decide) sim_none ?_
    refine sim_aload_n 0 rfl dJ0_isLatin1_aae02_6 ?_
    refine sim_getTC ht w_2200 dJ0_isLatin1_aae02_7 ?_
    refine sim_if_ne (tgt := 17) dJ0_isLatin1_aae02_10 (by decide) sim_none ?_
    refine sim_iconst dJ0_isLatin1_aae02_13 (by decide) ?_
    refine sim_goto (tgt := 18) dJ0_isLatin1_aae02_14 (by decide) ?_
    exact sim_zret (Or.inr rfl) rfl rfl dJ0_isLatin1_aae02_18
  exact h
theorem kT_len (Sh : JSh) (ρ : JRo) (t : Nat) (ht : t < 4)  (σ : JSg) : Call yJ0_length_8abf5 cJ0_length_8abf5 1 (some .int) 1 Sh ρ [vR (1000000 + t)] σ (dIp σ) (some (tLen t)) := by
  refine call_of_sim (by decide +kernel) (Nat.le_of_ble_eq_true rfl) ?_
  show Sim RJ0 cJ0_length_8abf5 1 (some .int) 1 Sh ρ 0 [(0, vR (1000000 + t))] [] σ (dIp σ) (some (tLen t))
  have h : GSim RJ0 cJ0_length_8abf5 1 (some .int) 1 Sh ρ 0 [(0, vR (1000000 + t))] [] σ (fun z => rS 1 Sh ρ (dIp σ z)) (bd1 (some 0) fun x => some (sr32 (tLen t) x)) := by
    refine sim_aload_n 0 rfl dJ0_length_8abf5_0 ?_
    refine sim_getTV ht w_2201 dJ0_length_8abf5_1 ?_
    refine sim_alenT ht dJ0_length_8abf5_4 ?_
    refine sim_aload_n 0 rfl dJ0_length_8abf5_5 ?_
    refine sim_callT ht l_RJ0_335 w_608 w_609 rfl dJ0_length_8abf5_6 (kT_coder Sh ρ t ht σ) rfl ⟨by decide, by decide⟩ (S := [vI (tLen t)]) rfl (Nat.le_of_ble_eq_true rfl) (fun x => ?_)
    refine sim_ishr dJ0_length_8abf5_9 ?_
    exact sim_iret rfl rfl dJ0_length_8abf5_10
  have e : (bd1 (some (0 : Int)) fun x => some (sr32 (tLen t) x)) = some (tLen t) := by
    show some (sr32 (tLen t) 0) = some (tLen t)
    congr 1
    have key : ∀ t, t < 4 → sr32 (tLen t) 0 = tLen t := by decide +kernel
    exact key t ht
  rw [e] at h
  exact h
/-- Preconditions.checkIndex(i, n, ..) in range, whatever the third argument is -/
theorem mT_pck (l : Launch) (i n : Int) (hi : okI i) (hn : okI n) (h0 : 0 ≤ i ∧ i < n) (v : Value) (hv : v.category = 1) : Met l yJ3_checkIndex_8e157 (.code yJ3_checkIndex_8e157 cJ3_checkIndex_8e157 3 (some .int) :: WS) (rmd 0) (va_Pc [.int (i32 i), .int (i32 n), v] (fun _ => True)) (fun _ st oc t => oc = .returned (some (.int (i32 i))) ∧ t.heap = st.heap) 0 0 (fun _ => False) := by
  refine Met.ofW (cc := cJ3_checkIndex_8e157) (maxL := 3) (ret := some .int) (by decide +kernel) rfl ?_
  intro p e s m args below meth c s₁ B hml hv2
  obtain ⟨rfl, -⟩ := hv2
  have hx := B.exec
  have hb := B.bytes
  have hr := B.returns
  have hlocks := B.notSynchronized
  have hw : (lg_sl [Value.int (i32 i), Value.int (i32 n), v]).length ≤ 3 := by cases v <;> simp_all [lg_sl, Value.category]
  rw [lg_entry_eq]
  have hl := lv_entry [Value.int (i32 i), Value.int (i32 n), v] (n := 3) hw
  generalize (lg_sl [Value.int (i32 i), Value.int (i32 n), v] ++ List.replicate (3 - (lg_sl [Value.int (i32 i), Value.int (i32 n), v]).length) Slot.unset).toArray = ls at hl ⊢
  have hl : lv_has ls 3 [(0, .int (i32 i)), (1, .int (i32 n)), (2, v)] := hl
  refine lv_iload_n hx hb dJ3_checkIndex_8e157_0 rfl (lv_at hl 0 rfl) ?_
  refine lv_if_lt (tgt := 9) hx hb dJ3_checkIndex_8e157_1 (by decide) (fun q => ?_) (fun q => ?_)
  · rw [← i32_0, i32_lt hi ok0] at q
    omega
  refine lv_iload_n hx hb dJ3_checkIndex_8e157_4 rfl (lv_at hl 0 rfl) ?_
  refine lv_iload_n hx hb dJ3_checkIndex_8e157_5 rfl (lv_at hl 1 rfl) ?_
  refine lv_icmp_lt (tgt := 16) hx hb dJ3_checkIndex_8e157_6 (by decide) (fun q => ?_) (fun q => ?_)
  · refine lv_iload_n hx hb dJ3_checkIndex_8e157_16 rfl (lv_at hl 0 rfl) ?_
    exact W.iret hx hb hr (fun t ht hW => ⟨rfl, ht⟩) (fun _ h => by cases h) dJ3_checkIndex_8e157_17
  · exact absurd ((i32_lt hi hn).mpr h0.2) q
theorem sim_ckT {Z : Type} {d : Nat} {Sh : JSh} {ρ : JRo} {L : List (Nat × JV)} {σ : JSg} {dec : Z → JD} {o : Option Z} {i n : Int} (hdd : 1 ≤ d) (k : GSim RJ0 cJ0_checkIndex_df160 2 none d Sh ρ 8 L [vI i] σ dec o) : GSim RJ0 cJ0_checkIndex_df160 2 none d Sh ρ 2 L [vI n, vI i] σ dec (chk (0 ≤ i ∧ i < n) o) := by
  refine sim_chk fun h0 => ?_
  refine sim_go (fun hL hS hH => ⟨hL, okS_tl hS, hH⟩) ?_ k
  intro hL hS hH R h p l e s m args below meth c w A H locs ls hr hX F T hl
  have h1 := h p l e s m args below meth c w A H locs ls hr hX F T hl
  have hts := F.2.2.2.2.1
  have go : ∀ v : Value, v.category = 1 → W p l e R.2.1 s m args below meth c H locs (Sh.length + 1000 - R.2.2.1.1) (wsum Sh + 10000 - R.2.2.1.2) (R.2.2.2.1 s m args below w A) (F0 m 5 ls [v, .int (i32 n), .int (i32 i)]) := by
    intro v hv
    obtain ⟨hlk1, hlk2, hlk3, hlk4⟩ := l_RJ0_1059
    have hrun := va_runS (As := [.int (i32 i), .int (i32 n), v]) (rest := []) (mc := 0) (ms := 0) (locs := locs) (cells := Sh.length + 1000 - R.2.2.1.1) (slots := wsum Sh + 10000 - R.2.2.1.2) (n := 3) (l := l) (e := e) (below := below) (meth := meth) (R := R.2.1) (H := H) (g := F0 m 5 ls [v, .int (i32 n), .int (i32 i)]) ⟨F.1, F.2.1, F.2.2.1, F.2.2.2.1, hts⟩ (mT_pck l i n (okS_hd (okS_tl hS)) (okS_hd hS) h0 v hv)
      ⟨callB_of 3 hts (good_code hlk2) rfl rfl rfl (hts _ hlk3) (hts _ hlk1) hlk4 ⟨by have h7 := hr.1; simp only [rmd]; omega, by have h7 := hr.2.1; simp only [rmd]; omega⟩, hts _ w_690⟩
      ⟨fun _ _ _ _ q => q, fun U hU hW => ⟨rfl, trivial⟩⟩ rfl rfl hl.1 rfl (lv_room (by simp)) dJ0_checkIndex_df160_5 ⟨hr.2.2.1, hr.2.2.2.1⟩
    intro T1 hT1 X1
    obtain ⟨v1, st₀, t, T', L1, g0, X', gL, e1, e2, ⟨hv1, hh⟩, st⟩ := hrun T1 hT1 X1
    cases hv1
    have hL1 : L1 = [] := List.eq_nil_iff_forall_not_mem.mpr fun q hq => gL q hq
    subst hL1
    rw [List.append_nil] at X'
    obtain ⟨t2, a1, b1⟩ := h1 T' (by rw [e1, hh, g0]) X'
    exact ⟨t2, st t2 a1, b1⟩
  rcases T.2.2.2.2.2.2.2.2.1 with hz | ⟨tq, hz⟩
  · exact va_gets F.1 F.2.1 hz T.2.2.2.1 F.2.2.2.1 (hts _ w_642) (fun _ h9 => h9) dJ0_checkIndex_df160_2 (go _ rfl)
  · exact va_gets F.1 F.2.1 hz T.2.2.2.1 F.2.2.2.1 (hts _ w_642) (fun _ h9 => h9) dJ0_checkIndex_df160_2 (go _ rfl)
theorem kT_ck (Sh : JSh) (ρ : JRo) (i n : Int) (σ : JSg) : Call yJ0_checkIndex_df160 cJ0_checkIndex_df160 2 none 1 Sh ρ [vI i, vI n] σ (dVp σ) (chk (0 ≤ i ∧ i < n) (some ())) := by
  refine call_of_sim (by decide +kernel) (Nat.le_of_ble_eq_true rfl) ?_
  show Sim RJ0 cJ0_checkIndex_df160 2 none 1 Sh ρ 0 [(0, vI i), (1, vI n)] [] σ (dVp σ) _
  refine sim_iload_n 0 rfl dJ0_checkIndex_df160_0 ?_
  refine sim_iload_n 1 rfl dJ0_checkIndex_df160_1 ?_
  refine sim_ckT (by decide) ?_
  refine sim_pop rfl dJ0_checkIndex_df160_8 ?_
  exact sim_vret rfl rfl dJ0_checkIndex_df160_9
theorem kT_lch (Sh : JSh) (ρ : JRo) (t : Nat) (ht : t < 4) (i : Int) (σ : JSg) : Call yJ1_charAt_3b067 cJ1_charAt_3b067 2 (some .char) 2 Sh ρ [vR (2000000 + t), vI i] σ (dIp σ) (chk (0 ≤ i ∧ i < tLen t) (some (tB t i.toNat))) := by
  refine call_of_sim (by decide +kernel) (Nat.le_of_ble_eq_true rfl) ?_
  show Sim RJ1 cJ1_charAt_3b067 2 (some .char) 2 Sh ρ 0 [(0, vR (2000000 + t)), (1, vI i)] [] σ (dIp σ) (chk (0 ≤ i ∧ i < tLen t) (some (tB t i.toNat)))
  have h : GSim RJ1 cJ1_charAt_3b067 2 (some .char) 2 Sh ρ 0 [(0, vR (2000000 + t)), (1, vI i)] [] σ (fun z => rS 2 Sh ρ (dIp σ z)) (bd1 (chk (0 ≤ i ∧ i < tLen t) (some ())) fun _ => chk (0 ≤ i ∧ i < tLen t) (chk (c16 (an32 (tB t i.toNat) 255) = tB t i.toNat) (some (tB t i.toNat)))) := by
    refine sim_iload_n 1 rfl dJ1_charAt_3b067_0 ?_
    refine sim_aload_n 0 rfl dJ1_charAt_3b067_1 ?_
    refine sim_alenT ht dJ1_charAt_3b067_2 ?_
    refine sim_callSVp s_RJ1_9 dJ1_charAt_3b067_3 (kT_ck Sh ρ i (tLen t) σ) rfl ⟨by decide, by decide⟩ (S := []) rfl (Nat.le_of_ble_eq_true rfl) (fun _ => ?_)
    refine sim_aload_n 0 rfl dJ1_charAt_3b067_6 ?_
    refine sim_iload_n 1 rfl dJ1_charAt_3b067_7 ?_
    refine sim_baloadT ht dJ1_charAt_3b067_8 ?_
    refine sim_sipush dJ1_charAt_3b067_9 (by decide +kernel) ?_
    refine sim_iand dJ1_charAt_3b067_12 ?_
    refine sim_i2c dJ1_charAt_3b067_13 ?_
    refine sim_chk fun e => ?_
    rw [e]
    refine sim_nret (ty := .char) ?_ rfl rfl dJ1_charAt_3b067_14
    rw [← e]
    unfold c16
    rw [i32_t]
    exact pk_nc _
  have e : (bd1 (chk (0 ≤ i ∧ i < tLen t) (some ())) fun _ => chk (0 ≤ i ∧ i < tLen t) (chk (c16 (an32 (tB t i.toNat) 255) = tB t i.toNat) (some (tB t i.toNat)))) = chk (0 ≤ i ∧ i < tLen t) (some (tB t i.toNat)) := by
    by_cases hi : 0 ≤ i ∧ i < tLen t
    · have key : ∀ t, t < 4 → ∀ j, j < lenT.getD t 0 → c16 (an32 (tB t j) 255) = tB t j := by decide +kernel
      have := key t ht i.toNat (by have := hi.2; unfold tLen at this; omega)
      simp only [chk, if_pos hi, bd1, Option.bind_some, if_pos this]
    · simp only [chk, if_neg hi, bd1, Option.bind_none]
  rw [e] at h
  exact h
theorem kT_ch (Sh : JSh) (ρ : JRo) (t : Nat) (ht : t < 4) (i : Int) (σ : JSg) : Call yJ0_charAt_5068e cJ0_charAt_5068e 2 (some .char) 3 Sh ρ [vR (1000000 + t), vI i] σ (dIp σ) (chk (0 ≤ i ∧ i < tLen t) (some (tB t i.toNat))) := by
  refine call_of_sim (by decide +kernel) (Nat.le_of_ble_eq_true rfl) ?_
  show Sim RJ0 cJ0_charAt_5068e 2 (some .char) 3 Sh ρ 0 [(0, vR (1000000 + t)), (1, vI i)] [] σ (dIp σ) (chk (0 ≤ i ∧ i < tLen t) (some (tB t i.toNat)))
  have h : GSim RJ0 cJ0_charAt_5068e 2 (some .char) 3 Sh ρ 0 [(0, vR (1000000 + t)), (1, vI i)] [] σ (fun z => rS 3 Sh ρ (dIp σ z)) (bd1 (some (1 : Int)) fun x => if x = 0 then none else bd1 (chk (0 ≤ i ∧ i < tLen t) (some (tB t i.toNat))) fun y => chk (c16 y = y) (some y)) := by
    refine sim_aload_n 0 rfl dJ0_charAt_5068e_0 ?_
    refine sim_callT ht l_RJ0_492 w_598 w_599 rfl dJ0_charAt_5068e_1 (kT_isL Sh ρ t ht σ) rfl ⟨by decide, by decide⟩ (S := []) rfl (Nat.le_of_ble_eq_true rfl) (fun x => ?_)
    refine sim_if_eq (tgt := 16) dJ0_charAt_5068e_4 (by decide) sim_none ?_
    refine sim_aload_n 0 rfl dJ0_charAt_5068e_7 ?_
    refine sim_getTV ht w_2201 dJ0_charAt_5068e_8 ?_
    refine sim_iload_n 1 rfl dJ0_charAt_5068e_11 ?_
    refine sim_callSIp s_RJ0_495 dJ0_charAt_5068e_12 (kT_lch Sh ρ t ht i σ) rfl ⟨by decide, by decide⟩ (S := []) rfl (Nat.le_of_ble_eq_true rfl) (fun y => ?_)
    refine sim_chk fun e => ?_
    refine sim_nret (ty := .char) ?_ rfl rfl dJ0_charAt_5068e_15
    rw [← e]
    unfold c16
    rw [i32_t]
    exact pk_nc _
  have e : (bd1 (some (1 : Int)) fun x => if x = 0 then none else bd1 (chk (0 ≤ i ∧ i < tLen t) (some (tB t i.toNat))) fun y => chk (c16 y = y) (some y)) = chk (0 ≤ i ∧ i < tLen t) (some (tB t i.toNat)) := by
    by_cases hi : 0 ≤ i ∧ i < tLen t
    · have key : ∀ t, t < 4 → ∀ j, j < lenT.getD t 0 → c16 (tB t j) = tB t j := by decide +kernel
      have := key t ht i.toNat (by have := hi.2; unfold tLen at this; omega)
      simp [chk, hi, bd1, this]
    · simp [chk, hi, bd1]
  rw [e] at h
  exact h
theorem kT_can (Sh : JSh) (ρ : JRo) (c : Int) (σ : JSg) : Call yJ1_canEncode_9a6ad cJ1_canEncode_9a6ad 1 (some .boolean) 0 Sh ρ [vI c] σ (dIp σ) (if c < 0 then some 0 else if 255 < c then some 0 else some 1) := by
  refine call_of_sim (by decide +kernel) (Nat.le_of_ble_eq_true rfl) ?_
  show Sim RJ1 cJ1_canEncode_9a6ad 1 (some .boolean) 0 Sh ρ 0 [(0, vI c)] [] σ (dIp σ) _
  refine sim_iload_n 0 rfl dJ1_canEncode_9a6ad_0 ?_
  refine sim_if_lt (tgt := 15) dJ1_canEncode_9a6ad_1 (by decide) ?_ ?_
  · refine sim_iconst dJ1_canEncode_9a6ad_15 (by decide) ?_
    exact sim_zret (Or.inl rfl) rfl rfl dJ1_canEncode_9a6ad_16
  refine sim_iload_n 0 rfl dJ1_canEncode_9a6ad_4 ?_
  refine sim_sipush dJ1_canEncode_9a6ad_5 (by decide +kernel) ?_
  refine sim_icmp_gt (tgt := 15) dJ1_canEncode_9a6ad_8 (by decide) ?_ ?_
  · refine sim_iconst dJ1_canEncode_9a6ad_15 (by decide) ?_
    exact sim_zret (Or.inl rfl) rfl rfl dJ1_canEncode_9a6ad_16
  refine sim_iconst dJ1_canEncode_9a6ad_11 (by decide) ?_
  refine sim_goto (tgt := 16) dJ1_canEncode_9a6ad_12 (by decide) ?_
  exact sim_zret (Or.inr rfl) rfl rfl dJ1_canEncode_9a6ad_16
def fT_ioc (n t : Nat) (c a b : Int) : Option Int := lt_ (b8 c) fun v1 => lt_ a fun v2 => wh1 n (fun rc (x : Int) => if x < b then (chk (0 ≤ x ∧ x < tLen t) <| if tB t x.toNat = v1 then some x else lt_ (w32 (x + 1)) fun v3 => rc v3) else some (-1)) v2
theorem kT_ioc (Sh : JSh) (ρ : JRo) (t : Nat) (ht : t < 4) (n : Nat) (c a b : Int) (σ : JSg) : Call yJ1_indexOfChar_4cfef cJ1_indexOfChar_4cfef 6 (some .int) 0 Sh ρ [vR (2000000 + t), vI c, vI a, vI b] σ (dIp σ) (fT_ioc n t c a b) := by
  refine call_of_sim (by decide +kernel) (Nat.le_of_ble_eq_true rfl) ?_
  show Sim RJ1 cJ1_indexOfChar_4cfef 6 (some .int) 0 Sh ρ 0 [(0, vR (2000000 + t)), (1, vI c), (2, vI a), (3, vI b)] [] σ (dIp σ) (fT_ioc n t c a b)
  unfold fT_ioc
  refine sim_iload_n 1 rfl dJ1_indexOfChar_4cfef_0 ?_
  refine sim_i2b dJ1_indexOfChar_4cfef_1 ?_
  refine sim_istore (fun y => [(4, vI y), (0, vR (2000000 + t)), (1, vI c), (2, vI a), (3, vI b)]) (fun _ => rfl) (by decide) dJ1_indexOfChar_4cfef_2 (fun v1 => ?_)
  refine sim_iload_n 3 rfl dJ1_indexOfChar_4cfef_4 ?_
  refine sim_istore (fun y => [(5, vI y), (4, vI v1), (0, vR (2000000 + t)), (1, vI c), (2, vI a), (3, vI b)]) (fun _ => rfl) (by decide) dJ1_indexOfChar_4cfef_5 (fun v2 => ?_)
  refine sim_sub [0, 1, 2, 5] (L' := [(5, vI v2), (4, vI v1), (0, vR (2000000 + t)), (3, vI b)]) rfl ?_
  refine sim_wh1 (fun (x : Int) => [(5, vI x), (4, vI v1), (0, vR (2000000 + t)), (3, vI b)]) (fun (x : Int) => σ) ?_ n v2
  intro rc hrc x
  refine sim_iload 0 rfl dJ1_indexOfChar_4cfef_7 ?_
  refine sim_iload_n 3 rfl dJ1_indexOfChar_4cfef_9 ?_
  refine sim_icmp_ge (tgt := 31) dJ1_indexOfChar_4cfef_10 (by decide) ?_ ?_
  · refine sim_iconst dJ1_indexOfChar_4cfef_31 (by decide) ?_
    exact sim_iret rfl rfl dJ1_indexOfChar_4cfef_32
  refine sim_aload_n 2 rfl dJ1_indexOfChar_4cfef_13 ?_
  refine sim_iload 0 rfl dJ1_indexOfChar_4cfef_14 ?_
  refine sim_baloadT ht dJ1_indexOfChar_4cfef_16 ?_
  refine sim_iload 1 rfl dJ1_indexOfChar_4cfef_17 ?_
  refine sim_icmp_ne (tgt := 25) dJ1_indexOfChar_4cfef_19 (by decide) ?_ ?_
  · refine sim_iinc 0 rfl (fun y => [(5, vI y), (4, vI v1), (0, vR (2000000 + t)), (3, vI b)]) (fun _ => rfl) (by decide) dJ1_indexOfChar_4cfef_25 (fun v3 => ?_)
    refine sim_goto (tgt := 7) dJ1_indexOfChar_4cfef_28 (by decide) ?_
    exact hrc v3
  refine sim_iload 0 rfl dJ1_indexOfChar_4cfef_22 ?_
  exact sim_iret rfl rfl dJ1_indexOfChar_4cfef_24
def fT_io4 (n t : Nat) (c a b : Int) : Option Int := bd1 (if c < 0 then some 0 else if 255 < c then some (0 : Int) else some 1) fun x => if x = 0 then some (-1) else lt_ (max a 0) fun v1 => lt_ (min b (tLen t)) fun v2 => if v1 < v2 then bd1 (fT_ioc n t c v1 v2) fun y => some y else some (-1)
theorem kT_io4 (Sh : JSh) (ρ : JRo) (t : Nat) (ht : t < 4) (n : Nat) (c a b : Int) (σ : JSg) : Call yJ1_indexOf_4cfef cJ1_indexOf_4cfef 4 (some .int) 1 Sh ρ [vR (2000000 + t), vI c, vI a, vI b] σ (dIp σ) (fT_io4 n t c a b) := by
  refine call_of_sim (by decide +kernel) (Nat.le_of_ble_eq_true rfl) ?_
  show Sim RJ1 cJ1_indexOf_4cfef 4 (some .int) 1 Sh ρ 0 [(0, vR (2000000 + t)), (1, vI c), (2, vI a), (3, vI b)] [] σ (dIp σ) (fT_io4 n t c a b)
  unfold fT_io4
  refine sim_iload_n 1 rfl dJ1_indexOf_4cfef_0 ?_
  refine sim_callSIp s_RJ1_88 dJ1_indexOf_4cfef_1 (kT_can Sh ρ c σ) rfl ⟨by decide, by decide⟩ (S := []) rfl (Nat.le_of_ble_eq_true rfl) (fun x => ?_)
  refine sim_if_ne (tgt := 9) dJ1_indexOf_4cfef_4 (by decide) ?_ ?_
  rotate_left
  · refine sim_iconst dJ1_indexOf_4cfef_7 (by decide) ?_
    exact sim_iret rfl rfl dJ1_indexOf_4cfef_8
  refine sim_iload_n 2 rfl dJ1_indexOf_4cfef_9 ?_
  refine sim_iconst dJ1_indexOf_4cfef_10 (by decide) ?_
  refine sim_mmax w_617 w_618 w_14 w_619 (by decide) (Nat.le_of_ble_eq_true rfl) dJ1_indexOf_4cfef_11 ?_
  refine sim_istore_n (fun y => [(2, vI y), (0, vR (2000000 + t)), (1, vI c), (3, vI b)]) (fun _ => rfl) (by decide) dJ1_indexOf_4cfef_14 (fun v1 => ?_)
  refine sim_iload_n 3 rfl dJ1_indexOf_4cfef_15 ?_
  refine sim_aload_n 1 rfl dJ1_indexOf_4cfef_16 ?_
  refine sim_alenT ht dJ1_indexOf_4cfef_17 ?_
  refine sim_mmin w_620 w_574 w_14 w_575 (by decide) (Nat.le_of_ble_eq_true rfl) dJ1_indexOf_4cfef_18 ?_
  refine sim_istore_n (fun y => [(3, vI y), (2, vI v1), (0, vR (2000000 + t)), (1, vI c)]) (fun _ => rfl) (by decide) dJ1_indexOf_4cfef_21 (fun v2 => ?_)
  refine sim_iload_n 1 rfl dJ1_indexOf_4cfef_22 ?_
  refine sim_iload_n 0 rfl dJ1_indexOf_4cfef_23 ?_
  refine sim_icmp_lt (tgt := 29) dJ1_indexOf_4cfef_24 (by decide) ?_ ?_
  · refine sim_aload_n 2 rfl dJ1_indexOf_4cfef_29 ?_
    refine sim_iload_n 3 rfl dJ1_indexOf_4cfef_30 ?_
    refine sim_iload_n 1 rfl dJ1_indexOf_4cfef_31 ?_
    refine sim_iload_n 0 rfl dJ1_indexOf_4cfef_32 ?_
    refine sim_callSIp s_RJ1_95 dJ1_indexOf_4cfef_33 (kT_ioc Sh ρ t ht n c v1 v2 σ) rfl ⟨by decide, by decide⟩ (S := []) rfl (Nat.le_of_ble_eq_true rfl) (fun y => ?_)
    exact sim_iret rfl rfl dJ1_indexOf_4cfef_36
  refine sim_iconst dJ1_indexOf_4cfef_27 (by decide) ?_
  exact sim_iret rfl rfl dJ1_indexOf_4cfef_28
def fT_io (n t : Nat) (c : Int) : Option Int := bd1 (some (1 : Int)) fun x => if x = 0 then none else bd1 (some (tLen t)) fun y => bd1 (fT_io4 n t c 0 y) fun z => some z
theorem kT_io2 (Sh : JSh) (ρ : JRo) (t : Nat) (ht : t < 4) (n : Nat) (c : Int) (σ : JSg) : Call yJ0_indexOf_7cf53 cJ0_indexOf_7cf53 3 (some .int) 2 Sh ρ [vR (1000000 + t), vI c, vI 0] σ (dIp σ) (fT_io n t c) := by
  refine call_of_sim (by decide +kernel) (Nat.le_of_ble_eq_true rfl) ?_
  show Sim RJ0 cJ0_indexOf_7cf53 3 (some .int) 2 Sh ρ 0 [(0, vR (1000000 + t)), (1, vI c), (2, vI 0)] [] σ (dIp σ) (fT_io n t c)
  unfold fT_io
  refine sim_aload_n 0 rfl dJ0_indexOf_7cf53_0 ?_
  refine sim_callT ht l_RJ0_492 w_598 w_599 rfl dJ0_indexOf_7cf53_1 (kT_isL Sh ρ t ht σ) rfl ⟨by decide, by decide⟩ (S := []) rfl (Nat.le_of_ble_eq_true rfl) (fun x => ?_)
  refine sim_if_eq (tgt := 23) dJ0_indexOf_7cf53_4 (by decide) sim_none ?_
  refine sim_aload_n 0 rfl dJ0_indexOf_7cf53_7 ?_
  refine sim_getTV ht w_2201 dJ0_indexOf_7cf53_8 ?_
  refine sim_iload_n 1 rfl dJ0_indexOf_7cf53_11 ?_
  refine sim_iload_n 2 rfl dJ0_indexOf_7cf53_12 ?_
  refine sim_aload_n 0 rfl dJ0_indexOf_7cf53_13 ?_
  refine sim_callT ht l_RJ0_505 w_604 w_605 rfl dJ0_indexOf_7cf53_14 (kT_len Sh ρ t ht σ) rfl ⟨by decide, by decide⟩ (S := [vI 0, vI c, vR (2000000 + t)]) rfl (Nat.le_of_ble_eq_true rfl) (fun y => ?_)
  refine sim_callSIp s_RJ0_637 dJ0_indexOf_7cf53_17 (kT_io4 Sh ρ t ht n c 0 y σ) rfl ⟨by decide, by decide⟩ (S := []) rfl (Nat.le_of_ble_eq_true rfl) (fun z => ?_)
  refine sim_goto (tgt := 36) dJ0_indexOf_7cf53_20 (by decide) ?_
  exact sim_iret rfl rfl dJ0_indexOf_7cf53_36
theorem kT_io1 (Sh : JSh) (ρ : JRo) (t : Nat) (ht : t < 4) (n : Nat) (c : Int) (σ : JSg) : Call yJ0_indexOf_0f7a4 cJ0_indexOf_0f7a4 2 (some .int) 3 Sh ρ [vR (1000000 + t), vI c] σ (dIp σ) (bd1 (fT_io n t c) fun x => some x) := by
  refine call_of_sim (by decide +kernel) (Nat.le_of_ble_eq_true rfl) ?_
  show Sim RJ0 cJ0_indexOf_0f7a4 2 (some .int) 3 Sh ρ 0 [(0, vR (1000000 + t)), (1, vI c)] [] σ (dIp σ) (bd1 (fT_io n t c) fun x => some x)
  refine sim_aload_n 0 rfl dJ0_indexOf_0f7a4_0 ?_
  refine sim_iload_n 1 rfl dJ0_indexOf_0f7a4_1 ?_
  refine sim_iconst dJ0_indexOf_0f7a4_2 (by decide) ?_
  refine sim_callT ht l_RJ0_633 w_594 w_595 rfl dJ0_indexOf_0f7a4_3 (kT_io2 Sh ρ t ht n c σ) rfl ⟨by decide, by decide⟩ (S := []) rfl (Nat.le_of_ble_eq_true rfl) (fun x => ?_)
  exact sim_iret rfl rfl dJ0_indexOf_0f7a4_6
section
variable {Z : Type} {cc : ByteArray} {nL : Nat} {ret : Option FieldType} {d : Nat} {Sh : JSh} {ρ : JRo} {pc : Nat} {L : List (Nat × JV)} {S : List JV} {σ : JSg} {dec : Z → JD} {o : Option Z}
theorem sim_sLen1 (hdd : 6 ≤ d) (hS8 : jwid S ≤ 8) (hd : decode cc pc = .ok (.invokevirtual 85, 3)) (k : GSim RX9 cc nL ret d Sh ρ (pc + 3) L (vI 106 :: S) σ dec o) : GSim RX9 cc nL ret d Sh ρ pc L (vR 1000001 :: S) σ dec o := by
  have h := sim_callT (d := d) (d' := 1) (o' := some (tLen 1)) (g := fun x => chk (x = 106) o) (t := 1) (σ := σ) (dec := dec) (L := L) (pc := pc) (cc := cc) (nL := nL) (ret := ret) (st := vR 1000001 :: S) (by decide) l_RX9_85 w_604 w_605 rfl hd (kT_len Sh ρ 1 (by decide) σ) rfl ⟨by omega, by decide⟩ rfl hS8 (fun x => sim_chk fun e => by rw [e]; exact k)
  have e : bd1 (some (tLen 1)) (fun x => chk (x = 106) o) = o := by
    show chk (tLen 1 = 106) o = o
    exact chk_pos (by decide +kernel)
  rwa [e] at h
theorem sim_sCh1 {i : Int} (hdd : 6 ≤ d) (hS8 : jwid S ≤ 8) (hd : decode cc pc = .ok (.invokevirtual 87, 3)) (k : GSim RX9 cc nL ret d Sh ρ (pc + 3) L (vI (txc 1 i) :: S) σ dec o) : GSim RX9 cc nL ret d Sh ρ pc L (vI i :: vR 1000001 :: S) σ dec (chk (0 ≤ i ∧ i < 106) o) := by
  refine sim_chk fun hi => ?_
  have h := sim_callT (d := d) (d' := 3) (o' := chk (0 ≤ i ∧ i < tLen 1) (some (tB 1 i.toNat))) (g := fun x => chk (x = txc 1 i) o) (t := 1) (σ := σ) (dec := dec) (L := L) (pc := pc) (cc := cc) (nL := nL) (ret := ret) (st := vI i :: vR 1000001 :: S) (by decide) l_RX9_87 w_680 w_681 rfl hd (kT_ch Sh ρ 1 (by decide) i σ) rfl ⟨by omega, by decide⟩ rfl hS8 (fun x => sim_chk fun e => by rw [e]; exact k)
  have hl : tLen 1 = 106 := by decide +kernel
  rw [hl] at h
  have e : bd1 (chk (0 ≤ i ∧ i < 106) (some (tB 1 i.toNat))) (fun x => chk (x = txc 1 i) o) = o := by
    rw [chk_pos hi]
    show chk (tB 1 i.toNat = txc 1 i) o = o
    exact chk_pos rfl
  rwa [e] at h
/-- the signs' own text, searched -/
theorem ioc_0 {c : Int} (h0 : 0 ≤ c) (h1 : c ≤ 255) : fT_ioc 10 0 c 0 6 = some (txi 0 c) := by
  have key : ∀ k : Nat, k < 256 → fT_ioc 10 0 (k : Int) 0 6 = some (txi 0 (k : Int)) := by decide +kernel
  have := key c.toNat (by omega)
  rwa [Int.toNat_of_nonneg h0] at this
theorem txi_out {c : Int} (h : c < 0 ∨ 255 < c) : txi 0 c = -1 := by
  have hb : ∀ b ∈ (bytT.getD 0 []), 0 ≤ b.toInt ∧ b.toInt ≤ 255 := by decide +kernel
  have hn : (bytT.getD 0 []).findIdx? (fun b => b.toInt == c) = none := by
    rw [List.findIdx?_eq_none_iff]
    intro b hb2
    have := hb b hb2
    simp only [beq_eq_false_iff_ne, ne_eq]
    omega
  unfold txi
  rw [hn]
theorem io_0 (c : Int) : fT_io 10 0 c = some (txi 0 c) := by
  have hl : tLen 0 = 6 := by decide +kernel
  show (if (1 : Int) = 0 then none else bd1 (some (tLen 0)) fun y => bd1 (fT_io4 10 0 c 0 y) fun z => some z) = _
  rw [if_neg (by decide)]
  show (fT_io4 10 0 c 0 (tLen 0)).bind (fun z => some z) = _
  rw [hl]
  unfold fT_io4
  by_cases h1 : c < 0
  · rw [if_pos h1, txi_out (Or.inl h1)]
    rfl
  · rw [if_neg h1]
    by_cases h2 : 255 < c
    · rw [if_pos h2, txi_out (Or.inr h2)]
      rfl
    · rw [if_neg h2]
      show (if (1 : Int) = 0 then some (-1) else lt_ (max 0 0) fun v1 => lt_ (min 6 (tLen 0)) fun v2 => if v1 < v2 then bd1 (fT_ioc 10 0 c v1 v2) fun y => some y else some (-1)).bind (fun z => some z) = _
      rw [if_neg (by decide), hl]
      show (if (max 0 0 : Int) < min 6 6 then bd1 (fT_ioc 10 0 c (max 0 0) (min 6 6)) fun y => some y else some (-1)).bind (fun z => some z) = _
      rw [if_pos (by decide), show (max 0 0 : Int) = 0 from rfl, show (min 6 6 : Int) = 6 from rfl, ioc_0 (by omega) (by omega)]
      rfl
theorem sim_sIx0 {c : Int} (hdd : 6 ≤ d) (hS8 : jwid S ≤ 8) (hd : decode cc pc = .ok (.invokevirtual 77, 3)) (k : GSim RX9 cc nL ret d Sh ρ (pc + 3) L (vI (txi 0 c) :: S) σ dec o) : GSim RX9 cc nL ret d Sh ρ pc L (vI c :: vR 1000000 :: S) σ dec o := by
  have h := sim_callT (d := d) (d' := 3) (o' := bd1 (fT_io 10 0 c) fun x => some x) (g := fun x => chk (x = txi 0 c) o) (t := 0) (σ := σ) (dec := dec) (L := L) (pc := pc) (cc := cc) (nL := nL) (ret := ret) (st := vI c :: vR 1000000 :: S) (by decide) l_RX9_77 w_590 w_591 rfl hd (kT_io1 Sh ρ 0 (by decide) 10 c σ) rfl ⟨by omega, by decide⟩ rfl hS8 (fun x => sim_chk fun e => by rw [e]; exact k)
  have e : bd1 (bd1 (fT_io 10 0 c) fun x => some x) (fun x => chk (x = txi 0 c) o) = o := by
    rw [io_0]
    show chk (txi 0 c = txi 0 c) o = o
    exact chk_pos rfl
  rwa [e] at h
end
