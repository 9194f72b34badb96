/-! The JDK's members (printed by gen/jdkm.py) -/
def pD (v : Option Value) (w : va_W) : Option Value → va_W → Prop := fun v' w' => v = v' ∧ w = w'
theorem in_nat {i : Int32} {n : Nat} (h : inb i n = true) : ¬ i < 0 ∧ i.toNatClampNeg < n := by
  have h1 := inb_in h
  exact ⟨fun z => h1 (Or.inl z), Nat.not_le.mp (fun z => h1 (Or.inr z))⟩
theorem in_lt {i : Int32} {n : Nat} (h : inb i n = true) (hn : n < 2 ^ 31) : i < nI n := by
  obtain ⟨h1, h2⟩ := in_nat h
  obtain ⟨j, hj, rfl⟩ := nI_of h1
  rw [nI_clamp hj] at h2
  exact nI_lt h2 hn
theorem in_of {i n : Nat} (h : i < n) (hn : n < 2 ^ 31) : inb (nI i) n = true := by
  unfold inb
  rw [decide_eq_false (nI_pos (by omega)), nI_clamp (by omega)]
  simp only [Bool.not_false, Bool.true_and]
  exact Nat.ble_eq_true_of_le h
theorem we_854 : (Cond.fieldLink RJ0 1053 "jdk/internal/util/Preconditions" "SIOOBE_FORMATTER" "Ljava/util/function/BiFunction;") ∈ lw_all := all_at 854 (by decide +kernel) rfl
theorem we_1089 : (Cond.methodLink RJ0 1059 yJ3_checkIndex_8e157) ∈ lw_all := all_at 1089 (by decide +kernel) rfl
theorem we_1090 : (Cond.static yJ3_checkIndex_8e157) ∈ lw_all := all_at 1090 (by decide +kernel) rfl
theorem we_113 : (Cond.initialized RJ3) ∈ lw_all := all_at 113 (by decide +kernel) rfl
theorem we_1091 : (Cond.code yJ3_checkIndex_8e157 cJ3_checkIndex_8e157 3 (some .int)) ∈ lw_all := all_at 1091 (by decide +kernel) rfl
theorem we_876 : (Cond.fieldLink RJ0 38 "java/lang/String" "COMPACT_STRINGS" "Z") ∈ lw_all := all_at 876 (by decide +kernel) rfl
theorem we_1005 : (Cond.fieldLink RJ0 15 "java/lang/String" "coder" "B") ∈ lw_all := all_at 1005 (by decide +kernel) rfl
theorem we_1004 : (Cond.fieldLink RJ0 9 "java/lang/String" "value" "[B") ∈ lw_all := all_at 1004 (by decide +kernel) rfl
theorem we_872 : (Cond.methodLink RJ0 335 yJ0_coder_7d493) ∈ lw_all := all_at 872 (by decide +kernel) rfl
theorem we_873 : (Cond.instanceMethod yJ0_coder_7d493) ∈ lw_all := all_at 873 (by decide +kernel) rfl
theorem we_874 : (Cond.selects RJ0 yJ0_coder_7d493 yJ0_coder_7d493) ∈ lw_all := all_at 874 (by decide +kernel) rfl
theorem we_95 : (Cond.initialized RJ0) ∈ lw_all := all_at 95 (by decide +kernel) rfl
theorem we_875 : (Cond.code yJ0_coder_7d493 cJ0_coder_7d493 1 (some .byte)) ∈ lw_all := all_at 875 (by decide +kernel) rfl
theorem we_1449 : (Cond.methodLink RJ1 9 yJ0_checkIndex_df160) ∈ lw_all := all_at 1449 (by decide +kernel) rfl
theorem we_1087 : (Cond.static yJ0_checkIndex_df160) ∈ lw_all := all_at 1087 (by decide +kernel) rfl
theorem we_1088 : (Cond.code yJ0_checkIndex_df160 cJ0_checkIndex_df160 2 none) ∈ lw_all := all_at 1088 (by decide +kernel) rfl
theorem we_1442 : (Cond.methodLink RJ0 492 yJ0_isLatin1_aae02) ∈ lw_all := all_at 1442 (by decide +kernel) rfl
theorem we_1443 : (Cond.instanceMethod yJ0_isLatin1_aae02) ∈ lw_all := all_at 1443 (by decide +kernel) rfl
theorem we_1444 : (Cond.selects RJ0 yJ0_isLatin1_aae02 yJ0_isLatin1_aae02) ∈ lw_all := all_at 1444 (by decide +kernel) rfl
theorem we_1445 : (Cond.code yJ0_isLatin1_aae02 cJ0_isLatin1_aae02 1 (some .boolean)) ∈ lw_all := all_at 1445 (by decide +kernel) rfl
theorem we_1446 : (Cond.methodLink RJ0 495 yJ1_charAt_3b067) ∈ lw_all := all_at 1446 (by decide +kernel) rfl
theorem we_1447 : (Cond.static yJ1_charAt_3b067) ∈ lw_all := all_at 1447 (by decide +kernel) rfl
theorem we_114 : (Cond.initialized RJ1) ∈ lw_all := all_at 114 (by decide +kernel) rfl
theorem we_1448 : (Cond.code yJ1_charAt_3b067 cJ1_charAt_3b067 2 (some .char)) ∈ lw_all := all_at 1448 (by decide +kernel) rfl
theorem we_296 : (Cond.fieldLink RJ5 79 "java/lang/AbstractStringBuilder" "count" "I") ∈ lw_all := all_at 296 (by decide +kernel) rfl
theorem we_960 : (Cond.methodLink RJ4 343 yJ5_length_8abf5) ∈ lw_all := all_at 960 (by decide +kernel) rfl
theorem we_956 : (Cond.sameMethod RJ5 RJ5 "length" "()I") ∈ lw_all := all_at 956 (by decide +kernel) rfl
theorem we_305 : (Cond.superclass RJ4 RJ5) ∈ lw_all := all_at 305 (by decide +kernel) rfl
theorem we_955 : (Cond.instanceMethod yJ5_length_8abf5) ∈ lw_all := all_at 955 (by decide +kernel) rfl
theorem we_93 : (Cond.initialized RJ5) ∈ lw_all := all_at 93 (by decide +kernel) rfl
theorem we_961 : (Cond.code yJ5_length_8abf5 cJ5_length_8abf5 1 (some .int)) ∈ lw_all := all_at 961 (by decide +kernel) rfl
theorem we_293 : (Cond.fieldLink RJ5 22 "java/lang/AbstractStringBuilder" "coder" "B") ∈ lw_all := all_at 293 (by decide +kernel) rfl
theorem we_292 : (Cond.fieldLink RJ5 15 "java/lang/AbstractStringBuilder" "value" "[B") ∈ lw_all := all_at 292 (by decide +kernel) rfl
theorem we_1386 : (Cond.methodLink RJ5 138 Lib.Math.min.name) ∈ lw_all := all_at 1386 (by decide +kernel) rfl
theorem we_588 : (Cond.static Lib.Math.min.name) ∈ lw_all := all_at 588 (by decide +kernel) rfl
theorem we_103 : (Cond.initialized RJ9) ∈ lw_all := all_at 103 (by decide +kernel) rfl
theorem we_589 : (Cond.code Lib.Math.min.name Lib.Math.min.code 2 (some .int)) ∈ lw_all := all_at 589 (by decide +kernel) rfl
theorem we_1387 : (Cond.methodLink RJ5 144 yJ0_checkIndex_df160) ∈ lw_all := all_at 1387 (by decide +kernel) rfl
theorem we_1383 : (Cond.methodLink RJ4 329 yJ5_charAt_5068e) ∈ lw_all := all_at 1383 (by decide +kernel) rfl
theorem we_2053 : (Cond.sameMethod RJ5 RJ5 "charAt" "(I)C") ∈ lw_all := all_at 2053 (by decide +kernel) rfl
theorem we_1384 : (Cond.instanceMethod yJ5_charAt_5068e) ∈ lw_all := all_at 1384 (by decide +kernel) rfl
theorem we_1385 : (Cond.code yJ5_charAt_5068e cJ5_charAt_5068e 5 (some .char)) ∈ lw_all := all_at 1385 (by decide +kernel) rfl
theorem we_283 : (Cond.fieldLink RJ5 18 "java/lang/String" "COMPACT_STRINGS" "Z") ∈ lw_all := all_at 283 (by decide +kernel) rfl
theorem we_817 : (Cond.methodLink RJ8 194 Lib.Math.max.name) ∈ lw_all := all_at 817 (by decide +kernel) rfl
theorem we_818 : (Cond.static Lib.Math.max.name) ∈ lw_all := all_at 818 (by decide +kernel) rfl
theorem we_819 : (Cond.code Lib.Math.max.name Lib.Math.max.code 2 (some .int)) ∈ lw_all := all_at 819 (by decide +kernel) rfl
theorem we_820 : (Cond.constant RJ8 200 (2147483639)) ∈ lw_all := all_at 820 (by decide +kernel) rfl
theorem we_814 : (Cond.methodLink RJ5 114 yJ8_newLength_cabcc) ∈ lw_all := all_at 814 (by decide +kernel) rfl
theorem we_815 : (Cond.static yJ8_newLength_cabcc) ∈ lw_all := all_at 815 (by decide +kernel) rfl
theorem we_111 : (Cond.initialized RJ8) ∈ lw_all := all_at 111 (by decide +kernel) rfl
theorem we_816 : (Cond.code yJ8_newLength_cabcc cJ8_newLength_cabcc 4 (some .int)) ∈ lw_all := all_at 816 (by decide +kernel) rfl
theorem we_824 : (Cond.constant RJ5 39 (2147483647)) ∈ lw_all := all_at 824 (by decide +kernel) rfl
theorem we_306 : (Cond.arrayClass .byte) ∈ lw_all := all_at 306 (by decide +kernel) rfl
theorem we_835 : (Cond.methodLink RJ7 304 Lib.Math.min.name) ∈ lw_all := all_at 835 (by decide +kernel) rfl
theorem we_836 : (Cond.methodLink RJ7 150 arraycopyName) ∈ lw_all := all_at 836 (by decide +kernel) rfl
theorem we_571 : (Cond.native arraycopyName) ∈ lw_all := all_at 571 (by decide +kernel) rfl
theorem we_570 : (Cond.static arraycopyName) ∈ lw_all := all_at 570 (by decide +kernel) rfl
theorem we_108 : (Cond.initialized RJ10) ∈ lw_all := all_at 108 (by decide +kernel) rfl
theorem we_810 : (Cond.methodLink RJ5 104 yJ5_newCapacity_0f7a4) ∈ lw_all := all_at 810 (by decide +kernel) rfl
theorem we_2046 : (Cond.sameMethod RJ5 RJ5 "newCapacity" "(I)I") ∈ lw_all := all_at 2046 (by decide +kernel) rfl
theorem we_812 : (Cond.instanceMethod yJ5_newCapacity_0f7a4) ∈ lw_all := all_at 812 (by decide +kernel) rfl
theorem we_x1 : (Cond.selects RJ4 yJ5_newCapacity_0f7a4 yJ5_newCapacity_0f7a4) ∈ lw_all := all_x 1 (by decide +kernel) rfl
theorem we_813 : (Cond.code yJ5_newCapacity_0f7a4 cJ5_newCapacity_0f7a4 6 (some .int)) ∈ lw_all := all_at 813 (by decide +kernel) rfl
theorem we_825 : (Cond.methodLink RJ5 108 yJ7_copyOf_9075b) ∈ lw_all := all_at 825 (by decide +kernel) rfl
theorem we_826 : (Cond.static yJ7_copyOf_9075b) ∈ lw_all := all_at 826 (by decide +kernel) rfl
theorem we_112 : (Cond.initialized RJ7) ∈ lw_all := all_at 112 (by decide +kernel) rfl
theorem we_827 : (Cond.code yJ7_copyOf_9075b cJ7_copyOf_9075b 3 (some (.array .byte))) ∈ lw_all := all_at 827 (by decide +kernel) rfl
theorem we_806 : (Cond.methodLink RJ5 100 yJ5_ensureCapacityInternal_d00df) ∈ lw_all := all_at 806 (by decide +kernel) rfl
theorem we_2045 : (Cond.sameMethod RJ5 RJ5 "ensureCapacityInternal" "(I)V") ∈ lw_all := all_at 2045 (by decide +kernel) rfl
theorem we_808 : (Cond.instanceMethod yJ5_ensureCapacityInternal_d00df) ∈ lw_all := all_at 808 (by decide +kernel) rfl
theorem we_x0 : (Cond.selects RJ4 yJ5_ensureCapacityInternal_d00df yJ5_ensureCapacityInternal_d00df) ∈ lw_all := all_x 0 (by decide +kernel) rfl
theorem we_809 : (Cond.code yJ5_ensureCapacityInternal_d00df cJ5_ensureCapacityInternal_d00df 3 none) ∈ lw_all := all_at 809 (by decide +kernel) rfl
theorem we_837 : (Cond.methodLink RJ5 83 yJ5_isLatin1_aae02) ∈ lw_all := all_at 837 (by decide +kernel) rfl
theorem we_839 : (Cond.sameMethod RJ5 RJ5 "isLatin1" "()Z") ∈ lw_all := all_at 839 (by decide +kernel) rfl
theorem we_838 : (Cond.instanceMethod yJ5_isLatin1_aae02) ∈ lw_all := all_at 838 (by decide +kernel) rfl
theorem we_840 : (Cond.selects RJ4 yJ5_isLatin1_aae02 yJ5_isLatin1_aae02) ∈ lw_all := all_at 840 (by decide +kernel) rfl
theorem we_841 : (Cond.code yJ5_isLatin1_aae02 cJ5_isLatin1_aae02 1 (some .boolean)) ∈ lw_all := all_at 841 (by decide +kernel) rfl
theorem we_1077 : (Cond.methodLink RJ5 191 yJ1_canEncode_fc78d) ∈ lw_all := all_at 1077 (by decide +kernel) rfl
theorem we_1078 : (Cond.static yJ1_canEncode_fc78d) ∈ lw_all := all_at 1078 (by decide +kernel) rfl
theorem we_1079 : (Cond.code yJ1_canEncode_fc78d cJ1_canEncode_fc78d 1 (some .boolean)) ∈ lw_all := all_at 1079 (by decide +kernel) rfl
theorem we_1074 : (Cond.methodLink RJ4 50 yJ5_append_3fe6f) ∈ lw_all := all_at 1074 (by decide +kernel) rfl
theorem we_2052 : (Cond.sameMethod RJ5 RJ5 "append" "(C)Ljava/lang/AbstractStringBuilder;") ∈ lw_all := all_at 2052 (by decide +kernel) rfl
theorem we_1075 : (Cond.instanceMethod yJ5_append_3fe6f) ∈ lw_all := all_at 1075 (by decide +kernel) rfl
theorem we_1076 : (Cond.code yJ5_append_3fe6f cJ5_append_3fe6f 2 (some (.object "java/lang/AbstractStringBuilder"))) ∈ lw_all := all_at 1076 (by decide +kernel) rfl
theorem we_294 : (Cond.fieldLink RJ5 73 "java/lang/AbstractStringBuilder" "maybeLatin1" "Z") ∈ lw_all := all_at 294 (by decide +kernel) rfl
theorem we_784 : (Cond.methodLink RJ4 333 yJ5_setLength_d00df) ∈ lw_all := all_at 784 (by decide +kernel) rfl
theorem we_2042 : (Cond.sameMethod RJ5 RJ5 "setLength" "(I)V") ∈ lw_all := all_at 2042 (by decide +kernel) rfl
theorem we_785 : (Cond.instanceMethod yJ5_setLength_d00df) ∈ lw_all := all_at 785 (by decide +kernel) rfl
theorem we_786 : (Cond.code yJ5_setLength_d00df cJ5_setLength_d00df 2 none) ∈ lw_all := all_at 786 (by decide +kernel) rfl
theorem we_924 : (Cond.fieldLink RJ6 83 "java/lang/Integer" "DigitOnes" "[B") ∈ lw_all := all_at 924 (by decide +kernel) rfl
theorem we_926 : (Cond.fieldLink RJ6 87 "java/lang/Integer" "DigitTens" "[B") ∈ lw_all := all_at 926 (by decide +kernel) rfl
theorem we_918 : (Cond.methodLink RJ5 245 yJ6_stringSize_0f7a4) ∈ lw_all := all_at 918 (by decide +kernel) rfl
theorem we_919 : (Cond.static yJ6_stringSize_0f7a4) ∈ lw_all := all_at 919 (by decide +kernel) rfl
theorem we_116 : (Cond.initialized RJ6) ∈ lw_all := all_at 116 (by decide +kernel) rfl
theorem we_920 : (Cond.code yJ6_stringSize_0f7a4 cJ6_stringSize_0f7a4 4 (some .int)) ∈ lw_all := all_at 920 (by decide +kernel) rfl
theorem we_921 : (Cond.methodLink RJ5 248 yJ6_getChars_ba4f3) ∈ lw_all := all_at 921 (by decide +kernel) rfl
theorem we_922 : (Cond.static yJ6_getChars_ba4f3) ∈ lw_all := all_at 922 (by decide +kernel) rfl
theorem we_923 : (Cond.code yJ6_getChars_ba4f3 cJ6_getChars_ba4f3 7 (some .int)) ∈ lw_all := all_at 923 (by decide +kernel) rfl
theorem we_915 : (Cond.methodLink RJ4 53 yJ5_append_c97b9) ∈ lw_all := all_at 915 (by decide +kernel) rfl
theorem we_2050 : (Cond.sameMethod RJ5 RJ5 "append" "(I)Ljava/lang/AbstractStringBuilder;") ∈ lw_all := all_at 2050 (by decide +kernel) rfl
theorem we_916 : (Cond.instanceMethod yJ5_append_c97b9) ∈ lw_all := all_at 916 (by decide +kernel) rfl
theorem we_917 : (Cond.code yJ5_append_c97b9 cJ5_append_c97b9 4 (some (.object "java/lang/AbstractStringBuilder"))) ∈ lw_all := all_at 917 (by decide +kernel) rfl
set_option maxRecDepth 100000 in
theorem jm_pci {D : va_G} {cs : Nat → ClassId} {b : Nat} {ad : Rf → Nat} {adV : Nat → Nat} {sc : Nat × (Nat → Int32)} {l : Launch} {i n : Int32} {fo : Value} {ws : va_W} (hfo : fo.category = 1) (h0 : ¬ i < 0) (h1 : i < n) : JC (D, cs, b, ad, adV, sc) l yJ3_checkIndex_8e157 cJ3_checkIndex_8e157 3 (some .int) 0 0 [.int i, .int n, fo] (ws : va_W) (pD (some (.int i)) ws) := by
  refine jc_of (by decide +kernel) (by intro z hz; simp only [List.mem_cons, List.not_mem_nil, or_false] at hz; rcases hz with rfl | rfl | rfl <;> first | rfl | exact hfo) (Nat.le_of_ble_eq_true rfl) ?_
  intro x hF hC hO hG hV hK hH hI hE
  show WJ x (ws : va_W) 0 ([some (.inl (.int i)), some (.inl (.int n)), some (.inl (fo))] : Ls) ([] : List AV) 0
  refine jd_iload_n (i := 0) (hF _) (jde hC (by decide +kernel : decode cJ3_checkIndex_8e157 0 = .ok (.iload_n 0, 1))) rfl rfl ?_
  refine sd_if_lt (tgt := 9) (hF _) (jde hC (by decide +kernel : decode cJ3_checkIndex_8e157 1 = .ok (.ifCond .lt 8, 3))) rfl (fun z => absurd z (h0)) (fun _ => ?_)
  refine jd_iload_n (i := 0) (hF _) (jde hC (by decide +kernel : decode cJ3_checkIndex_8e157 4 = .ok (.iload_n 0, 1))) rfl rfl ?_
  refine jd_iload_n (i := 1) (hF _) (jde hC (by decide +kernel : decode cJ3_checkIndex_8e157 5 = .ok (.iload_n 1, 1))) rfl rfl ?_
  refine sd_icmp_lt (tgt := 16) (hF _) (jde hC (by decide +kernel : decode cJ3_checkIndex_8e157 6 = .ok (.if_icmp .lt 10, 3))) rfl (fun _ => ?_) (fun z => absurd (h1) z)
  refine jd_iload_n (i := 0) (hF _) (jde hC (by decide +kernel : decode cJ3_checkIndex_8e157 16 = .ok (.iload_n 0, 1))) rfl rfl ?_
  exact hE _ 17 0 _ _ (some (.int i)) (by decide +kernel : decode cJ3_checkIndex_8e157 17 = .ok (.ireturn, 1)) ⟨_, _, rfl, rfl, rfl⟩ ⟨rfl, rfl⟩ (Nat.le_of_ble_eq_true rfl)
set_option maxRecDepth 100000 in
theorem jm_ci {D : va_G} {cs : Nat → ClassId} {b : Nat} {ad : Rf → Nat} {adV : Nat → Nat} {sc : Nat × (Nat → Int32)} {l : Launch} {i n : Int32} {ws : va_W} (h0 : ¬ i < 0) (h1 : i < n) : JC (D, cs, b, ad, adV, sc) l yJ0_checkIndex_df160 cJ0_checkIndex_df160 2 none 1 0 [.int i, .int n] (ws : va_W) (pD none ws) := by
  refine jc_of (by decide +kernel) (by simp [Value.category]) (Nat.le_of_ble_eq_true rfl) ?_
  intro x hF hC hO hG hV hK hH hI hE
  show WJ x (ws : va_W) 0 ([some (.inl (.int i)), some (.inl (.int n))] : Ls) ([] : List AV) 0
  refine jd_iload_n (i := 0) (hF _) (jde hC (by decide +kernel : decode cJ0_checkIndex_df160 0 = .ok (.iload_n 0, 1))) rfl rfl ?_
  refine jd_iload_n (i := 1) (hF _) (jde hC (by decide +kernel : decode cJ0_checkIndex_df160 1 = .ok (.iload_n 1, 1))) rfl rfl ?_
  refine jd_sioobe (hF _) (jde hC (by decide +kernel : decode cJ0_checkIndex_df160 2 = .ok (.getstatic 1053, 3))) (by (try rw [xwO]); rw [hO]; exact we_854) (fun fo hfo => ?_)
  refine jd_callS (n := 3) (vs := [.int i, .int n, fo]) (rest := []) (hF _) (jde hC (by decide +kernel : decode cJ0_checkIndex_df160 5 = .ok (.invokestatic 1059, 3))) (by rw [hK, hH]; exact jm_pci (by rcases hfo with h | ⟨q, h⟩ <;> rw [h] <;> rfl) h0 h1) (by (try rw [xwO]); rw [hO]; exact we_1089) we_1090 we_113 we_1091 ⟨by decide +kernel, by decide +kernel, by decide +kernel⟩ rfl (Nat.le_of_ble_eq_true rfl) (by (try rw [xwV]); rw [hV]; exact Nat.le_of_ble_eq_true rfl) rfl (Nat.le_of_ble_eq_true rfl) (by (try rw [xwG]); rw [hG]; exact Nat.le_of_ble_eq_true rfl) (fun v w hp => ?_)
  obtain ⟨rfl, rfl⟩ := hp
  show WJ x (ws : va_W) 8 ([some (.inl (.int i)), some (.inl (.int n))] : Ls) ([.inl (.int i)] : List AV) 0
  refine sd_pop (hF _) (jde hC (by decide +kernel : decode cJ0_checkIndex_df160 8 = .ok (.pop, 1))) rfl ?_
  exact hE _ 9 0 _ _ (none) (by decide +kernel : decode cJ0_checkIndex_df160 9 = .ok (.return_, 1)) ⟨rfl, rfl⟩ ⟨rfl, rfl⟩ (Nat.le_of_ble_eq_true rfl)
set_option maxRecDepth 100000 in
theorem jm_ce {D : va_G} {cs : Nat → ClassId} {b : Nat} {ad : Rf → Nat} {adV : Nat → Nat} {sc : Nat × (Nat → Int32)} {l : Launch} {i : Int32} {ws : va_W} (h0 : ¬ 255 < i) : JC (D, cs, b, ad, adV, sc) l yJ1_canEncode_fc78d cJ1_canEncode_fc78d 1 (some .boolean) 0 0 [.int i] (ws : va_W) (pD (some (.int 1)) ws) := by
  refine jc_of (by decide +kernel) (by simp [Value.category]) (Nat.le_of_ble_eq_true rfl) ?_
  intro x hF hC hO hG hV hK hH hI hE
  show WJ x (ws : va_W) 0 ([some (.inl (.int i))] : Ls) ([] : List AV) 0
  refine jd_iload_n (i := 0) (hF _) (jde hC (by decide +kernel : decode cJ1_canEncode_fc78d 0 = .ok (.iload_n 0, 1))) rfl rfl ?_
  refine sd_sipush (v := 255) (hF _) (jde hC (by decide +kernel : decode cJ1_canEncode_fc78d 1 = .ok (.sipush 255, 3))) ?_
  show WJ x (ws : va_W) 4 ([some (.inl (.int i))] : Ls) ([.inl (.int 255), .inl (.int i)] : List AV) 0
  refine sd_icmp_gt (tgt := 11) (hF _) (jde hC (by decide +kernel : decode cJ1_canEncode_fc78d 4 = .ok (.if_icmp .gt 7, 3))) rfl (fun z => absurd z (h0)) (fun _ => ?_)
  refine sd_iconst (v := 1) (hF _) (jde hC (by decide +kernel : decode cJ1_canEncode_fc78d 7 = .ok (.iconst 1, 1))) ?_
  refine sd_goto (tgt := 12) (hF _) (jde hC (by decide +kernel : decode cJ1_canEncode_fc78d 8 = .ok (.goto 4, 3))) rfl ?_
  exact hE _ 12 0 _ _ (some (.int 1)) (by decide +kernel : decode cJ1_canEncode_fc78d 12 = .ok (.ireturn, 1)) ⟨_, _, rfl, rfl, by decide⟩ ⟨rfl, rfl⟩ (Nat.le_of_ble_eq_true rfl)
set_option maxRecDepth 100000 in
theorem jm_cod {D : va_G} {cs : Nat → ClassId} {b : Nat} {ad : Rf → Nat} {adV : Nat → Nat} {sc : Nat × (Nat → Int32)} {l : Launch} {k : Nat} {ws : va_W} (hk : k < 7) : JC (D, cs, b, ad, adV, sc) l yJ0_coder_7d493 cJ0_coder_7d493 1 (some .byte) 0 0 [.ref (ad (k, 200))] (ws : va_W) (pD (some (.int 0)) ws) := by
  refine jc_of (by decide +kernel) (by simp [Value.category]) (Nat.le_of_ble_eq_true rfl) ?_
  intro x hF hC hO hG hV hK hH hI hE
  show WJ x (ws : va_W) 0 ([some (.inl (.ref (ad (k, 200))))] : Ls) ([] : List AV) 0
  refine jd_compact (hF _) (jde hC (by decide +kernel : decode cJ0_coder_7d493 0 = .ok (.getstatic 38, 3))) (by (try rw [xwO]); rw [hO]; exact we_876) ?_
  refine sd_if_eq (tgt := 13) (hF _) (jde hC (by decide +kernel : decode cJ0_coder_7d493 3 = .ok (.ifCond .eq 10, 3))) rfl (fun z => absurd z (by decide)) (fun _ => ?_)
  refine jd_aload_n (i := 0) (hF _) (jde hC (by decide +kernel : decode cJ0_coder_7d493 6 = .ok (.aload_n 0, 1))) rfl rfl ?_
  refine jd_scoder (K := (D, cs, b, ad, adV, sc)) (k := k) (xwK.trans hK) (hF _) (jde hC (by decide +kernel : decode cJ0_coder_7d493 7 = .ok (.getfield 15, 3))) hk (by (try rw [xwO]); rw [hO]; exact we_1005) ?_
  refine sd_goto (tgt := 14) (hF _) (jde hC (by decide +kernel : decode cJ0_coder_7d493 10 = .ok (.goto 4, 3))) rfl ?_
  exact hE _ 14 0 _ _ (some (.int 0)) (by decide +kernel : decode cJ0_coder_7d493 14 = .ok (.ireturn, 1)) ⟨_, _, rfl, rfl, by decide⟩ ⟨rfl, rfl⟩ (Nat.le_of_ble_eq_true rfl)
set_option maxRecDepth 100000 in
theorem jm_isl {D : va_G} {cs : Nat → ClassId} {b : Nat} {ad : Rf → Nat} {adV : Nat → Nat} {sc : Nat × (Nat → Int32)} {l : Launch} {k : Nat} {ws : va_W} (hk : k < 7) : JC (D, cs, b, ad, adV, sc) l yJ0_isLatin1_aae02 cJ0_isLatin1_aae02 1 (some .boolean) 0 0 [.ref (ad (k, 200))] (ws : va_W) (pD (some (.int 1)) ws) := by
  refine jc_of (by decide +kernel) (by simp [Value.category]) (Nat.le_of_ble_eq_true rfl) ?_
  intro x hF hC hO hG hV hK hH hI hE
  show WJ x (ws : va_W) 0 ([some (.inl (.ref (ad (k, 200))))] : Ls) ([] : List AV) 0
  refine jd_compact (hF _) (jde hC (by decide +kernel : decode cJ0_isLatin1_aae02 0 = .ok (.getstatic 38, 3))) (by (try rw [xwO]); rw [hO]; exact we_876) ?_
  refine sd_if_eq (tgt := 17) (hF _) (jde hC (by decide +kernel : decode cJ0_isLatin1_aae02 3 = .ok (.ifCond .eq 14, 3))) rfl (fun z => absurd z (by decide)) (fun _ => ?_)
  refine jd_aload_n (i := 0) (hF _) (jde hC (by decide +kernel : decode cJ0_isLatin1_aae02 6 = .ok (.aload_n 0, 1))) rfl rfl ?_
  refine jd_scoder (K := (D, cs, b, ad, adV, sc)) (k := k) (xwK.trans hK) (hF _) (jde hC (by decide +kernel : decode cJ0_isLatin1_aae02 7 = .ok (.getfield 15, 3))) hk (by (try rw [xwO]); rw [hO]; exact we_1005) ?_
  refine sd_if_ne (tgt := 17) (hF _) (jde hC (by decide +kernel : decode cJ0_isLatin1_aae02 10 = .ok (.ifCond .ne 7, 3))) rfl (fun z => absurd (rfl) z) (fun _ => ?_)
  refine sd_iconst (v := 1) (hF _) (jde hC (by decide +kernel : decode cJ0_isLatin1_aae02 13 = .ok (.iconst 1, 1))) ?_
  refine sd_goto (tgt := 18) (hF _) (jde hC (by decide +kernel : decode cJ0_isLatin1_aae02 14 = .ok (.goto 4, 3))) rfl ?_
  exact hE _ 18 0 _ _ (some (.int 1)) (by decide +kernel : decode cJ0_isLatin1_aae02 18 = .ok (.ireturn, 1)) ⟨_, _, rfl, rfl, by decide⟩ ⟨rfl, rfl⟩ (Nat.le_of_ble_eq_true rfl)
set_option maxRecDepth 100000 in
theorem jm_slen {D : va_G} {cs : Nat → ClassId} {b : Nat} {ad : Rf → Nat} {adV : Nat → Nat} {sc : Nat × (Nat → Int32)} {l : Launch} {k : Nat} {ws : va_W} (hk : k < 7) : JC (D, cs, b, ad, adV, sc) l yJ0_length_8abf5 cJ0_length_8abf5 1 (some .int) 1 0 [.ref (ad (k, 200))] (ws : va_W) (pD (some (.int (Int32.ofNat ((jS.map List.length).getD k 0)))) ws) := by
  refine jc_of (by decide +kernel) (by simp [Value.category]) (Nat.le_of_ble_eq_true rfl) ?_
  intro x hF hC hO hG hV hK hH hI hE
  show WJ x (ws : va_W) 0 ([some (.inl (.ref (ad (k, 200))))] : Ls) ([] : List AV) 0
  refine jd_aload_n (i := 0) (hF _) (jde hC (by decide +kernel : decode cJ0_length_8abf5 0 = .ok (.aload_n 0, 1))) rfl rfl ?_
  refine jd_svalue (K := (D, cs, b, ad, adV, sc)) (k := k) (xwK.trans hK) (hF _) (jde hC (by decide +kernel : decode cJ0_length_8abf5 1 = .ok (.getfield 9, 3))) hk (by (try rw [xwO]); rw [hO]; exact we_1004) ?_
  refine jd_slen (K := (D, cs, b, ad, adV, sc)) (k := k) (xwK.trans hK) (hF _) (jde hC (by decide +kernel : decode cJ0_length_8abf5 4 = .ok (.arraylength, 1))) hk ?_
  refine jd_aload_n (i := 0) (hF _) (jde hC (by decide +kernel : decode cJ0_length_8abf5 5 = .ok (.aload_n 0, 1))) rfl rfl ?_
  refine jd_callK (n := 0) (vs := []) (rest := [.inl (.int (Int32.ofNat ((jS.map List.length).getD k 0)))]) (k := k) hK hk (hF _) (jde hC (by decide +kernel : decode cJ0_length_8abf5 6 = .ok (.invokevirtual 335, 3))) (by rw [hK, hH]; exact jm_cod hk) (by (try rw [xwO]); rw [hO]; exact we_872) we_873 we_874 we_95 we_875 ⟨rfl, by decide +kernel⟩ rfl (Nat.le_of_ble_eq_true rfl) (by (try rw [xwV]); rw [hV]; exact Nat.le_of_ble_eq_true rfl) rfl (Nat.le_of_ble_eq_true rfl) (by (try rw [xwG]); rw [hG]; exact Nat.le_of_ble_eq_true rfl) (fun v w hp => ?_)
  obtain ⟨rfl, rfl⟩ := hp
  show WJ x (ws : va_W) 9 ([some (.inl (.ref (ad (k, 200))))] : Ls) ([.inl (.int 0), .inl (.int (Int32.ofNat ((jS.map List.length).getD k 0)))] : List AV) 0
  refine jd_ishr (hF _) (jde hC (by decide +kernel : decode cJ0_length_8abf5 9 = .ok (.ishr, 1))) ?_
  refine jd_top (b := .inl (.int (Int32.ofNat ((jS.map List.length).getD k 0)))) (congrArg (fun z => (Sum.inl (Value.int z) : AV)) (sb_shr0 _)) ?_
  exact hE _ 10 0 _ _ (some (.int (Int32.ofNat ((jS.map List.length).getD k 0)))) (by decide +kernel : decode cJ0_length_8abf5 10 = .ok (.ireturn, 1)) ⟨_, _, rfl, rfl, rfl⟩ ⟨rfl, rfl⟩ (Nat.le_of_ble_eq_true rfl)
theorem getD_out {α : Type} {l : List α} {k : Nat} {d : α} (h : l.length ≤ k) : l.getD k d = d := by rw [List.getD_eq_getElem?_getD, List.getElem?_eq_none h]; rfl
theorem jS_short (k : Nat) : (jS.map List.length).getD k 0 < 2 ^ 31 := by
  rcases Nat.lt_or_ge k 7 with h | h
  · revert k; decide +kernel
  · rw [getD_out (by simpa [jS] using h)]; decide
theorem jS_let : ∀ k, k < 7 → ∀ j, j < (jS.map List.length).getD k 0 → ((jS.getD k []).getD j 0 &&& 255 = (jS.getD k []).getD j 0 ∧ ((jS.getD k []).getD j 0).toUInt32 % 65536 = ((jS.getD k []).getD j 0).toUInt32 ∧ narrow .char (.int ((jS.getD k []).getD j 0)) = .int ((jS.getD k []).getD j 0)) := by decide +kernel
theorem jS_at (k : Nat) (i : Int32) (hi : inb i ((jS.map List.length).getD k 0) = true) : (jS.getD k []).getD i.toNatClampNeg 0 &&& 255 = (jS.getD k []).getD i.toNatClampNeg 0 ∧ (((jS.getD k []).getD i.toNatClampNeg 0).toUInt32 % 65536).toInt32 = (jS.getD k []).getD i.toNatClampNeg 0 ∧ narrow .char (.int ((jS.getD k []).getD i.toNatClampNeg 0)) = .int ((jS.getD k []).getD i.toNatClampNeg 0) := by
  have h := (in_nat hi).2
  have hk : k < 7 := by
    rcases Nat.lt_or_ge k 7 with q | q
    · exact q
    · rw [getD_out (by simpa [jS] using q)] at h; omega
  obtain ⟨a, b, c⟩ := jS_let k hk _ h
  exact ⟨a, by rw [b]; rfl, c⟩
set_option maxRecDepth 100000 in
theorem jm_lat {D : va_G} {cs : Nat → ClassId} {b : Nat} {ad : Rf → Nat} {adV : Nat → Nat} {sc : Nat × (Nat → Int32)} {l : Launch} {k : Nat} {i : Int32} {ws : va_W} (hk : k < 7) (hi : inb i ((jS.map List.length).getD k 0) = true) : JC (D, cs, b, ad, adV, sc) l yJ1_charAt_3b067 cJ1_charAt_3b067 2 (some .char) 2 0 [.ref (adV k), .int i] (ws : va_W) (pD (some (.int ((jS.getD k []).getD i.toNatClampNeg 0))) ws) := by
  refine jc_of (by decide +kernel) (by simp [Value.category]) (Nat.le_of_ble_eq_true rfl) ?_
  intro x hF hC hO hG hV hK hH hI hE
  show WJ x (ws : va_W) 0 ([some (.inl (.ref (adV k))), some (.inl (.int i))] : Ls) ([] : List AV) 0
  refine jd_iload_n (i := 1) (hF _) (jde hC (by decide +kernel : decode cJ1_charAt_3b067 0 = .ok (.iload_n 1, 1))) rfl rfl ?_
  refine jd_aload_n (i := 0) (hF _) (jde hC (by decide +kernel : decode cJ1_charAt_3b067 1 = .ok (.aload_n 0, 1))) rfl rfl ?_
  refine jd_slen (K := (D, cs, b, ad, adV, sc)) (k := k) (xwK.trans hK) (hF _) (jde hC (by decide +kernel : decode cJ1_charAt_3b067 2 = .ok (.arraylength, 1))) hk ?_
  refine jd_callS (n := 2) (vs := [.int i, .int (Int32.ofNat ((jS.map List.length).getD k 0))]) (rest := []) (hF _) (jde hC (by decide +kernel : decode cJ1_charAt_3b067 3 = .ok (.invokestatic 9, 3))) (by rw [hK, hH]; exact jm_ci (in_nat hi).1 (in_lt hi (jS_short k))) (by (try rw [xwO]); rw [hO]; exact we_1449) we_1087 we_95 we_1088 ⟨by decide +kernel, by decide +kernel, by decide +kernel⟩ rfl (Nat.le_of_ble_eq_true rfl) (by (try rw [xwV]); rw [hV]; exact Nat.le_of_ble_eq_true rfl) rfl (Nat.le_of_ble_eq_true rfl) (by (try rw [xwG]); rw [hG]; exact Nat.le_of_ble_eq_true rfl) (fun v w hp => ?_)
  obtain ⟨rfl, rfl⟩ := hp
  show WJ x (ws : va_W) 6 ([some (.inl (.ref (adV k))), some (.inl (.int i))] : Ls) ([] : List AV) 0
  refine jd_aload_n (i := 0) (hF _) (jde hC (by decide +kernel : decode cJ1_charAt_3b067 6 = .ok (.aload_n 0, 1))) rfl rfl ?_
  refine jd_iload_n (i := 1) (hF _) (jde hC (by decide +kernel : decode cJ1_charAt_3b067 7 = .ok (.iload_n 1, 1))) rfl rfl ?_
  refine jd_sbyte (K := (D, cs, b, ad, adV, sc)) (k := k) (xwK.trans hK) (hF _) (jde hC (by decide +kernel : decode cJ1_charAt_3b067 8 = .ok (.baload, 1))) hk (hi) ?_
  refine jd_top (b := .inl (.int ((jS.getD k []).getD (i).toNatClampNeg 0))) (congrArg (fun z => (Sum.inl (Value.int z) : AV)) (rfl)) ?_
  refine sd_sipush (v := 255) (hF _) (jde hC (by decide +kernel : decode cJ1_charAt_3b067 9 = .ok (.sipush 255, 3))) ?_
  show WJ x (ws : va_W) 12 ([some (.inl (.ref (adV k))), some (.inl (.int i))] : Ls) ([.inl (.int 255), .inl (.int ((jS.getD k []).getD (i).toNatClampNeg 0))] : List AV) 0
  refine sd_iand (hF _) (jde hC (by decide +kernel : decode cJ1_charAt_3b067 12 = .ok (.iand, 1))) ?_
  refine jd_top (b := .inl (.int ((jS.getD k []).getD (i).toNatClampNeg 0))) (congrArg (fun z => (Sum.inl (Value.int z) : AV)) ((jS_at k i hi).1)) ?_
  refine sd_i2c (hF _) (jde hC (by decide +kernel : decode cJ1_charAt_3b067 13 = .ok (.i2c, 1))) ?_
  refine jd_top (b := .inl (.int ((jS.getD k []).getD (i).toNatClampNeg 0))) (congrArg (fun z => (Sum.inl (Value.int z) : AV)) ((jS_at k i hi).2.1)) ?_
  exact hE _ 14 0 _ _ (some (.int ((jS.getD k []).getD (i).toNatClampNeg 0))) (by decide +kernel : decode cJ1_charAt_3b067 14 = .ok (.ireturn, 1)) ⟨_, _, rfl, rfl, (jS_at k i hi).2.2⟩ ⟨rfl, rfl⟩ (Nat.le_of_ble_eq_true rfl)
set_option maxRecDepth 100000 in
theorem jm_sat {D : va_G} {cs : Nat → ClassId} {b : Nat} {ad : Rf → Nat} {adV : Nat → Nat} {sc : Nat × (Nat → Int32)} {l : Launch} {k : Nat} {i : Int32} {ws : va_W} (hk : k < 7) (hi : inb i ((jS.map List.length).getD k 0) = true) : JC (D, cs, b, ad, adV, sc) l yJ0_charAt_5068e cJ0_charAt_5068e 2 (some .char) 3 0 [.ref (ad (k, 200)), .int i] (ws : va_W) (pD (some (.int ((jS.getD k []).getD i.toNatClampNeg 0))) ws) := by
  refine jc_of (by decide +kernel) (by simp [Value.category]) (Nat.le_of_ble_eq_true rfl) ?_
  intro x hF hC hO hG hV hK hH hI hE
  show WJ x (ws : va_W) 0 ([some (.inl (.ref (ad (k, 200)))), some (.inl (.int i))] : Ls) ([] : List AV) 0
  refine jd_aload_n (i := 0) (hF _) (jde hC (by decide +kernel : decode cJ0_charAt_5068e 0 = .ok (.aload_n 0, 1))) rfl rfl ?_
  refine jd_callK (n := 0) (vs := []) (rest := []) (k := k) hK hk (hF _) (jde hC (by decide +kernel : decode cJ0_charAt_5068e 1 = .ok (.invokevirtual 492, 3))) (by rw [hK, hH]; exact jm_isl hk) (by (try rw [xwO]); rw [hO]; exact we_1442) we_1443 we_1444 we_95 we_1445 ⟨rfl, by decide +kernel⟩ rfl (Nat.le_of_ble_eq_true rfl) (by (try rw [xwV]); rw [hV]; exact Nat.le_of_ble_eq_true rfl) rfl (Nat.le_of_ble_eq_true rfl) (by (try rw [xwG]); rw [hG]; exact Nat.le_of_ble_eq_true rfl) (fun v w hp => ?_)
  obtain ⟨rfl, rfl⟩ := hp
  show WJ x (ws : va_W) 4 ([some (.inl (.ref (ad (k, 200)))), some (.inl (.int i))] : Ls) ([.inl (.int 1)] : List AV) 0
  refine sd_if_eq (tgt := 16) (hF _) (jde hC (by decide +kernel : decode cJ0_charAt_5068e 4 = .ok (.ifCond .eq 12, 3))) rfl (fun z => absurd z (by decide)) (fun _ => ?_)
  refine jd_aload_n (i := 0) (hF _) (jde hC (by decide +kernel : decode cJ0_charAt_5068e 7 = .ok (.aload_n 0, 1))) rfl rfl ?_
  refine jd_svalue (K := (D, cs, b, ad, adV, sc)) (k := k) (xwK.trans hK) (hF _) (jde hC (by decide +kernel : decode cJ0_charAt_5068e 8 = .ok (.getfield 9, 3))) hk (by (try rw [xwO]); rw [hO]; exact we_1004) ?_
  refine jd_iload_n (i := 1) (hF _) (jde hC (by decide +kernel : decode cJ0_charAt_5068e 11 = .ok (.iload_n 1, 1))) rfl rfl ?_
  refine jd_callS (n := 2) (vs := [.ref (adV k), .int i]) (rest := []) (hF _) (jde hC (by decide +kernel : decode cJ0_charAt_5068e 12 = .ok (.invokestatic 495, 3))) (by rw [hK, hH]; exact jm_lat hk hi) (by (try rw [xwO]); rw [hO]; exact we_1446) we_1447 we_114 we_1448 ⟨by decide +kernel, by decide +kernel, by decide +kernel⟩ rfl (Nat.le_of_ble_eq_true rfl) (by (try rw [xwV]); rw [hV]; exact Nat.le_of_ble_eq_true rfl) rfl (Nat.le_of_ble_eq_true rfl) (by (try rw [xwG]); rw [hG]; exact Nat.le_of_ble_eq_true rfl) (fun v w hp => ?_)
  obtain ⟨rfl, rfl⟩ := hp
  show WJ x (ws : va_W) 15 ([some (.inl (.ref (ad (k, 200)))), some (.inl (.int i))] : Ls) ([.inl (.int ((jS.getD k []).getD i.toNatClampNeg 0))] : List AV) 0
  exact hE _ 15 0 _ _ (some (.int ((jS.getD k []).getD i.toNatClampNeg 0))) (by decide +kernel : decode cJ0_charAt_5068e 15 = .ok (.ireturn, 1)) ⟨_, _, rfl, rfl, (jS_at k i hi).2.2⟩ ⟨rfl, rfl⟩ (Nat.le_of_ble_eq_true rfl)
theorem nI_mx {b c : Nat} (hb : b < 2 ^ 31) (hc : c < 2 ^ 31) : (if nI b < nI c then nI c else nI b) = nI (if b < c then c else b) := by
  by_cases h : b < c
  · rw [if_pos h, if_pos (nI_lt h hc)]
  · rw [if_neg h, if_neg (nI_nlt (Nat.not_lt.mp h) hb)]
theorem set_tl {α : Type} (R : List α) (a b : α) : (R ++ [a]).set R.length b = R ++ [b] := by
  induction R with
  | nil => rfl
  | cons c R ih => rw [List.cons_append, List.length_cons, List.set_cons_succ, ih, List.cons_append]
theorem jc_let : ∀ m, m < 128 → (nI m &&& 255 = nI m ∧ ((nI m).toUInt32 % 65536).toInt32 = nI m ∧ (nI m).toInt8.toInt32 = nI m ∧ vp_nar .byte (nI m) = nI m ∧ narrow .char (.int (nI m)) = .int (nI m) ∧ fits .byte (.int (nI m)) = true) := by decide +kernel
theorem jc_nat {c : Int32} (h0 : 0 ≤ c) (h1 : c < 128) : ∃ m, m < 128 ∧ c = nI m := by
  obtain ⟨j, hj, rfl⟩ := nI_of (x := c) (by rw [Int32.not_lt]; exact h0)
  exact ⟨j, (nI_ltI hj (by decide)).mp (show nI j < nI 128 from h1), rfl⟩
theorem jc_of8 {c : Int32} (h0 : 0 ≤ c) (h1 : c < 128) : c &&& 255 = c ∧ (c.toUInt32 % 65536).toInt32 = c ∧ c.toInt8.toInt32 = c ∧ vp_nar .byte c = c ∧ narrow .char (.int c) = .int c ∧ fits .byte (.int c) = true := by
  obtain ⟨m, hm, rfl⟩ := jc_nat h0 h1
  exact jc_let m hm
theorem Q_at {α : Type} (a b c : α) (R : List α) : (a :: b :: (R ++ [c]))[R.length + 2]? = some c := by simp
theorem Q_set {α : Type} (a b c d : α) (R : List α) : (a :: b :: (R ++ [c])).set (R.length + 2) d = a :: b :: (R ++ [d]) := by rw [List.set_cons_succ, List.set_cons_succ, set_tl]
set_option maxRecDepth 100000 in
theorem jm_alen {D : va_G} {cs : Nat → ClassId} {b : Nat} {ad : Rf → Nat} {adV : Nat → Nat} {sc : Nat × (Nat → Int32)} {l : Launch} {h q cap n : Nat} {f : Nat → Int32} {ml : Int32} {R : va_W}  : JC (D, cs, b, ad, adV, sc) l yJ5_length_8abf5 cJ5_length_8abf5 1 (some .int) 0 0 [.ref h] ((h, .inr (8, [.ref q, .int 0, .int ml, .int (nI n)])) :: (q, .inl (cs 5, cap, .inl f)) :: R : va_W) (pD (some (.int (nI n))) ((h, .inr (8, [.ref q, .int 0, .int ml, .int (nI n)])) :: (q, .inl (cs 5, cap, .inl f)) :: R)) := by
  refine jc_of (by decide +kernel) (by simp [Value.category]) (Nat.le_of_ble_eq_true rfl) ?_
  intro x hF hC hO hG hV hK hH hI hE
  show WJ x ((h, .inr (8, [.ref q, .int 0, .int ml, .int (nI n)])) :: (q, .inl (cs 5, cap, .inl f)) :: R : va_W) 0 ([some (.inl (.ref h))] : Ls) ([] : List AV) 0
  refine jd_aload_n (i := 0) (hF _) (jde hC (by decide +kernel : decode cJ5_length_8abf5 0 = .ok (.aload_n 0, 1))) rfl rfl ?_
  refine jd_get (k := 0) (f := 3) (q := (RJ4, TJ4, 4)) (hF _) (jde hC (by decide +kernel : decode cJ5_length_8abf5 1 = .ok (.getfield 79, 3))) rfl rfl (Nat.le_of_ble_eq_true rfl) (Or.inl (by (try rw [xwO]); rw [hO]; exact we_296)) rfl ?_
  exact hE _ 4 0 _ _ (some (.int (nI n))) (by decide +kernel : decode cJ5_length_8abf5 4 = .ok (.ireturn, 1)) ⟨_, _, rfl, rfl, rfl⟩ ⟨rfl, rfl⟩ (Nat.le_of_ble_eq_true rfl)
set_option maxRecDepth 100000 in
theorem jm_blen {D : va_G} {cs : Nat → ClassId} {b : Nat} {ad : Rf → Nat} {adV : Nat → Nat} {sc : Nat × (Nat → Int32)} {l : Launch} {h q cap n : Nat} {f : Nat → Int32} {ml : Int32} {R : va_W}  : JC (D, cs, b, ad, adV, sc) l yJ4_length_8abf5 cJ4_length_8abf5 1 (some .int) 1 0 [.ref h] ((h, .inr (8, [.ref q, .int 0, .int ml, .int (nI n)])) :: (q, .inl (cs 5, cap, .inl f)) :: R : va_W) (pD (some (.int (nI n))) ((h, .inr (8, [.ref q, .int 0, .int ml, .int (nI n)])) :: (q, .inl (cs 5, cap, .inl f)) :: R)) := by
  refine jc_of (by decide +kernel) (by simp [Value.category]) (Nat.le_of_ble_eq_true rfl) ?_
  intro x hF hC hO hG hV hK hH hI hE
  show WJ x ((h, .inr (8, [.ref q, .int 0, .int ml, .int (nI n)])) :: (q, .inl (cs 5, cap, .inl f)) :: R : va_W) 0 ([some (.inl (.ref h))] : Ls) ([] : List AV) 0
  refine jd_aload_n (i := 0) (hF _) (jde hC (by decide +kernel : decode cJ4_length_8abf5 0 = .ok (.aload_n 0, 1))) rfl rfl ?_
  refine jd_callSU (n := 0) (vs := []) (rest := []) (k := 0) (q := (RJ4, TJ4, 4)) (hF _) (jde hC (by decide +kernel : decode cJ4_length_8abf5 1 = .ok (.invokespecial 343, 3))) (by rw [hK, hH]; exact jm_alen) rfl rfl (by (try rw [xwO]); rw [hO]; exact we_960) we_956 (by (try rw [xwO]); rw [hO]; exact we_305) we_955 we_93 we_961 ⟨by decide +kernel, by decide +kernel⟩ rfl (Nat.le_of_ble_eq_true rfl) (by (try rw [xwV]); rw [hV]; exact Nat.le_of_ble_eq_true rfl) rfl (Nat.le_of_ble_eq_true rfl) (by (try rw [xwG]); rw [hG]; exact Nat.le_of_ble_eq_true rfl) (fun v w hp => ?_)
  obtain ⟨rfl, rfl⟩ := hp
  show WJ x ((h, .inr (8, [.ref q, .int 0, .int ml, .int (nI n)])) :: (q, .inl (cs 5, cap, .inl f)) :: R : va_W) 4 ([some (.inl (.ref h))] : Ls) ([.inl (.int (nI n))] : List AV) 0
  exact hE _ 4 0 _ _ (some (.int (nI n))) (by decide +kernel : decode cJ4_length_8abf5 4 = .ok (.ireturn, 1)) ⟨_, _, rfl, rfl, rfl⟩ ⟨rfl, rfl⟩ (Nat.le_of_ble_eq_true rfl)
theorem in_mono {i : Int32} {n m : Nat} (h : inb i n = true) (hn : n ≤ m) : inb i m = true := by
  unfold inb at h ⊢
  rw [Bool.and_eq_true] at h ⊢
  exact ⟨h.1, Nat.ble_eq_true_of_le (Nat.le_trans (Nat.le_of_ble_eq_true h.2) hn)⟩
set_option maxRecDepth 100000 in
theorem jm_aat {D : va_G} {cs : Nat → ClassId} {b : Nat} {ad : Rf → Nat} {adV : Nat → Nat} {sc : Nat × (Nat → Int32)} {l : Launch} {h q cap n : Nat} {f : Nat → Int32} {ml : Int32} {R : va_W} {i : Int32} (hn : n ≤ cap) (hc : cap ≤ 100) (hi : inb i n = true) (h0 : 0 ≤ f i.toNatClampNeg) (h1 : f i.toNatClampNeg < 128) : JC (D, cs, b, ad, adV, sc) l yJ5_charAt_5068e cJ5_charAt_5068e 5 (some .char) 2 0 [.ref h, .int i] ((h, .inr (8, [.ref q, .int 0, .int ml, .int (nI n)])) :: (q, .inl (cs 5, cap, .inl f)) :: R : va_W) (pD (some (.int (f i.toNatClampNeg))) ((h, .inr (8, [.ref q, .int 0, .int ml, .int (nI n)])) :: (q, .inl (cs 5, cap, .inl f)) :: R)) := by
  refine jc_of (by decide +kernel) (by simp [Value.category]) (Nat.le_of_ble_eq_true rfl) ?_
  intro x hF hC hO hG hV hK hH hI hE
  show WJ x ((h, .inr (8, [.ref q, .int 0, .int ml, .int (nI n)])) :: (q, .inl (cs 5, cap, .inl f)) :: R : va_W) 0 ([some (.inl (.ref h)), some (.inl (.int i)), none, none, none] : Ls) ([] : List AV) 0
  refine jd_aload_n (i := 0) (hF _) (jde hC (by decide +kernel : decode cJ5_charAt_5068e 0 = .ok (.aload_n 0, 1))) rfl rfl ?_
  refine jd_get (k := 0) (f := 1) (q := (RJ4, TJ4, 4)) (hF _) (jde hC (by decide +kernel : decode cJ5_charAt_5068e 1 = .ok (.getfield 22, 3))) rfl rfl (Nat.le_of_ble_eq_true rfl) (Or.inl (by (try rw [xwO]); rw [hO]; exact we_293)) rfl ?_
  refine jd_istore_n (i := 2) (hF _) (jde hC (by decide +kernel : decode cJ5_charAt_5068e 4 = .ok (.istore_n 2, 1))) rfl rfl (Nat.le_of_ble_eq_true rfl) ?_
  refine jd_aload_n (i := 0) (hF _) (jde hC (by decide +kernel : decode cJ5_charAt_5068e 5 = .ok (.aload_n 0, 1))) rfl rfl ?_
  refine jd_get (k := 0) (f := 0) (q := (RJ4, TJ4, 4)) (hF _) (jde hC (by decide +kernel : decode cJ5_charAt_5068e 6 = .ok (.getfield 15, 3))) rfl rfl (Nat.le_of_ble_eq_true rfl) (Or.inl (by (try rw [xwO]); rw [hO]; exact we_292)) rfl ?_
  refine jd_astore_n (i := 3) (hF _) (jde hC (by decide +kernel : decode cJ5_charAt_5068e 9 = .ok (.astore_n 3, 1))) rfl rfl (Nat.le_of_ble_eq_true rfl) ?_
  refine jd_aload_n (i := 0) (hF _) (jde hC (by decide +kernel : decode cJ5_charAt_5068e 10 = .ok (.aload_n 0, 1))) rfl rfl ?_
  refine jd_get (k := 0) (f := 3) (q := (RJ4, TJ4, 4)) (hF _) (jde hC (by decide +kernel : decode cJ5_charAt_5068e 11 = .ok (.getfield 79, 3))) rfl rfl (Nat.le_of_ble_eq_true rfl) (Or.inl (by (try rw [xwO]); rw [hO]; exact we_296)) rfl ?_
  refine jd_aload_n (i := 3) (hF _) (jde hC (by decide +kernel : decode cJ5_charAt_5068e 14 = .ok (.aload_n 3, 1))) rfl rfl ?_
  refine jd_alen (k := 1) (a := (cap, .inl f)) (hF _) (jde hC (by decide +kernel : decode cJ5_charAt_5068e 15 = .ok (.arraylength, 1))) (by rw [hK]; rfl) ?_
  refine jd_iload_n (i := 2) (hF _) (jde hC (by decide +kernel : decode cJ5_charAt_5068e 16 = .ok (.iload_n 2, 1))) rfl rfl ?_
  refine jd_ishr (hF _) (jde hC (by decide +kernel : decode cJ5_charAt_5068e 17 = .ok (.ishr, 1))) ?_
  refine jd_top (b := .inl (.int (nI cap))) (congrArg (fun z => (Sum.inl (Value.int z) : AV)) (sb_shr0 _)) ?_
  refine jd_mmin (hF _) (jde hC (by decide +kernel : decode cJ5_charAt_5068e 18 = .ok (.invokestatic 138, 3))) (by (try rw [xwO]); rw [hO]; exact we_1386) we_588 we_103 we_589 (by (try rw [xwV]); rw [hV]; exact Nat.le_of_ble_eq_true rfl) (Nat.le_of_ble_eq_true rfl) (by (try rw [xwG]); rw [hG]; exact Nat.le_of_ble_eq_true rfl) ?_
  refine jd_top (b := .inl (.int (nI n))) (congrArg (fun z => (Sum.inl (Value.int z) : AV)) (if_neg (nI_nlt hn (by omega)))) ?_
  refine jd_istore (i := 4) (hF _) (jde hC (by decide +kernel : decode cJ5_charAt_5068e 21 = .ok (.istore 4, 2))) rfl (Nat.le_of_ble_eq_true rfl) ?_
  refine jd_iload_n (i := 1) (hF _) (jde hC (by decide +kernel : decode cJ5_charAt_5068e 23 = .ok (.iload_n 1, 1))) rfl rfl ?_
  refine jd_iload (i := 4) (hF _) (jde hC (by decide +kernel : decode cJ5_charAt_5068e 24 = .ok (.iload 4, 2))) rfl ?_
  refine jd_callS (n := 2) (vs := [.int i, .int (nI n)]) (rest := []) (hF _) (jde hC (by decide +kernel : decode cJ5_charAt_5068e 26 = .ok (.invokestatic 144, 3))) (by rw [hK, hH]; exact jm_ci (in_nat hi).1 (in_lt hi (by omega))) (by (try rw [xwO]); rw [hO]; exact we_1387) we_1087 we_95 we_1088 ⟨by decide +kernel, by decide +kernel, by decide +kernel⟩ rfl (Nat.le_of_ble_eq_true rfl) (by (try rw [xwV]); rw [hV]; exact Nat.le_of_ble_eq_true rfl) rfl (Nat.le_of_ble_eq_true rfl) (by (try rw [xwG]); rw [hG]; exact Nat.le_of_ble_eq_true rfl) (fun v w hp => ?_)
  obtain ⟨rfl, rfl⟩ := hp
  show WJ x ((h, .inr (8, [.ref q, .int 0, .int ml, .int (nI n)])) :: (q, .inl (cs 5, cap, .inl f)) :: R : va_W) 29 ([some (.inl (.ref h)), some (.inl (.int i)), some (.inl (.int 0)), some (.inl (.ref q)), some (.inl (.int (nI n)))] : Ls) ([] : List AV) 0
  refine jd_iload_n (i := 2) (hF _) (jde hC (by decide +kernel : decode cJ5_charAt_5068e 29 = .ok (.iload_n 2, 1))) rfl rfl ?_
  refine sd_if_ne (tgt := 42) (hF _) (jde hC (by decide +kernel : decode cJ5_charAt_5068e 30 = .ok (.ifCond .ne 12, 3))) rfl (fun z => absurd (rfl) z) (fun _ => ?_)
  refine jd_aload_n (i := 3) (hF _) (jde hC (by decide +kernel : decode cJ5_charAt_5068e 33 = .ok (.aload_n 3, 1))) rfl rfl ?_
  refine jd_iload_n (i := 1) (hF _) (jde hC (by decide +kernel : decode cJ5_charAt_5068e 34 = .ok (.iload_n 1, 1))) rfl rfl ?_
  refine jd_bald (k := 1) (n := cap) (hF _) (jde hC (by decide +kernel : decode cJ5_charAt_5068e 35 = .ok (.baload, 1))) (by rw [hK]; rfl) (in_mono hi hn) ?_
  refine sd_sipush (v := 255) (hF _) (jde hC (by decide +kernel : decode cJ5_charAt_5068e 36 = .ok (.sipush 255, 3))) ?_
  show WJ x ((h, .inr (8, [.ref q, .int 0, .int ml, .int (nI n)])) :: (q, .inl (cs 5, cap, .inl f)) :: R : va_W) 39 ([some (.inl (.ref h)), some (.inl (.int i)), some (.inl (.int 0)), some (.inl (.ref q)), some (.inl (.int (nI n)))] : Ls) ([.inl (.int 255), .inl (.int (f (i).toNatClampNeg))] : List AV) 0
  refine sd_iand (hF _) (jde hC (by decide +kernel : decode cJ5_charAt_5068e 39 = .ok (.iand, 1))) ?_
  refine jd_top (b := .inl (.int (f (i).toNatClampNeg))) (congrArg (fun z => (Sum.inl (Value.int z) : AV)) ((jc_of8 h0 h1).1)) ?_
  refine sd_i2c (hF _) (jde hC (by decide +kernel : decode cJ5_charAt_5068e 40 = .ok (.i2c, 1))) ?_
  refine jd_top (b := .inl (.int (f (i).toNatClampNeg))) (congrArg (fun z => (Sum.inl (Value.int z) : AV)) ((jc_of8 h0 h1).2.1)) ?_
  exact hE _ 41 0 _ _ (some (.int (f (i).toNatClampNeg))) (by decide +kernel : decode cJ5_charAt_5068e 41 = .ok (.ireturn, 1)) ⟨_, _, rfl, rfl, (jc_of8 h0 h1).2.2.2.2.1⟩ ⟨rfl, rfl⟩ (Nat.le_of_ble_eq_true rfl)
set_option maxRecDepth 100000 in
theorem jm_bat {D : va_G} {cs : Nat → ClassId} {b : Nat} {ad : Rf → Nat} {adV : Nat → Nat} {sc : Nat × (Nat → Int32)} {l : Launch} {h q cap n : Nat} {f : Nat → Int32} {ml : Int32} {R : va_W} {i : Int32} (hn : n ≤ cap) (hc : cap ≤ 100) (hi : inb i n = true) (h0 : 0 ≤ f i.toNatClampNeg) (h1 : f i.toNatClampNeg < 128) : JC (D, cs, b, ad, adV, sc) l yJ4_charAt_5068e cJ4_charAt_5068e 2 (some .char) 3 0 [.ref h, .int i] ((h, .inr (8, [.ref q, .int 0, .int ml, .int (nI n)])) :: (q, .inl (cs 5, cap, .inl f)) :: R : va_W) (pD (some (.int (f i.toNatClampNeg))) ((h, .inr (8, [.ref q, .int 0, .int ml, .int (nI n)])) :: (q, .inl (cs 5, cap, .inl f)) :: R)) := by
  refine jc_of (by decide +kernel) (by simp [Value.category]) (Nat.le_of_ble_eq_true rfl) ?_
  intro x hF hC hO hG hV hK hH hI hE
  show WJ x ((h, .inr (8, [.ref q, .int 0, .int ml, .int (nI n)])) :: (q, .inl (cs 5, cap, .inl f)) :: R : va_W) 0 ([some (.inl (.ref h)), some (.inl (.int i))] : Ls) ([] : List AV) 0
  refine jd_aload_n (i := 0) (hF _) (jde hC (by decide +kernel : decode cJ4_charAt_5068e 0 = .ok (.aload_n 0, 1))) rfl rfl ?_
  refine jd_iload_n (i := 1) (hF _) (jde hC (by decide +kernel : decode cJ4_charAt_5068e 1 = .ok (.iload_n 1, 1))) rfl rfl ?_
  refine jd_callSU (n := 1) (vs := [.int i]) (rest := []) (k := 0) (q := (RJ4, TJ4, 4)) (hF _) (jde hC (by decide +kernel : decode cJ4_charAt_5068e 2 = .ok (.invokespecial 329, 3))) (by rw [hK, hH]; exact jm_aat hn hc hi h0 h1) rfl rfl (by (try rw [xwO]); rw [hO]; exact we_1383) we_2053 (by (try rw [xwO]); rw [hO]; exact we_305) we_1384 we_93 we_1385 ⟨by decide +kernel, by decide +kernel⟩ rfl (Nat.le_of_ble_eq_true rfl) (by (try rw [xwV]); rw [hV]; exact Nat.le_of_ble_eq_true rfl) rfl (Nat.le_of_ble_eq_true rfl) (by (try rw [xwG]); rw [hG]; exact Nat.le_of_ble_eq_true rfl) (fun v w hp => ?_)
  obtain ⟨rfl, rfl⟩ := hp
  show WJ x ((h, .inr (8, [.ref q, .int 0, .int ml, .int (nI n)])) :: (q, .inl (cs 5, cap, .inl f)) :: R : va_W) 5 ([some (.inl (.ref h)), some (.inl (.int i))] : Ls) ([.inl (.int (f i.toNatClampNeg))] : List AV) 0
  exact hE _ 5 0 _ _ (some (.int (f i.toNatClampNeg))) (by decide +kernel : decode cJ4_charAt_5068e 5 = .ok (.ireturn, 1)) ⟨_, _, rfl, rfl, (jc_of8 h0 h1).2.2.2.2.1⟩ ⟨rfl, rfl⟩ (Nat.le_of_ble_eq_true rfl)
set_option maxRecDepth 100000 in
theorem jm_isa {D : va_G} {cs : Nat → ClassId} {b : Nat} {ad : Rf → Nat} {adV : Nat → Nat} {sc : Nat × (Nat → Int32)} {l : Launch} {h q cap n : Nat} {f : Nat → Int32} {ml : Int32} {R : va_W}  : JC (D, cs, b, ad, adV, sc) l yJ5_isLatin1_aae02 cJ5_isLatin1_aae02 1 (some .boolean) 0 0 [.ref h] ((h, .inr (8, [.ref q, .int 0, .int ml, .int (nI n)])) :: (q, .inl (cs 5, cap, .inl f)) :: R : va_W) (pD (some (.int 1)) ((h, .inr (8, [.ref q, .int 0, .int ml, .int (nI n)])) :: (q, .inl (cs 5, cap, .inl f)) :: R)) := by
  refine jc_of (by decide +kernel) (by simp [Value.category]) (Nat.le_of_ble_eq_true rfl) ?_
  intro x hF hC hO hG hV hK hH hI hE
  show WJ x ((h, .inr (8, [.ref q, .int 0, .int ml, .int (nI n)])) :: (q, .inl (cs 5, cap, .inl f)) :: R : va_W) 0 ([some (.inl (.ref h))] : Ls) ([] : List AV) 0
  refine jd_compact (hF _) (jde hC (by decide +kernel : decode cJ5_isLatin1_aae02 0 = .ok (.getstatic 18, 3))) (by (try rw [xwO]); rw [hO]; exact we_283) ?_
  refine sd_if_eq (tgt := 17) (hF _) (jde hC (by decide +kernel : decode cJ5_isLatin1_aae02 3 = .ok (.ifCond .eq 14, 3))) rfl (fun z => absurd z (by decide)) (fun _ => ?_)
  refine jd_aload_n (i := 0) (hF _) (jde hC (by decide +kernel : decode cJ5_isLatin1_aae02 6 = .ok (.aload_n 0, 1))) rfl rfl ?_
  refine jd_get (k := 0) (f := 1) (q := (RJ4, TJ4, 4)) (hF _) (jde hC (by decide +kernel : decode cJ5_isLatin1_aae02 7 = .ok (.getfield 22, 3))) rfl rfl (Nat.le_of_ble_eq_true rfl) (Or.inl (by (try rw [xwO]); rw [hO]; exact we_293)) rfl ?_
  refine sd_if_ne (tgt := 17) (hF _) (jde hC (by decide +kernel : decode cJ5_isLatin1_aae02 10 = .ok (.ifCond .ne 7, 3))) rfl (fun z => absurd (rfl) z) (fun _ => ?_)
  refine sd_iconst (v := 1) (hF _) (jde hC (by decide +kernel : decode cJ5_isLatin1_aae02 13 = .ok (.iconst 1, 1))) ?_
  refine sd_goto (tgt := 18) (hF _) (jde hC (by decide +kernel : decode cJ5_isLatin1_aae02 14 = .ok (.goto 4, 3))) rfl ?_
  exact hE _ 18 0 _ _ (some (.int 1)) (by decide +kernel : decode cJ5_isLatin1_aae02 18 = .ok (.ireturn, 1)) ⟨_, _, rfl, rfl, by decide⟩ ⟨rfl, rfl⟩ (Nat.le_of_ble_eq_true rfl)
set_option maxRecDepth 100000 in
theorem jm_nlen {D : va_G} {cs : Nat → ClassId} {b : Nat} {ad : Rf → Nat} {adV : Nat → Nat} {sc : Nat × (Nat → Int32)} {l : Launch} {a c d : Nat} {ws : va_W} (ha : a ≤ 200) (hc : c ≤ 200) (hd : d ≤ 202) (h0 : 0 < d) : JC (D, cs, b, ad, adV, sc) l yJ8_newLength_cabcc cJ8_newLength_cabcc 4 (some .int) 1 0 [.int (nI a), .int (nI c), .int (nI d)] (ws : va_W) (pD (some (.int (nI (a + (if c < d then d else c))))) ws) := by
  refine jc_of (by decide +kernel) (by simp [Value.category]) (Nat.le_of_ble_eq_true rfl) ?_
  intro x hF hC hO hG hV hK hH hI hE
  show WJ x (ws : va_W) 0 ([some (.inl (.int (nI a))), some (.inl (.int (nI c))), some (.inl (.int (nI d))), none] : Ls) ([] : List AV) 0
  refine jd_iload_n (i := 0) (hF _) (jde hC (by decide +kernel : decode cJ8_newLength_cabcc 0 = .ok (.iload_n 0, 1))) rfl rfl ?_
  refine jd_iload_n (i := 1) (hF _) (jde hC (by decide +kernel : decode cJ8_newLength_cabcc 1 = .ok (.iload_n 1, 1))) rfl rfl ?_
  refine jd_iload_n (i := 2) (hF _) (jde hC (by decide +kernel : decode cJ8_newLength_cabcc 2 = .ok (.iload_n 2, 1))) rfl rfl ?_
  refine jd_mmax (hF _) (jde hC (by decide +kernel : decode cJ8_newLength_cabcc 3 = .ok (.invokestatic 194, 3))) (by (try rw [xwO]); rw [hO]; exact we_817) we_818 we_103 we_819 (by (try rw [xwV]); rw [hV]; exact Nat.le_of_ble_eq_true rfl) (Nat.le_of_ble_eq_true rfl) (by (try rw [xwG]); rw [hG]; exact Nat.le_of_ble_eq_true rfl) ?_
  refine jd_top (b := .inl (.int (nI (if c < d then d else c)))) (congrArg (fun z => (Sum.inl (Value.int z) : AV)) (nI_mx (by omega) (by omega))) ?_
  refine sd_iadd (hF _) (jde hC (by decide +kernel : decode cJ8_newLength_cabcc 6 = .ok (.iadd, 1))) ?_
  refine jd_top (b := .inl (.int (nI (a + (if c < d then d else c))))) (congrArg (fun z => (Sum.inl (Value.int z) : AV)) (nI_add _ _)) ?_
  refine jd_istore_n (i := 3) (hF _) (jde hC (by decide +kernel : decode cJ8_newLength_cabcc 7 = .ok (.istore_n 3, 1))) rfl rfl (Nat.le_of_ble_eq_true rfl) ?_
  refine sd_iconst (v := 0) (hF _) (jde hC (by decide +kernel : decode cJ8_newLength_cabcc 8 = .ok (.iconst 0, 1))) ?_
  refine jd_iload_n (i := 3) (hF _) (jde hC (by decide +kernel : decode cJ8_newLength_cabcc 9 = .ok (.iload_n 3, 1))) rfl rfl ?_
  refine sd_icmp_ge (tgt := 21) (hF _) (jde hC (by decide +kernel : decode cJ8_newLength_cabcc 10 = .ok (.if_icmp .ge 11, 3))) rfl (fun z => absurd z (nI_nle (by split <;> omega) (by split <;> omega))) (fun _ => ?_)
  refine jd_iload_n (i := 3) (hF _) (jde hC (by decide +kernel : decode cJ8_newLength_cabcc 13 = .ok (.iload_n 3, 1))) rfl rfl ?_
  refine jd_ldc (v := 2147483639) (hF _) (jde hC (by decide +kernel : decode cJ8_newLength_cabcc 14 = .ok (.ldc 200, 2))) (by (try rw [xwO]); rw [hO]; exact we_820) ?_
  refine sd_icmp_gt (tgt := 21) (hF _) (jde hC (by decide +kernel : decode cJ8_newLength_cabcc 16 = .ok (.if_icmp .gt 5, 3))) rfl (fun z => absurd z (show ¬ nI 2147483639 < nI _ from nI_nlt (by split <;> omega) (by decide))) (fun _ => ?_)
  refine jd_iload_n (i := 3) (hF _) (jde hC (by decide +kernel : decode cJ8_newLength_cabcc 19 = .ok (.iload_n 3, 1))) rfl rfl ?_
  exact hE _ 20 0 _ _ (some (.int (nI (a + (if c < d then d else c))))) (by decide +kernel : decode cJ8_newLength_cabcc 20 = .ok (.ireturn, 1)) ⟨_, _, rfl, rfl, rfl⟩ ⟨rfl, rfl⟩ (Nat.le_of_ble_eq_true rfl)
set_option maxRecDepth 100000 in
theorem jm_ncap {D : va_G} {cs : Nat → ClassId} {b : Nat} {ad : Rf → Nat} {adV : Nat → Nat} {sc : Nat × (Nat → Int32)} {l : Launch} {h q cap n : Nat} {f : Nat → Int32} {ml : Int32} {R : va_W} {m : Nat} (hm : cap < m) (hm2 : m ≤ 100) : JC (D, cs, b, ad, adV, sc) l yJ5_newCapacity_0f7a4 cJ5_newCapacity_0f7a4 6 (some .int) 2 0 [.ref h, .int (nI m)] ((h, .inr (8, [.ref q, .int 0, .int ml, .int (nI n)])) :: (q, .inl (cs 5, cap, .inl f)) :: R : va_W) (pD (some (.int (nI (cap + (if m - cap < cap + 2 then cap + 2 else m - cap))))) ((h, .inr (8, [.ref q, .int 0, .int ml, .int (nI n)])) :: (q, .inl (cs 5, cap, .inl f)) :: R)) := by
  refine jc_of (by decide +kernel) (by simp [Value.category]) (Nat.le_of_ble_eq_true rfl) ?_
  intro x hF hC hO hG hV hK hH hI hE
  show WJ x ((h, .inr (8, [.ref q, .int 0, .int ml, .int (nI n)])) :: (q, .inl (cs 5, cap, .inl f)) :: R : va_W) 0 ([some (.inl (.ref h)), some (.inl (.int (nI m))), none, none, none, none] : Ls) ([] : List AV) 0
  refine jd_aload_n (i := 0) (hF _) (jde hC (by decide +kernel : decode cJ5_newCapacity_0f7a4 0 = .ok (.aload_n 0, 1))) rfl rfl ?_
  refine jd_get (k := 0) (f := 0) (q := (RJ4, TJ4, 4)) (hF _) (jde hC (by decide +kernel : decode cJ5_newCapacity_0f7a4 1 = .ok (.getfield 15, 3))) rfl rfl (Nat.le_of_ble_eq_true rfl) (Or.inl (by (try rw [xwO]); rw [hO]; exact we_292)) rfl ?_
  refine jd_alen (k := 1) (a := (cap, .inl f)) (hF _) (jde hC (by decide +kernel : decode cJ5_newCapacity_0f7a4 4 = .ok (.arraylength, 1))) (by rw [hK]; rfl) ?_
  refine jd_istore_n (i := 2) (hF _) (jde hC (by decide +kernel : decode cJ5_newCapacity_0f7a4 5 = .ok (.istore_n 2, 1))) rfl rfl (Nat.le_of_ble_eq_true rfl) ?_
  refine jd_iload_n (i := 1) (hF _) (jde hC (by decide +kernel : decode cJ5_newCapacity_0f7a4 6 = .ok (.iload_n 1, 1))) rfl rfl ?_
  refine jd_aload_n (i := 0) (hF _) (jde hC (by decide +kernel : decode cJ5_newCapacity_0f7a4 7 = .ok (.aload_n 0, 1))) rfl rfl ?_
  refine jd_get (k := 0) (f := 1) (q := (RJ4, TJ4, 4)) (hF _) (jde hC (by decide +kernel : decode cJ5_newCapacity_0f7a4 8 = .ok (.getfield 22, 3))) rfl rfl (Nat.le_of_ble_eq_true rfl) (Or.inl (by (try rw [xwO]); rw [hO]; exact we_293)) rfl ?_
  refine jd_ishl (hF _) (jde hC (by decide +kernel : decode cJ5_newCapacity_0f7a4 11 = .ok (.ishl, 1))) ?_
  refine jd_top (b := .inl (.int (nI m))) (congrArg (fun z => (Sum.inl (Value.int z) : AV)) (sb_shl0 _)) ?_
  refine jd_istore_n (i := 3) (hF _) (jde hC (by decide +kernel : decode cJ5_newCapacity_0f7a4 12 = .ok (.istore_n 3, 1))) rfl rfl (Nat.le_of_ble_eq_true rfl) ?_
  refine jd_iload_n (i := 3) (hF _) (jde hC (by decide +kernel : decode cJ5_newCapacity_0f7a4 13 = .ok (.iload_n 3, 1))) rfl rfl ?_
  refine jd_iload_n (i := 2) (hF _) (jde hC (by decide +kernel : decode cJ5_newCapacity_0f7a4 14 = .ok (.iload_n 2, 1))) rfl rfl ?_
  refine sd_isub (hF _) (jde hC (by decide +kernel : decode cJ5_newCapacity_0f7a4 15 = .ok (.isub, 1))) ?_
  refine jd_top (b := .inl (.int (nI (m - cap)))) (congrArg (fun z => (Sum.inl (Value.int z) : AV)) (pk_sub (by omega))) ?_
  refine jd_istore (i := 4) (hF _) (jde hC (by decide +kernel : decode cJ5_newCapacity_0f7a4 16 = .ok (.istore 4, 2))) rfl (Nat.le_of_ble_eq_true rfl) ?_
  refine jd_iload_n (i := 2) (hF _) (jde hC (by decide +kernel : decode cJ5_newCapacity_0f7a4 18 = .ok (.iload_n 2, 1))) rfl rfl ?_
  refine jd_iload (i := 4) (hF _) (jde hC (by decide +kernel : decode cJ5_newCapacity_0f7a4 19 = .ok (.iload 4, 2))) rfl ?_
  refine jd_iload_n (i := 2) (hF _) (jde hC (by decide +kernel : decode cJ5_newCapacity_0f7a4 21 = .ok (.iload_n 2, 1))) rfl rfl ?_
  refine sd_iconst (v := 2) (hF _) (jde hC (by decide +kernel : decode cJ5_newCapacity_0f7a4 22 = .ok (.iconst 2, 1))) ?_
  refine jd_aload_n (i := 0) (hF _) (jde hC (by decide +kernel : decode cJ5_newCapacity_0f7a4 23 = .ok (.aload_n 0, 1))) rfl rfl ?_
  refine jd_get (k := 0) (f := 1) (q := (RJ4, TJ4, 4)) (hF _) (jde hC (by decide +kernel : decode cJ5_newCapacity_0f7a4 24 = .ok (.getfield 22, 3))) rfl rfl (Nat.le_of_ble_eq_true rfl) (Or.inl (by (try rw [xwO]); rw [hO]; exact we_293)) rfl ?_
  refine jd_ishl (hF _) (jde hC (by decide +kernel : decode cJ5_newCapacity_0f7a4 27 = .ok (.ishl, 1))) ?_
  refine sd_iadd (hF _) (jde hC (by decide +kernel : decode cJ5_newCapacity_0f7a4 28 = .ok (.iadd, 1))) ?_
  refine jd_top (b := .inl (.int (nI (cap + 2)))) (congrArg (fun z => (Sum.inl (Value.int z) : AV)) ((by rw [sb_shl0]; exact nI_add cap 2))) ?_
  refine jd_callS (n := 3) (vs := [.int (nI cap), .int (nI (m - cap)), .int (nI (cap + 2))]) (rest := []) (hF _) (jde hC (by decide +kernel : decode cJ5_newCapacity_0f7a4 29 = .ok (.invokestatic 114, 3))) (by rw [hK, hH]; exact jm_nlen (by omega) (by omega) (by omega) (by omega)) (by (try rw [xwO]); rw [hO]; exact we_814) we_815 we_111 we_816 ⟨by decide +kernel, by decide +kernel, by decide +kernel⟩ rfl (Nat.le_of_ble_eq_true rfl) (by (try rw [xwV]); rw [hV]; exact Nat.le_of_ble_eq_true rfl) rfl (Nat.le_of_ble_eq_true rfl) (by (try rw [xwG]); rw [hG]; exact Nat.le_of_ble_eq_true rfl) (fun v w hp => ?_)
  obtain ⟨rfl, rfl⟩ := hp
  show WJ x ((h, .inr (8, [.ref q, .int 0, .int ml, .int (nI n)])) :: (q, .inl (cs 5, cap, .inl f)) :: R : va_W) 32 ([some (.inl (.ref h)), some (.inl (.int (nI m))), some (.inl (.int (nI cap))), some (.inl (.int (nI m))), some (.inl (.int (nI (m - cap)))), none] : Ls) ([.inl (.int (nI (cap + (if m - cap < cap + 2 then cap + 2 else m - cap))))] : List AV) 0
  refine jd_istore (i := 5) (hF _) (jde hC (by decide +kernel : decode cJ5_newCapacity_0f7a4 32 = .ok (.istore 5, 2))) rfl (Nat.le_of_ble_eq_true rfl) ?_
  refine jd_iload (i := 5) (hF _) (jde hC (by decide +kernel : decode cJ5_newCapacity_0f7a4 34 = .ok (.iload 5, 2))) rfl ?_
  refine jd_ldc (v := 2147483647) (hF _) (jde hC (by decide +kernel : decode cJ5_newCapacity_0f7a4 36 = .ok (.ldc 39, 2))) (by (try rw [xwO]); rw [hO]; exact we_824) ?_
  refine sd_icmp_ne (tgt := 51) (hF _) (jde hC (by decide +kernel : decode cJ5_newCapacity_0f7a4 38 = .ok (.if_icmp .ne 13, 3))) rfl (fun _ => ?_) (fun z => absurd z (fun z => absurd ((nI_eq (by split <;> omega) (by decide)).mp (show _ = nI 2147483647 from z)) (by split <;> omega)))
  refine jd_iload (i := 5) (hF _) (jde hC (by decide +kernel : decode cJ5_newCapacity_0f7a4 51 = .ok (.iload 5, 2))) rfl ?_
  refine jd_aload_n (i := 0) (hF _) (jde hC (by decide +kernel : decode cJ5_newCapacity_0f7a4 53 = .ok (.aload_n 0, 1))) rfl rfl ?_
  refine jd_get (k := 0) (f := 1) (q := (RJ4, TJ4, 4)) (hF _) (jde hC (by decide +kernel : decode cJ5_newCapacity_0f7a4 54 = .ok (.getfield 22, 3))) rfl rfl (Nat.le_of_ble_eq_true rfl) (Or.inl (by (try rw [xwO]); rw [hO]; exact we_293)) rfl ?_
  refine jd_ishr (hF _) (jde hC (by decide +kernel : decode cJ5_newCapacity_0f7a4 57 = .ok (.ishr, 1))) ?_
  refine jd_top (b := .inl (.int (nI (cap + (if m - cap < cap + 2 then cap + 2 else m - cap))))) (congrArg (fun z => (Sum.inl (Value.int z) : AV)) (sb_shr0 _)) ?_
  exact hE _ 58 0 _ _ (some (.int (nI (cap + (if m - cap < cap + 2 then cap + 2 else m - cap))))) (by decide +kernel : decode cJ5_newCapacity_0f7a4 58 = .ok (.ireturn, 1)) ⟨_, _, rfl, rfl, rfl⟩ ⟨rfl, rfl⟩ (Nat.le_of_ble_eq_true rfl)
set_option maxRecDepth 100000 in
theorem jm_copy {D : va_G} {cs : Nat → ClassId} {b : Nat} {ad : Rf → Nat} {adV : Nat → Nat} {sc : Nat × (Nat → Int32)} {l : Launch} {h q cap m : Nat} {f : Nat → Int32} {v0 v1 v2 v3 : Value} {R : va_W} (hm : cap < m) (hm2 : m ≤ 100) (hf : sb_Fit f) : JC (D, cs, b, ad, adV, sc) l yJ7_copyOf_9075b cJ7_copyOf_9075b 3 (some (.array .byte)) 1 1 [.ref q, .int (nI m)] ((h, .inr (8, [v0, v1, v2, v3])) :: (q, .inl (cs 5, cap, .inl f)) :: R : va_W) (fun v w => ∃ (q2 : Nat) (f2 : Nat → Int32), some (.ref q2) = v ∧ (h, .inr (8, [v0, v1, v2, v3])) :: (q, .inl (cs 5, cap, .inl f)) :: (R ++ [(q2, .inl (cs 5, m, .inl f2))]) = w ∧ sb_Fit f2 ∧ ∀ j, j < cap → f2 j = f j) := by
  refine jc_of (by decide +kernel) (by simp [Value.category]) (Nat.le_of_ble_eq_true rfl) ?_
  intro x hF hC hO hG hV hK hH hI hE
  show WJ x ((h, .inr (8, [v0, v1, v2, v3])) :: (q, .inl (cs 5, cap, .inl f)) :: R : va_W) 0 ([some (.inl (.ref q)), some (.inl (.int (nI m))), none] : Ls) ([] : List AV) 0
  refine jd_iload_n (i := 1) (hF _) (jde hC (by decide +kernel : decode cJ7_copyOf_9075b 0 = .ok (.iload_n 1, 1))) rfl rfl ?_
  refine jd_aload_n (i := 0) (hF _) (jde hC (by decide +kernel : decode cJ7_copyOf_9075b 1 = .ok (.aload_n 0, 1))) rfl rfl ?_
  refine jd_alen (k := 1) (a := (cap, .inl f)) (hF _) (jde hC (by decide +kernel : decode cJ7_copyOf_9075b 2 = .ok (.arraylength, 1))) (by rw [hK]; rfl) ?_
  refine sd_icmp_ne (tgt := 14) (hF _) (jde hC (by decide +kernel : decode cJ7_copyOf_9075b 3 = .ok (.if_icmp .ne 11, 3))) rfl (fun _ => ?_) (fun z => absurd z (fun z => absurd ((nI_eq (by omega) (by omega)).mp (show nI m = nI cap from z)) (by omega)))
  refine jd_iload_n (i := 1) (hF _) (jde hC (by decide +kernel : decode cJ7_copyOf_9075b 14 = .ok (.iload_n 1, 1))) rfl rfl ?_
  refine jd_newa (t := 5) (ty := .byte) (at_ := .byte) (n := (nI m)) (N := m) (a0 := (m, .inl (fun _ => 0))) (nm := "[B") (d := 1) (hF _) (jde hC (by decide +kernel : decode cJ7_copyOf_9075b 15 = .ok (.newarray .byte, 2))) we_306 rfl (by rw [hK]; rfl) (fun s c h => va_nm_byte h) (fun _ => rfl) (nI_pos (by omega)) (nI_clamp (by omega)) (by show m * 1 ≤ _; omega) (by omega) (by decide) (by (try rw [xwG]); rw [hG]; exact Nat.le_of_ble_eq_true rfl) (fun q1 => ?_)
  refine jd_e (ws' := ((h, .inr (8, [v0, v1, v2, v3])) :: (q, .inl (cs 5, cap, .inl f)) :: (R ++ [(q1, .inl (cs 5, m, .inl (fun _ => 0)))]) : va_W)) (by rw [hK]; rfl) ?_
  show WJ x ((h, .inr (8, [v0, v1, v2, v3])) :: (q, .inl (cs 5, cap, .inl f)) :: (R ++ [(q1, .inl (cs 5, m, .inl (fun _ => 0)))]) : va_W) 17 ([some (.inl (.ref q)), some (.inl (.int (nI m))), none] : Ls) ([.inl (.ref q1)] : List AV) 1
  refine jd_astore_n (i := 2) (hF _) (jde hC (by decide +kernel : decode cJ7_copyOf_9075b 17 = .ok (.astore_n 2, 1))) rfl rfl (Nat.le_of_ble_eq_true rfl) ?_
  refine jd_aload_n (i := 0) (hF _) (jde hC (by decide +kernel : decode cJ7_copyOf_9075b 18 = .ok (.aload_n 0, 1))) rfl rfl ?_
  refine sd_iconst (v := 0) (hF _) (jde hC (by decide +kernel : decode cJ7_copyOf_9075b 19 = .ok (.iconst 0, 1))) ?_
  refine jd_aload_n (i := 2) (hF _) (jde hC (by decide +kernel : decode cJ7_copyOf_9075b 20 = .ok (.aload_n 2, 1))) rfl rfl ?_
  refine sd_iconst (v := 0) (hF _) (jde hC (by decide +kernel : decode cJ7_copyOf_9075b 21 = .ok (.iconst 0, 1))) ?_
  refine jd_aload_n (i := 0) (hF _) (jde hC (by decide +kernel : decode cJ7_copyOf_9075b 22 = .ok (.aload_n 0, 1))) rfl rfl ?_
  refine jd_alen (k := 1) (a := (cap, .inl f)) (hF _) (jde hC (by decide +kernel : decode cJ7_copyOf_9075b 23 = .ok (.arraylength, 1))) (by rw [hK]; rfl) ?_
  refine jd_iload_n (i := 1) (hF _) (jde hC (by decide +kernel : decode cJ7_copyOf_9075b 24 = .ok (.iload_n 1, 1))) rfl rfl ?_
  refine jd_mmin (hF _) (jde hC (by decide +kernel : decode cJ7_copyOf_9075b 25 = .ok (.invokestatic 304, 3))) (by (try rw [xwO]); rw [hO]; exact we_835) we_588 we_103 we_589 (by (try rw [xwV]); rw [hV]; exact Nat.le_of_ble_eq_true rfl) (Nat.le_of_ble_eq_true rfl) (by (try rw [xwG]); rw [hG]; exact Nat.le_of_ble_eq_true rfl) ?_
  refine jd_top (b := .inl (.int (nI cap))) (congrArg (fun z => (Sum.inl (Value.int z) : AV)) (if_neg (nI_nlt (by omega) (by omega)))) ?_
  refine jd_copyB (k0 := 1) (k1 := R.length + 2) (n0 := cap) (n1 := m) (f := f) (g := fun _ => 0) (hF _) (jde hC (by decide +kernel : decode cJ7_copyOf_9075b 28 = .ok (.invokestatic 150, 3))) (by (try rw [xwO]); rw [hO]; exact we_836) we_571 we_570 we_108 (by rw [hK]; rfl) (by rw [hK]; exact Q_at _ _ _ _) (by decide) (by decide) (nI_pos (by omega)) (by rw [nI_clamp (by omega)]; show 0 + cap ≤ cap; omega) (by rw [nI_clamp (by omega)]; show 0 + cap ≤ m; omega) hf (by (try rw [xwV]); rw [hV]; exact Nat.le_of_ble_eq_true rfl) (Nat.le_of_ble_eq_true rfl) ?_
  refine jd_e (ws' := ((h, .inr (8, [v0, v1, v2, v3])) :: (q, .inl (cs 5, cap, .inl f)) :: (R ++ [(q1, .inl (cs 5, m, .inl (va_cpy f (fun _ => 0) 0 0 cap)))]) : va_W)) (by rw [hK, nI_clamp (by omega), Q_set]; rfl) ?_
  show WJ x ((h, .inr (8, [v0, v1, v2, v3])) :: (q, .inl (cs 5, cap, .inl f)) :: (R ++ [(q1, .inl (cs 5, m, .inl (va_cpy f (fun _ => 0) 0 0 cap)))]) : va_W) 31 ([some (.inl (.ref q)), some (.inl (.int (nI m))), some (.inl (.ref q1))] : Ls) ([] : List AV) 1
  refine jd_aload_n (i := 2) (hF _) (jde hC (by decide +kernel : decode cJ7_copyOf_9075b 31 = .ok (.aload_n 2, 1))) rfl rfl ?_
  exact hE _ 32 1 _ _ (some (.ref q1)) (by decide +kernel : decode cJ7_copyOf_9075b 32 = .ok (.areturn, 1)) ⟨Or.inr ⟨_, rfl⟩, Or.inr ⟨_, rfl⟩⟩ ⟨_, _, rfl, rfl, sb_fitC hf sb_fit0, fun j hj => sb_cpy0 hj⟩ (Nat.le_of_ble_eq_true rfl)
def pE (cs : Nat → ClassId) (h cap m : Nat) (ml cnt : Int32) (f : Nat → Int32) (R : va_W) (v0 : Option Value) : Option Value → va_W → Prop := fun v w => v0 = v ∧ ∃ (q2 cap2 : Nat) (f2 : Nat → Int32), ((h, .inr (8, [.ref q2, .int 0, .int ml, .int cnt])) :: (q2, .inl (cs 5, cap2, .inl f2)) :: R : va_W) = w ∧ m ≤ cap2 ∧ cap2 ≤ 100 ∧ sb_Fit f2 ∧ ∀ j, j < cap → f2 j = f j
theorem W_drop {D : va_G} {cl : List vw_C} {H : Heap} (a b c : Nat × va_E) (R : va_W) (h : va_P D cl (a :: b :: (R ++ [c])) H) : va_P D cl (a :: c :: R) H := by
  have h1 : va_P D cl (([a] ++ [c]) ++ (b :: R)) H := va_P.swap (a := [a]) (b := b :: R) (c := [c]) h
  have h2 : va_P D cl ([a, c] ++ R ++ [b]) H := va_P.swap (a := [a, c]) (b := [b]) (c := R) (by simpa using h1)
  exact va_P.pre h2
theorem W_dropD {A : Nat → Prop} (a b c : Nat × va_E) (R : va_W) (h : va_D A (a :: b :: (R ++ [c]))) : va_D A (a :: c :: R) := by
  have h1 : va_D A (([a] ++ [c]) ++ (b :: R)) := va_D.swap (a := [a]) (b := b :: R) (c := [c]) h
  have h2 : va_D A ([a, c] ++ R ++ [b]) := va_D.swap (a := [a, c]) (b := [b]) (c := R) (by simpa using h1)
  exact va_D.pre h2
set_option maxRecDepth 100000 in
theorem jm_ens0 {D : va_G} {cs : Nat → ClassId} {b : Nat} {ad : Rf → Nat} {adV : Nat → Nat} {sc : Nat × (Nat → Int32)} {l : Launch} {h q cap n : Nat} {f : Nat → Int32} {ml : Int32} {R : va_W} {m : Nat} (hf : sb_Fit f) (hc : cap ≤ 100) (hm : m ≤ cap) : JC (D, cs, b, ad, adV, sc) l yJ5_ensureCapacityInternal_d00df cJ5_ensureCapacityInternal_d00df 3 none 3 1 [.ref h, .int (nI m)] ((h, .inr (8, [.ref q, .int 0, .int ml, .int (nI n)])) :: (q, .inl (cs 5, cap, .inl f)) :: R : va_W) (pE cs h cap m ml (nI n) f R none) := by
  refine jc_of (by decide +kernel) (by simp [Value.category]) (Nat.le_of_ble_eq_true rfl) ?_
  intro x hF hC hO hG hV hK hH hI hE
  show WJ x ((h, .inr (8, [.ref q, .int 0, .int ml, .int (nI n)])) :: (q, .inl (cs 5, cap, .inl f)) :: R : va_W) 0 ([some (.inl (.ref h)), some (.inl (.int (nI m))), none] : Ls) ([] : List AV) 0
  refine jd_aload_n (i := 0) (hF _) (jde hC (by decide +kernel : decode cJ5_ensureCapacityInternal_d00df 0 = .ok (.aload_n 0, 1))) rfl rfl ?_
  refine jd_get (k := 0) (f := 0) (q := (RJ4, TJ4, 4)) (hF _) (jde hC (by decide +kernel : decode cJ5_ensureCapacityInternal_d00df 1 = .ok (.getfield 15, 3))) rfl rfl (Nat.le_of_ble_eq_true rfl) (Or.inl (by (try rw [xwO]); rw [hO]; exact we_292)) rfl ?_
  refine jd_alen (k := 1) (a := (cap, .inl f)) (hF _) (jde hC (by decide +kernel : decode cJ5_ensureCapacityInternal_d00df 4 = .ok (.arraylength, 1))) (by rw [hK]; rfl) ?_
  refine jd_aload_n (i := 0) (hF _) (jde hC (by decide +kernel : decode cJ5_ensureCapacityInternal_d00df 5 = .ok (.aload_n 0, 1))) rfl rfl ?_
  refine jd_get (k := 0) (f := 1) (q := (RJ4, TJ4, 4)) (hF _) (jde hC (by decide +kernel : decode cJ5_ensureCapacityInternal_d00df 6 = .ok (.getfield 22, 3))) rfl rfl (Nat.le_of_ble_eq_true rfl) (Or.inl (by (try rw [xwO]); rw [hO]; exact we_293)) rfl ?_
  refine jd_ishr (hF _) (jde hC (by decide +kernel : decode cJ5_ensureCapacityInternal_d00df 9 = .ok (.ishr, 1))) ?_
  refine jd_top (b := .inl (.int (nI cap))) (congrArg (fun z => (Sum.inl (Value.int z) : AV)) (sb_shr0 _)) ?_
  refine jd_istore_n (i := 2) (hF _) (jde hC (by decide +kernel : decode cJ5_ensureCapacityInternal_d00df 10 = .ok (.istore_n 2, 1))) rfl rfl (Nat.le_of_ble_eq_true rfl) ?_
  refine jd_iload_n (i := 1) (hF _) (jde hC (by decide +kernel : decode cJ5_ensureCapacityInternal_d00df 11 = .ok (.iload_n 1, 1))) rfl rfl ?_
  refine jd_iload_n (i := 2) (hF _) (jde hC (by decide +kernel : decode cJ5_ensureCapacityInternal_d00df 12 = .ok (.iload_n 2, 1))) rfl rfl ?_
  refine sd_isub (hF _) (jde hC (by decide +kernel : decode cJ5_ensureCapacityInternal_d00df 13 = .ok (.isub, 1))) ?_
  refine sd_if_le (tgt := 38) (hF _) (jde hC (by decide +kernel : decode cJ5_ensureCapacityInternal_d00df 14 = .ok (.ifCond .le 24, 3))) rfl (fun _ => ?_) (fun z => absurd (by rw [Int32.le_iff_toInt_le, pk_sub_toInt (by omega) (by omega), Int32.toInt_zero]; omega) z)
  exact hE _ 38 0 _ _ (none) (by decide +kernel : decode cJ5_ensureCapacityInternal_d00df 38 = .ok (.return_, 1)) ⟨rfl, rfl⟩ ⟨rfl, _, _, _, rfl, hm, hc, hf, fun _ _ => rfl⟩ (Nat.le_of_ble_eq_true rfl)
set_option maxRecDepth 100000 in
theorem jm_ens00 {D : va_G} {cs : Nat → ClassId} {b : Nat} {ad : Rf → Nat} {adV : Nat → Nat} {sc : Nat × (Nat → Int32)} {l : Launch} {h q cap n : Nat} {f : Nat → Int32} {ml : Int32} {R : va_W} {m : Nat} (hf : sb_Fit f) (hc : cap ≤ 100) (hm : m ≤ cap) : JC (D, cs, b, ad, adV, sc) l yJ5_ensureCapacityInternal_d00df cJ5_ensureCapacityInternal_d00df 3 none 3 0 [.ref h, .int (nI m)] ((h, .inr (8, [.ref q, .int 0, .int ml, .int (nI n)])) :: (q, .inl (cs 5, cap, .inl f)) :: R : va_W) (pE cs h cap m ml (nI n) f R none) := by
  refine jc_of (by decide +kernel) (by simp [Value.category]) (Nat.le_of_ble_eq_true rfl) ?_
  intro x hF hC hO hG hV hK hH hI hE
  show WJ x ((h, .inr (8, [.ref q, .int 0, .int ml, .int (nI n)])) :: (q, .inl (cs 5, cap, .inl f)) :: R : va_W) 0 ([some (.inl (.ref h)), some (.inl (.int (nI m))), none] : Ls) ([] : List AV) 0
  refine jd_aload_n (i := 0) (hF _) (jde hC (by decide +kernel : decode cJ5_ensureCapacityInternal_d00df 0 = .ok (.aload_n 0, 1))) rfl rfl ?_
  refine jd_get (k := 0) (f := 0) (q := (RJ4, TJ4, 4)) (hF _) (jde hC (by decide +kernel : decode cJ5_ensureCapacityInternal_d00df 1 = .ok (.getfield 15, 3))) rfl rfl (Nat.le_of_ble_eq_true rfl) (Or.inl (by (try rw [xwO]); rw [hO]; exact we_292)) rfl ?_
  refine jd_alen (k := 1) (a := (cap, .inl f)) (hF _) (jde hC (by decide +kernel : decode cJ5_ensureCapacityInternal_d00df 4 = .ok (.arraylength, 1))) (by rw [hK]; rfl) ?_
  refine jd_aload_n (i := 0) (hF _) (jde hC (by decide +kernel : decode cJ5_ensureCapacityInternal_d00df 5 = .ok (.aload_n 0, 1))) rfl rfl ?_
  refine jd_get (k := 0) (f := 1) (q := (RJ4, TJ4, 4)) (hF _) (jde hC (by decide +kernel : decode cJ5_ensureCapacityInternal_d00df 6 = .ok (.getfield 22, 3))) rfl rfl (Nat.le_of_ble_eq_true rfl) (Or.inl (by (try rw [xwO]); rw [hO]; exact we_293)) rfl ?_
  refine jd_ishr (hF _) (jde hC (by decide +kernel : decode cJ5_ensureCapacityInternal_d00df 9 = .ok (.ishr, 1))) ?_
  refine jd_top (b := .inl (.int (nI cap))) (congrArg (fun z => (Sum.inl (Value.int z) : AV)) (sb_shr0 _)) ?_
  refine jd_istore_n (i := 2) (hF _) (jde hC (by decide +kernel : decode cJ5_ensureCapacityInternal_d00df 10 = .ok (.istore_n 2, 1))) rfl rfl (Nat.le_of_ble_eq_true rfl) ?_
  refine jd_iload_n (i := 1) (hF _) (jde hC (by decide +kernel : decode cJ5_ensureCapacityInternal_d00df 11 = .ok (.iload_n 1, 1))) rfl rfl ?_
  refine jd_iload_n (i := 2) (hF _) (jde hC (by decide +kernel : decode cJ5_ensureCapacityInternal_d00df 12 = .ok (.iload_n 2, 1))) rfl rfl ?_
  refine sd_isub (hF _) (jde hC (by decide +kernel : decode cJ5_ensureCapacityInternal_d00df 13 = .ok (.isub, 1))) ?_
  refine sd_if_le (tgt := 38) (hF _) (jde hC (by decide +kernel : decode cJ5_ensureCapacityInternal_d00df 14 = .ok (.ifCond .le 24, 3))) rfl (fun _ => ?_) (fun z => absurd (by rw [Int32.le_iff_toInt_le, pk_sub_toInt (by omega) (by omega), Int32.toInt_zero]; omega) z)
  exact hE _ 38 0 _ _ (none) (by decide +kernel : decode cJ5_ensureCapacityInternal_d00df 38 = .ok (.return_, 1)) ⟨rfl, rfl⟩ ⟨rfl, _, _, _, rfl, hm, hc, hf, fun _ _ => rfl⟩ (Nat.le_of_ble_eq_true rfl)
set_option maxRecDepth 100000 in
theorem jm_ens1 {D : va_G} {cs : Nat → ClassId} {b : Nat} {ad : Rf → Nat} {adV : Nat → Nat} {sc : Nat × (Nat → Int32)} {l : Launch} {h q cap n : Nat} {f : Nat → Int32} {ml : Int32} {R : va_W} {m : Nat} (hf : sb_Fit f) (hc : cap ≤ 100) (hm : cap < m) (hm2 : m ≤ 48) : JC (D, cs, b, ad, adV, sc) l yJ5_ensureCapacityInternal_d00df cJ5_ensureCapacityInternal_d00df 3 none 3 1 [.ref h, .int (nI m)] ((h, .inr (8, [.ref q, .int 0, .int ml, .int (nI n)])) :: (q, .inl (cs 5, cap, .inl f)) :: R : va_W) (pE cs h cap m ml (nI n) f R none) := by
  refine jc_of (by decide +kernel) (by simp [Value.category]) (Nat.le_of_ble_eq_true rfl) ?_
  intro x hF hC hO hG hV hK hH hI hE
  show WJ x ((h, .inr (8, [.ref q, .int 0, .int ml, .int (nI n)])) :: (q, .inl (cs 5, cap, .inl f)) :: R : va_W) 0 ([some (.inl (.ref h)), some (.inl (.int (nI m))), none] : Ls) ([] : List AV) 0
  refine jd_aload_n (i := 0) (hF _) (jde hC (by decide +kernel : decode cJ5_ensureCapacityInternal_d00df 0 = .ok (.aload_n 0, 1))) rfl rfl ?_
  refine jd_get (k := 0) (f := 0) (q := (RJ4, TJ4, 4)) (hF _) (jde hC (by decide +kernel : decode cJ5_ensureCapacityInternal_d00df 1 = .ok (.getfield 15, 3))) rfl rfl (Nat.le_of_ble_eq_true rfl) (Or.inl (by (try rw [xwO]); rw [hO]; exact we_292)) rfl ?_
  refine jd_alen (k := 1) (a := (cap, .inl f)) (hF _) (jde hC (by decide +kernel : decode cJ5_ensureCapacityInternal_d00df 4 = .ok (.arraylength, 1))) (by rw [hK]; rfl) ?_
  refine jd_aload_n (i := 0) (hF _) (jde hC (by decide +kernel : decode cJ5_ensureCapacityInternal_d00df 5 = .ok (.aload_n 0, 1))) rfl rfl ?_
  refine jd_get (k := 0) (f := 1) (q := (RJ4, TJ4, 4)) (hF _) (jde hC (by decide +kernel : decode cJ5_ensureCapacityInternal_d00df 6 = .ok (.getfield 22, 3))) rfl rfl (Nat.le_of_ble_eq_true rfl) (Or.inl (by (try rw [xwO]); rw [hO]; exact we_293)) rfl ?_
  refine jd_ishr (hF _) (jde hC (by decide +kernel : decode cJ5_ensureCapacityInternal_d00df 9 = .ok (.ishr, 1))) ?_
  refine jd_top (b := .inl (.int (nI cap))) (congrArg (fun z => (Sum.inl (Value.int z) : AV)) (sb_shr0 _)) ?_
  refine jd_istore_n (i := 2) (hF _) (jde hC (by decide +kernel : decode cJ5_ensureCapacityInternal_d00df 10 = .ok (.istore_n 2, 1))) rfl rfl (Nat.le_of_ble_eq_true rfl) ?_
  refine jd_iload_n (i := 1) (hF _) (jde hC (by decide +kernel : decode cJ5_ensureCapacityInternal_d00df 11 = .ok (.iload_n 1, 1))) rfl rfl ?_
  refine jd_iload_n (i := 2) (hF _) (jde hC (by decide +kernel : decode cJ5_ensureCapacityInternal_d00df 12 = .ok (.iload_n 2, 1))) rfl rfl ?_
  refine sd_isub (hF _) (jde hC (by decide +kernel : decode cJ5_ensureCapacityInternal_d00df 13 = .ok (.isub, 1))) ?_
  refine sd_if_le (tgt := 38) (hF _) (jde hC (by decide +kernel : decode cJ5_ensureCapacityInternal_d00df 14 = .ok (.ifCond .le 24, 3))) rfl (fun z => absurd z (fun z => by rw [Int32.le_iff_toInt_le, pk_sub_toInt (by omega) (by omega), Int32.toInt_zero] at z; omega)) (fun _ => ?_)
  refine jd_aload_n (i := 0) (hF _) (jde hC (by decide +kernel : decode cJ5_ensureCapacityInternal_d00df 17 = .ok (.aload_n 0, 1))) rfl rfl ?_
  refine jd_aload_n (i := 0) (hF _) (jde hC (by decide +kernel : decode cJ5_ensureCapacityInternal_d00df 18 = .ok (.aload_n 0, 1))) rfl rfl ?_
  refine jd_get (k := 0) (f := 0) (q := (RJ4, TJ4, 4)) (hF _) (jde hC (by decide +kernel : decode cJ5_ensureCapacityInternal_d00df 19 = .ok (.getfield 15, 3))) rfl rfl (Nat.le_of_ble_eq_true rfl) (Or.inl (by (try rw [xwO]); rw [hO]; exact we_292)) rfl ?_
  refine jd_aload_n (i := 0) (hF _) (jde hC (by decide +kernel : decode cJ5_ensureCapacityInternal_d00df 22 = .ok (.aload_n 0, 1))) rfl rfl ?_
  refine jd_iload_n (i := 1) (hF _) (jde hC (by decide +kernel : decode cJ5_ensureCapacityInternal_d00df 23 = .ok (.iload_n 1, 1))) rfl rfl ?_
  refine jd_callU (n := 1) (vs := [.int (nI m)]) (rest := [.inl (.ref q), .inl (.ref h)]) (k := 0) (q := (RJ4, TJ4, 4)) (hF _) (jde hC (by decide +kernel : decode cJ5_ensureCapacityInternal_d00df 24 = .ok (.invokevirtual 104, 3))) (by rw [hK, hH]; exact jm_ncap (by omega) (by omega)) rfl rfl (by (try rw [xwO]); rw [hO]; exact we_810) we_2046 we_812 we_x1 we_93 we_813 ⟨by decide +kernel, by decide +kernel, by decide +kernel⟩ rfl (Nat.le_of_ble_eq_true rfl) (by (try rw [xwV]); rw [hV]; exact Nat.le_of_ble_eq_true rfl) rfl (Nat.le_of_ble_eq_true rfl) (by (try rw [xwG]); rw [hG]; exact Nat.le_of_ble_eq_true rfl) (fun v w hp => ?_)
  obtain ⟨rfl, rfl⟩ := hp
  show WJ x ((h, .inr (8, [.ref q, .int 0, .int ml, .int (nI n)])) :: (q, .inl (cs 5, cap, .inl f)) :: R : va_W) 27 ([some (.inl (.ref h)), some (.inl (.int (nI m))), some (.inl (.int (nI cap)))] : Ls) ([.inl (.int (nI (cap + (if m - cap < cap + 2 then cap + 2 else m - cap)))), .inl (.ref q), .inl (.ref h)] : List AV) 0
  refine jd_aload_n (i := 0) (hF _) (jde hC (by decide +kernel : decode cJ5_ensureCapacityInternal_d00df 27 = .ok (.aload_n 0, 1))) rfl rfl ?_
  refine jd_get (k := 0) (f := 1) (q := (RJ4, TJ4, 4)) (hF _) (jde hC (by decide +kernel : decode cJ5_ensureCapacityInternal_d00df 28 = .ok (.getfield 22, 3))) rfl rfl (Nat.le_of_ble_eq_true rfl) (Or.inl (by (try rw [xwO]); rw [hO]; exact we_293)) rfl ?_
  refine jd_ishl (hF _) (jde hC (by decide +kernel : decode cJ5_ensureCapacityInternal_d00df 31 = .ok (.ishl, 1))) ?_
  refine jd_top (b := .inl (.int (nI (cap + (if m - cap < cap + 2 then cap + 2 else m - cap))))) (congrArg (fun z => (Sum.inl (Value.int z) : AV)) (sb_shl0 _)) ?_
  refine jd_callS (n := 2) (vs := [.ref q, .int (nI (cap + (if m - cap < cap + 2 then cap + 2 else m - cap)))]) (rest := [.inl (.ref h)]) (hF _) (jde hC (by decide +kernel : decode cJ5_ensureCapacityInternal_d00df 32 = .ok (.invokestatic 108, 3))) (by rw [hK, hH]; exact jm_copy (by split <;> omega) (by split <;> omega) hf) (by (try rw [xwO]); rw [hO]; exact we_825) we_826 we_112 we_827 ⟨by decide +kernel, by decide +kernel, by decide +kernel⟩ rfl (Nat.le_of_ble_eq_true rfl) (by (try rw [xwV]); rw [hV]; exact Nat.le_of_ble_eq_true rfl) rfl (Nat.le_of_ble_eq_true rfl) (by (try rw [xwG]); rw [hG]; exact Nat.le_of_ble_eq_true rfl) (fun v w hp => ?_)
  obtain ⟨q2, f2, rfl, rfl, hf2, he2⟩ := hp
  show WJ x ((h, .inr (8, [.ref q, .int 0, .int ml, .int (nI n)])) :: (q, .inl (cs 5, cap, .inl f)) :: (R ++ [(q2, .inl (cs 5, (cap + (if m - cap < cap + 2 then cap + 2 else m - cap)), .inl f2))]) : va_W) 35 ([some (.inl (.ref h)), some (.inl (.int (nI m))), some (.inl (.int (nI cap)))] : Ls) ([.inl (.ref q2), .inl (.ref h)] : List AV) 1
  refine jd_put (k := 0) (f := 0) (q := (RJ4, TJ4, 4)) (ty := (.array .byte)) (hF _) (jde hC (by decide +kernel : decode cJ5_ensureCapacityInternal_d00df 35 = .ok (.putfield 15, 3))) rfl rfl (Nat.le_of_ble_eq_true rfl) (by (try rw [xwO]); rw [hO]; exact we_292) rfl (by decide +kernel) rfl rfl (Nat.le_of_ble_eq_true rfl) ?_
  show WJ x ((h, .inr (8, [.ref q2, .int 0, .int ml, .int (nI n)])) :: (q, .inl (cs 5, cap, .inl f)) :: (R ++ [(q2, .inl (cs 5, (cap + (if m - cap < cap + 2 then cap + 2 else m - cap)), .inl f2))]) : va_W) 38 ([some (.inl (.ref h)), some (.inl (.int (nI m))), some (.inl (.int (nI cap)))] : Ls) ([] : List AV) 1
  refine jd_w (fun _ _ => W_drop _ _ _ _) (fun _ => W_dropD _ _ _ _) ?_
  show WJ x ((h, .inr (8, [.ref q2, .int 0, .int ml, .int (nI n)])) :: (q2, .inl (cs 5, (cap + (if m - cap < cap + 2 then cap + 2 else m - cap)), .inl f2)) :: R : va_W) 38 ([some (.inl (.ref h)), some (.inl (.int (nI m))), some (.inl (.int (nI cap)))] : Ls) ([] : List AV) 1
  exact hE _ 38 1 _ _ (none) (by decide +kernel : decode cJ5_ensureCapacityInternal_d00df 38 = .ok (.return_, 1)) ⟨rfl, rfl⟩ ⟨rfl, _, _, _, rfl, by split <;> omega, by split <;> omega, hf2, he2⟩ (Nat.le_of_ble_eq_true rfl)
theorem jm_ens {D : va_G} {cs : Nat → ClassId} {b : Nat} {ad : Rf → Nat} {adV : Nat → Nat} {sc : Nat × (Nat → Int32)} {l : Launch} {h q cap n : Nat} {f : Nat → Int32} {ml : Int32} {R : va_W} {m : Nat} (hf : sb_Fit f) (hc : cap ≤ 100) (hm2 : m ≤ 48) : JC (D, cs, b, ad, adV, sc) l yJ5_ensureCapacityInternal_d00df cJ5_ensureCapacityInternal_d00df 3 none 3 1 [.ref h, .int (nI m)] ((h, .inr (8, [.ref q, .int 0, .int ml, .int (nI n)])) :: (q, .inl (cs 5, cap, .inl f)) :: R) (pE cs h cap m ml (nI n) f R none) := by
  rcases Nat.lt_or_ge cap m with z | z
  · exact jm_ens1 hf hc z hm2
  · exact jm_ens0 hf hc z
def pA (cs : Nat → ClassId) (h n : Nat) (ml : Int32) (f : Nat → Int32) (R : va_W) (v0 : Option Value) (l : List Int32) : Option Value → va_W → Prop := fun v w => v0 = v ∧ ∃ (q2 cap2 : Nat) (f2 : Nat → Int32), ((h, .inr (8, [.ref q2, .int 0, .int ml, .int (nI (n + l.length))])) :: (q2, .inl (cs 5, cap2, .inl f2)) :: R : va_W) = w ∧ n + l.length ≤ cap2 ∧ cap2 ≤ 100 ∧ sb_Fit f2 ∧ (∀ j, j < n → f2 j = f j) ∧ ∀ j, j < l.length → f2 (n + j) = l.getD j 0
theorem pA_v {cs : Nat → ClassId} {h n : Nat} {ml : Int32} {f : Nat → Int32} {R : va_W} {v0 v1 : Option Value} {l : List Int32} {v : Option Value} {w : va_W} (hp : pA cs h n ml f R v0 l v w) : pA cs h n ml f R v1 l v1 w := ⟨rfl, hp.2⟩
set_option maxRecDepth 100000 in
theorem jm_aac {D : va_G} {cs : Nat → ClassId} {b : Nat} {ad : Rf → Nat} {adV : Nat → Nat} {sc : Nat × (Nat → Int32)} {l : Launch} {h q cap n : Nat} {f : Nat → Int32} {ml : Int32} {R : va_W} {c : Int32} (hf : sb_Fit f) (hn : n < 48) (hnc : n ≤ cap) (hc : cap ≤ 100) (h0 : 0 ≤ c) (h1 : c < 128)  : JC (D, cs, b, ad, adV, sc) l yJ5_append_3fe6f cJ5_append_3fe6f 2 (some (.object "java/lang/AbstractStringBuilder")) 4 1 [.ref h, .int c] ((h, .inr (8, [.ref q, .int 0, .int ml, .int (nI n)])) :: (q, .inl (cs 5, cap, .inl f)) :: R : va_W) (pA cs h n ml f R (some (.ref h)) [c]) := by
  refine jc_of (by decide +kernel) (by simp [Value.category]) (Nat.le_of_ble_eq_true rfl) ?_
  intro x hF hC hO hG hV hK hH hI hE
  show WJ x ((h, .inr (8, [.ref q, .int 0, .int ml, .int (nI n)])) :: (q, .inl (cs 5, cap, .inl f)) :: R : va_W) 0 ([some (.inl (.ref h)), some (.inl (.int c))] : Ls) ([] : List AV) 0
  refine jd_aload_n (i := 0) (hF _) (jde hC (by decide +kernel : decode cJ5_append_3fe6f 0 = .ok (.aload_n 0, 1))) rfl rfl ?_
  refine jd_aload_n (i := 0) (hF _) (jde hC (by decide +kernel : decode cJ5_append_3fe6f 1 = .ok (.aload_n 0, 1))) rfl rfl ?_
  refine jd_get (k := 0) (f := 3) (q := (RJ4, TJ4, 4)) (hF _) (jde hC (by decide +kernel : decode cJ5_append_3fe6f 2 = .ok (.getfield 79, 3))) rfl rfl (Nat.le_of_ble_eq_true rfl) (Or.inl (by (try rw [xwO]); rw [hO]; exact we_296)) rfl ?_
  refine sd_iconst (v := 1) (hF _) (jde hC (by decide +kernel : decode cJ5_append_3fe6f 5 = .ok (.iconst 1, 1))) ?_
  refine sd_iadd (hF _) (jde hC (by decide +kernel : decode cJ5_append_3fe6f 6 = .ok (.iadd, 1))) ?_
  refine jd_top (b := .inl (.int (nI (n + 1)))) (congrArg (fun z => (Sum.inl (Value.int z) : AV)) (nI_1 n)) ?_
  refine jd_callU (n := 1) (vs := [.int (nI (n + 1))]) (rest := []) (k := 0) (q := (RJ4, TJ4, 4)) (hF _) (jde hC (by decide +kernel : decode cJ5_append_3fe6f 7 = .ok (.invokevirtual 100, 3))) (by rw [hK, hH]; exact jm_ens hf hc (by omega)) rfl rfl (by (try rw [xwO]); rw [hO]; exact we_806) we_2045 we_808 we_x0 we_93 we_809 ⟨by decide +kernel, by decide +kernel, by decide +kernel⟩ rfl (Nat.le_of_ble_eq_true rfl) (by (try rw [xwV]); rw [hV]; exact Nat.le_of_ble_eq_true rfl) rfl (Nat.le_of_ble_eq_true rfl) (by (try rw [xwG]); rw [hG]; exact Nat.le_of_ble_eq_true rfl) (fun v w hp => ?_)
  obtain ⟨rfl, q2, cap2, f2, rfl, hm2, hc2, hf2, he2⟩ := hp
  show WJ x ((h, .inr (8, [.ref q2, .int 0, .int ml, .int (nI n)])) :: (q2, .inl (cs 5, cap2, .inl f2)) :: R : va_W) 10 ([some (.inl (.ref h)), some (.inl (.int c))] : Ls) ([] : List AV) 1
  refine jd_aload_n (i := 0) (hF _) (jde hC (by decide +kernel : decode cJ5_append_3fe6f 10 = .ok (.aload_n 0, 1))) rfl rfl ?_
  refine jd_callU (n := 0) (vs := []) (rest := []) (k := 0) (q := (RJ4, TJ4, 4)) (hF _) (jde hC (by decide +kernel : decode cJ5_append_3fe6f 11 = .ok (.invokevirtual 83, 3))) (by rw [hK, hH]; exact jm_isa) rfl rfl (by (try rw [xwO]); rw [hO]; exact we_837) we_839 we_838 we_840 we_93 we_841 ⟨by decide +kernel, by decide +kernel, by decide +kernel⟩ rfl (Nat.le_of_ble_eq_true rfl) (by (try rw [xwV]); rw [hV]; exact Nat.le_of_ble_eq_true rfl) rfl (Nat.le_of_ble_eq_true rfl) (by (try rw [xwG]); rw [hG]; exact Nat.le_of_ble_eq_true rfl) (fun v w hp => ?_)
  obtain ⟨rfl, rfl⟩ := hp
  show WJ x ((h, .inr (8, [.ref q2, .int 0, .int ml, .int (nI n)])) :: (q2, .inl (cs 5, cap2, .inl f2)) :: R : va_W) 14 ([some (.inl (.ref h)), some (.inl (.int c))] : Ls) ([.inl (.int 1)] : List AV) 1
  refine sd_if_eq (tgt := 45) (hF _) (jde hC (by decide +kernel : decode cJ5_append_3fe6f 14 = .ok (.ifCond .eq 31, 3))) rfl (fun z => absurd z (by decide)) (fun _ => ?_)
  refine jd_iload_n (i := 1) (hF _) (jde hC (by decide +kernel : decode cJ5_append_3fe6f 17 = .ok (.iload_n 1, 1))) rfl rfl ?_
  refine jd_callS (n := 1) (vs := [.int c]) (rest := []) (hF _) (jde hC (by decide +kernel : decode cJ5_append_3fe6f 18 = .ok (.invokestatic 191, 3))) (by rw [hK, hH]; exact jm_ce (fun z => absurd (Int32.lt_trans z h1) (by decide))) (by (try rw [xwO]); rw [hO]; exact we_1077) we_1078 we_114 we_1079 ⟨by decide +kernel, by decide +kernel, by decide +kernel⟩ rfl (Nat.le_of_ble_eq_true rfl) (by (try rw [xwV]); rw [hV]; exact Nat.le_of_ble_eq_true rfl) rfl (Nat.le_of_ble_eq_true rfl) (by (try rw [xwG]); rw [hG]; exact Nat.le_of_ble_eq_true rfl) (fun v w hp => ?_)
  obtain ⟨rfl, rfl⟩ := hp
  show WJ x ((h, .inr (8, [.ref q2, .int 0, .int ml, .int (nI n)])) :: (q2, .inl (cs 5, cap2, .inl f2)) :: R : va_W) 21 ([some (.inl (.ref h)), some (.inl (.int c))] : Ls) ([.inl (.int 1)] : List AV) 1
  refine sd_if_eq (tgt := 45) (hF _) (jde hC (by decide +kernel : decode cJ5_append_3fe6f 21 = .ok (.ifCond .eq 24, 3))) rfl (fun z => absurd z (by decide)) (fun _ => ?_)
  refine jd_aload_n (i := 0) (hF _) (jde hC (by decide +kernel : decode cJ5_append_3fe6f 24 = .ok (.aload_n 0, 1))) rfl rfl ?_
  refine jd_get (k := 0) (f := 0) (q := (RJ4, TJ4, 4)) (hF _) (jde hC (by decide +kernel : decode cJ5_append_3fe6f 25 = .ok (.getfield 15, 3))) rfl rfl (Nat.le_of_ble_eq_true rfl) (Or.inl (by (try rw [xwO]); rw [hO]; exact we_292)) rfl ?_
  refine jd_aload_n (i := 0) (hF _) (jde hC (by decide +kernel : decode cJ5_append_3fe6f 28 = .ok (.aload_n 0, 1))) rfl rfl ?_
  refine sd_dup (hF _) (jde hC (by decide +kernel : decode cJ5_append_3fe6f 29 = .ok (.dup, 1))) rfl ?_
  refine jd_get (k := 0) (f := 3) (q := (RJ4, TJ4, 4)) (hF _) (jde hC (by decide +kernel : decode cJ5_append_3fe6f 30 = .ok (.getfield 79, 3))) rfl rfl (Nat.le_of_ble_eq_true rfl) (Or.inl (by (try rw [xwO]); rw [hO]; exact we_296)) rfl ?_
  refine jd_dup_x1 (hF _) (jde hC (by decide +kernel : decode cJ5_append_3fe6f 33 = .ok (.dup_x1, 1))) rfl rfl ?_
  refine sd_iconst (v := 1) (hF _) (jde hC (by decide +kernel : decode cJ5_append_3fe6f 34 = .ok (.iconst 1, 1))) ?_
  refine sd_iadd (hF _) (jde hC (by decide +kernel : decode cJ5_append_3fe6f 35 = .ok (.iadd, 1))) ?_
  refine jd_top (b := .inl (.int (nI (n + 1)))) (congrArg (fun z => (Sum.inl (Value.int z) : AV)) (nI_1 n)) ?_
  refine jd_put (k := 0) (f := 3) (q := (RJ4, TJ4, 4)) (ty := .int) (hF _) (jde hC (by decide +kernel : decode cJ5_append_3fe6f 36 = .ok (.putfield 79, 3))) rfl rfl (Nat.le_of_ble_eq_true rfl) (by (try rw [xwO]); rw [hO]; exact we_296) rfl (by decide +kernel) rfl rfl (Nat.le_of_ble_eq_true rfl) ?_
  show WJ x ((h, .inr (8, [.ref q2, .int 0, .int ml, .int (nI (n + 1))])) :: (q2, .inl (cs 5, cap2, .inl f2)) :: R : va_W) 39 ([some (.inl (.ref h)), some (.inl (.int c))] : Ls) ([.inl (.int (nI n)), .inl (.ref q2)] : List AV) 1
  refine jd_iload_n (i := 1) (hF _) (jde hC (by decide +kernel : decode cJ5_append_3fe6f 39 = .ok (.iload_n 1, 1))) rfl rfl ?_
  refine jd_i2b (hF _) (jde hC (by decide +kernel : decode cJ5_append_3fe6f 40 = .ok (.i2b, 1))) ?_
  refine jd_top (b := .inl (.int c)) (congrArg (fun z => (Sum.inl (Value.int z) : AV)) ((jc_of8 h0 h1).2.2.1)) ?_
  refine jd_bast (k := 1) (n := cap2) (f := f2) (hF _) (jde hC (by decide +kernel : decode cJ5_append_3fe6f 41 = .ok (.bastore, 1))) (by rw [hK]; rfl) (in_of (by omega) (by omega)) ?_
  refine jd_e (ws' := ((h, .inr (8, [.ref q2, .int 0, .int ml, .int (nI (n + 1))])) :: (q2, .inl (cs 5, cap2, .inl (upd f2 n (c)))) :: R : va_W)) (by rw [hK, nI_clamp (by omega), (jc_of8 h0 h1).2.2.2.1]; rfl) ?_
  show WJ x ((h, .inr (8, [.ref q2, .int 0, .int ml, .int (nI (n + 1))])) :: (q2, .inl (cs 5, cap2, .inl (upd f2 n (c)))) :: R : va_W) 42 ([some (.inl (.ref h)), some (.inl (.int c))] : Ls) ([] : List AV) 1
  refine sd_goto (tgt := 75) (hF _) (jde hC (by decide +kernel : decode cJ5_append_3fe6f 42 = .ok (.goto 33, 3))) rfl ?_
  refine jd_aload_n (i := 0) (hF _) (jde hC (by decide +kernel : decode cJ5_append_3fe6f 75 = .ok (.aload_n 0, 1))) rfl rfl ?_
  exact hE _ 76 1 _ _ (some (.ref h)) (by decide +kernel : decode cJ5_append_3fe6f 76 = .ok (.areturn, 1)) ⟨Or.inr ⟨_, rfl⟩, Or.inl ⟨_, rfl⟩⟩ ⟨rfl, _, _, _, rfl, hm2, hc2, sb_fitU hf2 (jc_of8 h0 h1).2.2.2.2.2, fun j hj => by rw [pk_un (by omega)]; exact he2 j (by omega), fun j hj => by have hj : j < 1 := hj; obtain rfl : j = 0 := (by omega); exact pk_us⟩ (Nat.le_of_ble_eq_true rfl)
set_option maxRecDepth 100000 in
theorem jm_bac {D : va_G} {cs : Nat → ClassId} {b : Nat} {ad : Rf → Nat} {adV : Nat → Nat} {sc : Nat × (Nat → Int32)} {l : Launch} {h q cap n : Nat} {f : Nat → Int32} {ml : Int32} {R : va_W} {c : Int32} (hf : sb_Fit f) (hn : n < 48) (hnc : n ≤ cap) (hc : cap ≤ 100) (h0 : 0 ≤ c) (h1 : c < 128)  : JC (D, cs, b, ad, adV, sc) l yJ4_append_cf468 cJ4_append_cf468 2 (some (.object "java/lang/StringBuilder")) 5 1 [.ref h, .int c] ((h, .inr (8, [.ref q, .int 0, .int ml, .int (nI n)])) :: (q, .inl (cs 5, cap, .inl f)) :: R : va_W) (pA cs h n ml f R (some (.ref h)) [c]) := by
  refine jc_of (by decide +kernel) (by simp [Value.category]) (Nat.le_of_ble_eq_true rfl) ?_
  intro x hF hC hO hG hV hK hH hI hE
  show WJ x ((h, .inr (8, [.ref q, .int 0, .int ml, .int (nI n)])) :: (q, .inl (cs 5, cap, .inl f)) :: R : va_W) 0 ([some (.inl (.ref h)), some (.inl (.int c))] : Ls) ([] : List AV) 0
  refine jd_aload_n (i := 0) (hF _) (jde hC (by decide +kernel : decode cJ4_append_cf468 0 = .ok (.aload_n 0, 1))) rfl rfl ?_
  refine jd_iload_n (i := 1) (hF _) (jde hC (by decide +kernel : decode cJ4_append_cf468 1 = .ok (.iload_n 1, 1))) rfl rfl ?_
  refine jd_callSU (n := 1) (vs := [.int c]) (rest := []) (k := 0) (q := (RJ4, TJ4, 4)) (hF _) (jde hC (by decide +kernel : decode cJ4_append_cf468 2 = .ok (.invokespecial 50, 3))) (by rw [hK, hH]; exact jm_aac hf hn hnc hc h0 h1) rfl rfl (by (try rw [xwO]); rw [hO]; exact we_1074) we_2052 (by (try rw [xwO]); rw [hO]; exact we_305) we_1075 we_93 we_1076 ⟨by decide +kernel, by decide +kernel⟩ rfl (Nat.le_of_ble_eq_true rfl) (by (try rw [xwV]); rw [hV]; exact Nat.le_of_ble_eq_true rfl) rfl (Nat.le_of_ble_eq_true rfl) (by (try rw [xwG]); rw [hG]; exact Nat.le_of_ble_eq_true rfl) (fun v w hp => ?_)
  obtain ⟨rfl, q2, cap2, f2, rfl, hp2⟩ := hp
  show WJ x ((h, .inr (8, [.ref q2, .int 0, .int ml, .int (nI (n + 1))])) :: (q2, .inl (cs 5, cap2, .inl f2)) :: R : va_W) 5 ([some (.inl (.ref h)), some (.inl (.int c))] : Ls) ([.inl (.ref h)] : List AV) 1
  refine sd_pop (hF _) (jde hC (by decide +kernel : decode cJ4_append_cf468 5 = .ok (.pop, 1))) rfl ?_
  refine jd_aload_n (i := 0) (hF _) (jde hC (by decide +kernel : decode cJ4_append_cf468 6 = .ok (.aload_n 0, 1))) rfl rfl ?_
  exact hE _ 7 1 _ _ (some (.ref h)) (by decide +kernel : decode cJ4_append_cf468 7 = .ok (.areturn, 1)) ⟨Or.inr ⟨_, rfl⟩, Or.inl ⟨_, rfl⟩⟩ ⟨rfl, _, _, _, rfl, hp2⟩ (Nat.le_of_ble_eq_true rfl)
set_option maxRecDepth 100000 in
theorem jm_asl {D : va_G} {cs : Nat → ClassId} {b : Nat} {ad : Rf → Nat} {adV : Nat → Nat} {sc : Nat × (Nat → Int32)} {l : Launch} {h q cap n : Nat} {f : Nat → Int32} {ml : Int32} {R : va_W} (hf : sb_Fit f) (hn : n < 2 ^ 31) (hc : cap ≤ 100)  : JC (D, cs, b, ad, adV, sc) l yJ5_setLength_d00df cJ5_setLength_d00df 2 none 4 0 [.ref h, .int (nI 0)] ((h, .inr (8, [.ref q, .int 0, .int ml, .int (nI n)])) :: (q, .inl (cs 5, cap, .inl f)) :: R : va_W) (fun v w => none = v ∧ ∃ (q2 cap2 : Nat) (f2 : Nat → Int32) (ml2 : Int32), ((h, .inr (8, [.ref q2, .int 0, .int ml2, .int (nI 0)])) :: (q2, .inl (cs 5, cap2, .inl f2)) :: R : va_W) = w ∧ cap2 ≤ 100 ∧ sb_Fit f2) := by
  refine jc_of (by decide +kernel) (by simp [Value.category]) (Nat.le_of_ble_eq_true rfl) ?_
  intro x hF hC hO hG hV hK hH hI hE
  show WJ x ((h, .inr (8, [.ref q, .int 0, .int ml, .int (nI n)])) :: (q, .inl (cs 5, cap, .inl f)) :: R : va_W) 0 ([some (.inl (.ref h)), some (.inl (.int (nI 0)))] : Ls) ([] : List AV) 0
  refine jd_iload_n (i := 1) (hF _) (jde hC (by decide +kernel : decode cJ5_setLength_d00df 0 = .ok (.iload_n 1, 1))) rfl rfl ?_
  refine sd_if_ge (tgt := 13) (hF _) (jde hC (by decide +kernel : decode cJ5_setLength_d00df 1 = .ok (.ifCond .ge 12, 3))) rfl (fun _ => ?_) (fun z => absurd (show (0 : Int32) ≤ nI 0 by decide) z)
  refine jd_aload_n (i := 0) (hF _) (jde hC (by decide +kernel : decode cJ5_setLength_d00df 13 = .ok (.aload_n 0, 1))) rfl rfl ?_
  refine jd_iload_n (i := 1) (hF _) (jde hC (by decide +kernel : decode cJ5_setLength_d00df 14 = .ok (.iload_n 1, 1))) rfl rfl ?_
  refine jd_callU (n := 1) (vs := [.int (nI 0)]) (rest := []) (k := 0) (q := (RJ4, TJ4, 4)) (hF _) (jde hC (by decide +kernel : decode cJ5_setLength_d00df 15 = .ok (.invokevirtual 100, 3))) (by rw [hK, hH]; exact jm_ens00 hf hc (by omega)) rfl rfl (by (try rw [xwO]); rw [hO]; exact we_806) we_2045 we_808 we_x0 we_93 we_809 ⟨by decide +kernel, by decide +kernel, by decide +kernel⟩ rfl (Nat.le_of_ble_eq_true rfl) (by (try rw [xwV]); rw [hV]; exact Nat.le_of_ble_eq_true rfl) rfl (Nat.le_of_ble_eq_true rfl) (by (try rw [xwG]); rw [hG]; exact Nat.le_of_ble_eq_true rfl) (fun v w hp => ?_)
  obtain ⟨rfl, q2, cap2, f2, rfl, hm2, hc2, hf2, he2⟩ := hp
  show WJ x ((h, .inr (8, [.ref q2, .int 0, .int ml, .int (nI n)])) :: (q2, .inl (cs 5, cap2, .inl f2)) :: R : va_W) 18 ([some (.inl (.ref h)), some (.inl (.int (nI 0)))] : Ls) ([] : List AV) 0
  refine jd_aload_n (i := 0) (hF _) (jde hC (by decide +kernel : decode cJ5_setLength_d00df 18 = .ok (.aload_n 0, 1))) rfl rfl ?_
  refine jd_get (k := 0) (f := 3) (q := (RJ4, TJ4, 4)) (hF _) (jde hC (by decide +kernel : decode cJ5_setLength_d00df 19 = .ok (.getfield 79, 3))) rfl rfl (Nat.le_of_ble_eq_true rfl) (Or.inl (by (try rw [xwO]); rw [hO]; exact we_296)) rfl ?_
  refine jd_iload_n (i := 1) (hF _) (jde hC (by decide +kernel : decode cJ5_setLength_d00df 22 = .ok (.iload_n 1, 1))) rfl rfl ?_
  refine sd_icmp_ge (tgt := 63) (hF _) (jde hC (by decide +kernel : decode cJ5_setLength_d00df 23 = .ok (.if_icmp .ge 40, 3))) rfl (fun _ => ?_) (fun z => absurd (nI_pos' hn) z)
  refine jd_aload_n (i := 0) (hF _) (jde hC (by decide +kernel : decode cJ5_setLength_d00df 63 = .ok (.aload_n 0, 1))) rfl rfl ?_
  refine jd_get (k := 0) (f := 3) (q := (RJ4, TJ4, 4)) (hF _) (jde hC (by decide +kernel : decode cJ5_setLength_d00df 64 = .ok (.getfield 79, 3))) rfl rfl (Nat.le_of_ble_eq_true rfl) (Or.inl (by (try rw [xwO]); rw [hO]; exact we_296)) rfl ?_
  refine jd_iload_n (i := 1) (hF _) (jde hC (by decide +kernel : decode cJ5_setLength_d00df 67 = .ok (.iload_n 1, 1))) rfl rfl ?_
  rcases Nat.eq_zero_or_pos n with hz | hz
  · refine sd_icmp_le (tgt := 76) (hF _) (jde hC (by decide +kernel : decode cJ5_setLength_d00df 68 = .ok (.if_icmp .le 8, 3))) rfl (fun _ => ?_) (fun z => absurd (by rw [hz]; decide) z)
    refine jd_aload_n (i := 0) (hF _) (jde hC (by decide +kernel : decode cJ5_setLength_d00df 76 = .ok (.aload_n 0, 1))) rfl rfl ?_
    refine jd_iload_n (i := 1) (hF _) (jde hC (by decide +kernel : decode cJ5_setLength_d00df 77 = .ok (.iload_n 1, 1))) rfl rfl ?_
    refine jd_put (k := 0) (f := 3) (q := (RJ4, TJ4, 4)) (ty := .int) (hF _) (jde hC (by decide +kernel : decode cJ5_setLength_d00df 78 = .ok (.putfield 79, 3))) rfl rfl (Nat.le_of_ble_eq_true rfl) (by (try rw [xwO]); rw [hO]; exact we_296) rfl (by decide +kernel) rfl rfl (Nat.le_of_ble_eq_true rfl) ?_
    show WJ x ((h, .inr (8, [.ref q2, .int 0, .int ml, .int (nI 0)])) :: (q2, .inl (cs 5, cap2, .inl f2)) :: R : va_W) 81 ([some (.inl (.ref h)), some (.inl (.int (nI 0)))] : Ls) ([] : List AV) 0
    exact hE _ 81 0 _ _ (none) (by decide +kernel : decode cJ5_setLength_d00df 81 = .ok (.return_, 1)) ⟨rfl, rfl⟩ ⟨rfl, _, _, _, _, rfl, hc2, hf2⟩ (Nat.le_of_ble_eq_true rfl)
  · refine sd_icmp_le (tgt := 76) (hF _) (jde hC (by decide +kernel : decode cJ5_setLength_d00df 68 = .ok (.if_icmp .le 8, 3))) rfl (fun z => absurd z (fun z => nI_nle hz hn z)) (fun _ => ?_)
    refine jd_aload_n (i := 0) (hF _) (jde hC (by decide +kernel : decode cJ5_setLength_d00df 71 = .ok (.aload_n 0, 1))) rfl rfl ?_
    refine sd_iconst (v := 1) (hF _) (jde hC (by decide +kernel : decode cJ5_setLength_d00df 72 = .ok (.iconst 1, 1))) ?_
    refine jd_put (k := 0) (f := 2) (q := (RJ4, TJ4, 4)) (ty := .boolean) (hF _) (jde hC (by decide +kernel : decode cJ5_setLength_d00df 73 = .ok (.putfield 73, 3))) rfl rfl (Nat.le_of_ble_eq_true rfl) (by (try rw [xwO]); rw [hO]; exact we_294) rfl (by decide +kernel) rfl rfl (Nat.le_of_ble_eq_true rfl) ?_
    show WJ x ((h, .inr (8, [.ref q2, .int 0, .int 1, .int (nI n)])) :: (q2, .inl (cs 5, cap2, .inl f2)) :: R : va_W) 76 ([some (.inl (.ref h)), some (.inl (.int (nI 0)))] : Ls) ([] : List AV) 0
    refine jd_aload_n (i := 0) (hF _) (jde hC (by decide +kernel : decode cJ5_setLength_d00df 76 = .ok (.aload_n 0, 1))) rfl rfl ?_
    refine jd_iload_n (i := 1) (hF _) (jde hC (by decide +kernel : decode cJ5_setLength_d00df 77 = .ok (.iload_n 1, 1))) rfl rfl ?_
    refine jd_put (k := 0) (f := 3) (q := (RJ4, TJ4, 4)) (ty := .int) (hF _) (jde hC (by decide +kernel : decode cJ5_setLength_d00df 78 = .ok (.putfield 79, 3))) rfl rfl (Nat.le_of_ble_eq_true rfl) (by (try rw [xwO]); rw [hO]; exact we_296) rfl (by decide +kernel) rfl rfl (Nat.le_of_ble_eq_true rfl) ?_
    show WJ x ((h, .inr (8, [.ref q2, .int 0, .int 1, .int (nI 0)])) :: (q2, .inl (cs 5, cap2, .inl f2)) :: R : va_W) 81 ([some (.inl (.ref h)), some (.inl (.int (nI 0)))] : Ls) ([] : List AV) 0
    exact hE _ 81 0 _ _ (none) (by decide +kernel : decode cJ5_setLength_d00df 81 = .ok (.return_, 1)) ⟨rfl, rfl⟩ ⟨rfl, _, _, _, _, rfl, hc2, hf2⟩ (Nat.le_of_ble_eq_true rfl)
set_option maxRecDepth 100000 in
theorem jm_bsl {D : va_G} {cs : Nat → ClassId} {b : Nat} {ad : Rf → Nat} {adV : Nat → Nat} {sc : Nat × (Nat → Int32)} {l : Launch} {h q cap n : Nat} {f : Nat → Int32} {ml : Int32} {R : va_W} (hf : sb_Fit f) (hn : n < 2 ^ 31) (hc : cap ≤ 100)  : JC (D, cs, b, ad, adV, sc) l yJ4_setLength_d00df cJ4_setLength_d00df 2 none 5 0 [.ref h, .int (nI 0)] ((h, .inr (8, [.ref q, .int 0, .int ml, .int (nI n)])) :: (q, .inl (cs 5, cap, .inl f)) :: R : va_W) (fun v w => none = v ∧ ∃ (q2 cap2 : Nat) (f2 : Nat → Int32) (ml2 : Int32), ((h, .inr (8, [.ref q2, .int 0, .int ml2, .int (nI 0)])) :: (q2, .inl (cs 5, cap2, .inl f2)) :: R : va_W) = w ∧ cap2 ≤ 100 ∧ sb_Fit f2) := by
  refine jc_of (by decide +kernel) (by simp [Value.category]) (Nat.le_of_ble_eq_true rfl) ?_
  intro x hF hC hO hG hV hK hH hI hE
  show WJ x ((h, .inr (8, [.ref q, .int 0, .int ml, .int (nI n)])) :: (q, .inl (cs 5, cap, .inl f)) :: R : va_W) 0 ([some (.inl (.ref h)), some (.inl (.int (nI 0)))] : Ls) ([] : List AV) 0
  refine jd_aload_n (i := 0) (hF _) (jde hC (by decide +kernel : decode cJ4_setLength_d00df 0 = .ok (.aload_n 0, 1))) rfl rfl ?_
  refine jd_iload_n (i := 1) (hF _) (jde hC (by decide +kernel : decode cJ4_setLength_d00df 1 = .ok (.iload_n 1, 1))) rfl rfl ?_
  refine jd_callSU (n := 1) (vs := [.int (nI 0)]) (rest := []) (k := 0) (q := (RJ4, TJ4, 4)) (hF _) (jde hC (by decide +kernel : decode cJ4_setLength_d00df 2 = .ok (.invokespecial 333, 3))) (by rw [hK, hH]; exact jm_asl hf hn hc) rfl rfl (by (try rw [xwO]); rw [hO]; exact we_784) we_2042 (by (try rw [xwO]); rw [hO]; exact we_305) we_785 we_93 we_786 ⟨by decide +kernel, by decide +kernel⟩ rfl (Nat.le_of_ble_eq_true rfl) (by (try rw [xwV]); rw [hV]; exact Nat.le_of_ble_eq_true rfl) rfl (Nat.le_of_ble_eq_true rfl) (by (try rw [xwG]); rw [hG]; exact Nat.le_of_ble_eq_true rfl) (fun v w hp => ?_)
  obtain ⟨rfl, q2, cap2, f2, ml2, rfl, hp2⟩ := hp
  show WJ x ((h, .inr (8, [.ref q2, .int 0, .int ml2, .int (nI 0)])) :: (q2, .inl (cs 5, cap2, .inl f2)) :: R : va_W) 5 ([some (.inl (.ref h)), some (.inl (.int (nI 0)))] : Ls) ([] : List AV) 0
  exact hE _ 5 0 _ _ (none) (by decide +kernel : decode cJ4_setLength_d00df 5 = .ok (.return_, 1)) ⟨rfl, rfl⟩ ⟨rfl, _, _, _, _, rfl, hp2⟩ (Nat.le_of_ble_eq_true rfl)
/-- a number's letters -/
def dg0 (n : Nat) : List Int32 := if n < 10 then [Int32.ofNat (48 + n)] else if n < 100 then [Int32.ofNat (48 + n / 10), Int32.ofNat (48 + n % 10)] else [Int32.ofNat (48 + n / 100), Int32.ofNat (48 + n / 10 % 10), Int32.ofNat (48 + n % 10)]
def dg_ (v : Int32) : List Int32 := if v < 0 then 45 :: dg0 v.toInt.natAbs else dg0 v.toInt.natAbs
theorem ng_lt {w : Nat} (h : 0 < w) (hw : w < 2 ^ 31) : -nI w < 0 := by
  rw [Int32.lt_iff_toInt_lt, sb_negT hw, Int32.toInt_zero]; omega
theorem dg_p {w : Nat} (hw : w < 1000) : dg_ (nI w) = dg0 w := by
  unfold dg_
  rw [if_neg (nI_pos (by omega)), nI_toInt (by omega)]; rfl
theorem dg_n {w : Nat} (h : 0 < w) (hw : w < 1000) : dg_ (-nI w) = 45 :: dg0 w := by
  unfold dg_
  rw [if_pos (ng_lt h (by omega)), sb_negT (by omega), Int.natAbs_neg]; rfl
theorem dg_1 {w : Nat} (h : w < 10) : dg0 w = [nI (48 + w)] := by unfold dg0; rw [if_pos h]; rfl
theorem dg_2 {w : Nat} (h0 : 10 ≤ w) (h : w < 100) : dg0 w = [nI (48 + w / 10), nI (48 + w % 10)] := by unfold dg0; rw [if_neg (by omega), if_pos h]; rfl
theorem dg_3 {w : Nat} (h0 : 100 ≤ w) : dg0 w = [nI (48 + w / 100), nI (48 + w / 10 % 10), nI (48 + w % 10)] := by unfold dg0; rw [if_neg (by omega), if_neg (by omega)]; rfl
theorem dec1 (p : Nat) : nI (p + 1) + Int32.ofInt (-1) = nI p := by
  rw [show Int32.ofInt (-1) = -1 from by decide, sb_m1 (Nat.succ_pos p)]; rfl
theorem ng_ng {u : Nat} : -(-nI u) = nI u := Int32.neg_neg
theorem vb_d {d : Nat} (h : d < 128) : vp_nar .byte (nI d) = nI d := (jc_let d h).2.2.2.1
theorem fb_d {d : Nat} (h : d < 128) : fits .byte (.int (nI d)) = true := (jc_let d h).2.2.2.2.2
set_option maxRecDepth 100000 in
theorem jm_ss_01 {D : va_G} {cs : Nat → ClassId} {b : Nat} {ad : Rf → Nat} {adV : Nat → Nat} {sc : Nat × (Nat → Int32)} {l : Launch} {w : Nat} {ws : va_W} (hw : w < 1000) (hd : w < 10) : JC (D, cs, b, ad, adV, sc) l yJ6_stringSize_0f7a4 cJ6_stringSize_0f7a4 4 (some .int) 0 0 [.int (nI w)] (ws : va_W) (pD (some (.int (nI 1))) ws) := by
  refine jc_of (by decide +kernel) (by simp [Value.category]) (Nat.le_of_ble_eq_true rfl) ?_
  intro x hF hC hO hG hV hK hH hI hE
  show WJ x (ws : va_W) 0 ([some (.inl (.int (nI w))), none, none, none] : Ls) ([] : List AV) 0
  refine sd_iconst (v := 1) (hF _) (jde hC (by decide +kernel : decode cJ6_stringSize_0f7a4 0 = .ok (.iconst 1, 1))) ?_
  refine jd_istore_n (i := 1) (hF _) (jde hC (by decide +kernel : decode cJ6_stringSize_0f7a4 1 = .ok (.istore_n 1, 1))) rfl rfl (Nat.le_of_ble_eq_true rfl) ?_
  refine jd_iload_n (i := 0) (hF _) (jde hC (by decide +kernel : decode cJ6_stringSize_0f7a4 2 = .ok (.iload_n 0, 1))) rfl rfl ?_
  refine sd_if_lt (tgt := 11) (hF _) (jde hC (by decide +kernel : decode cJ6_stringSize_0f7a4 3 = .ok (.ifCond .lt 8, 3))) rfl (fun z => absurd z (nI_pos (by omega))) (fun _ => ?_)
  refine sd_iconst (v := 0) (hF _) (jde hC (by decide +kernel : decode cJ6_stringSize_0f7a4 6 = .ok (.iconst 0, 1))) ?_
  refine jd_istore_n (i := 1) (hF _) (jde hC (by decide +kernel : decode cJ6_stringSize_0f7a4 7 = .ok (.istore_n 1, 1))) rfl rfl (Nat.le_of_ble_eq_true rfl) ?_
  refine jd_iload_n (i := 0) (hF _) (jde hC (by decide +kernel : decode cJ6_stringSize_0f7a4 8 = .ok (.iload_n 0, 1))) rfl rfl ?_
  refine sd_ineg (hF _) (jde hC (by decide +kernel : decode cJ6_stringSize_0f7a4 9 = .ok (.ineg, 1))) ?_
  refine jd_istore_n (i := 0) (hF _) (jde hC (by decide +kernel : decode cJ6_stringSize_0f7a4 10 = .ok (.istore_n 0, 1))) rfl rfl (Nat.le_of_ble_eq_true rfl) ?_
  refine sd_bipush (v := -10) (hF _) (jde hC (by decide +kernel : decode cJ6_stringSize_0f7a4 11 = .ok (.bipush (-10), 2))) ?_
  show WJ x (ws : va_W) 13 ([some (.inl (.int (-(nI w)))), some (.inl (.int 0)), none, none] : Ls) ([.inl (.int (-10))] : List AV) 0
  refine jd_istore_n (i := 2) (hF _) (jde hC (by decide +kernel : decode cJ6_stringSize_0f7a4 13 = .ok (.istore_n 2, 1))) rfl rfl (Nat.le_of_ble_eq_true rfl) ?_
  refine sd_iconst (v := 1) (hF _) (jde hC (by decide +kernel : decode cJ6_stringSize_0f7a4 14 = .ok (.iconst 1, 1))) ?_
  refine jd_istore_n (i := 3) (hF _) (jde hC (by decide +kernel : decode cJ6_stringSize_0f7a4 15 = .ok (.istore_n 3, 1))) rfl rfl (Nat.le_of_ble_eq_true rfl) ?_
  refine jd_iload_n (i := 3) (hF _) (jde hC (by decide +kernel : decode cJ6_stringSize_0f7a4 16 = .ok (.iload_n 3, 1))) rfl rfl ?_
  refine sd_bipush (v := 10) (hF _) (jde hC (by decide +kernel : decode cJ6_stringSize_0f7a4 17 = .ok (.bipush 10, 2))) ?_
  show WJ x (ws : va_W) 19 ([some (.inl (.int (-(nI w)))), some (.inl (.int 0)), some (.inl (.int (-10))), some (.inl (.int 1))] : Ls) ([.inl (.int 10), .inl (.int 1)] : List AV) 0
  refine sd_icmp_ge (tgt := 42) (hF _) (jde hC (by decide +kernel : decode cJ6_stringSize_0f7a4 19 = .ok (.if_icmp .ge 23, 3))) rfl (fun z => absurd z (by decide)) (fun _ => ?_)
  refine jd_iload_n (i := 0) (hF _) (jde hC (by decide +kernel : decode cJ6_stringSize_0f7a4 22 = .ok (.iload_n 0, 1))) rfl rfl ?_
  refine jd_iload_n (i := 2) (hF _) (jde hC (by decide +kernel : decode cJ6_stringSize_0f7a4 23 = .ok (.iload_n 2, 1))) rfl rfl ?_
  refine sd_icmp_le (tgt := 31) (hF _) (jde hC (by decide +kernel : decode cJ6_stringSize_0f7a4 24 = .ok (.if_icmp .le 7, 3))) rfl (fun z => absurd z (by rw [show ((-10) : Int32) = -nI 10 from (by decide : ((-10) : Int32) = -nI 10)]; exact fun z => absurd ((sb_nle (by omega) (by omega)).mp z) (by omega))) (fun _ => ?_)
  refine jd_iload_n (i := 3) (hF _) (jde hC (by decide +kernel : decode cJ6_stringSize_0f7a4 27 = .ok (.iload_n 3, 1))) rfl rfl ?_
  refine jd_iload_n (i := 1) (hF _) (jde hC (by decide +kernel : decode cJ6_stringSize_0f7a4 28 = .ok (.iload_n 1, 1))) rfl rfl ?_
  refine sd_iadd (hF _) (jde hC (by decide +kernel : decode cJ6_stringSize_0f7a4 29 = .ok (.iadd, 1))) ?_
  refine jd_top (b := .inl (.int (nI 1))) (congrArg (fun z => (Sum.inl (Value.int z) : AV)) (by decide)) ?_
  exact hE _ 30 0 _ _ (some (.int (nI 1))) (by decide +kernel : decode cJ6_stringSize_0f7a4 30 = .ok (.ireturn, 1)) ⟨_, _, rfl, rfl, rfl⟩ ⟨rfl, rfl⟩ (Nat.le_of_ble_eq_true rfl)
set_option maxRecDepth 100000 in
theorem jm_ss_02 {D : va_G} {cs : Nat → ClassId} {b : Nat} {ad : Rf → Nat} {adV : Nat → Nat} {sc : Nat × (Nat → Int32)} {l : Launch} {w : Nat} {ws : va_W} (hw : w < 1000) (h0 : 10 ≤ w) (hd : w < 100) : JC (D, cs, b, ad, adV, sc) l yJ6_stringSize_0f7a4 cJ6_stringSize_0f7a4 4 (some .int) 0 0 [.int (nI w)] (ws : va_W) (pD (some (.int (nI 2))) ws) := by
  refine jc_of (by decide +kernel) (by simp [Value.category]) (Nat.le_of_ble_eq_true rfl) ?_
  intro x hF hC hO hG hV hK hH hI hE
  show WJ x (ws : va_W) 0 ([some (.inl (.int (nI w))), none, none, none] : Ls) ([] : List AV) 0
  refine sd_iconst (v := 1) (hF _) (jde hC (by decide +kernel : decode cJ6_stringSize_0f7a4 0 = .ok (.iconst 1, 1))) ?_
  refine jd_istore_n (i := 1) (hF _) (jde hC (by decide +kernel : decode cJ6_stringSize_0f7a4 1 = .ok (.istore_n 1, 1))) rfl rfl (Nat.le_of_ble_eq_true rfl) ?_
  refine jd_iload_n (i := 0) (hF _) (jde hC (by decide +kernel : decode cJ6_stringSize_0f7a4 2 = .ok (.iload_n 0, 1))) rfl rfl ?_
  refine sd_if_lt (tgt := 11) (hF _) (jde hC (by decide +kernel : decode cJ6_stringSize_0f7a4 3 = .ok (.ifCond .lt 8, 3))) rfl (fun z => absurd z (nI_pos (by omega))) (fun _ => ?_)
  refine sd_iconst (v := 0) (hF _) (jde hC (by decide +kernel : decode cJ6_stringSize_0f7a4 6 = .ok (.iconst 0, 1))) ?_
  refine jd_istore_n (i := 1) (hF _) (jde hC (by decide +kernel : decode cJ6_stringSize_0f7a4 7 = .ok (.istore_n 1, 1))) rfl rfl (Nat.le_of_ble_eq_true rfl) ?_
  refine jd_iload_n (i := 0) (hF _) (jde hC (by decide +kernel : decode cJ6_stringSize_0f7a4 8 = .ok (.iload_n 0, 1))) rfl rfl ?_
  refine sd_ineg (hF _) (jde hC (by decide +kernel : decode cJ6_stringSize_0f7a4 9 = .ok (.ineg, 1))) ?_
  refine jd_istore_n (i := 0) (hF _) (jde hC (by decide +kernel : decode cJ6_stringSize_0f7a4 10 = .ok (.istore_n 0, 1))) rfl rfl (Nat.le_of_ble_eq_true rfl) ?_
  refine sd_bipush (v := -10) (hF _) (jde hC (by decide +kernel : decode cJ6_stringSize_0f7a4 11 = .ok (.bipush (-10), 2))) ?_
  show WJ x (ws : va_W) 13 ([some (.inl (.int (-(nI w)))), some (.inl (.int 0)), none, none] : Ls) ([.inl (.int (-10))] : List AV) 0
  refine jd_istore_n (i := 2) (hF _) (jde hC (by decide +kernel : decode cJ6_stringSize_0f7a4 13 = .ok (.istore_n 2, 1))) rfl rfl (Nat.le_of_ble_eq_true rfl) ?_
  refine sd_iconst (v := 1) (hF _) (jde hC (by decide +kernel : decode cJ6_stringSize_0f7a4 14 = .ok (.iconst 1, 1))) ?_
  refine jd_istore_n (i := 3) (hF _) (jde hC (by decide +kernel : decode cJ6_stringSize_0f7a4 15 = .ok (.istore_n 3, 1))) rfl rfl (Nat.le_of_ble_eq_true rfl) ?_
  refine jd_iload_n (i := 3) (hF _) (jde hC (by decide +kernel : decode cJ6_stringSize_0f7a4 16 = .ok (.iload_n 3, 1))) rfl rfl ?_
  refine sd_bipush (v := 10) (hF _) (jde hC (by decide +kernel : decode cJ6_stringSize_0f7a4 17 = .ok (.bipush 10, 2))) ?_
  show WJ x (ws : va_W) 19 ([some (.inl (.int (-(nI w)))), some (.inl (.int 0)), some (.inl (.int (-10))), some (.inl (.int 1))] : Ls) ([.inl (.int 10), .inl (.int 1)] : List AV) 0
  refine sd_icmp_ge (tgt := 42) (hF _) (jde hC (by decide +kernel : decode cJ6_stringSize_0f7a4 19 = .ok (.if_icmp .ge 23, 3))) rfl (fun z => absurd z (by decide)) (fun _ => ?_)
  refine jd_iload_n (i := 0) (hF _) (jde hC (by decide +kernel : decode cJ6_stringSize_0f7a4 22 = .ok (.iload_n 0, 1))) rfl rfl ?_
  refine jd_iload_n (i := 2) (hF _) (jde hC (by decide +kernel : decode cJ6_stringSize_0f7a4 23 = .ok (.iload_n 2, 1))) rfl rfl ?_
  refine sd_icmp_le (tgt := 31) (hF _) (jde hC (by decide +kernel : decode cJ6_stringSize_0f7a4 24 = .ok (.if_icmp .le 7, 3))) rfl (fun _ => ?_) (fun z => absurd (by rw [show ((-10) : Int32) = -nI 10 from (by decide : ((-10) : Int32) = -nI 10)]; exact (sb_nle (by omega) (by omega)).mpr (by omega)) z)
  refine sd_bipush (v := 10) (hF _) (jde hC (by decide +kernel : decode cJ6_stringSize_0f7a4 31 = .ok (.bipush 10, 2))) ?_
  show WJ x (ws : va_W) 33 ([some (.inl (.int (-(nI w)))), some (.inl (.int 0)), some (.inl (.int (-10))), some (.inl (.int 1))] : Ls) ([.inl (.int 10)] : List AV) 0
  refine jd_iload_n (i := 2) (hF _) (jde hC (by decide +kernel : decode cJ6_stringSize_0f7a4 33 = .ok (.iload_n 2, 1))) rfl rfl ?_
  refine sd_imul (hF _) (jde hC (by decide +kernel : decode cJ6_stringSize_0f7a4 34 = .ok (.imul, 1))) ?_
  refine jd_istore_n (i := 2) (hF _) (jde hC (by decide +kernel : decode cJ6_stringSize_0f7a4 35 = .ok (.istore_n 2, 1))) rfl rfl (Nat.le_of_ble_eq_true rfl) ?_
  refine sd_iinc (i := 3) (a := 1) (hF _) (jde hC (by decide +kernel : decode cJ6_stringSize_0f7a4 36 = .ok (.iinc 3 1, 3))) rfl rfl (Nat.le_of_ble_eq_true rfl) ?_
  refine sd_goto (tgt := 16) (hF _) (jde hC (by decide +kernel : decode cJ6_stringSize_0f7a4 39 = .ok (.goto (-23), 3))) rfl ?_
  refine jd_iload_n (i := 3) (hF _) (jde hC (by decide +kernel : decode cJ6_stringSize_0f7a4 16 = .ok (.iload_n 3, 1))) rfl rfl ?_
  refine sd_bipush (v := 10) (hF _) (jde hC (by decide +kernel : decode cJ6_stringSize_0f7a4 17 = .ok (.bipush 10, 2))) ?_
  show WJ x (ws : va_W) 19 ([some (.inl (.int (-(nI w)))), some (.inl (.int 0)), some (.inl (.int (10 * (-10)))), some (.inl (.int (1 + 1)))] : Ls) ([.inl (.int 10), .inl (.int (1 + 1))] : List AV) 0
  refine sd_icmp_ge (tgt := 42) (hF _) (jde hC (by decide +kernel : decode cJ6_stringSize_0f7a4 19 = .ok (.if_icmp .ge 23, 3))) rfl (fun z => absurd z (by decide)) (fun _ => ?_)
  refine jd_iload_n (i := 0) (hF _) (jde hC (by decide +kernel : decode cJ6_stringSize_0f7a4 22 = .ok (.iload_n 0, 1))) rfl rfl ?_
  refine jd_iload_n (i := 2) (hF _) (jde hC (by decide +kernel : decode cJ6_stringSize_0f7a4 23 = .ok (.iload_n 2, 1))) rfl rfl ?_
  refine sd_icmp_le (tgt := 31) (hF _) (jde hC (by decide +kernel : decode cJ6_stringSize_0f7a4 24 = .ok (.if_icmp .le 7, 3))) rfl (fun z => absurd z (by rw [show ((10 * (-10)) : Int32) = -nI 100 from (by decide : ((10 * (-10)) : Int32) = -nI 100)]; exact fun z => absurd ((sb_nle (by omega) (by omega)).mp z) (by omega))) (fun _ => ?_)
  refine jd_iload_n (i := 3) (hF _) (jde hC (by decide +kernel : decode cJ6_stringSize_0f7a4 27 = .ok (.iload_n 3, 1))) rfl rfl ?_
  refine jd_iload_n (i := 1) (hF _) (jde hC (by decide +kernel : decode cJ6_stringSize_0f7a4 28 = .ok (.iload_n 1, 1))) rfl rfl ?_
  refine sd_iadd (hF _) (jde hC (by decide +kernel : decode cJ6_stringSize_0f7a4 29 = .ok (.iadd, 1))) ?_
  refine jd_top (b := .inl (.int (nI 2))) (congrArg (fun z => (Sum.inl (Value.int z) : AV)) (by decide)) ?_
  exact hE _ 30 0 _ _ (some (.int (nI 2))) (by decide +kernel : decode cJ6_stringSize_0f7a4 30 = .ok (.ireturn, 1)) ⟨_, _, rfl, rfl, rfl⟩ ⟨rfl, rfl⟩ (Nat.le_of_ble_eq_true rfl)
set_option maxRecDepth 100000 in
theorem jm_ss_03 {D : va_G} {cs : Nat → ClassId} {b : Nat} {ad : Rf → Nat} {adV : Nat → Nat} {sc : Nat × (Nat → Int32)} {l : Launch} {w : Nat} {ws : va_W} (hw : w < 1000) (h0 : 100 ≤ w) : JC (D, cs, b, ad, adV, sc) l yJ6_stringSize_0f7a4 cJ6_stringSize_0f7a4 4 (some .int) 0 0 [.int (nI w)] (ws : va_W) (pD (some (.int (nI 3))) ws) := by
  refine jc_of (by decide +kernel) (by simp [Value.category]) (Nat.le_of_ble_eq_true rfl) ?_
  intro x hF hC hO hG hV hK hH hI hE
  show WJ x (ws : va_W) 0 ([some (.inl (.int (nI w))), none, none, none] : Ls) ([] : List AV) 0
  refine sd_iconst (v := 1) (hF _) (jde hC (by decide +kernel : decode cJ6_stringSize_0f7a4 0 = .ok (.iconst 1, 1))) ?_
  refine jd_istore_n (i := 1) (hF _) (jde hC (by decide +kernel : decode cJ6_stringSize_0f7a4 1 = .ok (.istore_n 1, 1))) rfl rfl (Nat.le_of_ble_eq_true rfl) ?_
  refine jd_iload_n (i := 0) (hF _) (jde hC (by decide +kernel : decode cJ6_stringSize_0f7a4 2 = .ok (.iload_n 0, 1))) rfl rfl ?_
  refine sd_if_lt (tgt := 11) (hF _) (jde hC (by decide +kernel : decode cJ6_stringSize_0f7a4 3 = .ok (.ifCond .lt 8, 3))) rfl (fun z => absurd z (nI_pos (by omega))) (fun _ => ?_)
  refine sd_iconst (v := 0) (hF _) (jde hC (by decide +kernel : decode cJ6_stringSize_0f7a4 6 = .ok (.iconst 0, 1))) ?_
  refine jd_istore_n (i := 1) (hF _) (jde hC (by decide +kernel : decode cJ6_stringSize_0f7a4 7 = .ok (.istore_n 1, 1))) rfl rfl (Nat.le_of_ble_eq_true rfl) ?_
  refine jd_iload_n (i := 0) (hF _) (jde hC (by decide +kernel : decode cJ6_stringSize_0f7a4 8 = .ok (.iload_n 0, 1))) rfl rfl ?_
  refine sd_ineg (hF _) (jde hC (by decide +kernel : decode cJ6_stringSize_0f7a4 9 = .ok (.ineg, 1))) ?_
  refine jd_istore_n (i := 0) (hF _) (jde hC (by decide +kernel : decode cJ6_stringSize_0f7a4 10 = .ok (.istore_n 0, 1))) rfl rfl (Nat.le_of_ble_eq_true rfl) ?_
  refine sd_bipush (v := -10) (hF _) (jde hC (by decide +kernel : decode cJ6_stringSize_0f7a4 11 = .ok (.bipush (-10), 2))) ?_
  show WJ x (ws : va_W) 13 ([some (.inl (.int (-(nI w)))), some (.inl (.int 0)), none, none] : Ls) ([.inl (.int (-10))] : List AV) 0
  refine jd_istore_n (i := 2) (hF _) (jde hC (by decide +kernel : decode cJ6_stringSize_0f7a4 13 = .ok (.istore_n 2, 1))) rfl rfl (Nat.le_of_ble_eq_true rfl) ?_
  refine sd_iconst (v := 1) (hF _) (jde hC (by decide +kernel : decode cJ6_stringSize_0f7a4 14 = .ok (.iconst 1, 1))) ?_
  refine jd_istore_n (i := 3) (hF _) (jde hC (by decide +kernel : decode cJ6_stringSize_0f7a4 15 = .ok (.istore_n 3, 1))) rfl rfl (Nat.le_of_ble_eq_true rfl) ?_
  refine jd_iload_n (i := 3) (hF _) (jde hC (by decide +kernel : decode cJ6_stringSize_0f7a4 16 = .ok (.iload_n 3, 1))) rfl rfl ?_
  refine sd_bipush (v := 10) (hF _) (jde hC (by decide +kernel : decode cJ6_stringSize_0f7a4 17 = .ok (.bipush 10, 2))) ?_
  show WJ x (ws : va_W) 19 ([some (.inl (.int (-(nI w)))), some (.inl (.int 0)), some (.inl (.int (-10))), some (.inl (.int 1))] : Ls) ([.inl (.int 10), .inl (.int 1)] : List AV) 0
  refine sd_icmp_ge (tgt := 42) (hF _) (jde hC (by decide +kernel : decode cJ6_stringSize_0f7a4 19 = .ok (.if_icmp .ge 23, 3))) rfl (fun z => absurd z (by decide)) (fun _ => ?_)
  refine jd_iload_n (i := 0) (hF _) (jde hC (by decide +kernel : decode cJ6_stringSize_0f7a4 22 = .ok (.iload_n 0, 1))) rfl rfl ?_
  refine jd_iload_n (i := 2) (hF _) (jde hC (by decide +kernel : decode cJ6_stringSize_0f7a4 23 = .ok (.iload_n 2, 1))) rfl rfl ?_
  refine sd_icmp_le (tgt := 31) (hF _) (jde hC (by decide +kernel : decode cJ6_stringSize_0f7a4 24 = .ok (.if_icmp .le 7, 3))) rfl (fun _ => ?_) (fun z => absurd (by rw [show ((-10) : Int32) = -nI 10 from (by decide : ((-10) : Int32) = -nI 10)]; exact (sb_nle (by omega) (by omega)).mpr (by omega)) z)
  refine sd_bipush (v := 10) (hF _) (jde hC (by decide +kernel : decode cJ6_stringSize_0f7a4 31 = .ok (.bipush 10, 2))) ?_
  show WJ x (ws : va_W) 33 ([some (.inl (.int (-(nI w)))), some (.inl (.int 0)), some (.inl (.int (-10))), some (.inl (.int 1))] : Ls) ([.inl (.int 10)] : List AV) 0
  refine jd_iload_n (i := 2) (hF _) (jde hC (by decide +kernel : decode cJ6_stringSize_0f7a4 33 = .ok (.iload_n 2, 1))) rfl rfl ?_
  refine sd_imul (hF _) (jde hC (by decide +kernel : decode cJ6_stringSize_0f7a4 34 = .ok (.imul, 1))) ?_
  refine jd_istore_n (i := 2) (hF _) (jde hC (by decide +kernel : decode cJ6_stringSize_0f7a4 35 = .ok (.istore_n 2, 1))) rfl rfl (Nat.le_of_ble_eq_true rfl) ?_
  refine sd_iinc (i := 3) (a := 1) (hF _) (jde hC (by decide +kernel : decode cJ6_stringSize_0f7a4 36 = .ok (.iinc 3 1, 3))) rfl rfl (Nat.le_of_ble_eq_true rfl) ?_
  refine sd_goto (tgt := 16) (hF _) (jde hC (by decide +kernel : decode cJ6_stringSize_0f7a4 39 = .ok (.goto (-23), 3))) rfl ?_
  refine jd_iload_n (i := 3) (hF _) (jde hC (by decide +kernel : decode cJ6_stringSize_0f7a4 16 = .ok (.iload_n 3, 1))) rfl rfl ?_
  refine sd_bipush (v := 10) (hF _) (jde hC (by decide +kernel : decode cJ6_stringSize_0f7a4 17 = .ok (.bipush 10, 2))) ?_
  show WJ x (ws : va_W) 19 ([some (.inl (.int (-(nI w)))), some (.inl (.int 0)), some (.inl (.int (10 * (-10)))), some (.inl (.int (1 + 1)))] : Ls) ([.inl (.int 10), .inl (.int (1 + 1))] : List AV) 0
  refine sd_icmp_ge (tgt := 42) (hF _) (jde hC (by decide +kernel : decode cJ6_stringSize_0f7a4 19 = .ok (.if_icmp .ge 23, 3))) rfl (fun z => absurd z (by decide)) (fun _ => ?_)
  refine jd_iload_n (i := 0) (hF _) (jde hC (by decide +kernel : decode cJ6_stringSize_0f7a4 22 = .ok (.iload_n 0, 1))) rfl rfl ?_
  refine jd_iload_n (i := 2) (hF _) (jde hC (by decide +kernel : decode cJ6_stringSize_0f7a4 23 = .ok (.iload_n 2, 1))) rfl rfl ?_
  refine sd_icmp_le (tgt := 31) (hF _) (jde hC (by decide +kernel : decode cJ6_stringSize_0f7a4 24 = .ok (.if_icmp .le 7, 3))) rfl (fun _ => ?_) (fun z => absurd (by rw [show ((10 * (-10)) : Int32) = -nI 100 from (by decide : ((10 * (-10)) : Int32) = -nI 100)]; exact (sb_nle (by omega) (by omega)).mpr (by omega)) z)
  refine sd_bipush (v := 10) (hF _) (jde hC (by decide +kernel : decode cJ6_stringSize_0f7a4 31 = .ok (.bipush 10, 2))) ?_
  show WJ x (ws : va_W) 33 ([some (.inl (.int (-(nI w)))), some (.inl (.int 0)), some (.inl (.int (10 * (-10)))), some (.inl (.int (1 + 1)))] : Ls) ([.inl (.int 10)] : List AV) 0
  refine jd_iload_n (i := 2) (hF _) (jde hC (by decide +kernel : decode cJ6_stringSize_0f7a4 33 = .ok (.iload_n 2, 1))) rfl rfl ?_
  refine sd_imul (hF _) (jde hC (by decide +kernel : decode cJ6_stringSize_0f7a4 34 = .ok (.imul, 1))) ?_
  refine jd_istore_n (i := 2) (hF _) (jde hC (by decide +kernel : decode cJ6_stringSize_0f7a4 35 = .ok (.istore_n 2, 1))) rfl rfl (Nat.le_of_ble_eq_true rfl) ?_
  refine sd_iinc (i := 3) (a := (1 + 1)) (hF _) (jde hC (by decide +kernel : decode cJ6_stringSize_0f7a4 36 = .ok (.iinc 3 1, 3))) rfl rfl (Nat.le_of_ble_eq_true rfl) ?_
  refine sd_goto (tgt := 16) (hF _) (jde hC (by decide +kernel : decode cJ6_stringSize_0f7a4 39 = .ok (.goto (-23), 3))) rfl ?_
  refine jd_iload_n (i := 3) (hF _) (jde hC (by decide +kernel : decode cJ6_stringSize_0f7a4 16 = .ok (.iload_n 3, 1))) rfl rfl ?_
  refine sd_bipush (v := 10) (hF _) (jde hC (by decide +kernel : decode cJ6_stringSize_0f7a4 17 = .ok (.bipush 10, 2))) ?_
  show WJ x (ws : va_W) 19 ([some (.inl (.int (-(nI w)))), some (.inl (.int 0)), some (.inl (.int (10 * (10 * (-10))))), some (.inl (.int ((1 + 1) + 1)))] : Ls) ([.inl (.int 10), .inl (.int ((1 + 1) + 1))] : List AV) 0
  refine sd_icmp_ge (tgt := 42) (hF _) (jde hC (by decide +kernel : decode cJ6_stringSize_0f7a4 19 = .ok (.if_icmp .ge 23, 3))) rfl (fun z => absurd z (by decide)) (fun _ => ?_)
  refine jd_iload_n (i := 0) (hF _) (jde hC (by decide +kernel : decode cJ6_stringSize_0f7a4 22 = .ok (.iload_n 0, 1))) rfl rfl ?_
  refine jd_iload_n (i := 2) (hF _) (jde hC (by decide +kernel : decode cJ6_stringSize_0f7a4 23 = .ok (.iload_n 2, 1))) rfl rfl ?_
  refine sd_icmp_le (tgt := 31) (hF _) (jde hC (by decide +kernel : decode cJ6_stringSize_0f7a4 24 = .ok (.if_icmp .le 7, 3))) rfl (fun z => absurd z (by rw [show ((10 * (10 * (-10))) : Int32) = -nI 1000 from (by decide : ((10 * (10 * (-10))) : Int32) = -nI 1000)]; exact fun z => absurd ((sb_nle (by omega) (by omega)).mp z) (by omega))) (fun _ => ?_)
  refine jd_iload_n (i := 3) (hF _) (jde hC (by decide +kernel : decode cJ6_stringSize_0f7a4 27 = .ok (.iload_n 3, 1))) rfl rfl ?_
  refine jd_iload_n (i := 1) (hF _) (jde hC (by decide +kernel : decode cJ6_stringSize_0f7a4 28 = .ok (.iload_n 1, 1))) rfl rfl ?_
  refine sd_iadd (hF _) (jde hC (by decide +kernel : decode cJ6_stringSize_0f7a4 29 = .ok (.iadd, 1))) ?_
  refine jd_top (b := .inl (.int (nI 3))) (congrArg (fun z => (Sum.inl (Value.int z) : AV)) (by decide)) ?_
  exact hE _ 30 0 _ _ (some (.int (nI 3))) (by decide +kernel : decode cJ6_stringSize_0f7a4 30 = .ok (.ireturn, 1)) ⟨_, _, rfl, rfl, rfl⟩ ⟨rfl, rfl⟩ (Nat.le_of_ble_eq_true rfl)
set_option maxRecDepth 100000 in
theorem jm_ss_11 {D : va_G} {cs : Nat → ClassId} {b : Nat} {ad : Rf → Nat} {adV : Nat → Nat} {sc : Nat × (Nat → Int32)} {l : Launch} {w : Nat} {ws : va_W} (hw0 : 0 < w) (hw : w < 1000) (hd : w < 10) : JC (D, cs, b, ad, adV, sc) l yJ6_stringSize_0f7a4 cJ6_stringSize_0f7a4 4 (some .int) 0 0 [.int (-nI w)] (ws : va_W) (pD (some (.int (nI 2))) ws) := by
  refine jc_of (by decide +kernel) (by simp [Value.category]) (Nat.le_of_ble_eq_true rfl) ?_
  intro x hF hC hO hG hV hK hH hI hE
  show WJ x (ws : va_W) 0 ([some (.inl (.int (-nI w))), none, none, none] : Ls) ([] : List AV) 0
  refine sd_iconst (v := 1) (hF _) (jde hC (by decide +kernel : decode cJ6_stringSize_0f7a4 0 = .ok (.iconst 1, 1))) ?_
  refine jd_istore_n (i := 1) (hF _) (jde hC (by decide +kernel : decode cJ6_stringSize_0f7a4 1 = .ok (.istore_n 1, 1))) rfl rfl (Nat.le_of_ble_eq_true rfl) ?_
  refine jd_iload_n (i := 0) (hF _) (jde hC (by decide +kernel : decode cJ6_stringSize_0f7a4 2 = .ok (.iload_n 0, 1))) rfl rfl ?_
  refine sd_if_lt (tgt := 11) (hF _) (jde hC (by decide +kernel : decode cJ6_stringSize_0f7a4 3 = .ok (.ifCond .lt 8, 3))) rfl (fun _ => ?_) (fun z => absurd (ng_lt hw0 (by omega)) z)
  refine sd_bipush (v := -10) (hF _) (jde hC (by decide +kernel : decode cJ6_stringSize_0f7a4 11 = .ok (.bipush (-10), 2))) ?_
  show WJ x (ws : va_W) 13 ([some (.inl (.int (-nI w))), some (.inl (.int 1)), none, none] : Ls) ([.inl (.int (-10))] : List AV) 0
  refine jd_istore_n (i := 2) (hF _) (jde hC (by decide +kernel : decode cJ6_stringSize_0f7a4 13 = .ok (.istore_n 2, 1))) rfl rfl (Nat.le_of_ble_eq_true rfl) ?_
  refine sd_iconst (v := 1) (hF _) (jde hC (by decide +kernel : decode cJ6_stringSize_0f7a4 14 = .ok (.iconst 1, 1))) ?_
  refine jd_istore_n (i := 3) (hF _) (jde hC (by decide +kernel : decode cJ6_stringSize_0f7a4 15 = .ok (.istore_n 3, 1))) rfl rfl (Nat.le_of_ble_eq_true rfl) ?_
  refine jd_iload_n (i := 3) (hF _) (jde hC (by decide +kernel : decode cJ6_stringSize_0f7a4 16 = .ok (.iload_n 3, 1))) rfl rfl ?_
  refine sd_bipush (v := 10) (hF _) (jde hC (by decide +kernel : decode cJ6_stringSize_0f7a4 17 = .ok (.bipush 10, 2))) ?_
  show WJ x (ws : va_W) 19 ([some (.inl (.int (-nI w))), some (.inl (.int 1)), some (.inl (.int (-10))), some (.inl (.int 1))] : Ls) ([.inl (.int 10), .inl (.int 1)] : List AV) 0
  refine sd_icmp_ge (tgt := 42) (hF _) (jde hC (by decide +kernel : decode cJ6_stringSize_0f7a4 19 = .ok (.if_icmp .ge 23, 3))) rfl (fun z => absurd z (by decide)) (fun _ => ?_)
  refine jd_iload_n (i := 0) (hF _) (jde hC (by decide +kernel : decode cJ6_stringSize_0f7a4 22 = .ok (.iload_n 0, 1))) rfl rfl ?_
  refine jd_iload_n (i := 2) (hF _) (jde hC (by decide +kernel : decode cJ6_stringSize_0f7a4 23 = .ok (.iload_n 2, 1))) rfl rfl ?_
  refine sd_icmp_le (tgt := 31) (hF _) (jde hC (by decide +kernel : decode cJ6_stringSize_0f7a4 24 = .ok (.if_icmp .le 7, 3))) rfl (fun z => absurd z (by rw [show ((-10) : Int32) = -nI 10 from (by decide : ((-10) : Int32) = -nI 10)]; exact fun z => absurd ((sb_nle (by omega) (by omega)).mp z) (by omega))) (fun _ => ?_)
  refine jd_iload_n (i := 3) (hF _) (jde hC (by decide +kernel : decode cJ6_stringSize_0f7a4 27 = .ok (.iload_n 3, 1))) rfl rfl ?_
  refine jd_iload_n (i := 1) (hF _) (jde hC (by decide +kernel : decode cJ6_stringSize_0f7a4 28 = .ok (.iload_n 1, 1))) rfl rfl ?_
  refine sd_iadd (hF _) (jde hC (by decide +kernel : decode cJ6_stringSize_0f7a4 29 = .ok (.iadd, 1))) ?_
  refine jd_top (b := .inl (.int (nI 2))) (congrArg (fun z => (Sum.inl (Value.int z) : AV)) (by decide)) ?_
  exact hE _ 30 0 _ _ (some (.int (nI 2))) (by decide +kernel : decode cJ6_stringSize_0f7a4 30 = .ok (.ireturn, 1)) ⟨_, _, rfl, rfl, rfl⟩ ⟨rfl, rfl⟩ (Nat.le_of_ble_eq_true rfl)
set_option maxRecDepth 100000 in
theorem jm_ss_12 {D : va_G} {cs : Nat → ClassId} {b : Nat} {ad : Rf → Nat} {adV : Nat → Nat} {sc : Nat × (Nat → Int32)} {l : Launch} {w : Nat} {ws : va_W} (hw0 : 0 < w) (hw : w < 1000) (h0 : 10 ≤ w) (hd : w < 100) : JC (D, cs, b, ad, adV, sc) l yJ6_stringSize_0f7a4 cJ6_stringSize_0f7a4 4 (some .int) 0 0 [.int (-nI w)] (ws : va_W) (pD (some (.int (nI 3))) ws) := by
  refine jc_of (by decide +kernel) (by simp [Value.category]) (Nat.le_of_ble_eq_true rfl) ?_
  intro x hF hC hO hG hV hK hH hI hE
  show WJ x (ws : va_W) 0 ([some (.inl (.int (-nI w))), none, none, none] : Ls) ([] : List AV) 0
  refine sd_iconst (v := 1) (hF _) (jde hC (by decide +kernel : decode cJ6_stringSize_0f7a4 0 = .ok (.iconst 1, 1))) ?_
  refine jd_istore_n (i := 1) (hF _) (jde hC (by decide +kernel : decode cJ6_stringSize_0f7a4 1 = .ok (.istore_n 1, 1))) rfl rfl (Nat.le_of_ble_eq_true rfl) ?_
  refine jd_iload_n (i := 0) (hF _) (jde hC (by decide +kernel : decode cJ6_stringSize_0f7a4 2 = .ok (.iload_n 0, 1))) rfl rfl ?_
  refine sd_if_lt (tgt := 11) (hF _) (jde hC (by decide +kernel : decode cJ6_stringSize_0f7a4 3 = .ok (.ifCond .lt 8, 3))) rfl (fun _ => ?_) (fun z => absurd (ng_lt hw0 (by omega)) z)
  refine sd_bipush (v := -10) (hF _) (jde hC (by decide +kernel : decode cJ6_stringSize_0f7a4 11 = .ok (.bipush (-10), 2))) ?_
  show WJ x (ws : va_W) 13 ([some (.inl (.int (-nI w))), some (.inl (.int 1)), none, none] : Ls) ([.inl (.int (-10))] : List AV) 0
  refine jd_istore_n (i := 2) (hF _) (jde hC (by decide +kernel : decode cJ6_stringSize_0f7a4 13 = .ok (.istore_n 2, 1))) rfl rfl (Nat.le_of_ble_eq_true rfl) ?_
  refine sd_iconst (v := 1) (hF _) (jde hC (by decide +kernel : decode cJ6_stringSize_0f7a4 14 = .ok (.iconst 1, 1))) ?_
  refine jd_istore_n (i := 3) (hF _) (jde hC (by decide +kernel : decode cJ6_stringSize_0f7a4 15 = .ok (.istore_n 3, 1))) rfl rfl (Nat.le_of_ble_eq_true rfl) ?_
  refine jd_iload_n (i := 3) (hF _) (jde hC (by decide +kernel : decode cJ6_stringSize_0f7a4 16 = .ok (.iload_n 3, 1))) rfl rfl ?_
  refine sd_bipush (v := 10) (hF _) (jde hC (by decide +kernel : decode cJ6_stringSize_0f7a4 17 = .ok (.bipush 10, 2))) ?_
  show WJ x (ws : va_W) 19 ([some (.inl (.int (-nI w))), some (.inl (.int 1)), some (.inl (.int (-10))), some (.inl (.int 1))] : Ls) ([.inl (.int 10), .inl (.int 1)] : List AV) 0
  refine sd_icmp_ge (tgt := 42) (hF _) (jde hC (by decide +kernel : decode cJ6_stringSize_0f7a4 19 = .ok (.if_icmp .ge 23, 3))) rfl (fun z => absurd z (by decide)) (fun _ => ?_)
  refine jd_iload_n (i := 0) (hF _) (jde hC (by decide +kernel : decode cJ6_stringSize_0f7a4 22 = .ok (.iload_n 0, 1))) rfl rfl ?_
  refine jd_iload_n (i := 2) (hF _) (jde hC (by decide +kernel : decode cJ6_stringSize_0f7a4 23 = .ok (.iload_n 2, 1))) rfl rfl ?_
  refine sd_icmp_le (tgt := 31) (hF _) (jde hC (by decide +kernel : decode cJ6_stringSize_0f7a4 24 = .ok (.if_icmp .le 7, 3))) rfl (fun _ => ?_) (fun z => absurd (by rw [show ((-10) : Int32) = -nI 10 from (by decide : ((-10) : Int32) = -nI 10)]; exact (sb_nle (by omega) (by omega)).mpr (by omega)) z)
  refine sd_bipush (v := 10) (hF _) (jde hC (by decide +kernel : decode cJ6_stringSize_0f7a4 31 = .ok (.bipush 10, 2))) ?_
  show WJ x (ws : va_W) 33 ([some (.inl (.int (-nI w))), some (.inl (.int 1)), some (.inl (.int (-10))), some (.inl (.int 1))] : Ls) ([.inl (.int 10)] : List AV) 0
  refine jd_iload_n (i := 2) (hF _) (jde hC (by decide +kernel : decode cJ6_stringSize_0f7a4 33 = .ok (.iload_n 2, 1))) rfl rfl ?_
  refine sd_imul (hF _) (jde hC (by decide +kernel : decode cJ6_stringSize_0f7a4 34 = .ok (.imul, 1))) ?_
  refine jd_istore_n (i := 2) (hF _) (jde hC (by decide +kernel : decode cJ6_stringSize_0f7a4 35 = .ok (.istore_n 2, 1))) rfl rfl (Nat.le_of_ble_eq_true rfl) ?_
  refine sd_iinc (i := 3) (a := 1) (hF _) (jde hC (by decide +kernel : decode cJ6_stringSize_0f7a4 36 = .ok (.iinc 3 1, 3))) rfl rfl (Nat.le_of_ble_eq_true rfl) ?_
  refine sd_goto (tgt := 16) (hF _) (jde hC (by decide +kernel : decode cJ6_stringSize_0f7a4 39 = .ok (.goto (-23), 3))) rfl ?_
  refine jd_iload_n (i := 3) (hF _) (jde hC (by decide +kernel : decode cJ6_stringSize_0f7a4 16 = .ok (.iload_n 3, 1))) rfl rfl ?_
  refine sd_bipush (v := 10) (hF _) (jde hC (by decide +kernel : decode cJ6_stringSize_0f7a4 17 = .ok (.bipush 10, 2))) ?_
  show WJ x (ws : va_W) 19 ([some (.inl (.int (-nI w))), some (.inl (.int 1)), some (.inl (.int (10 * (-10)))), some (.inl (.int (1 + 1)))] : Ls) ([.inl (.int 10), .inl (.int (1 + 1))] : List AV) 0
  refine sd_icmp_ge (tgt := 42) (hF _) (jde hC (by decide +kernel : decode cJ6_stringSize_0f7a4 19 = .ok (.if_icmp .ge 23, 3))) rfl (fun z => absurd z (by decide)) (fun _ => ?_)
  refine jd_iload_n (i := 0) (hF _) (jde hC (by decide +kernel : decode cJ6_stringSize_0f7a4 22 = .ok (.iload_n 0, 1))) rfl rfl ?_
  refine jd_iload_n (i := 2) (hF _) (jde hC (by decide +kernel : decode cJ6_stringSize_0f7a4 23 = .ok (.iload_n 2, 1))) rfl rfl ?_
  refine sd_icmp_le (tgt := 31) (hF _) (jde hC (by decide +kernel : decode cJ6_stringSize_0f7a4 24 = .ok (.if_icmp .le 7, 3))) rfl (fun z => absurd z (by rw [show ((10 * (-10)) : Int32) = -nI 100 from (by decide : ((10 * (-10)) : Int32) = -nI 100)]; exact fun z => absurd ((sb_nle (by omega) (by omega)).mp z) (by omega))) (fun _ => ?_)
  refine jd_iload_n (i := 3) (hF _) (jde hC (by decide +kernel : decode cJ6_stringSize_0f7a4 27 = .ok (.iload_n 3, 1))) rfl rfl ?_
  refine jd_iload_n (i := 1) (hF _) (jde hC (by decide +kernel : decode cJ6_stringSize_0f7a4 28 = .ok (.iload_n 1, 1))) rfl rfl ?_
  refine sd_iadd (hF _) (jde hC (by decide +kernel : decode cJ6_stringSize_0f7a4 29 = .ok (.iadd, 1))) ?_
  refine jd_top (b := .inl (.int (nI 3))) (congrArg (fun z => (Sum.inl (Value.int z) : AV)) (by decide)) ?_
  exact hE _ 30 0 _ _ (some (.int (nI 3))) (by decide +kernel : decode cJ6_stringSize_0f7a4 30 = .ok (.ireturn, 1)) ⟨_, _, rfl, rfl, rfl⟩ ⟨rfl, rfl⟩ (Nat.le_of_ble_eq_true rfl)
set_option maxRecDepth 100000 in
theorem jm_ss_13 {D : va_G} {cs : Nat → ClassId} {b : Nat} {ad : Rf → Nat} {adV : Nat → Nat} {sc : Nat × (Nat → Int32)} {l : Launch} {w : Nat} {ws : va_W} (hw0 : 0 < w) (hw : w < 1000) (h0 : 100 ≤ w) : JC (D, cs, b, ad, adV, sc) l yJ6_stringSize_0f7a4 cJ6_stringSize_0f7a4 4 (some .int) 0 0 [.int (-nI w)] (ws : va_W) (pD (some (.int (nI 4))) ws) := by
  refine jc_of (by decide +kernel) (by simp [Value.category]) (Nat.le_of_ble_eq_true rfl) ?_
  intro x hF hC hO hG hV hK hH hI hE
  show WJ x (ws : va_W) 0 ([some (.inl (.int (-nI w))), none, none, none] : Ls) ([] : List AV) 0
  refine sd_iconst (v := 1) (hF _) (jde hC (by decide +kernel : decode cJ6_stringSize_0f7a4 0 = .ok (.iconst 1, 1))) ?_
  refine jd_istore_n (i := 1) (hF _) (jde hC (by decide +kernel : decode cJ6_stringSize_0f7a4 1 = .ok (.istore_n 1, 1))) rfl rfl (Nat.le_of_ble_eq_true rfl) ?_
  refine jd_iload_n (i := 0) (hF _) (jde hC (by decide +kernel : decode cJ6_stringSize_0f7a4 2 = .ok (.iload_n 0, 1))) rfl rfl ?_
  refine sd_if_lt (tgt := 11) (hF _) (jde hC (by decide +kernel : decode cJ6_stringSize_0f7a4 3 = .ok (.ifCond .lt 8, 3))) rfl (fun _ => ?_) (fun z => absurd (ng_lt hw0 (by omega)) z)
  refine sd_bipush (v := -10) (hF _) (jde hC (by decide +kernel : decode cJ6_stringSize_0f7a4 11 = .ok (.bipush (-10), 2))) ?_
  show WJ x (ws : va_W) 13 ([some (.inl (.int (-nI w))), some (.inl (.int 1)), none, none] : Ls) ([.inl (.int (-10))] : List AV) 0
  refine jd_istore_n (i := 2) (hF _) (jde hC (by decide +kernel : decode cJ6_stringSize_0f7a4 13 = .ok (.istore_n 2, 1))) rfl rfl (Nat.le_of_ble_eq_true rfl) ?_
  refine sd_iconst (v := 1) (hF _) (jde hC (by decide +kernel : decode cJ6_stringSize_0f7a4 14 = .ok (.iconst 1, 1))) ?_
  refine jd_istore_n (i := 3) (hF _) (jde hC (by decide +kernel : decode cJ6_stringSize_0f7a4 15 = .ok (.istore_n 3, 1))) rfl rfl (Nat.le_of_ble_eq_true rfl) ?_
  refine jd_iload_n (i := 3) (hF _) (jde hC (by decide +kernel : decode cJ6_stringSize_0f7a4 16 = .ok (.iload_n 3, 1))) rfl rfl ?_
  refine sd_bipush (v := 10) (hF _) (jde hC (by decide +kernel : decode cJ6_stringSize_0f7a4 17 = .ok (.bipush 10, 2))) ?_
  show WJ x (ws : va_W) 19 ([some (.inl (.int (-nI w))), some (.inl (.int 1)), some (.inl (.int (-10))), some (.inl (.int 1))] : Ls) ([.inl (.int 10), .inl (.int 1)] : List AV) 0
  refine sd_icmp_ge (tgt := 42) (hF _) (jde hC (by decide +kernel : decode cJ6_stringSize_0f7a4 19 = .ok (.if_icmp .ge 23, 3))) rfl (fun z => absurd z (by decide)) (fun _ => ?_)
  refine jd_iload_n (i := 0) (hF _) (jde hC (by decide +kernel : decode cJ6_stringSize_0f7a4 22 = .ok (.iload_n 0, 1))) rfl rfl ?_
  refine jd_iload_n (i := 2) (hF _) (jde hC (by decide +kernel : decode cJ6_stringSize_0f7a4 23 = .ok (.iload_n 2, 1))) rfl rfl ?_
  refine sd_icmp_le (tgt := 31) (hF _) (jde hC (by decide +kernel : decode cJ6_stringSize_0f7a4 24 = .ok (.if_icmp .le 7, 3))) rfl (fun _ => ?_) (fun z => absurd (by rw [show ((-10) : Int32) = -nI 10 from (by decide : ((-10) : Int32) = -nI 10)]; exact (sb_nle (by omega) (by omega)).mpr (by omega)) z)
  refine sd_bipush (v := 10) (hF _) (jde hC (by decide +kernel : decode cJ6_stringSize_0f7a4 31 = .ok (.bipush 10, 2))) ?_
  show WJ x (ws : va_W) 33 ([some (.inl (.int (-nI w))), some (.inl (.int 1)), some (.inl (.int (-10))), some (.inl (.int 1))] : Ls) ([.inl (.int 10)] : List AV) 0
  refine jd_iload_n (i := 2) (hF _) (jde hC (by decide +kernel : decode cJ6_stringSize_0f7a4 33 = .ok (.iload_n 2, 1))) rfl rfl ?_
  refine sd_imul (hF _) (jde hC (by decide +kernel : decode cJ6_stringSize_0f7a4 34 = .ok (.imul, 1))) ?_
  refine jd_istore_n (i := 2) (hF _) (jde hC (by decide +kernel : decode cJ6_stringSize_0f7a4 35 = .ok (.istore_n 2, 1))) rfl rfl (Nat.le_of_ble_eq_true rfl) ?_
  refine sd_iinc (i := 3) (a := 1) (hF _) (jde hC (by decide +kernel : decode cJ6_stringSize_0f7a4 36 = .ok (.iinc 3 1, 3))) rfl rfl (Nat.le_of_ble_eq_true rfl) ?_
  refine sd_goto (tgt := 16) (hF _) (jde hC (by decide +kernel : decode cJ6_stringSize_0f7a4 39 = .ok (.goto (-23), 3))) rfl ?_
  refine jd_iload_n (i := 3) (hF _) (jde hC (by decide +kernel : decode cJ6_stringSize_0f7a4 16 = .ok (.iload_n 3, 1))) rfl rfl ?_
  refine sd_bipush (v := 10) (hF _) (jde hC (by decide +kernel : decode cJ6_stringSize_0f7a4 17 = .ok (.bipush 10, 2))) ?_
  show WJ x (ws : va_W) 19 ([some (.inl (.int (-nI w))), some (.inl (.int 1)), some (.inl (.int (10 * (-10)))), some (.inl (.int (1 + 1)))] : Ls) ([.inl (.int 10), .inl (.int (1 + 1))] : List AV) 0
  refine sd_icmp_ge (tgt := 42) (hF _) (jde hC (by decide +kernel : decode cJ6_stringSize_0f7a4 19 = .ok (.if_icmp .ge 23, 3))) rfl (fun z => absurd z (by decide)) (fun _ => ?_)
  refine jd_iload_n (i := 0) (hF _) (jde hC (by decide +kernel : decode cJ6_stringSize_0f7a4 22 = .ok (.iload_n 0, 1))) rfl rfl ?_
  refine jd_iload_n (i := 2) (hF _) (jde hC (by decide +kernel : decode cJ6_stringSize_0f7a4 23 = .ok (.iload_n 2, 1))) rfl rfl ?_
  refine sd_icmp_le (tgt := 31) (hF _) (jde hC (by decide +kernel : decode cJ6_stringSize_0f7a4 24 = .ok (.if_icmp .le 7, 3))) rfl (fun _ => ?_) (fun z => absurd (by rw [show ((10 * (-10)) : Int32) = -nI 100 from (by decide : ((10 * (-10)) : Int32) = -nI 100)]; exact (sb_nle (by omega) (by omega)).mpr (by omega)) z)
  refine sd_bipush (v := 10) (hF _) (jde hC (by decide +kernel : decode cJ6_stringSize_0f7a4 31 = .ok (.bipush 10, 2))) ?_
  show WJ x (ws : va_W) 33 ([some (.inl (.int (-nI w))), some (.inl (.int 1)), some (.inl (.int (10 * (-10)))), some (.inl (.int (1 + 1)))] : Ls) ([.inl (.int 10)] : List AV) 0
  refine jd_iload_n (i := 2) (hF _) (jde hC (by decide +kernel : decode cJ6_stringSize_0f7a4 33 = .ok (.iload_n 2, 1))) rfl rfl ?_
  refine sd_imul (hF _) (jde hC (by decide +kernel : decode cJ6_stringSize_0f7a4 34 = .ok (.imul, 1))) ?_
  refine jd_istore_n (i := 2) (hF _) (jde hC (by decide +kernel : decode cJ6_stringSize_0f7a4 35 = .ok (.istore_n 2, 1))) rfl rfl (Nat.le_of_ble_eq_true rfl) ?_
  refine sd_iinc (i := 3) (a := (1 + 1)) (hF _) (jde hC (by decide +kernel : decode cJ6_stringSize_0f7a4 36 = .ok (.iinc 3 1, 3))) rfl rfl (Nat.le_of_ble_eq_true rfl) ?_
  refine sd_goto (tgt := 16) (hF _) (jde hC (by decide +kernel : decode cJ6_stringSize_0f7a4 39 = .ok (.goto (-23), 3))) rfl ?_
  refine jd_iload_n (i := 3) (hF _) (jde hC (by decide +kernel : decode cJ6_stringSize_0f7a4 16 = .ok (.iload_n 3, 1))) rfl rfl ?_
  refine sd_bipush (v := 10) (hF _) (jde hC (by decide +kernel : decode cJ6_stringSize_0f7a4 17 = .ok (.bipush 10, 2))) ?_
  show WJ x (ws : va_W) 19 ([some (.inl (.int (-nI w))), some (.inl (.int 1)), some (.inl (.int (10 * (10 * (-10))))), some (.inl (.int ((1 + 1) + 1)))] : Ls) ([.inl (.int 10), .inl (.int ((1 + 1) + 1))] : List AV) 0
  refine sd_icmp_ge (tgt := 42) (hF _) (jde hC (by decide +kernel : decode cJ6_stringSize_0f7a4 19 = .ok (.if_icmp .ge 23, 3))) rfl (fun z => absurd z (by decide)) (fun _ => ?_)
  refine jd_iload_n (i := 0) (hF _) (jde hC (by decide +kernel : decode cJ6_stringSize_0f7a4 22 = .ok (.iload_n 0, 1))) rfl rfl ?_
  refine jd_iload_n (i := 2) (hF _) (jde hC (by decide +kernel : decode cJ6_stringSize_0f7a4 23 = .ok (.iload_n 2, 1))) rfl rfl ?_
  refine sd_icmp_le (tgt := 31) (hF _) (jde hC (by decide +kernel : decode cJ6_stringSize_0f7a4 24 = .ok (.if_icmp .le 7, 3))) rfl (fun z => absurd z (by rw [show ((10 * (10 * (-10))) : Int32) = -nI 1000 from (by decide : ((10 * (10 * (-10))) : Int32) = -nI 1000)]; exact fun z => absurd ((sb_nle (by omega) (by omega)).mp z) (by omega))) (fun _ => ?_)
  refine jd_iload_n (i := 3) (hF _) (jde hC (by decide +kernel : decode cJ6_stringSize_0f7a4 27 = .ok (.iload_n 3, 1))) rfl rfl ?_
  refine jd_iload_n (i := 1) (hF _) (jde hC (by decide +kernel : decode cJ6_stringSize_0f7a4 28 = .ok (.iload_n 1, 1))) rfl rfl ?_
  refine sd_iadd (hF _) (jde hC (by decide +kernel : decode cJ6_stringSize_0f7a4 29 = .ok (.iadd, 1))) ?_
  refine jd_top (b := .inl (.int (nI 4))) (congrArg (fun z => (Sum.inl (Value.int z) : AV)) (by decide)) ?_
  exact hE _ 30 0 _ _ (some (.int (nI 4))) (by decide +kernel : decode cJ6_stringSize_0f7a4 30 = .ok (.ireturn, 1)) ⟨_, _, rfl, rfl, rfl⟩ ⟨rfl, rfl⟩ (Nat.le_of_ble_eq_true rfl)
theorem int_cases {v : Int32} (h1 : -1000 < v) (h2 : v < 1000) : ∃ w, w < 1000 ∧ (v = nI w ∨ (0 < w ∧ v = -nI w)) := by
  have a1 : -1000 < v.toInt := by rw [Int32.lt_iff_toInt_lt] at h1; exact h1
  have a2 : v.toInt < 1000 := by rw [Int32.lt_iff_toInt_lt] at h2; exact h2
  refine ⟨v.toInt.natAbs, by omega, ?_⟩
  rcases Int.lt_or_le v.toInt 0 with h | h
  · refine Or.inr ⟨by omega, Int32.toInt_inj.mp ?_⟩
    rw [sb_negT (by omega)]; omega
  · refine Or.inl (Int32.toInt_inj.mp ?_)
    rw [nI_toInt (by omega)]; omega
theorem jm_ss {D : va_G} {cs : Nat → ClassId} {b : Nat} {ad : Rf → Nat} {adV : Nat → Nat} {sc : Nat × (Nat → Int32)} {l : Launch} {v : Int32} {ws : va_W} (h1 : -1000 < v) (h2 : v < 1000) : JC (D, cs, b, ad, adV, sc) l yJ6_stringSize_0f7a4 cJ6_stringSize_0f7a4 4 (some .int) 0 0 [.int v] ws (pD (some (.int (nI (dg_ v).length))) ws) := by
  obtain ⟨w, hw, rfl | ⟨h0, rfl⟩⟩ := int_cases h1 h2
  · rw [dg_p hw]
    rcases Nat.lt_or_ge w 10 with h | h
    · rw [dg_1 h]; exact jm_ss_01 hw h
    · rcases Nat.lt_or_ge w 100 with g | g
      · rw [dg_2 h g]; exact jm_ss_02 hw h g
      · rw [dg_3 g]; exact jm_ss_03 hw g
  · rw [dg_n h0 hw]
    rcases Nat.lt_or_ge w 10 with h | h
    · rw [dg_1 h]; exact jm_ss_11 h0 hw h
    · rcases Nat.lt_or_ge w 100 with g | g
      · rw [dg_2 h g]; exact jm_ss_12 h0 hw h g
      · rw [dg_3 g]; exact jm_ss_13 h0 hw g
set_option maxRecDepth 100000 in
theorem jm_gc_01 {D : va_G} {cs : Nat → ClassId} {b : Nat} {ad : Rf → Nat} {adV : Nat → Nat} {sc : Nat × (Nat → Int32)} {l : Launch} {h q cap n w : Nat} {f : Nat → Int32} {v0 v1 v2 v3 : Value} {R : va_W} (hw : w < 1000) (hd : w < 10) (hf : sb_Fit f) (hn : n + 1 ≤ cap) (hc : cap ≤ 100) : JC (D, cs, b, ad, adV, sc) l yJ6_getChars_ba4f3 cJ6_getChars_ba4f3 7 (some .int) 0 0 [.int (nI w), .int (nI (n + 1)), .ref q] ((h, .inr (8, [v0, v1, v2, v3])) :: (q, .inl (cs 5, cap, .inl f)) :: R : va_W) (fun v w2 => some (.int (nI n)) = v ∧ ∃ f2 : Nat → Int32, ((h, .inr (8, [v0, v1, v2, v3])) :: (q, .inl (cs 5, cap, .inl f2)) :: R : va_W) = w2 ∧ sb_Fit f2 ∧ (∀ j, j < n → f2 j = f j) ∧ ∀ j, j < [nI (48 + w)].length → f2 (n + j) = [nI (48 + w)].getD j 0) := by
  refine jc_of (by decide +kernel) (by simp [Value.category]) (Nat.le_of_ble_eq_true rfl) ?_
  intro x hF hC hO hG hV hK hH hI hE
  show WJ x ((h, .inr (8, [v0, v1, v2, v3])) :: (q, .inl (cs 5, cap, .inl f)) :: R : va_W) 0 ([some (.inl (.int (nI w))), some (.inl (.int (nI (n + 1)))), some (.inl (.ref q)), none, none, none, none] : Ls) ([] : List AV) 0
  refine jd_iload_n (i := 1) (hF _) (jde hC (by decide +kernel : decode cJ6_getChars_ba4f3 0 = .ok (.iload_n 1, 1))) rfl rfl ?_
  refine jd_istore (i := 5) (hF _) (jde hC (by decide +kernel : decode cJ6_getChars_ba4f3 1 = .ok (.istore 5, 2))) rfl (Nat.le_of_ble_eq_true rfl) ?_
  refine jd_iload_n (i := 0) (hF _) (jde hC (by decide +kernel : decode cJ6_getChars_ba4f3 3 = .ok (.iload_n 0, 1))) rfl rfl ?_
  refine sd_if_ge (tgt := 11) (hF _) (jde hC (by decide +kernel : decode cJ6_getChars_ba4f3 4 = .ok (.ifCond .ge 7, 3))) rfl (fun _ => ?_) (fun z => absurd (nI_pos' (by omega)) z)
  refine sd_iconst (v := 0) (hF _) (jde hC (by decide +kernel : decode cJ6_getChars_ba4f3 11 = .ok (.iconst 0, 1))) ?_
  refine jd_istore (i := 6) (hF _) (jde hC (by decide +kernel : decode cJ6_getChars_ba4f3 12 = .ok (.istore 6, 2))) rfl (Nat.le_of_ble_eq_true rfl) ?_
  refine jd_iload (i := 6) (hF _) (jde hC (by decide +kernel : decode cJ6_getChars_ba4f3 14 = .ok (.iload 6, 2))) rfl ?_
  refine sd_if_ne (tgt := 22) (hF _) (jde hC (by decide +kernel : decode cJ6_getChars_ba4f3 16 = .ok (.ifCond .ne 6, 3))) rfl (fun z => absurd (rfl) z) (fun _ => ?_)
  refine jd_iload_n (i := 0) (hF _) (jde hC (by decide +kernel : decode cJ6_getChars_ba4f3 19 = .ok (.iload_n 0, 1))) rfl rfl ?_
  refine sd_ineg (hF _) (jde hC (by decide +kernel : decode cJ6_getChars_ba4f3 20 = .ok (.ineg, 1))) ?_
  refine jd_istore_n (i := 0) (hF _) (jde hC (by decide +kernel : decode cJ6_getChars_ba4f3 21 = .ok (.istore_n 0, 1))) rfl rfl (Nat.le_of_ble_eq_true rfl) ?_
  refine jd_iload_n (i := 0) (hF _) (jde hC (by decide +kernel : decode cJ6_getChars_ba4f3 22 = .ok (.iload_n 0, 1))) rfl rfl ?_
  refine sd_bipush (v := -100) (hF _) (jde hC (by decide +kernel : decode cJ6_getChars_ba4f3 23 = .ok (.bipush (-100), 2))) ?_
  show WJ x ((h, .inr (8, [v0, v1, v2, v3])) :: (q, .inl (cs 5, cap, .inl f)) :: R : va_W) 25 ([some (.inl (.int (-(nI w)))), some (.inl (.int (nI (n + 1)))), some (.inl (.ref q)), none, none, some (.inl (.int (nI (n + 1)))), some (.inl (.int 0))] : Ls) ([.inl (.int (-100)), .inl (.int (-(nI w)))] : List AV) 0
  refine sd_icmp_gt (tgt := 72) (hF _) (jde hC (by decide +kernel : decode cJ6_getChars_ba4f3 25 = .ok (.if_icmp .gt 47, 3))) rfl (fun _ => ?_) (fun z => absurd ((sb_nlt (a := 100) (b := w) (by omega) (by omega)).mpr (by omega)) z)
  refine jd_aload_n (i := 2) (hF _) (jde hC (by decide +kernel : decode cJ6_getChars_ba4f3 72 = .ok (.aload_n 2, 1))) rfl rfl ?_
  refine sd_iinc (i := 5) (a := (nI (n + 1))) (hF _) (jde hC (by decide +kernel : decode cJ6_getChars_ba4f3 73 = .ok (.iinc 5 (-1), 3))) rfl rfl (Nat.le_of_ble_eq_true rfl) ?_
  refine jd_ls (ls' := ([some (.inl (.int (-(nI w)))), some (.inl (.int (nI (n + 1)))), some (.inl (.ref q)), none, none, some (.inl (.int (nI (n + 0)))), some (.inl (.int 0))] : Ls)) (congrArg (fun z => ([some (.inl (.int (-(nI w)))), some (.inl (.int (nI (n + 1)))), some (.inl (.ref q)), none, none, some (.inl (.int z)), some (.inl (.int 0))] : Ls)) (dec1 (n + 0))) ?_
  refine jd_iload (i := 5) (hF _) (jde hC (by decide +kernel : decode cJ6_getChars_ba4f3 76 = .ok (.iload 5, 2))) rfl ?_
  refine jd_ones (hF _) (jde hC (by decide +kernel : decode cJ6_getChars_ba4f3 78 = .ok (.getstatic 83, 3))) (by (try rw [xwO]); rw [hO]; exact we_924) (fun t1 ht1 => ?_)
  refine jd_iload_n (i := 0) (hF _) (jde hC (by decide +kernel : decode cJ6_getChars_ba4f3 81 = .ok (.iload_n 0, 1))) rfl rfl ?_
  refine sd_ineg (hF _) (jde hC (by decide +kernel : decode cJ6_getChars_ba4f3 82 = .ok (.ineg, 1))) ?_
  refine jd_top (b := .inl (.int (nI (w)))) (congrArg (fun z => (Sum.inl (Value.int z) : AV)) (ng_ng)) ?_
  refine ht1 _ _ _ _ _ _ (jde hC (by decide +kernel : decode cJ6_getChars_ba4f3 83 = .ok (.baload, 1))) (in_of (by omega) (by omega)) ?_
  refine jd_top (b := .inl (.int (nI (48 + (w) % 10)))) (congrArg (fun z => (Sum.inl (Value.int z) : AV)) (congrArg (fun z => Int32.ofNat (48 + z % 10)) (nI_clamp (n := w) (by omega)))) ?_
  refine jd_bast (k := 1) (n := cap) (f := f) (hF _) (jde hC (by decide +kernel : decode cJ6_getChars_ba4f3 84 = .ok (.bastore, 1))) (by rw [hK]; rfl) (in_of (by omega) (by omega)) ?_
  refine jd_e (ws' := ((h, .inr (8, [v0, v1, v2, v3])) :: (q, .inl (cs 5, cap, .inl (upd f (n + 0) (nI (48 + (w) % 10))))) :: R : va_W)) (by rw [hK, nI_clamp (by omega), vb_d (by omega)]; rfl) ?_
  show WJ x ((h, .inr (8, [v0, v1, v2, v3])) :: (q, .inl (cs 5, cap, .inl (upd f (n + 0) (nI (48 + (w) % 10))))) :: R : va_W) 85 ([some (.inl (.int (-(nI w)))), some (.inl (.int (nI (n + 1)))), some (.inl (.ref q)), none, none, some (.inl (.int (nI (n + 0)))), some (.inl (.int 0))] : Ls) ([] : List AV) 0
  refine jd_iload_n (i := 0) (hF _) (jde hC (by decide +kernel : decode cJ6_getChars_ba4f3 85 = .ok (.iload_n 0, 1))) rfl rfl ?_
  refine sd_bipush (v := -9) (hF _) (jde hC (by decide +kernel : decode cJ6_getChars_ba4f3 86 = .ok (.bipush (-9), 2))) ?_
  show WJ x ((h, .inr (8, [v0, v1, v2, v3])) :: (q, .inl (cs 5, cap, .inl (upd f (n + 0) (nI (48 + (w) % 10))))) :: R : va_W) 88 ([some (.inl (.int (-(nI w)))), some (.inl (.int (nI (n + 1)))), some (.inl (.ref q)), none, none, some (.inl (.int (nI (n + 0)))), some (.inl (.int 0))] : Ls) ([.inl (.int (-9)), .inl (.int (-(nI w)))] : List AV) 0
  refine sd_icmp_ge (tgt := 104) (hF _) (jde hC (by decide +kernel : decode cJ6_getChars_ba4f3 88 = .ok (.if_icmp .ge 16, 3))) rfl (fun _ => ?_) (fun z => absurd ((sb_nle (a := 9) (b := w) (by omega) (by omega)).mpr (by omega)) z)
  refine jd_iload (i := 6) (hF _) (jde hC (by decide +kernel : decode cJ6_getChars_ba4f3 104 = .ok (.iload 6, 2))) rfl ?_
  refine sd_if_eq (tgt := 118) (hF _) (jde hC (by decide +kernel : decode cJ6_getChars_ba4f3 106 = .ok (.ifCond .eq 12, 3))) rfl (fun _ => ?_) (fun z => absurd (rfl) z)
  refine jd_iload (i := 5) (hF _) (jde hC (by decide +kernel : decode cJ6_getChars_ba4f3 118 = .ok (.iload 5, 2))) rfl ?_
  refine hE _ 120 0 _ _ (some (.int (nI (n + 0)))) (by decide +kernel : decode cJ6_getChars_ba4f3 120 = .ok (.ireturn, 1)) ⟨_, _, rfl, rfl, rfl⟩ ⟨rfl, _, rfl, (sb_fitU hf (fb_d (by omega))), fun j hj => by rw [pk_un (by omega)], ?_⟩ (Nat.le_of_ble_eq_true rfl)
  intro j hj
  rcases Nat.eq_or_lt_of_le (show 0 ≤ j by omega) with hj0 | hj0
  · rw [← hj0]
    exact pk_us.trans (congrArg nI (show 48 + w % 10 = 48 + w by omega))
  exact absurd hj (by simp; omega)
set_option maxRecDepth 100000 in
theorem jm_gc_02 {D : va_G} {cs : Nat → ClassId} {b : Nat} {ad : Rf → Nat} {adV : Nat → Nat} {sc : Nat × (Nat → Int32)} {l : Launch} {h q cap n w : Nat} {f : Nat → Int32} {v0 v1 v2 v3 : Value} {R : va_W} (hw : w < 1000) (h0 : 10 ≤ w) (hd : w < 100) (hf : sb_Fit f) (hn : n + 2 ≤ cap) (hc : cap ≤ 100) : JC (D, cs, b, ad, adV, sc) l yJ6_getChars_ba4f3 cJ6_getChars_ba4f3 7 (some .int) 0 0 [.int (nI w), .int (nI (n + 2)), .ref q] ((h, .inr (8, [v0, v1, v2, v3])) :: (q, .inl (cs 5, cap, .inl f)) :: R : va_W) (fun v w2 => some (.int (nI n)) = v ∧ ∃ f2 : Nat → Int32, ((h, .inr (8, [v0, v1, v2, v3])) :: (q, .inl (cs 5, cap, .inl f2)) :: R : va_W) = w2 ∧ sb_Fit f2 ∧ (∀ j, j < n → f2 j = f j) ∧ ∀ j, j < [nI (48 + w / 10), nI (48 + w % 10)].length → f2 (n + j) = [nI (48 + w / 10), nI (48 + w % 10)].getD j 0) := by
  refine jc_of (by decide +kernel) (by simp [Value.category]) (Nat.le_of_ble_eq_true rfl) ?_
  intro x hF hC hO hG hV hK hH hI hE
  show WJ x ((h, .inr (8, [v0, v1, v2, v3])) :: (q, .inl (cs 5, cap, .inl f)) :: R : va_W) 0 ([some (.inl (.int (nI w))), some (.inl (.int (nI (n + 2)))), some (.inl (.ref q)), none, none, none, none] : Ls) ([] : List AV) 0
  refine jd_iload_n (i := 1) (hF _) (jde hC (by decide +kernel : decode cJ6_getChars_ba4f3 0 = .ok (.iload_n 1, 1))) rfl rfl ?_
  refine jd_istore (i := 5) (hF _) (jde hC (by decide +kernel : decode cJ6_getChars_ba4f3 1 = .ok (.istore 5, 2))) rfl (Nat.le_of_ble_eq_true rfl) ?_
  refine jd_iload_n (i := 0) (hF _) (jde hC (by decide +kernel : decode cJ6_getChars_ba4f3 3 = .ok (.iload_n 0, 1))) rfl rfl ?_
  refine sd_if_ge (tgt := 11) (hF _) (jde hC (by decide +kernel : decode cJ6_getChars_ba4f3 4 = .ok (.ifCond .ge 7, 3))) rfl (fun _ => ?_) (fun z => absurd (nI_pos' (by omega)) z)
  refine sd_iconst (v := 0) (hF _) (jde hC (by decide +kernel : decode cJ6_getChars_ba4f3 11 = .ok (.iconst 0, 1))) ?_
  refine jd_istore (i := 6) (hF _) (jde hC (by decide +kernel : decode cJ6_getChars_ba4f3 12 = .ok (.istore 6, 2))) rfl (Nat.le_of_ble_eq_true rfl) ?_
  refine jd_iload (i := 6) (hF _) (jde hC (by decide +kernel : decode cJ6_getChars_ba4f3 14 = .ok (.iload 6, 2))) rfl ?_
  refine sd_if_ne (tgt := 22) (hF _) (jde hC (by decide +kernel : decode cJ6_getChars_ba4f3 16 = .ok (.ifCond .ne 6, 3))) rfl (fun z => absurd (rfl) z) (fun _ => ?_)
  refine jd_iload_n (i := 0) (hF _) (jde hC (by decide +kernel : decode cJ6_getChars_ba4f3 19 = .ok (.iload_n 0, 1))) rfl rfl ?_
  refine sd_ineg (hF _) (jde hC (by decide +kernel : decode cJ6_getChars_ba4f3 20 = .ok (.ineg, 1))) ?_
  refine jd_istore_n (i := 0) (hF _) (jde hC (by decide +kernel : decode cJ6_getChars_ba4f3 21 = .ok (.istore_n 0, 1))) rfl rfl (Nat.le_of_ble_eq_true rfl) ?_
  refine jd_iload_n (i := 0) (hF _) (jde hC (by decide +kernel : decode cJ6_getChars_ba4f3 22 = .ok (.iload_n 0, 1))) rfl rfl ?_
  refine sd_bipush (v := -100) (hF _) (jde hC (by decide +kernel : decode cJ6_getChars_ba4f3 23 = .ok (.bipush (-100), 2))) ?_
  show WJ x ((h, .inr (8, [v0, v1, v2, v3])) :: (q, .inl (cs 5, cap, .inl f)) :: R : va_W) 25 ([some (.inl (.int (-(nI w)))), some (.inl (.int (nI (n + 2)))), some (.inl (.ref q)), none, none, some (.inl (.int (nI (n + 2)))), some (.inl (.int 0))] : Ls) ([.inl (.int (-100)), .inl (.int (-(nI w)))] : List AV) 0
  refine sd_icmp_gt (tgt := 72) (hF _) (jde hC (by decide +kernel : decode cJ6_getChars_ba4f3 25 = .ok (.if_icmp .gt 47, 3))) rfl (fun _ => ?_) (fun z => absurd ((sb_nlt (a := 100) (b := w) (by omega) (by omega)).mpr (by omega)) z)
  refine jd_aload_n (i := 2) (hF _) (jde hC (by decide +kernel : decode cJ6_getChars_ba4f3 72 = .ok (.aload_n 2, 1))) rfl rfl ?_
  refine sd_iinc (i := 5) (a := (nI (n + 2))) (hF _) (jde hC (by decide +kernel : decode cJ6_getChars_ba4f3 73 = .ok (.iinc 5 (-1), 3))) rfl rfl (Nat.le_of_ble_eq_true rfl) ?_
  refine jd_ls (ls' := ([some (.inl (.int (-(nI w)))), some (.inl (.int (nI (n + 2)))), some (.inl (.ref q)), none, none, some (.inl (.int (nI (n + 1)))), some (.inl (.int 0))] : Ls)) (congrArg (fun z => ([some (.inl (.int (-(nI w)))), some (.inl (.int (nI (n + 2)))), some (.inl (.ref q)), none, none, some (.inl (.int z)), some (.inl (.int 0))] : Ls)) (dec1 (n + 1))) ?_
  refine jd_iload (i := 5) (hF _) (jde hC (by decide +kernel : decode cJ6_getChars_ba4f3 76 = .ok (.iload 5, 2))) rfl ?_
  refine jd_ones (hF _) (jde hC (by decide +kernel : decode cJ6_getChars_ba4f3 78 = .ok (.getstatic 83, 3))) (by (try rw [xwO]); rw [hO]; exact we_924) (fun t1 ht1 => ?_)
  refine jd_iload_n (i := 0) (hF _) (jde hC (by decide +kernel : decode cJ6_getChars_ba4f3 81 = .ok (.iload_n 0, 1))) rfl rfl ?_
  refine sd_ineg (hF _) (jde hC (by decide +kernel : decode cJ6_getChars_ba4f3 82 = .ok (.ineg, 1))) ?_
  refine jd_top (b := .inl (.int (nI (w)))) (congrArg (fun z => (Sum.inl (Value.int z) : AV)) (ng_ng)) ?_
  refine ht1 _ _ _ _ _ _ (jde hC (by decide +kernel : decode cJ6_getChars_ba4f3 83 = .ok (.baload, 1))) (in_of (by omega) (by omega)) ?_
  refine jd_top (b := .inl (.int (nI (48 + (w) % 10)))) (congrArg (fun z => (Sum.inl (Value.int z) : AV)) (congrArg (fun z => Int32.ofNat (48 + z % 10)) (nI_clamp (n := w) (by omega)))) ?_
  refine jd_bast (k := 1) (n := cap) (f := f) (hF _) (jde hC (by decide +kernel : decode cJ6_getChars_ba4f3 84 = .ok (.bastore, 1))) (by rw [hK]; rfl) (in_of (by omega) (by omega)) ?_
  refine jd_e (ws' := ((h, .inr (8, [v0, v1, v2, v3])) :: (q, .inl (cs 5, cap, .inl (upd f (n + 1) (nI (48 + (w) % 10))))) :: R : va_W)) (by rw [hK, nI_clamp (by omega), vb_d (by omega)]; rfl) ?_
  show WJ x ((h, .inr (8, [v0, v1, v2, v3])) :: (q, .inl (cs 5, cap, .inl (upd f (n + 1) (nI (48 + (w) % 10))))) :: R : va_W) 85 ([some (.inl (.int (-(nI w)))), some (.inl (.int (nI (n + 2)))), some (.inl (.ref q)), none, none, some (.inl (.int (nI (n + 1)))), some (.inl (.int 0))] : Ls) ([] : List AV) 0
  refine jd_iload_n (i := 0) (hF _) (jde hC (by decide +kernel : decode cJ6_getChars_ba4f3 85 = .ok (.iload_n 0, 1))) rfl rfl ?_
  refine sd_bipush (v := -9) (hF _) (jde hC (by decide +kernel : decode cJ6_getChars_ba4f3 86 = .ok (.bipush (-9), 2))) ?_
  show WJ x ((h, .inr (8, [v0, v1, v2, v3])) :: (q, .inl (cs 5, cap, .inl (upd f (n + 1) (nI (48 + (w) % 10))))) :: R : va_W) 88 ([some (.inl (.int (-(nI w)))), some (.inl (.int (nI (n + 2)))), some (.inl (.ref q)), none, none, some (.inl (.int (nI (n + 1)))), some (.inl (.int 0))] : Ls) ([.inl (.int (-9)), .inl (.int (-(nI w)))] : List AV) 0
  refine sd_icmp_ge (tgt := 104) (hF _) (jde hC (by decide +kernel : decode cJ6_getChars_ba4f3 88 = .ok (.if_icmp .ge 16, 3))) rfl (fun z => absurd z (fun z => absurd ((sb_nle (a := 9) (b := w) (by omega) (by omega)).mp (show -nI 9 ≤ -nI w from z)) (by omega))) (fun _ => ?_)
  refine jd_aload_n (i := 2) (hF _) (jde hC (by decide +kernel : decode cJ6_getChars_ba4f3 91 = .ok (.aload_n 2, 1))) rfl rfl ?_
  refine sd_iinc (i := 5) (a := (nI (n + 1))) (hF _) (jde hC (by decide +kernel : decode cJ6_getChars_ba4f3 92 = .ok (.iinc 5 (-1), 3))) rfl rfl (Nat.le_of_ble_eq_true rfl) ?_
  refine jd_ls (ls' := ([some (.inl (.int (-(nI w)))), some (.inl (.int (nI (n + 2)))), some (.inl (.ref q)), none, none, some (.inl (.int (nI (n + 0)))), some (.inl (.int 0))] : Ls)) (congrArg (fun z => ([some (.inl (.int (-(nI w)))), some (.inl (.int (nI (n + 2)))), some (.inl (.ref q)), none, none, some (.inl (.int z)), some (.inl (.int 0))] : Ls)) (dec1 (n + 0))) ?_
  refine jd_iload (i := 5) (hF _) (jde hC (by decide +kernel : decode cJ6_getChars_ba4f3 95 = .ok (.iload 5, 2))) rfl ?_
  refine jd_tens (hF _) (jde hC (by decide +kernel : decode cJ6_getChars_ba4f3 97 = .ok (.getstatic 87, 3))) (by (try rw [xwO]); rw [hO]; exact we_926) (fun t2 ht2 => ?_)
  refine jd_iload_n (i := 0) (hF _) (jde hC (by decide +kernel : decode cJ6_getChars_ba4f3 100 = .ok (.iload_n 0, 1))) rfl rfl ?_
  refine sd_ineg (hF _) (jde hC (by decide +kernel : decode cJ6_getChars_ba4f3 101 = .ok (.ineg, 1))) ?_
  refine jd_top (b := .inl (.int (nI (w)))) (congrArg (fun z => (Sum.inl (Value.int z) : AV)) (ng_ng)) ?_
  refine ht2 _ _ _ _ _ _ (jde hC (by decide +kernel : decode cJ6_getChars_ba4f3 102 = .ok (.baload, 1))) (in_of (by omega) (by omega)) ?_
  refine jd_top (b := .inl (.int (nI (48 + (w) / 10)))) (congrArg (fun z => (Sum.inl (Value.int z) : AV)) (congrArg (fun z => Int32.ofNat (48 + z / 10)) (nI_clamp (n := w) (by omega)))) ?_
  refine jd_bast (k := 1) (n := cap) (f := (upd f (n + 1) (nI (48 + (w) % 10)))) (hF _) (jde hC (by decide +kernel : decode cJ6_getChars_ba4f3 103 = .ok (.bastore, 1))) (by rw [hK]; rfl) (in_of (by omega) (by omega)) ?_
  refine jd_e (ws' := ((h, .inr (8, [v0, v1, v2, v3])) :: (q, .inl (cs 5, cap, .inl (upd (upd f (n + 1) (nI (48 + (w) % 10))) (n + 0) (nI (48 + (w) / 10))))) :: R : va_W)) (by rw [hK, nI_clamp (by omega), vb_d (by omega)]; rfl) ?_
  show WJ x ((h, .inr (8, [v0, v1, v2, v3])) :: (q, .inl (cs 5, cap, .inl (upd (upd f (n + 1) (nI (48 + (w) % 10))) (n + 0) (nI (48 + (w) / 10))))) :: R : va_W) 104 ([some (.inl (.int (-(nI w)))), some (.inl (.int (nI (n + 2)))), some (.inl (.ref q)), none, none, some (.inl (.int (nI (n + 0)))), some (.inl (.int 0))] : Ls) ([] : List AV) 0
  refine jd_iload (i := 6) (hF _) (jde hC (by decide +kernel : decode cJ6_getChars_ba4f3 104 = .ok (.iload 6, 2))) rfl ?_
  refine sd_if_eq (tgt := 118) (hF _) (jde hC (by decide +kernel : decode cJ6_getChars_ba4f3 106 = .ok (.ifCond .eq 12, 3))) rfl (fun _ => ?_) (fun z => absurd (rfl) z)
  refine jd_iload (i := 5) (hF _) (jde hC (by decide +kernel : decode cJ6_getChars_ba4f3 118 = .ok (.iload 5, 2))) rfl ?_
  refine hE _ 120 0 _ _ (some (.int (nI (n + 0)))) (by decide +kernel : decode cJ6_getChars_ba4f3 120 = .ok (.ireturn, 1)) ⟨_, _, rfl, rfl, rfl⟩ ⟨rfl, _, rfl, (sb_fitU (sb_fitU hf (fb_d (by omega))) (fb_d (by omega))), fun j hj => by rw [pk_un (by omega)]; rw [pk_un (by omega)], ?_⟩ (Nat.le_of_ble_eq_true rfl)
  intro j hj
  rcases Nat.eq_or_lt_of_le (show 0 ≤ j by omega) with hj0 | hj0
  · rw [← hj0]
    exact pk_us.trans (congrArg nI (show 48 + w / 10 = 48 + w / 10 by omega))
  rcases Nat.eq_or_lt_of_le (show 1 ≤ j by omega) with hj1 | hj1
  · rw [← hj1]
    rw [pk_un (by omega)]
    exact pk_us.trans (congrArg nI (show 48 + w % 10 = 48 + w % 10 by omega))
  exact absurd hj (by simp; omega)
set_option maxRecDepth 100000 in
theorem jm_gc_03 {D : va_G} {cs : Nat → ClassId} {b : Nat} {ad : Rf → Nat} {adV : Nat → Nat} {sc : Nat × (Nat → Int32)} {l : Launch} {h q cap n w : Nat} {f : Nat → Int32} {v0 v1 v2 v3 : Value} {R : va_W} (hw : w < 1000) (h0 : 100 ≤ w) (hf : sb_Fit f) (hn : n + 3 ≤ cap) (hc : cap ≤ 100) : JC (D, cs, b, ad, adV, sc) l yJ6_getChars_ba4f3 cJ6_getChars_ba4f3 7 (some .int) 0 0 [.int (nI w), .int (nI (n + 3)), .ref q] ((h, .inr (8, [v0, v1, v2, v3])) :: (q, .inl (cs 5, cap, .inl f)) :: R : va_W) (fun v w2 => some (.int (nI n)) = v ∧ ∃ f2 : Nat → Int32, ((h, .inr (8, [v0, v1, v2, v3])) :: (q, .inl (cs 5, cap, .inl f2)) :: R : va_W) = w2 ∧ sb_Fit f2 ∧ (∀ j, j < n → f2 j = f j) ∧ ∀ j, j < [nI (48 + w / 100), nI (48 + w / 10 % 10), nI (48 + w % 10)].length → f2 (n + j) = [nI (48 + w / 100), nI (48 + w / 10 % 10), nI (48 + w % 10)].getD j 0) := by
  refine jc_of (by decide +kernel) (by simp [Value.category]) (Nat.le_of_ble_eq_true rfl) ?_
  intro x hF hC hO hG hV hK hH hI hE
  show WJ x ((h, .inr (8, [v0, v1, v2, v3])) :: (q, .inl (cs 5, cap, .inl f)) :: R : va_W) 0 ([some (.inl (.int (nI w))), some (.inl (.int (nI (n + 3)))), some (.inl (.ref q)), none, none, none, none] : Ls) ([] : List AV) 0
  refine jd_iload_n (i := 1) (hF _) (jde hC (by decide +kernel : decode cJ6_getChars_ba4f3 0 = .ok (.iload_n 1, 1))) rfl rfl ?_
  refine jd_istore (i := 5) (hF _) (jde hC (by decide +kernel : decode cJ6_getChars_ba4f3 1 = .ok (.istore 5, 2))) rfl (Nat.le_of_ble_eq_true rfl) ?_
  refine jd_iload_n (i := 0) (hF _) (jde hC (by decide +kernel : decode cJ6_getChars_ba4f3 3 = .ok (.iload_n 0, 1))) rfl rfl ?_
  refine sd_if_ge (tgt := 11) (hF _) (jde hC (by decide +kernel : decode cJ6_getChars_ba4f3 4 = .ok (.ifCond .ge 7, 3))) rfl (fun _ => ?_) (fun z => absurd (nI_pos' (by omega)) z)
  refine sd_iconst (v := 0) (hF _) (jde hC (by decide +kernel : decode cJ6_getChars_ba4f3 11 = .ok (.iconst 0, 1))) ?_
  refine jd_istore (i := 6) (hF _) (jde hC (by decide +kernel : decode cJ6_getChars_ba4f3 12 = .ok (.istore 6, 2))) rfl (Nat.le_of_ble_eq_true rfl) ?_
  refine jd_iload (i := 6) (hF _) (jde hC (by decide +kernel : decode cJ6_getChars_ba4f3 14 = .ok (.iload 6, 2))) rfl ?_
  refine sd_if_ne (tgt := 22) (hF _) (jde hC (by decide +kernel : decode cJ6_getChars_ba4f3 16 = .ok (.ifCond .ne 6, 3))) rfl (fun z => absurd (rfl) z) (fun _ => ?_)
  refine jd_iload_n (i := 0) (hF _) (jde hC (by decide +kernel : decode cJ6_getChars_ba4f3 19 = .ok (.iload_n 0, 1))) rfl rfl ?_
  refine sd_ineg (hF _) (jde hC (by decide +kernel : decode cJ6_getChars_ba4f3 20 = .ok (.ineg, 1))) ?_
  refine jd_istore_n (i := 0) (hF _) (jde hC (by decide +kernel : decode cJ6_getChars_ba4f3 21 = .ok (.istore_n 0, 1))) rfl rfl (Nat.le_of_ble_eq_true rfl) ?_
  refine jd_iload_n (i := 0) (hF _) (jde hC (by decide +kernel : decode cJ6_getChars_ba4f3 22 = .ok (.iload_n 0, 1))) rfl rfl ?_
  refine sd_bipush (v := -100) (hF _) (jde hC (by decide +kernel : decode cJ6_getChars_ba4f3 23 = .ok (.bipush (-100), 2))) ?_
  show WJ x ((h, .inr (8, [v0, v1, v2, v3])) :: (q, .inl (cs 5, cap, .inl f)) :: R : va_W) 25 ([some (.inl (.int (-(nI w)))), some (.inl (.int (nI (n + 3)))), some (.inl (.ref q)), none, none, some (.inl (.int (nI (n + 3)))), some (.inl (.int 0))] : Ls) ([.inl (.int (-100)), .inl (.int (-(nI w)))] : List AV) 0
  refine sd_icmp_gt (tgt := 72) (hF _) (jde hC (by decide +kernel : decode cJ6_getChars_ba4f3 25 = .ok (.if_icmp .gt 47, 3))) rfl (fun z => absurd z (fun z => absurd ((sb_nlt (a := 100) (b := w) (by omega) (by omega)).mp (show -nI 100 < -nI w from z)) (by omega))) (fun _ => ?_)
  refine jd_iload_n (i := 0) (hF _) (jde hC (by decide +kernel : decode cJ6_getChars_ba4f3 28 = .ok (.iload_n 0, 1))) rfl rfl ?_
  refine sd_bipush (v := 100) (hF _) (jde hC (by decide +kernel : decode cJ6_getChars_ba4f3 29 = .ok (.bipush 100, 2))) ?_
  show WJ x ((h, .inr (8, [v0, v1, v2, v3])) :: (q, .inl (cs 5, cap, .inl f)) :: R : va_W) 31 ([some (.inl (.int (-(nI w)))), some (.inl (.int (nI (n + 3)))), some (.inl (.ref q)), none, none, some (.inl (.int (nI (n + 3)))), some (.inl (.int 0))] : Ls) ([.inl (.int 100), .inl (.int (-(nI w)))] : List AV) 0
  refine sd_idiv (hF _) (jde hC (by decide +kernel : decode cJ6_getChars_ba4f3 31 = .ok (.idiv, 1))) (by decide) ?_
  refine jd_top (b := .inl (.int (-nI (w / 100)))) (congrArg (fun z => (Sum.inl (Value.int z) : AV)) (sb_ndiv (by omega))) ?_
  refine jd_istore_n (i := 3) (hF _) (jde hC (by decide +kernel : decode cJ6_getChars_ba4f3 32 = .ok (.istore_n 3, 1))) rfl rfl (Nat.le_of_ble_eq_true rfl) ?_
  refine jd_iload_n (i := 3) (hF _) (jde hC (by decide +kernel : decode cJ6_getChars_ba4f3 33 = .ok (.iload_n 3, 1))) rfl rfl ?_
  refine sd_bipush (v := 100) (hF _) (jde hC (by decide +kernel : decode cJ6_getChars_ba4f3 34 = .ok (.bipush 100, 2))) ?_
  show WJ x ((h, .inr (8, [v0, v1, v2, v3])) :: (q, .inl (cs 5, cap, .inl f)) :: R : va_W) 36 ([some (.inl (.int (-(nI w)))), some (.inl (.int (nI (n + 3)))), some (.inl (.ref q)), some (.inl (.int (-nI (w / 100)))), none, some (.inl (.int (nI (n + 3)))), some (.inl (.int 0))] : Ls) ([.inl (.int 100), .inl (.int (-nI (w / 100)))] : List AV) 0
  refine sd_imul (hF _) (jde hC (by decide +kernel : decode cJ6_getChars_ba4f3 36 = .ok (.imul, 1))) ?_
  refine jd_iload_n (i := 0) (hF _) (jde hC (by decide +kernel : decode cJ6_getChars_ba4f3 37 = .ok (.iload_n 0, 1))) rfl rfl ?_
  refine sd_isub (hF _) (jde hC (by decide +kernel : decode cJ6_getChars_ba4f3 38 = .ok (.isub, 1))) ?_
  refine jd_top (b := .inl (.int (nI (w % 100)))) (congrArg (fun z => (Sum.inl (Value.int z) : AV)) (sb_nrem (by omega))) ?_
  refine jd_istore (i := 4) (hF _) (jde hC (by decide +kernel : decode cJ6_getChars_ba4f3 39 = .ok (.istore 4, 2))) rfl (Nat.le_of_ble_eq_true rfl) ?_
  refine jd_iload_n (i := 3) (hF _) (jde hC (by decide +kernel : decode cJ6_getChars_ba4f3 41 = .ok (.iload_n 3, 1))) rfl rfl ?_
  refine jd_istore_n (i := 0) (hF _) (jde hC (by decide +kernel : decode cJ6_getChars_ba4f3 42 = .ok (.istore_n 0, 1))) rfl rfl (Nat.le_of_ble_eq_true rfl) ?_
  refine jd_aload_n (i := 2) (hF _) (jde hC (by decide +kernel : decode cJ6_getChars_ba4f3 43 = .ok (.aload_n 2, 1))) rfl rfl ?_
  refine sd_iinc (i := 5) (a := (nI (n + 3))) (hF _) (jde hC (by decide +kernel : decode cJ6_getChars_ba4f3 44 = .ok (.iinc 5 (-1), 3))) rfl rfl (Nat.le_of_ble_eq_true rfl) ?_
  refine jd_ls (ls' := ([some (.inl (.int (-nI (w / 100)))), some (.inl (.int (nI (n + 3)))), some (.inl (.ref q)), some (.inl (.int (-nI (w / 100)))), some (.inl (.int (nI (w % 100)))), some (.inl (.int (nI (n + 2)))), some (.inl (.int 0))] : Ls)) (congrArg (fun z => ([some (.inl (.int (-nI (w / 100)))), some (.inl (.int (nI (n + 3)))), some (.inl (.ref q)), some (.inl (.int (-nI (w / 100)))), some (.inl (.int (nI (w % 100)))), some (.inl (.int z)), some (.inl (.int 0))] : Ls)) (dec1 (n + 2))) ?_
  refine jd_iload (i := 5) (hF _) (jde hC (by decide +kernel : decode cJ6_getChars_ba4f3 47 = .ok (.iload 5, 2))) rfl ?_
  refine jd_ones (hF _) (jde hC (by decide +kernel : decode cJ6_getChars_ba4f3 49 = .ok (.getstatic 83, 3))) (by (try rw [xwO]); rw [hO]; exact we_924) (fun t1 ht1 => ?_)
  refine jd_iload (i := 4) (hF _) (jde hC (by decide +kernel : decode cJ6_getChars_ba4f3 52 = .ok (.iload 4, 2))) rfl ?_
  refine ht1 _ _ _ _ _ _ (jde hC (by decide +kernel : decode cJ6_getChars_ba4f3 54 = .ok (.baload, 1))) (in_of (by omega) (by omega)) ?_
  refine jd_top (b := .inl (.int (nI (48 + (w % 100) % 10)))) (congrArg (fun z => (Sum.inl (Value.int z) : AV)) (congrArg (fun z => Int32.ofNat (48 + z % 10)) (nI_clamp (n := w % 100) (by omega)))) ?_
  refine jd_bast (k := 1) (n := cap) (f := f) (hF _) (jde hC (by decide +kernel : decode cJ6_getChars_ba4f3 55 = .ok (.bastore, 1))) (by rw [hK]; rfl) (in_of (by omega) (by omega)) ?_
  refine jd_e (ws' := ((h, .inr (8, [v0, v1, v2, v3])) :: (q, .inl (cs 5, cap, .inl (upd f (n + 2) (nI (48 + (w % 100) % 10))))) :: R : va_W)) (by rw [hK, nI_clamp (by omega), vb_d (by omega)]; rfl) ?_
  show WJ x ((h, .inr (8, [v0, v1, v2, v3])) :: (q, .inl (cs 5, cap, .inl (upd f (n + 2) (nI (48 + (w % 100) % 10))))) :: R : va_W) 56 ([some (.inl (.int (-nI (w / 100)))), some (.inl (.int (nI (n + 3)))), some (.inl (.ref q)), some (.inl (.int (-nI (w / 100)))), some (.inl (.int (nI (w % 100)))), some (.inl (.int (nI (n + 2)))), some (.inl (.int 0))] : Ls) ([] : List AV) 0
  refine jd_aload_n (i := 2) (hF _) (jde hC (by decide +kernel : decode cJ6_getChars_ba4f3 56 = .ok (.aload_n 2, 1))) rfl rfl ?_
  refine sd_iinc (i := 5) (a := (nI (n + 2))) (hF _) (jde hC (by decide +kernel : decode cJ6_getChars_ba4f3 57 = .ok (.iinc 5 (-1), 3))) rfl rfl (Nat.le_of_ble_eq_true rfl) ?_
  refine jd_ls (ls' := ([some (.inl (.int (-nI (w / 100)))), some (.inl (.int (nI (n + 3)))), some (.inl (.ref q)), some (.inl (.int (-nI (w / 100)))), some (.inl (.int (nI (w % 100)))), some (.inl (.int (nI (n + 1)))), some (.inl (.int 0))] : Ls)) (congrArg (fun z => ([some (.inl (.int (-nI (w / 100)))), some (.inl (.int (nI (n + 3)))), some (.inl (.ref q)), some (.inl (.int (-nI (w / 100)))), some (.inl (.int (nI (w % 100)))), some (.inl (.int z)), some (.inl (.int 0))] : Ls)) (dec1 (n + 1))) ?_
  refine jd_iload (i := 5) (hF _) (jde hC (by decide +kernel : decode cJ6_getChars_ba4f3 60 = .ok (.iload 5, 2))) rfl ?_
  refine jd_tens (hF _) (jde hC (by decide +kernel : decode cJ6_getChars_ba4f3 62 = .ok (.getstatic 87, 3))) (by (try rw [xwO]); rw [hO]; exact we_926) (fun t2 ht2 => ?_)
  refine jd_iload (i := 4) (hF _) (jde hC (by decide +kernel : decode cJ6_getChars_ba4f3 65 = .ok (.iload 4, 2))) rfl ?_
  refine ht2 _ _ _ _ _ _ (jde hC (by decide +kernel : decode cJ6_getChars_ba4f3 67 = .ok (.baload, 1))) (in_of (by omega) (by omega)) ?_
  refine jd_top (b := .inl (.int (nI (48 + (w % 100) / 10)))) (congrArg (fun z => (Sum.inl (Value.int z) : AV)) (congrArg (fun z => Int32.ofNat (48 + z / 10)) (nI_clamp (n := w % 100) (by omega)))) ?_
  refine jd_bast (k := 1) (n := cap) (f := (upd f (n + 2) (nI (48 + (w % 100) % 10)))) (hF _) (jde hC (by decide +kernel : decode cJ6_getChars_ba4f3 68 = .ok (.bastore, 1))) (by rw [hK]; rfl) (in_of (by omega) (by omega)) ?_
  refine jd_e (ws' := ((h, .inr (8, [v0, v1, v2, v3])) :: (q, .inl (cs 5, cap, .inl (upd (upd f (n + 2) (nI (48 + (w % 100) % 10))) (n + 1) (nI (48 + (w % 100) / 10))))) :: R : va_W)) (by rw [hK, nI_clamp (by omega), vb_d (by omega)]; rfl) ?_
  show WJ x ((h, .inr (8, [v0, v1, v2, v3])) :: (q, .inl (cs 5, cap, .inl (upd (upd f (n + 2) (nI (48 + (w % 100) % 10))) (n + 1) (nI (48 + (w % 100) / 10))))) :: R : va_W) 69 ([some (.inl (.int (-nI (w / 100)))), some (.inl (.int (nI (n + 3)))), some (.inl (.ref q)), some (.inl (.int (-nI (w / 100)))), some (.inl (.int (nI (w % 100)))), some (.inl (.int (nI (n + 1)))), some (.inl (.int 0))] : Ls) ([] : List AV) 0
  refine sd_goto (tgt := 22) (hF _) (jde hC (by decide +kernel : decode cJ6_getChars_ba4f3 69 = .ok (.goto (-47), 3))) rfl ?_
  refine jd_iload_n (i := 0) (hF _) (jde hC (by decide +kernel : decode cJ6_getChars_ba4f3 22 = .ok (.iload_n 0, 1))) rfl rfl ?_
  refine sd_bipush (v := -100) (hF _) (jde hC (by decide +kernel : decode cJ6_getChars_ba4f3 23 = .ok (.bipush (-100), 2))) ?_
  show WJ x ((h, .inr (8, [v0, v1, v2, v3])) :: (q, .inl (cs 5, cap, .inl (upd (upd f (n + 2) (nI (48 + (w % 100) % 10))) (n + 1) (nI (48 + (w % 100) / 10))))) :: R : va_W) 25 ([some (.inl (.int (-nI (w / 100)))), some (.inl (.int (nI (n + 3)))), some (.inl (.ref q)), some (.inl (.int (-nI (w / 100)))), some (.inl (.int (nI (w % 100)))), some (.inl (.int (nI (n + 1)))), some (.inl (.int 0))] : Ls) ([.inl (.int (-100)), .inl (.int (-nI (w / 100)))] : List AV) 0
  refine sd_icmp_gt (tgt := 72) (hF _) (jde hC (by decide +kernel : decode cJ6_getChars_ba4f3 25 = .ok (.if_icmp .gt 47, 3))) rfl (fun _ => ?_) (fun z => absurd ((sb_nlt (a := 100) (b := w / 100) (by omega) (by omega)).mpr (by omega)) z)
  refine jd_aload_n (i := 2) (hF _) (jde hC (by decide +kernel : decode cJ6_getChars_ba4f3 72 = .ok (.aload_n 2, 1))) rfl rfl ?_
  refine sd_iinc (i := 5) (a := (nI (n + 1))) (hF _) (jde hC (by decide +kernel : decode cJ6_getChars_ba4f3 73 = .ok (.iinc 5 (-1), 3))) rfl rfl (Nat.le_of_ble_eq_true rfl) ?_
  refine jd_ls (ls' := ([some (.inl (.int (-nI (w / 100)))), some (.inl (.int (nI (n + 3)))), some (.inl (.ref q)), some (.inl (.int (-nI (w / 100)))), some (.inl (.int (nI (w % 100)))), some (.inl (.int (nI (n + 0)))), some (.inl (.int 0))] : Ls)) (congrArg (fun z => ([some (.inl (.int (-nI (w / 100)))), some (.inl (.int (nI (n + 3)))), some (.inl (.ref q)), some (.inl (.int (-nI (w / 100)))), some (.inl (.int (nI (w % 100)))), some (.inl (.int z)), some (.inl (.int 0))] : Ls)) (dec1 (n + 0))) ?_
  refine jd_iload (i := 5) (hF _) (jde hC (by decide +kernel : decode cJ6_getChars_ba4f3 76 = .ok (.iload 5, 2))) rfl ?_
  refine jd_ones (hF _) (jde hC (by decide +kernel : decode cJ6_getChars_ba4f3 78 = .ok (.getstatic 83, 3))) (by (try rw [xwO]); rw [hO]; exact we_924) (fun t3 ht3 => ?_)
  refine jd_iload_n (i := 0) (hF _) (jde hC (by decide +kernel : decode cJ6_getChars_ba4f3 81 = .ok (.iload_n 0, 1))) rfl rfl ?_
  refine sd_ineg (hF _) (jde hC (by decide +kernel : decode cJ6_getChars_ba4f3 82 = .ok (.ineg, 1))) ?_
  refine jd_top (b := .inl (.int (nI (w / 100)))) (congrArg (fun z => (Sum.inl (Value.int z) : AV)) (ng_ng)) ?_
  refine ht3 _ _ _ _ _ _ (jde hC (by decide +kernel : decode cJ6_getChars_ba4f3 83 = .ok (.baload, 1))) (in_of (by omega) (by omega)) ?_
  refine jd_top (b := .inl (.int (nI (48 + (w / 100) % 10)))) (congrArg (fun z => (Sum.inl (Value.int z) : AV)) (congrArg (fun z => Int32.ofNat (48 + z % 10)) (nI_clamp (n := w / 100) (by omega)))) ?_
  refine jd_bast (k := 1) (n := cap) (f := (upd (upd f (n + 2) (nI (48 + (w % 100) % 10))) (n + 1) (nI (48 + (w % 100) / 10)))) (hF _) (jde hC (by decide +kernel : decode cJ6_getChars_ba4f3 84 = .ok (.bastore, 1))) (by rw [hK]; rfl) (in_of (by omega) (by omega)) ?_
  refine jd_e (ws' := ((h, .inr (8, [v0, v1, v2, v3])) :: (q, .inl (cs 5, cap, .inl (upd (upd (upd f (n + 2) (nI (48 + (w % 100) % 10))) (n + 1) (nI (48 + (w % 100) / 10))) (n + 0) (nI (48 + (w / 100) % 10))))) :: R : va_W)) (by rw [hK, nI_clamp (by omega), vb_d (by omega)]; rfl) ?_
  show WJ x ((h, .inr (8, [v0, v1, v2, v3])) :: (q, .inl (cs 5, cap, .inl (upd (upd (upd f (n + 2) (nI (48 + (w % 100) % 10))) (n + 1) (nI (48 + (w % 100) / 10))) (n + 0) (nI (48 + (w / 100) % 10))))) :: R : va_W) 85 ([some (.inl (.int (-nI (w / 100)))), some (.inl (.int (nI (n + 3)))), some (.inl (.ref q)), some (.inl (.int (-nI (w / 100)))), some (.inl (.int (nI (w % 100)))), some (.inl (.int (nI (n + 0)))), some (.inl (.int 0))] : Ls) ([] : List AV) 0
  refine jd_iload_n (i := 0) (hF _) (jde hC (by decide +kernel : decode cJ6_getChars_ba4f3 85 = .ok (.iload_n 0, 1))) rfl rfl ?_
  refine sd_bipush (v := -9) (hF _) (jde hC (by decide +kernel : decode cJ6_getChars_ba4f3 86 = .ok (.bipush (-9), 2))) ?_
  show WJ x ((h, .inr (8, [v0, v1, v2, v3])) :: (q, .inl (cs 5, cap, .inl (upd (upd (upd f (n + 2) (nI (48 + (w % 100) % 10))) (n + 1) (nI (48 + (w % 100) / 10))) (n + 0) (nI (48 + (w / 100) % 10))))) :: R : va_W) 88 ([some (.inl (.int (-nI (w / 100)))), some (.inl (.int (nI (n + 3)))), some (.inl (.ref q)), some (.inl (.int (-nI (w / 100)))), some (.inl (.int (nI (w % 100)))), some (.inl (.int (nI (n + 0)))), some (.inl (.int 0))] : Ls) ([.inl (.int (-9)), .inl (.int (-nI (w / 100)))] : List AV) 0
  refine sd_icmp_ge (tgt := 104) (hF _) (jde hC (by decide +kernel : decode cJ6_getChars_ba4f3 88 = .ok (.if_icmp .ge 16, 3))) rfl (fun _ => ?_) (fun z => absurd ((sb_nle (a := 9) (b := w / 100) (by omega) (by omega)).mpr (by omega)) z)
  refine jd_iload (i := 6) (hF _) (jde hC (by decide +kernel : decode cJ6_getChars_ba4f3 104 = .ok (.iload 6, 2))) rfl ?_
  refine sd_if_eq (tgt := 118) (hF _) (jde hC (by decide +kernel : decode cJ6_getChars_ba4f3 106 = .ok (.ifCond .eq 12, 3))) rfl (fun _ => ?_) (fun z => absurd (rfl) z)
  refine jd_iload (i := 5) (hF _) (jde hC (by decide +kernel : decode cJ6_getChars_ba4f3 118 = .ok (.iload 5, 2))) rfl ?_
  refine hE _ 120 0 _ _ (some (.int (nI (n + 0)))) (by decide +kernel : decode cJ6_getChars_ba4f3 120 = .ok (.ireturn, 1)) ⟨_, _, rfl, rfl, rfl⟩ ⟨rfl, _, rfl, (sb_fitU (sb_fitU (sb_fitU hf (fb_d (by omega))) (fb_d (by omega))) (fb_d (by omega))), fun j hj => by rw [pk_un (by omega)]; rw [pk_un (by omega)]; rw [pk_un (by omega)], ?_⟩ (Nat.le_of_ble_eq_true rfl)
  intro j hj
  rcases Nat.eq_or_lt_of_le (show 0 ≤ j by omega) with hj0 | hj0
  · rw [← hj0]
    exact pk_us.trans (congrArg nI (show 48 + w / 100 % 10 = 48 + w / 100 by omega))
  rcases Nat.eq_or_lt_of_le (show 1 ≤ j by omega) with hj1 | hj1
  · rw [← hj1]
    rw [pk_un (by omega)]
    exact pk_us.trans (congrArg nI (show 48 + w % 100 / 10 = 48 + w / 10 % 10 by omega))
  rcases Nat.eq_or_lt_of_le (show 2 ≤ j by omega) with hj2 | hj2
  · rw [← hj2]
    rw [pk_un (by omega)]
    rw [pk_un (by omega)]
    exact pk_us.trans (congrArg nI (show 48 + w % 100 % 10 = 48 + w % 10 by omega))
  exact absurd hj (by simp; omega)
set_option maxRecDepth 100000 in
theorem jm_gc_11 {D : va_G} {cs : Nat → ClassId} {b : Nat} {ad : Rf → Nat} {adV : Nat → Nat} {sc : Nat × (Nat → Int32)} {l : Launch} {h q cap n w : Nat} {f : Nat → Int32} {v0 v1 v2 v3 : Value} {R : va_W} (hw0 : 0 < w) (hw : w < 1000) (hd : w < 10) (hf : sb_Fit f) (hn : n + 2 ≤ cap) (hc : cap ≤ 100) : JC (D, cs, b, ad, adV, sc) l yJ6_getChars_ba4f3 cJ6_getChars_ba4f3 7 (some .int) 0 0 [.int (-nI w), .int (nI (n + 2)), .ref q] ((h, .inr (8, [v0, v1, v2, v3])) :: (q, .inl (cs 5, cap, .inl f)) :: R : va_W) (fun v w2 => some (.int (nI n)) = v ∧ ∃ f2 : Nat → Int32, ((h, .inr (8, [v0, v1, v2, v3])) :: (q, .inl (cs 5, cap, .inl f2)) :: R : va_W) = w2 ∧ sb_Fit f2 ∧ (∀ j, j < n → f2 j = f j) ∧ ∀ j, j < (45 :: [nI (48 + w)]).length → f2 (n + j) = (45 :: [nI (48 + w)]).getD j 0) := by
  refine jc_of (by decide +kernel) (by simp [Value.category]) (Nat.le_of_ble_eq_true rfl) ?_
  intro x hF hC hO hG hV hK hH hI hE
  show WJ x ((h, .inr (8, [v0, v1, v2, v3])) :: (q, .inl (cs 5, cap, .inl f)) :: R : va_W) 0 ([some (.inl (.int (-nI w))), some (.inl (.int (nI (n + 2)))), some (.inl (.ref q)), none, none, none, none] : Ls) ([] : List AV) 0
  refine jd_iload_n (i := 1) (hF _) (jde hC (by decide +kernel : decode cJ6_getChars_ba4f3 0 = .ok (.iload_n 1, 1))) rfl rfl ?_
  refine jd_istore (i := 5) (hF _) (jde hC (by decide +kernel : decode cJ6_getChars_ba4f3 1 = .ok (.istore 5, 2))) rfl (Nat.le_of_ble_eq_true rfl) ?_
  refine jd_iload_n (i := 0) (hF _) (jde hC (by decide +kernel : decode cJ6_getChars_ba4f3 3 = .ok (.iload_n 0, 1))) rfl rfl ?_
  refine sd_if_ge (tgt := 11) (hF _) (jde hC (by decide +kernel : decode cJ6_getChars_ba4f3 4 = .ok (.ifCond .ge 7, 3))) rfl (fun z => absurd z (fun z => absurd (ng_lt hw0 (by omega)) (Int32.not_lt.mpr z))) (fun _ => ?_)
  refine sd_iconst (v := 1) (hF _) (jde hC (by decide +kernel : decode cJ6_getChars_ba4f3 7 = .ok (.iconst 1, 1))) ?_
  refine sd_goto (tgt := 12) (hF _) (jde hC (by decide +kernel : decode cJ6_getChars_ba4f3 8 = .ok (.goto 4, 3))) rfl ?_
  refine jd_istore (i := 6) (hF _) (jde hC (by decide +kernel : decode cJ6_getChars_ba4f3 12 = .ok (.istore 6, 2))) rfl (Nat.le_of_ble_eq_true rfl) ?_
  refine jd_iload (i := 6) (hF _) (jde hC (by decide +kernel : decode cJ6_getChars_ba4f3 14 = .ok (.iload 6, 2))) rfl ?_
  refine sd_if_ne (tgt := 22) (hF _) (jde hC (by decide +kernel : decode cJ6_getChars_ba4f3 16 = .ok (.ifCond .ne 6, 3))) rfl (fun _ => ?_) (fun z => absurd z (by decide))
  refine jd_iload_n (i := 0) (hF _) (jde hC (by decide +kernel : decode cJ6_getChars_ba4f3 22 = .ok (.iload_n 0, 1))) rfl rfl ?_
  refine sd_bipush (v := -100) (hF _) (jde hC (by decide +kernel : decode cJ6_getChars_ba4f3 23 = .ok (.bipush (-100), 2))) ?_
  show WJ x ((h, .inr (8, [v0, v1, v2, v3])) :: (q, .inl (cs 5, cap, .inl f)) :: R : va_W) 25 ([some (.inl (.int (-nI w))), some (.inl (.int (nI (n + 2)))), some (.inl (.ref q)), none, none, some (.inl (.int (nI (n + 2)))), some (.inl (.int 1))] : Ls) ([.inl (.int (-100)), .inl (.int (-nI w))] : List AV) 0
  refine sd_icmp_gt (tgt := 72) (hF _) (jde hC (by decide +kernel : decode cJ6_getChars_ba4f3 25 = .ok (.if_icmp .gt 47, 3))) rfl (fun _ => ?_) (fun z => absurd ((sb_nlt (a := 100) (b := w) (by omega) (by omega)).mpr (by omega)) z)
  refine jd_aload_n (i := 2) (hF _) (jde hC (by decide +kernel : decode cJ6_getChars_ba4f3 72 = .ok (.aload_n 2, 1))) rfl rfl ?_
  refine sd_iinc (i := 5) (a := (nI (n + 2))) (hF _) (jde hC (by decide +kernel : decode cJ6_getChars_ba4f3 73 = .ok (.iinc 5 (-1), 3))) rfl rfl (Nat.le_of_ble_eq_true rfl) ?_
  refine jd_ls (ls' := ([some (.inl (.int (-nI w))), some (.inl (.int (nI (n + 2)))), some (.inl (.ref q)), none, none, some (.inl (.int (nI (n + 1)))), some (.inl (.int 1))] : Ls)) (congrArg (fun z => ([some (.inl (.int (-nI w))), some (.inl (.int (nI (n + 2)))), some (.inl (.ref q)), none, none, some (.inl (.int z)), some (.inl (.int 1))] : Ls)) (dec1 (n + 1))) ?_
  refine jd_iload (i := 5) (hF _) (jde hC (by decide +kernel : decode cJ6_getChars_ba4f3 76 = .ok (.iload 5, 2))) rfl ?_
  refine jd_ones (hF _) (jde hC (by decide +kernel : decode cJ6_getChars_ba4f3 78 = .ok (.getstatic 83, 3))) (by (try rw [xwO]); rw [hO]; exact we_924) (fun t1 ht1 => ?_)
  refine jd_iload_n (i := 0) (hF _) (jde hC (by decide +kernel : decode cJ6_getChars_ba4f3 81 = .ok (.iload_n 0, 1))) rfl rfl ?_
  refine sd_ineg (hF _) (jde hC (by decide +kernel : decode cJ6_getChars_ba4f3 82 = .ok (.ineg, 1))) ?_
  refine jd_top (b := .inl (.int (nI (w)))) (congrArg (fun z => (Sum.inl (Value.int z) : AV)) (ng_ng)) ?_
  refine ht1 _ _ _ _ _ _ (jde hC (by decide +kernel : decode cJ6_getChars_ba4f3 83 = .ok (.baload, 1))) (in_of (by omega) (by omega)) ?_
  refine jd_top (b := .inl (.int (nI (48 + (w) % 10)))) (congrArg (fun z => (Sum.inl (Value.int z) : AV)) (congrArg (fun z => Int32.ofNat (48 + z % 10)) (nI_clamp (n := w) (by omega)))) ?_
  refine jd_bast (k := 1) (n := cap) (f := f) (hF _) (jde hC (by decide +kernel : decode cJ6_getChars_ba4f3 84 = .ok (.bastore, 1))) (by rw [hK]; rfl) (in_of (by omega) (by omega)) ?_
  refine jd_e (ws' := ((h, .inr (8, [v0, v1, v2, v3])) :: (q, .inl (cs 5, cap, .inl (upd f (n + 1) (nI (48 + (w) % 10))))) :: R : va_W)) (by rw [hK, nI_clamp (by omega), vb_d (by omega)]; rfl) ?_
  show WJ x ((h, .inr (8, [v0, v1, v2, v3])) :: (q, .inl (cs 5, cap, .inl (upd f (n + 1) (nI (48 + (w) % 10))))) :: R : va_W) 85 ([some (.inl (.int (-nI w))), some (.inl (.int (nI (n + 2)))), some (.inl (.ref q)), none, none, some (.inl (.int (nI (n + 1)))), some (.inl (.int 1))] : Ls) ([] : List AV) 0
  refine jd_iload_n (i := 0) (hF _) (jde hC (by decide +kernel : decode cJ6_getChars_ba4f3 85 = .ok (.iload_n 0, 1))) rfl rfl ?_
  refine sd_bipush (v := -9) (hF _) (jde hC (by decide +kernel : decode cJ6_getChars_ba4f3 86 = .ok (.bipush (-9), 2))) ?_
  show WJ x ((h, .inr (8, [v0, v1, v2, v3])) :: (q, .inl (cs 5, cap, .inl (upd f (n + 1) (nI (48 + (w) % 10))))) :: R : va_W) 88 ([some (.inl (.int (-nI w))), some (.inl (.int (nI (n + 2)))), some (.inl (.ref q)), none, none, some (.inl (.int (nI (n + 1)))), some (.inl (.int 1))] : Ls) ([.inl (.int (-9)), .inl (.int (-nI w))] : List AV) 0
  refine sd_icmp_ge (tgt := 104) (hF _) (jde hC (by decide +kernel : decode cJ6_getChars_ba4f3 88 = .ok (.if_icmp .ge 16, 3))) rfl (fun _ => ?_) (fun z => absurd ((sb_nle (a := 9) (b := w) (by omega) (by omega)).mpr (by omega)) z)
  refine jd_iload (i := 6) (hF _) (jde hC (by decide +kernel : decode cJ6_getChars_ba4f3 104 = .ok (.iload 6, 2))) rfl ?_
  refine sd_if_eq (tgt := 118) (hF _) (jde hC (by decide +kernel : decode cJ6_getChars_ba4f3 106 = .ok (.ifCond .eq 12, 3))) rfl (fun z => absurd z (by decide)) (fun _ => ?_)
  refine jd_aload_n (i := 2) (hF _) (jde hC (by decide +kernel : decode cJ6_getChars_ba4f3 109 = .ok (.aload_n 2, 1))) rfl rfl ?_
  refine sd_iinc (i := 5) (a := (nI (n + 1))) (hF _) (jde hC (by decide +kernel : decode cJ6_getChars_ba4f3 110 = .ok (.iinc 5 (-1), 3))) rfl rfl (Nat.le_of_ble_eq_true rfl) ?_
  refine jd_ls (ls' := ([some (.inl (.int (-nI w))), some (.inl (.int (nI (n + 2)))), some (.inl (.ref q)), none, none, some (.inl (.int (nI (n + 0)))), some (.inl (.int 1))] : Ls)) (congrArg (fun z => ([some (.inl (.int (-nI w))), some (.inl (.int (nI (n + 2)))), some (.inl (.ref q)), none, none, some (.inl (.int z)), some (.inl (.int 1))] : Ls)) (dec1 (n + 0))) ?_
  refine jd_iload (i := 5) (hF _) (jde hC (by decide +kernel : decode cJ6_getChars_ba4f3 113 = .ok (.iload 5, 2))) rfl ?_
  refine sd_bipush (v := 45) (hF _) (jde hC (by decide +kernel : decode cJ6_getChars_ba4f3 115 = .ok (.bipush 45, 2))) ?_
  show WJ x ((h, .inr (8, [v0, v1, v2, v3])) :: (q, .inl (cs 5, cap, .inl (upd f (n + 1) (nI (48 + (w) % 10))))) :: R : va_W) 117 ([some (.inl (.int (-nI w))), some (.inl (.int (nI (n + 2)))), some (.inl (.ref q)), none, none, some (.inl (.int (nI (n + 0)))), some (.inl (.int 1))] : Ls) ([.inl (.int 45), .inl (.int (nI (n + 0))), .inl (.ref q)] : List AV) 0
  refine jd_bast (k := 1) (n := cap) (f := (upd f (n + 1) (nI (48 + (w) % 10)))) (hF _) (jde hC (by decide +kernel : decode cJ6_getChars_ba4f3 117 = .ok (.bastore, 1))) (by rw [hK]; rfl) (in_of (by omega) (by omega)) ?_
  refine jd_e (ws' := ((h, .inr (8, [v0, v1, v2, v3])) :: (q, .inl (cs 5, cap, .inl (upd (upd f (n + 1) (nI (48 + (w) % 10))) (n + 0) (45)))) :: R : va_W)) (by rw [hK, nI_clamp (by omega), (show vp_nar .byte (45 : Int32) = 45 from vb_d (d := 45) (by decide))]; rfl) ?_
  show WJ x ((h, .inr (8, [v0, v1, v2, v3])) :: (q, .inl (cs 5, cap, .inl (upd (upd f (n + 1) (nI (48 + (w) % 10))) (n + 0) (45)))) :: R : va_W) 118 ([some (.inl (.int (-nI w))), some (.inl (.int (nI (n + 2)))), some (.inl (.ref q)), none, none, some (.inl (.int (nI (n + 0)))), some (.inl (.int 1))] : Ls) ([] : List AV) 0
  refine jd_iload (i := 5) (hF _) (jde hC (by decide +kernel : decode cJ6_getChars_ba4f3 118 = .ok (.iload 5, 2))) rfl ?_
  refine hE _ 120 0 _ _ (some (.int (nI (n + 0)))) (by decide +kernel : decode cJ6_getChars_ba4f3 120 = .ok (.ireturn, 1)) ⟨_, _, rfl, rfl, rfl⟩ ⟨rfl, _, rfl, (sb_fitU (sb_fitU hf (fb_d (by omega))) (fb_d (d := 45) (by decide))), fun j hj => by rw [pk_un (by omega)]; rw [pk_un (by omega)], ?_⟩ (Nat.le_of_ble_eq_true rfl)
  intro j hj
  rcases Nat.eq_or_lt_of_le (show 0 ≤ j by omega) with hj0 | hj0
  · rw [← hj0]
    exact pk_us
  rcases Nat.eq_or_lt_of_le (show 1 ≤ j by omega) with hj1 | hj1
  · rw [← hj1]
    rw [pk_un (by omega)]
    exact pk_us.trans (congrArg nI (show 48 + w % 10 = 48 + w by omega))
  exact absurd hj (by simp; omega)
set_option maxRecDepth 100000 in
theorem jm_gc_12 {D : va_G} {cs : Nat → ClassId} {b : Nat} {ad : Rf → Nat} {adV : Nat → Nat} {sc : Nat × (Nat → Int32)} {l : Launch} {h q cap n w : Nat} {f : Nat → Int32} {v0 v1 v2 v3 : Value} {R : va_W} (hw0 : 0 < w) (hw : w < 1000) (h0 : 10 ≤ w) (hd : w < 100) (hf : sb_Fit f) (hn : n + 3 ≤ cap) (hc : cap ≤ 100) : JC (D, cs, b, ad, adV, sc) l yJ6_getChars_ba4f3 cJ6_getChars_ba4f3 7 (some .int) 0 0 [.int (-nI w), .int (nI (n + 3)), .ref q] ((h, .inr (8, [v0, v1, v2, v3])) :: (q, .inl (cs 5, cap, .inl f)) :: R : va_W) (fun v w2 => some (.int (nI n)) = v ∧ ∃ f2 : Nat → Int32, ((h, .inr (8, [v0, v1, v2, v3])) :: (q, .inl (cs 5, cap, .inl f2)) :: R : va_W) = w2 ∧ sb_Fit f2 ∧ (∀ j, j < n → f2 j = f j) ∧ ∀ j, j < (45 :: [nI (48 + w / 10), nI (48 + w % 10)]).length → f2 (n + j) = (45 :: [nI (48 + w / 10), nI (48 + w % 10)]).getD j 0) := by
  refine jc_of (by decide +kernel) (by simp [Value.category]) (Nat.le_of_ble_eq_true rfl) ?_
  intro x hF hC hO hG hV hK hH hI hE
  show WJ x ((h, .inr (8, [v0, v1, v2, v3])) :: (q, .inl (cs 5, cap, .inl f)) :: R : va_W) 0 ([some (.inl (.int (-nI w))), some (.inl (.int (nI (n + 3)))), some (.inl (.ref q)), none, none, none, none] : Ls) ([] : List AV) 0
  refine jd_iload_n (i := 1) (hF _) (jde hC (by decide +kernel : decode cJ6_getChars_ba4f3 0 = .ok (.iload_n 1, 1))) rfl rfl ?_
  refine jd_istore (i := 5) (hF _) (jde hC (by decide +kernel : decode cJ6_getChars_ba4f3 1 = .ok (.istore 5, 2))) rfl (Nat.le_of_ble_eq_true rfl) ?_
  refine jd_iload_n (i := 0) (hF _) (jde hC (by decide +kernel : decode cJ6_getChars_ba4f3 3 = .ok (.iload_n 0, 1))) rfl rfl ?_
  refine sd_if_ge (tgt := 11) (hF _) (jde hC (by decide +kernel : decode cJ6_getChars_ba4f3 4 = .ok (.ifCond .ge 7, 3))) rfl (fun z => absurd z (fun z => absurd (ng_lt hw0 (by omega)) (Int32.not_lt.mpr z))) (fun _ => ?_)
  refine sd_iconst (v := 1) (hF _) (jde hC (by decide +kernel : decode cJ6_getChars_ba4f3 7 = .ok (.iconst 1, 1))) ?_
  refine sd_goto (tgt := 12) (hF _) (jde hC (by decide +kernel : decode cJ6_getChars_ba4f3 8 = .ok (.goto 4, 3))) rfl ?_
  refine jd_istore (i := 6) (hF _) (jde hC (by decide +kernel : decode cJ6_getChars_ba4f3 12 = .ok (.istore 6, 2))) rfl (Nat.le_of_ble_eq_true rfl) ?_
  refine jd_iload (i := 6) (hF _) (jde hC (by decide +kernel : decode cJ6_getChars_ba4f3 14 = .ok (.iload 6, 2))) rfl ?_
  refine sd_if_ne (tgt := 22) (hF _) (jde hC (by decide +kernel : decode cJ6_getChars_ba4f3 16 = .ok (.ifCond .ne 6, 3))) rfl (fun _ => ?_) (fun z => absurd z (by decide))
  refine jd_iload_n (i := 0) (hF _) (jde hC (by decide +kernel : decode cJ6_getChars_ba4f3 22 = .ok (.iload_n 0, 1))) rfl rfl ?_
  refine sd_bipush (v := -100) (hF _) (jde hC (by decide +kernel : decode cJ6_getChars_ba4f3 23 = .ok (.bipush (-100), 2))) ?_
  show WJ x ((h, .inr (8, [v0, v1, v2, v3])) :: (q, .inl (cs 5, cap, .inl f)) :: R : va_W) 25 ([some (.inl (.int (-nI w))), some (.inl (.int (nI (n + 3)))), some (.inl (.ref q)), none, none, some (.inl (.int (nI (n + 3)))), some (.inl (.int 1))] : Ls) ([.inl (.int (-100)), .inl (.int (-nI w))] : List AV) 0
  refine sd_icmp_gt (tgt := 72) (hF _) (jde hC (by decide +kernel : decode cJ6_getChars_ba4f3 25 = .ok (.if_icmp .gt 47, 3))) rfl (fun _ => ?_) (fun z => absurd ((sb_nlt (a := 100) (b := w) (by omega) (by omega)).mpr (by omega)) z)
  refine jd_aload_n (i := 2) (hF _) (jde hC (by decide +kernel : decode cJ6_getChars_ba4f3 72 = .ok (.aload_n 2, 1))) rfl rfl ?_
  refine sd_iinc (i := 5) (a := (nI (n + 3))) (hF _) (jde hC (by decide +kernel : decode cJ6_getChars_ba4f3 73 = .ok (.iinc 5 (-1), 3))) rfl rfl (Nat.le_of_ble_eq_true rfl) ?_
  refine jd_ls (ls' := ([some (.inl (.int (-nI w))), some (.inl (.int (nI (n + 3)))), some (.inl (.ref q)), none, none, some (.inl (.int (nI (n + 2)))), some (.inl (.int 1))] : Ls)) (congrArg (fun z => ([some (.inl (.int (-nI w))), some (.inl (.int (nI (n + 3)))), some (.inl (.ref q)), none, none, some (.inl (.int z)), some (.inl (.int 1))] : Ls)) (dec1 (n + 2))) ?_
  refine jd_iload (i := 5) (hF _) (jde hC (by decide +kernel : decode cJ6_getChars_ba4f3 76 = .ok (.iload 5, 2))) rfl ?_
  refine jd_ones (hF _) (jde hC (by decide +kernel : decode cJ6_getChars_ba4f3 78 = .ok (.getstatic 83, 3))) (by (try rw [xwO]); rw [hO]; exact we_924) (fun t1 ht1 => ?_)
  refine jd_iload_n (i := 0) (hF _) (jde hC (by decide +kernel : decode cJ6_getChars_ba4f3 81 = .ok (.iload_n 0, 1))) rfl rfl ?_
  refine sd_ineg (hF _) (jde hC (by decide +kernel : decode cJ6_getChars_ba4f3 82 = .ok (.ineg, 1))) ?_
  refine jd_top (b := .inl (.int (nI (w)))) (congrArg (fun z => (Sum.inl (Value.int z) : AV)) (ng_ng)) ?_
  refine ht1 _ _ _ _ _ _ (jde hC (by decide +kernel : decode cJ6_getChars_ba4f3 83 = .ok (.baload, 1))) (in_of (by omega) (by omega)) ?_
  refine jd_top (b := .inl (.int (nI (48 + (w) % 10)))) (congrArg (fun z => (Sum.inl (Value.int z) : AV)) (congrArg (fun z => Int32.ofNat (48 + z % 10)) (nI_clamp (n := w) (by omega)))) ?_
  refine jd_bast (k := 1) (n := cap) (f := f) (hF _) (jde hC (by decide +kernel : decode cJ6_getChars_ba4f3 84 = .ok (.bastore, 1))) (by rw [hK]; rfl) (in_of (by omega) (by omega)) ?_
  refine jd_e (ws' := ((h, .inr (8, [v0, v1, v2, v3])) :: (q, .inl (cs 5, cap, .inl (upd f (n + 2) (nI (48 + (w) % 10))))) :: R : va_W)) (by rw [hK, nI_clamp (by omega), vb_d (by omega)]; rfl) ?_
  show WJ x ((h, .inr (8, [v0, v1, v2, v3])) :: (q, .inl (cs 5, cap, .inl (upd f (n + 2) (nI (48 + (w) % 10))))) :: R : va_W) 85 ([some (.inl (.int (-nI w))), some (.inl (.int (nI (n + 3)))), some (.inl (.ref q)), none, none, some (.inl (.int (nI (n + 2)))), some (.inl (.int 1))] : Ls) ([] : List AV) 0
  refine jd_iload_n (i := 0) (hF _) (jde hC (by decide +kernel : decode cJ6_getChars_ba4f3 85 = .ok (.iload_n 0, 1))) rfl rfl ?_
  refine sd_bipush (v := -9) (hF _) (jde hC (by decide +kernel : decode cJ6_getChars_ba4f3 86 = .ok (.bipush (-9), 2))) ?_
  show WJ x ((h, .inr (8, [v0, v1, v2, v3])) :: (q, .inl (cs 5, cap, .inl (upd f (n + 2) (nI (48 + (w) % 10))))) :: R : va_W) 88 ([some (.inl (.int (-nI w))), some (.inl (.int (nI (n + 3)))), some (.inl (.ref q)), none, none, some (.inl (.int (nI (n + 2)))), some (.inl (.int 1))] : Ls) ([.inl (.int (-9)), .inl (.int (-nI w))] : List AV) 0
  refine sd_icmp_ge (tgt := 104) (hF _) (jde hC (by decide +kernel : decode cJ6_getChars_ba4f3 88 = .ok (.if_icmp .ge 16, 3))) rfl (fun z => absurd z (fun z => absurd ((sb_nle (a := 9) (b := w) (by omega) (by omega)).mp (show -nI 9 ≤ -nI w from z)) (by omega))) (fun _ => ?_)
  refine jd_aload_n (i := 2) (hF _) (jde hC (by decide +kernel : decode cJ6_getChars_ba4f3 91 = .ok (.aload_n 2, 1))) rfl rfl ?_
  refine sd_iinc (i := 5) (a := (nI (n + 2))) (hF _) (jde hC (by decide +kernel : decode cJ6_getChars_ba4f3 92 = .ok (.iinc 5 (-1), 3))) rfl rfl (Nat.le_of_ble_eq_true rfl) ?_
  refine jd_ls (ls' := ([some (.inl (.int (-nI w))), some (.inl (.int (nI (n + 3)))), some (.inl (.ref q)), none, none, some (.inl (.int (nI (n + 1)))), some (.inl (.int 1))] : Ls)) (congrArg (fun z => ([some (.inl (.int (-nI w))), some (.inl (.int (nI (n + 3)))), some (.inl (.ref q)), none, none, some (.inl (.int z)), some (.inl (.int 1))] : Ls)) (dec1 (n + 1))) ?_
  refine jd_iload (i := 5) (hF _) (jde hC (by decide +kernel : decode cJ6_getChars_ba4f3 95 = .ok (.iload 5, 2))) rfl ?_
  refine jd_tens (hF _) (jde hC (by decide +kernel : decode cJ6_getChars_ba4f3 97 = .ok (.getstatic 87, 3))) (by (try rw [xwO]); rw [hO]; exact we_926) (fun t2 ht2 => ?_)
  refine jd_iload_n (i := 0) (hF _) (jde hC (by decide +kernel : decode cJ6_getChars_ba4f3 100 = .ok (.iload_n 0, 1))) rfl rfl ?_
  refine sd_ineg (hF _) (jde hC (by decide +kernel : decode cJ6_getChars_ba4f3 101 = .ok (.ineg, 1))) ?_
  refine jd_top (b := .inl (.int (nI (w)))) (congrArg (fun z => (Sum.inl (Value.int z) : AV)) (ng_ng)) ?_
  refine ht2 _ _ _ _ _ _ (jde hC (by decide +kernel : decode cJ6_getChars_ba4f3 102 = .ok (.baload, 1))) (in_of (by omega) (by omega)) ?_
  refine jd_top (b := .inl (.int (nI (48 + (w) / 10)))) (congrArg (fun z => (Sum.inl (Value.int z) : AV)) (congrArg (fun z => Int32.ofNat (48 + z / 10)) (nI_clamp (n := w) (by omega)))) ?_
  refine jd_bast (k := 1) (n := cap) (f := (upd f (n + 2) (nI (48 + (w) % 10)))) (hF _) (jde hC (by decide +kernel : decode cJ6_getChars_ba4f3 103 = .ok (.bastore, 1))) (by rw [hK]; rfl) (in_of (by omega) (by omega)) ?_
  refine jd_e (ws' := ((h, .inr (8, [v0, v1, v2, v3])) :: (q, .inl (cs 5, cap, .inl (upd (upd f (n + 2) (nI (48 + (w) % 10))) (n + 1) (nI (48 + (w) / 10))))) :: R : va_W)) (by rw [hK, nI_clamp (by omega), vb_d (by omega)]; rfl) ?_
  show WJ x ((h, .inr (8, [v0, v1, v2, v3])) :: (q, .inl (cs 5, cap, .inl (upd (upd f (n + 2) (nI (48 + (w) % 10))) (n + 1) (nI (48 + (w) / 10))))) :: R : va_W) 104 ([some (.inl (.int (-nI w))), some (.inl (.int (nI (n + 3)))), some (.inl (.ref q)), none, none, some (.inl (.int (nI (n + 1)))), some (.inl (.int 1))] : Ls) ([] : List AV) 0
  refine jd_iload (i := 6) (hF _) (jde hC (by decide +kernel : decode cJ6_getChars_ba4f3 104 = .ok (.iload 6, 2))) rfl ?_
  refine sd_if_eq (tgt := 118) (hF _) (jde hC (by decide +kernel : decode cJ6_getChars_ba4f3 106 = .ok (.ifCond .eq 12, 3))) rfl (fun z => absurd z (by decide)) (fun _ => ?_)
  refine jd_aload_n (i := 2) (hF _) (jde hC (by decide +kernel : decode cJ6_getChars_ba4f3 109 = .ok (.aload_n 2, 1))) rfl rfl ?_
  refine sd_iinc (i := 5) (a := (nI (n + 1))) (hF _) (jde hC (by decide +kernel : decode cJ6_getChars_ba4f3 110 = .ok (.iinc 5 (-1), 3))) rfl rfl (Nat.le_of_ble_eq_true rfl) ?_
  refine jd_ls (ls' := ([some (.inl (.int (-nI w))), some (.inl (.int (nI (n + 3)))), some (.inl (.ref q)), none, none, some (.inl (.int (nI (n + 0)))), some (.inl (.int 1))] : Ls)) (congrArg (fun z => ([some (.inl (.int (-nI w))), some (.inl (.int (nI (n + 3)))), some (.inl (.ref q)), none, none, some (.inl (.int z)), some (.inl (.int 1))] : Ls)) (dec1 (n + 0))) ?_
  refine jd_iload (i := 5) (hF _) (jde hC (by decide +kernel : decode cJ6_getChars_ba4f3 113 = .ok (.iload 5, 2))) rfl ?_
  refine sd_bipush (v := 45) (hF _) (jde hC (by decide +kernel : decode cJ6_getChars_ba4f3 115 = .ok (.bipush 45, 2))) ?_
  show WJ x ((h, .inr (8, [v0, v1, v2, v3])) :: (q, .inl (cs 5, cap, .inl (upd (upd f (n + 2) (nI (48 + (w) % 10))) (n + 1) (nI (48 + (w) / 10))))) :: R : va_W) 117 ([some (.inl (.int (-nI w))), some (.inl (.int (nI (n + 3)))), some (.inl (.ref q)), none, none, some (.inl (.int (nI (n + 0)))), some (.inl (.int 1))] : Ls) ([.inl (.int 45), .inl (.int (nI (n + 0))), .inl (.ref q)] : List AV) 0
  refine jd_bast (k := 1) (n := cap) (f := (upd (upd f (n + 2) (nI (48 + (w) % 10))) (n + 1) (nI (48 + (w) / 10)))) (hF _) (jde hC (by decide +kernel : decode cJ6_getChars_ba4f3 117 = .ok (.bastore, 1))) (by rw [hK]; rfl) (in_of (by omega) (by omega)) ?_
  refine jd_e (ws' := ((h, .inr (8, [v0, v1, v2, v3])) :: (q, .inl (cs 5, cap, .inl (upd (upd (upd f (n + 2) (nI (48 + (w) % 10))) (n + 1) (nI (48 + (w) / 10))) (n + 0) (45)))) :: R : va_W)) (by rw [hK, nI_clamp (by omega), (show vp_nar .byte (45 : Int32) = 45 from vb_d (d := 45) (by decide))]; rfl) ?_
  show WJ x ((h, .inr (8, [v0, v1, v2, v3])) :: (q, .inl (cs 5, cap, .inl (upd (upd (upd f (n + 2) (nI (48 + (w) % 10))) (n + 1) (nI (48 + (w) / 10))) (n + 0) (45)))) :: R : va_W) 118 ([some (.inl (.int (-nI w))), some (.inl (.int (nI (n + 3)))), some (.inl (.ref q)), none, none, some (.inl (.int (nI (n + 0)))), some (.inl (.int 1))] : Ls) ([] : List AV) 0
  refine jd_iload (i := 5) (hF _) (jde hC (by decide +kernel : decode cJ6_getChars_ba4f3 118 = .ok (.iload 5, 2))) rfl ?_
  refine hE _ 120 0 _ _ (some (.int (nI (n + 0)))) (by decide +kernel : decode cJ6_getChars_ba4f3 120 = .ok (.ireturn, 1)) ⟨_, _, rfl, rfl, rfl⟩ ⟨rfl, _, rfl, (sb_fitU (sb_fitU (sb_fitU hf (fb_d (by omega))) (fb_d (by omega))) (fb_d (d := 45) (by decide))), fun j hj => by rw [pk_un (by omega)]; rw [pk_un (by omega)]; rw [pk_un (by omega)], ?_⟩ (Nat.le_of_ble_eq_true rfl)
  intro j hj
  rcases Nat.eq_or_lt_of_le (show 0 ≤ j by omega) with hj0 | hj0
  · rw [← hj0]
    exact pk_us
  rcases Nat.eq_or_lt_of_le (show 1 ≤ j by omega) with hj1 | hj1
  · rw [← hj1]
    rw [pk_un (by omega)]
    exact pk_us.trans (congrArg nI (show 48 + w / 10 = 48 + w / 10 by omega))
  rcases Nat.eq_or_lt_of_le (show 2 ≤ j by omega) with hj2 | hj2
  · rw [← hj2]
    rw [pk_un (by omega)]
    rw [pk_un (by omega)]
    exact pk_us.trans (congrArg nI (show 48 + w % 10 = 48 + w % 10 by omega))
  exact absurd hj (by simp; omega)
set_option maxRecDepth 100000 in
theorem jm_gc_13 {D : va_G} {cs : Nat → ClassId} {b : Nat} {ad : Rf → Nat} {adV : Nat → Nat} {sc : Nat × (Nat → Int32)} {l : Launch} {h q cap n w : Nat} {f : Nat → Int32} {v0 v1 v2 v3 : Value} {R : va_W} (hw0 : 0 < w) (hw : w < 1000) (h0 : 100 ≤ w) (hf : sb_Fit f) (hn : n + 4 ≤ cap) (hc : cap ≤ 100) : JC (D, cs, b, ad, adV, sc) l yJ6_getChars_ba4f3 cJ6_getChars_ba4f3 7 (some .int) 0 0 [.int (-nI w), .int (nI (n + 4)), .ref q] ((h, .inr (8, [v0, v1, v2, v3])) :: (q, .inl (cs 5, cap, .inl f)) :: R : va_W) (fun v w2 => some (.int (nI n)) = v ∧ ∃ f2 : Nat → Int32, ((h, .inr (8, [v0, v1, v2, v3])) :: (q, .inl (cs 5, cap, .inl f2)) :: R : va_W) = w2 ∧ sb_Fit f2 ∧ (∀ j, j < n → f2 j = f j) ∧ ∀ j, j < (45 :: [nI (48 + w / 100), nI (48 + w / 10 % 10), nI (48 + w % 10)]).length → f2 (n + j) = (45 :: [nI (48 + w / 100), nI (48 + w / 10 % 10), nI (48 + w % 10)]).getD j 0) := by
  refine jc_of (by decide +kernel) (by simp [Value.category]) (Nat.le_of_ble_eq_true rfl) ?_
  intro x hF hC hO hG hV hK hH hI hE
  show WJ x ((h, .inr (8, [v0, v1, v2, v3])) :: (q, .inl (cs 5, cap, .inl f)) :: R : va_W) 0 ([some (.inl (.int (-nI w))), some (.inl (.int (nI (n + 4)))), some (.inl (.ref q)), none, none, none, none] : Ls) ([] : List AV) 0
  refine jd_iload_n (i := 1) (hF _) (jde hC (by decide +kernel : decode cJ6_getChars_ba4f3 0 = .ok (.iload_n 1, 1))) rfl rfl ?_
  refine jd_istore (i := 5) (hF _) (jde hC (by decide +kernel : decode cJ6_getChars_ba4f3 1 = .ok (.istore 5, 2))) rfl (Nat.le_of_ble_eq_true rfl) ?_
  refine jd_iload_n (i := 0) (hF _) (jde hC (by decide +kernel : decode cJ6_getChars_ba4f3 3 = .ok (.iload_n 0, 1))) rfl rfl ?_
  refine sd_if_ge (tgt := 11) (hF _) (jde hC (by decide +kernel : decode cJ6_getChars_ba4f3 4 = .ok (.ifCond .ge 7, 3))) rfl (fun z => absurd z (fun z => absurd (ng_lt hw0 (by omega)) (Int32.not_lt.mpr z))) (fun _ => ?_)
  refine sd_iconst (v := 1) (hF _) (jde hC (by decide +kernel : decode cJ6_getChars_ba4f3 7 = .ok (.iconst 1, 1))) ?_
  refine sd_goto (tgt := 12) (hF _) (jde hC (by decide +kernel : decode cJ6_getChars_ba4f3 8 = .ok (.goto 4, 3))) rfl ?_
  refine jd_istore (i := 6) (hF _) (jde hC (by decide +kernel : decode cJ6_getChars_ba4f3 12 = .ok (.istore 6, 2))) rfl (Nat.le_of_ble_eq_true rfl) ?_
  refine jd_iload (i := 6) (hF _) (jde hC (by decide +kernel : decode cJ6_getChars_ba4f3 14 = .ok (.iload 6, 2))) rfl ?_
  refine sd_if_ne (tgt := 22) (hF _) (jde hC (by decide +kernel : decode cJ6_getChars_ba4f3 16 = .ok (.ifCond .ne 6, 3))) rfl (fun _ => ?_) (fun z => absurd z (by decide))
  refine jd_iload_n (i := 0) (hF _) (jde hC (by decide +kernel : decode cJ6_getChars_ba4f3 22 = .ok (.iload_n 0, 1))) rfl rfl ?_
  refine sd_bipush (v := -100) (hF _) (jde hC (by decide +kernel : decode cJ6_getChars_ba4f3 23 = .ok (.bipush (-100), 2))) ?_
  show WJ x ((h, .inr (8, [v0, v1, v2, v3])) :: (q, .inl (cs 5, cap, .inl f)) :: R : va_W) 25 ([some (.inl (.int (-nI w))), some (.inl (.int (nI (n + 4)))), some (.inl (.ref q)), none, none, some (.inl (.int (nI (n + 4)))), some (.inl (.int 1))] : Ls) ([.inl (.int (-100)), .inl (.int (-nI w))] : List AV) 0
  refine sd_icmp_gt (tgt := 72) (hF _) (jde hC (by decide +kernel : decode cJ6_getChars_ba4f3 25 = .ok (.if_icmp .gt 47, 3))) rfl (fun z => absurd z (fun z => absurd ((sb_nlt (a := 100) (b := w) (by omega) (by omega)).mp (show -nI 100 < -nI w from z)) (by omega))) (fun _ => ?_)
  refine jd_iload_n (i := 0) (hF _) (jde hC (by decide +kernel : decode cJ6_getChars_ba4f3 28 = .ok (.iload_n 0, 1))) rfl rfl ?_
  refine sd_bipush (v := 100) (hF _) (jde hC (by decide +kernel : decode cJ6_getChars_ba4f3 29 = .ok (.bipush 100, 2))) ?_
  show WJ x ((h, .inr (8, [v0, v1, v2, v3])) :: (q, .inl (cs 5, cap, .inl f)) :: R : va_W) 31 ([some (.inl (.int (-nI w))), some (.inl (.int (nI (n + 4)))), some (.inl (.ref q)), none, none, some (.inl (.int (nI (n + 4)))), some (.inl (.int 1))] : Ls) ([.inl (.int 100), .inl (.int (-nI w))] : List AV) 0
  refine sd_idiv (hF _) (jde hC (by decide +kernel : decode cJ6_getChars_ba4f3 31 = .ok (.idiv, 1))) (by decide) ?_
  refine jd_top (b := .inl (.int (-nI (w / 100)))) (congrArg (fun z => (Sum.inl (Value.int z) : AV)) (sb_ndiv (by omega))) ?_
  refine jd_istore_n (i := 3) (hF _) (jde hC (by decide +kernel : decode cJ6_getChars_ba4f3 32 = .ok (.istore_n 3, 1))) rfl rfl (Nat.le_of_ble_eq_true rfl) ?_
  refine jd_iload_n (i := 3) (hF _) (jde hC (by decide +kernel : decode cJ6_getChars_ba4f3 33 = .ok (.iload_n 3, 1))) rfl rfl ?_
  refine sd_bipush (v := 100) (hF _) (jde hC (by decide +kernel : decode cJ6_getChars_ba4f3 34 = .ok (.bipush 100, 2))) ?_
  show WJ x ((h, .inr (8, [v0, v1, v2, v3])) :: (q, .inl (cs 5, cap, .inl f)) :: R : va_W) 36 ([some (.inl (.int (-nI w))), some (.inl (.int (nI (n + 4)))), some (.inl (.ref q)), some (.inl (.int (-nI (w / 100)))), none, some (.inl (.int (nI (n + 4)))), some (.inl (.int 1))] : Ls) ([.inl (.int 100), .inl (.int (-nI (w / 100)))] : List AV) 0
  refine sd_imul (hF _) (jde hC (by decide +kernel : decode cJ6_getChars_ba4f3 36 = .ok (.imul, 1))) ?_
  refine jd_iload_n (i := 0) (hF _) (jde hC (by decide +kernel : decode cJ6_getChars_ba4f3 37 = .ok (.iload_n 0, 1))) rfl rfl ?_
  refine sd_isub (hF _) (jde hC (by decide +kernel : decode cJ6_getChars_ba4f3 38 = .ok (.isub, 1))) ?_
  refine jd_top (b := .inl (.int (nI (w % 100)))) (congrArg (fun z => (Sum.inl (Value.int z) : AV)) (sb_nrem (by omega))) ?_
  refine jd_istore (i := 4) (hF _) (jde hC (by decide +kernel : decode cJ6_getChars_ba4f3 39 = .ok (.istore 4, 2))) rfl (Nat.le_of_ble_eq_true rfl) ?_
  refine jd_iload_n (i := 3) (hF _) (jde hC (by decide +kernel : decode cJ6_getChars_ba4f3 41 = .ok (.iload_n 3, 1))) rfl rfl ?_
  refine jd_istore_n (i := 0) (hF _) (jde hC (by decide +kernel : decode cJ6_getChars_ba4f3 42 = .ok (.istore_n 0, 1))) rfl rfl (Nat.le_of_ble_eq_true rfl) ?_
  refine jd_aload_n (i := 2) (hF _) (jde hC (by decide +kernel : decode cJ6_getChars_ba4f3 43 = .ok (.aload_n 2, 1))) rfl rfl ?_
  refine sd_iinc (i := 5) (a := (nI (n + 4))) (hF _) (jde hC (by decide +kernel : decode cJ6_getChars_ba4f3 44 = .ok (.iinc 5 (-1), 3))) rfl rfl (Nat.le_of_ble_eq_true rfl) ?_
  refine jd_ls (ls' := ([some (.inl (.int (-nI (w / 100)))), some (.inl (.int (nI (n + 4)))), some (.inl (.ref q)), some (.inl (.int (-nI (w / 100)))), some (.inl (.int (nI (w % 100)))), some (.inl (.int (nI (n + 3)))), some (.inl (.int 1))] : Ls)) (congrArg (fun z => ([some (.inl (.int (-nI (w / 100)))), some (.inl (.int (nI (n + 4)))), some (.inl (.ref q)), some (.inl (.int (-nI (w / 100)))), some (.inl (.int (nI (w % 100)))), some (.inl (.int z)), some (.inl (.int 1))] : Ls)) (dec1 (n + 3))) ?_
  refine jd_iload (i := 5) (hF _) (jde hC (by decide +kernel : decode cJ6_getChars_ba4f3 47 = .ok (.iload 5, 2))) rfl ?_
  refine jd_ones (hF _) (jde hC (by decide +kernel : decode cJ6_getChars_ba4f3 49 = .ok (.getstatic 83, 3))) (by (try rw [xwO]); rw [hO]; exact we_924) (fun t1 ht1 => ?_)
  refine jd_iload (i := 4) (hF _) (jde hC (by decide +kernel : decode cJ6_getChars_ba4f3 52 = .ok (.iload 4, 2))) rfl ?_
  refine ht1 _ _ _ _ _ _ (jde hC (by decide +kernel : decode cJ6_getChars_ba4f3 54 = .ok (.baload, 1))) (in_of (by omega) (by omega)) ?_
  refine jd_top (b := .inl (.int (nI (48 + (w % 100) % 10)))) (congrArg (fun z => (Sum.inl (Value.int z) : AV)) (congrArg (fun z => Int32.ofNat (48 + z % 10)) (nI_clamp (n := w % 100) (by omega)))) ?_
  refine jd_bast (k := 1) (n := cap) (f := f) (hF _) (jde hC (by decide +kernel : decode cJ6_getChars_ba4f3 55 = .ok (.bastore, 1))) (by rw [hK]; rfl) (in_of (by omega) (by omega)) ?_
  refine jd_e (ws' := ((h, .inr (8, [v0, v1, v2, v3])) :: (q, .inl (cs 5, cap, .inl (upd f (n + 3) (nI (48 + (w % 100) % 10))))) :: R : va_W)) (by rw [hK, nI_clamp (by omega), vb_d (by omega)]; rfl) ?_
  show WJ x ((h, .inr (8, [v0, v1, v2, v3])) :: (q, .inl (cs 5, cap, .inl (upd f (n + 3) (nI (48 + (w % 100) % 10))))) :: R : va_W) 56 ([some (.inl (.int (-nI (w / 100)))), some (.inl (.int (nI (n + 4)))), some (.inl (.ref q)), some (.inl (.int (-nI (w / 100)))), some (.inl (.int (nI (w % 100)))), some (.inl (.int (nI (n + 3)))), some (.inl (.int 1))] : Ls) ([] : List AV) 0
  refine jd_aload_n (i := 2) (hF _) (jde hC (by decide +kernel : decode cJ6_getChars_ba4f3 56 = .ok (.aload_n 2, 1))) rfl rfl ?_
  refine sd_iinc (i := 5) (a := (nI (n + 3))) (hF _) (jde hC (by decide +kernel : decode cJ6_getChars_ba4f3 57 = .ok (.iinc 5 (-1), 3))) rfl rfl (Nat.le_of_ble_eq_true rfl) ?_
  refine jd_ls (ls' := ([some (.inl (.int (-nI (w / 100)))), some (.inl (.int (nI (n + 4)))), some (.inl (.ref q)), some (.inl (.int (-nI (w / 100)))), some (.inl (.int (nI (w % 100)))), some (.inl (.int (nI (n + 2)))), some (.inl (.int 1))] : Ls)) (congrArg (fun z => ([some (.inl (.int (-nI (w / 100)))), some (.inl (.int (nI (n + 4)))), some (.inl (.ref q)), some (.inl (.int (-nI (w / 100)))), some (.inl (.int (nI (w % 100)))), some (.inl (.int z)), some (.inl (.int 1))] : Ls)) (dec1 (n + 2))) ?_
  refine jd_iload (i := 5) (hF _) (jde hC (by decide +kernel : decode cJ6_getChars_ba4f3 60 = .ok (.iload 5, 2))) rfl ?_
  refine jd_tens (hF _) (jde hC (by decide +kernel : decode cJ6_getChars_ba4f3 62 = .ok (.getstatic 87, 3))) (by (try rw [xwO]); rw [hO]; exact we_926) (fun t2 ht2 => ?_)
  refine jd_iload (i := 4) (hF _) (jde hC (by decide +kernel : decode cJ6_getChars_ba4f3 65 = .ok (.iload 4, 2))) rfl ?_
  refine ht2 _ _ _ _ _ _ (jde hC (by decide +kernel : decode cJ6_getChars_ba4f3 67 = .ok (.baload, 1))) (in_of (by omega) (by omega)) ?_
  refine jd_top (b := .inl (.int (nI (48 + (w % 100) / 10)))) (congrArg (fun z => (Sum.inl (Value.int z) : AV)) (congrArg (fun z => Int32.ofNat (48 + z / 10)) (nI_clamp (n := w % 100) (by omega)))) ?_
  refine jd_bast (k := 1) (n := cap) (f := (upd f (n + 3) (nI (48 + (w % 100) % 10)))) (hF _) (jde hC (by decide +kernel : decode cJ6_getChars_ba4f3 68 = .ok (.bastore, 1))) (by rw [hK]; rfl) (in_of (by omega) (by omega)) ?_
  refine jd_e (ws' := ((h, .inr (8, [v0, v1, v2, v3])) :: (q, .inl (cs 5, cap, .inl (upd (upd f (n + 3) (nI (48 + (w % 100) % 10))) (n + 2) (nI (48 + (w % 100) / 10))))) :: R : va_W)) (by rw [hK, nI_clamp (by omega), vb_d (by omega)]; rfl) ?_
  show WJ x ((h, .inr (8, [v0, v1, v2, v3])) :: (q, .inl (cs 5, cap, .inl (upd (upd f (n + 3) (nI (48 + (w % 100) % 10))) (n + 2) (nI (48 + (w % 100) / 10))))) :: R : va_W) 69 ([some (.inl (.int (-nI (w / 100)))), some (.inl (.int (nI (n + 4)))), some (.inl (.ref q)), some (.inl (.int (-nI (w / 100)))), some (.inl (.int (nI (w % 100)))), some (.inl (.int (nI (n + 2)))), some (.inl (.int 1))] : Ls) ([] : List AV) 0
  refine sd_goto (tgt := 22) (hF _) (jde hC (by decide +kernel : decode cJ6_getChars_ba4f3 69 = .ok (.goto (-47), 3))) rfl ?_
  refine jd_iload_n (i := 0) (hF _) (jde hC (by decide +kernel : decode cJ6_getChars_ba4f3 22 = .ok (.iload_n 0, 1))) rfl rfl ?_
  refine sd_bipush (v := -100) (hF _) (jde hC (by decide +kernel : decode cJ6_getChars_ba4f3 23 = .ok (.bipush (-100), 2))) ?_
  show WJ x ((h, .inr (8, [v0, v1, v2, v3])) :: (q, .inl (cs 5, cap, .inl (upd (upd f (n + 3) (nI (48 + (w % 100) % 10))) (n + 2) (nI (48 + (w % 100) / 10))))) :: R : va_W) 25 ([some (.inl (.int (-nI (w / 100)))), some (.inl (.int (nI (n + 4)))), some (.inl (.ref q)), some (.inl (.int (-nI (w / 100)))), some (.inl (.int (nI (w % 100)))), some (.inl (.int (nI (n + 2)))), some (.inl (.int 1))] : Ls) ([.inl (.int (-100)), .inl (.int (-nI (w / 100)))] : List AV) 0
  refine sd_icmp_gt (tgt := 72) (hF _) (jde hC (by decide +kernel : decode cJ6_getChars_ba4f3 25 = .ok (.if_icmp .gt 47, 3))) rfl (fun _ => ?_) (fun z => absurd ((sb_nlt (a := 100) (b := w / 100) (by omega) (by omega)).mpr (by omega)) z)
  refine jd_aload_n (i := 2) (hF _) (jde hC (by decide +kernel : decode cJ6_getChars_ba4f3 72 = .ok (.aload_n 2, 1))) rfl rfl ?_
  refine sd_iinc (i := 5) (a := (nI (n + 2))) (hF _) (jde hC (by decide +kernel : decode cJ6_getChars_ba4f3 73 = .ok (.iinc 5 (-1), 3))) rfl rfl (Nat.le_of_ble_eq_true rfl) ?_
  refine jd_ls (ls' := ([some (.inl (.int (-nI (w / 100)))), some (.inl (.int (nI (n + 4)))), some (.inl (.ref q)), some (.inl (.int (-nI (w / 100)))), some (.inl (.int (nI (w % 100)))), some (.inl (.int (nI (n + 1)))), some (.inl (.int 1))] : Ls)) (congrArg (fun z => ([some (.inl (.int (-nI (w / 100)))), some (.inl (.int (nI (n + 4)))), some (.inl (.ref q)), some (.inl (.int (-nI (w / 100)))), some (.inl (.int (nI (w % 100)))), some (.inl (.int z)), some (.inl (.int 1))] : Ls)) (dec1 (n + 1))) ?_
  refine jd_iload (i := 5) (hF _) (jde hC (by decide +kernel : decode cJ6_getChars_ba4f3 76 = .ok (.iload 5, 2))) rfl ?_
  refine jd_ones (hF _) (jde hC (by decide +kernel : decode cJ6_getChars_ba4f3 78 = .ok (.getstatic 83, 3))) (by (try rw [xwO]); rw [hO]; exact we_924) (fun t3 ht3 => ?_)
  refine jd_iload_n (i := 0) (hF _) (jde hC (by decide +kernel : decode cJ6_getChars_ba4f3 81 = .ok (.iload_n 0, 1))) rfl rfl ?_
  refine sd_ineg (hF _) (jde hC (by decide +kernel : decode cJ6_getChars_ba4f3 82 = .ok (.ineg, 1))) ?_
  refine jd_top (b := .inl (.int (nI (w / 100)))) (congrArg (fun z => (Sum.inl (Value.int z) : AV)) (ng_ng)) ?_
  refine ht3 _ _ _ _ _ _ (jde hC (by decide +kernel : decode cJ6_getChars_ba4f3 83 = .ok (.baload, 1))) (in_of (by omega) (by omega)) ?_
  refine jd_top (b := .inl (.int (nI (48 + (w / 100) % 10)))) (congrArg (fun z => (Sum.inl (Value.int z) : AV)) (congrArg (fun z => Int32.ofNat (48 + z % 10)) (nI_clamp (n := w / 100) (by omega)))) ?_
  refine jd_bast (k := 1) (n := cap) (f := (upd (upd f (n + 3) (nI (48 + (w % 100) % 10))) (n + 2) (nI (48 + (w % 100) / 10)))) (hF _) (jde hC (by decide +kernel : decode cJ6_getChars_ba4f3 84 = .ok (.bastore, 1))) (by rw [hK]; rfl) (in_of (by omega) (by omega)) ?_
  refine jd_e (ws' := ((h, .inr (8, [v0, v1, v2, v3])) :: (q, .inl (cs 5, cap, .inl (upd (upd (upd f (n + 3) (nI (48 + (w % 100) % 10))) (n + 2) (nI (48 + (w % 100) / 10))) (n + 1) (nI (48 + (w / 100) % 10))))) :: R : va_W)) (by rw [hK, nI_clamp (by omega), vb_d (by omega)]; rfl) ?_
  show WJ x ((h, .inr (8, [v0, v1, v2, v3])) :: (q, .inl (cs 5, cap, .inl (upd (upd (upd f (n + 3) (nI (48 + (w % 100) % 10))) (n + 2) (nI (48 + (w % 100) / 10))) (n + 1) (nI (48 + (w / 100) % 10))))) :: R : va_W) 85 ([some (.inl (.int (-nI (w / 100)))), some (.inl (.int (nI (n + 4)))), some (.inl (.ref q)), some (.inl (.int (-nI (w / 100)))), some (.inl (.int (nI (w % 100)))), some (.inl (.int (nI (n + 1)))), some (.inl (.int 1))] : Ls) ([] : List AV) 0
  refine jd_iload_n (i := 0) (hF _) (jde hC (by decide +kernel : decode cJ6_getChars_ba4f3 85 = .ok (.iload_n 0, 1))) rfl rfl ?_
  refine sd_bipush (v := -9) (hF _) (jde hC (by decide +kernel : decode cJ6_getChars_ba4f3 86 = .ok (.bipush (-9), 2))) ?_
  show WJ x ((h, .inr (8, [v0, v1, v2, v3])) :: (q, .inl (cs 5, cap, .inl (upd (upd (upd f (n + 3) (nI (48 + (w % 100) % 10))) (n + 2) (nI (48 + (w % 100) / 10))) (n + 1) (nI (48 + (w / 100) % 10))))) :: R : va_W) 88 ([some (.inl (.int (-nI (w / 100)))), some (.inl (.int (nI (n + 4)))), some (.inl (.ref q)), some (.inl (.int (-nI (w / 100)))), some (.inl (.int (nI (w % 100)))), some (.inl (.int (nI (n + 1)))), some (.inl (.int 1))] : Ls) ([.inl (.int (-9)), .inl (.int (-nI (w / 100)))] : List AV) 0
  refine sd_icmp_ge (tgt := 104) (hF _) (jde hC (by decide +kernel : decode cJ6_getChars_ba4f3 88 = .ok (.if_icmp .ge 16, 3))) rfl (fun _ => ?_) (fun z => absurd ((sb_nle (a := 9) (b := w / 100) (by omega) (by omega)).mpr (by omega)) z)
  refine jd_iload (i := 6) (hF _) (jde hC (by decide +kernel : decode cJ6_getChars_ba4f3 104 = .ok (.iload 6, 2))) rfl ?_
  refine sd_if_eq (tgt := 118) (hF _) (jde hC (by decide +kernel : decode cJ6_getChars_ba4f3 106 = .ok (.ifCond .eq 12, 3))) rfl (fun z => absurd z (by decide)) (fun _ => ?_)
  refine jd_aload_n (i := 2) (hF _) (jde hC (by decide +kernel : decode cJ6_getChars_ba4f3 109 = .ok (.aload_n 2, 1))) rfl rfl ?_
  refine sd_iinc (i := 5) (a := (nI (n + 1))) (hF _) (jde hC (by decide +kernel : decode cJ6_getChars_ba4f3 110 = .ok (.iinc 5 (-1), 3))) rfl rfl (Nat.le_of_ble_eq_true rfl) ?_
  refine jd_ls (ls' := ([some (.inl (.int (-nI (w / 100)))), some (.inl (.int (nI (n + 4)))), some (.inl (.ref q)), some (.inl (.int (-nI (w / 100)))), some (.inl (.int (nI (w % 100)))), some (.inl (.int (nI (n + 0)))), some (.inl (.int 1))] : Ls)) (congrArg (fun z => ([some (.inl (.int (-nI (w / 100)))), some (.inl (.int (nI (n + 4)))), some (.inl (.ref q)), some (.inl (.int (-nI (w / 100)))), some (.inl (.int (nI (w % 100)))), some (.inl (.int z)), some (.inl (.int 1))] : Ls)) (dec1 (n + 0))) ?_
  refine jd_iload (i := 5) (hF _) (jde hC (by decide +kernel : decode cJ6_getChars_ba4f3 113 = .ok (.iload 5, 2))) rfl ?_
  refine sd_bipush (v := 45) (hF _) (jde hC (by decide +kernel : decode cJ6_getChars_ba4f3 115 = .ok (.bipush 45, 2))) ?_
  show WJ x ((h, .inr (8, [v0, v1, v2, v3])) :: (q, .inl (cs 5, cap, .inl (upd (upd (upd f (n + 3) (nI (48 + (w % 100) % 10))) (n + 2) (nI (48 + (w % 100) / 10))) (n + 1) (nI (48 + (w / 100) % 10))))) :: R : va_W) 117 ([some (.inl (.int (-nI (w / 100)))), some (.inl (.int (nI (n + 4)))), some (.inl (.ref q)), some (.inl (.int (-nI (w / 100)))), some (.inl (.int (nI (w % 100)))), some (.inl (.int (nI (n + 0)))), some (.inl (.int 1))] : Ls) ([.inl (.int 45), .inl (.int (nI (n + 0))), .inl (.ref q)] : List AV) 0
  refine jd_bast (k := 1) (n := cap) (f := (upd (upd (upd f (n + 3) (nI (48 + (w % 100) % 10))) (n + 2) (nI (48 + (w % 100) / 10))) (n + 1) (nI (48 + (w / 100) % 10)))) (hF _) (jde hC (by decide +kernel : decode cJ6_getChars_ba4f3 117 = .ok (.bastore, 1))) (by rw [hK]; rfl) (in_of (by omega) (by omega)) ?_
  refine jd_e (ws' := ((h, .inr (8, [v0, v1, v2, v3])) :: (q, .inl (cs 5, cap, .inl (upd (upd (upd (upd f (n + 3) (nI (48 + (w % 100) % 10))) (n + 2) (nI (48 + (w % 100) / 10))) (n + 1) (nI (48 + (w / 100) % 10))) (n + 0) (45)))) :: R : va_W)) (by rw [hK, nI_clamp (by omega), (show vp_nar .byte (45 : Int32) = 45 from vb_d (d := 45) (by decide))]; rfl) ?_
  show WJ x ((h, .inr (8, [v0, v1, v2, v3])) :: (q, .inl (cs 5, cap, .inl (upd (upd (upd (upd f (n + 3) (nI (48 + (w % 100) % 10))) (n + 2) (nI (48 + (w % 100) / 10))) (n + 1) (nI (48 + (w / 100) % 10))) (n + 0) (45)))) :: R : va_W) 118 ([some (.inl (.int (-nI (w / 100)))), some (.inl (.int (nI (n + 4)))), some (.inl (.ref q)), some (.inl (.int (-nI (w / 100)))), some (.inl (.int (nI (w % 100)))), some (.inl (.int (nI (n + 0)))), some (.inl (.int 1))] : Ls) ([] : List AV) 0
  refine jd_iload (i := 5) (hF _) (jde hC (by decide +kernel : decode cJ6_getChars_ba4f3 118 = .ok (.iload 5, 2))) rfl ?_
  refine hE _ 120 0 _ _ (some (.int (nI (n + 0)))) (by decide +kernel : decode cJ6_getChars_ba4f3 120 = .ok (.ireturn, 1)) ⟨_, _, rfl, rfl, rfl⟩ ⟨rfl, _, rfl, (sb_fitU (sb_fitU (sb_fitU (sb_fitU hf (fb_d (by omega))) (fb_d (by omega))) (fb_d (by omega))) (fb_d (d := 45) (by decide))), fun j hj => by rw [pk_un (by omega)]; rw [pk_un (by omega)]; rw [pk_un (by omega)]; rw [pk_un (by omega)], ?_⟩ (Nat.le_of_ble_eq_true rfl)
  intro j hj
  rcases Nat.eq_or_lt_of_le (show 0 ≤ j by omega) with hj0 | hj0
  · rw [← hj0]
    exact pk_us
  rcases Nat.eq_or_lt_of_le (show 1 ≤ j by omega) with hj1 | hj1
  · rw [← hj1]
    rw [pk_un (by omega)]
    exact pk_us.trans (congrArg nI (show 48 + w / 100 % 10 = 48 + w / 100 by omega))
  rcases Nat.eq_or_lt_of_le (show 2 ≤ j by omega) with hj2 | hj2
  · rw [← hj2]
    rw [pk_un (by omega)]
    rw [pk_un (by omega)]
    exact pk_us.trans (congrArg nI (show 48 + w % 100 / 10 = 48 + w / 10 % 10 by omega))
  rcases Nat.eq_or_lt_of_le (show 3 ≤ j by omega) with hj3 | hj3
  · rw [← hj3]
    rw [pk_un (by omega)]
    rw [pk_un (by omega)]
    rw [pk_un (by omega)]
    exact pk_us.trans (congrArg nI (show 48 + w % 100 % 10 = 48 + w % 10 by omega))
  exact absurd hj (by simp; omega)
theorem jm_gc {D : va_G} {cs : Nat → ClassId} {b : Nat} {ad : Rf → Nat} {adV : Nat → Nat} {sc : Nat × (Nat → Int32)} {l : Launch} {h q cap n : Nat} {f : Nat → Int32} {v0 v1 v2 v3 : Value} {R : va_W} {v : Int32} (h1 : -1000 < v) (h2 : v < 1000) (hf : sb_Fit f) (hn : n + (dg_ v).length ≤ cap) (hc : cap ≤ 100) : JC (D, cs, b, ad, adV, sc) l yJ6_getChars_ba4f3 cJ6_getChars_ba4f3 7 (some .int) 0 0 [.int v, .int (nI (n + (dg_ v).length)), .ref q] ((h, .inr (8, [v0, v1, v2, v3])) :: (q, .inl (cs 5, cap, .inl f)) :: R) (fun v9 w2 => some (.int (nI n)) = v9 ∧ ∃ f2 : Nat → Int32, ((h, .inr (8, [v0, v1, v2, v3])) :: (q, .inl (cs 5, cap, .inl f2)) :: R : va_W) = w2 ∧ sb_Fit f2 ∧ (∀ j, j < n → f2 j = f j) ∧ ∀ j, j < (dg_ v).length → f2 (n + j) = (dg_ v).getD j 0) := by
  obtain ⟨w, hw, rfl | ⟨h0, rfl⟩⟩ := int_cases h1 h2
  · rw [dg_p hw] at hn ⊢
    rcases Nat.lt_or_ge w 10 with h | h
    · rw [dg_1 h] at hn ⊢; exact jm_gc_01 hw h hf hn hc
    · rcases Nat.lt_or_ge w 100 with g | g
      · rw [dg_2 h g] at hn ⊢; exact jm_gc_02 hw h g hf hn hc
      · rw [dg_3 g] at hn ⊢; exact jm_gc_03 hw g hf hn hc
  · rw [dg_n h0 hw] at hn ⊢
    rcases Nat.lt_or_ge w 10 with h | h
    · rw [dg_1 h] at hn ⊢; exact jm_gc_11 h0 hw h hf hn hc
    · rcases Nat.lt_or_ge w 100 with g | g
      · rw [dg_2 h g] at hn ⊢; exact jm_gc_12 h0 hw h g hf hn hc
      · rw [dg_3 g] at hn ⊢; exact jm_gc_13 h0 hw g hf hn hc
theorem dg_len {v : Int32} (h1 : -1000 < v) (h2 : v < 1000) : (dg_ v).length ≤ 4 := by
  obtain ⟨w, hw, rfl | ⟨h0, rfl⟩⟩ := int_cases h1 h2
  · rw [dg_p hw]; unfold dg0; (repeat' split) <;> simp
  · rw [dg_n h0 hw]; unfold dg0; (repeat' split) <;> simp
set_option maxRecDepth 100000 in
theorem jm_aai {D : va_G} {cs : Nat → ClassId} {b : Nat} {ad : Rf → Nat} {adV : Nat → Nat} {sc : Nat × (Nat → Int32)} {l : Launch} {h q cap n : Nat} {f : Nat → Int32} {ml : Int32} {R : va_W} {v : Int32} (hf : sb_Fit f) (hn : n < 44) (hnc : n ≤ cap) (hc : cap ≤ 100) (h1 : -1000 < v) (h2 : v < 1000)  : JC (D, cs, b, ad, adV, sc) l yJ5_append_c97b9 cJ5_append_c97b9 4 (some (.object "java/lang/AbstractStringBuilder")) 4 1 [.ref h, .int v] ((h, .inr (8, [.ref q, .int 0, .int ml, .int (nI n)])) :: (q, .inl (cs 5, cap, .inl f)) :: R : va_W) (pA cs h n ml f R (some (.ref h)) (dg_ v)) := by
  refine jc_of (by decide +kernel) (by simp [Value.category]) (Nat.le_of_ble_eq_true rfl) ?_
  intro x hF hC hO hG hV hK hH hI hE
  have hl4 := dg_len h1 h2
  show WJ x ((h, .inr (8, [.ref q, .int 0, .int ml, .int (nI n)])) :: (q, .inl (cs 5, cap, .inl f)) :: R : va_W) 0 ([some (.inl (.ref h)), some (.inl (.int v)), none, none] : Ls) ([] : List AV) 0
  refine jd_aload_n (i := 0) (hF _) (jde hC (by decide +kernel : decode cJ5_append_c97b9 0 = .ok (.aload_n 0, 1))) rfl rfl ?_
  refine jd_get (k := 0) (f := 3) (q := (RJ4, TJ4, 4)) (hF _) (jde hC (by decide +kernel : decode cJ5_append_c97b9 1 = .ok (.getfield 79, 3))) rfl rfl (Nat.le_of_ble_eq_true rfl) (Or.inl (by (try rw [xwO]); rw [hO]; exact we_296)) rfl ?_
  refine jd_istore_n (i := 2) (hF _) (jde hC (by decide +kernel : decode cJ5_append_c97b9 4 = .ok (.istore_n 2, 1))) rfl rfl (Nat.le_of_ble_eq_true rfl) ?_
  refine jd_iload_n (i := 2) (hF _) (jde hC (by decide +kernel : decode cJ5_append_c97b9 5 = .ok (.iload_n 2, 1))) rfl rfl ?_
  refine jd_iload_n (i := 1) (hF _) (jde hC (by decide +kernel : decode cJ5_append_c97b9 6 = .ok (.iload_n 1, 1))) rfl rfl ?_
  refine jd_callS (n := 1) (vs := [.int v]) (rest := [.inl (.int (nI n))]) (hF _) (jde hC (by decide +kernel : decode cJ5_append_c97b9 7 = .ok (.invokestatic 245, 3))) (by rw [hK, hH]; exact jm_ss h1 h2) (by (try rw [xwO]); rw [hO]; exact we_918) we_919 we_116 we_920 ⟨by decide +kernel, by decide +kernel, by decide +kernel⟩ rfl (Nat.le_of_ble_eq_true rfl) (by (try rw [xwV]); rw [hV]; exact Nat.le_of_ble_eq_true rfl) rfl (Nat.le_of_ble_eq_true rfl) (by (try rw [xwG]); rw [hG]; exact Nat.le_of_ble_eq_true rfl) (fun v w hp => ?_)
  obtain ⟨rfl, rfl⟩ := hp
  show WJ x ((h, .inr (8, [.ref q, .int 0, .int ml, .int (nI n)])) :: (q, .inl (cs 5, cap, .inl f)) :: R : va_W) 10 ([some (.inl (.ref h)), some (.inl (.int v)), some (.inl (.int (nI n))), none] : Ls) ([.inl (.int (nI (dg_ v).length)), .inl (.int (nI n))] : List AV) 0
  refine sd_iadd (hF _) (jde hC (by decide +kernel : decode cJ5_append_c97b9 10 = .ok (.iadd, 1))) ?_
  refine jd_top (b := .inl (.int (nI (n + (dg_ v).length)))) (congrArg (fun z => (Sum.inl (Value.int z) : AV)) (nI_add _ _)) ?_
  refine jd_istore_n (i := 3) (hF _) (jde hC (by decide +kernel : decode cJ5_append_c97b9 11 = .ok (.istore_n 3, 1))) rfl rfl (Nat.le_of_ble_eq_true rfl) ?_
  refine jd_aload_n (i := 0) (hF _) (jde hC (by decide +kernel : decode cJ5_append_c97b9 12 = .ok (.aload_n 0, 1))) rfl rfl ?_
  refine jd_iload_n (i := 3) (hF _) (jde hC (by decide +kernel : decode cJ5_append_c97b9 13 = .ok (.iload_n 3, 1))) rfl rfl ?_
  refine jd_callU (n := 1) (vs := [.int (nI (n + (dg_ v).length))]) (rest := []) (k := 0) (q := (RJ4, TJ4, 4)) (hF _) (jde hC (by decide +kernel : decode cJ5_append_c97b9 14 = .ok (.invokevirtual 100, 3))) (by rw [hK, hH]; exact jm_ens hf hc (by omega)) rfl rfl (by (try rw [xwO]); rw [hO]; exact we_806) we_2045 we_808 we_x0 we_93 we_809 ⟨by decide +kernel, by decide +kernel, by decide +kernel⟩ rfl (Nat.le_of_ble_eq_true rfl) (by (try rw [xwV]); rw [hV]; exact Nat.le_of_ble_eq_true rfl) rfl (Nat.le_of_ble_eq_true rfl) (by (try rw [xwG]); rw [hG]; exact Nat.le_of_ble_eq_true rfl) (fun v w hp => ?_)
  obtain ⟨rfl, q2, cap2, f2, rfl, hm2, hc2, hf2, he2⟩ := hp
  show WJ x ((h, .inr (8, [.ref q2, .int 0, .int ml, .int (nI n)])) :: (q2, .inl (cs 5, cap2, .inl f2)) :: R : va_W) 17 ([some (.inl (.ref h)), some (.inl (.int v)), some (.inl (.int (nI n))), some (.inl (.int (nI (n + (dg_ v).length))))] : Ls) ([] : List AV) 1
  refine jd_aload_n (i := 0) (hF _) (jde hC (by decide +kernel : decode cJ5_append_c97b9 17 = .ok (.aload_n 0, 1))) rfl rfl ?_
  refine jd_callU (n := 0) (vs := []) (rest := []) (k := 0) (q := (RJ4, TJ4, 4)) (hF _) (jde hC (by decide +kernel : decode cJ5_append_c97b9 18 = .ok (.invokevirtual 83, 3))) (by rw [hK, hH]; exact jm_isa) rfl rfl (by (try rw [xwO]); rw [hO]; exact we_837) we_839 we_838 we_840 we_93 we_841 ⟨by decide +kernel, by decide +kernel, by decide +kernel⟩ rfl (Nat.le_of_ble_eq_true rfl) (by (try rw [xwV]); rw [hV]; exact Nat.le_of_ble_eq_true rfl) rfl (Nat.le_of_ble_eq_true rfl) (by (try rw [xwG]); rw [hG]; exact Nat.le_of_ble_eq_true rfl) (fun v w hp => ?_)
  obtain ⟨rfl, rfl⟩ := hp
  show WJ x ((h, .inr (8, [.ref q2, .int 0, .int ml, .int (nI n)])) :: (q2, .inl (cs 5, cap2, .inl f2)) :: R : va_W) 21 ([some (.inl (.ref h)), some (.inl (.int v)), some (.inl (.int (nI n))), some (.inl (.int (nI (n + (dg_ v).length))))] : Ls) ([.inl (.int 1)] : List AV) 1
  refine sd_if_eq (tgt := 37) (hF _) (jde hC (by decide +kernel : decode cJ5_append_c97b9 21 = .ok (.ifCond .eq 16, 3))) rfl (fun z => absurd z (by decide)) (fun _ => ?_)
  refine jd_iload_n (i := 1) (hF _) (jde hC (by decide +kernel : decode cJ5_append_c97b9 24 = .ok (.iload_n 1, 1))) rfl rfl ?_
  refine jd_iload_n (i := 3) (hF _) (jde hC (by decide +kernel : decode cJ5_append_c97b9 25 = .ok (.iload_n 3, 1))) rfl rfl ?_
  refine jd_aload_n (i := 0) (hF _) (jde hC (by decide +kernel : decode cJ5_append_c97b9 26 = .ok (.aload_n 0, 1))) rfl rfl ?_
  refine jd_get (k := 0) (f := 0) (q := (RJ4, TJ4, 4)) (hF _) (jde hC (by decide +kernel : decode cJ5_append_c97b9 27 = .ok (.getfield 15, 3))) rfl rfl (Nat.le_of_ble_eq_true rfl) (Or.inl (by (try rw [xwO]); rw [hO]; exact we_292)) rfl ?_
  refine jd_callS (n := 3) (vs := [.int v, .int (nI (n + (dg_ v).length)), .ref q2]) (rest := []) (hF _) (jde hC (by decide +kernel : decode cJ5_append_c97b9 30 = .ok (.invokestatic 248, 3))) (by rw [hK, hH]; exact jm_gc h1 h2 hf2 hm2 hc2) (by (try rw [xwO]); rw [hO]; exact we_921) we_922 we_116 we_923 ⟨by decide +kernel, by decide +kernel, by decide +kernel⟩ rfl (Nat.le_of_ble_eq_true rfl) (by (try rw [xwV]); rw [hV]; exact Nat.le_of_ble_eq_true rfl) rfl (Nat.le_of_ble_eq_true rfl) (by (try rw [xwG]); rw [hG]; exact Nat.le_of_ble_eq_true rfl) (fun v w hp => ?_)
  obtain ⟨rfl, f3, rfl, hf3, he3, hd3⟩ := hp
  show WJ x ((h, .inr (8, [.ref q2, .int 0, .int ml, .int (nI n)])) :: (q2, .inl (cs 5, cap2, .inl f3)) :: R : va_W) 33 ([some (.inl (.ref h)), some (.inl (.int v)), some (.inl (.int (nI n))), some (.inl (.int (nI (n + (dg_ v).length))))] : Ls) ([.inl (.int (nI n))] : List AV) 1
  refine sd_pop (hF _) (jde hC (by decide +kernel : decode cJ5_append_c97b9 33 = .ok (.pop, 1))) rfl ?_
  refine sd_goto (tgt := 48) (hF _) (jde hC (by decide +kernel : decode cJ5_append_c97b9 34 = .ok (.goto 14, 3))) rfl ?_
  refine jd_aload_n (i := 0) (hF _) (jde hC (by decide +kernel : decode cJ5_append_c97b9 48 = .ok (.aload_n 0, 1))) rfl rfl ?_
  refine jd_iload_n (i := 3) (hF _) (jde hC (by decide +kernel : decode cJ5_append_c97b9 49 = .ok (.iload_n 3, 1))) rfl rfl ?_
  refine jd_put (k := 0) (f := 3) (q := (RJ4, TJ4, 4)) (ty := .int) (hF _) (jde hC (by decide +kernel : decode cJ5_append_c97b9 50 = .ok (.putfield 79, 3))) rfl rfl (Nat.le_of_ble_eq_true rfl) (by (try rw [xwO]); rw [hO]; exact we_296) rfl (by decide +kernel) rfl rfl (Nat.le_of_ble_eq_true rfl) ?_
  show WJ x ((h, .inr (8, [.ref q2, .int 0, .int ml, .int (nI (n + (dg_ v).length))])) :: (q2, .inl (cs 5, cap2, .inl f3)) :: R : va_W) 53 ([some (.inl (.ref h)), some (.inl (.int v)), some (.inl (.int (nI n))), some (.inl (.int (nI (n + (dg_ v).length))))] : Ls) ([] : List AV) 1
  refine jd_aload_n (i := 0) (hF _) (jde hC (by decide +kernel : decode cJ5_append_c97b9 53 = .ok (.aload_n 0, 1))) rfl rfl ?_
  exact hE _ 54 1 _ _ (some (.ref h)) (by decide +kernel : decode cJ5_append_c97b9 54 = .ok (.areturn, 1)) ⟨Or.inr ⟨_, rfl⟩, Or.inl ⟨_, rfl⟩⟩ ⟨rfl, _, _, _, rfl, hm2, hc2, hf3, fun j hj => (he3 j hj).trans (he2 j (by omega)), hd3⟩ (Nat.le_of_ble_eq_true rfl)
set_option maxRecDepth 100000 in
theorem jm_bai {D : va_G} {cs : Nat → ClassId} {b : Nat} {ad : Rf → Nat} {adV : Nat → Nat} {sc : Nat × (Nat → Int32)} {l : Launch} {h q cap n : Nat} {f : Nat → Int32} {ml : Int32} {R : va_W} {v : Int32} (hf : sb_Fit f) (hn : n < 44) (hnc : n ≤ cap) (hc : cap ≤ 100) (h1 : -1000 < v) (h2 : v < 1000)  : JC (D, cs, b, ad, adV, sc) l yJ4_append_bf812 cJ4_append_bf812 2 (some (.object "java/lang/StringBuilder")) 5 1 [.ref h, .int v] ((h, .inr (8, [.ref q, .int 0, .int ml, .int (nI n)])) :: (q, .inl (cs 5, cap, .inl f)) :: R : va_W) (pA cs h n ml f R (some (.ref h)) (dg_ v)) := by
  refine jc_of (by decide +kernel) (by simp [Value.category]) (Nat.le_of_ble_eq_true rfl) ?_
  intro x hF hC hO hG hV hK hH hI hE
  show WJ x ((h, .inr (8, [.ref q, .int 0, .int ml, .int (nI n)])) :: (q, .inl (cs 5, cap, .inl f)) :: R : va_W) 0 ([some (.inl (.ref h)), some (.inl (.int v))] : Ls) ([] : List AV) 0
  refine jd_aload_n (i := 0) (hF _) (jde hC (by decide +kernel : decode cJ4_append_bf812 0 = .ok (.aload_n 0, 1))) rfl rfl ?_
  refine jd_iload_n (i := 1) (hF _) (jde hC (by decide +kernel : decode cJ4_append_bf812 1 = .ok (.iload_n 1, 1))) rfl rfl ?_
  refine jd_callSU (n := 1) (vs := [.int v]) (rest := []) (k := 0) (q := (RJ4, TJ4, 4)) (hF _) (jde hC (by decide +kernel : decode cJ4_append_bf812 2 = .ok (.invokespecial 53, 3))) (by rw [hK, hH]; exact jm_aai hf hn hnc hc h1 h2) rfl rfl (by (try rw [xwO]); rw [hO]; exact we_915) we_2050 (by (try rw [xwO]); rw [hO]; exact we_305) we_916 we_93 we_917 ⟨by decide +kernel, by decide +kernel⟩ rfl (Nat.le_of_ble_eq_true rfl) (by (try rw [xwV]); rw [hV]; exact Nat.le_of_ble_eq_true rfl) rfl (Nat.le_of_ble_eq_true rfl) (by (try rw [xwG]); rw [hG]; exact Nat.le_of_ble_eq_true rfl) (fun v w hp => ?_)
  obtain ⟨rfl, q2, cap2, f2, rfl, hp2⟩ := hp
  show WJ x ((h, .inr (8, [.ref q2, .int 0, .int ml, .int (nI (n + (dg_ v).length))])) :: (q2, .inl (cs 5, cap2, .inl f2)) :: R : va_W) 5 ([some (.inl (.ref h)), some (.inl (.int v))] : Ls) ([.inl (.ref h)] : List AV) 1
  refine sd_pop (hF _) (jde hC (by decide +kernel : decode cJ4_append_bf812 5 = .ok (.pop, 1))) rfl ?_
  refine jd_aload_n (i := 0) (hF _) (jde hC (by decide +kernel : decode cJ4_append_bf812 6 = .ok (.aload_n 0, 1))) rfl rfl ?_
  exact hE _ 7 1 _ _ (some (.ref h)) (by decide +kernel : decode cJ4_append_bf812 7 = .ok (.areturn, 1)) ⟨Or.inr ⟨_, rfl⟩, Or.inl ⟨_, rfl⟩⟩ ⟨rfl, _, _, _, rfl, hp2⟩ (Nat.le_of_ble_eq_true rfl)
set_option maxRecDepth 100000 in
theorem jm_fmod {D : va_G} {cs : Nat → ClassId} {b : Nat} {ad : Rf → Nat} {adV : Nat → Nat} {sc : Nat × (Nat → Int32)} {l : Launch} {a c : Int32} {ws : va_W} (h0 : ¬ c = 0) : JC (D, cs, b, ad, adV, sc) l yJ9_floorMod_7cf53 cJ9_floorMod_7cf53 3 (some .int) 0 0 [.int a, .int c] (ws : va_W) (pD (some (.int (if (a ^^^ c) < 0 ∧ ¬ a - a / c * c = 0 then a - a / c * c + c else a - a / c * c))) ws) := by
  refine jc_of (by decide +kernel) (by simp [Value.category]) (Nat.le_of_ble_eq_true rfl) ?_
  intro x hF hC hO hG hV hK hH hI hE
  show WJ x (ws : va_W) 0 ([some (.inl (.int a)), some (.inl (.int c)), none] : Ls) ([] : List AV) 0
  refine jd_iload_n (i := 0) (hF _) (jde hC (by decide +kernel : decode cJ9_floorMod_7cf53 0 = .ok (.iload_n 0, 1))) rfl rfl ?_
  refine jd_iload_n (i := 1) (hF _) (jde hC (by decide +kernel : decode cJ9_floorMod_7cf53 1 = .ok (.iload_n 1, 1))) rfl rfl ?_
  refine sd_irem (hF _) (jde hC (by decide +kernel : decode cJ9_floorMod_7cf53 2 = .ok (.irem, 1))) (h0) ?_
  refine jd_istore_n (i := 2) (hF _) (jde hC (by decide +kernel : decode cJ9_floorMod_7cf53 3 = .ok (.istore_n 2, 1))) rfl rfl (Nat.le_of_ble_eq_true rfl) ?_
  refine jd_iload_n (i := 0) (hF _) (jde hC (by decide +kernel : decode cJ9_floorMod_7cf53 4 = .ok (.iload_n 0, 1))) rfl rfl ?_
  refine jd_iload_n (i := 1) (hF _) (jde hC (by decide +kernel : decode cJ9_floorMod_7cf53 5 = .ok (.iload_n 1, 1))) rfl rfl ?_
  refine jd_ixor (hF _) (jde hC (by decide +kernel : decode cJ9_floorMod_7cf53 6 = .ok (.ixor, 1))) ?_
  by_cases g : 0 ≤ a ^^^ c
  · refine sd_if_ge (tgt := 18) (hF _) (jde hC (by decide +kernel : decode cJ9_floorMod_7cf53 7 = .ok (.ifCond .ge 11, 3))) rfl (fun _ => ?_) (fun z => absurd (g) z)
    refine jd_iload_n (i := 2) (hF _) (jde hC (by decide +kernel : decode cJ9_floorMod_7cf53 18 = .ok (.iload_n 2, 1))) rfl rfl ?_
    exact hE _ 19 0 _ _ (some (.int (a - a / c * c))) (by decide +kernel : decode cJ9_floorMod_7cf53 19 = .ok (.ireturn, 1)) ⟨_, _, rfl, rfl, rfl⟩ ⟨congrArg (fun z => some (Value.int z)) (if_neg (fun z => absurd z.1 (Int32.not_lt.mpr g))), rfl⟩ (Nat.le_of_ble_eq_true rfl)
  · refine sd_if_ge (tgt := 18) (hF _) (jde hC (by decide +kernel : decode cJ9_floorMod_7cf53 7 = .ok (.ifCond .ge 11, 3))) rfl (fun z => absurd z (g)) (fun _ => ?_)
    refine jd_iload_n (i := 2) (hF _) (jde hC (by decide +kernel : decode cJ9_floorMod_7cf53 10 = .ok (.iload_n 2, 1))) rfl rfl ?_
    by_cases g2 : a - a / c * c = 0
    · refine sd_if_eq (tgt := 18) (hF _) (jde hC (by decide +kernel : decode cJ9_floorMod_7cf53 11 = .ok (.ifCond .eq 7, 3))) rfl (fun _ => ?_) (fun z => absurd (g2) z)
      refine jd_iload_n (i := 2) (hF _) (jde hC (by decide +kernel : decode cJ9_floorMod_7cf53 18 = .ok (.iload_n 2, 1))) rfl rfl ?_
      exact hE _ 19 0 _ _ (some (.int (a - a / c * c))) (by decide +kernel : decode cJ9_floorMod_7cf53 19 = .ok (.ireturn, 1)) ⟨_, _, rfl, rfl, rfl⟩ ⟨congrArg (fun z => some (Value.int z)) (if_neg (fun z => z.2 g2)), rfl⟩ (Nat.le_of_ble_eq_true rfl)
    · refine sd_if_eq (tgt := 18) (hF _) (jde hC (by decide +kernel : decode cJ9_floorMod_7cf53 11 = .ok (.ifCond .eq 7, 3))) rfl (fun z => absurd z (g2)) (fun _ => ?_)
      refine jd_iload_n (i := 2) (hF _) (jde hC (by decide +kernel : decode cJ9_floorMod_7cf53 14 = .ok (.iload_n 2, 1))) rfl rfl ?_
      refine jd_iload_n (i := 1) (hF _) (jde hC (by decide +kernel : decode cJ9_floorMod_7cf53 15 = .ok (.iload_n 1, 1))) rfl rfl ?_
      refine sd_iadd (hF _) (jde hC (by decide +kernel : decode cJ9_floorMod_7cf53 16 = .ok (.iadd, 1))) ?_
      exact hE _ 17 0 _ _ (some (.int ((a - a / c * c) + c))) (by decide +kernel : decode cJ9_floorMod_7cf53 17 = .ok (.ireturn, 1)) ⟨_, _, rfl, rfl, rfl⟩ ⟨congrArg (fun z => some (Value.int z)) (if_pos ⟨Int32.not_le.mp g, g2⟩), rfl⟩ (Nat.le_of_ble_eq_true rfl)
