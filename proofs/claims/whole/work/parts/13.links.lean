def FT_ : Lk := [("PillowBarge$Cargo", 9, 128), ("PillowBarge$Cargo", 15, 130), ("PillowBarge$Cargo", 18, 132), ("PillowBarge$Cargo", 21, 134), ("PillowBarge$Cargo", 24, 136), ("PillowBarge$History", 13, 320), ("PillowBarge$Voyage", 15, 192), ("PillowBarge$Voyage", 19, 194), ("PillowBarge$Voyage", 9, 197), ("PillowBarge$Tally", 7, 256), ("PillowBarge$Tally", 13, 258), ("PillowBarge$Tally", 16, 260), ("PillowBarge$Tally", 19, 262), ("PillowBarge$Tally", 22, 264), ("PillowBarge$State", 12, 64), ("PillowBarge$State", 21, 66), ("PillowBarge$State", 28, 68), ("PillowBarge$State", 32, 70), ("PillowBarge$History", 18, 322), ("PillowBarge$History", 36, 324), ("PillowBarge$Script", 22, 390), ("PillowBarge$Script", 11, 384), ("PillowBarge$Script", 15, 386), ("PillowBarge$Script", 19, 388), ("PillowBarge$Script", 26, 394), ("PillowBarge$Script", 29, 392), ("PillowBarge$State", 58, 194), ("PillowBarge$State", 103, 192), ("PillowBarge$State", 142, 256), ("PillowBarge$State", 152, 258), ("PillowBarge$State", 155, 260), ("PillowBarge$State", 161, 262), ("PillowBarge$State", 164, 264), ("PillowBarge$State", 132, 197), ("PillowBarge", 12, 0), ("PillowBarge", 19, 2), ("PillowBarge", 87, 64), ("PillowBarge", 152, 70), ("PillowBarge", 178, 66), ("PillowBarge", 182, 192), ("PillowBarge", 187, 194), ("PillowBarge", 190, 197), ("PillowBarge", 47, 16), ("PillowBarge", 242, 68), ("PillowBarge", 246, 256), ("PillowBarge", 251, 258), ("PillowBarge", 254, 260), ("PillowBarge", 257, 262), ("PillowBarge", 260, 264), ("PillowBarge", 43, 14), ("PillowBarge", 29, 8), ("PillowBarge", 302, 390), ("PillowBarge", 319, 392), ("PillowBarge", 310, 394), ("PillowBarge", 33, 10), ("PillowBarge", 37, 12), ("PillowBarge", 328, 324), ("PillowBarge", 23, 4), ("PillowBarge", 335, 7), ("PillowBargeModel", 1, 448), ("PillowBargeModel", 23, 456), ("PillowBargeModel", 13, 450), ("PillowBargeModel", 42, 458), ("PillowBargeModel", 45, 460), ("PillowBargeModel", 17, 452), ("PillowBargeModel", 26, 464), ("PillowBargeModel", 185, 466), ("PillowBargeModel", 194, 470), ("PillowBargeModel", 30, 468), ("PillowBargeModel", 197, 472), ("PillowBargeModel", 39, 478), ("PillowBargeModel", 212, 480), ("PillowBargeModel", 228, 482), ("PillowBargeModel", 33, 474), ("PillowBargeModel", 36, 476), ("PillowBargeModel", 20, 454), ("PillowBargeModel", 246, 463)]
theorem fl_0 : FLk "PillowBarge$Cargo" 9 128 := ⟨(RX0, TX0, 5), rfl, Or.inl (all_at 137 (by decide +kernel) rfl)⟩
theorem fl_1 : FLk "PillowBarge$Cargo" 15 130 := ⟨(RX0, TX0, 5), rfl, Or.inl (all_at 138 (by decide +kernel) rfl)⟩
theorem fl_2 : FLk "PillowBarge$Cargo" 18 132 := ⟨(RX0, TX0, 5), rfl, Or.inl (all_at 139 (by decide +kernel) rfl)⟩
theorem fl_3 : FLk "PillowBarge$Cargo" 21 134 := ⟨(RX0, TX0, 5), rfl, Or.inl (all_at 140 (by decide +kernel) rfl)⟩
theorem fl_4 : FLk "PillowBarge$Cargo" 24 136 := ⟨(RX0, TX0, 5), rfl, Or.inl (all_at 141 (by decide +kernel) rfl)⟩
theorem fl_5 : FLk "PillowBarge$History" 13 320 := ⟨(RX1, TX1, 3), rfl, Or.inl (all_at 234 (by decide +kernel) rfl)⟩
theorem fl_6 : FLk "PillowBarge$Voyage" 15 192 := ⟨(RX5, TX5, 3), rfl, Or.inl (all_at 160 (by decide +kernel) rfl)⟩
theorem fl_7 : FLk "PillowBarge$Voyage" 19 194 := ⟨(RX5, TX5, 3), rfl, Or.inl (all_at 163 (by decide +kernel) rfl)⟩
theorem fl_8 : FLk "PillowBarge$Voyage" 9 197 := ⟨(RX5, TX5, 3), rfl, Or.inl (all_at 166 (by decide +kernel) rfl)⟩
theorem fl_9 : FLk "PillowBarge$Tally" 7 256 := ⟨(RX4, TX4, 5), rfl, Or.inl (all_at 182 (by decide +kernel) rfl)⟩
theorem fl_10 : FLk "PillowBarge$Tally" 13 258 := ⟨(RX4, TX4, 5), rfl, Or.inl (all_at 185 (by decide +kernel) rfl)⟩
theorem fl_11 : FLk "PillowBarge$Tally" 16 260 := ⟨(RX4, TX4, 5), rfl, Or.inl (all_at 188 (by decide +kernel) rfl)⟩
theorem fl_12 : FLk "PillowBarge$Tally" 19 262 := ⟨(RX4, TX4, 5), rfl, Or.inl (all_at 191 (by decide +kernel) rfl)⟩
theorem fl_13 : FLk "PillowBarge$Tally" 22 264 := ⟨(RX4, TX4, 5), rfl, Or.inl (all_at 194 (by decide +kernel) rfl)⟩
theorem fl_14 : FLk "PillowBarge$State" 12 64 := ⟨(RX3, TX3, 4), rfl, Or.inl (all_at 208 (by decide +kernel) rfl)⟩
theorem fl_15 : FLk "PillowBarge$State" 21 66 := ⟨(RX3, TX3, 4), rfl, Or.inl (all_at 210 (by decide +kernel) rfl)⟩
theorem fl_16 : FLk "PillowBarge$State" 28 68 := ⟨(RX3, TX3, 4), rfl, Or.inl (all_at 212 (by decide +kernel) rfl)⟩
theorem fl_17 : FLk "PillowBarge$State" 32 70 := ⟨(RX3, TX3, 4), rfl, Or.inl (all_at 214 (by decide +kernel) rfl)⟩
theorem fl_18 : FLk "PillowBarge$History" 18 322 := ⟨(RX1, TX1, 3), rfl, Or.inl (all_at 235 (by decide +kernel) rfl)⟩
theorem fl_19 : FLk "PillowBarge$History" 36 324 := ⟨(RX1, TX1, 3), rfl, Or.inl (all_at 236 (by decide +kernel) rfl)⟩
theorem fl_20 : FLk "PillowBarge$Script" 22 390 := ⟨(RX2, TX2, 6), rfl, Or.inl (all_at 254 (by decide +kernel) rfl)⟩
theorem fl_21 : FLk "PillowBarge$Script" 11 384 := ⟨(RX2, TX2, 6), rfl, Or.inl (all_at 251 (by decide +kernel) rfl)⟩
theorem fl_22 : FLk "PillowBarge$Script" 15 386 := ⟨(RX2, TX2, 6), rfl, Or.inl (all_at 252 (by decide +kernel) rfl)⟩
theorem fl_23 : FLk "PillowBarge$Script" 19 388 := ⟨(RX2, TX2, 6), rfl, Or.inl (all_at 253 (by decide +kernel) rfl)⟩
theorem fl_24 : FLk "PillowBarge$Script" 26 394 := ⟨(RX2, TX2, 6), rfl, Or.inl (all_at 258 (by decide +kernel) rfl)⟩
theorem fl_25 : FLk "PillowBarge$Script" 29 392 := ⟨(RX2, TX2, 6), rfl, Or.inl (all_at 256 (by decide +kernel) rfl)⟩
theorem fl_26 : FLk "PillowBarge$State" 58 194 := ⟨(RX5, TX5, 3), rfl, Or.inr ⟨"PillowBarge", nw_at 164 (by decide +kernel) rfl⟩⟩
theorem fl_27 : FLk "PillowBarge$State" 103 192 := ⟨(RX5, TX5, 3), rfl, Or.inr ⟨"PillowBarge", nw_at 161 (by decide +kernel) rfl⟩⟩
theorem fl_28 : FLk "PillowBarge$State" 142 256 := ⟨(RX4, TX4, 5), rfl, Or.inr ⟨"PillowBarge", nw_at 183 (by decide +kernel) rfl⟩⟩
theorem fl_29 : FLk "PillowBarge$State" 152 258 := ⟨(RX4, TX4, 5), rfl, Or.inr ⟨"PillowBarge", nw_at 186 (by decide +kernel) rfl⟩⟩
theorem fl_30 : FLk "PillowBarge$State" 155 260 := ⟨(RX4, TX4, 5), rfl, Or.inr ⟨"PillowBarge", nw_at 189 (by decide +kernel) rfl⟩⟩
theorem fl_31 : FLk "PillowBarge$State" 161 262 := ⟨(RX4, TX4, 5), rfl, Or.inr ⟨"PillowBarge", nw_at 192 (by decide +kernel) rfl⟩⟩
theorem fl_32 : FLk "PillowBarge$State" 164 264 := ⟨(RX4, TX4, 5), rfl, Or.inr ⟨"PillowBarge", nw_at 195 (by decide +kernel) rfl⟩⟩
theorem fl_33 : FLk "PillowBarge$State" 132 197 := ⟨(RX5, TX5, 3), rfl, Or.inr ⟨"PillowBarge", nw_at 167 (by decide +kernel) rfl⟩⟩
theorem fl_34 : FLk "PillowBarge" 12 0 := ⟨(RX6, TX6, 9), rfl, Or.inl (all_at 307 (by decide +kernel) rfl)⟩
theorem fl_35 : FLk "PillowBarge" 19 2 := ⟨(RX6, TX6, 9), rfl, Or.inl (all_at 308 (by decide +kernel) rfl)⟩
theorem fl_36 : FLk "PillowBarge" 87 64 := ⟨(RX3, TX3, 4), rfl, Or.inr ⟨"PillowBarge", nw_at 209 (by decide +kernel) rfl⟩⟩
theorem fl_37 : FLk "PillowBarge" 152 70 := ⟨(RX3, TX3, 4), rfl, Or.inr ⟨"PillowBarge", nw_at 215 (by decide +kernel) rfl⟩⟩
theorem fl_38 : FLk "PillowBarge" 178 66 := ⟨(RX3, TX3, 4), rfl, Or.inr ⟨"PillowBarge", nw_at 211 (by decide +kernel) rfl⟩⟩
theorem fl_39 : FLk "PillowBarge" 182 192 := ⟨(RX5, TX5, 3), rfl, Or.inr ⟨"PillowBarge", nw_at 162 (by decide +kernel) rfl⟩⟩
theorem fl_40 : FLk "PillowBarge" 187 194 := ⟨(RX5, TX5, 3), rfl, Or.inr ⟨"PillowBarge", nw_at 165 (by decide +kernel) rfl⟩⟩
theorem fl_41 : FLk "PillowBarge" 190 197 := ⟨(RX5, TX5, 3), rfl, Or.inr ⟨"PillowBarge", nw_at 168 (by decide +kernel) rfl⟩⟩
theorem fl_42 : FLk "PillowBarge" 47 16 := ⟨(RX6, TX6, 9), rfl, Or.inl (all_at 315 (by decide +kernel) rfl)⟩
theorem fl_43 : FLk "PillowBarge" 242 68 := ⟨(RX3, TX3, 4), rfl, Or.inr ⟨"PillowBarge", nw_at 213 (by decide +kernel) rfl⟩⟩
theorem fl_44 : FLk "PillowBarge" 246 256 := ⟨(RX4, TX4, 5), rfl, Or.inr ⟨"PillowBarge", nw_at 184 (by decide +kernel) rfl⟩⟩
theorem fl_45 : FLk "PillowBarge" 251 258 := ⟨(RX4, TX4, 5), rfl, Or.inr ⟨"PillowBarge", nw_at 187 (by decide +kernel) rfl⟩⟩
theorem fl_46 : FLk "PillowBarge" 254 260 := ⟨(RX4, TX4, 5), rfl, Or.inr ⟨"PillowBarge", nw_at 190 (by decide +kernel) rfl⟩⟩
theorem fl_47 : FLk "PillowBarge" 257 262 := ⟨(RX4, TX4, 5), rfl, Or.inr ⟨"PillowBarge", nw_at 193 (by decide +kernel) rfl⟩⟩
theorem fl_48 : FLk "PillowBarge" 260 264 := ⟨(RX4, TX4, 5), rfl, Or.inr ⟨"PillowBarge", nw_at 196 (by decide +kernel) rfl⟩⟩
theorem fl_49 : FLk "PillowBarge" 43 14 := ⟨(RX6, TX6, 9), rfl, Or.inl (all_at 314 (by decide +kernel) rfl)⟩
theorem fl_50 : FLk "PillowBarge" 29 8 := ⟨(RX6, TX6, 9), rfl, Or.inl (all_at 311 (by decide +kernel) rfl)⟩
theorem fl_51 : FLk "PillowBarge" 302 390 := ⟨(RX2, TX2, 6), rfl, Or.inr ⟨"PillowBarge", nw_at 255 (by decide +kernel) rfl⟩⟩
theorem fl_52 : FLk "PillowBarge" 319 392 := ⟨(RX2, TX2, 6), rfl, Or.inr ⟨"PillowBarge", nw_at 257 (by decide +kernel) rfl⟩⟩
theorem fl_53 : FLk "PillowBarge" 310 394 := ⟨(RX2, TX2, 6), rfl, Or.inr ⟨"PillowBarge", nw_at 259 (by decide +kernel) rfl⟩⟩
theorem fl_54 : FLk "PillowBarge" 33 10 := ⟨(RX6, TX6, 9), rfl, Or.inl (all_at 312 (by decide +kernel) rfl)⟩
theorem fl_55 : FLk "PillowBarge" 37 12 := ⟨(RX6, TX6, 9), rfl, Or.inl (all_at 313 (by decide +kernel) rfl)⟩
theorem fl_56 : FLk "PillowBarge" 328 324 := ⟨(RX1, TX1, 3), rfl, Or.inr ⟨"PillowBarge", nw_at 237 (by decide +kernel) rfl⟩⟩
theorem fl_57 : FLk "PillowBarge" 23 4 := ⟨(RX6, TX6, 9), rfl, Or.inl (all_at 309 (by decide +kernel) rfl)⟩
theorem fl_58 : FLk "PillowBarge" 335 7 := ⟨(RX6, TX6, 9), rfl, Or.inl (all_at 310 (by decide +kernel) rfl)⟩
theorem fl_59 : FLk "PillowBargeModel" 1 448 := ⟨(RX7, TX7, 18), rfl, Or.inl (all_at 1550 (by decide +kernel) rfl)⟩
theorem fl_60 : FLk "PillowBargeModel" 23 456 := ⟨(RX7, TX7, 18), rfl, Or.inl (all_at 1554 (by decide +kernel) rfl)⟩
theorem fl_61 : FLk "PillowBargeModel" 13 450 := ⟨(RX7, TX7, 18), rfl, Or.inl (all_at 1551 (by decide +kernel) rfl)⟩
theorem fl_62 : FLk "PillowBargeModel" 42 458 := ⟨(RX7, TX7, 18), rfl, Or.inl (all_at 1555 (by decide +kernel) rfl)⟩
theorem fl_63 : FLk "PillowBargeModel" 45 460 := ⟨(RX7, TX7, 18), rfl, Or.inl (all_at 1556 (by decide +kernel) rfl)⟩
theorem fl_64 : FLk "PillowBargeModel" 17 452 := ⟨(RX7, TX7, 18), rfl, Or.inl (all_at 1552 (by decide +kernel) rfl)⟩
theorem fl_65 : FLk "PillowBargeModel" 26 464 := ⟨(RX7, TX7, 18), rfl, Or.inl (all_at 1558 (by decide +kernel) rfl)⟩
theorem fl_66 : FLk "PillowBargeModel" 185 466 := ⟨(RX7, TX7, 18), rfl, Or.inl (all_at 1559 (by decide +kernel) rfl)⟩
theorem fl_67 : FLk "PillowBargeModel" 194 470 := ⟨(RX7, TX7, 18), rfl, Or.inl (all_at 1561 (by decide +kernel) rfl)⟩
theorem fl_68 : FLk "PillowBargeModel" 30 468 := ⟨(RX7, TX7, 18), rfl, Or.inl (all_at 1560 (by decide +kernel) rfl)⟩
theorem fl_69 : FLk "PillowBargeModel" 197 472 := ⟨(RX7, TX7, 18), rfl, Or.inl (all_at 1562 (by decide +kernel) rfl)⟩
theorem fl_70 : FLk "PillowBargeModel" 39 478 := ⟨(RX7, TX7, 18), rfl, Or.inl (all_at 1565 (by decide +kernel) rfl)⟩
theorem fl_71 : FLk "PillowBargeModel" 212 480 := ⟨(RX7, TX7, 18), rfl, Or.inl (all_at 1566 (by decide +kernel) rfl)⟩
theorem fl_72 : FLk "PillowBargeModel" 228 482 := ⟨(RX7, TX7, 18), rfl, Or.inl (all_at 1567 (by decide +kernel) rfl)⟩
theorem fl_73 : FLk "PillowBargeModel" 33 474 := ⟨(RX7, TX7, 18), rfl, Or.inl (all_at 1563 (by decide +kernel) rfl)⟩
theorem fl_74 : FLk "PillowBargeModel" 36 476 := ⟨(RX7, TX7, 18), rfl, Or.inl (all_at 1564 (by decide +kernel) rfl)⟩
theorem fl_75 : FLk "PillowBargeModel" 20 454 := ⟨(RX7, TX7, 18), rfl, Or.inl (all_at 1553 (by decide +kernel) rfl)⟩
theorem fl_76 : FLk "PillowBargeModel" 246 463 := ⟨(RX7, TX7, 18), rfl, Or.inl (all_at 1557 (by decide +kernel) rfl)⟩
theorem FT_ok : ∀ q ∈ FT_, FLk q.1 q.2.1 q.2.2 := (List.forall_mem_cons.mpr ⟨fl_0, (List.forall_mem_cons.mpr ⟨fl_1, (List.forall_mem_cons.mpr ⟨fl_2, (List.forall_mem_cons.mpr ⟨fl_3, (List.forall_mem_cons.mpr ⟨fl_4, (List.forall_mem_cons.mpr ⟨fl_5, (List.forall_mem_cons.mpr ⟨fl_6, (List.forall_mem_cons.mpr ⟨fl_7, (List.forall_mem_cons.mpr ⟨fl_8, (List.forall_mem_cons.mpr ⟨fl_9, (List.forall_mem_cons.mpr ⟨fl_10, (List.forall_mem_cons.mpr ⟨fl_11, (List.forall_mem_cons.mpr ⟨fl_12, (List.forall_mem_cons.mpr ⟨fl_13, (List.forall_mem_cons.mpr ⟨fl_14, (List.forall_mem_cons.mpr ⟨fl_15, (List.forall_mem_cons.mpr ⟨fl_16, (List.forall_mem_cons.mpr ⟨fl_17, (List.forall_mem_cons.mpr ⟨fl_18, (List.forall_mem_cons.mpr ⟨fl_19, (List.forall_mem_cons.mpr ⟨fl_20, (List.forall_mem_cons.mpr ⟨fl_21, (List.forall_mem_cons.mpr ⟨fl_22, (List.forall_mem_cons.mpr ⟨fl_23, (List.forall_mem_cons.mpr ⟨fl_24, (List.forall_mem_cons.mpr ⟨fl_25, (List.forall_mem_cons.mpr ⟨fl_26, (List.forall_mem_cons.mpr ⟨fl_27, (List.forall_mem_cons.mpr ⟨fl_28, (List.forall_mem_cons.mpr ⟨fl_29, (List.forall_mem_cons.mpr ⟨fl_30, (List.forall_mem_cons.mpr ⟨fl_31, (List.forall_mem_cons.mpr ⟨fl_32, (List.forall_mem_cons.mpr ⟨fl_33, (List.forall_mem_cons.mpr ⟨fl_34, (List.forall_mem_cons.mpr ⟨fl_35, (List.forall_mem_cons.mpr ⟨fl_36, (List.forall_mem_cons.mpr ⟨fl_37, (List.forall_mem_cons.mpr ⟨fl_38, (List.forall_mem_cons.mpr ⟨fl_39, (List.forall_mem_cons.mpr ⟨fl_40, (List.forall_mem_cons.mpr ⟨fl_41, (List.forall_mem_cons.mpr ⟨fl_42, (List.forall_mem_cons.mpr ⟨fl_43, (List.forall_mem_cons.mpr ⟨fl_44, (List.forall_mem_cons.mpr ⟨fl_45, (List.forall_mem_cons.mpr ⟨fl_46, (List.forall_mem_cons.mpr ⟨fl_47, (List.forall_mem_cons.mpr ⟨fl_48, (List.forall_mem_cons.mpr ⟨fl_49, (List.forall_mem_cons.mpr ⟨fl_50, (List.forall_mem_cons.mpr ⟨fl_51, (List.forall_mem_cons.mpr ⟨fl_52, (List.forall_mem_cons.mpr ⟨fl_53, (List.forall_mem_cons.mpr ⟨fl_54, (List.forall_mem_cons.mpr ⟨fl_55, (List.forall_mem_cons.mpr ⟨fl_56, (List.forall_mem_cons.mpr ⟨fl_57, (List.forall_mem_cons.mpr ⟨fl_58, (List.forall_mem_cons.mpr ⟨fl_59, (List.forall_mem_cons.mpr ⟨fl_60, (List.forall_mem_cons.mpr ⟨fl_61, (List.forall_mem_cons.mpr ⟨fl_62, (List.forall_mem_cons.mpr ⟨fl_63, (List.forall_mem_cons.mpr ⟨fl_64, (List.forall_mem_cons.mpr ⟨fl_65, (List.forall_mem_cons.mpr ⟨fl_66, (List.forall_mem_cons.mpr ⟨fl_67, (List.forall_mem_cons.mpr ⟨fl_68, (List.forall_mem_cons.mpr ⟨fl_69, (List.forall_mem_cons.mpr ⟨fl_70, (List.forall_mem_cons.mpr ⟨fl_71, (List.forall_mem_cons.mpr ⟨fl_72, (List.forall_mem_cons.mpr ⟨fl_73, (List.forall_mem_cons.mpr ⟨fl_74, (List.forall_mem_cons.mpr ⟨fl_75, (List.forall_mem_cons.mpr ⟨fl_76, (fun _ h => nomatch h)⟩)⟩)⟩)⟩)⟩)⟩)⟩)⟩)⟩)⟩)⟩)⟩)⟩)⟩)⟩)⟩)⟩)⟩)⟩)⟩)⟩)⟩)⟩)⟩)⟩)⟩)⟩)⟩)⟩)⟩)⟩)⟩)⟩)⟩)⟩)⟩)⟩)⟩)⟩)⟩)⟩)⟩)⟩)⟩)⟩)⟩)⟩)⟩)⟩)⟩)⟩)⟩)⟩)⟩)⟩)⟩)⟩)⟩)⟩)⟩)⟩)⟩)⟩)⟩)⟩)⟩)⟩)⟩)⟩)⟩)⟩)⟩)⟩)⟩)⟩)⟩)⟩)
def PT_ : Lk := [("PillowBarge$Voyage", 15, 192), ("PillowBarge$Voyage", 19, 194), ("PillowBarge$Voyage", 9, 197), ("PillowBarge$Tally", 7, 256), ("PillowBarge$Tally", 13, 258), ("PillowBarge$Tally", 16, 260), ("PillowBarge$Tally", 19, 262), ("PillowBarge$Tally", 22, 264), ("PillowBarge$State", 32, 70), ("PillowBarge$History", 18, 322), ("PillowBarge$History", 36, 324), ("PillowBarge$Script", 22, 390), ("PillowBarge$Script", 26, 394), ("PillowBarge$Script", 29, 392), ("PillowBarge$State", 142, 256), ("PillowBarge$State", 152, 258), ("PillowBarge$State", 155, 260), ("PillowBarge$State", 161, 262), ("PillowBarge$State", 164, 264), ("PillowBarge", 33, 10), ("PillowBarge", 37, 12), ("PillowBarge", 335, 7), ("PillowBargeModel", 1, 448), ("PillowBargeModel", 45, 460), ("PillowBargeModel", 42, 458), ("PillowBargeModel", 185, 466), ("PillowBargeModel", 194, 470), ("PillowBargeModel", 197, 472), ("PillowBargeModel", 212, 480), ("PillowBargeModel", 228, 482), ("PillowBargeModel", 33, 474), ("PillowBargeModel", 36, 476), ("PillowBargeModel", 246, 463)]
theorem pl_0 : PLk "PillowBarge$Voyage" 15 192 := ⟨fl_6, (RX5, TX5, 3), rfl, by decide +kernel, by decide +kernel⟩
theorem pl_1 : PLk "PillowBarge$Voyage" 19 194 := ⟨fl_7, (RX5, TX5, 3), rfl, by decide +kernel, by decide +kernel⟩
theorem pl_2 : PLk "PillowBarge$Voyage" 9 197 := ⟨fl_8, (RX5, TX5, 3), rfl, by decide +kernel, by decide +kernel⟩
theorem pl_3 : PLk "PillowBarge$Tally" 7 256 := ⟨fl_9, (RX4, TX4, 5), rfl, by decide +kernel, by decide +kernel⟩
theorem pl_4 : PLk "PillowBarge$Tally" 13 258 := ⟨fl_10, (RX4, TX4, 5), rfl, by decide +kernel, by decide +kernel⟩
theorem pl_5 : PLk "PillowBarge$Tally" 16 260 := ⟨fl_11, (RX4, TX4, 5), rfl, by decide +kernel, by decide +kernel⟩
theorem pl_6 : PLk "PillowBarge$Tally" 19 262 := ⟨fl_12, (RX4, TX4, 5), rfl, by decide +kernel, by decide +kernel⟩
theorem pl_7 : PLk "PillowBarge$Tally" 22 264 := ⟨fl_13, (RX4, TX4, 5), rfl, by decide +kernel, by decide +kernel⟩
theorem pl_8 : PLk "PillowBarge$State" 32 70 := ⟨fl_17, (RX3, TX3, 4), rfl, by decide +kernel, by decide +kernel⟩
theorem pl_9 : PLk "PillowBarge$History" 18 322 := ⟨fl_18, (RX1, TX1, 3), rfl, by decide +kernel, by decide +kernel⟩
theorem pl_10 : PLk "PillowBarge$History" 36 324 := ⟨fl_19, (RX1, TX1, 3), rfl, by decide +kernel, by decide +kernel⟩
theorem pl_11 : PLk "PillowBarge$Script" 22 390 := ⟨fl_20, (RX2, TX2, 6), rfl, by decide +kernel, by decide +kernel⟩
theorem pl_12 : PLk "PillowBarge$Script" 26 394 := ⟨fl_24, (RX2, TX2, 6), rfl, by decide +kernel, by decide +kernel⟩
theorem pl_13 : PLk "PillowBarge$Script" 29 392 := ⟨fl_25, (RX2, TX2, 6), rfl, by decide +kernel, by decide +kernel⟩
theorem pl_14 : PLk "PillowBarge$State" 142 256 := ⟨fl_28, (RX4, TX4, 5), rfl, by decide +kernel, by decide +kernel⟩
theorem pl_15 : PLk "PillowBarge$State" 152 258 := ⟨fl_29, (RX4, TX4, 5), rfl, by decide +kernel, by decide +kernel⟩
theorem pl_16 : PLk "PillowBarge$State" 155 260 := ⟨fl_30, (RX4, TX4, 5), rfl, by decide +kernel, by decide +kernel⟩
theorem pl_17 : PLk "PillowBarge$State" 161 262 := ⟨fl_31, (RX4, TX4, 5), rfl, by decide +kernel, by decide +kernel⟩
theorem pl_18 : PLk "PillowBarge$State" 164 264 := ⟨fl_32, (RX4, TX4, 5), rfl, by decide +kernel, by decide +kernel⟩
theorem pl_19 : PLk "PillowBarge" 33 10 := ⟨fl_54, (RX6, TX6, 9), rfl, by decide +kernel, by decide +kernel⟩
theorem pl_20 : PLk "PillowBarge" 37 12 := ⟨fl_55, (RX6, TX6, 9), rfl, by decide +kernel, by decide +kernel⟩
theorem pl_21 : PLk "PillowBarge" 335 7 := ⟨fl_58, (RX6, TX6, 9), rfl, by decide +kernel, by decide +kernel⟩
theorem pl_22 : PLk "PillowBargeModel" 1 448 := ⟨fl_59, (RX7, TX7, 18), rfl, by decide +kernel, by decide +kernel⟩
theorem pl_23 : PLk "PillowBargeModel" 45 460 := ⟨fl_63, (RX7, TX7, 18), rfl, by decide +kernel, by decide +kernel⟩
theorem pl_24 : PLk "PillowBargeModel" 42 458 := ⟨fl_62, (RX7, TX7, 18), rfl, by decide +kernel, by decide +kernel⟩
theorem pl_25 : PLk "PillowBargeModel" 185 466 := ⟨fl_66, (RX7, TX7, 18), rfl, by decide +kernel, by decide +kernel⟩
theorem pl_26 : PLk "PillowBargeModel" 194 470 := ⟨fl_67, (RX7, TX7, 18), rfl, by decide +kernel, by decide +kernel⟩
theorem pl_27 : PLk "PillowBargeModel" 197 472 := ⟨fl_69, (RX7, TX7, 18), rfl, by decide +kernel, by decide +kernel⟩
theorem pl_28 : PLk "PillowBargeModel" 212 480 := ⟨fl_71, (RX7, TX7, 18), rfl, by decide +kernel, by decide +kernel⟩
theorem pl_29 : PLk "PillowBargeModel" 228 482 := ⟨fl_72, (RX7, TX7, 18), rfl, by decide +kernel, by decide +kernel⟩
theorem pl_30 : PLk "PillowBargeModel" 33 474 := ⟨fl_73, (RX7, TX7, 18), rfl, by decide +kernel, by decide +kernel⟩
theorem pl_31 : PLk "PillowBargeModel" 36 476 := ⟨fl_74, (RX7, TX7, 18), rfl, by decide +kernel, by decide +kernel⟩
theorem pl_32 : PLk "PillowBargeModel" 246 463 := ⟨fl_76, (RX7, TX7, 18), rfl, by decide +kernel, by decide +kernel⟩
theorem PT_ok : ∀ q ∈ PT_, PLk q.1 q.2.1 q.2.2 := (List.forall_mem_cons.mpr ⟨pl_0, (List.forall_mem_cons.mpr ⟨pl_1, (List.forall_mem_cons.mpr ⟨pl_2, (List.forall_mem_cons.mpr ⟨pl_3, (List.forall_mem_cons.mpr ⟨pl_4, (List.forall_mem_cons.mpr ⟨pl_5, (List.forall_mem_cons.mpr ⟨pl_6, (List.forall_mem_cons.mpr ⟨pl_7, (List.forall_mem_cons.mpr ⟨pl_8, (List.forall_mem_cons.mpr ⟨pl_9, (List.forall_mem_cons.mpr ⟨pl_10, (List.forall_mem_cons.mpr ⟨pl_11, (List.forall_mem_cons.mpr ⟨pl_12, (List.forall_mem_cons.mpr ⟨pl_13, (List.forall_mem_cons.mpr ⟨pl_14, (List.forall_mem_cons.mpr ⟨pl_15, (List.forall_mem_cons.mpr ⟨pl_16, (List.forall_mem_cons.mpr ⟨pl_17, (List.forall_mem_cons.mpr ⟨pl_18, (List.forall_mem_cons.mpr ⟨pl_19, (List.forall_mem_cons.mpr ⟨pl_20, (List.forall_mem_cons.mpr ⟨pl_21, (List.forall_mem_cons.mpr ⟨pl_22, (List.forall_mem_cons.mpr ⟨pl_23, (List.forall_mem_cons.mpr ⟨pl_24, (List.forall_mem_cons.mpr ⟨pl_25, (List.forall_mem_cons.mpr ⟨pl_26, (List.forall_mem_cons.mpr ⟨pl_27, (List.forall_mem_cons.mpr ⟨pl_28, (List.forall_mem_cons.mpr ⟨pl_29, (List.forall_mem_cons.mpr ⟨pl_30, (List.forall_mem_cons.mpr ⟨pl_31, (List.forall_mem_cons.mpr ⟨pl_32, (fun _ h => nomatch h)⟩)⟩)⟩)⟩)⟩)⟩)⟩)⟩)⟩)⟩)⟩)⟩)⟩)⟩)⟩)⟩)⟩)⟩)⟩)⟩)⟩)⟩)⟩)⟩)⟩)⟩)⟩)⟩)⟩)⟩)⟩)⟩)⟩)
def NT_ : List (String × Nat × Nat × Nat) := [("PillowBarge", 72, 1, 74), ("PillowBarge", 75, 2, 77), ("PillowBarge", 78, 3, 80), ("PillowBarge", 81, 4, 83), ("PillowBarge", 84, 5, 86), ("PillowBarge", 263, 6, 265)]
theorem nt_of {own : String} {ik ic ex : Nat} (h : (Cond.classLink own ik (exN ex) :: Cond.initialized (exN ex) :: vx_at0 own ic (exN ex) ["java/lang/RuntimeException", "java/lang/Exception"]).all (fun w => decide (w ∈ lw_tbl) && ((goodWord w || nw_is w) && vx_ot w)) = true) : ∀ w ∈ Cond.classLink own ik (exN ex) :: Cond.initialized (exN ex) :: vx_at0 own ic (exN ex) ["java/lang/RuntimeException", "java/lang/Exception"], (w ∈ lw_all ∨ w ∈ nw_all) ∧ vx_ot w = true := by
  intro w hw
  have h1 := List.all_eq_true.mp h w hw
  rw [Bool.and_eq_true, Bool.and_eq_true, Bool.or_eq_true] at h1
  have h2 := of_decide_eq_true h1.1
  exact ⟨h1.2.1.elim (fun g => Or.inl (List.mem_filter.mpr ⟨List.mem_append_left _ h2, g⟩)) (fun g => Or.inr (List.mem_filter.mpr ⟨h2, g⟩)), h1.2.2⟩
theorem nt_0 : ∀ w ∈ Cond.classLink "PillowBarge" 72 (exN 1) :: Cond.initialized (exN 1) :: vx_at0 "PillowBarge" 74 (exN 1) ["java/lang/RuntimeException", "java/lang/Exception"], (w ∈ lw_all ∨ w ∈ nw_all) ∧ vx_ot w = true := nt_of (by decide +kernel)
theorem nt_1 : ∀ w ∈ Cond.classLink "PillowBarge" 75 (exN 2) :: Cond.initialized (exN 2) :: vx_at0 "PillowBarge" 77 (exN 2) ["java/lang/RuntimeException", "java/lang/Exception"], (w ∈ lw_all ∨ w ∈ nw_all) ∧ vx_ot w = true := nt_of (by decide +kernel)
theorem nt_2 : ∀ w ∈ Cond.classLink "PillowBarge" 78 (exN 3) :: Cond.initialized (exN 3) :: vx_at0 "PillowBarge" 80 (exN 3) ["java/lang/RuntimeException", "java/lang/Exception"], (w ∈ lw_all ∨ w ∈ nw_all) ∧ vx_ot w = true := nt_of (by decide +kernel)
theorem nt_3 : ∀ w ∈ Cond.classLink "PillowBarge" 81 (exN 4) :: Cond.initialized (exN 4) :: vx_at0 "PillowBarge" 83 (exN 4) ["java/lang/RuntimeException", "java/lang/Exception"], (w ∈ lw_all ∨ w ∈ nw_all) ∧ vx_ot w = true := nt_of (by decide +kernel)
theorem nt_4 : ∀ w ∈ Cond.classLink "PillowBarge" 84 (exN 5) :: Cond.initialized (exN 5) :: vx_at0 "PillowBarge" 86 (exN 5) ["java/lang/RuntimeException", "java/lang/Exception"], (w ∈ lw_all ∨ w ∈ nw_all) ∧ vx_ot w = true := nt_of (by decide +kernel)
theorem nt_5 : ∀ w ∈ Cond.classLink "PillowBarge" 263 (exN 6) :: Cond.initialized (exN 6) :: vx_at0 "PillowBarge" 265 (exN 6) ["java/lang/RuntimeException", "java/lang/Exception"], (w ∈ lw_all ∨ w ∈ nw_all) ∧ vx_ot w = true := nt_of (by decide +kernel)
theorem NT_ok : ∀ q ∈ NT_, ∀ w ∈ Cond.classLink q.1 q.2.1 (exN q.2.2.1) :: Cond.initialized (exN q.2.2.1) :: vx_at0 q.1 q.2.2.2 (exN q.2.2.1) ["java/lang/RuntimeException", "java/lang/Exception"], (w ∈ lw_all ∨ w ∈ nw_all) ∧ vx_ot w = true := (List.forall_mem_cons.mpr ⟨nt_0, (List.forall_mem_cons.mpr ⟨nt_1, (List.forall_mem_cons.mpr ⟨nt_2, (List.forall_mem_cons.mpr ⟨nt_3, (List.forall_mem_cons.mpr ⟨nt_4, (List.forall_mem_cons.mpr ⟨nt_5, (fun _ h => nomatch h)⟩)⟩)⟩)⟩)⟩)⟩)
def CT_ : List (String × Nat) := [("PillowBarge", 155), ("PillowBargeModel", 159)]
theorem CT_ok : ∀ q ∈ CT_, Cond.constantFloat q.1 q.2 1110704128 ∈ lw_all := (List.forall_mem_cons.mpr ⟨all_at 684 (by decide +kernel) rfl, (List.forall_mem_cons.mpr ⟨all_at 1817 (by decide +kernel) rfl, (fun _ h => nomatch h)⟩)⟩)
