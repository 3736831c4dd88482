def RL : String := "StreetMarketLaw"
abbrev cL_append : ByteArray := method_3_code
def yL_append : MethodName := ⟨RL, "append", "(LStreetMarket;IIIII[J)I"⟩
abbrev cL_load : ByteArray := method_4_code
def yL_load : MethodName := ⟨RL, "load", "(LStreetMarket;I[J)I"⟩
abbrev cL_row : ByteArray := method_5_code
def yL_row : MethodName := ⟨RL, "row", "(LStreetMarket;I[J)I"⟩
abbrev cL_rent : ByteArray := method_6_code
def yL_rent : MethodName := ⟨RL, "rent", "(LStreetMarket;I[J)I"⟩
abbrev cL_isRoofed : ByteArray := method_7_code
def yL_isRoofed : MethodName := ⟨RL, "isRoofed", "(LStreetMarket;I[J)I"⟩
abbrev cL_setRent : ByteArray := method_8_code
def yL_setRent : MethodName := ⟨RL, "setRent", "(LStreetMarket;II[J)I"⟩
abbrev cL_trade : ByteArray := method_9_code
def yL_trade : MethodName := ⟨RL, "trade", "(LStreetMarket;I[J)I"⟩
abbrev cL_frontage : ByteArray := method_10_code
def yL_frontage : MethodName := ⟨RL, "frontage", "(LStreetMarket;I[J)I"⟩
abbrev cL_addTrader : ByteArray := method_11_code
def yL_addTrader : MethodName := ⟨RL, "addTrader", "(LStreetMarket;IIIZ[J)I"⟩
abbrev cL_clash : ByteArray := method_12_code
def yL_clash : MethodName := ⟨RL, "clash", "(LStreetMarket;II[J)I"⟩
abbrev cL_setClash : ByteArray := method_13_code
def yL_setClash : MethodName := ⟨RL, "setClash", "(LStreetMarket;IIZ)I"⟩
abbrev cL_setCovers : ByteArray := method_14_code
def yL_setCovers : MethodName := ⟨RL, "setCovers", "(LStreetMarket;I[J)I"⟩
abbrev cL_traderAt : ByteArray := method_15_code
def yL_traderAt : MethodName := ⟨RL, "traderAt", "(LStreetMarket;I[J)I"⟩
abbrev cL_start : ByteArray := method_16_code
def yL_start : MethodName := ⟨RL, "start", "(LStreetMarket;I[J)I"⟩
abbrev cL_obstacle : ByteArray := method_17_code
def yL_obstacle : MethodName := ⟨RL, "obstacle", "(LStreetMarket;II[J)I"⟩
abbrev cL_place : ByteArray := method_18_code
def yL_place : MethodName := ⟨RL, "place", "(LStreetMarket;II[J)I"⟩
abbrev cL_remove : ByteArray := method_19_code
def yL_remove : MethodName := ⟨RL, "remove", "(LStreetMarket;I[J)I"⟩
abbrev cL_swap : ByteArray := method_20_code
def yL_swap : MethodName := ⟨RL, "swap", "(LStreetMarket;II[J)I"⟩
abbrev cL_expectedIncome : ByteArray := method_21_code
def yL_expectedIncome : MethodName := ⟨RL, "expectedIncome", "(LStreetMarket;D[D)I"⟩
abbrev cL_clashCost : ByteArray := method_22_code
def yL_clashCost : MethodName := ⟨RL, "clashCost", "(LStreetMarket;II[J)I"⟩
abbrev cL_contribution : ByteArray := method_23_code
def yL_contribution : MethodName := ⟨RL, "contribution", "(LStreetMarket;I[J)I"⟩
abbrev cL_bestRent : ByteArray := method_24_code
def yL_bestRent : MethodName := ⟨RL, "bestRent", "(LStreetMarket;I[J)I"⟩
abbrev cL_firstCome : ByteArray := method_25_code
def yL_firstCome : MethodName := ⟨RL, "firstCome", "(LStreetMarket;J[J)I"⟩
abbrev cL_insertionIncome : ByteArray := method_26_code
def yL_insertionIncome : MethodName := ⟨RL, "insertionIncome", "(LStreetMarket;II[J)I"⟩
abbrev cL_insert : ByteArray := method_27_code
def yL_insert : MethodName := ⟨RL, "insert", "(LStreetMarket;II[J)I"⟩
abbrev cL_undo : ByteArray := method_28_code
def yL_undo : MethodName := ⟨RL, "undo", "(LStreetMarket;[J)I"⟩
abbrev cL_law : ByteArray := code
def yL_law : MethodName := ⟨RL, "law", "([I)Z"⟩
theorem dL_append_0 : decode cL_append 0 = .ok (.aload 6, 2) := by decide +kernel
theorem dL_append_2 : decode cL_append 2 = .ok (.iconst 0, 1) := by decide +kernel
theorem dL_append_3 : decode cL_append 3 = .ok (.aload_n 0, 1) := by decide +kernel
theorem dL_append_4 : decode cL_append 4 = .ok (.iload_n 1, 1) := by decide +kernel
theorem dL_append_5 : decode cL_append 5 = .ok (.iload_n 2, 1) := by decide +kernel
theorem dL_append_6 : decode cL_append 6 = .ok (.iload_n 3, 1) := by decide +kernel
theorem dL_append_7 : decode cL_append 7 = .ok (.iload 4, 2) := by decide +kernel
theorem dL_append_9 : decode cL_append 9 = .ok (.iload 5, 2) := by decide +kernel
theorem dL_append_11 : decode cL_append 11 = .ok (.invokevirtual 7, 3) := by decide +kernel
theorem dL_append_14 : decode cL_append 14 = .ok (.i2l, 1) := by decide +kernel
theorem dL_append_15 : decode cL_append 15 = .ok (.lastore, 1) := by decide +kernel
theorem dL_append_16 : decode cL_append 16 = .ok (.goto 7, 3) := by decide +kernel
theorem dL_append_19 : decode cL_append 19 = .ok (.astore 7, 2) := by decide +kernel
theorem dL_append_21 : decode cL_append 21 = .ok (.iconst 1, 1) := by decide +kernel
theorem dL_append_22 : decode cL_append 22 = .ok (.ireturn, 1) := by decide +kernel
theorem dL_append_23 : decode cL_append 23 = .ok (.iconst 0, 1) := by decide +kernel
theorem dL_append_24 : decode cL_append 24 = .ok (.ireturn, 1) := by decide +kernel
theorem dL_load_0 : decode cL_load 0 = .ok (.aload_n 2, 1) := by decide +kernel
theorem dL_load_1 : decode cL_load 1 = .ok (.iconst 0, 1) := by decide +kernel
theorem dL_load_2 : decode cL_load 2 = .ok (.aload_n 0, 1) := by decide +kernel
theorem dL_load_3 : decode cL_load 3 = .ok (.iload_n 1, 1) := by decide +kernel
theorem dL_load_4 : decode cL_load 4 = .ok (.invokevirtual 15, 3) := by decide +kernel
theorem dL_load_7 : decode cL_load 7 = .ok (.i2l, 1) := by decide +kernel
theorem dL_load_8 : decode cL_load 8 = .ok (.lastore, 1) := by decide +kernel
theorem dL_load_9 : decode cL_load 9 = .ok (.goto 6, 3) := by decide +kernel
theorem dL_load_12 : decode cL_load 12 = .ok (.astore_n 3, 1) := by decide +kernel
theorem dL_load_13 : decode cL_load 13 = .ok (.iconst 1, 1) := by decide +kernel
theorem dL_load_14 : decode cL_load 14 = .ok (.ireturn, 1) := by decide +kernel
theorem dL_load_15 : decode cL_load 15 = .ok (.iconst 0, 1) := by decide +kernel
theorem dL_load_16 : decode cL_load 16 = .ok (.ireturn, 1) := by decide +kernel
theorem dL_row_0 : decode cL_row 0 = .ok (.aload_n 2, 1) := by decide +kernel
theorem dL_row_1 : decode cL_row 1 = .ok (.iconst 0, 1) := by decide +kernel
theorem dL_row_2 : decode cL_row 2 = .ok (.aload_n 0, 1) := by decide +kernel
theorem dL_row_3 : decode cL_row 3 = .ok (.iload_n 1, 1) := by decide +kernel
theorem dL_row_4 : decode cL_row 4 = .ok (.invokevirtual 21, 3) := by decide +kernel
theorem dL_row_7 : decode cL_row 7 = .ok (.i2l, 1) := by decide +kernel
theorem dL_row_8 : decode cL_row 8 = .ok (.lastore, 1) := by decide +kernel
theorem dL_row_9 : decode cL_row 9 = .ok (.goto 6, 3) := by decide +kernel
theorem dL_row_12 : decode cL_row 12 = .ok (.astore_n 3, 1) := by decide +kernel
theorem dL_row_13 : decode cL_row 13 = .ok (.iconst 1, 1) := by decide +kernel
theorem dL_row_14 : decode cL_row 14 = .ok (.ireturn, 1) := by decide +kernel
theorem dL_row_15 : decode cL_row 15 = .ok (.iconst 0, 1) := by decide +kernel
theorem dL_row_16 : decode cL_row 16 = .ok (.ireturn, 1) := by decide +kernel
theorem dL_rent_0 : decode cL_rent 0 = .ok (.aload_n 2, 1) := by decide +kernel
theorem dL_rent_1 : decode cL_rent 1 = .ok (.iconst 0, 1) := by decide +kernel
theorem dL_rent_2 : decode cL_rent 2 = .ok (.aload_n 0, 1) := by decide +kernel
theorem dL_rent_3 : decode cL_rent 3 = .ok (.iload_n 1, 1) := by decide +kernel
theorem dL_rent_4 : decode cL_rent 4 = .ok (.invokevirtual 26, 3) := by decide +kernel
theorem dL_rent_7 : decode cL_rent 7 = .ok (.i2l, 1) := by decide +kernel
theorem dL_rent_8 : decode cL_rent 8 = .ok (.lastore, 1) := by decide +kernel
theorem dL_rent_9 : decode cL_rent 9 = .ok (.goto 6, 3) := by decide +kernel
theorem dL_rent_12 : decode cL_rent 12 = .ok (.astore_n 3, 1) := by decide +kernel
theorem dL_rent_13 : decode cL_rent 13 = .ok (.iconst 1, 1) := by decide +kernel
theorem dL_rent_14 : decode cL_rent 14 = .ok (.ireturn, 1) := by decide +kernel
theorem dL_rent_15 : decode cL_rent 15 = .ok (.iconst 0, 1) := by decide +kernel
theorem dL_rent_16 : decode cL_rent 16 = .ok (.ireturn, 1) := by decide +kernel
theorem dL_isRoofed_0 : decode cL_isRoofed 0 = .ok (.aload_n 2, 1) := by decide +kernel
theorem dL_isRoofed_1 : decode cL_isRoofed 1 = .ok (.iconst 0, 1) := by decide +kernel
theorem dL_isRoofed_2 : decode cL_isRoofed 2 = .ok (.aload_n 0, 1) := by decide +kernel
theorem dL_isRoofed_3 : decode cL_isRoofed 3 = .ok (.iload_n 1, 1) := by decide +kernel
theorem dL_isRoofed_4 : decode cL_isRoofed 4 = .ok (.invokevirtual 29, 3) := by decide +kernel
theorem dL_isRoofed_7 : decode cL_isRoofed 7 = .ok (.ifCond .eq 7, 3) := by decide +kernel
theorem dL_isRoofed_10 : decode cL_isRoofed 10 = .ok (.lconst 1, 1) := by decide +kernel
theorem dL_isRoofed_11 : decode cL_isRoofed 11 = .ok (.goto 4, 3) := by decide +kernel
theorem dL_isRoofed_14 : decode cL_isRoofed 14 = .ok (.lconst 0, 1) := by decide +kernel
theorem dL_isRoofed_15 : decode cL_isRoofed 15 = .ok (.lastore, 1) := by decide +kernel
theorem dL_isRoofed_16 : decode cL_isRoofed 16 = .ok (.goto 6, 3) := by decide +kernel
theorem dL_isRoofed_19 : decode cL_isRoofed 19 = .ok (.astore_n 3, 1) := by decide +kernel
theorem dL_isRoofed_20 : decode cL_isRoofed 20 = .ok (.iconst 1, 1) := by decide +kernel
theorem dL_isRoofed_21 : decode cL_isRoofed 21 = .ok (.ireturn, 1) := by decide +kernel
theorem dL_isRoofed_22 : decode cL_isRoofed 22 = .ok (.iconst 0, 1) := by decide +kernel
theorem dL_isRoofed_23 : decode cL_isRoofed 23 = .ok (.ireturn, 1) := by decide +kernel
theorem dL_setRent_0 : decode cL_setRent 0 = .ok (.aload_n 3, 1) := by decide +kernel
theorem dL_setRent_1 : decode cL_setRent 1 = .ok (.iconst 0, 1) := by decide +kernel
theorem dL_setRent_2 : decode cL_setRent 2 = .ok (.aload_n 0, 1) := by decide +kernel
theorem dL_setRent_3 : decode cL_setRent 3 = .ok (.iload_n 1, 1) := by decide +kernel
theorem dL_setRent_4 : decode cL_setRent 4 = .ok (.iload_n 2, 1) := by decide +kernel
theorem dL_setRent_5 : decode cL_setRent 5 = .ok (.invokevirtual 33, 3) := by decide +kernel
theorem dL_setRent_8 : decode cL_setRent 8 = .ok (.i2l, 1) := by decide +kernel
theorem dL_setRent_9 : decode cL_setRent 9 = .ok (.lastore, 1) := by decide +kernel
theorem dL_setRent_10 : decode cL_setRent 10 = .ok (.goto 11, 3) := by decide +kernel
theorem dL_setRent_13 : decode cL_setRent 13 = .ok (.astore 4, 2) := by decide +kernel
theorem dL_setRent_15 : decode cL_setRent 15 = .ok (.iconst 1, 1) := by decide +kernel
theorem dL_setRent_16 : decode cL_setRent 16 = .ok (.ireturn, 1) := by decide +kernel
theorem dL_setRent_17 : decode cL_setRent 17 = .ok (.astore 4, 2) := by decide +kernel
theorem dL_setRent_19 : decode cL_setRent 19 = .ok (.iconst 2, 1) := by decide +kernel
theorem dL_setRent_20 : decode cL_setRent 20 = .ok (.ireturn, 1) := by decide +kernel
theorem dL_setRent_21 : decode cL_setRent 21 = .ok (.iconst 0, 1) := by decide +kernel
theorem dL_setRent_22 : decode cL_setRent 22 = .ok (.ireturn, 1) := by decide +kernel
theorem dL_trade_0 : decode cL_trade 0 = .ok (.aload_n 2, 1) := by decide +kernel
theorem dL_trade_1 : decode cL_trade 1 = .ok (.iconst 0, 1) := by decide +kernel
theorem dL_trade_2 : decode cL_trade 2 = .ok (.aload_n 0, 1) := by decide +kernel
theorem dL_trade_3 : decode cL_trade 3 = .ok (.iload_n 1, 1) := by decide +kernel
theorem dL_trade_4 : decode cL_trade 4 = .ok (.invokevirtual 37, 3) := by decide +kernel
theorem dL_trade_7 : decode cL_trade 7 = .ok (.i2l, 1) := by decide +kernel
theorem dL_trade_8 : decode cL_trade 8 = .ok (.lastore, 1) := by decide +kernel
theorem dL_trade_9 : decode cL_trade 9 = .ok (.goto 6, 3) := by decide +kernel
theorem dL_trade_12 : decode cL_trade 12 = .ok (.astore_n 3, 1) := by decide +kernel
theorem dL_trade_13 : decode cL_trade 13 = .ok (.iconst 1, 1) := by decide +kernel
theorem dL_trade_14 : decode cL_trade 14 = .ok (.ireturn, 1) := by decide +kernel
theorem dL_trade_15 : decode cL_trade 15 = .ok (.iconst 0, 1) := by decide +kernel
theorem dL_trade_16 : decode cL_trade 16 = .ok (.ireturn, 1) := by decide +kernel
theorem dL_frontage_0 : decode cL_frontage 0 = .ok (.aload_n 2, 1) := by decide +kernel
theorem dL_frontage_1 : decode cL_frontage 1 = .ok (.iconst 0, 1) := by decide +kernel
theorem dL_frontage_2 : decode cL_frontage 2 = .ok (.aload_n 0, 1) := by decide +kernel
theorem dL_frontage_3 : decode cL_frontage 3 = .ok (.iload_n 1, 1) := by decide +kernel
theorem dL_frontage_4 : decode cL_frontage 4 = .ok (.invokevirtual 40, 3) := by decide +kernel
theorem dL_frontage_7 : decode cL_frontage 7 = .ok (.i2l, 1) := by decide +kernel
theorem dL_frontage_8 : decode cL_frontage 8 = .ok (.lastore, 1) := by decide +kernel
theorem dL_frontage_9 : decode cL_frontage 9 = .ok (.goto 6, 3) := by decide +kernel
theorem dL_frontage_12 : decode cL_frontage 12 = .ok (.astore_n 3, 1) := by decide +kernel
theorem dL_frontage_13 : decode cL_frontage 13 = .ok (.iconst 1, 1) := by decide +kernel
theorem dL_frontage_14 : decode cL_frontage 14 = .ok (.ireturn, 1) := by decide +kernel
theorem dL_frontage_15 : decode cL_frontage 15 = .ok (.iconst 0, 1) := by decide +kernel
theorem dL_frontage_16 : decode cL_frontage 16 = .ok (.ireturn, 1) := by decide +kernel
theorem dL_addTrader_0 : decode cL_addTrader 0 = .ok (.aload 5, 2) := by decide +kernel
theorem dL_addTrader_2 : decode cL_addTrader 2 = .ok (.iconst 0, 1) := by decide +kernel
theorem dL_addTrader_3 : decode cL_addTrader 3 = .ok (.aload_n 0, 1) := by decide +kernel
theorem dL_addTrader_4 : decode cL_addTrader 4 = .ok (.iload_n 1, 1) := by decide +kernel
theorem dL_addTrader_5 : decode cL_addTrader 5 = .ok (.iload_n 2, 1) := by decide +kernel
theorem dL_addTrader_6 : decode cL_addTrader 6 = .ok (.iload_n 3, 1) := by decide +kernel
theorem dL_addTrader_7 : decode cL_addTrader 7 = .ok (.iload 4, 2) := by decide +kernel
theorem dL_addTrader_9 : decode cL_addTrader 9 = .ok (.invokevirtual 43, 3) := by decide +kernel
theorem dL_addTrader_12 : decode cL_addTrader 12 = .ok (.i2l, 1) := by decide +kernel
theorem dL_addTrader_13 : decode cL_addTrader 13 = .ok (.lastore, 1) := by decide +kernel
theorem dL_addTrader_14 : decode cL_addTrader 14 = .ok (.goto 11, 3) := by decide +kernel
theorem dL_addTrader_17 : decode cL_addTrader 17 = .ok (.astore 6, 2) := by decide +kernel
theorem dL_addTrader_19 : decode cL_addTrader 19 = .ok (.iconst 1, 1) := by decide +kernel
theorem dL_addTrader_20 : decode cL_addTrader 20 = .ok (.ireturn, 1) := by decide +kernel
theorem dL_addTrader_21 : decode cL_addTrader 21 = .ok (.astore 6, 2) := by decide +kernel
theorem dL_addTrader_23 : decode cL_addTrader 23 = .ok (.iconst 2, 1) := by decide +kernel
theorem dL_addTrader_24 : decode cL_addTrader 24 = .ok (.ireturn, 1) := by decide +kernel
theorem dL_addTrader_25 : decode cL_addTrader 25 = .ok (.iconst 0, 1) := by decide +kernel
theorem dL_addTrader_26 : decode cL_addTrader 26 = .ok (.ireturn, 1) := by decide +kernel
theorem dL_clash_0 : decode cL_clash 0 = .ok (.aload_n 3, 1) := by decide +kernel
theorem dL_clash_1 : decode cL_clash 1 = .ok (.iconst 0, 1) := by decide +kernel
theorem dL_clash_2 : decode cL_clash 2 = .ok (.aload_n 0, 1) := by decide +kernel
theorem dL_clash_3 : decode cL_clash 3 = .ok (.iload_n 1, 1) := by decide +kernel
theorem dL_clash_4 : decode cL_clash 4 = .ok (.iload_n 2, 1) := by decide +kernel
theorem dL_clash_5 : decode cL_clash 5 = .ok (.invokevirtual 47, 3) := by decide +kernel
theorem dL_clash_8 : decode cL_clash 8 = .ok (.ifCond .eq 7, 3) := by decide +kernel
theorem dL_clash_11 : decode cL_clash 11 = .ok (.lconst 1, 1) := by decide +kernel
theorem dL_clash_12 : decode cL_clash 12 = .ok (.goto 4, 3) := by decide +kernel
theorem dL_clash_15 : decode cL_clash 15 = .ok (.lconst 0, 1) := by decide +kernel
theorem dL_clash_16 : decode cL_clash 16 = .ok (.lastore, 1) := by decide +kernel
theorem dL_clash_17 : decode cL_clash 17 = .ok (.goto 7, 3) := by decide +kernel
theorem dL_clash_20 : decode cL_clash 20 = .ok (.astore 4, 2) := by decide +kernel
theorem dL_clash_22 : decode cL_clash 22 = .ok (.iconst 1, 1) := by decide +kernel
theorem dL_clash_23 : decode cL_clash 23 = .ok (.ireturn, 1) := by decide +kernel
theorem dL_clash_24 : decode cL_clash 24 = .ok (.iconst 0, 1) := by decide +kernel
theorem dL_clash_25 : decode cL_clash 25 = .ok (.ireturn, 1) := by decide +kernel
theorem dL_setClash_0 : decode cL_setClash 0 = .ok (.aload_n 0, 1) := by decide +kernel
theorem dL_setClash_1 : decode cL_setClash 1 = .ok (.iload_n 1, 1) := by decide +kernel
theorem dL_setClash_2 : decode cL_setClash 2 = .ok (.iload_n 2, 1) := by decide +kernel
theorem dL_setClash_3 : decode cL_setClash 3 = .ok (.iload_n 3, 1) := by decide +kernel
theorem dL_setClash_4 : decode cL_setClash 4 = .ok (.invokevirtual 51, 3) := by decide +kernel
theorem dL_setClash_7 : decode cL_setClash 7 = .ok (.goto 11, 3) := by decide +kernel
theorem dL_setClash_10 : decode cL_setClash 10 = .ok (.astore 4, 2) := by decide +kernel
theorem dL_setClash_12 : decode cL_setClash 12 = .ok (.iconst 1, 1) := by decide +kernel
theorem dL_setClash_13 : decode cL_setClash 13 = .ok (.ireturn, 1) := by decide +kernel
theorem dL_setClash_14 : decode cL_setClash 14 = .ok (.astore 4, 2) := by decide +kernel
theorem dL_setClash_16 : decode cL_setClash 16 = .ok (.iconst 2, 1) := by decide +kernel
theorem dL_setClash_17 : decode cL_setClash 17 = .ok (.ireturn, 1) := by decide +kernel
theorem dL_setClash_18 : decode cL_setClash 18 = .ok (.iconst 0, 1) := by decide +kernel
theorem dL_setClash_19 : decode cL_setClash 19 = .ok (.ireturn, 1) := by decide +kernel
theorem dL_setCovers_0 : decode cL_setCovers 0 = .ok (.aload_n 2, 1) := by decide +kernel
theorem dL_setCovers_1 : decode cL_setCovers 1 = .ok (.iconst 0, 1) := by decide +kernel
theorem dL_setCovers_2 : decode cL_setCovers 2 = .ok (.aload_n 0, 1) := by decide +kernel
theorem dL_setCovers_3 : decode cL_setCovers 3 = .ok (.iload_n 1, 1) := by decide +kernel
theorem dL_setCovers_4 : decode cL_setCovers 4 = .ok (.invokevirtual 55, 3) := by decide +kernel
theorem dL_setCovers_7 : decode cL_setCovers 7 = .ok (.i2l, 1) := by decide +kernel
theorem dL_setCovers_8 : decode cL_setCovers 8 = .ok (.lastore, 1) := by decide +kernel
theorem dL_setCovers_9 : decode cL_setCovers 9 = .ok (.goto 9, 3) := by decide +kernel
theorem dL_setCovers_12 : decode cL_setCovers 12 = .ok (.astore_n 3, 1) := by decide +kernel
theorem dL_setCovers_13 : decode cL_setCovers 13 = .ok (.iconst 1, 1) := by decide +kernel
theorem dL_setCovers_14 : decode cL_setCovers 14 = .ok (.ireturn, 1) := by decide +kernel
theorem dL_setCovers_15 : decode cL_setCovers 15 = .ok (.astore_n 3, 1) := by decide +kernel
theorem dL_setCovers_16 : decode cL_setCovers 16 = .ok (.iconst 2, 1) := by decide +kernel
theorem dL_setCovers_17 : decode cL_setCovers 17 = .ok (.ireturn, 1) := by decide +kernel
theorem dL_setCovers_18 : decode cL_setCovers 18 = .ok (.iconst 0, 1) := by decide +kernel
theorem dL_setCovers_19 : decode cL_setCovers 19 = .ok (.ireturn, 1) := by decide +kernel
theorem dL_traderAt_0 : decode cL_traderAt 0 = .ok (.aload_n 2, 1) := by decide +kernel
theorem dL_traderAt_1 : decode cL_traderAt 1 = .ok (.iconst 0, 1) := by decide +kernel
theorem dL_traderAt_2 : decode cL_traderAt 2 = .ok (.aload_n 0, 1) := by decide +kernel
theorem dL_traderAt_3 : decode cL_traderAt 3 = .ok (.iload_n 1, 1) := by decide +kernel
theorem dL_traderAt_4 : decode cL_traderAt 4 = .ok (.invokevirtual 58, 3) := by decide +kernel
theorem dL_traderAt_7 : decode cL_traderAt 7 = .ok (.i2l, 1) := by decide +kernel
theorem dL_traderAt_8 : decode cL_traderAt 8 = .ok (.lastore, 1) := by decide +kernel
theorem dL_traderAt_9 : decode cL_traderAt 9 = .ok (.goto 6, 3) := by decide +kernel
theorem dL_traderAt_12 : decode cL_traderAt 12 = .ok (.astore_n 3, 1) := by decide +kernel
theorem dL_traderAt_13 : decode cL_traderAt 13 = .ok (.iconst 1, 1) := by decide +kernel
theorem dL_traderAt_14 : decode cL_traderAt 14 = .ok (.ireturn, 1) := by decide +kernel
theorem dL_traderAt_15 : decode cL_traderAt 15 = .ok (.iconst 0, 1) := by decide +kernel
theorem dL_traderAt_16 : decode cL_traderAt 16 = .ok (.ireturn, 1) := by decide +kernel
theorem dL_start_0 : decode cL_start 0 = .ok (.aload_n 2, 1) := by decide +kernel
theorem dL_start_1 : decode cL_start 1 = .ok (.iconst 0, 1) := by decide +kernel
theorem dL_start_2 : decode cL_start 2 = .ok (.aload_n 0, 1) := by decide +kernel
theorem dL_start_3 : decode cL_start 3 = .ok (.iload_n 1, 1) := by decide +kernel
theorem dL_start_4 : decode cL_start 4 = .ok (.invokevirtual 61, 3) := by decide +kernel
theorem dL_start_7 : decode cL_start 7 = .ok (.i2l, 1) := by decide +kernel
theorem dL_start_8 : decode cL_start 8 = .ok (.lastore, 1) := by decide +kernel
theorem dL_start_9 : decode cL_start 9 = .ok (.goto 6, 3) := by decide +kernel
theorem dL_start_12 : decode cL_start 12 = .ok (.astore_n 3, 1) := by decide +kernel
theorem dL_start_13 : decode cL_start 13 = .ok (.iconst 1, 1) := by decide +kernel
theorem dL_start_14 : decode cL_start 14 = .ok (.ireturn, 1) := by decide +kernel
theorem dL_start_15 : decode cL_start 15 = .ok (.iconst 0, 1) := by decide +kernel
theorem dL_start_16 : decode cL_start 16 = .ok (.ireturn, 1) := by decide +kernel
theorem dL_obstacle_0 : decode cL_obstacle 0 = .ok (.aload_n 3, 1) := by decide +kernel
theorem dL_obstacle_1 : decode cL_obstacle 1 = .ok (.iconst 0, 1) := by decide +kernel
theorem dL_obstacle_2 : decode cL_obstacle 2 = .ok (.aload_n 0, 1) := by decide +kernel
theorem dL_obstacle_3 : decode cL_obstacle 3 = .ok (.iload_n 1, 1) := by decide +kernel
theorem dL_obstacle_4 : decode cL_obstacle 4 = .ok (.iload_n 2, 1) := by decide +kernel
theorem dL_obstacle_5 : decode cL_obstacle 5 = .ok (.invokevirtual 64, 3) := by decide +kernel
theorem dL_obstacle_8 : decode cL_obstacle 8 = .ok (.i2l, 1) := by decide +kernel
theorem dL_obstacle_9 : decode cL_obstacle 9 = .ok (.lastore, 1) := by decide +kernel
theorem dL_obstacle_10 : decode cL_obstacle 10 = .ok (.goto 7, 3) := by decide +kernel
theorem dL_obstacle_13 : decode cL_obstacle 13 = .ok (.astore 4, 2) := by decide +kernel
theorem dL_obstacle_15 : decode cL_obstacle 15 = .ok (.iconst 1, 1) := by decide +kernel
theorem dL_obstacle_16 : decode cL_obstacle 16 = .ok (.ireturn, 1) := by decide +kernel
theorem dL_obstacle_17 : decode cL_obstacle 17 = .ok (.iconst 0, 1) := by decide +kernel
theorem dL_obstacle_18 : decode cL_obstacle 18 = .ok (.ireturn, 1) := by decide +kernel
theorem dL_place_0 : decode cL_place 0 = .ok (.aload_n 3, 1) := by decide +kernel
theorem dL_place_1 : decode cL_place 1 = .ok (.iconst 0, 1) := by decide +kernel
theorem dL_place_2 : decode cL_place 2 = .ok (.aload_n 0, 1) := by decide +kernel
theorem dL_place_3 : decode cL_place 3 = .ok (.iload_n 1, 1) := by decide +kernel
theorem dL_place_4 : decode cL_place 4 = .ok (.iload_n 2, 1) := by decide +kernel
theorem dL_place_5 : decode cL_place 5 = .ok (.invokevirtual 67, 3) := by decide +kernel
theorem dL_place_8 : decode cL_place 8 = .ok (.i2l, 1) := by decide +kernel
theorem dL_place_9 : decode cL_place 9 = .ok (.lastore, 1) := by decide +kernel
theorem dL_place_10 : decode cL_place 10 = .ok (.goto 11, 3) := by decide +kernel
theorem dL_place_13 : decode cL_place 13 = .ok (.astore 4, 2) := by decide +kernel
theorem dL_place_15 : decode cL_place 15 = .ok (.iconst 1, 1) := by decide +kernel
theorem dL_place_16 : decode cL_place 16 = .ok (.ireturn, 1) := by decide +kernel
theorem dL_place_17 : decode cL_place 17 = .ok (.astore 4, 2) := by decide +kernel
theorem dL_place_19 : decode cL_place 19 = .ok (.iconst 2, 1) := by decide +kernel
theorem dL_place_20 : decode cL_place 20 = .ok (.ireturn, 1) := by decide +kernel
theorem dL_place_21 : decode cL_place 21 = .ok (.iconst 0, 1) := by decide +kernel
theorem dL_place_22 : decode cL_place 22 = .ok (.ireturn, 1) := by decide +kernel
theorem dL_remove_0 : decode cL_remove 0 = .ok (.aload_n 2, 1) := by decide +kernel
theorem dL_remove_1 : decode cL_remove 1 = .ok (.iconst 0, 1) := by decide +kernel
theorem dL_remove_2 : decode cL_remove 2 = .ok (.aload_n 0, 1) := by decide +kernel
theorem dL_remove_3 : decode cL_remove 3 = .ok (.iload_n 1, 1) := by decide +kernel
theorem dL_remove_4 : decode cL_remove 4 = .ok (.invokevirtual 70, 3) := by decide +kernel
theorem dL_remove_7 : decode cL_remove 7 = .ok (.i2l, 1) := by decide +kernel
theorem dL_remove_8 : decode cL_remove 8 = .ok (.lastore, 1) := by decide +kernel
theorem dL_remove_9 : decode cL_remove 9 = .ok (.goto 9, 3) := by decide +kernel
theorem dL_remove_12 : decode cL_remove 12 = .ok (.astore_n 3, 1) := by decide +kernel
theorem dL_remove_13 : decode cL_remove 13 = .ok (.iconst 1, 1) := by decide +kernel
theorem dL_remove_14 : decode cL_remove 14 = .ok (.ireturn, 1) := by decide +kernel
theorem dL_remove_15 : decode cL_remove 15 = .ok (.astore_n 3, 1) := by decide +kernel
theorem dL_remove_16 : decode cL_remove 16 = .ok (.iconst 2, 1) := by decide +kernel
theorem dL_remove_17 : decode cL_remove 17 = .ok (.ireturn, 1) := by decide +kernel
theorem dL_remove_18 : decode cL_remove 18 = .ok (.iconst 0, 1) := by decide +kernel
theorem dL_remove_19 : decode cL_remove 19 = .ok (.ireturn, 1) := by decide +kernel
theorem dL_swap_0 : decode cL_swap 0 = .ok (.aload_n 3, 1) := by decide +kernel
theorem dL_swap_1 : decode cL_swap 1 = .ok (.iconst 0, 1) := by decide +kernel
theorem dL_swap_2 : decode cL_swap 2 = .ok (.aload_n 0, 1) := by decide +kernel
theorem dL_swap_3 : decode cL_swap 3 = .ok (.iload_n 1, 1) := by decide +kernel
theorem dL_swap_4 : decode cL_swap 4 = .ok (.iload_n 2, 1) := by decide +kernel
theorem dL_swap_5 : decode cL_swap 5 = .ok (.invokevirtual 73, 3) := by decide +kernel
theorem dL_swap_8 : decode cL_swap 8 = .ok (.i2l, 1) := by decide +kernel
theorem dL_swap_9 : decode cL_swap 9 = .ok (.lastore, 1) := by decide +kernel
theorem dL_swap_10 : decode cL_swap 10 = .ok (.goto 11, 3) := by decide +kernel
theorem dL_swap_13 : decode cL_swap 13 = .ok (.astore 4, 2) := by decide +kernel
theorem dL_swap_15 : decode cL_swap 15 = .ok (.iconst 1, 1) := by decide +kernel
theorem dL_swap_16 : decode cL_swap 16 = .ok (.ireturn, 1) := by decide +kernel
theorem dL_swap_17 : decode cL_swap 17 = .ok (.astore 4, 2) := by decide +kernel
theorem dL_swap_19 : decode cL_swap 19 = .ok (.iconst 2, 1) := by decide +kernel
theorem dL_swap_20 : decode cL_swap 20 = .ok (.ireturn, 1) := by decide +kernel
theorem dL_swap_21 : decode cL_swap 21 = .ok (.iconst 0, 1) := by decide +kernel
theorem dL_swap_22 : decode cL_swap 22 = .ok (.ireturn, 1) := by decide +kernel
theorem dL_expectedIncome_0 : decode cL_expectedIncome 0 = .ok (.aload_n 3, 1) := by decide +kernel
theorem dL_expectedIncome_1 : decode cL_expectedIncome 1 = .ok (.iconst 0, 1) := by decide +kernel
theorem dL_expectedIncome_2 : decode cL_expectedIncome 2 = .ok (.aload_n 0, 1) := by decide +kernel
theorem dL_expectedIncome_3 : decode cL_expectedIncome 3 = .ok (.dload_n 1, 1) := by decide +kernel
theorem dL_expectedIncome_4 : decode cL_expectedIncome 4 = .ok (.invokevirtual 76, 3) := by decide +kernel
theorem dL_expectedIncome_7 : decode cL_expectedIncome 7 = .ok (.dastore, 1) := by decide +kernel
theorem dL_expectedIncome_8 : decode cL_expectedIncome 8 = .ok (.goto 7, 3) := by decide +kernel
theorem dL_expectedIncome_11 : decode cL_expectedIncome 11 = .ok (.astore 4, 2) := by decide +kernel
theorem dL_expectedIncome_13 : decode cL_expectedIncome 13 = .ok (.iconst 1, 1) := by decide +kernel
theorem dL_expectedIncome_14 : decode cL_expectedIncome 14 = .ok (.ireturn, 1) := by decide +kernel
theorem dL_expectedIncome_15 : decode cL_expectedIncome 15 = .ok (.iconst 0, 1) := by decide +kernel
theorem dL_expectedIncome_16 : decode cL_expectedIncome 16 = .ok (.ireturn, 1) := by decide +kernel
theorem dL_clashCost_0 : decode cL_clashCost 0 = .ok (.aload_n 3, 1) := by decide +kernel
theorem dL_clashCost_1 : decode cL_clashCost 1 = .ok (.iconst 0, 1) := by decide +kernel
theorem dL_clashCost_2 : decode cL_clashCost 2 = .ok (.aload_n 0, 1) := by decide +kernel
theorem dL_clashCost_3 : decode cL_clashCost 3 = .ok (.iload_n 1, 1) := by decide +kernel
theorem dL_clashCost_4 : decode cL_clashCost 4 = .ok (.iload_n 2, 1) := by decide +kernel
theorem dL_clashCost_5 : decode cL_clashCost 5 = .ok (.invokevirtual 80, 3) := by decide +kernel
theorem dL_clashCost_8 : decode cL_clashCost 8 = .ok (.i2l, 1) := by decide +kernel
theorem dL_clashCost_9 : decode cL_clashCost 9 = .ok (.lastore, 1) := by decide +kernel
theorem dL_clashCost_10 : decode cL_clashCost 10 = .ok (.goto 7, 3) := by decide +kernel
theorem dL_clashCost_13 : decode cL_clashCost 13 = .ok (.astore 4, 2) := by decide +kernel
theorem dL_clashCost_15 : decode cL_clashCost 15 = .ok (.iconst 1, 1) := by decide +kernel
theorem dL_clashCost_16 : decode cL_clashCost 16 = .ok (.ireturn, 1) := by decide +kernel
theorem dL_clashCost_17 : decode cL_clashCost 17 = .ok (.iconst 0, 1) := by decide +kernel
theorem dL_clashCost_18 : decode cL_clashCost 18 = .ok (.ireturn, 1) := by decide +kernel
theorem dL_contribution_0 : decode cL_contribution 0 = .ok (.aload_n 2, 1) := by decide +kernel
theorem dL_contribution_1 : decode cL_contribution 1 = .ok (.iconst 0, 1) := by decide +kernel
theorem dL_contribution_2 : decode cL_contribution 2 = .ok (.aload_n 0, 1) := by decide +kernel
theorem dL_contribution_3 : decode cL_contribution 3 = .ok (.iload_n 1, 1) := by decide +kernel
theorem dL_contribution_4 : decode cL_contribution 4 = .ok (.invokevirtual 83, 3) := by decide +kernel
theorem dL_contribution_7 : decode cL_contribution 7 = .ok (.i2l, 1) := by decide +kernel
theorem dL_contribution_8 : decode cL_contribution 8 = .ok (.lastore, 1) := by decide +kernel
theorem dL_contribution_9 : decode cL_contribution 9 = .ok (.goto 6, 3) := by decide +kernel
theorem dL_contribution_12 : decode cL_contribution 12 = .ok (.astore_n 3, 1) := by decide +kernel
theorem dL_contribution_13 : decode cL_contribution 13 = .ok (.iconst 1, 1) := by decide +kernel
theorem dL_contribution_14 : decode cL_contribution 14 = .ok (.ireturn, 1) := by decide +kernel
theorem dL_contribution_15 : decode cL_contribution 15 = .ok (.iconst 0, 1) := by decide +kernel
theorem dL_contribution_16 : decode cL_contribution 16 = .ok (.ireturn, 1) := by decide +kernel
theorem dL_bestRent_0 : decode cL_bestRent 0 = .ok (.aload_n 2, 1) := by decide +kernel
theorem dL_bestRent_1 : decode cL_bestRent 1 = .ok (.iconst 0, 1) := by decide +kernel
theorem dL_bestRent_2 : decode cL_bestRent 2 = .ok (.aload_n 0, 1) := by decide +kernel
theorem dL_bestRent_3 : decode cL_bestRent 3 = .ok (.iload_n 1, 1) := by decide +kernel
theorem dL_bestRent_4 : decode cL_bestRent 4 = .ok (.invokevirtual 86, 3) := by decide +kernel
theorem dL_bestRent_7 : decode cL_bestRent 7 = .ok (.i2l, 1) := by decide +kernel
theorem dL_bestRent_8 : decode cL_bestRent 8 = .ok (.lastore, 1) := by decide +kernel
theorem dL_bestRent_9 : decode cL_bestRent 9 = .ok (.goto 6, 3) := by decide +kernel
theorem dL_bestRent_12 : decode cL_bestRent 12 = .ok (.astore_n 3, 1) := by decide +kernel
theorem dL_bestRent_13 : decode cL_bestRent 13 = .ok (.iconst 1, 1) := by decide +kernel
theorem dL_bestRent_14 : decode cL_bestRent 14 = .ok (.ireturn, 1) := by decide +kernel
theorem dL_bestRent_15 : decode cL_bestRent 15 = .ok (.iconst 0, 1) := by decide +kernel
theorem dL_bestRent_16 : decode cL_bestRent 16 = .ok (.ireturn, 1) := by decide +kernel
theorem dL_firstCome_0 : decode cL_firstCome 0 = .ok (.aload_n 3, 1) := by decide +kernel
theorem dL_firstCome_1 : decode cL_firstCome 1 = .ok (.iconst 0, 1) := by decide +kernel
theorem dL_firstCome_2 : decode cL_firstCome 2 = .ok (.aload_n 0, 1) := by decide +kernel
theorem dL_firstCome_3 : decode cL_firstCome 3 = .ok (.lload_n 1, 1) := by decide +kernel
theorem dL_firstCome_4 : decode cL_firstCome 4 = .ok (.invokevirtual 89, 3) := by decide +kernel
theorem dL_firstCome_7 : decode cL_firstCome 7 = .ok (.i2l, 1) := by decide +kernel
theorem dL_firstCome_8 : decode cL_firstCome 8 = .ok (.lastore, 1) := by decide +kernel
theorem dL_firstCome_9 : decode cL_firstCome 9 = .ok (.goto 7, 3) := by decide +kernel
theorem dL_firstCome_12 : decode cL_firstCome 12 = .ok (.astore 4, 2) := by decide +kernel
theorem dL_firstCome_14 : decode cL_firstCome 14 = .ok (.iconst 1, 1) := by decide +kernel
theorem dL_firstCome_15 : decode cL_firstCome 15 = .ok (.ireturn, 1) := by decide +kernel
theorem dL_firstCome_16 : decode cL_firstCome 16 = .ok (.iconst 0, 1) := by decide +kernel
theorem dL_firstCome_17 : decode cL_firstCome 17 = .ok (.ireturn, 1) := by decide +kernel
theorem dL_insertionIncome_0 : decode cL_insertionIncome 0 = .ok (.aload_n 3, 1) := by decide +kernel
theorem dL_insertionIncome_1 : decode cL_insertionIncome 1 = .ok (.iconst 0, 1) := by decide +kernel
theorem dL_insertionIncome_2 : decode cL_insertionIncome 2 = .ok (.aload_n 0, 1) := by decide +kernel
theorem dL_insertionIncome_3 : decode cL_insertionIncome 3 = .ok (.iload_n 1, 1) := by decide +kernel
theorem dL_insertionIncome_4 : decode cL_insertionIncome 4 = .ok (.iload_n 2, 1) := by decide +kernel
theorem dL_insertionIncome_5 : decode cL_insertionIncome 5 = .ok (.invokevirtual 93, 3) := by decide +kernel
theorem dL_insertionIncome_8 : decode cL_insertionIncome 8 = .ok (.i2l, 1) := by decide +kernel
theorem dL_insertionIncome_9 : decode cL_insertionIncome 9 = .ok (.lastore, 1) := by decide +kernel
theorem dL_insertionIncome_10 : decode cL_insertionIncome 10 = .ok (.goto 15, 3) := by decide +kernel
theorem dL_insertionIncome_13 : decode cL_insertionIncome 13 = .ok (.astore 4, 2) := by decide +kernel
theorem dL_insertionIncome_15 : decode cL_insertionIncome 15 = .ok (.iconst 1, 1) := by decide +kernel
theorem dL_insertionIncome_16 : decode cL_insertionIncome 16 = .ok (.ireturn, 1) := by decide +kernel
theorem dL_insertionIncome_17 : decode cL_insertionIncome 17 = .ok (.astore 4, 2) := by decide +kernel
theorem dL_insertionIncome_19 : decode cL_insertionIncome 19 = .ok (.iconst 2, 1) := by decide +kernel
theorem dL_insertionIncome_20 : decode cL_insertionIncome 20 = .ok (.ireturn, 1) := by decide +kernel
theorem dL_insertionIncome_21 : decode cL_insertionIncome 21 = .ok (.astore 4, 2) := by decide +kernel
theorem dL_insertionIncome_23 : decode cL_insertionIncome 23 = .ok (.iconst 3, 1) := by decide +kernel
theorem dL_insertionIncome_24 : decode cL_insertionIncome 24 = .ok (.ireturn, 1) := by decide +kernel
theorem dL_insertionIncome_25 : decode cL_insertionIncome 25 = .ok (.iconst 0, 1) := by decide +kernel
theorem dL_insertionIncome_26 : decode cL_insertionIncome 26 = .ok (.ireturn, 1) := by decide +kernel
theorem dL_insert_0 : decode cL_insert 0 = .ok (.aload_n 3, 1) := by decide +kernel
theorem dL_insert_1 : decode cL_insert 1 = .ok (.iconst 0, 1) := by decide +kernel
theorem dL_insert_2 : decode cL_insert 2 = .ok (.aload_n 0, 1) := by decide +kernel
theorem dL_insert_3 : decode cL_insert 3 = .ok (.iload_n 1, 1) := by decide +kernel
theorem dL_insert_4 : decode cL_insert 4 = .ok (.iload_n 2, 1) := by decide +kernel
theorem dL_insert_5 : decode cL_insert 5 = .ok (.invokevirtual 96, 3) := by decide +kernel
theorem dL_insert_8 : decode cL_insert 8 = .ok (.i2l, 1) := by decide +kernel
theorem dL_insert_9 : decode cL_insert 9 = .ok (.lastore, 1) := by decide +kernel
theorem dL_insert_10 : decode cL_insert 10 = .ok (.goto 15, 3) := by decide +kernel
theorem dL_insert_13 : decode cL_insert 13 = .ok (.astore 4, 2) := by decide +kernel
theorem dL_insert_15 : decode cL_insert 15 = .ok (.iconst 1, 1) := by decide +kernel
theorem dL_insert_16 : decode cL_insert 16 = .ok (.ireturn, 1) := by decide +kernel
theorem dL_insert_17 : decode cL_insert 17 = .ok (.astore 4, 2) := by decide +kernel
theorem dL_insert_19 : decode cL_insert 19 = .ok (.iconst 2, 1) := by decide +kernel
theorem dL_insert_20 : decode cL_insert 20 = .ok (.ireturn, 1) := by decide +kernel
theorem dL_insert_21 : decode cL_insert 21 = .ok (.astore 4, 2) := by decide +kernel
theorem dL_insert_23 : decode cL_insert 23 = .ok (.iconst 3, 1) := by decide +kernel
theorem dL_insert_24 : decode cL_insert 24 = .ok (.ireturn, 1) := by decide +kernel
theorem dL_insert_25 : decode cL_insert 25 = .ok (.iconst 0, 1) := by decide +kernel
theorem dL_insert_26 : decode cL_insert 26 = .ok (.ireturn, 1) := by decide +kernel
theorem dL_undo_0 : decode cL_undo 0 = .ok (.aload_n 1, 1) := by decide +kernel
theorem dL_undo_1 : decode cL_undo 1 = .ok (.iconst 0, 1) := by decide +kernel
theorem dL_undo_2 : decode cL_undo 2 = .ok (.aload_n 0, 1) := by decide +kernel
theorem dL_undo_3 : decode cL_undo 3 = .ok (.invokevirtual 99, 3) := by decide +kernel
theorem dL_undo_6 : decode cL_undo 6 = .ok (.i2l, 1) := by decide +kernel
theorem dL_undo_7 : decode cL_undo 7 = .ok (.lastore, 1) := by decide +kernel
theorem dL_undo_8 : decode cL_undo 8 = .ok (.goto 6, 3) := by decide +kernel
theorem dL_undo_11 : decode cL_undo 11 = .ok (.astore_n 2, 1) := by decide +kernel
theorem dL_undo_12 : decode cL_undo 12 = .ok (.iconst 1, 1) := by decide +kernel
theorem dL_undo_13 : decode cL_undo 13 = .ok (.ireturn, 1) := by decide +kernel
theorem dL_undo_14 : decode cL_undo 14 = .ok (.iconst 0, 1) := by decide +kernel
theorem dL_undo_15 : decode cL_undo 15 = .ok (.ireturn, 1) := by decide +kernel
theorem dL_law_0 : decode cL_law 0 = .ok (.new 8, 3) := by decide +kernel
theorem dL_law_3 : decode cL_law 3 = .ok (.dup, 1) := by decide +kernel
theorem dL_law_4 : decode cL_law 4 = .ok (.invokespecial 103, 3) := by decide +kernel
theorem dL_law_7 : decode cL_law 7 = .ok (.astore_n 1, 1) := by decide +kernel
theorem dL_law_8 : decode cL_law 8 = .ok (.new 104, 3) := by decide +kernel
theorem dL_law_11 : decode cL_law 11 = .ok (.dup, 1) := by decide +kernel
theorem dL_law_12 : decode cL_law 12 = .ok (.invokespecial 106, 3) := by decide +kernel
theorem dL_law_15 : decode cL_law 15 = .ok (.astore_n 2, 1) := by decide +kernel
theorem dL_law_16 : decode cL_law 16 = .ok (.iconst 1, 1) := by decide +kernel
theorem dL_law_17 : decode cL_law 17 = .ok (.newarray .long, 2) := by decide +kernel
theorem dL_law_19 : decode cL_law 19 = .ok (.astore_n 3, 1) := by decide +kernel
theorem dL_law_20 : decode cL_law 20 = .ok (.iconst 1, 1) := by decide +kernel
theorem dL_law_21 : decode cL_law 21 = .ok (.newarray .double, 2) := by decide +kernel
theorem dL_law_23 : decode cL_law 23 = .ok (.astore 4, 2) := by decide +kernel
theorem dL_law_25 : decode cL_law 25 = .ok (.iconst 0, 1) := by decide +kernel
theorem dL_law_26 : decode cL_law 26 = .ok (.istore 5, 2) := by decide +kernel
theorem dL_law_28 : decode cL_law 28 = .ok (.iload 5, 2) := by decide +kernel
theorem dL_law_30 : decode cL_law 30 = .ok (.aload_n 0, 1) := by decide +kernel
theorem dL_law_31 : decode cL_law 31 = .ok (.arraylength, 1) := by decide +kernel
theorem dL_law_32 : decode cL_law 32 = .ok (.bipush 6, 2) := by decide +kernel
theorem dL_law_34 : decode cL_law 34 = .ok (.isub, 1) := by decide +kernel
theorem dL_law_35 : decode cL_law 35 = .ok (.if_icmp .gt 2025, 3) := by decide +kernel
theorem dL_law_38 : decode cL_law 38 = .ok (.aload_n 0, 1) := by decide +kernel
theorem dL_law_39 : decode cL_law 39 = .ok (.iload 5, 2) := by decide +kernel
theorem dL_law_41 : decode cL_law 41 = .ok (.iaload, 1) := by decide +kernel
theorem dL_law_42 : decode cL_law 42 = .ok (.bipush 63, 2) := by decide +kernel
theorem dL_law_44 : decode cL_law 44 = .ok (.iand, 1) := by decide +kernel
theorem dL_law_45 : decode cL_law 45 = .ok (.tableswitch 2009 0 34 #[155, 259, 315, 328, 341, 397, 453, 516, 584, 597, 653, 709, 817, 892, 968, 1024, 1080, 1136, 1204, 1272, 1328, 1396, 1409, 1422, 1435, 1522, 1535, 1548, 1616, 1629, 1685, 1741, 1829, 1897, 1965], 155) := by decide +kernel
theorem dL_law_200 : decode cL_law 200 = .ok (.aload_n 1, 1) := by decide +kernel
theorem dL_law_201 : decode cL_law 201 = .ok (.aload_n 0, 1) := by decide +kernel
theorem dL_law_202 : decode cL_law 202 = .ok (.iload 5, 2) := by decide +kernel
theorem dL_law_204 : decode cL_law 204 = .ok (.iconst 1, 1) := by decide +kernel
theorem dL_law_205 : decode cL_law 205 = .ok (.iadd, 1) := by decide +kernel
theorem dL_law_206 : decode cL_law 206 = .ok (.iaload, 1) := by decide +kernel
theorem dL_law_207 : decode cL_law 207 = .ok (.aload_n 0, 1) := by decide +kernel
theorem dL_law_208 : decode cL_law 208 = .ok (.iload 5, 2) := by decide +kernel
theorem dL_law_210 : decode cL_law 210 = .ok (.iconst 2, 1) := by decide +kernel
theorem dL_law_211 : decode cL_law 211 = .ok (.iadd, 1) := by decide +kernel
theorem dL_law_212 : decode cL_law 212 = .ok (.iaload, 1) := by decide +kernel
theorem dL_law_213 : decode cL_law 213 = .ok (.aload_n 0, 1) := by decide +kernel
theorem dL_law_214 : decode cL_law 214 = .ok (.iload 5, 2) := by decide +kernel
theorem dL_law_216 : decode cL_law 216 = .ok (.iconst 3, 1) := by decide +kernel
theorem dL_law_217 : decode cL_law 217 = .ok (.iadd, 1) := by decide +kernel
theorem dL_law_218 : decode cL_law 218 = .ok (.iaload, 1) := by decide +kernel
theorem dL_law_219 : decode cL_law 219 = .ok (.aload_n 0, 1) := by decide +kernel
theorem dL_law_220 : decode cL_law 220 = .ok (.iload 5, 2) := by decide +kernel
theorem dL_law_222 : decode cL_law 222 = .ok (.iconst 4, 1) := by decide +kernel
theorem dL_law_223 : decode cL_law 223 = .ok (.iadd, 1) := by decide +kernel
theorem dL_law_224 : decode cL_law 224 = .ok (.iaload, 1) := by decide +kernel
theorem dL_law_225 : decode cL_law 225 = .ok (.aload_n 0, 1) := by decide +kernel
theorem dL_law_226 : decode cL_law 226 = .ok (.iload 5, 2) := by decide +kernel
theorem dL_law_228 : decode cL_law 228 = .ok (.iconst 5, 1) := by decide +kernel
theorem dL_law_229 : decode cL_law 229 = .ok (.iadd, 1) := by decide +kernel
theorem dL_law_230 : decode cL_law 230 = .ok (.iaload, 1) := by decide +kernel
theorem dL_law_231 : decode cL_law 231 = .ok (.aload_n 3, 1) := by decide +kernel
theorem dL_law_232 : decode cL_law 232 = .ok (.invokestatic 107, 3) := by decide +kernel
theorem dL_law_235 : decode cL_law 235 = .ok (.istore 6, 2) := by decide +kernel
theorem dL_law_237 : decode cL_law 237 = .ok (.aload_n 2, 1) := by decide +kernel
theorem dL_law_238 : decode cL_law 238 = .ok (.aload_n 0, 1) := by decide +kernel
theorem dL_law_239 : decode cL_law 239 = .ok (.iload 5, 2) := by decide +kernel
theorem dL_law_241 : decode cL_law 241 = .ok (.iconst 1, 1) := by decide +kernel
theorem dL_law_242 : decode cL_law 242 = .ok (.iadd, 1) := by decide +kernel
theorem dL_law_243 : decode cL_law 243 = .ok (.iaload, 1) := by decide +kernel
theorem dL_law_244 : decode cL_law 244 = .ok (.aload_n 0, 1) := by decide +kernel
theorem dL_law_245 : decode cL_law 245 = .ok (.iload 5, 2) := by decide +kernel
theorem dL_law_247 : decode cL_law 247 = .ok (.iconst 2, 1) := by decide +kernel
theorem dL_law_248 : decode cL_law 248 = .ok (.iadd, 1) := by decide +kernel
theorem dL_law_249 : decode cL_law 249 = .ok (.iaload, 1) := by decide +kernel
theorem dL_law_250 : decode cL_law 250 = .ok (.aload_n 0, 1) := by decide +kernel
theorem dL_law_251 : decode cL_law 251 = .ok (.iload 5, 2) := by decide +kernel
theorem dL_law_253 : decode cL_law 253 = .ok (.iconst 3, 1) := by decide +kernel
theorem dL_law_254 : decode cL_law 254 = .ok (.iadd, 1) := by decide +kernel
theorem dL_law_255 : decode cL_law 255 = .ok (.iaload, 1) := by decide +kernel
theorem dL_law_256 : decode cL_law 256 = .ok (.aload_n 0, 1) := by decide +kernel
theorem dL_law_257 : decode cL_law 257 = .ok (.iload 5, 2) := by decide +kernel
theorem dL_law_259 : decode cL_law 259 = .ok (.iconst 4, 1) := by decide +kernel
theorem dL_law_260 : decode cL_law 260 = .ok (.iadd, 1) := by decide +kernel
theorem dL_law_261 : decode cL_law 261 = .ok (.iaload, 1) := by decide +kernel
theorem dL_law_262 : decode cL_law 262 = .ok (.aload_n 0, 1) := by decide +kernel
theorem dL_law_263 : decode cL_law 263 = .ok (.iload 5, 2) := by decide +kernel
theorem dL_law_265 : decode cL_law 265 = .ok (.iconst 5, 1) := by decide +kernel
theorem dL_law_266 : decode cL_law 266 = .ok (.iadd, 1) := by decide +kernel
theorem dL_law_267 : decode cL_law 267 = .ok (.iaload, 1) := by decide +kernel
theorem dL_law_268 : decode cL_law 268 = .ok (.invokevirtual 112, 3) := by decide +kernel
theorem dL_law_271 : decode cL_law 271 = .ok (.istore 7, 2) := by decide +kernel
theorem dL_law_273 : decode cL_law 273 = .ok (.aload_n 2, 1) := by decide +kernel
theorem dL_law_274 : decode cL_law 274 = .ok (.invokevirtual 113, 3) := by decide +kernel
theorem dL_law_277 : decode cL_law 277 = .ok (.iload 6, 2) := by decide +kernel
theorem dL_law_279 : decode cL_law 279 = .ok (.if_icmp .eq 5, 3) := by decide +kernel
theorem dL_law_282 : decode cL_law 282 = .ok (.iconst 0, 1) := by decide +kernel
theorem dL_law_283 : decode cL_law 283 = .ok (.ireturn, 1) := by decide +kernel
theorem dL_law_284 : decode cL_law 284 = .ok (.iload 6, 2) := by decide +kernel
theorem dL_law_286 : decode cL_law 286 = .ok (.ifCond .ne 15, 3) := by decide +kernel
theorem dL_law_289 : decode cL_law 289 = .ok (.aload_n 3, 1) := by decide +kernel
theorem dL_law_290 : decode cL_law 290 = .ok (.iconst 0, 1) := by decide +kernel
theorem dL_law_291 : decode cL_law 291 = .ok (.laload, 1) := by decide +kernel
theorem dL_law_292 : decode cL_law 292 = .ok (.iload 7, 2) := by decide +kernel
theorem dL_law_294 : decode cL_law 294 = .ok (.i2l, 1) := by decide +kernel
theorem dL_law_295 : decode cL_law 295 = .ok (.lcmp, 1) := by decide +kernel
theorem dL_law_296 : decode cL_law 296 = .ok (.ifCond .eq 5, 3) := by decide +kernel
theorem dL_law_299 : decode cL_law 299 = .ok (.iconst 0, 1) := by decide +kernel
theorem dL_law_300 : decode cL_law 300 = .ok (.ireturn, 1) := by decide +kernel
theorem dL_law_301 : decode cL_law 301 = .ok (.goto 1753, 3) := by decide +kernel
theorem dL_law_304 : decode cL_law 304 = .ok (.aload_n 1, 1) := by decide +kernel
theorem dL_law_305 : decode cL_law 305 = .ok (.aload_n 0, 1) := by decide +kernel
theorem dL_law_306 : decode cL_law 306 = .ok (.iload 5, 2) := by decide +kernel
theorem dL_law_308 : decode cL_law 308 = .ok (.iconst 1, 1) := by decide +kernel
theorem dL_law_309 : decode cL_law 309 = .ok (.iadd, 1) := by decide +kernel
theorem dL_law_310 : decode cL_law 310 = .ok (.iaload, 1) := by decide +kernel
theorem dL_law_311 : decode cL_law 311 = .ok (.aload_n 3, 1) := by decide +kernel
theorem dL_law_312 : decode cL_law 312 = .ok (.invokestatic 116, 3) := by decide +kernel
theorem dL_law_315 : decode cL_law 315 = .ok (.istore 6, 2) := by decide +kernel
theorem dL_law_317 : decode cL_law 317 = .ok (.aload_n 2, 1) := by decide +kernel
theorem dL_law_318 : decode cL_law 318 = .ok (.aload_n 0, 1) := by decide +kernel
theorem dL_law_319 : decode cL_law 319 = .ok (.iload 5, 2) := by decide +kernel
theorem dL_law_321 : decode cL_law 321 = .ok (.iconst 1, 1) := by decide +kernel
theorem dL_law_322 : decode cL_law 322 = .ok (.iadd, 1) := by decide +kernel
theorem dL_law_323 : decode cL_law 323 = .ok (.iaload, 1) := by decide +kernel
theorem dL_law_324 : decode cL_law 324 = .ok (.invokevirtual 119, 3) := by decide +kernel
theorem dL_law_327 : decode cL_law 327 = .ok (.istore 7, 2) := by decide +kernel
theorem dL_law_329 : decode cL_law 329 = .ok (.aload_n 2, 1) := by decide +kernel
theorem dL_law_330 : decode cL_law 330 = .ok (.invokevirtual 113, 3) := by decide +kernel
theorem dL_law_333 : decode cL_law 333 = .ok (.iload 6, 2) := by decide +kernel
theorem dL_law_335 : decode cL_law 335 = .ok (.if_icmp .eq 5, 3) := by decide +kernel
theorem dL_law_338 : decode cL_law 338 = .ok (.iconst 0, 1) := by decide +kernel
theorem dL_law_339 : decode cL_law 339 = .ok (.ireturn, 1) := by decide +kernel
theorem dL_law_340 : decode cL_law 340 = .ok (.iload 6, 2) := by decide +kernel
theorem dL_law_342 : decode cL_law 342 = .ok (.ifCond .ne 15, 3) := by decide +kernel
theorem dL_law_345 : decode cL_law 345 = .ok (.aload_n 3, 1) := by decide +kernel
theorem dL_law_346 : decode cL_law 346 = .ok (.iconst 0, 1) := by decide +kernel
theorem dL_law_347 : decode cL_law 347 = .ok (.laload, 1) := by decide +kernel
theorem dL_law_348 : decode cL_law 348 = .ok (.iload 7, 2) := by decide +kernel
theorem dL_law_350 : decode cL_law 350 = .ok (.i2l, 1) := by decide +kernel
theorem dL_law_351 : decode cL_law 351 = .ok (.lcmp, 1) := by decide +kernel
theorem dL_law_352 : decode cL_law 352 = .ok (.ifCond .eq 5, 3) := by decide +kernel
theorem dL_law_355 : decode cL_law 355 = .ok (.iconst 0, 1) := by decide +kernel
theorem dL_law_356 : decode cL_law 356 = .ok (.ireturn, 1) := by decide +kernel
theorem dL_law_357 : decode cL_law 357 = .ok (.goto 1697, 3) := by decide +kernel
theorem dL_law_360 : decode cL_law 360 = .ok (.aload_n 1, 1) := by decide +kernel
theorem dL_law_361 : decode cL_law 361 = .ok (.invokevirtual 120, 3) := by decide +kernel
theorem dL_law_364 : decode cL_law 364 = .ok (.aload_n 2, 1) := by decide +kernel
theorem dL_law_365 : decode cL_law 365 = .ok (.invokevirtual 123, 3) := by decide +kernel
theorem dL_law_368 : decode cL_law 368 = .ok (.if_icmp .eq 1686, 3) := by decide +kernel
theorem dL_law_371 : decode cL_law 371 = .ok (.iconst 0, 1) := by decide +kernel
theorem dL_law_372 : decode cL_law 372 = .ok (.ireturn, 1) := by decide +kernel
theorem dL_law_373 : decode cL_law 373 = .ok (.aload_n 1, 1) := by decide +kernel
theorem dL_law_374 : decode cL_law 374 = .ok (.invokevirtual 124, 3) := by decide +kernel
theorem dL_law_377 : decode cL_law 377 = .ok (.aload_n 2, 1) := by decide +kernel
theorem dL_law_378 : decode cL_law 378 = .ok (.invokevirtual 127, 3) := by decide +kernel
theorem dL_law_381 : decode cL_law 381 = .ok (.if_icmp .eq 1673, 3) := by decide +kernel
theorem dL_law_384 : decode cL_law 384 = .ok (.iconst 0, 1) := by decide +kernel
theorem dL_law_385 : decode cL_law 385 = .ok (.ireturn, 1) := by decide +kernel
theorem dL_law_386 : decode cL_law 386 = .ok (.aload_n 1, 1) := by decide +kernel
theorem dL_law_387 : decode cL_law 387 = .ok (.aload_n 0, 1) := by decide +kernel
theorem dL_law_388 : decode cL_law 388 = .ok (.iload 5, 2) := by decide +kernel
theorem dL_law_390 : decode cL_law 390 = .ok (.iconst 1, 1) := by decide +kernel
theorem dL_law_391 : decode cL_law 391 = .ok (.iadd, 1) := by decide +kernel
theorem dL_law_392 : decode cL_law 392 = .ok (.iaload, 1) := by decide +kernel
theorem dL_law_393 : decode cL_law 393 = .ok (.aload_n 3, 1) := by decide +kernel
theorem dL_law_394 : decode cL_law 394 = .ok (.invokestatic 128, 3) := by decide +kernel
theorem dL_law_397 : decode cL_law 397 = .ok (.istore 6, 2) := by decide +kernel
theorem dL_law_399 : decode cL_law 399 = .ok (.aload_n 2, 1) := by decide +kernel
theorem dL_law_400 : decode cL_law 400 = .ok (.aload_n 0, 1) := by decide +kernel
theorem dL_law_401 : decode cL_law 401 = .ok (.iload 5, 2) := by decide +kernel
theorem dL_law_403 : decode cL_law 403 = .ok (.iconst 1, 1) := by decide +kernel
theorem dL_law_404 : decode cL_law 404 = .ok (.iadd, 1) := by decide +kernel
theorem dL_law_405 : decode cL_law 405 = .ok (.iaload, 1) := by decide +kernel
theorem dL_law_406 : decode cL_law 406 = .ok (.invokevirtual 130, 3) := by decide +kernel
theorem dL_law_409 : decode cL_law 409 = .ok (.istore 7, 2) := by decide +kernel
theorem dL_law_411 : decode cL_law 411 = .ok (.aload_n 2, 1) := by decide +kernel
theorem dL_law_412 : decode cL_law 412 = .ok (.invokevirtual 113, 3) := by decide +kernel
theorem dL_law_415 : decode cL_law 415 = .ok (.iload 6, 2) := by decide +kernel
theorem dL_law_417 : decode cL_law 417 = .ok (.if_icmp .eq 5, 3) := by decide +kernel
theorem dL_law_420 : decode cL_law 420 = .ok (.iconst 0, 1) := by decide +kernel
theorem dL_law_421 : decode cL_law 421 = .ok (.ireturn, 1) := by decide +kernel
theorem dL_law_422 : decode cL_law 422 = .ok (.iload 6, 2) := by decide +kernel
theorem dL_law_424 : decode cL_law 424 = .ok (.ifCond .ne 15, 3) := by decide +kernel
theorem dL_law_427 : decode cL_law 427 = .ok (.aload_n 3, 1) := by decide +kernel
theorem dL_law_428 : decode cL_law 428 = .ok (.iconst 0, 1) := by decide +kernel
theorem dL_law_429 : decode cL_law 429 = .ok (.laload, 1) := by decide +kernel
theorem dL_law_430 : decode cL_law 430 = .ok (.iload 7, 2) := by decide +kernel
theorem dL_law_432 : decode cL_law 432 = .ok (.i2l, 1) := by decide +kernel
theorem dL_law_433 : decode cL_law 433 = .ok (.lcmp, 1) := by decide +kernel
theorem dL_law_434 : decode cL_law 434 = .ok (.ifCond .eq 5, 3) := by decide +kernel
theorem dL_law_437 : decode cL_law 437 = .ok (.iconst 0, 1) := by decide +kernel
theorem dL_law_438 : decode cL_law 438 = .ok (.ireturn, 1) := by decide +kernel
theorem dL_law_439 : decode cL_law 439 = .ok (.goto 1615, 3) := by decide +kernel
theorem dL_law_442 : decode cL_law 442 = .ok (.aload_n 1, 1) := by decide +kernel
theorem dL_law_443 : decode cL_law 443 = .ok (.aload_n 0, 1) := by decide +kernel
theorem dL_law_444 : decode cL_law 444 = .ok (.iload 5, 2) := by decide +kernel
theorem dL_law_446 : decode cL_law 446 = .ok (.iconst 1, 1) := by decide +kernel
theorem dL_law_447 : decode cL_law 447 = .ok (.iadd, 1) := by decide +kernel
theorem dL_law_448 : decode cL_law 448 = .ok (.iaload, 1) := by decide +kernel
theorem dL_law_449 : decode cL_law 449 = .ok (.aload_n 3, 1) := by decide +kernel
theorem dL_law_450 : decode cL_law 450 = .ok (.invokestatic 131, 3) := by decide +kernel
theorem dL_law_453 : decode cL_law 453 = .ok (.istore 6, 2) := by decide +kernel
theorem dL_law_455 : decode cL_law 455 = .ok (.aload_n 2, 1) := by decide +kernel
theorem dL_law_456 : decode cL_law 456 = .ok (.aload_n 0, 1) := by decide +kernel
theorem dL_law_457 : decode cL_law 457 = .ok (.iload 5, 2) := by decide +kernel
theorem dL_law_459 : decode cL_law 459 = .ok (.iconst 1, 1) := by decide +kernel
theorem dL_law_460 : decode cL_law 460 = .ok (.iadd, 1) := by decide +kernel
theorem dL_law_461 : decode cL_law 461 = .ok (.iaload, 1) := by decide +kernel
theorem dL_law_462 : decode cL_law 462 = .ok (.invokevirtual 133, 3) := by decide +kernel
theorem dL_law_465 : decode cL_law 465 = .ok (.istore 7, 2) := by decide +kernel
theorem dL_law_467 : decode cL_law 467 = .ok (.aload_n 2, 1) := by decide +kernel
theorem dL_law_468 : decode cL_law 468 = .ok (.invokevirtual 113, 3) := by decide +kernel
theorem dL_law_471 : decode cL_law 471 = .ok (.iload 6, 2) := by decide +kernel
theorem dL_law_473 : decode cL_law 473 = .ok (.if_icmp .eq 5, 3) := by decide +kernel
theorem dL_law_476 : decode cL_law 476 = .ok (.iconst 0, 1) := by decide +kernel
theorem dL_law_477 : decode cL_law 477 = .ok (.ireturn, 1) := by decide +kernel
theorem dL_law_478 : decode cL_law 478 = .ok (.iload 6, 2) := by decide +kernel
theorem dL_law_480 : decode cL_law 480 = .ok (.ifCond .ne 15, 3) := by decide +kernel
theorem dL_law_483 : decode cL_law 483 = .ok (.aload_n 3, 1) := by decide +kernel
theorem dL_law_484 : decode cL_law 484 = .ok (.iconst 0, 1) := by decide +kernel
theorem dL_law_485 : decode cL_law 485 = .ok (.laload, 1) := by decide +kernel
theorem dL_law_486 : decode cL_law 486 = .ok (.iload 7, 2) := by decide +kernel
theorem dL_law_488 : decode cL_law 488 = .ok (.i2l, 1) := by decide +kernel
theorem dL_law_489 : decode cL_law 489 = .ok (.lcmp, 1) := by decide +kernel
theorem dL_law_490 : decode cL_law 490 = .ok (.ifCond .eq 5, 3) := by decide +kernel
theorem dL_law_493 : decode cL_law 493 = .ok (.iconst 0, 1) := by decide +kernel
theorem dL_law_494 : decode cL_law 494 = .ok (.ireturn, 1) := by decide +kernel
theorem dL_law_495 : decode cL_law 495 = .ok (.goto 1559, 3) := by decide +kernel
theorem dL_law_498 : decode cL_law 498 = .ok (.aload_n 1, 1) := by decide +kernel
theorem dL_law_499 : decode cL_law 499 = .ok (.aload_n 0, 1) := by decide +kernel
theorem dL_law_500 : decode cL_law 500 = .ok (.iload 5, 2) := by decide +kernel
theorem dL_law_502 : decode cL_law 502 = .ok (.iconst 1, 1) := by decide +kernel
theorem dL_law_503 : decode cL_law 503 = .ok (.iadd, 1) := by decide +kernel
theorem dL_law_504 : decode cL_law 504 = .ok (.iaload, 1) := by decide +kernel
theorem dL_law_505 : decode cL_law 505 = .ok (.aload_n 3, 1) := by decide +kernel
theorem dL_law_506 : decode cL_law 506 = .ok (.invokestatic 134, 3) := by decide +kernel
theorem dL_law_509 : decode cL_law 509 = .ok (.istore 6, 2) := by decide +kernel
theorem dL_law_511 : decode cL_law 511 = .ok (.aload_n 2, 1) := by decide +kernel
theorem dL_law_512 : decode cL_law 512 = .ok (.aload_n 0, 1) := by decide +kernel
theorem dL_law_513 : decode cL_law 513 = .ok (.iload 5, 2) := by decide +kernel
theorem dL_law_515 : decode cL_law 515 = .ok (.iconst 1, 1) := by decide +kernel
theorem dL_law_516 : decode cL_law 516 = .ok (.iadd, 1) := by decide +kernel
theorem dL_law_517 : decode cL_law 517 = .ok (.iaload, 1) := by decide +kernel
theorem dL_law_518 : decode cL_law 518 = .ok (.invokevirtual 136, 3) := by decide +kernel
theorem dL_law_521 : decode cL_law 521 = .ok (.istore 7, 2) := by decide +kernel
theorem dL_law_523 : decode cL_law 523 = .ok (.aload_n 2, 1) := by decide +kernel
theorem dL_law_524 : decode cL_law 524 = .ok (.invokevirtual 113, 3) := by decide +kernel
theorem dL_law_527 : decode cL_law 527 = .ok (.iload 6, 2) := by decide +kernel
theorem dL_law_529 : decode cL_law 529 = .ok (.if_icmp .eq 5, 3) := by decide +kernel
theorem dL_law_532 : decode cL_law 532 = .ok (.iconst 0, 1) := by decide +kernel
theorem dL_law_533 : decode cL_law 533 = .ok (.ireturn, 1) := by decide +kernel
theorem dL_law_534 : decode cL_law 534 = .ok (.iload 6, 2) := by decide +kernel
theorem dL_law_536 : decode cL_law 536 = .ok (.ifCond .ne 22, 3) := by decide +kernel
theorem dL_law_539 : decode cL_law 539 = .ok (.aload_n 3, 1) := by decide +kernel
theorem dL_law_540 : decode cL_law 540 = .ok (.iconst 0, 1) := by decide +kernel
theorem dL_law_541 : decode cL_law 541 = .ok (.laload, 1) := by decide +kernel
theorem dL_law_542 : decode cL_law 542 = .ok (.iload 7, 2) := by decide +kernel
theorem dL_law_544 : decode cL_law 544 = .ok (.ifCond .eq 7, 3) := by decide +kernel
theorem dL_law_547 : decode cL_law 547 = .ok (.lconst 1, 1) := by decide +kernel
theorem dL_law_548 : decode cL_law 548 = .ok (.goto 4, 3) := by decide +kernel
theorem dL_law_551 : decode cL_law 551 = .ok (.lconst 0, 1) := by decide +kernel
theorem dL_law_552 : decode cL_law 552 = .ok (.lcmp, 1) := by decide +kernel
theorem dL_law_553 : decode cL_law 553 = .ok (.ifCond .eq 5, 3) := by decide +kernel
theorem dL_law_556 : decode cL_law 556 = .ok (.iconst 0, 1) := by decide +kernel
theorem dL_law_557 : decode cL_law 557 = .ok (.ireturn, 1) := by decide +kernel
theorem dL_law_558 : decode cL_law 558 = .ok (.goto 1496, 3) := by decide +kernel
theorem dL_law_561 : decode cL_law 561 = .ok (.aload_n 1, 1) := by decide +kernel
theorem dL_law_562 : decode cL_law 562 = .ok (.aload_n 0, 1) := by decide +kernel
theorem dL_law_563 : decode cL_law 563 = .ok (.iload 5, 2) := by decide +kernel
theorem dL_law_565 : decode cL_law 565 = .ok (.iconst 1, 1) := by decide +kernel
theorem dL_law_566 : decode cL_law 566 = .ok (.iadd, 1) := by decide +kernel
theorem dL_law_567 : decode cL_law 567 = .ok (.iaload, 1) := by decide +kernel
theorem dL_law_568 : decode cL_law 568 = .ok (.aload_n 0, 1) := by decide +kernel
theorem dL_law_569 : decode cL_law 569 = .ok (.iload 5, 2) := by decide +kernel
theorem dL_law_571 : decode cL_law 571 = .ok (.iconst 2, 1) := by decide +kernel
theorem dL_law_572 : decode cL_law 572 = .ok (.iadd, 1) := by decide +kernel
theorem dL_law_573 : decode cL_law 573 = .ok (.iaload, 1) := by decide +kernel
theorem dL_law_574 : decode cL_law 574 = .ok (.aload_n 3, 1) := by decide +kernel
theorem dL_law_575 : decode cL_law 575 = .ok (.invokestatic 137, 3) := by decide +kernel
theorem dL_law_578 : decode cL_law 578 = .ok (.istore 6, 2) := by decide +kernel
theorem dL_law_580 : decode cL_law 580 = .ok (.aload_n 2, 1) := by decide +kernel
theorem dL_law_581 : decode cL_law 581 = .ok (.aload_n 0, 1) := by decide +kernel
theorem dL_law_582 : decode cL_law 582 = .ok (.iload 5, 2) := by decide +kernel
theorem dL_law_584 : decode cL_law 584 = .ok (.iconst 1, 1) := by decide +kernel
theorem dL_law_585 : decode cL_law 585 = .ok (.iadd, 1) := by decide +kernel
theorem dL_law_586 : decode cL_law 586 = .ok (.iaload, 1) := by decide +kernel
theorem dL_law_587 : decode cL_law 587 = .ok (.aload_n 0, 1) := by decide +kernel
theorem dL_law_588 : decode cL_law 588 = .ok (.iload 5, 2) := by decide +kernel
theorem dL_law_590 : decode cL_law 590 = .ok (.iconst 2, 1) := by decide +kernel
theorem dL_law_591 : decode cL_law 591 = .ok (.iadd, 1) := by decide +kernel
theorem dL_law_592 : decode cL_law 592 = .ok (.iaload, 1) := by decide +kernel
theorem dL_law_593 : decode cL_law 593 = .ok (.invokevirtual 140, 3) := by decide +kernel
theorem dL_law_596 : decode cL_law 596 = .ok (.istore 7, 2) := by decide +kernel
theorem dL_law_598 : decode cL_law 598 = .ok (.aload_n 2, 1) := by decide +kernel
theorem dL_law_599 : decode cL_law 599 = .ok (.invokevirtual 113, 3) := by decide +kernel
theorem dL_law_602 : decode cL_law 602 = .ok (.iload 6, 2) := by decide +kernel
theorem dL_law_604 : decode cL_law 604 = .ok (.if_icmp .eq 5, 3) := by decide +kernel
theorem dL_law_607 : decode cL_law 607 = .ok (.iconst 0, 1) := by decide +kernel
theorem dL_law_608 : decode cL_law 608 = .ok (.ireturn, 1) := by decide +kernel
theorem dL_law_609 : decode cL_law 609 = .ok (.iload 6, 2) := by decide +kernel
theorem dL_law_611 : decode cL_law 611 = .ok (.ifCond .ne 15, 3) := by decide +kernel
theorem dL_law_614 : decode cL_law 614 = .ok (.aload_n 3, 1) := by decide +kernel
theorem dL_law_615 : decode cL_law 615 = .ok (.iconst 0, 1) := by decide +kernel
theorem dL_law_616 : decode cL_law 616 = .ok (.laload, 1) := by decide +kernel
theorem dL_law_617 : decode cL_law 617 = .ok (.iload 7, 2) := by decide +kernel
theorem dL_law_619 : decode cL_law 619 = .ok (.i2l, 1) := by decide +kernel
theorem dL_law_620 : decode cL_law 620 = .ok (.lcmp, 1) := by decide +kernel
theorem dL_law_621 : decode cL_law 621 = .ok (.ifCond .eq 5, 3) := by decide +kernel
theorem dL_law_624 : decode cL_law 624 = .ok (.iconst 0, 1) := by decide +kernel
theorem dL_law_625 : decode cL_law 625 = .ok (.ireturn, 1) := by decide +kernel
theorem dL_law_626 : decode cL_law 626 = .ok (.goto 1428, 3) := by decide +kernel
theorem dL_law_629 : decode cL_law 629 = .ok (.aload_n 1, 1) := by decide +kernel
theorem dL_law_630 : decode cL_law 630 = .ok (.invokevirtual 141, 3) := by decide +kernel
theorem dL_law_633 : decode cL_law 633 = .ok (.aload_n 2, 1) := by decide +kernel
theorem dL_law_634 : decode cL_law 634 = .ok (.invokevirtual 144, 3) := by decide +kernel
theorem dL_law_637 : decode cL_law 637 = .ok (.if_icmp .eq 1417, 3) := by decide +kernel
theorem dL_law_640 : decode cL_law 640 = .ok (.iconst 0, 1) := by decide +kernel
theorem dL_law_641 : decode cL_law 641 = .ok (.ireturn, 1) := by decide +kernel
theorem dL_law_642 : decode cL_law 642 = .ok (.aload_n 1, 1) := by decide +kernel
theorem dL_law_643 : decode cL_law 643 = .ok (.aload_n 0, 1) := by decide +kernel
theorem dL_law_644 : decode cL_law 644 = .ok (.iload 5, 2) := by decide +kernel
theorem dL_law_646 : decode cL_law 646 = .ok (.iconst 1, 1) := by decide +kernel
theorem dL_law_647 : decode cL_law 647 = .ok (.iadd, 1) := by decide +kernel
theorem dL_law_648 : decode cL_law 648 = .ok (.iaload, 1) := by decide +kernel
theorem dL_law_649 : decode cL_law 649 = .ok (.aload_n 3, 1) := by decide +kernel
theorem dL_law_650 : decode cL_law 650 = .ok (.invokestatic 145, 3) := by decide +kernel
theorem dL_law_653 : decode cL_law 653 = .ok (.istore 6, 2) := by decide +kernel
theorem dL_law_655 : decode cL_law 655 = .ok (.aload_n 2, 1) := by decide +kernel
theorem dL_law_656 : decode cL_law 656 = .ok (.aload_n 0, 1) := by decide +kernel
theorem dL_law_657 : decode cL_law 657 = .ok (.iload 5, 2) := by decide +kernel
theorem dL_law_659 : decode cL_law 659 = .ok (.iconst 1, 1) := by decide +kernel
theorem dL_law_660 : decode cL_law 660 = .ok (.iadd, 1) := by decide +kernel
theorem dL_law_661 : decode cL_law 661 = .ok (.iaload, 1) := by decide +kernel
theorem dL_law_662 : decode cL_law 662 = .ok (.invokevirtual 147, 3) := by decide +kernel
theorem dL_law_665 : decode cL_law 665 = .ok (.istore 7, 2) := by decide +kernel
theorem dL_law_667 : decode cL_law 667 = .ok (.aload_n 2, 1) := by decide +kernel
theorem dL_law_668 : decode cL_law 668 = .ok (.invokevirtual 113, 3) := by decide +kernel
theorem dL_law_671 : decode cL_law 671 = .ok (.iload 6, 2) := by decide +kernel
theorem dL_law_673 : decode cL_law 673 = .ok (.if_icmp .eq 5, 3) := by decide +kernel
theorem dL_law_676 : decode cL_law 676 = .ok (.iconst 0, 1) := by decide +kernel
theorem dL_law_677 : decode cL_law 677 = .ok (.ireturn, 1) := by decide +kernel
theorem dL_law_678 : decode cL_law 678 = .ok (.iload 6, 2) := by decide +kernel
theorem dL_law_680 : decode cL_law 680 = .ok (.ifCond .ne 15, 3) := by decide +kernel
theorem dL_law_683 : decode cL_law 683 = .ok (.aload_n 3, 1) := by decide +kernel
theorem dL_law_684 : decode cL_law 684 = .ok (.iconst 0, 1) := by decide +kernel
theorem dL_law_685 : decode cL_law 685 = .ok (.laload, 1) := by decide +kernel
theorem dL_law_686 : decode cL_law 686 = .ok (.iload 7, 2) := by decide +kernel
theorem dL_law_688 : decode cL_law 688 = .ok (.i2l, 1) := by decide +kernel
theorem dL_law_689 : decode cL_law 689 = .ok (.lcmp, 1) := by decide +kernel
theorem dL_law_690 : decode cL_law 690 = .ok (.ifCond .eq 5, 3) := by decide +kernel
theorem dL_law_693 : decode cL_law 693 = .ok (.iconst 0, 1) := by decide +kernel
theorem dL_law_694 : decode cL_law 694 = .ok (.ireturn, 1) := by decide +kernel
theorem dL_law_695 : decode cL_law 695 = .ok (.goto 1359, 3) := by decide +kernel
theorem dL_law_698 : decode cL_law 698 = .ok (.aload_n 1, 1) := by decide +kernel
theorem dL_law_699 : decode cL_law 699 = .ok (.aload_n 0, 1) := by decide +kernel
theorem dL_law_700 : decode cL_law 700 = .ok (.iload 5, 2) := by decide +kernel
theorem dL_law_702 : decode cL_law 702 = .ok (.iconst 1, 1) := by decide +kernel
theorem dL_law_703 : decode cL_law 703 = .ok (.iadd, 1) := by decide +kernel
theorem dL_law_704 : decode cL_law 704 = .ok (.iaload, 1) := by decide +kernel
theorem dL_law_705 : decode cL_law 705 = .ok (.aload_n 3, 1) := by decide +kernel
theorem dL_law_706 : decode cL_law 706 = .ok (.invokestatic 148, 3) := by decide +kernel
theorem dL_law_709 : decode cL_law 709 = .ok (.istore 6, 2) := by decide +kernel
theorem dL_law_711 : decode cL_law 711 = .ok (.aload_n 2, 1) := by decide +kernel
theorem dL_law_712 : decode cL_law 712 = .ok (.aload_n 0, 1) := by decide +kernel
theorem dL_law_713 : decode cL_law 713 = .ok (.iload 5, 2) := by decide +kernel
theorem dL_law_715 : decode cL_law 715 = .ok (.iconst 1, 1) := by decide +kernel
theorem dL_law_716 : decode cL_law 716 = .ok (.iadd, 1) := by decide +kernel
theorem dL_law_717 : decode cL_law 717 = .ok (.iaload, 1) := by decide +kernel
theorem dL_law_718 : decode cL_law 718 = .ok (.invokevirtual 150, 3) := by decide +kernel
theorem dL_law_721 : decode cL_law 721 = .ok (.istore 7, 2) := by decide +kernel
theorem dL_law_723 : decode cL_law 723 = .ok (.aload_n 2, 1) := by decide +kernel
theorem dL_law_724 : decode cL_law 724 = .ok (.invokevirtual 113, 3) := by decide +kernel
theorem dL_law_727 : decode cL_law 727 = .ok (.iload 6, 2) := by decide +kernel
theorem dL_law_729 : decode cL_law 729 = .ok (.if_icmp .eq 5, 3) := by decide +kernel
theorem dL_law_732 : decode cL_law 732 = .ok (.iconst 0, 1) := by decide +kernel
theorem dL_law_733 : decode cL_law 733 = .ok (.ireturn, 1) := by decide +kernel
theorem dL_law_734 : decode cL_law 734 = .ok (.iload 6, 2) := by decide +kernel
theorem dL_law_736 : decode cL_law 736 = .ok (.ifCond .ne 15, 3) := by decide +kernel
theorem dL_law_739 : decode cL_law 739 = .ok (.aload_n 3, 1) := by decide +kernel
theorem dL_law_740 : decode cL_law 740 = .ok (.iconst 0, 1) := by decide +kernel
theorem dL_law_741 : decode cL_law 741 = .ok (.laload, 1) := by decide +kernel
theorem dL_law_742 : decode cL_law 742 = .ok (.iload 7, 2) := by decide +kernel
theorem dL_law_744 : decode cL_law 744 = .ok (.i2l, 1) := by decide +kernel
theorem dL_law_745 : decode cL_law 745 = .ok (.lcmp, 1) := by decide +kernel
theorem dL_law_746 : decode cL_law 746 = .ok (.ifCond .eq 5, 3) := by decide +kernel
theorem dL_law_749 : decode cL_law 749 = .ok (.iconst 0, 1) := by decide +kernel
theorem dL_law_750 : decode cL_law 750 = .ok (.ireturn, 1) := by decide +kernel
theorem dL_law_751 : decode cL_law 751 = .ok (.goto 1303, 3) := by decide +kernel
theorem dL_law_754 : decode cL_law 754 = .ok (.aload_n 1, 1) := by decide +kernel
theorem dL_law_755 : decode cL_law 755 = .ok (.aload_n 0, 1) := by decide +kernel
theorem dL_law_756 : decode cL_law 756 = .ok (.iload 5, 2) := by decide +kernel
theorem dL_law_758 : decode cL_law 758 = .ok (.iconst 1, 1) := by decide +kernel
theorem dL_law_759 : decode cL_law 759 = .ok (.iadd, 1) := by decide +kernel
theorem dL_law_760 : decode cL_law 760 = .ok (.iaload, 1) := by decide +kernel
theorem dL_law_761 : decode cL_law 761 = .ok (.aload_n 0, 1) := by decide +kernel
theorem dL_law_762 : decode cL_law 762 = .ok (.iload 5, 2) := by decide +kernel
theorem dL_law_764 : decode cL_law 764 = .ok (.iconst 2, 1) := by decide +kernel
theorem dL_law_765 : decode cL_law 765 = .ok (.iadd, 1) := by decide +kernel
theorem dL_law_766 : decode cL_law 766 = .ok (.iaload, 1) := by decide +kernel
theorem dL_law_767 : decode cL_law 767 = .ok (.aload_n 0, 1) := by decide +kernel
theorem dL_law_768 : decode cL_law 768 = .ok (.iload 5, 2) := by decide +kernel
theorem dL_law_770 : decode cL_law 770 = .ok (.iconst 3, 1) := by decide +kernel
theorem dL_law_771 : decode cL_law 771 = .ok (.iadd, 1) := by decide +kernel
theorem dL_law_772 : decode cL_law 772 = .ok (.iaload, 1) := by decide +kernel
theorem dL_law_773 : decode cL_law 773 = .ok (.aload_n 0, 1) := by decide +kernel
theorem dL_law_774 : decode cL_law 774 = .ok (.iload 5, 2) := by decide +kernel
theorem dL_law_776 : decode cL_law 776 = .ok (.iconst 4, 1) := by decide +kernel
theorem dL_law_777 : decode cL_law 777 = .ok (.iadd, 1) := by decide +kernel
theorem dL_law_778 : decode cL_law 778 = .ok (.iaload, 1) := by decide +kernel
theorem dL_law_779 : decode cL_law 779 = .ok (.ifCond .eq 7, 3) := by decide +kernel
theorem dL_law_782 : decode cL_law 782 = .ok (.iconst 1, 1) := by decide +kernel
theorem dL_law_783 : decode cL_law 783 = .ok (.goto 4, 3) := by decide +kernel
theorem dL_law_786 : decode cL_law 786 = .ok (.iconst 0, 1) := by decide +kernel
theorem dL_law_787 : decode cL_law 787 = .ok (.aload_n 3, 1) := by decide +kernel
theorem dL_law_788 : decode cL_law 788 = .ok (.invokestatic 151, 3) := by decide +kernel
theorem dL_law_791 : decode cL_law 791 = .ok (.istore 6, 2) := by decide +kernel
theorem dL_law_793 : decode cL_law 793 = .ok (.aload_n 2, 1) := by decide +kernel
theorem dL_law_794 : decode cL_law 794 = .ok (.aload_n 0, 1) := by decide +kernel
theorem dL_law_795 : decode cL_law 795 = .ok (.iload 5, 2) := by decide +kernel
theorem dL_law_797 : decode cL_law 797 = .ok (.iconst 1, 1) := by decide +kernel
theorem dL_law_798 : decode cL_law 798 = .ok (.iadd, 1) := by decide +kernel
theorem dL_law_799 : decode cL_law 799 = .ok (.iaload, 1) := by decide +kernel
theorem dL_law_800 : decode cL_law 800 = .ok (.aload_n 0, 1) := by decide +kernel
theorem dL_law_801 : decode cL_law 801 = .ok (.iload 5, 2) := by decide +kernel
theorem dL_law_803 : decode cL_law 803 = .ok (.iconst 2, 1) := by decide +kernel
theorem dL_law_804 : decode cL_law 804 = .ok (.iadd, 1) := by decide +kernel
theorem dL_law_805 : decode cL_law 805 = .ok (.iaload, 1) := by decide +kernel
theorem dL_law_806 : decode cL_law 806 = .ok (.aload_n 0, 1) := by decide +kernel
theorem dL_law_807 : decode cL_law 807 = .ok (.iload 5, 2) := by decide +kernel
theorem dL_law_809 : decode cL_law 809 = .ok (.iconst 3, 1) := by decide +kernel
theorem dL_law_810 : decode cL_law 810 = .ok (.iadd, 1) := by decide +kernel
theorem dL_law_811 : decode cL_law 811 = .ok (.iaload, 1) := by decide +kernel
theorem dL_law_812 : decode cL_law 812 = .ok (.aload_n 0, 1) := by decide +kernel
theorem dL_law_813 : decode cL_law 813 = .ok (.iload 5, 2) := by decide +kernel
theorem dL_law_815 : decode cL_law 815 = .ok (.iconst 4, 1) := by decide +kernel
theorem dL_law_816 : decode cL_law 816 = .ok (.iadd, 1) := by decide +kernel
theorem dL_law_817 : decode cL_law 817 = .ok (.iaload, 1) := by decide +kernel
theorem dL_law_818 : decode cL_law 818 = .ok (.ifCond .eq 7, 3) := by decide +kernel
theorem dL_law_821 : decode cL_law 821 = .ok (.iconst 1, 1) := by decide +kernel
theorem dL_law_822 : decode cL_law 822 = .ok (.goto 4, 3) := by decide +kernel
theorem dL_law_825 : decode cL_law 825 = .ok (.iconst 0, 1) := by decide +kernel
theorem dL_law_826 : decode cL_law 826 = .ok (.invokevirtual 154, 3) := by decide +kernel
theorem dL_law_829 : decode cL_law 829 = .ok (.istore 7, 2) := by decide +kernel
theorem dL_law_831 : decode cL_law 831 = .ok (.aload_n 2, 1) := by decide +kernel
theorem dL_law_832 : decode cL_law 832 = .ok (.invokevirtual 113, 3) := by decide +kernel
theorem dL_law_835 : decode cL_law 835 = .ok (.iload 6, 2) := by decide +kernel
theorem dL_law_837 : decode cL_law 837 = .ok (.if_icmp .eq 5, 3) := by decide +kernel
theorem dL_law_840 : decode cL_law 840 = .ok (.iconst 0, 1) := by decide +kernel
theorem dL_law_841 : decode cL_law 841 = .ok (.ireturn, 1) := by decide +kernel
theorem dL_law_842 : decode cL_law 842 = .ok (.iload 6, 2) := by decide +kernel
theorem dL_law_844 : decode cL_law 844 = .ok (.ifCond .ne 15, 3) := by decide +kernel
theorem dL_law_847 : decode cL_law 847 = .ok (.aload_n 3, 1) := by decide +kernel
theorem dL_law_848 : decode cL_law 848 = .ok (.iconst 0, 1) := by decide +kernel
theorem dL_law_849 : decode cL_law 849 = .ok (.laload, 1) := by decide +kernel
theorem dL_law_850 : decode cL_law 850 = .ok (.iload 7, 2) := by decide +kernel
theorem dL_law_852 : decode cL_law 852 = .ok (.i2l, 1) := by decide +kernel
theorem dL_law_853 : decode cL_law 853 = .ok (.lcmp, 1) := by decide +kernel
theorem dL_law_854 : decode cL_law 854 = .ok (.ifCond .eq 5, 3) := by decide +kernel
theorem dL_law_857 : decode cL_law 857 = .ok (.iconst 0, 1) := by decide +kernel
theorem dL_law_858 : decode cL_law 858 = .ok (.ireturn, 1) := by decide +kernel
theorem dL_law_859 : decode cL_law 859 = .ok (.goto 1195, 3) := by decide +kernel
theorem dL_law_862 : decode cL_law 862 = .ok (.aload_n 1, 1) := by decide +kernel
theorem dL_law_863 : decode cL_law 863 = .ok (.aload_n 0, 1) := by decide +kernel
theorem dL_law_864 : decode cL_law 864 = .ok (.iload 5, 2) := by decide +kernel
theorem dL_law_866 : decode cL_law 866 = .ok (.iconst 1, 1) := by decide +kernel
theorem dL_law_867 : decode cL_law 867 = .ok (.iadd, 1) := by decide +kernel
theorem dL_law_868 : decode cL_law 868 = .ok (.iaload, 1) := by decide +kernel
theorem dL_law_869 : decode cL_law 869 = .ok (.aload_n 0, 1) := by decide +kernel
theorem dL_law_870 : decode cL_law 870 = .ok (.iload 5, 2) := by decide +kernel
theorem dL_law_872 : decode cL_law 872 = .ok (.iconst 2, 1) := by decide +kernel
theorem dL_law_873 : decode cL_law 873 = .ok (.iadd, 1) := by decide +kernel
theorem dL_law_874 : decode cL_law 874 = .ok (.iaload, 1) := by decide +kernel
theorem dL_law_875 : decode cL_law 875 = .ok (.aload_n 3, 1) := by decide +kernel
theorem dL_law_876 : decode cL_law 876 = .ok (.invokestatic 155, 3) := by decide +kernel
theorem dL_law_879 : decode cL_law 879 = .ok (.istore 6, 2) := by decide +kernel
theorem dL_law_881 : decode cL_law 881 = .ok (.aload_n 2, 1) := by decide +kernel
theorem dL_law_882 : decode cL_law 882 = .ok (.aload_n 0, 1) := by decide +kernel
theorem dL_law_883 : decode cL_law 883 = .ok (.iload 5, 2) := by decide +kernel
theorem dL_law_885 : decode cL_law 885 = .ok (.iconst 1, 1) := by decide +kernel
theorem dL_law_886 : decode cL_law 886 = .ok (.iadd, 1) := by decide +kernel
theorem dL_law_887 : decode cL_law 887 = .ok (.iaload, 1) := by decide +kernel
theorem dL_law_888 : decode cL_law 888 = .ok (.aload_n 0, 1) := by decide +kernel
theorem dL_law_889 : decode cL_law 889 = .ok (.iload 5, 2) := by decide +kernel
theorem dL_law_891 : decode cL_law 891 = .ok (.iconst 2, 1) := by decide +kernel
theorem dL_law_892 : decode cL_law 892 = .ok (.iadd, 1) := by decide +kernel
theorem dL_law_893 : decode cL_law 893 = .ok (.iaload, 1) := by decide +kernel
theorem dL_law_894 : decode cL_law 894 = .ok (.invokevirtual 157, 3) := by decide +kernel
theorem dL_law_897 : decode cL_law 897 = .ok (.istore 7, 2) := by decide +kernel
theorem dL_law_899 : decode cL_law 899 = .ok (.aload_n 2, 1) := by decide +kernel
theorem dL_law_900 : decode cL_law 900 = .ok (.invokevirtual 113, 3) := by decide +kernel
theorem dL_law_903 : decode cL_law 903 = .ok (.iload 6, 2) := by decide +kernel
theorem dL_law_905 : decode cL_law 905 = .ok (.if_icmp .eq 5, 3) := by decide +kernel
theorem dL_law_908 : decode cL_law 908 = .ok (.iconst 0, 1) := by decide +kernel
theorem dL_law_909 : decode cL_law 909 = .ok (.ireturn, 1) := by decide +kernel
theorem dL_law_910 : decode cL_law 910 = .ok (.iload 6, 2) := by decide +kernel
theorem dL_law_912 : decode cL_law 912 = .ok (.ifCond .ne 22, 3) := by decide +kernel
theorem dL_law_915 : decode cL_law 915 = .ok (.aload_n 3, 1) := by decide +kernel
theorem dL_law_916 : decode cL_law 916 = .ok (.iconst 0, 1) := by decide +kernel
theorem dL_law_917 : decode cL_law 917 = .ok (.laload, 1) := by decide +kernel
theorem dL_law_918 : decode cL_law 918 = .ok (.iload 7, 2) := by decide +kernel
theorem dL_law_920 : decode cL_law 920 = .ok (.ifCond .eq 7, 3) := by decide +kernel
theorem dL_law_923 : decode cL_law 923 = .ok (.lconst 1, 1) := by decide +kernel
theorem dL_law_924 : decode cL_law 924 = .ok (.goto 4, 3) := by decide +kernel
theorem dL_law_927 : decode cL_law 927 = .ok (.lconst 0, 1) := by decide +kernel
theorem dL_law_928 : decode cL_law 928 = .ok (.lcmp, 1) := by decide +kernel
theorem dL_law_929 : decode cL_law 929 = .ok (.ifCond .eq 5, 3) := by decide +kernel
theorem dL_law_932 : decode cL_law 932 = .ok (.iconst 0, 1) := by decide +kernel
theorem dL_law_933 : decode cL_law 933 = .ok (.ireturn, 1) := by decide +kernel
theorem dL_law_934 : decode cL_law 934 = .ok (.goto 1120, 3) := by decide +kernel
theorem dL_law_937 : decode cL_law 937 = .ok (.aload_n 1, 1) := by decide +kernel
theorem dL_law_938 : decode cL_law 938 = .ok (.aload_n 0, 1) := by decide +kernel
theorem dL_law_939 : decode cL_law 939 = .ok (.iload 5, 2) := by decide +kernel
theorem dL_law_941 : decode cL_law 941 = .ok (.iconst 1, 1) := by decide +kernel
theorem dL_law_942 : decode cL_law 942 = .ok (.iadd, 1) := by decide +kernel
theorem dL_law_943 : decode cL_law 943 = .ok (.iaload, 1) := by decide +kernel
theorem dL_law_944 : decode cL_law 944 = .ok (.aload_n 0, 1) := by decide +kernel
theorem dL_law_945 : decode cL_law 945 = .ok (.iload 5, 2) := by decide +kernel
theorem dL_law_947 : decode cL_law 947 = .ok (.iconst 2, 1) := by decide +kernel
theorem dL_law_948 : decode cL_law 948 = .ok (.iadd, 1) := by decide +kernel
theorem dL_law_949 : decode cL_law 949 = .ok (.iaload, 1) := by decide +kernel
theorem dL_law_950 : decode cL_law 950 = .ok (.aload_n 0, 1) := by decide +kernel
theorem dL_law_951 : decode cL_law 951 = .ok (.iload 5, 2) := by decide +kernel
theorem dL_law_953 : decode cL_law 953 = .ok (.iconst 3, 1) := by decide +kernel
theorem dL_law_954 : decode cL_law 954 = .ok (.iadd, 1) := by decide +kernel
theorem dL_law_955 : decode cL_law 955 = .ok (.iaload, 1) := by decide +kernel
theorem dL_law_956 : decode cL_law 956 = .ok (.ifCond .eq 7, 3) := by decide +kernel
theorem dL_law_959 : decode cL_law 959 = .ok (.iconst 1, 1) := by decide +kernel
theorem dL_law_960 : decode cL_law 960 = .ok (.goto 4, 3) := by decide +kernel
theorem dL_law_963 : decode cL_law 963 = .ok (.iconst 0, 1) := by decide +kernel
theorem dL_law_964 : decode cL_law 964 = .ok (.invokestatic 158, 3) := by decide +kernel
theorem dL_law_967 : decode cL_law 967 = .ok (.istore 6, 2) := by decide +kernel
theorem dL_law_969 : decode cL_law 969 = .ok (.aload_n 2, 1) := by decide +kernel
theorem dL_law_970 : decode cL_law 970 = .ok (.aload_n 0, 1) := by decide +kernel
theorem dL_law_971 : decode cL_law 971 = .ok (.iload 5, 2) := by decide +kernel
theorem dL_law_973 : decode cL_law 973 = .ok (.iconst 1, 1) := by decide +kernel
theorem dL_law_974 : decode cL_law 974 = .ok (.iadd, 1) := by decide +kernel
theorem dL_law_975 : decode cL_law 975 = .ok (.iaload, 1) := by decide +kernel
theorem dL_law_976 : decode cL_law 976 = .ok (.aload_n 0, 1) := by decide +kernel
theorem dL_law_977 : decode cL_law 977 = .ok (.iload 5, 2) := by decide +kernel
theorem dL_law_979 : decode cL_law 979 = .ok (.iconst 2, 1) := by decide +kernel
theorem dL_law_980 : decode cL_law 980 = .ok (.iadd, 1) := by decide +kernel
theorem dL_law_981 : decode cL_law 981 = .ok (.iaload, 1) := by decide +kernel
theorem dL_law_982 : decode cL_law 982 = .ok (.aload_n 0, 1) := by decide +kernel
theorem dL_law_983 : decode cL_law 983 = .ok (.iload 5, 2) := by decide +kernel
theorem dL_law_985 : decode cL_law 985 = .ok (.iconst 3, 1) := by decide +kernel
theorem dL_law_986 : decode cL_law 986 = .ok (.iadd, 1) := by decide +kernel
theorem dL_law_987 : decode cL_law 987 = .ok (.iaload, 1) := by decide +kernel
theorem dL_law_988 : decode cL_law 988 = .ok (.ifCond .eq 7, 3) := by decide +kernel
theorem dL_law_991 : decode cL_law 991 = .ok (.iconst 1, 1) := by decide +kernel
theorem dL_law_992 : decode cL_law 992 = .ok (.goto 4, 3) := by decide +kernel
theorem dL_law_995 : decode cL_law 995 = .ok (.iconst 0, 1) := by decide +kernel
theorem dL_law_996 : decode cL_law 996 = .ok (.invokevirtual 161, 3) := by decide +kernel
theorem dL_law_999 : decode cL_law 999 = .ok (.aload_n 2, 1) := by decide +kernel
theorem dL_law_1000 : decode cL_law 1000 = .ok (.invokevirtual 113, 3) := by decide +kernel
theorem dL_law_1003 : decode cL_law 1003 = .ok (.iload 6, 2) := by decide +kernel
theorem dL_law_1005 : decode cL_law 1005 = .ok (.if_icmp .eq 5, 3) := by decide +kernel
theorem dL_law_1008 : decode cL_law 1008 = .ok (.iconst 0, 1) := by decide +kernel
theorem dL_law_1009 : decode cL_law 1009 = .ok (.ireturn, 1) := by decide +kernel
theorem dL_law_1010 : decode cL_law 1010 = .ok (.goto 1044, 3) := by decide +kernel
theorem dL_law_1013 : decode cL_law 1013 = .ok (.aload_n 1, 1) := by decide +kernel
theorem dL_law_1014 : decode cL_law 1014 = .ok (.aload_n 0, 1) := by decide +kernel
theorem dL_law_1015 : decode cL_law 1015 = .ok (.iload 5, 2) := by decide +kernel
theorem dL_law_1017 : decode cL_law 1017 = .ok (.iconst 1, 1) := by decide +kernel
theorem dL_law_1018 : decode cL_law 1018 = .ok (.iadd, 1) := by decide +kernel
theorem dL_law_1019 : decode cL_law 1019 = .ok (.iaload, 1) := by decide +kernel
theorem dL_law_1020 : decode cL_law 1020 = .ok (.aload_n 3, 1) := by decide +kernel
theorem dL_law_1021 : decode cL_law 1021 = .ok (.invokestatic 162, 3) := by decide +kernel
theorem dL_law_1024 : decode cL_law 1024 = .ok (.istore 6, 2) := by decide +kernel
theorem dL_law_1026 : decode cL_law 1026 = .ok (.aload_n 2, 1) := by decide +kernel
theorem dL_law_1027 : decode cL_law 1027 = .ok (.aload_n 0, 1) := by decide +kernel
theorem dL_law_1028 : decode cL_law 1028 = .ok (.iload 5, 2) := by decide +kernel
theorem dL_law_1030 : decode cL_law 1030 = .ok (.iconst 1, 1) := by decide +kernel
theorem dL_law_1031 : decode cL_law 1031 = .ok (.iadd, 1) := by decide +kernel
theorem dL_law_1032 : decode cL_law 1032 = .ok (.iaload, 1) := by decide +kernel
theorem dL_law_1033 : decode cL_law 1033 = .ok (.invokevirtual 164, 3) := by decide +kernel
theorem dL_law_1036 : decode cL_law 1036 = .ok (.istore 7, 2) := by decide +kernel
theorem dL_law_1038 : decode cL_law 1038 = .ok (.aload_n 2, 1) := by decide +kernel
theorem dL_law_1039 : decode cL_law 1039 = .ok (.invokevirtual 113, 3) := by decide +kernel
theorem dL_law_1042 : decode cL_law 1042 = .ok (.iload 6, 2) := by decide +kernel
theorem dL_law_1044 : decode cL_law 1044 = .ok (.if_icmp .eq 5, 3) := by decide +kernel
theorem dL_law_1047 : decode cL_law 1047 = .ok (.iconst 0, 1) := by decide +kernel
theorem dL_law_1048 : decode cL_law 1048 = .ok (.ireturn, 1) := by decide +kernel
theorem dL_law_1049 : decode cL_law 1049 = .ok (.iload 6, 2) := by decide +kernel
theorem dL_law_1051 : decode cL_law 1051 = .ok (.ifCond .ne 15, 3) := by decide +kernel
theorem dL_law_1054 : decode cL_law 1054 = .ok (.aload_n 3, 1) := by decide +kernel
theorem dL_law_1055 : decode cL_law 1055 = .ok (.iconst 0, 1) := by decide +kernel
theorem dL_law_1056 : decode cL_law 1056 = .ok (.laload, 1) := by decide +kernel
theorem dL_law_1057 : decode cL_law 1057 = .ok (.iload 7, 2) := by decide +kernel
theorem dL_law_1059 : decode cL_law 1059 = .ok (.i2l, 1) := by decide +kernel
theorem dL_law_1060 : decode cL_law 1060 = .ok (.lcmp, 1) := by decide +kernel
theorem dL_law_1061 : decode cL_law 1061 = .ok (.ifCond .eq 5, 3) := by decide +kernel
theorem dL_law_1064 : decode cL_law 1064 = .ok (.iconst 0, 1) := by decide +kernel
theorem dL_law_1065 : decode cL_law 1065 = .ok (.ireturn, 1) := by decide +kernel
theorem dL_law_1066 : decode cL_law 1066 = .ok (.goto 988, 3) := by decide +kernel
theorem dL_law_1069 : decode cL_law 1069 = .ok (.aload_n 1, 1) := by decide +kernel
theorem dL_law_1070 : decode cL_law 1070 = .ok (.aload_n 0, 1) := by decide +kernel
theorem dL_law_1071 : decode cL_law 1071 = .ok (.iload 5, 2) := by decide +kernel
theorem dL_law_1073 : decode cL_law 1073 = .ok (.iconst 1, 1) := by decide +kernel
theorem dL_law_1074 : decode cL_law 1074 = .ok (.iadd, 1) := by decide +kernel
theorem dL_law_1075 : decode cL_law 1075 = .ok (.iaload, 1) := by decide +kernel
theorem dL_law_1076 : decode cL_law 1076 = .ok (.aload_n 3, 1) := by decide +kernel
theorem dL_law_1077 : decode cL_law 1077 = .ok (.invokestatic 165, 3) := by decide +kernel
theorem dL_law_1080 : decode cL_law 1080 = .ok (.istore 6, 2) := by decide +kernel
theorem dL_law_1082 : decode cL_law 1082 = .ok (.aload_n 2, 1) := by decide +kernel
theorem dL_law_1083 : decode cL_law 1083 = .ok (.aload_n 0, 1) := by decide +kernel
theorem dL_law_1084 : decode cL_law 1084 = .ok (.iload 5, 2) := by decide +kernel
theorem dL_law_1086 : decode cL_law 1086 = .ok (.iconst 1, 1) := by decide +kernel
theorem dL_law_1087 : decode cL_law 1087 = .ok (.iadd, 1) := by decide +kernel
theorem dL_law_1088 : decode cL_law 1088 = .ok (.iaload, 1) := by decide +kernel
theorem dL_law_1089 : decode cL_law 1089 = .ok (.invokevirtual 167, 3) := by decide +kernel
theorem dL_law_1092 : decode cL_law 1092 = .ok (.istore 7, 2) := by decide +kernel
theorem dL_law_1094 : decode cL_law 1094 = .ok (.aload_n 2, 1) := by decide +kernel
theorem dL_law_1095 : decode cL_law 1095 = .ok (.invokevirtual 113, 3) := by decide +kernel
theorem dL_law_1098 : decode cL_law 1098 = .ok (.iload 6, 2) := by decide +kernel
theorem dL_law_1100 : decode cL_law 1100 = .ok (.if_icmp .eq 5, 3) := by decide +kernel
theorem dL_law_1103 : decode cL_law 1103 = .ok (.iconst 0, 1) := by decide +kernel
theorem dL_law_1104 : decode cL_law 1104 = .ok (.ireturn, 1) := by decide +kernel
theorem dL_law_1105 : decode cL_law 1105 = .ok (.iload 6, 2) := by decide +kernel
theorem dL_law_1107 : decode cL_law 1107 = .ok (.ifCond .ne 15, 3) := by decide +kernel
theorem dL_law_1110 : decode cL_law 1110 = .ok (.aload_n 3, 1) := by decide +kernel
theorem dL_law_1111 : decode cL_law 1111 = .ok (.iconst 0, 1) := by decide +kernel
theorem dL_law_1112 : decode cL_law 1112 = .ok (.laload, 1) := by decide +kernel
theorem dL_law_1113 : decode cL_law 1113 = .ok (.iload 7, 2) := by decide +kernel
theorem dL_law_1115 : decode cL_law 1115 = .ok (.i2l, 1) := by decide +kernel
theorem dL_law_1116 : decode cL_law 1116 = .ok (.lcmp, 1) := by decide +kernel
theorem dL_law_1117 : decode cL_law 1117 = .ok (.ifCond .eq 5, 3) := by decide +kernel
theorem dL_law_1120 : decode cL_law 1120 = .ok (.iconst 0, 1) := by decide +kernel
theorem dL_law_1121 : decode cL_law 1121 = .ok (.ireturn, 1) := by decide +kernel
theorem dL_law_1122 : decode cL_law 1122 = .ok (.goto 932, 3) := by decide +kernel
theorem dL_law_1125 : decode cL_law 1125 = .ok (.aload_n 1, 1) := by decide +kernel
theorem dL_law_1126 : decode cL_law 1126 = .ok (.aload_n 0, 1) := by decide +kernel
theorem dL_law_1127 : decode cL_law 1127 = .ok (.iload 5, 2) := by decide +kernel
theorem dL_law_1129 : decode cL_law 1129 = .ok (.iconst 1, 1) := by decide +kernel
theorem dL_law_1130 : decode cL_law 1130 = .ok (.iadd, 1) := by decide +kernel
theorem dL_law_1131 : decode cL_law 1131 = .ok (.iaload, 1) := by decide +kernel
theorem dL_law_1132 : decode cL_law 1132 = .ok (.aload_n 3, 1) := by decide +kernel
theorem dL_law_1133 : decode cL_law 1133 = .ok (.invokestatic 168, 3) := by decide +kernel
theorem dL_law_1136 : decode cL_law 1136 = .ok (.istore 6, 2) := by decide +kernel
theorem dL_law_1138 : decode cL_law 1138 = .ok (.aload_n 2, 1) := by decide +kernel
theorem dL_law_1139 : decode cL_law 1139 = .ok (.aload_n 0, 1) := by decide +kernel
theorem dL_law_1140 : decode cL_law 1140 = .ok (.iload 5, 2) := by decide +kernel
theorem dL_law_1142 : decode cL_law 1142 = .ok (.iconst 1, 1) := by decide +kernel
theorem dL_law_1143 : decode cL_law 1143 = .ok (.iadd, 1) := by decide +kernel
theorem dL_law_1144 : decode cL_law 1144 = .ok (.iaload, 1) := by decide +kernel
theorem dL_law_1145 : decode cL_law 1145 = .ok (.invokevirtual 170, 3) := by decide +kernel
theorem dL_law_1148 : decode cL_law 1148 = .ok (.istore 7, 2) := by decide +kernel
theorem dL_law_1150 : decode cL_law 1150 = .ok (.aload_n 2, 1) := by decide +kernel
theorem dL_law_1151 : decode cL_law 1151 = .ok (.invokevirtual 113, 3) := by decide +kernel
theorem dL_law_1154 : decode cL_law 1154 = .ok (.iload 6, 2) := by decide +kernel
theorem dL_law_1156 : decode cL_law 1156 = .ok (.if_icmp .eq 5, 3) := by decide +kernel
theorem dL_law_1159 : decode cL_law 1159 = .ok (.iconst 0, 1) := by decide +kernel
theorem dL_law_1160 : decode cL_law 1160 = .ok (.ireturn, 1) := by decide +kernel
theorem dL_law_1161 : decode cL_law 1161 = .ok (.iload 6, 2) := by decide +kernel
theorem dL_law_1163 : decode cL_law 1163 = .ok (.ifCond .ne 15, 3) := by decide +kernel
theorem dL_law_1166 : decode cL_law 1166 = .ok (.aload_n 3, 1) := by decide +kernel
theorem dL_law_1167 : decode cL_law 1167 = .ok (.iconst 0, 1) := by decide +kernel
theorem dL_law_1168 : decode cL_law 1168 = .ok (.laload, 1) := by decide +kernel
theorem dL_law_1169 : decode cL_law 1169 = .ok (.iload 7, 2) := by decide +kernel
theorem dL_law_1171 : decode cL_law 1171 = .ok (.i2l, 1) := by decide +kernel
theorem dL_law_1172 : decode cL_law 1172 = .ok (.lcmp, 1) := by decide +kernel
theorem dL_law_1173 : decode cL_law 1173 = .ok (.ifCond .eq 5, 3) := by decide +kernel
theorem dL_law_1176 : decode cL_law 1176 = .ok (.iconst 0, 1) := by decide +kernel
theorem dL_law_1177 : decode cL_law 1177 = .ok (.ireturn, 1) := by decide +kernel
theorem dL_law_1178 : decode cL_law 1178 = .ok (.goto 876, 3) := by decide +kernel
theorem dL_law_1181 : decode cL_law 1181 = .ok (.aload_n 1, 1) := by decide +kernel
theorem dL_law_1182 : decode cL_law 1182 = .ok (.aload_n 0, 1) := by decide +kernel
theorem dL_law_1183 : decode cL_law 1183 = .ok (.iload 5, 2) := by decide +kernel
theorem dL_law_1185 : decode cL_law 1185 = .ok (.iconst 1, 1) := by decide +kernel
theorem dL_law_1186 : decode cL_law 1186 = .ok (.iadd, 1) := by decide +kernel
theorem dL_law_1187 : decode cL_law 1187 = .ok (.iaload, 1) := by decide +kernel
theorem dL_law_1188 : decode cL_law 1188 = .ok (.aload_n 0, 1) := by decide +kernel
theorem dL_law_1189 : decode cL_law 1189 = .ok (.iload 5, 2) := by decide +kernel
theorem dL_law_1191 : decode cL_law 1191 = .ok (.iconst 2, 1) := by decide +kernel
theorem dL_law_1192 : decode cL_law 1192 = .ok (.iadd, 1) := by decide +kernel
theorem dL_law_1193 : decode cL_law 1193 = .ok (.iaload, 1) := by decide +kernel
theorem dL_law_1194 : decode cL_law 1194 = .ok (.aload_n 3, 1) := by decide +kernel
theorem dL_law_1195 : decode cL_law 1195 = .ok (.invokestatic 171, 3) := by decide +kernel
theorem dL_law_1198 : decode cL_law 1198 = .ok (.istore 6, 2) := by decide +kernel
theorem dL_law_1200 : decode cL_law 1200 = .ok (.aload_n 2, 1) := by decide +kernel
theorem dL_law_1201 : decode cL_law 1201 = .ok (.aload_n 0, 1) := by decide +kernel
theorem dL_law_1202 : decode cL_law 1202 = .ok (.iload 5, 2) := by decide +kernel
theorem dL_law_1204 : decode cL_law 1204 = .ok (.iconst 1, 1) := by decide +kernel
theorem dL_law_1205 : decode cL_law 1205 = .ok (.iadd, 1) := by decide +kernel
theorem dL_law_1206 : decode cL_law 1206 = .ok (.iaload, 1) := by decide +kernel
theorem dL_law_1207 : decode cL_law 1207 = .ok (.aload_n 0, 1) := by decide +kernel
theorem dL_law_1208 : decode cL_law 1208 = .ok (.iload 5, 2) := by decide +kernel
theorem dL_law_1210 : decode cL_law 1210 = .ok (.iconst 2, 1) := by decide +kernel
theorem dL_law_1211 : decode cL_law 1211 = .ok (.iadd, 1) := by decide +kernel
theorem dL_law_1212 : decode cL_law 1212 = .ok (.iaload, 1) := by decide +kernel
theorem dL_law_1213 : decode cL_law 1213 = .ok (.invokevirtual 173, 3) := by decide +kernel
theorem dL_law_1216 : decode cL_law 1216 = .ok (.istore 7, 2) := by decide +kernel
theorem dL_law_1218 : decode cL_law 1218 = .ok (.aload_n 2, 1) := by decide +kernel
theorem dL_law_1219 : decode cL_law 1219 = .ok (.invokevirtual 113, 3) := by decide +kernel
theorem dL_law_1222 : decode cL_law 1222 = .ok (.iload 6, 2) := by decide +kernel
theorem dL_law_1224 : decode cL_law 1224 = .ok (.if_icmp .eq 5, 3) := by decide +kernel
theorem dL_law_1227 : decode cL_law 1227 = .ok (.iconst 0, 1) := by decide +kernel
theorem dL_law_1228 : decode cL_law 1228 = .ok (.ireturn, 1) := by decide +kernel
theorem dL_law_1229 : decode cL_law 1229 = .ok (.iload 6, 2) := by decide +kernel
theorem dL_law_1231 : decode cL_law 1231 = .ok (.ifCond .ne 15, 3) := by decide +kernel
theorem dL_law_1234 : decode cL_law 1234 = .ok (.aload_n 3, 1) := by decide +kernel
theorem dL_law_1235 : decode cL_law 1235 = .ok (.iconst 0, 1) := by decide +kernel
theorem dL_law_1236 : decode cL_law 1236 = .ok (.laload, 1) := by decide +kernel
theorem dL_law_1237 : decode cL_law 1237 = .ok (.iload 7, 2) := by decide +kernel
theorem dL_law_1239 : decode cL_law 1239 = .ok (.i2l, 1) := by decide +kernel
theorem dL_law_1240 : decode cL_law 1240 = .ok (.lcmp, 1) := by decide +kernel
theorem dL_law_1241 : decode cL_law 1241 = .ok (.ifCond .eq 5, 3) := by decide +kernel
theorem dL_law_1244 : decode cL_law 1244 = .ok (.iconst 0, 1) := by decide +kernel
theorem dL_law_1245 : decode cL_law 1245 = .ok (.ireturn, 1) := by decide +kernel
theorem dL_law_1246 : decode cL_law 1246 = .ok (.goto 808, 3) := by decide +kernel
theorem dL_law_1249 : decode cL_law 1249 = .ok (.aload_n 1, 1) := by decide +kernel
theorem dL_law_1250 : decode cL_law 1250 = .ok (.aload_n 0, 1) := by decide +kernel
theorem dL_law_1251 : decode cL_law 1251 = .ok (.iload 5, 2) := by decide +kernel
theorem dL_law_1253 : decode cL_law 1253 = .ok (.iconst 1, 1) := by decide +kernel
theorem dL_law_1254 : decode cL_law 1254 = .ok (.iadd, 1) := by decide +kernel
theorem dL_law_1255 : decode cL_law 1255 = .ok (.iaload, 1) := by decide +kernel
theorem dL_law_1256 : decode cL_law 1256 = .ok (.aload_n 0, 1) := by decide +kernel
theorem dL_law_1257 : decode cL_law 1257 = .ok (.iload 5, 2) := by decide +kernel
theorem dL_law_1259 : decode cL_law 1259 = .ok (.iconst 2, 1) := by decide +kernel
theorem dL_law_1260 : decode cL_law 1260 = .ok (.iadd, 1) := by decide +kernel
theorem dL_law_1261 : decode cL_law 1261 = .ok (.iaload, 1) := by decide +kernel
theorem dL_law_1262 : decode cL_law 1262 = .ok (.aload_n 3, 1) := by decide +kernel
theorem dL_law_1263 : decode cL_law 1263 = .ok (.invokestatic 174, 3) := by decide +kernel
theorem dL_law_1266 : decode cL_law 1266 = .ok (.istore 6, 2) := by decide +kernel
theorem dL_law_1268 : decode cL_law 1268 = .ok (.aload_n 2, 1) := by decide +kernel
theorem dL_law_1269 : decode cL_law 1269 = .ok (.aload_n 0, 1) := by decide +kernel
theorem dL_law_1270 : decode cL_law 1270 = .ok (.iload 5, 2) := by decide +kernel
theorem dL_law_1272 : decode cL_law 1272 = .ok (.iconst 1, 1) := by decide +kernel
theorem dL_law_1273 : decode cL_law 1273 = .ok (.iadd, 1) := by decide +kernel
theorem dL_law_1274 : decode cL_law 1274 = .ok (.iaload, 1) := by decide +kernel
theorem dL_law_1275 : decode cL_law 1275 = .ok (.aload_n 0, 1) := by decide +kernel
theorem dL_law_1276 : decode cL_law 1276 = .ok (.iload 5, 2) := by decide +kernel
theorem dL_law_1278 : decode cL_law 1278 = .ok (.iconst 2, 1) := by decide +kernel
theorem dL_law_1279 : decode cL_law 1279 = .ok (.iadd, 1) := by decide +kernel
theorem dL_law_1280 : decode cL_law 1280 = .ok (.iaload, 1) := by decide +kernel
theorem dL_law_1281 : decode cL_law 1281 = .ok (.invokevirtual 176, 3) := by decide +kernel
theorem dL_law_1284 : decode cL_law 1284 = .ok (.istore 7, 2) := by decide +kernel
theorem dL_law_1286 : decode cL_law 1286 = .ok (.aload_n 2, 1) := by decide +kernel
theorem dL_law_1287 : decode cL_law 1287 = .ok (.invokevirtual 113, 3) := by decide +kernel
theorem dL_law_1290 : decode cL_law 1290 = .ok (.iload 6, 2) := by decide +kernel
theorem dL_law_1292 : decode cL_law 1292 = .ok (.if_icmp .eq 5, 3) := by decide +kernel
theorem dL_law_1295 : decode cL_law 1295 = .ok (.iconst 0, 1) := by decide +kernel
theorem dL_law_1296 : decode cL_law 1296 = .ok (.ireturn, 1) := by decide +kernel
theorem dL_law_1297 : decode cL_law 1297 = .ok (.iload 6, 2) := by decide +kernel
theorem dL_law_1299 : decode cL_law 1299 = .ok (.ifCond .ne 15, 3) := by decide +kernel
theorem dL_law_1302 : decode cL_law 1302 = .ok (.aload_n 3, 1) := by decide +kernel
theorem dL_law_1303 : decode cL_law 1303 = .ok (.iconst 0, 1) := by decide +kernel
theorem dL_law_1304 : decode cL_law 1304 = .ok (.laload, 1) := by decide +kernel
theorem dL_law_1305 : decode cL_law 1305 = .ok (.iload 7, 2) := by decide +kernel
theorem dL_law_1307 : decode cL_law 1307 = .ok (.i2l, 1) := by decide +kernel
theorem dL_law_1308 : decode cL_law 1308 = .ok (.lcmp, 1) := by decide +kernel
theorem dL_law_1309 : decode cL_law 1309 = .ok (.ifCond .eq 5, 3) := by decide +kernel
theorem dL_law_1312 : decode cL_law 1312 = .ok (.iconst 0, 1) := by decide +kernel
theorem dL_law_1313 : decode cL_law 1313 = .ok (.ireturn, 1) := by decide +kernel
theorem dL_law_1314 : decode cL_law 1314 = .ok (.goto 740, 3) := by decide +kernel
theorem dL_law_1317 : decode cL_law 1317 = .ok (.aload_n 1, 1) := by decide +kernel
theorem dL_law_1318 : decode cL_law 1318 = .ok (.aload_n 0, 1) := by decide +kernel
theorem dL_law_1319 : decode cL_law 1319 = .ok (.iload 5, 2) := by decide +kernel
theorem dL_law_1321 : decode cL_law 1321 = .ok (.iconst 1, 1) := by decide +kernel
theorem dL_law_1322 : decode cL_law 1322 = .ok (.iadd, 1) := by decide +kernel
theorem dL_law_1323 : decode cL_law 1323 = .ok (.iaload, 1) := by decide +kernel
theorem dL_law_1324 : decode cL_law 1324 = .ok (.aload_n 3, 1) := by decide +kernel
theorem dL_law_1325 : decode cL_law 1325 = .ok (.invokestatic 177, 3) := by decide +kernel
theorem dL_law_1328 : decode cL_law 1328 = .ok (.istore 6, 2) := by decide +kernel
theorem dL_law_1330 : decode cL_law 1330 = .ok (.aload_n 2, 1) := by decide +kernel
theorem dL_law_1331 : decode cL_law 1331 = .ok (.aload_n 0, 1) := by decide +kernel
theorem dL_law_1332 : decode cL_law 1332 = .ok (.iload 5, 2) := by decide +kernel
theorem dL_law_1334 : decode cL_law 1334 = .ok (.iconst 1, 1) := by decide +kernel
theorem dL_law_1335 : decode cL_law 1335 = .ok (.iadd, 1) := by decide +kernel
theorem dL_law_1336 : decode cL_law 1336 = .ok (.iaload, 1) := by decide +kernel
theorem dL_law_1337 : decode cL_law 1337 = .ok (.invokevirtual 179, 3) := by decide +kernel
theorem dL_law_1340 : decode cL_law 1340 = .ok (.istore 7, 2) := by decide +kernel
theorem dL_law_1342 : decode cL_law 1342 = .ok (.aload_n 2, 1) := by decide +kernel
theorem dL_law_1343 : decode cL_law 1343 = .ok (.invokevirtual 113, 3) := by decide +kernel
theorem dL_law_1346 : decode cL_law 1346 = .ok (.iload 6, 2) := by decide +kernel
theorem dL_law_1348 : decode cL_law 1348 = .ok (.if_icmp .eq 5, 3) := by decide +kernel
theorem dL_law_1351 : decode cL_law 1351 = .ok (.iconst 0, 1) := by decide +kernel
theorem dL_law_1352 : decode cL_law 1352 = .ok (.ireturn, 1) := by decide +kernel
theorem dL_law_1353 : decode cL_law 1353 = .ok (.iload 6, 2) := by decide +kernel
theorem dL_law_1355 : decode cL_law 1355 = .ok (.ifCond .ne 15, 3) := by decide +kernel
theorem dL_law_1358 : decode cL_law 1358 = .ok (.aload_n 3, 1) := by decide +kernel
theorem dL_law_1359 : decode cL_law 1359 = .ok (.iconst 0, 1) := by decide +kernel
theorem dL_law_1360 : decode cL_law 1360 = .ok (.laload, 1) := by decide +kernel
theorem dL_law_1361 : decode cL_law 1361 = .ok (.iload 7, 2) := by decide +kernel
theorem dL_law_1363 : decode cL_law 1363 = .ok (.i2l, 1) := by decide +kernel
theorem dL_law_1364 : decode cL_law 1364 = .ok (.lcmp, 1) := by decide +kernel
theorem dL_law_1365 : decode cL_law 1365 = .ok (.ifCond .eq 5, 3) := by decide +kernel
theorem dL_law_1368 : decode cL_law 1368 = .ok (.iconst 0, 1) := by decide +kernel
theorem dL_law_1369 : decode cL_law 1369 = .ok (.ireturn, 1) := by decide +kernel
theorem dL_law_1370 : decode cL_law 1370 = .ok (.goto 684, 3) := by decide +kernel
theorem dL_law_1373 : decode cL_law 1373 = .ok (.aload_n 1, 1) := by decide +kernel
theorem dL_law_1374 : decode cL_law 1374 = .ok (.aload_n 0, 1) := by decide +kernel
theorem dL_law_1375 : decode cL_law 1375 = .ok (.iload 5, 2) := by decide +kernel
theorem dL_law_1377 : decode cL_law 1377 = .ok (.iconst 1, 1) := by decide +kernel
theorem dL_law_1378 : decode cL_law 1378 = .ok (.iadd, 1) := by decide +kernel
theorem dL_law_1379 : decode cL_law 1379 = .ok (.iaload, 1) := by decide +kernel
theorem dL_law_1380 : decode cL_law 1380 = .ok (.aload_n 0, 1) := by decide +kernel
theorem dL_law_1381 : decode cL_law 1381 = .ok (.iload 5, 2) := by decide +kernel
theorem dL_law_1383 : decode cL_law 1383 = .ok (.iconst 2, 1) := by decide +kernel
theorem dL_law_1384 : decode cL_law 1384 = .ok (.iadd, 1) := by decide +kernel
theorem dL_law_1385 : decode cL_law 1385 = .ok (.iaload, 1) := by decide +kernel
theorem dL_law_1386 : decode cL_law 1386 = .ok (.aload_n 3, 1) := by decide +kernel
theorem dL_law_1387 : decode cL_law 1387 = .ok (.invokestatic 180, 3) := by decide +kernel
theorem dL_law_1390 : decode cL_law 1390 = .ok (.istore 6, 2) := by decide +kernel
theorem dL_law_1392 : decode cL_law 1392 = .ok (.aload_n 2, 1) := by decide +kernel
theorem dL_law_1393 : decode cL_law 1393 = .ok (.aload_n 0, 1) := by decide +kernel
theorem dL_law_1394 : decode cL_law 1394 = .ok (.iload 5, 2) := by decide +kernel
theorem dL_law_1396 : decode cL_law 1396 = .ok (.iconst 1, 1) := by decide +kernel
theorem dL_law_1397 : decode cL_law 1397 = .ok (.iadd, 1) := by decide +kernel
theorem dL_law_1398 : decode cL_law 1398 = .ok (.iaload, 1) := by decide +kernel
theorem dL_law_1399 : decode cL_law 1399 = .ok (.aload_n 0, 1) := by decide +kernel
theorem dL_law_1400 : decode cL_law 1400 = .ok (.iload 5, 2) := by decide +kernel
theorem dL_law_1402 : decode cL_law 1402 = .ok (.iconst 2, 1) := by decide +kernel
theorem dL_law_1403 : decode cL_law 1403 = .ok (.iadd, 1) := by decide +kernel
theorem dL_law_1404 : decode cL_law 1404 = .ok (.iaload, 1) := by decide +kernel
theorem dL_law_1405 : decode cL_law 1405 = .ok (.invokevirtual 182, 3) := by decide +kernel
theorem dL_law_1408 : decode cL_law 1408 = .ok (.istore 7, 2) := by decide +kernel
theorem dL_law_1410 : decode cL_law 1410 = .ok (.aload_n 2, 1) := by decide +kernel
theorem dL_law_1411 : decode cL_law 1411 = .ok (.invokevirtual 113, 3) := by decide +kernel
theorem dL_law_1414 : decode cL_law 1414 = .ok (.iload 6, 2) := by decide +kernel
theorem dL_law_1416 : decode cL_law 1416 = .ok (.if_icmp .eq 5, 3) := by decide +kernel
theorem dL_law_1419 : decode cL_law 1419 = .ok (.iconst 0, 1) := by decide +kernel
theorem dL_law_1420 : decode cL_law 1420 = .ok (.ireturn, 1) := by decide +kernel
theorem dL_law_1421 : decode cL_law 1421 = .ok (.iload 6, 2) := by decide +kernel
theorem dL_law_1423 : decode cL_law 1423 = .ok (.ifCond .ne 15, 3) := by decide +kernel
theorem dL_law_1426 : decode cL_law 1426 = .ok (.aload_n 3, 1) := by decide +kernel
theorem dL_law_1427 : decode cL_law 1427 = .ok (.iconst 0, 1) := by decide +kernel
theorem dL_law_1428 : decode cL_law 1428 = .ok (.laload, 1) := by decide +kernel
theorem dL_law_1429 : decode cL_law 1429 = .ok (.iload 7, 2) := by decide +kernel
theorem dL_law_1431 : decode cL_law 1431 = .ok (.i2l, 1) := by decide +kernel
theorem dL_law_1432 : decode cL_law 1432 = .ok (.lcmp, 1) := by decide +kernel
theorem dL_law_1433 : decode cL_law 1433 = .ok (.ifCond .eq 5, 3) := by decide +kernel
theorem dL_law_1436 : decode cL_law 1436 = .ok (.iconst 0, 1) := by decide +kernel
theorem dL_law_1437 : decode cL_law 1437 = .ok (.ireturn, 1) := by decide +kernel
theorem dL_law_1438 : decode cL_law 1438 = .ok (.goto 616, 3) := by decide +kernel
theorem dL_law_1441 : decode cL_law 1441 = .ok (.aload_n 1, 1) := by decide +kernel
theorem dL_law_1442 : decode cL_law 1442 = .ok (.invokevirtual 183, 3) := by decide +kernel
theorem dL_law_1445 : decode cL_law 1445 = .ok (.aload_n 2, 1) := by decide +kernel
theorem dL_law_1446 : decode cL_law 1446 = .ok (.invokevirtual 186, 3) := by decide +kernel
theorem dL_law_1449 : decode cL_law 1449 = .ok (.if_icmp .eq 605, 3) := by decide +kernel
theorem dL_law_1452 : decode cL_law 1452 = .ok (.iconst 0, 1) := by decide +kernel
theorem dL_law_1453 : decode cL_law 1453 = .ok (.ireturn, 1) := by decide +kernel
theorem dL_law_1454 : decode cL_law 1454 = .ok (.aload_n 1, 1) := by decide +kernel
theorem dL_law_1455 : decode cL_law 1455 = .ok (.invokevirtual 187, 3) := by decide +kernel
theorem dL_law_1458 : decode cL_law 1458 = .ok (.aload_n 2, 1) := by decide +kernel
theorem dL_law_1459 : decode cL_law 1459 = .ok (.invokevirtual 190, 3) := by decide +kernel
theorem dL_law_1462 : decode cL_law 1462 = .ok (.if_icmp .eq 592, 3) := by decide +kernel
theorem dL_law_1465 : decode cL_law 1465 = .ok (.iconst 0, 1) := by decide +kernel
theorem dL_law_1466 : decode cL_law 1466 = .ok (.ireturn, 1) := by decide +kernel
theorem dL_law_1467 : decode cL_law 1467 = .ok (.aload_n 1, 1) := by decide +kernel
theorem dL_law_1468 : decode cL_law 1468 = .ok (.invokevirtual 191, 3) := by decide +kernel
theorem dL_law_1471 : decode cL_law 1471 = .ok (.aload_n 2, 1) := by decide +kernel
theorem dL_law_1472 : decode cL_law 1472 = .ok (.invokevirtual 194, 3) := by decide +kernel
theorem dL_law_1475 : decode cL_law 1475 = .ok (.if_icmp .eq 579, 3) := by decide +kernel
theorem dL_law_1478 : decode cL_law 1478 = .ok (.iconst 0, 1) := by decide +kernel
theorem dL_law_1479 : decode cL_law 1479 = .ok (.ireturn, 1) := by decide +kernel
theorem dL_law_1480 : decode cL_law 1480 = .ok (.aload_n 1, 1) := by decide +kernel
theorem dL_law_1481 : decode cL_law 1481 = .ok (.aload_n 0, 1) := by decide +kernel
theorem dL_law_1482 : decode cL_law 1482 = .ok (.iload 5, 2) := by decide +kernel
theorem dL_law_1484 : decode cL_law 1484 = .ok (.iconst 1, 1) := by decide +kernel
theorem dL_law_1485 : decode cL_law 1485 = .ok (.iadd, 1) := by decide +kernel
theorem dL_law_1486 : decode cL_law 1486 = .ok (.iaload, 1) := by decide +kernel
theorem dL_law_1487 : decode cL_law 1487 = .ok (.i2d, 1) := by decide +kernel
theorem dL_law_1488 : decode cL_law 1488 = .ok (.ldc2_w 195, 3) := by decide +kernel
theorem dL_law_1491 : decode cL_law 1491 = .ok (.dmul, 1) := by decide +kernel
theorem dL_law_1492 : decode cL_law 1492 = .ok (.aload 4, 2) := by decide +kernel
theorem dL_law_1494 : decode cL_law 1494 = .ok (.invokestatic 197, 3) := by decide +kernel
theorem dL_law_1497 : decode cL_law 1497 = .ok (.istore 6, 2) := by decide +kernel
theorem dL_law_1499 : decode cL_law 1499 = .ok (.aload_n 2, 1) := by decide +kernel
theorem dL_law_1500 : decode cL_law 1500 = .ok (.aload_n 0, 1) := by decide +kernel
theorem dL_law_1501 : decode cL_law 1501 = .ok (.iload 5, 2) := by decide +kernel
theorem dL_law_1503 : decode cL_law 1503 = .ok (.iconst 1, 1) := by decide +kernel
theorem dL_law_1504 : decode cL_law 1504 = .ok (.iadd, 1) := by decide +kernel
theorem dL_law_1505 : decode cL_law 1505 = .ok (.iaload, 1) := by decide +kernel
theorem dL_law_1506 : decode cL_law 1506 = .ok (.i2d, 1) := by decide +kernel
theorem dL_law_1507 : decode cL_law 1507 = .ok (.ldc2_w 195, 3) := by decide +kernel
theorem dL_law_1510 : decode cL_law 1510 = .ok (.dmul, 1) := by decide +kernel
theorem dL_law_1511 : decode cL_law 1511 = .ok (.invokevirtual 200, 3) := by decide +kernel
theorem dL_law_1514 : decode cL_law 1514 = .ok (.dstore 7, 2) := by decide +kernel
theorem dL_law_1516 : decode cL_law 1516 = .ok (.aload_n 2, 1) := by decide +kernel
theorem dL_law_1517 : decode cL_law 1517 = .ok (.invokevirtual 113, 3) := by decide +kernel
theorem dL_law_1520 : decode cL_law 1520 = .ok (.iload 6, 2) := by decide +kernel
theorem dL_law_1522 : decode cL_law 1522 = .ok (.if_icmp .eq 5, 3) := by decide +kernel
theorem dL_law_1525 : decode cL_law 1525 = .ok (.iconst 0, 1) := by decide +kernel
theorem dL_law_1526 : decode cL_law 1526 = .ok (.ireturn, 1) := by decide +kernel
theorem dL_law_1527 : decode cL_law 1527 = .ok (.iload 6, 2) := by decide +kernel
theorem dL_law_1529 : decode cL_law 1529 = .ok (.ifCond .ne 35, 3) := by decide +kernel
theorem dL_law_1532 : decode cL_law 1532 = .ok (.aload 4, 2) := by decide +kernel
theorem dL_law_1534 : decode cL_law 1534 = .ok (.iconst 0, 1) := by decide +kernel
theorem dL_law_1535 : decode cL_law 1535 = .ok (.daload, 1) := by decide +kernel
theorem dL_law_1536 : decode cL_law 1536 = .ok (.dload 7, 2) := by decide +kernel
theorem dL_law_1538 : decode cL_law 1538 = .ok (.dcmp .l, 1) := by decide +kernel
theorem dL_law_1539 : decode cL_law 1539 = .ok (.ifCond .eq 25, 3) := by decide +kernel
theorem dL_law_1542 : decode cL_law 1542 = .ok (.aload 4, 2) := by decide +kernel
theorem dL_law_1544 : decode cL_law 1544 = .ok (.iconst 0, 1) := by decide +kernel
theorem dL_law_1545 : decode cL_law 1545 = .ok (.daload, 1) := by decide +kernel
theorem dL_law_1546 : decode cL_law 1546 = .ok (.aload 4, 2) := by decide +kernel
theorem dL_law_1548 : decode cL_law 1548 = .ok (.iconst 0, 1) := by decide +kernel
theorem dL_law_1549 : decode cL_law 1549 = .ok (.daload, 1) := by decide +kernel
theorem dL_law_1550 : decode cL_law 1550 = .ok (.dcmp .l, 1) := by decide +kernel
theorem dL_law_1551 : decode cL_law 1551 = .ok (.ifCond .eq 11, 3) := by decide +kernel
theorem dL_law_1554 : decode cL_law 1554 = .ok (.dload 7, 2) := by decide +kernel
theorem dL_law_1556 : decode cL_law 1556 = .ok (.dload 7, 2) := by decide +kernel
theorem dL_law_1558 : decode cL_law 1558 = .ok (.dcmp .l, 1) := by decide +kernel
theorem dL_law_1559 : decode cL_law 1559 = .ok (.ifCond .ne 5, 3) := by decide +kernel
theorem dL_law_1562 : decode cL_law 1562 = .ok (.iconst 0, 1) := by decide +kernel
theorem dL_law_1563 : decode cL_law 1563 = .ok (.ireturn, 1) := by decide +kernel
theorem dL_law_1564 : decode cL_law 1564 = .ok (.goto 490, 3) := by decide +kernel
theorem dL_law_1567 : decode cL_law 1567 = .ok (.aload_n 1, 1) := by decide +kernel
theorem dL_law_1568 : decode cL_law 1568 = .ok (.invokevirtual 201, 3) := by decide +kernel
theorem dL_law_1571 : decode cL_law 1571 = .ok (.aload_n 2, 1) := by decide +kernel
theorem dL_law_1572 : decode cL_law 1572 = .ok (.invokevirtual 204, 3) := by decide +kernel
theorem dL_law_1575 : decode cL_law 1575 = .ok (.if_icmp .eq 479, 3) := by decide +kernel
theorem dL_law_1578 : decode cL_law 1578 = .ok (.iconst 0, 1) := by decide +kernel
theorem dL_law_1579 : decode cL_law 1579 = .ok (.ireturn, 1) := by decide +kernel
theorem dL_law_1580 : decode cL_law 1580 = .ok (.aload_n 1, 1) := by decide +kernel
theorem dL_law_1581 : decode cL_law 1581 = .ok (.invokevirtual 205, 3) := by decide +kernel
theorem dL_law_1584 : decode cL_law 1584 = .ok (.aload_n 2, 1) := by decide +kernel
theorem dL_law_1585 : decode cL_law 1585 = .ok (.invokevirtual 208, 3) := by decide +kernel
theorem dL_law_1588 : decode cL_law 1588 = .ok (.if_icmp .eq 466, 3) := by decide +kernel
theorem dL_law_1591 : decode cL_law 1591 = .ok (.iconst 0, 1) := by decide +kernel
theorem dL_law_1592 : decode cL_law 1592 = .ok (.ireturn, 1) := by decide +kernel
theorem dL_law_1593 : decode cL_law 1593 = .ok (.aload_n 1, 1) := by decide +kernel
theorem dL_law_1594 : decode cL_law 1594 = .ok (.aload_n 0, 1) := by decide +kernel
theorem dL_law_1595 : decode cL_law 1595 = .ok (.iload 5, 2) := by decide +kernel
theorem dL_law_1597 : decode cL_law 1597 = .ok (.iconst 1, 1) := by decide +kernel
theorem dL_law_1598 : decode cL_law 1598 = .ok (.iadd, 1) := by decide +kernel
theorem dL_law_1599 : decode cL_law 1599 = .ok (.iaload, 1) := by decide +kernel
theorem dL_law_1600 : decode cL_law 1600 = .ok (.aload_n 0, 1) := by decide +kernel
theorem dL_law_1601 : decode cL_law 1601 = .ok (.iload 5, 2) := by decide +kernel
theorem dL_law_1603 : decode cL_law 1603 = .ok (.iconst 2, 1) := by decide +kernel
theorem dL_law_1604 : decode cL_law 1604 = .ok (.iadd, 1) := by decide +kernel
theorem dL_law_1605 : decode cL_law 1605 = .ok (.iaload, 1) := by decide +kernel
theorem dL_law_1606 : decode cL_law 1606 = .ok (.aload_n 3, 1) := by decide +kernel
theorem dL_law_1607 : decode cL_law 1607 = .ok (.invokestatic 209, 3) := by decide +kernel
theorem dL_law_1610 : decode cL_law 1610 = .ok (.istore 6, 2) := by decide +kernel
theorem dL_law_1612 : decode cL_law 1612 = .ok (.aload_n 2, 1) := by decide +kernel
theorem dL_law_1613 : decode cL_law 1613 = .ok (.aload_n 0, 1) := by decide +kernel
theorem dL_law_1614 : decode cL_law 1614 = .ok (.iload 5, 2) := by decide +kernel
theorem dL_law_1616 : decode cL_law 1616 = .ok (.iconst 1, 1) := by decide +kernel
theorem dL_law_1617 : decode cL_law 1617 = .ok (.iadd, 1) := by decide +kernel
theorem dL_law_1618 : decode cL_law 1618 = .ok (.iaload, 1) := by decide +kernel
theorem dL_law_1619 : decode cL_law 1619 = .ok (.aload_n 0, 1) := by decide +kernel
theorem dL_law_1620 : decode cL_law 1620 = .ok (.iload 5, 2) := by decide +kernel
theorem dL_law_1622 : decode cL_law 1622 = .ok (.iconst 2, 1) := by decide +kernel
theorem dL_law_1623 : decode cL_law 1623 = .ok (.iadd, 1) := by decide +kernel
theorem dL_law_1624 : decode cL_law 1624 = .ok (.iaload, 1) := by decide +kernel
theorem dL_law_1625 : decode cL_law 1625 = .ok (.invokevirtual 211, 3) := by decide +kernel
theorem dL_law_1628 : decode cL_law 1628 = .ok (.istore 7, 2) := by decide +kernel
theorem dL_law_1630 : decode cL_law 1630 = .ok (.aload_n 2, 1) := by decide +kernel
theorem dL_law_1631 : decode cL_law 1631 = .ok (.invokevirtual 113, 3) := by decide +kernel
theorem dL_law_1634 : decode cL_law 1634 = .ok (.iload 6, 2) := by decide +kernel
theorem dL_law_1636 : decode cL_law 1636 = .ok (.if_icmp .eq 5, 3) := by decide +kernel
theorem dL_law_1639 : decode cL_law 1639 = .ok (.iconst 0, 1) := by decide +kernel
theorem dL_law_1640 : decode cL_law 1640 = .ok (.ireturn, 1) := by decide +kernel
theorem dL_law_1641 : decode cL_law 1641 = .ok (.iload 6, 2) := by decide +kernel
theorem dL_law_1643 : decode cL_law 1643 = .ok (.ifCond .ne 15, 3) := by decide +kernel
theorem dL_law_1646 : decode cL_law 1646 = .ok (.aload_n 3, 1) := by decide +kernel
theorem dL_law_1647 : decode cL_law 1647 = .ok (.iconst 0, 1) := by decide +kernel
theorem dL_law_1648 : decode cL_law 1648 = .ok (.laload, 1) := by decide +kernel
theorem dL_law_1649 : decode cL_law 1649 = .ok (.iload 7, 2) := by decide +kernel
theorem dL_law_1651 : decode cL_law 1651 = .ok (.i2l, 1) := by decide +kernel
theorem dL_law_1652 : decode cL_law 1652 = .ok (.lcmp, 1) := by decide +kernel
theorem dL_law_1653 : decode cL_law 1653 = .ok (.ifCond .eq 5, 3) := by decide +kernel
theorem dL_law_1656 : decode cL_law 1656 = .ok (.iconst 0, 1) := by decide +kernel
theorem dL_law_1657 : decode cL_law 1657 = .ok (.ireturn, 1) := by decide +kernel
theorem dL_law_1658 : decode cL_law 1658 = .ok (.goto 396, 3) := by decide +kernel
theorem dL_law_1661 : decode cL_law 1661 = .ok (.aload_n 1, 1) := by decide +kernel
theorem dL_law_1662 : decode cL_law 1662 = .ok (.invokevirtual 212, 3) := by decide +kernel
theorem dL_law_1665 : decode cL_law 1665 = .ok (.aload_n 2, 1) := by decide +kernel
theorem dL_law_1666 : decode cL_law 1666 = .ok (.invokevirtual 215, 3) := by decide +kernel
theorem dL_law_1669 : decode cL_law 1669 = .ok (.if_icmp .eq 385, 3) := by decide +kernel
theorem dL_law_1672 : decode cL_law 1672 = .ok (.iconst 0, 1) := by decide +kernel
theorem dL_law_1673 : decode cL_law 1673 = .ok (.ireturn, 1) := by decide +kernel
theorem dL_law_1674 : decode cL_law 1674 = .ok (.aload_n 1, 1) := by decide +kernel
theorem dL_law_1675 : decode cL_law 1675 = .ok (.aload_n 0, 1) := by decide +kernel
theorem dL_law_1676 : decode cL_law 1676 = .ok (.iload 5, 2) := by decide +kernel
theorem dL_law_1678 : decode cL_law 1678 = .ok (.iconst 1, 1) := by decide +kernel
theorem dL_law_1679 : decode cL_law 1679 = .ok (.iadd, 1) := by decide +kernel
theorem dL_law_1680 : decode cL_law 1680 = .ok (.iaload, 1) := by decide +kernel
theorem dL_law_1681 : decode cL_law 1681 = .ok (.aload_n 3, 1) := by decide +kernel
theorem dL_law_1682 : decode cL_law 1682 = .ok (.invokestatic 216, 3) := by decide +kernel
theorem dL_law_1685 : decode cL_law 1685 = .ok (.istore 6, 2) := by decide +kernel
theorem dL_law_1687 : decode cL_law 1687 = .ok (.aload_n 2, 1) := by decide +kernel
theorem dL_law_1688 : decode cL_law 1688 = .ok (.aload_n 0, 1) := by decide +kernel
theorem dL_law_1689 : decode cL_law 1689 = .ok (.iload 5, 2) := by decide +kernel
theorem dL_law_1691 : decode cL_law 1691 = .ok (.iconst 1, 1) := by decide +kernel
theorem dL_law_1692 : decode cL_law 1692 = .ok (.iadd, 1) := by decide +kernel
theorem dL_law_1693 : decode cL_law 1693 = .ok (.iaload, 1) := by decide +kernel
theorem dL_law_1694 : decode cL_law 1694 = .ok (.invokevirtual 218, 3) := by decide +kernel
theorem dL_law_1697 : decode cL_law 1697 = .ok (.istore 7, 2) := by decide +kernel
theorem dL_law_1699 : decode cL_law 1699 = .ok (.aload_n 2, 1) := by decide +kernel
theorem dL_law_1700 : decode cL_law 1700 = .ok (.invokevirtual 113, 3) := by decide +kernel
theorem dL_law_1703 : decode cL_law 1703 = .ok (.iload 6, 2) := by decide +kernel
theorem dL_law_1705 : decode cL_law 1705 = .ok (.if_icmp .eq 5, 3) := by decide +kernel
theorem dL_law_1708 : decode cL_law 1708 = .ok (.iconst 0, 1) := by decide +kernel
theorem dL_law_1709 : decode cL_law 1709 = .ok (.ireturn, 1) := by decide +kernel
theorem dL_law_1710 : decode cL_law 1710 = .ok (.iload 6, 2) := by decide +kernel
theorem dL_law_1712 : decode cL_law 1712 = .ok (.ifCond .ne 15, 3) := by decide +kernel
theorem dL_law_1715 : decode cL_law 1715 = .ok (.aload_n 3, 1) := by decide +kernel
theorem dL_law_1716 : decode cL_law 1716 = .ok (.iconst 0, 1) := by decide +kernel
theorem dL_law_1717 : decode cL_law 1717 = .ok (.laload, 1) := by decide +kernel
theorem dL_law_1718 : decode cL_law 1718 = .ok (.iload 7, 2) := by decide +kernel
theorem dL_law_1720 : decode cL_law 1720 = .ok (.i2l, 1) := by decide +kernel
theorem dL_law_1721 : decode cL_law 1721 = .ok (.lcmp, 1) := by decide +kernel
theorem dL_law_1722 : decode cL_law 1722 = .ok (.ifCond .eq 5, 3) := by decide +kernel
theorem dL_law_1725 : decode cL_law 1725 = .ok (.iconst 0, 1) := by decide +kernel
theorem dL_law_1726 : decode cL_law 1726 = .ok (.ireturn, 1) := by decide +kernel
theorem dL_law_1727 : decode cL_law 1727 = .ok (.goto 327, 3) := by decide +kernel
theorem dL_law_1730 : decode cL_law 1730 = .ok (.aload_n 1, 1) := by decide +kernel
theorem dL_law_1731 : decode cL_law 1731 = .ok (.aload_n 0, 1) := by decide +kernel
theorem dL_law_1732 : decode cL_law 1732 = .ok (.iload 5, 2) := by decide +kernel
theorem dL_law_1734 : decode cL_law 1734 = .ok (.iconst 1, 1) := by decide +kernel
theorem dL_law_1735 : decode cL_law 1735 = .ok (.iadd, 1) := by decide +kernel
theorem dL_law_1736 : decode cL_law 1736 = .ok (.iaload, 1) := by decide +kernel
theorem dL_law_1737 : decode cL_law 1737 = .ok (.aload_n 3, 1) := by decide +kernel
theorem dL_law_1738 : decode cL_law 1738 = .ok (.invokestatic 219, 3) := by decide +kernel
theorem dL_law_1741 : decode cL_law 1741 = .ok (.istore 6, 2) := by decide +kernel
theorem dL_law_1743 : decode cL_law 1743 = .ok (.aload_n 2, 1) := by decide +kernel
theorem dL_law_1744 : decode cL_law 1744 = .ok (.aload_n 0, 1) := by decide +kernel
theorem dL_law_1745 : decode cL_law 1745 = .ok (.iload 5, 2) := by decide +kernel
theorem dL_law_1747 : decode cL_law 1747 = .ok (.iconst 1, 1) := by decide +kernel
theorem dL_law_1748 : decode cL_law 1748 = .ok (.iadd, 1) := by decide +kernel
theorem dL_law_1749 : decode cL_law 1749 = .ok (.iaload, 1) := by decide +kernel
theorem dL_law_1750 : decode cL_law 1750 = .ok (.invokevirtual 221, 3) := by decide +kernel
theorem dL_law_1753 : decode cL_law 1753 = .ok (.istore 7, 2) := by decide +kernel
theorem dL_law_1755 : decode cL_law 1755 = .ok (.aload_n 2, 1) := by decide +kernel
theorem dL_law_1756 : decode cL_law 1756 = .ok (.invokevirtual 113, 3) := by decide +kernel
theorem dL_law_1759 : decode cL_law 1759 = .ok (.iload 6, 2) := by decide +kernel
theorem dL_law_1761 : decode cL_law 1761 = .ok (.if_icmp .eq 5, 3) := by decide +kernel
theorem dL_law_1764 : decode cL_law 1764 = .ok (.iconst 0, 1) := by decide +kernel
theorem dL_law_1765 : decode cL_law 1765 = .ok (.ireturn, 1) := by decide +kernel
theorem dL_law_1766 : decode cL_law 1766 = .ok (.iload 6, 2) := by decide +kernel
theorem dL_law_1768 : decode cL_law 1768 = .ok (.ifCond .ne 15, 3) := by decide +kernel
theorem dL_law_1771 : decode cL_law 1771 = .ok (.aload_n 3, 1) := by decide +kernel
theorem dL_law_1772 : decode cL_law 1772 = .ok (.iconst 0, 1) := by decide +kernel
theorem dL_law_1773 : decode cL_law 1773 = .ok (.laload, 1) := by decide +kernel
theorem dL_law_1774 : decode cL_law 1774 = .ok (.iload 7, 2) := by decide +kernel
theorem dL_law_1776 : decode cL_law 1776 = .ok (.i2l, 1) := by decide +kernel
theorem dL_law_1777 : decode cL_law 1777 = .ok (.lcmp, 1) := by decide +kernel
theorem dL_law_1778 : decode cL_law 1778 = .ok (.ifCond .eq 5, 3) := by decide +kernel
theorem dL_law_1781 : decode cL_law 1781 = .ok (.iconst 0, 1) := by decide +kernel
theorem dL_law_1782 : decode cL_law 1782 = .ok (.ireturn, 1) := by decide +kernel
theorem dL_law_1783 : decode cL_law 1783 = .ok (.goto 271, 3) := by decide +kernel
theorem dL_law_1786 : decode cL_law 1786 = .ok (.aload_n 1, 1) := by decide +kernel
theorem dL_law_1787 : decode cL_law 1787 = .ok (.aload_n 0, 1) := by decide +kernel
theorem dL_law_1788 : decode cL_law 1788 = .ok (.iload 5, 2) := by decide +kernel
theorem dL_law_1790 : decode cL_law 1790 = .ok (.iconst 1, 1) := by decide +kernel
theorem dL_law_1791 : decode cL_law 1791 = .ok (.iadd, 1) := by decide +kernel
theorem dL_law_1792 : decode cL_law 1792 = .ok (.iaload, 1) := by decide +kernel
theorem dL_law_1793 : decode cL_law 1793 = .ok (.i2l, 1) := by decide +kernel
theorem dL_law_1794 : decode cL_law 1794 = .ok (.bipush 32, 2) := by decide +kernel
theorem dL_law_1796 : decode cL_law 1796 = .ok (.lshl, 1) := by decide +kernel
theorem dL_law_1797 : decode cL_law 1797 = .ok (.aload_n 0, 1) := by decide +kernel
theorem dL_law_1798 : decode cL_law 1798 = .ok (.iload 5, 2) := by decide +kernel
theorem dL_law_1800 : decode cL_law 1800 = .ok (.iconst 2, 1) := by decide +kernel
theorem dL_law_1801 : decode cL_law 1801 = .ok (.iadd, 1) := by decide +kernel
theorem dL_law_1802 : decode cL_law 1802 = .ok (.iaload, 1) := by decide +kernel
theorem dL_law_1803 : decode cL_law 1803 = .ok (.i2l, 1) := by decide +kernel
theorem dL_law_1804 : decode cL_law 1804 = .ok (.ldc2_w 222, 3) := by decide +kernel
theorem dL_law_1807 : decode cL_law 1807 = .ok (.land, 1) := by decide +kernel
theorem dL_law_1808 : decode cL_law 1808 = .ok (.lor, 1) := by decide +kernel
theorem dL_law_1809 : decode cL_law 1809 = .ok (.aload_n 3, 1) := by decide +kernel
theorem dL_law_1810 : decode cL_law 1810 = .ok (.invokestatic 224, 3) := by decide +kernel
theorem dL_law_1813 : decode cL_law 1813 = .ok (.istore 6, 2) := by decide +kernel
theorem dL_law_1815 : decode cL_law 1815 = .ok (.aload_n 2, 1) := by decide +kernel
theorem dL_law_1816 : decode cL_law 1816 = .ok (.aload_n 0, 1) := by decide +kernel
theorem dL_law_1817 : decode cL_law 1817 = .ok (.iload 5, 2) := by decide +kernel
theorem dL_law_1819 : decode cL_law 1819 = .ok (.iconst 1, 1) := by decide +kernel
theorem dL_law_1820 : decode cL_law 1820 = .ok (.iadd, 1) := by decide +kernel
theorem dL_law_1821 : decode cL_law 1821 = .ok (.iaload, 1) := by decide +kernel
theorem dL_law_1822 : decode cL_law 1822 = .ok (.i2l, 1) := by decide +kernel
theorem dL_law_1823 : decode cL_law 1823 = .ok (.bipush 32, 2) := by decide +kernel
theorem dL_law_1825 : decode cL_law 1825 = .ok (.lshl, 1) := by decide +kernel
theorem dL_law_1826 : decode cL_law 1826 = .ok (.aload_n 0, 1) := by decide +kernel
theorem dL_law_1827 : decode cL_law 1827 = .ok (.iload 5, 2) := by decide +kernel
theorem dL_law_1829 : decode cL_law 1829 = .ok (.iconst 2, 1) := by decide +kernel
theorem dL_law_1830 : decode cL_law 1830 = .ok (.iadd, 1) := by decide +kernel
theorem dL_law_1831 : decode cL_law 1831 = .ok (.iaload, 1) := by decide +kernel
theorem dL_law_1832 : decode cL_law 1832 = .ok (.i2l, 1) := by decide +kernel
theorem dL_law_1833 : decode cL_law 1833 = .ok (.ldc2_w 222, 3) := by decide +kernel
theorem dL_law_1836 : decode cL_law 1836 = .ok (.land, 1) := by decide +kernel
theorem dL_law_1837 : decode cL_law 1837 = .ok (.lor, 1) := by decide +kernel
theorem dL_law_1838 : decode cL_law 1838 = .ok (.invokevirtual 227, 3) := by decide +kernel
theorem dL_law_1841 : decode cL_law 1841 = .ok (.istore 7, 2) := by decide +kernel
theorem dL_law_1843 : decode cL_law 1843 = .ok (.aload_n 2, 1) := by decide +kernel
theorem dL_law_1844 : decode cL_law 1844 = .ok (.invokevirtual 113, 3) := by decide +kernel
theorem dL_law_1847 : decode cL_law 1847 = .ok (.iload 6, 2) := by decide +kernel
theorem dL_law_1849 : decode cL_law 1849 = .ok (.if_icmp .eq 5, 3) := by decide +kernel
theorem dL_law_1852 : decode cL_law 1852 = .ok (.iconst 0, 1) := by decide +kernel
theorem dL_law_1853 : decode cL_law 1853 = .ok (.ireturn, 1) := by decide +kernel
theorem dL_law_1854 : decode cL_law 1854 = .ok (.iload 6, 2) := by decide +kernel
theorem dL_law_1856 : decode cL_law 1856 = .ok (.ifCond .ne 15, 3) := by decide +kernel
theorem dL_law_1859 : decode cL_law 1859 = .ok (.aload_n 3, 1) := by decide +kernel
theorem dL_law_1860 : decode cL_law 1860 = .ok (.iconst 0, 1) := by decide +kernel
theorem dL_law_1861 : decode cL_law 1861 = .ok (.laload, 1) := by decide +kernel
theorem dL_law_1862 : decode cL_law 1862 = .ok (.iload 7, 2) := by decide +kernel
theorem dL_law_1864 : decode cL_law 1864 = .ok (.i2l, 1) := by decide +kernel
theorem dL_law_1865 : decode cL_law 1865 = .ok (.lcmp, 1) := by decide +kernel
theorem dL_law_1866 : decode cL_law 1866 = .ok (.ifCond .eq 5, 3) := by decide +kernel
theorem dL_law_1869 : decode cL_law 1869 = .ok (.iconst 0, 1) := by decide +kernel
theorem dL_law_1870 : decode cL_law 1870 = .ok (.ireturn, 1) := by decide +kernel
theorem dL_law_1871 : decode cL_law 1871 = .ok (.goto 183, 3) := by decide +kernel
theorem dL_law_1874 : decode cL_law 1874 = .ok (.aload_n 1, 1) := by decide +kernel
theorem dL_law_1875 : decode cL_law 1875 = .ok (.aload_n 0, 1) := by decide +kernel
theorem dL_law_1876 : decode cL_law 1876 = .ok (.iload 5, 2) := by decide +kernel
theorem dL_law_1878 : decode cL_law 1878 = .ok (.iconst 1, 1) := by decide +kernel
theorem dL_law_1879 : decode cL_law 1879 = .ok (.iadd, 1) := by decide +kernel
theorem dL_law_1880 : decode cL_law 1880 = .ok (.iaload, 1) := by decide +kernel
theorem dL_law_1881 : decode cL_law 1881 = .ok (.aload_n 0, 1) := by decide +kernel
theorem dL_law_1882 : decode cL_law 1882 = .ok (.iload 5, 2) := by decide +kernel
theorem dL_law_1884 : decode cL_law 1884 = .ok (.iconst 2, 1) := by decide +kernel
theorem dL_law_1885 : decode cL_law 1885 = .ok (.iadd, 1) := by decide +kernel
theorem dL_law_1886 : decode cL_law 1886 = .ok (.iaload, 1) := by decide +kernel
theorem dL_law_1887 : decode cL_law 1887 = .ok (.aload_n 3, 1) := by decide +kernel
theorem dL_law_1888 : decode cL_law 1888 = .ok (.invokestatic 228, 3) := by decide +kernel
theorem dL_law_1891 : decode cL_law 1891 = .ok (.istore 6, 2) := by decide +kernel
theorem dL_law_1893 : decode cL_law 1893 = .ok (.aload_n 2, 1) := by decide +kernel
theorem dL_law_1894 : decode cL_law 1894 = .ok (.aload_n 0, 1) := by decide +kernel
theorem dL_law_1895 : decode cL_law 1895 = .ok (.iload 5, 2) := by decide +kernel
theorem dL_law_1897 : decode cL_law 1897 = .ok (.iconst 1, 1) := by decide +kernel
theorem dL_law_1898 : decode cL_law 1898 = .ok (.iadd, 1) := by decide +kernel
theorem dL_law_1899 : decode cL_law 1899 = .ok (.iaload, 1) := by decide +kernel
theorem dL_law_1900 : decode cL_law 1900 = .ok (.aload_n 0, 1) := by decide +kernel
theorem dL_law_1901 : decode cL_law 1901 = .ok (.iload 5, 2) := by decide +kernel
theorem dL_law_1903 : decode cL_law 1903 = .ok (.iconst 2, 1) := by decide +kernel
theorem dL_law_1904 : decode cL_law 1904 = .ok (.iadd, 1) := by decide +kernel
theorem dL_law_1905 : decode cL_law 1905 = .ok (.iaload, 1) := by decide +kernel
theorem dL_law_1906 : decode cL_law 1906 = .ok (.invokevirtual 230, 3) := by decide +kernel
theorem dL_law_1909 : decode cL_law 1909 = .ok (.istore 7, 2) := by decide +kernel
theorem dL_law_1911 : decode cL_law 1911 = .ok (.aload_n 2, 1) := by decide +kernel
theorem dL_law_1912 : decode cL_law 1912 = .ok (.invokevirtual 113, 3) := by decide +kernel
theorem dL_law_1915 : decode cL_law 1915 = .ok (.iload 6, 2) := by decide +kernel
theorem dL_law_1917 : decode cL_law 1917 = .ok (.if_icmp .eq 5, 3) := by decide +kernel
theorem dL_law_1920 : decode cL_law 1920 = .ok (.iconst 0, 1) := by decide +kernel
theorem dL_law_1921 : decode cL_law 1921 = .ok (.ireturn, 1) := by decide +kernel
theorem dL_law_1922 : decode cL_law 1922 = .ok (.iload 6, 2) := by decide +kernel
theorem dL_law_1924 : decode cL_law 1924 = .ok (.ifCond .ne 15, 3) := by decide +kernel
theorem dL_law_1927 : decode cL_law 1927 = .ok (.aload_n 3, 1) := by decide +kernel
theorem dL_law_1928 : decode cL_law 1928 = .ok (.iconst 0, 1) := by decide +kernel
theorem dL_law_1929 : decode cL_law 1929 = .ok (.laload, 1) := by decide +kernel
theorem dL_law_1930 : decode cL_law 1930 = .ok (.iload 7, 2) := by decide +kernel
theorem dL_law_1932 : decode cL_law 1932 = .ok (.i2l, 1) := by decide +kernel
theorem dL_law_1933 : decode cL_law 1933 = .ok (.lcmp, 1) := by decide +kernel
theorem dL_law_1934 : decode cL_law 1934 = .ok (.ifCond .eq 5, 3) := by decide +kernel
theorem dL_law_1937 : decode cL_law 1937 = .ok (.iconst 0, 1) := by decide +kernel
theorem dL_law_1938 : decode cL_law 1938 = .ok (.ireturn, 1) := by decide +kernel
theorem dL_law_1939 : decode cL_law 1939 = .ok (.goto 115, 3) := by decide +kernel
theorem dL_law_1942 : decode cL_law 1942 = .ok (.aload_n 1, 1) := by decide +kernel
theorem dL_law_1943 : decode cL_law 1943 = .ok (.aload_n 0, 1) := by decide +kernel
theorem dL_law_1944 : decode cL_law 1944 = .ok (.iload 5, 2) := by decide +kernel
theorem dL_law_1946 : decode cL_law 1946 = .ok (.iconst 1, 1) := by decide +kernel
theorem dL_law_1947 : decode cL_law 1947 = .ok (.iadd, 1) := by decide +kernel
theorem dL_law_1948 : decode cL_law 1948 = .ok (.iaload, 1) := by decide +kernel
theorem dL_law_1949 : decode cL_law 1949 = .ok (.aload_n 0, 1) := by decide +kernel
theorem dL_law_1950 : decode cL_law 1950 = .ok (.iload 5, 2) := by decide +kernel
theorem dL_law_1952 : decode cL_law 1952 = .ok (.iconst 2, 1) := by decide +kernel
theorem dL_law_1953 : decode cL_law 1953 = .ok (.iadd, 1) := by decide +kernel
theorem dL_law_1954 : decode cL_law 1954 = .ok (.iaload, 1) := by decide +kernel
theorem dL_law_1955 : decode cL_law 1955 = .ok (.aload_n 3, 1) := by decide +kernel
theorem dL_law_1956 : decode cL_law 1956 = .ok (.invokestatic 231, 3) := by decide +kernel
theorem dL_law_1959 : decode cL_law 1959 = .ok (.istore 6, 2) := by decide +kernel
theorem dL_law_1961 : decode cL_law 1961 = .ok (.aload_n 2, 1) := by decide +kernel
theorem dL_law_1962 : decode cL_law 1962 = .ok (.aload_n 0, 1) := by decide +kernel
theorem dL_law_1963 : decode cL_law 1963 = .ok (.iload 5, 2) := by decide +kernel
theorem dL_law_1965 : decode cL_law 1965 = .ok (.iconst 1, 1) := by decide +kernel
theorem dL_law_1966 : decode cL_law 1966 = .ok (.iadd, 1) := by decide +kernel
theorem dL_law_1967 : decode cL_law 1967 = .ok (.iaload, 1) := by decide +kernel
theorem dL_law_1968 : decode cL_law 1968 = .ok (.aload_n 0, 1) := by decide +kernel
theorem dL_law_1969 : decode cL_law 1969 = .ok (.iload 5, 2) := by decide +kernel
theorem dL_law_1971 : decode cL_law 1971 = .ok (.iconst 2, 1) := by decide +kernel
theorem dL_law_1972 : decode cL_law 1972 = .ok (.iadd, 1) := by decide +kernel
theorem dL_law_1973 : decode cL_law 1973 = .ok (.iaload, 1) := by decide +kernel
theorem dL_law_1974 : decode cL_law 1974 = .ok (.invokevirtual 233, 3) := by decide +kernel
theorem dL_law_1977 : decode cL_law 1977 = .ok (.istore 7, 2) := by decide +kernel
theorem dL_law_1979 : decode cL_law 1979 = .ok (.aload_n 2, 1) := by decide +kernel
theorem dL_law_1980 : decode cL_law 1980 = .ok (.invokevirtual 113, 3) := by decide +kernel
theorem dL_law_1983 : decode cL_law 1983 = .ok (.iload 6, 2) := by decide +kernel
theorem dL_law_1985 : decode cL_law 1985 = .ok (.if_icmp .eq 5, 3) := by decide +kernel
theorem dL_law_1988 : decode cL_law 1988 = .ok (.iconst 0, 1) := by decide +kernel
theorem dL_law_1989 : decode cL_law 1989 = .ok (.ireturn, 1) := by decide +kernel
theorem dL_law_1990 : decode cL_law 1990 = .ok (.iload 6, 2) := by decide +kernel
theorem dL_law_1992 : decode cL_law 1992 = .ok (.ifCond .ne 15, 3) := by decide +kernel
theorem dL_law_1995 : decode cL_law 1995 = .ok (.aload_n 3, 1) := by decide +kernel
theorem dL_law_1996 : decode cL_law 1996 = .ok (.iconst 0, 1) := by decide +kernel
theorem dL_law_1997 : decode cL_law 1997 = .ok (.laload, 1) := by decide +kernel
theorem dL_law_1998 : decode cL_law 1998 = .ok (.iload 7, 2) := by decide +kernel
theorem dL_law_2000 : decode cL_law 2000 = .ok (.i2l, 1) := by decide +kernel
theorem dL_law_2001 : decode cL_law 2001 = .ok (.lcmp, 1) := by decide +kernel
theorem dL_law_2002 : decode cL_law 2002 = .ok (.ifCond .eq 5, 3) := by decide +kernel
theorem dL_law_2005 : decode cL_law 2005 = .ok (.iconst 0, 1) := by decide +kernel
theorem dL_law_2006 : decode cL_law 2006 = .ok (.ireturn, 1) := by decide +kernel
theorem dL_law_2007 : decode cL_law 2007 = .ok (.goto 47, 3) := by decide +kernel
theorem dL_law_2010 : decode cL_law 2010 = .ok (.aload_n 1, 1) := by decide +kernel
theorem dL_law_2011 : decode cL_law 2011 = .ok (.aload_n 3, 1) := by decide +kernel
theorem dL_law_2012 : decode cL_law 2012 = .ok (.invokestatic 234, 3) := by decide +kernel
theorem dL_law_2015 : decode cL_law 2015 = .ok (.istore 6, 2) := by decide +kernel
theorem dL_law_2017 : decode cL_law 2017 = .ok (.aload_n 2, 1) := by decide +kernel
theorem dL_law_2018 : decode cL_law 2018 = .ok (.invokevirtual 237, 3) := by decide +kernel
theorem dL_law_2021 : decode cL_law 2021 = .ok (.istore 7, 2) := by decide +kernel
theorem dL_law_2023 : decode cL_law 2023 = .ok (.aload_n 2, 1) := by decide +kernel
theorem dL_law_2024 : decode cL_law 2024 = .ok (.invokevirtual 113, 3) := by decide +kernel
theorem dL_law_2027 : decode cL_law 2027 = .ok (.iload 6, 2) := by decide +kernel
theorem dL_law_2029 : decode cL_law 2029 = .ok (.if_icmp .eq 5, 3) := by decide +kernel
theorem dL_law_2032 : decode cL_law 2032 = .ok (.iconst 0, 1) := by decide +kernel
theorem dL_law_2033 : decode cL_law 2033 = .ok (.ireturn, 1) := by decide +kernel
theorem dL_law_2034 : decode cL_law 2034 = .ok (.iload 6, 2) := by decide +kernel
theorem dL_law_2036 : decode cL_law 2036 = .ok (.ifCond .ne 15, 3) := by decide +kernel
theorem dL_law_2039 : decode cL_law 2039 = .ok (.aload_n 3, 1) := by decide +kernel
theorem dL_law_2040 : decode cL_law 2040 = .ok (.iconst 0, 1) := by decide +kernel
theorem dL_law_2041 : decode cL_law 2041 = .ok (.laload, 1) := by decide +kernel
theorem dL_law_2042 : decode cL_law 2042 = .ok (.iload 7, 2) := by decide +kernel
theorem dL_law_2044 : decode cL_law 2044 = .ok (.i2l, 1) := by decide +kernel
theorem dL_law_2045 : decode cL_law 2045 = .ok (.lcmp, 1) := by decide +kernel
theorem dL_law_2046 : decode cL_law 2046 = .ok (.ifCond .eq 5, 3) := by decide +kernel
theorem dL_law_2049 : decode cL_law 2049 = .ok (.iconst 0, 1) := by decide +kernel
theorem dL_law_2050 : decode cL_law 2050 = .ok (.ireturn, 1) := by decide +kernel
theorem dL_law_2051 : decode cL_law 2051 = .ok (.goto 3, 3) := by decide +kernel
theorem dL_law_2054 : decode cL_law 2054 = .ok (.iinc 5 6, 3) := by decide +kernel
theorem dL_law_2057 : decode cL_law 2057 = .ok (.goto (-2029), 3) := by decide +kernel
theorem dL_law_2060 : decode cL_law 2060 = .ok (.iconst 1, 1) := by decide +kernel
theorem dL_law_2061 : decode cL_law 2061 = .ok (.ireturn, 1) := by decide +kernel
